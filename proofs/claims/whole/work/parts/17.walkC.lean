/-! ===== the walks: each method keeps its predicate ===== -/
theorem W_X11_isIn {G : GT} {d : Nat} (hd : 1 ≤ d) {x0 : Int} {x2 : Int} {x4 : Int}   {v : VT} {q : Int → Prop} {Q : Option Vl → List Sh → VT → Prop} (h : P_X11_isIn x0 x2 x4 v q) (hQ : ∀ r, q r → Q (some (vI r)) SH v) : n_T G d 0 0 mX11_isIn 0 [vJ x0, vS 9, vJ x2, vS 9, vJ x4, vS 9] [] SH v Q := by
  unfold P_X11_isIn at h
  refine T_lload_n dX11_isIn_0 rfl ?_
  refine T_lload_n dX11_isIn_1 rfl ?_
  refine U_lc_lt (tgt := 17) dX11_isIn_2 dX11_isIn_3 (by decide) (fun hc => ?_) (fun hc => ?_)
  · replace h := h.1 hc
    refine T_iconst dX11_isIn_17 (by decide) ?_
    exact T_zret dX11_isIn_18 rfl (by decide) (hQ _ h)
  · replace h := h.2 hc
    refine T_lload_n dX11_isIn_6 rfl ?_
    refine T_lload dX11_isIn_7 rfl ?_
    refine U_lc_gt (tgt := 17) dX11_isIn_9 dX11_isIn_10 (by decide) (fun hc => ?_) (fun hc => ?_)
    · replace h := h.1 hc
      refine T_iconst dX11_isIn_17 (by decide) ?_
      exact T_zret dX11_isIn_18 rfl (by decide) (hQ _ h)
    · replace h := h.2 hc
      refine T_iconst dX11_isIn_13 (by decide) ?_
      refine T_goto (tgt := 18) dX11_isIn_14 (by decide) ?_
      exact T_zret dX11_isIn_18 rfl (by decide) (hQ _ h)

theorem W_X11_flag {G : GT} {d : Nat} (hd : 1 ≤ d) {x0 : Int}   {v : VT} {q : Int → Prop} {Q : Option Vl → List Sh → VT → Prop} (h : P_X11_flag x0 v q) (hQ : ∀ r, q r → Q (some (vI r)) SH v) : n_T G d 0 0 mX11_flag 0 [vI x0] [] SH v Q := by
  unfold P_X11_flag at h
  refine T_iload_n dX11_flag_0 rfl ?_
  refine U_if_eq (tgt := 8) dX11_flag_1 (by decide) (fun hc => ?_) (fun hc => ?_)
  · replace h := h.1 hc
    refine T_iconst dX11_flag_8 (by decide) ?_
    exact T_iret dX11_flag_9 rfl (hQ _ h)
  · replace h := h.2 hc
    refine T_iconst dX11_flag_4 (by decide) ?_
    refine T_goto (tgt := 9) dX11_flag_5 (by decide) ?_
    exact T_iret dX11_flag_9 rfl (hQ _ h)

theorem W_X11_isOf {G : GT} {d : Nat} (hd : 1 ≤ d) {x0 : Int} {x1 : Int}   {v : VT} {q : Int → Prop} {Q : Option Vl → List Sh → VT → Prop} (h : P_X11_isOf x0 x1 v q) (hQ : ∀ r, q r → Q (some (vI r)) SH v) : n_T G d 0 0 mX11_isOf 0 [vI x0, vI x1] [] SH v Q := by
  unfold P_X11_isOf at h
  refine T_iload_n dX11_isOf_0 rfl ?_
  refine T_iload_n dX11_isOf_1 rfl ?_
  refine T_ishr dX11_isOf_2 ?_
  refine T_iconst dX11_isOf_3 (by decide) ?_
  refine T_iand dX11_isOf_4 ?_
  refine T_iconst dX11_isOf_5 (by decide) ?_
  refine U_icmp_ne (tgt := 13) dX11_isOf_6 (by decide) (fun hc => ?_) (fun hc => ?_)
  · replace h := h.1 hc
    refine T_iconst dX11_isOf_13 (by decide) ?_
    exact T_zret dX11_isOf_14 rfl (by decide) (hQ _ h)
  · replace h := h.2 hc
    refine T_iconst dX11_isOf_9 (by decide) ?_
    refine T_goto (tgt := 14) dX11_isOf_10 (by decide) ?_
    exact T_zret dX11_isOf_14 rfl (by decide) (hQ _ h)

theorem W_X11_count {G : GT} {d : Nat} (hd : 1 ≤ d) {x0 : Int}   {v : VT} {q : Int → Prop} {Q : Option Vl → List Sh → VT → Prop} (h : P_X11_count x0 v q) (hQ : ∀ r, q r → Q (some (vI r)) SH v) : n_T G d 0 0 mX11_count 0 [vI x0, vS 9, vS 9] [] SH v Q := by
  unfold P_X11_count at h
  refine T_iconst dX11_count_0 (by decide) ?_
  refine T_istore_n dX11_count_1 (by decide) rfl ?_
  refine T_iconst dX11_count_2 (by decide) ?_
  refine T_istore_n dX11_count_3 (by decide) rfl ?_
  refine T_drop (h (fun (i1 : Int) (i2 : Int) => n_T G d 0 0 mX11_count 4 [vI x0, vI i1, vI i2] [] SH v Q) (fun i1 i2 h => ?_)) ⟨Or.inl rfl, Or.inl rfl, Or.inl rfl, trivial⟩
  refine T_iload_n dX11_count_4 rfl ?_
  refine T_bipush dX11_count_5 (by decide) ?_
  refine U_icmp_ge (tgt := 24) dX11_count_7 (by decide) (fun hc => ?_) (fun hc => ?_)
  · replace h := h.1 hc
    refine T_iload_n dX11_count_24 rfl ?_
    exact T_iret dX11_count_25 rfl (hQ _ h)
  · replace h := h.2 hc
    refine T_iload_n dX11_count_10 rfl ?_
    refine T_iload_n dX11_count_11 rfl ?_
    refine T_iload_n dX11_count_12 rfl ?_
    refine T_ishr dX11_count_13 ?_
    refine T_iconst dX11_count_14 (by decide) ?_
    refine T_iand dX11_count_15 ?_
    refine U_iadd dX11_count_16 h.1 ?_
    replace h := h.2
    refine U_istore_n dX11_count_17 (by decide) rfl (fun l1 el1 => ?_)
    replace h := h l1 el1
    refine U_iinc dX11_count_18 rfl (by decide) rfl h.1 ?_
    replace h := h.2
    refine T_goto (tgt := 4) dX11_count_21 (by decide) ?_
    exact T_drop h ⟨Or.inl rfl, Or.inl rfl, Or.inl rfl, trivial⟩

theorem W_X11_refuses {G : GT} {d : Nat} (hd : 1 ≤ d) {x1 : Int}   {v : VT} {q : Int → VT → Prop} {Q : Option Vl → List Sh → VT → Prop} (h : P_X11_refuses x1 v q) (hQ : ∀ r w, q r w → Q (some (vI r)) SH w) : n_T G d 0 0 mX11_refuses 0 [vR 218, vI x1] [] SH v Q := by
  unfold P_X11_refuses at h
  refine T_aload_n dX11_refuses_0 rfl ?_
  refine T_getR (r := 220) dX11_refuses_1 fX11_17 rfl SH_218 rfl ?_
  refine T_iload_n dX11_refuses_4 rfl ?_
  refine T_dup2 dX11_refuses_5 rfl rfl ?_
  refine T_iald dX11_refuses_6 SH_220 h.1 ?_
  replace h := h.2
  refine T_iconst dX11_refuses_7 (by decide) ?_
  refine U_iadd dX11_refuses_8 h.1 ?_
  replace h := h.2
  refine U_iast dX11_refuses_9 SH_220 h.1 (fun v9 ev9 => ?_)
  replace h := h.2 v9 ev9
  refine T_iconst dX11_refuses_10 (by decide) ?_
  exact T_iret dX11_refuses_11 rfl (hQ _ _ h)

theorem W_X11_isRefused {G : GT} {d : Nat} (hd : 1 ≤ d) {x1 : Int}   {v : VT} {q : Int → VT → Prop} {Q : Option Vl → List Sh → VT → Prop} (h : P_X11_isRefused x1 v q) (hQ : ∀ r w, q r w → Q (some (vI r)) SH w) : n_T G d 0 0 mX11_isRefused 0 [vR 218, vI x1] [] SH v Q := by
  unfold P_X11_isRefused at h
  refine T_aload_n dX11_isRefused_0 rfl ?_
  refine T_getR (r := 220) dX11_isRefused_1 fX11_17 rfl SH_218 rfl ?_
  refine T_iload_n dX11_isRefused_4 rfl ?_
  refine T_dup2 dX11_isRefused_5 rfl rfl ?_
  refine T_iald dX11_isRefused_6 SH_220 h.1 ?_
  replace h := h.2
  refine T_iconst dX11_isRefused_7 (by decide) ?_
  refine U_iadd dX11_isRefused_8 h.1 ?_
  replace h := h.2
  refine U_iast dX11_isRefused_9 SH_220 h.1 (fun v9 ev9 => ?_)
  replace h := h.2 v9 ev9
  refine T_iconst dX11_isRefused_10 (by decide) ?_
  exact T_zret dX11_isRefused_11 rfl (by decide) (hQ _ _ h)

theorem W_X11_feed {G : GT} {d : Nat} (hd : 2 ≤ d) {x1 : Int} {x2 : Int} {x3 : Int} {x4 : Int} {x5 : Int}   {v : VT} {q : Int → VT → Prop} {Q : Option Vl → List Sh → VT → Prop} (h : P_X11_feed x1 x2 x3 x4 x5 v q) (hQ : ∀ r w, q r w → Q (some (vI r)) SH w) : n_T G d 0 0 mX11_feed 0 [vR 218, vI x1, vI x2, vI x3, vI x4, vI x5, vS 9, vS 9] [] SH v Q := by
  unfold P_X11_feed at h
  refine T_aload_n dX11_feed_0 rfl ?_
  refine T_getI dX11_feed_1 fX11_96 rfl SH_218 ?_
  refine T_bipush dX11_feed_4 (by decide) ?_
  refine U_iadd dX11_feed_6 h.1 ?_
  replace h := h.2
  refine T_sipush dX11_feed_7 (by decide) ?_
  refine U_icmp_le (tgt := 19) dX11_feed_10 (by decide) (fun hc => ?_) (fun hc => ?_)
  · replace h := h.1 hc
    refine T_iconst dX11_feed_19 (by decide) ?_
    refine T_istore dX11_feed_20 (by decide) rfl ?_
    refine T_drop (h (fun (i6 : Int) (v22 : VT) => n_T G d 0 0 mX11_feed 22 [vR 218, vI x1, vI x2, vI x3, vI x4, vI x5, vI i6, vS 9] [] SH v22 Q) (fun i6 v22 h => ?_)) ⟨Or.inl rfl, Or.inl rfl, Or.inl rfl, Or.inl rfl, Or.inl rfl, Or.inl rfl, Or.inl rfl, Or.inr rfl, trivial⟩
    refine T_iload dX11_feed_22 rfl ?_
    refine T_bipush dX11_feed_24 (by decide) ?_
    refine U_icmp_ge (tgt := 118) dX11_feed_26 (by decide) (fun hc => ?_) (fun hc => ?_)
    · replace h := h.1 hc
      refine T_aload_n dX11_feed_118 rfl ?_
      refine T_getI dX11_feed_119 fX11_96 rfl SH_218 ?_
      exact T_iret dX11_feed_122 rfl (hQ _ _ h)
    · replace h := h.2 hc
      refine T_iload dX11_feed_29 rfl ?_
      refine T_iconst dX11_feed_31 (by decide) ?_
      refine n_cut (h (fun (s0 : Int) => n_T G d 0 0 mX11_feed 75 [vR 218, vI x1, vI x2, vI x3, vI x4, vI x5, vI i6, vS 9] [vI s0] SH v22 Q)) ?_ ?_
      · intro s0 h
        refine T_istore dX11_feed_75 (by decide) rfl ?_
        refine T_aload_n dX11_feed_77 rfl ?_
        refine T_getR (r := 219) dX11_feed_78 fX11_7 rfl SH_218 rfl ?_
        refine T_aload_n dX11_feed_81 rfl ?_
        refine T_getI dX11_feed_82 fX11_96 rfl SH_218 ?_
        refine T_iload dX11_feed_85 rfl ?_
        refine T_bipush dX11_feed_87 (by decide) ?_
        refine T_iconst dX11_feed_89 (by decide) ?_
        refine T_iload dX11_feed_90 rfl ?_
        refine T_iconst dX11_feed_92 (by decide) ?_
        refine T_irem dX11_feed_93 (by decide) ?_
        refine U_isub dX11_feed_94 h.1 ?_
        replace h := h.2
        refine U_imul dX11_feed_95 h.1 ?_
        replace h := h.2
        refine T_ishr dX11_feed_96 ?_
        refine T_sipush dX11_feed_97 (by decide) ?_
        refine T_iand dX11_feed_100 ?_
        refine U_iast dX11_feed_101 SH_219 h.1 (fun v101 ev101 => ?_)
        replace h := h.2 v101 ev101
        refine T_aload_n dX11_feed_102 rfl ?_
        refine T_dup dX11_feed_103 rfl ?_
        refine T_getI dX11_feed_104 fX11_96 rfl SH_218 ?_
        refine T_iconst dX11_feed_107 (by decide) ?_
        refine U_iadd dX11_feed_108 h.1 ?_
        replace h := h.2
        refine U_putI dX11_feed_109 fX11_96 rfl rfl SH_218 (fun v109 ev109 => ?_)
        replace h := h v109 ev109
        refine U_iinc dX11_feed_112 rfl (by decide) rfl h.1 ?_
        replace h := h.2
        refine T_goto (tgt := 22) dX11_feed_115 (by decide) ?_
        exact T_drop h ⟨Or.inl rfl, Or.inl rfl, Or.inl rfl, Or.inl rfl, Or.inl rfl, Or.inl rfl, Or.inl rfl, Or.inr rfl, trivial⟩
      · intro h
        refine U_icmp_ge (tgt := 39) dX11_feed_32 (by decide) (fun hc => ?_) (fun hc => ?_)
        · replace h := h.1 hc
          refine T_iload dX11_feed_39 rfl ?_
          refine T_bipush dX11_feed_41 (by decide) ?_
          refine U_icmp_ge (tgt := 50) dX11_feed_43 (by decide) (fun hc => ?_) (fun hc => ?_)
          · replace h := h.1 hc
            refine T_iload dX11_feed_50 rfl ?_
            refine T_bipush dX11_feed_52 (by decide) ?_
            refine U_icmp_ge (tgt := 61) dX11_feed_54 (by decide) (fun hc => ?_) (fun hc => ?_)
            · replace h := h.1 hc
              refine T_iload dX11_feed_61 rfl ?_
              refine T_bipush dX11_feed_63 (by decide) ?_
              refine U_icmp_ge (tgt := 73) dX11_feed_65 (by decide) (fun hc => ?_) (fun hc => ?_)
              · replace h := h.1 hc
                refine T_iload dX11_feed_73 rfl ?_
                exact T_drop h ⟨Or.inl rfl, Or.inl rfl, Or.inl rfl, Or.inl rfl, Or.inl rfl, Or.inl rfl, Or.inl rfl, Or.inr rfl, trivial⟩
              · replace h := h.2 hc
                refine T_iload dX11_feed_68 rfl ?_
                refine T_goto (tgt := 75) dX11_feed_70 (by decide) ?_
                exact T_drop h ⟨Or.inl rfl, Or.inl rfl, Or.inl rfl, Or.inl rfl, Or.inl rfl, Or.inl rfl, Or.inl rfl, Or.inr rfl, trivial⟩
            · replace h := h.2 hc
              refine T_iload_n dX11_feed_57 rfl ?_
              refine T_goto (tgt := 75) dX11_feed_58 (by decide) ?_
              exact T_drop h ⟨Or.inl rfl, Or.inl rfl, Or.inl rfl, Or.inl rfl, Or.inl rfl, Or.inl rfl, Or.inl rfl, Or.inr rfl, trivial⟩
          · replace h := h.2 hc
            refine T_iload_n dX11_feed_46 rfl ?_
            refine T_goto (tgt := 75) dX11_feed_47 (by decide) ?_
            exact T_drop h ⟨Or.inl rfl, Or.inl rfl, Or.inl rfl, Or.inl rfl, Or.inl rfl, Or.inl rfl, Or.inl rfl, Or.inr rfl, trivial⟩
        · replace h := h.2 hc
          refine T_iload_n dX11_feed_35 rfl ?_
          refine T_goto (tgt := 75) dX11_feed_36 (by decide) ?_
          exact T_drop h ⟨Or.inl rfl, Or.inl rfl, Or.inl rfl, Or.inl rfl, Or.inl rfl, Or.inl rfl, Or.inl rfl, Or.inr rfl, trivial⟩
  · replace h := h.2 hc
    refine T_aload_n dX11_feed_13 rfl ?_
    refine T_iconst dX11_feed_14 (by decide) ?_
    refine U_callV (as := [vI 0]) (st := []) dX11_feed_15 kX11_refuses lX11_99 SH_218 rfl rfl rfl rfl (Nat.le_of_ble_eq_true rfl) (Nat.le_of_ble_eq_true rfl) (by omega) ?_
    refine W_X11_refuses (by omega)  h (fun r15 v15 h => ?_)
    show n_T G d 0 0 mX11_feed 18 [vR 218, vI x1, vI x2, vI x3, vI x4, vI x5, vS 9, vS 9] [vI r15] SH v15 Q
    exact T_iret dX11_feed_18 rfl (hQ _ _ h)

theorem W_X11_end {G : GT} {d : Nat} (hd : 2 ≤ d) {x1 : Int}   {v : VT} {q : Int → VT → Prop} {Q : Option Vl → List Sh → VT → Prop} (h : P_X11_end x1 v q) (hQ : ∀ r w, q r w → Q (some (vI r)) SH w) : n_T G d 0 0 mX11_end 0 [vR 218, vI x1] [] SH v Q := by
  unfold P_X11_end at h
  refine T_iload_n dX11_end_0 rfl ?_
  refine U_if_lt (tgt := 12) dX11_end_1 (by decide) (fun hc => ?_) (fun hc => ?_)
  · replace h := h.1 hc
    refine T_aload_n dX11_end_12 rfl ?_
    refine T_iconst dX11_end_13 (by decide) ?_
    refine U_callV (as := [vI 0]) (st := []) dX11_end_14 kX11_isRefused lX11_103 SH_218 rfl rfl rfl rfl (Nat.le_of_ble_eq_true rfl) (Nat.le_of_ble_eq_true rfl) (by omega) ?_
    refine W_X11_isRefused (by omega)  h (fun r14 v14 h => ?_)
    show n_T G d 0 0 mX11_end 17 [vR 218, vI x1] [vI r14] SH v14 Q
    exact T_zret dX11_end_17 rfl h.1 (hQ _ _ h.2)
  · replace h := h.2 hc
    refine T_iload_n dX11_end_4 rfl ?_
    refine T_aload_n dX11_end_5 rfl ?_
    refine T_getI dX11_end_6 fX11_96 rfl SH_218 ?_
    refine U_icmp_le (tgt := 18) dX11_end_9 (by decide) (fun hc => ?_) (fun hc => ?_)
    · replace h := h.1 hc
      refine T_aload_n dX11_end_18 rfl ?_
      refine T_iload_n dX11_end_19 rfl ?_
      refine U_putI dX11_end_20 fX11_96 rfl rfl SH_218 (fun v20 ev20 => ?_)
      replace h := h v20 ev20
      refine T_iconst dX11_end_23 (by decide) ?_
      exact T_zret dX11_end_24 rfl (by decide) (hQ _ _ h)
    · replace h := h.2 hc
      refine T_aload_n dX11_end_12 rfl ?_
      refine T_iconst dX11_end_13 (by decide) ?_
      refine U_callV (as := [vI 0]) (st := []) dX11_end_14 kX11_isRefused lX11_103 SH_218 rfl rfl rfl rfl (Nat.le_of_ble_eq_true rfl) (Nat.le_of_ble_eq_true rfl) (by omega) ?_
      refine W_X11_isRefused (by omega)  h (fun r14_1 v14_1 h => ?_)
      show n_T G d 0 0 mX11_end 17 [vR 218, vI x1] [vI r14_1] SH v14_1 Q
      exact T_zret dX11_end_17 rfl h.1 (hQ _ _ h.2)

theorem W_X11_status {G : GT} {d : Nat} (hd : 2 ≤ d) {x1 : Int}   {v : VT} {q : Int → Prop} {Q : Option Vl → List Sh → VT → Prop} (h : P_X11_status x1 v q) (hQ : ∀ r, q r → Q (some (vI r)) SH v) : n_T G d 0 0 mX11_status 0 [vR 218, vI x1] [] SH v Q := by
  unfold P_X11_status at h
  refine T_iload_n dX11_status_0 rfl ?_
  refine T_i2l dX11_status_1 ?_
  refine T_lconst dX11_status_2 ?_
  refine T_ldc2 (n := 5) dX11_status_3 cX11_107 (by unfold r64; omega) ?_
  refine U_callS (as := [vJ x1, vJ 0, vJ 5]) (st := []) dX11_status_6 kX11_isIn lX11_109 rfl rfl (Nat.le_of_ble_eq_true rfl) (Nat.le_of_ble_eq_true rfl) (by omega) ?_
  refine W_X11_isIn (by omega)  h (fun r6 h => ?_)
  show n_T G d 0 0 mX11_status 9 [vR 218, vI x1] [vI r6] SH v Q
  refine U_if_eq (tgt := 21) dX11_status_9 (by decide) (fun hc => ?_) (fun hc => ?_)
  · replace h := h.1 hc
    refine T_iconst dX11_status_21 (by decide) ?_
    exact T_iret dX11_status_22 rfl (hQ _ h)
  · replace h := h.2 hc
    refine T_aload_n dX11_status_12 rfl ?_
    refine T_getR (r := 220) dX11_status_13 fX11_17 rfl SH_218 rfl ?_
    refine T_iload_n dX11_status_16 rfl ?_
    refine T_iald dX11_status_17 SH_220 h.1 ?_
    replace h := h.2
    refine T_goto (tgt := 22) dX11_status_18 (by decide) ?_
    exact T_iret dX11_status_22 rfl (hQ _ h)

theorem W_X11_fault {G : GT} {d : Nat} (hd : 1 ≤ d) {x1 : Int}   {v : VT} {q : Int → Prop} {Q : Option Vl → List Sh → VT → Prop} (h : P_X11_fault x1 v q) (hQ : ∀ r, q r → Q (some (vI r)) SH v) : n_T G d 0 0 mX11_fault 0 [vR 218, vI x1] [] SH v Q := by
  unfold P_X11_fault at h
  refine T_iload_n dX11_fault_0 rfl ?_
  refine U_if_ne (tgt := 11) dX11_fault_1 (by decide) (fun hc => ?_) (fun hc => ?_)
  · replace h := h.1 hc
    refine T_iload_n dX11_fault_11 rfl ?_
    refine T_iconst dX11_fault_12 (by decide) ?_
    refine U_icmp_ne (tgt := 23) dX11_fault_13 (by decide) (fun hc => ?_) (fun hc => ?_)
    · replace h := h.1 hc
      refine T_iconst dX11_fault_23 (by decide) ?_
      exact T_iret dX11_fault_24 rfl (hQ _ h)
    · replace h := h.2 hc
      refine T_aload_n dX11_fault_16 rfl ?_
      refine T_getI dX11_fault_17 fX11_13 rfl SH_218 ?_
      refine T_goto (tgt := 24) dX11_fault_20 (by decide) ?_
      exact T_iret dX11_fault_24 rfl (hQ _ h)
  · replace h := h.2 hc
    refine T_aload_n dX11_fault_4 rfl ?_
    refine T_getI dX11_fault_5 fX11_113 rfl SH_218 ?_
    refine T_goto (tgt := 24) dX11_fault_8 (by decide) ?_
    exact T_iret dX11_fault_24 rfl (hQ _ h)

theorem W_X11_fail {G : GT} {d : Nat} (hd : 1 ≤ d) {x1 : Int} {x2 : Int}   {v : VT} {q : VT → Prop} {Q : Option Vl → List Sh → VT → Prop} (h : P_X11_fail x1 x2 v q) (hQ : ∀ w, q w → Q none SH w) : n_T G d 0 0 mX11_fail 0 [vR 218, vI x1, vI x2] [] SH v Q := by
  unfold P_X11_fail at h
  refine T_aload_n dX11_fail_0 rfl ?_
  refine T_getI dX11_fail_1 fX11_116 rfl SH_218 ?_
  refine U_if_eq (tgt := 8) dX11_fail_4 (by decide) (fun hc => ?_) (fun hc => ?_)
  · replace h := h.1 hc
    refine T_aload_n dX11_fail_8 rfl ?_
    refine T_iload_n dX11_fail_9 rfl ?_
    refine U_putI dX11_fail_10 fX11_116 rfl rfl SH_218 (fun v10 ev10 => ?_)
    replace h := h v10 ev10
    refine T_aload_n dX11_fail_13 rfl ?_
    refine T_iload_n dX11_fail_14 rfl ?_
    refine U_putI dX11_fail_15 fX11_119 rfl rfl SH_218 (fun v15 ev15 => ?_)
    replace h := h v15 ev15
    exact T_vret dX11_fail_18 rfl (hQ _ h)
  · replace h := h.2 hc
    exact T_vret dX11_fail_7 rfl (hQ _ h)

theorem W_X11_isLetter {G : GT} {d : Nat} (hd : 1 ≤ d) {x0 : Int}   {v : VT} {q : Int → Prop} {Q : Option Vl → List Sh → VT → Prop} (h : P_X11_isLetter x0 v q) (hQ : ∀ r, q r → Q (some (vI r)) SH v) : n_T G d 0 0 mX11_isLetter 0 [vI x0] [] SH v Q := by
  unfold P_X11_isLetter at h
  refine T_iload_n dX11_isLetter_0 rfl ?_
  refine T_bipush dX11_isLetter_1 (by decide) ?_
  refine U_icmp_lt (tgt := 16) dX11_isLetter_3 (by decide) (fun hc => ?_) (fun hc => ?_)
  · replace h := h.1 hc
    refine T_iconst dX11_isLetter_16 (by decide) ?_
    exact T_zret dX11_isLetter_17 rfl (by decide) (hQ _ h)
  · replace h := h.2 hc
    refine T_iload_n dX11_isLetter_6 rfl ?_
    refine T_bipush dX11_isLetter_7 (by decide) ?_
    refine U_icmp_gt (tgt := 16) dX11_isLetter_9 (by decide) (fun hc => ?_) (fun hc => ?_)
    · replace h := h.1 hc
      refine T_iconst dX11_isLetter_16 (by decide) ?_
      exact T_zret dX11_isLetter_17 rfl (by decide) (hQ _ h)
    · replace h := h.2 hc
      refine T_iconst dX11_isLetter_12 (by decide) ?_
      refine T_goto (tgt := 17) dX11_isLetter_13 (by decide) ?_
      exact T_zret dX11_isLetter_17 rfl (by decide) (hQ _ h)

theorem W_X11_look {G : GT} {d : Nat} (hd : 1 ≤ d)    {v : VT} {q : Int → VT → Prop} {Q : Option Vl → List Sh → VT → Prop} (h : P_X11_look  v q) (hQ : ∀ r w, q r w → Q (some (vI r)) SH w) : n_T G d 0 0 mX11_look 0 [vR 218] [] SH v Q := by
  unfold P_X11_look at h
  refine n_cut (h (fun (v52 : VT) => n_T G d 0 0 mX11_look 52 [vR 218] [] SH v52 Q)) ?_ ?_
  · intro v52 h
    refine T_aload_n dX11_look_52 rfl ?_
    refine T_getI dX11_look_53 fX11_122 rfl SH_218 ?_
    refine T_aload_n dX11_look_56 rfl ?_
    refine T_getI dX11_look_57 fX11_125 rfl SH_218 ?_
    refine U_icmp_ge (tgt := 75) dX11_look_60 (by decide) (fun hc => ?_) (fun hc => ?_)
    · replace h := h.1 hc
      refine T_iconst dX11_look_75 (by decide) ?_
      exact T_iret dX11_look_76 rfl (hQ _ _ h)
    · replace h := h.2 hc
      refine T_aload_n dX11_look_63 rfl ?_
      refine T_getR (r := 219) dX11_look_64 fX11_7 rfl SH_218 rfl ?_
      refine T_aload_n dX11_look_67 rfl ?_
      refine T_getI dX11_look_68 fX11_122 rfl SH_218 ?_
      refine T_iald dX11_look_71 SH_219 h.1 ?_
      replace h := h.2
      refine T_goto (tgt := 76) dX11_look_72 (by decide) ?_
      exact T_iret dX11_look_76 rfl (hQ _ _ h)
  · intro h
    refine T_drop (h (fun (v0 : VT) => n_T G d 0 0 mX11_look 0 [vR 218] [] SH v0 Q) (fun v0 h => ?_)) ⟨Or.inl rfl, trivial⟩
    refine T_aload_n dX11_look_0 rfl ?_
    refine T_getI dX11_look_1 fX11_122 rfl SH_218 ?_
    refine T_aload_n dX11_look_4 rfl ?_
    refine T_getI dX11_look_5 fX11_125 rfl SH_218 ?_
    refine U_icmp_ge (tgt := 52) dX11_look_8 (by decide) (fun hc => ?_) (fun hc => ?_)
    · replace h := h.1 hc
      exact T_drop h ⟨Or.inl rfl, trivial⟩
    · replace h := h.2 hc
      refine T_aload_n dX11_look_11 rfl ?_
      refine T_getR (r := 219) dX11_look_12 fX11_7 rfl SH_218 rfl ?_
      refine T_aload_n dX11_look_15 rfl ?_
      refine T_getI dX11_look_16 fX11_122 rfl SH_218 ?_
      refine T_iald dX11_look_19 SH_219 h.1 ?_
      replace h := h.2
      refine T_bipush dX11_look_20 (by decide) ?_
      refine U_icmp_eq (tgt := 39) dX11_look_22 (by decide) (fun hc => ?_) (fun hc => ?_)
      · replace h := h.1 hc
        refine T_aload_n dX11_look_39 rfl ?_
        refine T_dup dX11_look_40 rfl ?_
        refine T_getI dX11_look_41 fX11_122 rfl SH_218 ?_
        refine T_iconst dX11_look_44 (by decide) ?_
        refine U_iadd dX11_look_45 h.1 ?_
        replace h := h.2
        refine U_putI dX11_look_46 fX11_122 rfl rfl SH_218 (fun v46 ev46 => ?_)
        replace h := h v46 ev46
        refine T_goto (tgt := 0) dX11_look_49 (by decide) ?_
        exact T_drop h ⟨Or.inl rfl, trivial⟩
      · replace h := h.2 hc
        refine T_aload_n dX11_look_25 rfl ?_
        refine T_getR (r := 219) dX11_look_26 fX11_7 rfl SH_218 rfl ?_
        refine T_aload_n dX11_look_29 rfl ?_
        refine T_getI dX11_look_30 fX11_122 rfl SH_218 ?_
        refine T_iald dX11_look_33 SH_219 h.1 ?_
        replace h := h.2
        refine T_bipush dX11_look_34 (by decide) ?_
        refine U_icmp_ne (tgt := 52) dX11_look_36 (by decide) (fun hc => ?_) (fun hc => ?_)
        · replace h := h.1 hc
          exact T_drop h ⟨Or.inl rfl, trivial⟩
        · replace h := h.2 hc
          refine T_aload_n dX11_look_39 rfl ?_
          refine T_dup dX11_look_40 rfl ?_
          refine T_getI dX11_look_41 fX11_122 rfl SH_218 ?_
          refine T_iconst dX11_look_44 (by decide) ?_
          refine U_iadd dX11_look_45 h.1 ?_
          replace h := h.2
          refine U_putI dX11_look_46 fX11_122 rfl rfl SH_218 (fun v46_1 ev46_1 => ?_)
          replace h := h v46_1 ev46_1
          refine T_goto (tgt := 0) dX11_look_49 (by decide) ?_
          exact T_drop h ⟨Or.inl rfl, trivial⟩

theorem W_X11_takesSign {G : GT} {d : Nat} (hd : 2 ≤ d) {x1 : Int}   {v : VT} {q : Int → VT → Prop} {Q : Option Vl → List Sh → VT → Prop} (h : P_X11_takesSign x1 v q) (hQ : ∀ r w, q r w → Q (some (vI r)) SH w) : n_T G d 0 0 mX11_takesSign 0 [vR 218, vI x1] [] SH v Q := by
  unfold P_X11_takesSign at h
  refine T_aload_n dX11_takesSign_0 rfl ?_
  refine T_getI dX11_takesSign_1 fX11_116 rfl SH_218 ?_
  refine U_if_ne (tgt := 15) dX11_takesSign_4 (by decide) (fun hc => ?_) (fun hc => ?_)
  · replace h := h.1 hc
    refine T_iconst dX11_takesSign_15 (by decide) ?_
    exact T_zret dX11_takesSign_16 rfl (by decide) (hQ _ _ h)
  · replace h := h.2 hc
    refine T_aload_n dX11_takesSign_7 rfl ?_
    refine U_callV (as := []) (st := []) dX11_takesSign_8 kX11_look lX11_128 SH_218 rfl rfl rfl rfl (Nat.le_of_ble_eq_true rfl) (Nat.le_of_ble_eq_true rfl) (by omega) ?_
    refine W_X11_look (by omega)  h (fun r8 v8 h => ?_)
    show n_T G d 0 0 mX11_takesSign 11 [vR 218, vI x1] [vI r8] SH v8 Q
    refine T_iload_n dX11_takesSign_11 rfl ?_
    refine U_icmp_eq (tgt := 17) dX11_takesSign_12 (by decide) (fun hc => ?_) (fun hc => ?_)
    · replace h := h.1 hc
      refine T_aload_n dX11_takesSign_17 rfl ?_
      refine T_dup dX11_takesSign_18 rfl ?_
      refine T_getI dX11_takesSign_19 fX11_122 rfl SH_218 ?_
      refine T_iconst dX11_takesSign_22 (by decide) ?_
      refine U_iadd dX11_takesSign_23 h.1 ?_
      replace h := h.2
      refine U_putI dX11_takesSign_24 fX11_122 rfl rfl SH_218 (fun v24 ev24 => ?_)
      replace h := h v24 ev24
      refine T_iconst dX11_takesSign_27 (by decide) ?_
      exact T_zret dX11_takesSign_28 rfl (by decide) (hQ _ _ h)
    · replace h := h.2 hc
      refine T_iconst dX11_takesSign_15 (by decide) ?_
      exact T_zret dX11_takesSign_16 rfl (by decide) (hQ _ _ h)

theorem W_X11_asksSign {G : GT} {d : Nat} (hd : 3 ≤ d) {x1 : Int}   {v : VT} {q : VT → Prop} {Q : Option Vl → List Sh → VT → Prop} (h : P_X11_asksSign x1 v q) (hQ : ∀ w, q w → Q none SH w) : n_T G d 0 0 mX11_asksSign 0 [vR 218, vI x1] [] SH v Q := by
  unfold P_X11_asksSign at h
  refine T_aload_n dX11_asksSign_0 rfl ?_
  refine T_getI dX11_asksSign_1 fX11_116 rfl SH_218 ?_
  refine U_if_ne (tgt := 24) dX11_asksSign_4 (by decide) (fun hc => ?_) (fun hc => ?_)
  · replace h := h.1 hc
    exact T_vret dX11_asksSign_24 rfl (hQ _ h)
  · replace h := h.2 hc
    refine T_aload_n dX11_asksSign_7 rfl ?_
    refine T_iload_n dX11_asksSign_8 rfl ?_
    refine U_callV (as := [vI x1]) (st := []) dX11_asksSign_9 kX11_takesSign lX11_132 SH_218 rfl rfl rfl rfl (Nat.le_of_ble_eq_true rfl) (Nat.le_of_ble_eq_true rfl) (by omega) ?_
    refine W_X11_takesSign (by omega)  h (fun r9 v9 h => ?_)
    show n_T G d 0 0 mX11_asksSign 12 [vR 218, vI x1] [vI r9] SH v9 Q
    refine U_if_ne (tgt := 24) dX11_asksSign_12 (by decide) (fun hc => ?_) (fun hc => ?_)
    · replace h := h.1 hc
      exact T_vret dX11_asksSign_24 rfl (hQ _ h)
    · replace h := h.2 hc
      refine T_aload_n dX11_asksSign_15 rfl ?_
      refine T_iconst dX11_asksSign_16 (by decide) ?_
      refine T_aload_n dX11_asksSign_17 rfl ?_
      refine T_getI dX11_asksSign_18 fX11_122 rfl SH_218 ?_
      refine U_callV (as := [vI 1, vI (v9 218 2)]) (st := []) dX11_asksSign_21 kX11_fail lX11_135 SH_218 rfl rfl rfl rfl (Nat.le_of_ble_eq_true rfl) (Nat.le_of_ble_eq_true rfl) (by omega) ?_
      refine W_X11_fail (by omega)  h (fun v21 h => ?_)
      show n_T G d 0 0 mX11_asksSign 24 [vR 218, vI x1] [] SH v21 Q
      exact T_vret dX11_asksSign_24 rfl (hQ _ h)

theorem W_X11_isWordHere {G : GT} {d : Nat} (hd : 2 ≤ d)    {v : VT} {q : Int → VT → Prop} {Q : Option Vl → List Sh → VT → Prop} (h : P_X11_isWordHere  v q) (hQ : ∀ r w, q r w → Q (some (vI r)) SH w) : n_T G d 0 0 mX11_isWordHere 0 [vR 218] [] SH v Q := by
  unfold P_X11_isWordHere at h
  refine T_aload_n dX11_isWordHere_0 rfl ?_
  refine T_getI dX11_isWordHere_1 fX11_116 rfl SH_218 ?_
  refine U_if_ne (tgt := 32) dX11_isWordHere_4 (by decide) (fun hc => ?_) (fun hc => ?_)
  · replace h := h.1 hc
    refine T_iconst dX11_isWordHere_32 (by decide) ?_
    exact T_zret dX11_isWordHere_33 rfl (by decide) (hQ _ _ h)
  · replace h := h.2 hc
    refine T_aload_n dX11_isWordHere_7 rfl ?_
    refine U_callV (as := []) (st := []) dX11_isWordHere_8 kX11_look lX11_128 SH_218 rfl rfl rfl rfl (Nat.le_of_ble_eq_true rfl) (Nat.le_of_ble_eq_true rfl) (by omega) ?_
    refine W_X11_look (by omega)  h (fun r8 v8 h => ?_)
    show n_T G d 0 0 mX11_isWordHere 11 [vR 218] [vI r8] SH v8 Q
    refine U_callS (as := [vI r8]) (st := []) dX11_isWordHere_11 kX11_isLetter lX11_139 rfl rfl (Nat.le_of_ble_eq_true rfl) (Nat.le_of_ble_eq_true rfl) (by omega) ?_
    refine W_X11_isLetter (by omega)  h (fun r11 h => ?_)
    show n_T G d 0 0 mX11_isWordHere 14 [vR 218] [vI r11] SH v8 Q
    refine U_if_eq (tgt := 32) dX11_isWordHere_14 (by decide) (fun hc => ?_) (fun hc => ?_)
    · replace h := h.1 hc
      refine T_iconst dX11_isWordHere_32 (by decide) ?_
      exact T_zret dX11_isWordHere_33 rfl (by decide) (hQ _ _ h)
    · replace h := h.2 hc
      refine T_aload_n dX11_isWordHere_17 rfl ?_
      refine T_getI dX11_isWordHere_18 fX11_122 rfl SH_218 ?_
      refine T_aload_n dX11_isWordHere_21 rfl ?_
      refine T_getI dX11_isWordHere_22 fX11_142 rfl SH_218 ?_
      refine U_icmp_eq (tgt := 32) dX11_isWordHere_25 (by decide) (fun hc => ?_) (fun hc => ?_)
      · replace h := h.1 hc
        refine T_iconst dX11_isWordHere_32 (by decide) ?_
        exact T_zret dX11_isWordHere_33 rfl (by decide) (hQ _ _ h)
      · replace h := h.2 hc
        refine T_iconst dX11_isWordHere_28 (by decide) ?_
        refine T_goto (tgt := 33) dX11_isWordHere_29 (by decide) ?_
        exact T_zret dX11_isWordHere_33 rfl (by decide) (hQ _ _ h)

theorem W_X11_longHere {G : GT} {d : Nat} (hd : 2 ≤ d)    {v : VT} {q : Int → Prop} {Q : Option Vl → List Sh → VT → Prop} (h : P_X11_longHere  v q) (hQ : ∀ r, q r → Q (some (vI r)) SH v) : n_T G d 0 0 mX11_longHere 0 [vR 218, vS 9] [] SH v Q := by
  unfold P_X11_longHere at h
  refine T_iconst dX11_longHere_0 (by decide) ?_
  refine T_istore_n dX11_longHere_1 (by decide) rfl ?_
  refine T_drop (h (fun (i1 : Int) => n_T G d 0 0 mX11_longHere 2 [vR 218, vI i1] [] SH v Q) (fun i1 h => ?_)) ⟨Or.inl rfl, Or.inl rfl, trivial⟩
  refine T_aload_n dX11_longHere_2 rfl ?_
  refine T_getI dX11_longHere_3 fX11_122 rfl SH_218 ?_
  refine T_iload_n dX11_longHere_6 rfl ?_
  refine U_iadd dX11_longHere_7 h.1 ?_
  replace h := h.2
  refine T_aload_n dX11_longHere_8 rfl ?_
  refine T_getI dX11_longHere_9 fX11_125 rfl SH_218 ?_
  refine U_icmp_ge (tgt := 38) dX11_longHere_12 (by decide) (fun hc => ?_) (fun hc => ?_)
  · replace h := h.1 hc
    refine T_iload_n dX11_longHere_38 rfl ?_
    exact T_iret dX11_longHere_39 rfl (hQ _ h)
  · replace h := h.2 hc
    refine T_aload_n dX11_longHere_15 rfl ?_
    refine T_getR (r := 219) dX11_longHere_16 fX11_7 rfl SH_218 rfl ?_
    refine T_aload_n dX11_longHere_19 rfl ?_
    refine T_getI dX11_longHere_20 fX11_122 rfl SH_218 ?_
    refine T_iload_n dX11_longHere_23 rfl ?_
    refine U_iadd dX11_longHere_24 h.1 ?_
    replace h := h.2
    refine T_iald dX11_longHere_25 SH_219 h.1 ?_
    replace h := h.2
    refine U_callS (as := [vI (v 219 ((v 218 2) + i1).toNat)]) (st := []) dX11_longHere_26 kX11_isLetter lX11_139 rfl rfl (Nat.le_of_ble_eq_true rfl) (Nat.le_of_ble_eq_true rfl) (by omega) ?_
    refine W_X11_isLetter (by omega)  h (fun r26 h => ?_)
    show n_T G d 0 0 mX11_longHere 29 [vR 218, vI i1] [vI r26] SH v Q
    refine U_if_eq (tgt := 38) dX11_longHere_29 (by decide) (fun hc => ?_) (fun hc => ?_)
    · replace h := h.1 hc
      refine T_iload_n dX11_longHere_38 rfl ?_
      exact T_iret dX11_longHere_39 rfl (hQ _ h)
    · replace h := h.2 hc
      refine U_iinc dX11_longHere_32 rfl (by decide) rfl h.1 ?_
      replace h := h.2
      refine T_goto (tgt := 2) dX11_longHere_35 (by decide) ?_
      exact T_drop h ⟨Or.inl rfl, Or.inl rfl, trivial⟩

theorem W_X11_ownHere {G : GT} {d : Nat} (hd : 3 ≤ d)    {v : VT} {q : Int → VT → Prop} {Q : Option Vl → List Sh → VT → Prop} (h : P_X11_ownHere  v q) (hQ : ∀ r w, q r w → Q (some (vI r)) SH w) : n_T G d 0 0 mX11_ownHere 0 [vR 218, vS 9] [] SH v Q := by
  unfold P_X11_ownHere at h
  refine T_aload_n dX11_ownHere_0 rfl ?_
  refine U_callV (as := []) (st := []) dX11_ownHere_1 kX11_isWordHere lX11_145 SH_218 rfl rfl rfl rfl (Nat.le_of_ble_eq_true rfl) (Nat.le_of_ble_eq_true rfl) (by omega) ?_
  refine W_X11_isWordHere (by omega)  h (fun r1 v1 h => ?_)
  show n_T G d 0 0 mX11_ownHere 4 [vR 218, vS 9] [vI r1] SH v1 Q
  refine U_if_ne (tgt := 9) dX11_ownHere_4 (by decide) (fun hc => ?_) (fun hc => ?_)
  · replace h := h.1 hc
    refine T_aload_n dX11_ownHere_9 rfl ?_
    refine U_callV (as := []) (st := []) dX11_ownHere_10 kX11_longHere lX11_149 SH_218 rfl rfl rfl rfl (Nat.le_of_ble_eq_true rfl) (Nat.le_of_ble_eq_true rfl) (by omega) ?_
    refine W_X11_longHere (by omega)  h (fun r10 h => ?_)
    show n_T G d 0 0 mX11_ownHere 13 [vR 218, vS 9] [vI r10] SH v1 Q
    refine T_istore_n dX11_ownHere_13 (by decide) rfl ?_
    refine T_iload_n dX11_ownHere_14 rfl ?_
    refine T_iconst dX11_ownHere_15 (by decide) ?_
    refine n_cut (h (n_T G d 0 0 mX11_ownHere 99 [vR 218, vI r10] [] SH v1 Q)) ?_ ?_
    · intro h
      refine T_iload_n dX11_ownHere_99 rfl ?_
      refine T_iconst dX11_ownHere_100 (by decide) ?_
      refine U_icmp_ne (tgt := 154) dX11_ownHere_101 (by decide) (fun hc => ?_) (fun hc => ?_)
      · replace h := h.1 hc
        refine T_iconst dX11_ownHere_154 (by decide) ?_
        exact T_iret dX11_ownHere_155 rfl (hQ _ _ h)
      · replace h := h.2 hc
        refine T_aload_n dX11_ownHere_104 rfl ?_
        refine T_getR (r := 219) dX11_ownHere_105 fX11_7 rfl SH_218 rfl ?_
        refine T_aload_n dX11_ownHere_108 rfl ?_
        refine T_getI dX11_ownHere_109 fX11_122 rfl SH_218 ?_
        refine T_iald dX11_ownHere_112 SH_219 h.1 ?_
        replace h := h.2
        refine T_bipush dX11_ownHere_113 (by decide) ?_
        refine U_icmp_ne (tgt := 154) dX11_ownHere_115 (by decide) (fun hc => ?_) (fun hc => ?_)
        · replace h := h.1 hc
          refine T_iconst dX11_ownHere_154 (by decide) ?_
          exact T_iret dX11_ownHere_155 rfl (hQ _ _ h)
        · replace h := h.2 hc
          refine T_aload_n dX11_ownHere_118 rfl ?_
          refine T_getR (r := 219) dX11_ownHere_119 fX11_7 rfl SH_218 rfl ?_
          refine T_aload_n dX11_ownHere_122 rfl ?_
          refine T_getI dX11_ownHere_123 fX11_122 rfl SH_218 ?_
          refine T_iconst dX11_ownHere_126 (by decide) ?_
          refine U_iadd dX11_ownHere_127 h.1 ?_
          replace h := h.2
          refine T_iald dX11_ownHere_128 SH_219 h.1 ?_
          replace h := h.2
          refine T_bipush dX11_ownHere_129 (by decide) ?_
          refine U_icmp_ne (tgt := 154) dX11_ownHere_131 (by decide) (fun hc => ?_) (fun hc => ?_)
          · replace h := h.1 hc
            refine T_iconst dX11_ownHere_154 (by decide) ?_
            exact T_iret dX11_ownHere_155 rfl (hQ _ _ h)
          · replace h := h.2 hc
            refine T_aload_n dX11_ownHere_134 rfl ?_
            refine T_getR (r := 219) dX11_ownHere_135 fX11_7 rfl SH_218 rfl ?_
            refine T_aload_n dX11_ownHere_138 rfl ?_
            refine T_getI dX11_ownHere_139 fX11_122 rfl SH_218 ?_
            refine T_iconst dX11_ownHere_142 (by decide) ?_
            refine U_iadd dX11_ownHere_143 h.1 ?_
            replace h := h.2
            refine T_iald dX11_ownHere_144 SH_219 h.1 ?_
            replace h := h.2
            refine T_bipush dX11_ownHere_145 (by decide) ?_
            refine U_icmp_ne (tgt := 154) dX11_ownHere_147 (by decide) (fun hc => ?_) (fun hc => ?_)
            · replace h := h.1 hc
              refine T_iconst dX11_ownHere_154 (by decide) ?_
              exact T_iret dX11_ownHere_155 rfl (hQ _ _ h)
            · replace h := h.2 hc
              refine T_iconst dX11_ownHere_150 (by decide) ?_
              refine T_goto (tgt := 155) dX11_ownHere_151 (by decide) ?_
              exact T_iret dX11_ownHere_155 rfl (hQ _ _ h)
    · intro h
      refine U_icmp_ne (tgt := 99) dX11_ownHere_16 (by decide) (fun hc => ?_) (fun hc => ?_)
      · replace h := h.1 hc
        exact T_drop h ⟨Or.inl rfl, Or.inl rfl, trivial⟩
      · replace h := h.2 hc
        refine T_aload_n dX11_ownHere_19 rfl ?_
        refine T_getR (r := 219) dX11_ownHere_20 fX11_7 rfl SH_218 rfl ?_
        refine T_aload_n dX11_ownHere_23 rfl ?_
        refine T_getI dX11_ownHere_24 fX11_122 rfl SH_218 ?_
        refine T_iald dX11_ownHere_27 SH_219 h.1 ?_
        replace h := h.2
        refine T_bipush dX11_ownHere_28 (by decide) ?_
        refine U_icmp_ne (tgt := 99) dX11_ownHere_30 (by decide) (fun hc => ?_) (fun hc => ?_)
        · replace h := h.1 hc
          exact T_drop h ⟨Or.inl rfl, Or.inl rfl, trivial⟩
        · replace h := h.2 hc
          refine T_aload_n dX11_ownHere_33 rfl ?_
          refine T_getR (r := 219) dX11_ownHere_34 fX11_7 rfl SH_218 rfl ?_
          refine T_aload_n dX11_ownHere_37 rfl ?_
          refine T_getI dX11_ownHere_38 fX11_122 rfl SH_218 ?_
          refine T_iconst dX11_ownHere_41 (by decide) ?_
          refine U_iadd dX11_ownHere_42 h.1 ?_
          replace h := h.2
          refine T_iald dX11_ownHere_43 SH_219 h.1 ?_
          replace h := h.2
          refine T_bipush dX11_ownHere_44 (by decide) ?_
          refine U_icmp_ne (tgt := 99) dX11_ownHere_46 (by decide) (fun hc => ?_) (fun hc => ?_)
          · replace h := h.1 hc
            exact T_drop h ⟨Or.inl rfl, Or.inl rfl, trivial⟩
          · replace h := h.2 hc
            refine T_aload_n dX11_ownHere_49 rfl ?_
            refine T_getR (r := 219) dX11_ownHere_50 fX11_7 rfl SH_218 rfl ?_
            refine T_aload_n dX11_ownHere_53 rfl ?_
            refine T_getI dX11_ownHere_54 fX11_122 rfl SH_218 ?_
            refine T_iconst dX11_ownHere_57 (by decide) ?_
            refine U_iadd dX11_ownHere_58 h.1 ?_
            replace h := h.2
            refine T_iald dX11_ownHere_59 SH_219 h.1 ?_
            replace h := h.2
            refine T_bipush dX11_ownHere_60 (by decide) ?_
            refine U_icmp_ne (tgt := 99) dX11_ownHere_62 (by decide) (fun hc => ?_) (fun hc => ?_)
            · replace h := h.1 hc
              exact T_drop h ⟨Or.inl rfl, Or.inl rfl, trivial⟩
            · replace h := h.2 hc
              refine T_aload_n dX11_ownHere_65 rfl ?_
              refine T_getR (r := 219) dX11_ownHere_66 fX11_7 rfl SH_218 rfl ?_
              refine T_aload_n dX11_ownHere_69 rfl ?_
              refine T_getI dX11_ownHere_70 fX11_122 rfl SH_218 ?_
              refine T_iconst dX11_ownHere_73 (by decide) ?_
              refine U_iadd dX11_ownHere_74 h.1 ?_
              replace h := h.2
              refine T_iald dX11_ownHere_75 SH_219 h.1 ?_
              replace h := h.2
              refine T_bipush dX11_ownHere_76 (by decide) ?_
              refine U_icmp_ne (tgt := 99) dX11_ownHere_78 (by decide) (fun hc => ?_) (fun hc => ?_)
              · replace h := h.1 hc
                exact T_drop h ⟨Or.inl rfl, Or.inl rfl, trivial⟩
              · replace h := h.2 hc
                refine T_aload_n dX11_ownHere_81 rfl ?_
                refine T_getR (r := 219) dX11_ownHere_82 fX11_7 rfl SH_218 rfl ?_
                refine T_aload_n dX11_ownHere_85 rfl ?_
                refine T_getI dX11_ownHere_86 fX11_122 rfl SH_218 ?_
                refine T_iconst dX11_ownHere_89 (by decide) ?_
                refine U_iadd dX11_ownHere_90 h.1 ?_
                replace h := h.2
                refine T_iald dX11_ownHere_91 SH_219 h.1 ?_
                replace h := h.2
                refine T_bipush dX11_ownHere_92 (by decide) ?_
                refine U_icmp_ne (tgt := 99) dX11_ownHere_94 (by decide) (fun hc => ?_) (fun hc => ?_)
                · replace h := h.1 hc
                  exact T_drop h ⟨Or.inl rfl, Or.inl rfl, trivial⟩
                · replace h := h.2 hc
                  refine T_iconst dX11_ownHere_97 (by decide) ?_
                  exact T_iret dX11_ownHere_98 rfl (hQ _ _ h)
  · replace h := h.2 hc
    refine T_iconst dX11_ownHere_7 (by decide) ?_
    exact T_iret dX11_ownHere_8 rfl (hQ _ _ h)

theorem W_X11_takes {G : GT} {d : Nat} (hd : 4 ≤ d) {x1 : Int}   {v : VT} {q : Int → VT → Prop} {Q : Option Vl → List Sh → VT → Prop} (h : P_X11_takes x1 v q) (hQ : ∀ r w, q r w → Q (some (vI r)) SH w) : n_T G d 0 0 mX11_takes 0 [vR 218, vI x1] [] SH v Q := by
  unfold P_X11_takes at h
  refine T_aload_n dX11_takes_0 rfl ?_
  refine U_callV (as := []) (st := []) dX11_takes_1 kX11_ownHere lX11_152 SH_218 rfl rfl rfl rfl (Nat.le_of_ble_eq_true rfl) (Nat.le_of_ble_eq_true rfl) (by omega) ?_
  refine W_X11_ownHere (by omega)  h (fun r1 v1 h => ?_)
  show n_T G d 0 0 mX11_takes 4 [vR 218, vI x1] [vI r1] SH v1 Q
  refine T_iload_n dX11_takes_4 rfl ?_
  refine U_icmp_eq (tgt := 10) dX11_takes_5 (by decide) (fun hc => ?_) (fun hc => ?_)
  · replace h := h.1 hc
    refine T_aload_n dX11_takes_10 rfl ?_
    refine T_dup dX11_takes_11 rfl ?_
    refine T_getI dX11_takes_12 fX11_122 rfl SH_218 ?_
    refine T_aload_n dX11_takes_15 rfl ?_
    refine U_callV (as := []) (st := [vI (v1 218 2), vR 218]) dX11_takes_16 kX11_longHere lX11_149 SH_218 rfl rfl rfl rfl (Nat.le_of_ble_eq_true rfl) (Nat.le_of_ble_eq_true rfl) (by omega) ?_
    refine W_X11_longHere (by omega)  h (fun r16 h => ?_)
    show n_T G d 0 0 mX11_takes 19 [vR 218, vI x1] [vI r16, vI (v1 218 2), vR 218] SH v1 Q
    refine U_iadd dX11_takes_19 h.1 ?_
    replace h := h.2
    refine U_putI dX11_takes_20 fX11_122 rfl rfl SH_218 (fun v20 ev20 => ?_)
    replace h := h v20 ev20
    refine T_aload_n dX11_takes_23 rfl ?_
    refine T_aload_n dX11_takes_24 rfl ?_
    refine T_getI dX11_takes_25 fX11_122 rfl SH_218 ?_
    refine U_putI dX11_takes_28 fX11_142 rfl rfl SH_218 (fun v28 ev28 => ?_)
    replace h := h v28 ev28
    refine T_iconst dX11_takes_31 (by decide) ?_
    exact T_zret dX11_takes_32 rfl (by decide) (hQ _ _ h)
  · replace h := h.2 hc
    refine T_iconst dX11_takes_8 (by decide) ?_
    exact T_zret dX11_takes_9 rfl (by decide) (hQ _ _ h)

theorem W_X11_name {G : GT} {d : Nat} (hd : 4 ≤ d)    {v : VT} {q : Int → VT → Prop} {Q : Option Vl → List Sh → VT → Prop} (h : P_X11_name  v q) (hQ : ∀ r w, q r w → Q (some (vI r)) SH w) : n_T G d 0 0 mX11_name 0 [vR 218, vS 9] [] SH v Q := by
  unfold P_X11_name at h
  refine T_aload_n dX11_name_0 rfl ?_
  refine T_getI dX11_name_1 fX11_116 rfl SH_218 ?_
  refine U_if_eq (tgt := 9) dX11_name_4 (by decide) (fun hc => ?_) (fun hc => ?_)
  · replace h := h.1 hc
    refine T_aload_n dX11_name_9 rfl ?_
    refine U_callV (as := []) (st := []) dX11_name_10 kX11_isWordHere lX11_145 SH_218 rfl rfl rfl rfl (Nat.le_of_ble_eq_true rfl) (Nat.le_of_ble_eq_true rfl) (by omega) ?_
    refine W_X11_isWordHere (by omega)  h (fun r10 v10 h => ?_)
    show n_T G d 0 0 mX11_name 13 [vR 218, vS 9] [vI r10] SH v10 Q
    refine n_cut (h (fun (v24 : VT) => n_T G d 0 0 mX11_name 24 [vR 218, vS 9] [] SH v24 Q)) ?_ ?_
    · intro v24 h
      refine T_aload_n dX11_name_24 rfl ?_
      refine T_iconst dX11_name_25 (by decide) ?_
      refine T_aload_n dX11_name_26 rfl ?_
      refine U_callV (as := []) (st := [vI 1, vR 218]) dX11_name_27 kX11_look lX11_128 SH_218 rfl rfl rfl rfl (Nat.le_of_ble_eq_true rfl) (Nat.le_of_ble_eq_true rfl) (by omega) ?_
      refine W_X11_look (by omega)  h (fun r27 v27 h => ?_)
      show n_T G d 0 0 mX11_name 30 [vR 218, vS 9] [vI r27, vI 1, vR 218] SH v27 Q
      refine T_iconst dX11_name_30 (by decide) ?_
      refine U_icmp_ne (tgt := 41) dX11_name_31 (by decide) (fun hc => ?_) (fun hc => ?_)
      · replace h := h.1 hc
        refine T_aload_n dX11_name_41 rfl ?_
        refine T_getI dX11_name_42 fX11_122 rfl SH_218 ?_
        refine U_callV (as := [vI 1, vI (v27 218 2)]) (st := []) dX11_name_45 kX11_fail lX11_135 SH_218 rfl rfl rfl rfl (Nat.le_of_ble_eq_true rfl) (Nat.le_of_ble_eq_true rfl) (by omega) ?_
        refine W_X11_fail (by omega)  h (fun v45 h => ?_)
        show n_T G d 0 0 mX11_name 48 [vR 218, vS 9] [] SH v45 Q
        refine T_iconst dX11_name_48 (by decide) ?_
        exact T_iret dX11_name_49 rfl (hQ _ _ h)
      · replace h := h.2 hc
        refine T_aload_n dX11_name_34 rfl ?_
        refine T_getI dX11_name_35 fX11_125 rfl SH_218 ?_
        refine T_goto (tgt := 45) dX11_name_38 (by decide) ?_
        refine U_callV (as := [vI 1, vI (v27 218 3)]) (st := []) dX11_name_45 kX11_fail lX11_135 SH_218 rfl rfl rfl rfl (Nat.le_of_ble_eq_true rfl) (Nat.le_of_ble_eq_true rfl) (by omega) ?_
        refine W_X11_fail (by omega)  h (fun v45_1 h => ?_)
        show n_T G d 0 0 mX11_name 48 [vR 218, vS 9] [] SH v45_1 Q
        refine T_iconst dX11_name_48 (by decide) ?_
        exact T_iret dX11_name_49 rfl (hQ _ _ h)
    · intro h
      refine U_if_eq (tgt := 24) dX11_name_13 (by decide) (fun hc => ?_) (fun hc => ?_)
      · replace h := h.1 hc
        exact T_drop h ⟨Or.inl rfl, Or.inr rfl, trivial⟩
      · replace h := h.2 hc
        refine T_aload_n dX11_name_16 rfl ?_
        refine U_callV (as := []) (st := []) dX11_name_17 kX11_ownHere lX11_152 SH_218 rfl rfl rfl rfl (Nat.le_of_ble_eq_true rfl) (Nat.le_of_ble_eq_true rfl) (by omega) ?_
        refine W_X11_ownHere (by omega)  h (fun r17 v17 h => ?_)
        show n_T G d 0 0 mX11_name 20 [vR 218, vS 9] [vI r17] SH v17 Q
        refine T_iconst dX11_name_20 (by decide) ?_
        refine U_icmp_eq (tgt := 50) dX11_name_21 (by decide) (fun hc => ?_) (fun hc => ?_)
        · replace h := h.1 hc
          refine T_aload_n dX11_name_50 rfl ?_
          refine T_aload_n dX11_name_51 rfl ?_
          refine T_getI dX11_name_52 fX11_122 rfl SH_218 ?_
          refine U_putI dX11_name_55 fX11_155 rfl rfl SH_218 (fun v55 ev55 => ?_)
          replace h := h v55 ev55
          refine T_iconst dX11_name_58 (by decide) ?_
          refine T_istore_n dX11_name_59 (by decide) rfl ?_
          refine T_drop (h (fun (i1 : Int) (v60 : VT) => n_T G d 0 0 mX11_name 60 [vR 218, vI i1] [] SH v60 Q) (fun i1 v60 h => ?_)) ⟨Or.inl rfl, Or.inl rfl, trivial⟩
          refine T_aload_n dX11_name_60 rfl ?_
          refine T_getI dX11_name_61 fX11_122 rfl SH_218 ?_
          refine T_aload_n dX11_name_64 rfl ?_
          refine T_getI dX11_name_65 fX11_125 rfl SH_218 ?_
          refine U_icmp_ge (tgt := 143) dX11_name_68 (by decide) (fun hc => ?_) (fun hc => ?_)
          · replace h := h.1 hc
            refine T_aload_n dX11_name_143 rfl ?_
            refine T_aload_n dX11_name_144 rfl ?_
            refine T_getI dX11_name_145 fX11_122 rfl SH_218 ?_
            refine U_putI dX11_name_148 fX11_142 rfl rfl SH_218 (fun v148 ev148 => ?_)
            replace h := h v148 ev148
            refine T_iload_n dX11_name_151 rfl ?_
            exact T_iret dX11_name_152 rfl (hQ _ _ h)
          · replace h := h.2 hc
            refine T_aload_n dX11_name_71 rfl ?_
            refine T_getR (r := 219) dX11_name_72 fX11_7 rfl SH_218 rfl ?_
            refine T_aload_n dX11_name_75 rfl ?_
            refine T_getI dX11_name_76 fX11_122 rfl SH_218 ?_
            refine T_iald dX11_name_79 SH_219 h.1 ?_
            replace h := h.2
            refine U_callS (as := [vI (v60 219 (v60 218 2).toNat)]) (st := []) dX11_name_80 kX11_isLetter lX11_139 rfl rfl (Nat.le_of_ble_eq_true rfl) (Nat.le_of_ble_eq_true rfl) (by omega) ?_
            refine W_X11_isLetter (by omega)  h (fun r80 h => ?_)
            show n_T G d 0 0 mX11_name 83 [vR 218, vI i1] [vI r80] SH v60 Q
            refine U_if_eq (tgt := 143) dX11_name_83 (by decide) (fun hc => ?_) (fun hc => ?_)
            · replace h := h.1 hc
              refine T_aload_n dX11_name_143 rfl ?_
              refine T_aload_n dX11_name_144 rfl ?_
              refine T_getI dX11_name_145 fX11_122 rfl SH_218 ?_
              refine U_putI dX11_name_148 fX11_142 rfl rfl SH_218 (fun v148_1 ev148_1 => ?_)
              replace h := h v148_1 ev148_1
              refine T_iload_n dX11_name_151 rfl ?_
              exact T_iret dX11_name_152 rfl (hQ _ _ h)
            · replace h := h.2 hc
              refine T_aload_n dX11_name_86 rfl ?_
              refine T_getI dX11_name_87 fX11_122 rfl SH_218 ?_
              refine T_aload_n dX11_name_90 rfl ?_
              refine T_getI dX11_name_91 fX11_155 rfl SH_218 ?_
              refine U_isub dX11_name_94 h.1 ?_
              replace h := h.2
              refine T_iconst dX11_name_95 (by decide) ?_
              refine U_icmp_ne (tgt := 110) dX11_name_96 (by decide) (fun hc => ?_) (fun hc => ?_)
              · replace h := h.1 hc
                refine T_bipush dX11_name_110 (by decide) ?_
                refine T_iload_n dX11_name_112 rfl ?_
                refine U_imul dX11_name_113 h.1 ?_
                replace h := h.2
                refine T_aload_n dX11_name_114 rfl ?_
                refine T_getR (r := 219) dX11_name_115 fX11_7 rfl SH_218 rfl ?_
                refine T_aload_n dX11_name_118 rfl ?_
                refine T_getI dX11_name_119 fX11_122 rfl SH_218 ?_
                refine T_iald dX11_name_122 SH_219 h.1 ?_
                replace h := h.2
                refine U_iadd dX11_name_123 h.1 ?_
                replace h := h.2
                refine T_bipush dX11_name_124 (by decide) ?_
                refine U_isub dX11_name_126 h.1 ?_
                replace h := h.2
                refine T_iconst dX11_name_127 (by decide) ?_
                refine U_iadd dX11_name_128 h.1 ?_
                replace h := h.2
                refine U_istore_n dX11_name_129 (by decide) rfl (fun l1 el1 => ?_)
                replace h := h l1 el1
                refine T_aload_n dX11_name_130 rfl ?_
                refine T_dup dX11_name_131 rfl ?_
                refine T_getI dX11_name_132 fX11_122 rfl SH_218 ?_
                refine T_iconst dX11_name_135 (by decide) ?_
                refine U_iadd dX11_name_136 h.1 ?_
                replace h := h.2
                refine U_putI dX11_name_137 fX11_122 rfl rfl SH_218 (fun v137 ev137 => ?_)
                replace h := h v137 ev137
                refine T_goto (tgt := 60) dX11_name_140 (by decide) ?_
                exact T_drop h ⟨Or.inl rfl, Or.inl rfl, trivial⟩
              · replace h := h.2 hc
                refine T_aload_n dX11_name_99 rfl ?_
                refine T_iconst dX11_name_100 (by decide) ?_
                refine T_aload_n dX11_name_101 rfl ?_
                refine T_getI dX11_name_102 fX11_122 rfl SH_218 ?_
                refine U_callV (as := [vI 1, vI (v60 218 2)]) (st := []) dX11_name_105 kX11_fail lX11_135 SH_218 rfl rfl rfl rfl (Nat.le_of_ble_eq_true rfl) (Nat.le_of_ble_eq_true rfl) (by omega) ?_
                refine W_X11_fail (by omega)  h (fun v105 h => ?_)
                show n_T G d 0 0 mX11_name 108 [vR 218, vI i1] [] SH v105 Q
                refine T_iconst dX11_name_108 (by decide) ?_
                exact T_iret dX11_name_109 rfl (hQ _ _ h)
        · replace h := h.2 hc
          exact T_drop h ⟨Or.inl rfl, Or.inr rfl, trivial⟩
  · replace h := h.2 hc
    refine T_iconst dX11_name_7 (by decide) ?_
    exact T_iret dX11_name_8 rfl (hQ _ _ h)

theorem W_X11_lineOf {G : GT} {d : Nat} (hd : 1 ≤ d) {a0 : Nat} {x1 : Int} {x2 : Int} (ha0 : SH[a0]? = some (.inr (0, 206, [])))  {v : VT} {q : Int → Prop} {Q : Option Vl → List Sh → VT → Prop} (h : P_X11_lineOf a0 x1 x2 v q) (hQ : ∀ r, q r → Q (some (vI r)) SH v) : n_T G d 0 0 mX11_lineOf 0 [vR a0, vI x1, vI x2, vS 9, vS 9, vS 9] [] SH v Q := by
  unfold P_X11_lineOf at h
  refine T_iload_n dX11_lineOf_0 rfl ?_
  refine T_iload_n dX11_lineOf_1 rfl ?_
  refine n_cut (h (fun (s0 : Int) => n_T G d 0 0 mX11_lineOf 10 [vR a0, vI x1, vI x2, vS 9, vS 9, vS 9] [vI s0] SH v Q)) ?_ ?_
  · intro s0 h
    refine T_istore_n dX11_lineOf_10 (by decide) rfl ?_
    refine T_iload_n dX11_lineOf_11 rfl ?_
    refine T_iload_n dX11_lineOf_12 rfl ?_
    refine n_cut (h (fun (s0_1 : Int) => n_T G d 0 0 mX11_lineOf 21 [vR a0, vS 9, vS 9, vI s0, vS 9, vS 9] [vI s0_1] SH v Q)) ?_ ?_
    · intro s0_1 h
      refine T_istore dX11_lineOf_21 (by decide) rfl ?_
      refine T_iconst dX11_lineOf_23 (by decide) ?_
      refine T_istore dX11_lineOf_24 (by decide) rfl ?_
      refine T_drop (h (fun (i5 : Int) => n_T G d 0 0 mX11_lineOf 26 [vR a0, vS 9, vS 9, vI s0, vI s0_1, vI i5] [] SH v Q) (fun i5 h => ?_)) ⟨Or.inl rfl, Or.inr rfl, Or.inr rfl, Or.inl rfl, Or.inl rfl, Or.inl rfl, trivial⟩
      refine T_iload dX11_lineOf_26 rfl ?_
      refine T_aload_n dX11_lineOf_28 rfl ?_
      refine T_iconst dX11_lineOf_29 (by decide) ?_
      refine T_iald dX11_lineOf_30 ha0 (by decide) ?_
      refine U_icmp_ge (tgt := 72) dX11_lineOf_31 (by decide) (fun hc => ?_) (fun hc => ?_)
      · replace h := h.1 hc
        refine T_iconst dX11_lineOf_72 (by decide) ?_
        exact T_iret dX11_lineOf_73 rfl (hQ _ h)
      · replace h := h.2 hc
        refine T_aload_n dX11_lineOf_34 rfl ?_
        refine T_bipush dX11_lineOf_35 (by decide) ?_
        refine T_iconst dX11_lineOf_37 (by decide) ?_
        refine T_iload dX11_lineOf_38 rfl ?_
        refine U_imul dX11_lineOf_40 h.1 ?_
        replace h := h.2
        refine U_iadd dX11_lineOf_41 h.1 ?_
        replace h := h.2
        refine T_iald dX11_lineOf_42 ha0 h.1 ?_
        replace h := h.2
        refine T_iload_n dX11_lineOf_43 rfl ?_
        refine U_icmp_ne (tgt := 66) dX11_lineOf_44 (by decide) (fun hc => ?_) (fun hc => ?_)
        · replace h := h.1 hc
          refine U_iinc dX11_lineOf_66 rfl (by decide) rfl h.1 ?_
          replace h := h.2
          refine T_goto (tgt := 26) dX11_lineOf_69 (by decide) ?_
          exact T_drop h ⟨Or.inl rfl, Or.inr rfl, Or.inr rfl, Or.inl rfl, Or.inl rfl, Or.inl rfl, trivial⟩
        · replace h := h.2 hc
          refine T_aload_n dX11_lineOf_47 rfl ?_
          refine T_bipush dX11_lineOf_48 (by decide) ?_
          refine T_iconst dX11_lineOf_50 (by decide) ?_
          refine T_iload dX11_lineOf_51 rfl ?_
          refine U_imul dX11_lineOf_53 h.1 ?_
          replace h := h.2
          refine U_iadd dX11_lineOf_54 h.1 ?_
          replace h := h.2
          refine T_iconst dX11_lineOf_55 (by decide) ?_
          refine U_iadd dX11_lineOf_56 h.1 ?_
          replace h := h.2
          refine T_iald dX11_lineOf_57 ha0 h.1 ?_
          replace h := h.2
          refine T_iload dX11_lineOf_58 rfl ?_
          refine U_icmp_ne (tgt := 66) dX11_lineOf_60 (by decide) (fun hc => ?_) (fun hc => ?_)
          · replace h := h.1 hc
            refine U_iinc dX11_lineOf_66 rfl (by decide) rfl h.1 ?_
            replace h := h.2
            refine T_goto (tgt := 26) dX11_lineOf_69 (by decide) ?_
            exact T_drop h ⟨Or.inl rfl, Or.inr rfl, Or.inr rfl, Or.inl rfl, Or.inl rfl, Or.inl rfl, trivial⟩
          · replace h := h.2 hc
            refine T_iload dX11_lineOf_63 rfl ?_
            exact T_iret dX11_lineOf_65 rfl (hQ _ h)
    · intro h
      refine U_icmp_ge (tgt := 20) dX11_lineOf_13 (by decide) (fun hc => ?_) (fun hc => ?_)
      · replace h := h.1 hc
        refine T_iload_n dX11_lineOf_20 rfl ?_
        exact T_drop h ⟨Or.inl rfl, Or.inr rfl, Or.inr rfl, Or.inl rfl, Or.inr rfl, Or.inr rfl, trivial⟩
      · replace h := h.2 hc
        refine T_iload_n dX11_lineOf_16 rfl ?_
        refine T_goto (tgt := 21) dX11_lineOf_17 (by decide) ?_
        exact T_drop h ⟨Or.inl rfl, Or.inr rfl, Or.inr rfl, Or.inl rfl, Or.inr rfl, Or.inr rfl, trivial⟩
  · intro h
    refine U_icmp_ge (tgt := 9) dX11_lineOf_2 (by decide) (fun hc => ?_) (fun hc => ?_)
    · replace h := h.1 hc
      refine T_iload_n dX11_lineOf_9 rfl ?_
      exact T_drop h ⟨Or.inl rfl, Or.inl rfl, Or.inl rfl, Or.inr rfl, Or.inr rfl, Or.inr rfl, trivial⟩
    · replace h := h.2 hc
      refine T_iload_n dX11_lineOf_5 rfl ?_
      refine T_goto (tgt := 10) dX11_lineOf_6 (by decide) ?_
      exact T_drop h ⟨Or.inl rfl, Or.inl rfl, Or.inl rfl, Or.inr rfl, Or.inr rfl, Or.inr rfl, trivial⟩

theorem W_X11_adds {G : GT} {d : Nat} (hd : 1 ≤ d) {a0 : Nat} {x1 : Int} {x2 : Int} {x3 : Int} (ha0 : SH[a0]? = some (.inr (0, 206, [])))  {v : VT} {q : VT → Prop} {Q : Option Vl → List Sh → VT → Prop} (h : P_X11_adds a0 x1 x2 x3 v q) (hQ : ∀ w, q w → Q none SH w) : n_T G d 0 0 mX11_adds 0 [vR a0, vI x1, vI x2, vI x3, vS 9] [] SH v Q := by
  unfold P_X11_adds at h
  refine T_bipush dX11_adds_0 (by decide) ?_
  refine T_iconst dX11_adds_2 (by decide) ?_
  refine T_aload_n dX11_adds_3 rfl ?_
  refine T_iconst dX11_adds_4 (by decide) ?_
  refine T_iald dX11_adds_5 ha0 (by decide) ?_
  refine U_imul dX11_adds_6 h.1 ?_
  replace h := h.2
  refine U_iadd dX11_adds_7 h.1 ?_
  replace h := h.2
  refine U_istore dX11_adds_8 (by decide) rfl (fun l4 el4 => ?_)
  replace h := h l4 el4
  refine T_aload_n dX11_adds_10 rfl ?_
  refine T_sipush dX11_adds_11 (by decide) ?_
  refine T_aload_n dX11_adds_14 rfl ?_
  refine T_iconst dX11_adds_15 (by decide) ?_
  refine T_iald dX11_adds_16 ha0 (by decide) ?_
  refine U_iadd dX11_adds_17 h.1 ?_
  replace h := h.2
  refine T_iload_n dX11_adds_18 rfl ?_
  refine U_iast dX11_adds_19 ha0 h.1 (fun v19 ev19 => ?_)
  replace h := h.2 v19 ev19
  refine T_aload_n dX11_adds_20 rfl ?_
  refine T_iload dX11_adds_21 rfl ?_
  refine T_iload_n dX11_adds_23 rfl ?_
  refine T_iload_n dX11_adds_24 rfl ?_
  refine n_cut (h (fun (s0 : Int) => n_T G d 0 0 mX11_adds 33 [vR a0, vI x1, vI x2, vS 9, vI l4] [vI s0, vI l4, vR a0] SH v19 Q)) ?_ ?_
  · intro s0 h
    refine U_iast dX11_adds_33 ha0 h.1 (fun v33 ev33 => ?_)
    replace h := h.2 v33 ev33
    refine T_aload_n dX11_adds_34 rfl ?_
    refine T_iload dX11_adds_35 rfl ?_
    refine T_iconst dX11_adds_37 (by decide) ?_
    refine U_iadd dX11_adds_38 h.1 ?_
    replace h := h.2
    refine T_iload_n dX11_adds_39 rfl ?_
    refine T_iload_n dX11_adds_40 rfl ?_
    refine U_icmp_ge (tgt := 48) dX11_adds_41 (by decide) (fun hc => ?_) (fun hc => ?_)
    · replace h := h.1 hc
      refine T_iload_n dX11_adds_48 rfl ?_
      refine U_iast dX11_adds_49 ha0 h.1 (fun v49 ev49 => ?_)
      replace h := h.2 v49 ev49
      refine T_aload_n dX11_adds_50 rfl ?_
      refine T_iconst dX11_adds_51 (by decide) ?_
      refine T_dup2 dX11_adds_52 rfl rfl ?_
      refine T_iald dX11_adds_53 ha0 (by decide) ?_
      refine T_iconst dX11_adds_54 (by decide) ?_
      refine U_iadd dX11_adds_55 h.1 ?_
      replace h := h.2
      refine U_iast dX11_adds_56 ha0 (by decide) (fun v56 ev56 => ?_)
      replace h := h v56 ev56
      exact T_vret dX11_adds_57 rfl (hQ _ h)
    · replace h := h.2 hc
      refine T_iload_n dX11_adds_44 rfl ?_
      refine T_goto (tgt := 49) dX11_adds_45 (by decide) ?_
      refine U_iast dX11_adds_49 ha0 h.1 (fun v49_1 ev49_1 => ?_)
      replace h := h.2 v49_1 ev49_1
      refine T_aload_n dX11_adds_50 rfl ?_
      refine T_iconst dX11_adds_51 (by decide) ?_
      refine T_dup2 dX11_adds_52 rfl rfl ?_
      refine T_iald dX11_adds_53 ha0 (by decide) ?_
      refine T_iconst dX11_adds_54 (by decide) ?_
      refine U_iadd dX11_adds_55 h.1 ?_
      replace h := h.2
      refine U_iast dX11_adds_56 ha0 (by decide) (fun v56_1 ev56_1 => ?_)
      replace h := h v56_1 ev56_1
      exact T_vret dX11_adds_57 rfl (hQ _ h)
  · intro h
    refine U_icmp_ge (tgt := 32) dX11_adds_25 (by decide) (fun hc => ?_) (fun hc => ?_)
    · replace h := h.1 hc
      refine T_iload_n dX11_adds_32 rfl ?_
      exact T_drop h ⟨Or.inl rfl, Or.inl rfl, Or.inl rfl, Or.inr rfl, Or.inl rfl, trivial⟩
    · replace h := h.2 hc
      refine T_iload_n dX11_adds_28 rfl ?_
      refine T_goto (tgt := 33) dX11_adds_29 (by decide) ?_
      exact T_drop h ⟨Or.inl rfl, Or.inl rfl, Or.inl rfl, Or.inr rfl, Or.inl rfl, trivial⟩

theorem W_X11_nodeNamed {G : GT} {d : Nat} (hd : 1 ≤ d) {a0 : Nat} {x1 : Int} (ha0 : SH[a0]? = some (.inr (0, 206, [])))  {v : VT} {q : Int → Prop} {Q : Option Vl → List Sh → VT → Prop} (h : P_X11_nodeNamed a0 x1 v q) (hQ : ∀ r, q r → Q (some (vI r)) SH v) : n_T G d 0 0 mX11_nodeNamed 0 [vR a0, vI x1, vS 9] [] SH v Q := by
  unfold P_X11_nodeNamed at h
  refine T_iconst dX11_nodeNamed_0 (by decide) ?_
  refine T_istore_n dX11_nodeNamed_1 (by decide) rfl ?_
  refine T_drop (h (fun (i2 : Int) => n_T G d 0 0 mX11_nodeNamed 2 [vR a0, vI x1, vI i2] [] SH v Q) (fun i2 h => ?_)) ⟨Or.inl rfl, Or.inl rfl, Or.inl rfl, trivial⟩
  refine T_iload_n dX11_nodeNamed_2 rfl ?_
  refine T_aload_n dX11_nodeNamed_3 rfl ?_
  refine T_iconst dX11_nodeNamed_4 (by decide) ?_
  refine T_iald dX11_nodeNamed_5 ha0 (by decide) ?_
  refine U_icmp_ge (tgt := 26) dX11_nodeNamed_6 (by decide) (fun hc => ?_) (fun hc => ?_)
  · replace h := h.1 hc
    refine T_iconst dX11_nodeNamed_26 (by decide) ?_
    exact T_iret dX11_nodeNamed_27 rfl (hQ _ h)
  · replace h := h.2 hc
    refine T_aload_n dX11_nodeNamed_9 rfl ?_
    refine T_iconst dX11_nodeNamed_10 (by decide) ?_
    refine T_iload_n dX11_nodeNamed_11 rfl ?_
    refine U_iadd dX11_nodeNamed_12 h.1 ?_
    replace h := h.2
    refine T_iald dX11_nodeNamed_13 ha0 h.1 ?_
    replace h := h.2
    refine T_iload_n dX11_nodeNamed_14 rfl ?_
    refine U_icmp_ne (tgt := 20) dX11_nodeNamed_15 (by decide) (fun hc => ?_) (fun hc => ?_)
    · replace h := h.1 hc
      refine U_iinc dX11_nodeNamed_20 rfl (by decide) rfl h.1 ?_
      replace h := h.2
      refine T_goto (tgt := 2) dX11_nodeNamed_23 (by decide) ?_
      exact T_drop h ⟨Or.inl rfl, Or.inl rfl, Or.inl rfl, trivial⟩
    · replace h := h.2 hc
      refine T_iload_n dX11_nodeNamed_18 rfl ?_
      exact T_iret dX11_nodeNamed_19 rfl (hQ _ h)

theorem W_X11_room {G : GT} {d : Nat} (hd : 2 ≤ d) {x1 : Int}   {v : VT} {q : VT → Prop} {Q : Option Vl → List Sh → VT → Prop} (h : P_X11_room x1 v q) (hQ : ∀ w, q w → Q none SH w) : n_T G d 0 0 mX11_room 0 [vR 218, vI x1] [] SH v Q := by
  unfold P_X11_room at h
  refine T_aload_n dX11_room_0 rfl ?_
  refine U_callV (as := []) (st := []) dX11_room_1 kX11_look lX11_128 SH_218 rfl rfl rfl rfl (Nat.le_of_ble_eq_true rfl) (Nat.le_of_ble_eq_true rfl) (by omega) ?_
  refine W_X11_look (by omega)  h (fun r1 v1 h => ?_)
  show n_T G d 0 0 mX11_room 4 [vR 218, vI x1] [vI r1] SH v1 Q
  refine T_pop dX11_room_4 rfl ?_
  refine T_iload_n dX11_room_5 rfl ?_
  refine T_bipush dX11_room_6 (by decide) ?_
  refine U_icmp_ne (tgt := 35) dX11_room_8 (by decide) (fun hc => ?_) (fun hc => ?_)
  · replace h := h.1 hc
    exact T_vret dX11_room_35 rfl (hQ _ h)
  · replace h := h.2 hc
    refine T_aload_n dX11_room_11 rfl ?_
    refine T_aload_n dX11_room_12 rfl ?_
    refine T_getI dX11_room_13 fX11_122 rfl SH_218 ?_
    refine T_aload_n dX11_room_16 rfl ?_
    refine T_getI dX11_room_17 fX11_125 rfl SH_218 ?_
    refine U_icmp_ne (tgt := 27) dX11_room_20 (by decide) (fun hc => ?_) (fun hc => ?_)
    · replace h := h.1 hc
      refine T_iconst dX11_room_27 (by decide) ?_
      refine T_aload_n dX11_room_28 rfl ?_
      refine T_getI dX11_room_29 fX11_122 rfl SH_218 ?_
      refine U_callV (as := [vI 5, vI (v1 218 2)]) (st := []) dX11_room_32 kX11_fail lX11_135 SH_218 rfl rfl rfl rfl (Nat.le_of_ble_eq_true rfl) (Nat.le_of_ble_eq_true rfl) (by omega) ?_
      refine W_X11_fail (by omega)  h (fun v32 h => ?_)
      show n_T G d 0 0 mX11_room 35 [vR 218, vI x1] [] SH v32 Q
      exact T_vret dX11_room_35 rfl (hQ _ h)
    · replace h := h.2 hc
      refine T_iconst dX11_room_23 (by decide) ?_
      refine T_goto (tgt := 28) dX11_room_24 (by decide) ?_
      refine T_aload_n dX11_room_28 rfl ?_
      refine T_getI dX11_room_29 fX11_122 rfl SH_218 ?_
      refine U_callV (as := [vI 1, vI (v1 218 2)]) (st := []) dX11_room_32 kX11_fail lX11_135 SH_218 rfl rfl rfl rfl (Nat.le_of_ble_eq_true rfl) (Nat.le_of_ble_eq_true rfl) (by omega) ?_
      refine W_X11_fail (by omega)  h (fun v32_1 h => ?_)
      show n_T G d 0 0 mX11_room 35 [vR 218, vI x1] [] SH v32_1 Q
      exact T_vret dX11_room_35 rfl (hQ _ h)

theorem W_X11_nodesTold {G : GT} {d : Nat} (hd : 5 ≤ d)    {v : VT} {q : VT → Prop} {Q : Option Vl → List Sh → VT → Prop} (h : P_X11_nodesTold  v q) (hQ : ∀ w, q w → Q none SH w) : n_T G d 0 0 mX11_nodesTold 0 [vR 218, vS 9, vS 9] [] SH v Q := by
  unfold P_X11_nodesTold at h
  refine T_aload_n dX11_nodesTold_0 rfl ?_
  refine T_getI dX11_nodesTold_1 fX11_116 rfl SH_218 ?_
  refine n_cut (h (fun (s0 : Int) => n_T G d 0 0 mX11_nodesTold 12 [vR 218, vS 9, vS 9] [vI s0] SH v Q)) ?_ ?_
  · intro s0 h
    refine T_istore_n dX11_nodesTold_12 (by decide) rfl ?_
    refine T_drop (h (fun (i1 : Int) (v13 : VT) => n_T G d 0 0 mX11_nodesTold 13 [vR 218, vI i1, vS 9] [] SH v13 Q) (fun i1 v13 h => ?_)) ⟨Or.inl rfl, Or.inl rfl, Or.inr rfl, trivial⟩
    refine T_iload_n dX11_nodesTold_13 rfl ?_
    refine U_if_eq (tgt := 101) dX11_nodesTold_14 (by decide) (fun hc => ?_) (fun hc => ?_)
    · replace h := h.1 hc
      exact T_vret dX11_nodesTold_101 rfl (hQ _ h)
    · replace h := h.2 hc
      refine T_aload_n dX11_nodesTold_17 rfl ?_
      refine T_aload_n dX11_nodesTold_18 rfl ?_
      refine T_getR (r := 221) dX11_nodesTold_19 fX11_20 rfl SH_218 rfl ?_
      refine T_iconst dX11_nodesTold_22 (by decide) ?_
      refine T_iald dX11_nodesTold_23 SH_221 (by decide) ?_
      refine U_callV (as := [vI (v13 221 0)]) (st := []) dX11_nodesTold_24 kX11_room lX11_158 SH_218 rfl rfl rfl rfl (Nat.le_of_ble_eq_true rfl) (Nat.le_of_ble_eq_true rfl) (by omega) ?_
      refine W_X11_room (by omega)  h (fun v24 h => ?_)
      show n_T G d 0 0 mX11_nodesTold 27 [vR 218, vI i1, vS 9] [] SH v24 Q
      refine T_aload_n dX11_nodesTold_27 rfl ?_
      refine U_callV (as := []) (st := []) dX11_nodesTold_28 kX11_name lX11_162 SH_218 rfl rfl rfl rfl (Nat.le_of_ble_eq_true rfl) (Nat.le_of_ble_eq_true rfl) (by omega) ?_
      refine W_X11_name (by omega)  h (fun r28 v28 h => ?_)
      show n_T G d 0 0 mX11_nodesTold 31 [vR 218, vI i1, vS 9] [vI r28] SH v28 Q
      refine T_istore_n dX11_nodesTold_31 (by decide) rfl ?_
      refine T_aload_n dX11_nodesTold_32 rfl ?_
      refine T_getI dX11_nodesTold_33 fX11_116 rfl SH_218 ?_
      refine n_cut (h (fun (v60 : VT) => n_T G d 0 0 mX11_nodesTold 60 [vR 218, vS 9, vI r28] [] SH v60 Q)) ?_ ?_
      · intro v60 h
        refine T_aload_n dX11_nodesTold_60 rfl ?_
        refine T_getI dX11_nodesTold_61 fX11_116 rfl SH_218 ?_
        refine U_if_ne (tgt := 91) dX11_nodesTold_64 (by decide) (fun hc => ?_) (fun hc => ?_)
        · replace h := h.1 hc
          refine T_aload_n dX11_nodesTold_91 rfl ?_
          refine T_bipush dX11_nodesTold_92 (by decide) ?_
          refine U_callV (as := [vI 44]) (st := []) dX11_nodesTold_94 kX11_takesSign lX11_132 SH_218 rfl rfl rfl rfl (Nat.le_of_ble_eq_true rfl) (Nat.le_of_ble_eq_true rfl) (by omega) ?_
          refine W_X11_takesSign (by omega)  h (fun r94 v94 h => ?_)
          show n_T G d 0 0 mX11_nodesTold 97 [vR 218, vS 9, vI r28] [vI r94] SH v94 Q
          refine T_istore_n dX11_nodesTold_97 (by decide) rfl ?_
          refine T_goto (tgt := 13) dX11_nodesTold_98 (by decide) ?_
          exact T_drop h ⟨Or.inl rfl, Or.inl rfl, Or.inr rfl, trivial⟩
        · replace h := h.2 hc
          refine T_aload_n dX11_nodesTold_67 rfl ?_
          refine T_getR (r := 221) dX11_nodesTold_68 fX11_20 rfl SH_218 rfl ?_
          refine T_iconst dX11_nodesTold_71 (by decide) ?_
          refine T_aload_n dX11_nodesTold_72 rfl ?_
          refine T_getR (r := 221) dX11_nodesTold_73 fX11_20 rfl SH_218 rfl ?_
          refine T_iconst dX11_nodesTold_76 (by decide) ?_
          refine T_iald dX11_nodesTold_77 SH_221 (by decide) ?_
          refine U_iadd dX11_nodesTold_78 h.1 ?_
          replace h := h.2
          refine T_iload_n dX11_nodesTold_79 rfl ?_
          refine U_iast dX11_nodesTold_80 SH_221 h.1 (fun v80 ev80 => ?_)
          replace h := h.2 v80 ev80
          refine T_aload_n dX11_nodesTold_81 rfl ?_
          refine T_getR (r := 221) dX11_nodesTold_82 fX11_20 rfl SH_218 rfl ?_
          refine T_iconst dX11_nodesTold_85 (by decide) ?_
          refine T_dup2 dX11_nodesTold_86 rfl rfl ?_
          refine T_iald dX11_nodesTold_87 SH_221 (by decide) ?_
          refine T_iconst dX11_nodesTold_88 (by decide) ?_
          refine U_iadd dX11_nodesTold_89 h.1 ?_
          replace h := h.2
          refine U_iast dX11_nodesTold_90 SH_221 (by decide) (fun v90 ev90 => ?_)
          replace h := h v90 ev90
          refine T_aload_n dX11_nodesTold_91 rfl ?_
          refine T_bipush dX11_nodesTold_92 (by decide) ?_
          refine U_callV (as := [vI 44]) (st := []) dX11_nodesTold_94 kX11_takesSign lX11_132 SH_218 rfl rfl rfl rfl (Nat.le_of_ble_eq_true rfl) (Nat.le_of_ble_eq_true rfl) (by omega) ?_
          refine W_X11_takesSign (by omega)  h (fun r94_1 v94_1 h => ?_)
          show n_T G d 0 0 mX11_nodesTold 97 [vR 218, vS 9, vI r28] [vI r94_1] SH v94_1 Q
          refine T_istore_n dX11_nodesTold_97 (by decide) rfl ?_
          refine T_goto (tgt := 13) dX11_nodesTold_98 (by decide) ?_
          exact T_drop h ⟨Or.inl rfl, Or.inl rfl, Or.inr rfl, trivial⟩
      · intro h
        refine U_if_ne (tgt := 60) dX11_nodesTold_36 (by decide) (fun hc => ?_) (fun hc => ?_)
        · replace h := h.1 hc
          exact T_drop h ⟨Or.inl rfl, Or.inr rfl, Or.inl rfl, trivial⟩
        · replace h := h.2 hc
          refine T_aload_n dX11_nodesTold_39 rfl ?_
          refine T_getR (r := 221) dX11_nodesTold_40 fX11_20 rfl SH_218 rfl ?_
          refine T_iload_n dX11_nodesTold_43 rfl ?_
          refine U_callS (as := [vR 221, vI r28]) (st := []) dX11_nodesTold_44 kX11_nodeNamed lX11_165 rfl rfl (Nat.le_of_ble_eq_true rfl) (Nat.le_of_ble_eq_true rfl) (by omega) ?_
          refine W_X11_nodeNamed (by omega) SH_221 h (fun r44 h => ?_)
          show n_T G d 0 0 mX11_nodesTold 47 [vR 218, vI i1, vI r28] [vI r44] SH v28 Q
          refine T_iconst dX11_nodesTold_47 (by decide) ?_
          refine U_icmp_eq (tgt := 60) dX11_nodesTold_48 (by decide) (fun hc => ?_) (fun hc => ?_)
          · replace h := h.1 hc
            exact T_drop h ⟨Or.inl rfl, Or.inr rfl, Or.inl rfl, trivial⟩
          · replace h := h.2 hc
            refine T_aload_n dX11_nodesTold_51 rfl ?_
            refine T_iconst dX11_nodesTold_52 (by decide) ?_
            refine T_aload_n dX11_nodesTold_53 rfl ?_
            refine T_getI dX11_nodesTold_54 fX11_155 rfl SH_218 ?_
            refine U_callV (as := [vI 3, vI (v28 218 10)]) (st := []) dX11_nodesTold_57 kX11_fail lX11_135 SH_218 rfl rfl rfl rfl (Nat.le_of_ble_eq_true rfl) (Nat.le_of_ble_eq_true rfl) (by omega) ?_
            refine W_X11_fail (by omega)  h (fun v57 h => ?_)
            show n_T G d 0 0 mX11_nodesTold 60 [vR 218, vI i1, vI r28] [] SH v57 Q
            exact T_drop h ⟨Or.inl rfl, Or.inr rfl, Or.inl rfl, trivial⟩
  · intro h
    refine U_if_ne (tgt := 11) dX11_nodesTold_4 (by decide) (fun hc => ?_) (fun hc => ?_)
    · replace h := h.1 hc
      refine T_iconst dX11_nodesTold_11 (by decide) ?_
      exact T_drop h ⟨Or.inl rfl, Or.inr rfl, Or.inr rfl, trivial⟩
    · replace h := h.2 hc
      refine T_iconst dX11_nodesTold_7 (by decide) ?_
      refine T_goto (tgt := 12) dX11_nodesTold_8 (by decide) ?_
      exact T_drop h ⟨Or.inl rfl, Or.inr rfl, Or.inr rfl, trivial⟩

theorem W_X11_wayTold {G : GT} {d : Nat} (hd : 5 ≤ d)    {v : VT} {q : VT → Prop} {Q : Option Vl → List Sh → VT → Prop} (h : P_X11_wayTold  v q) (hQ : ∀ w, q w → Q none SH w) : n_T G d 0 0 mX11_wayTold 0 [vR 218, vS 9, vS 9, vS 9, vS 9, vS 9] [] SH v Q := by
  unfold P_X11_wayTold at h
  refine T_iconst dX11_wayTold_0 (by decide) ?_
  refine T_istore_n dX11_wayTold_1 (by decide) rfl ?_
  refine T_iconst dX11_wayTold_2 (by decide) ?_
  refine T_istore_n dX11_wayTold_3 (by decide) rfl ?_
  refine T_aload_n dX11_wayTold_4 rfl ?_
  refine T_getI dX11_wayTold_5 fX11_116 rfl SH_218 ?_
  refine n_cut (h (fun (s0 : Int) => n_T G d 0 0 mX11_wayTold 16 [vR 218, vI 0, vI (-1), vS 9, vS 9, vS 9] [vI s0] SH v Q)) ?_ ?_
  · intro s0 h
    refine T_istore_n dX11_wayTold_16 (by decide) rfl ?_
    refine T_drop (h (fun (i1 : Int) (i2 : Int) (i3 : Int) (v17 : VT) => n_T G d 0 0 mX11_wayTold 17 [vR 218, vI i1, vI i2, vI i3, vS 9, vS 9] [] SH v17 Q) (fun i1 i2 i3 v17 h => ?_)) ⟨Or.inl rfl, Or.inl rfl, Or.inl rfl, Or.inl rfl, Or.inr rfl, Or.inr rfl, trivial⟩
    refine T_iload_n dX11_wayTold_17 rfl ?_
    refine U_if_eq (tgt := 216) dX11_wayTold_18 (by decide) (fun hc => ?_) (fun hc => ?_)
    · replace h := h.1 hc
      exact T_vret dX11_wayTold_216 rfl (hQ _ h)
    · replace h := h.2 hc
      refine T_aload_n dX11_wayTold_21 rfl ?_
      refine T_iload_n dX11_wayTold_22 rfl ?_
      refine U_callV (as := [vI i1]) (st := []) dX11_wayTold_23 kX11_room lX11_158 SH_218 rfl rfl rfl rfl (Nat.le_of_ble_eq_true rfl) (Nat.le_of_ble_eq_true rfl) (by omega) ?_
      refine W_X11_room (by omega)  h (fun v23 h => ?_)
      show n_T G d 0 0 mX11_wayTold 26 [vR 218, vI i1, vI i2, vI i3, vS 9, vS 9] [] SH v23 Q
      refine T_aload_n dX11_wayTold_26 rfl ?_
      refine U_callV (as := []) (st := []) dX11_wayTold_27 kX11_name lX11_162 SH_218 rfl rfl rfl rfl (Nat.le_of_ble_eq_true rfl) (Nat.le_of_ble_eq_true rfl) (by omega) ?_
      refine W_X11_name (by omega)  h (fun r27 v27 h => ?_)
      show n_T G d 0 0 mX11_wayTold 30 [vR 218, vI i1, vI i2, vI i3, vS 9, vS 9] [vI r27] SH v27 Q
      refine T_istore dX11_wayTold_30 (by decide) rfl ?_
      refine T_aload_n dX11_wayTold_32 rfl ?_
      refine T_getI dX11_wayTold_33 fX11_116 rfl SH_218 ?_
      refine n_cut (h (fun (s0_1 : Int) => n_T G d 0 0 mX11_wayTold 52 [vR 218, vI i1, vI i2, vS 9, vS 9, vS 9] [vI s0_1] SH v27 Q)) ?_ ?_
      · intro s0_1 h
        refine T_istore dX11_wayTold_52 (by decide) rfl ?_
        refine T_aload_n dX11_wayTold_54 rfl ?_
        refine T_getI dX11_wayTold_55 fX11_116 rfl SH_218 ?_
        refine n_cut (h (fun (v76 : VT) => n_T G d 0 0 mX11_wayTold 76 [vR 218, vI i1, vI i2, vS 9, vS 9, vI s0_1] [] SH v76 Q)) ?_ ?_
        · intro v76 h
          refine T_aload_n dX11_wayTold_76 rfl ?_
          refine T_getI dX11_wayTold_77 fX11_116 rfl SH_218 ?_
          refine n_cut (h (fun (v116 : VT) => n_T G d 0 0 mX11_wayTold 116 [vR 218, vI i1, vI i2, vS 9, vS 9, vI s0_1] [] SH v116 Q)) ?_ ?_
          · intro v116 h
            refine T_aload_n dX11_wayTold_116 rfl ?_
            refine T_getI dX11_wayTold_117 fX11_116 rfl SH_218 ?_
            refine n_cut (h (fun (v147 : VT) => n_T G d 0 0 mX11_wayTold 147 [vR 218, vI i1, vI i2, vS 9, vS 9, vI s0_1] [] SH v147 Q)) ?_ ?_
            · intro v147 h
              refine T_aload_n dX11_wayTold_147 rfl ?_
              refine T_getI dX11_wayTold_148 fX11_116 rfl SH_218 ?_
              refine n_cut (h (fun (v169 : VT) => n_T G d 0 0 mX11_wayTold 169 [vR 218, vI i1, vS 9, vS 9, vS 9, vI s0_1] [] SH v169 Q)) ?_ ?_
              · intro v169 h
                refine T_iload dX11_wayTold_169 rfl ?_
                refine T_istore_n dX11_wayTold_171 (by decide) rfl ?_
                refine U_iinc dX11_wayTold_172 rfl (by decide) rfl h.1 ?_
                replace h := h.2
                refine T_iload_n dX11_wayTold_175 rfl ?_
                refine T_iconst dX11_wayTold_176 (by decide) ?_
                refine n_cut (h (fun (v186 : VT) => n_T G d 0 0 mX11_wayTold 186 [vR 218, vI (i1 + 1), vI s0_1, vS 9, vS 9, vS 9] [] SH v186 Q)) ?_ ?_
                · intro v186 h
                  refine T_aload_n dX11_wayTold_186 rfl ?_
                  refine T_getI dX11_wayTold_187 fX11_116 rfl SH_218 ?_
                  refine U_if_ne (tgt := 211) dX11_wayTold_190 (by decide) (fun hc => ?_) (fun hc => ?_)
                  · replace h := h.1 hc
                    refine T_iconst dX11_wayTold_211 (by decide) ?_
                    refine T_istore_n dX11_wayTold_212 (by decide) rfl ?_
                    refine T_goto (tgt := 17) dX11_wayTold_213 (by decide) ?_
                    exact T_drop h ⟨Or.inl rfl, Or.inl rfl, Or.inl rfl, Or.inl rfl, Or.inr rfl, Or.inr rfl, trivial⟩
                  · replace h := h.2 hc
                    refine T_iload_n dX11_wayTold_193 rfl ?_
                    refine T_iconst dX11_wayTold_194 (by decide) ?_
                    refine U_icmp_eq (tgt := 207) dX11_wayTold_195 (by decide) (fun hc => ?_) (fun hc => ?_)
                    · replace h := h.1 hc
                      refine T_iconst dX11_wayTold_207 (by decide) ?_
                      refine T_goto (tgt := 212) dX11_wayTold_208 (by decide) ?_
                      refine T_istore_n dX11_wayTold_212 (by decide) rfl ?_
                      refine T_goto (tgt := 17) dX11_wayTold_213 (by decide) ?_
                      exact T_drop h ⟨Or.inl rfl, Or.inl rfl, Or.inl rfl, Or.inl rfl, Or.inr rfl, Or.inr rfl, trivial⟩
                    · replace h := h.2 hc
                      refine T_aload_n dX11_wayTold_198 rfl ?_
                      refine T_bipush dX11_wayTold_199 (by decide) ?_
                      refine U_callV (as := [vI 44]) (st := []) dX11_wayTold_201 kX11_takesSign lX11_132 SH_218 rfl rfl rfl rfl (Nat.le_of_ble_eq_true rfl) (Nat.le_of_ble_eq_true rfl) (by omega) ?_
                      refine W_X11_takesSign (by omega)  h (fun r201 v201 h => ?_)
                      show n_T G d 0 0 mX11_wayTold 204 [vR 218, vI (i1 + 1), vI s0_1, vS 9, vS 9, vS 9] [vI r201] SH v201 Q
                      refine U_if_eq (tgt := 211) dX11_wayTold_204 (by decide) (fun hc => ?_) (fun hc => ?_)
                      · replace h := h.1 hc
                        refine T_iconst dX11_wayTold_211 (by decide) ?_
                        refine T_istore_n dX11_wayTold_212 (by decide) rfl ?_
                        refine T_goto (tgt := 17) dX11_wayTold_213 (by decide) ?_
                        exact T_drop h ⟨Or.inl rfl, Or.inl rfl, Or.inl rfl, Or.inl rfl, Or.inr rfl, Or.inr rfl, trivial⟩
                      · replace h := h.2 hc
                        refine T_iconst dX11_wayTold_207 (by decide) ?_
                        refine T_goto (tgt := 212) dX11_wayTold_208 (by decide) ?_
                        refine T_istore_n dX11_wayTold_212 (by decide) rfl ?_
                        refine T_goto (tgt := 17) dX11_wayTold_213 (by decide) ?_
                        exact T_drop h ⟨Or.inl rfl, Or.inl rfl, Or.inl rfl, Or.inl rfl, Or.inr rfl, Or.inr rfl, trivial⟩
                · intro h
                  refine U_icmp_ne (tgt := 186) dX11_wayTold_177 (by decide) (fun hc => ?_) (fun hc => ?_)
                  · replace h := h.1 hc
                    exact T_drop h ⟨Or.inl rfl, Or.inl rfl, Or.inl rfl, Or.inr rfl, Or.inr rfl, Or.inr rfl, trivial⟩
                  · replace h := h.2 hc
                    refine T_aload_n dX11_wayTold_180 rfl ?_
                    refine T_bipush dX11_wayTold_181 (by decide) ?_
                    refine U_callV (as := [vI 44]) (st := []) dX11_wayTold_183 kX11_asksSign lX11_177 SH_218 rfl rfl rfl rfl (Nat.le_of_ble_eq_true rfl) (Nat.le_of_ble_eq_true rfl) (by omega) ?_
                    refine W_X11_asksSign (by omega)  h (fun v183 h => ?_)
                    show n_T G d 0 0 mX11_wayTold 186 [vR 218, vI (i1 + 1), vI s0_1, vS 9, vS 9, vI s0_1] [] SH v183 Q
                    exact T_drop h ⟨Or.inl rfl, Or.inl rfl, Or.inl rfl, Or.inr rfl, Or.inr rfl, Or.inr rfl, trivial⟩
              · intro h
                refine U_if_ne (tgt := 169) dX11_wayTold_151 (by decide) (fun hc => ?_) (fun hc => ?_)
                · replace h := h.1 hc
                  exact T_drop h ⟨Or.inl rfl, Or.inl rfl, Or.inr rfl, Or.inr rfl, Or.inr rfl, Or.inl rfl, trivial⟩
                · replace h := h.2 hc
                  refine T_iload_n dX11_wayTold_154 rfl ?_
                  refine U_if_le (tgt := 169) dX11_wayTold_155 (by decide) (fun hc => ?_) (fun hc => ?_)
                  · replace h := h.1 hc
                    exact T_drop h ⟨Or.inl rfl, Or.inl rfl, Or.inr rfl, Or.inr rfl, Or.inr rfl, Or.inl rfl, trivial⟩
                  · replace h := h.2 hc
                    refine T_aload_n dX11_wayTold_158 rfl ?_
                    refine T_getR (r := 221) dX11_wayTold_159 fX11_20 rfl SH_218 rfl ?_
                    refine T_iload_n dX11_wayTold_162 rfl ?_
                    refine T_iload dX11_wayTold_163 rfl ?_
                    refine T_iconst dX11_wayTold_165 (by decide) ?_
                    refine U_callS (as := [vR 221, vI i2, vI s0_1, vI 1]) (st := []) dX11_wayTold_166 kX11_adds lX11_173 rfl rfl (Nat.le_of_ble_eq_true rfl) (Nat.le_of_ble_eq_true rfl) (by omega) ?_
                    refine W_X11_adds (by omega) SH_221 h (fun v166 h => ?_)
                    show n_T G d 0 0 mX11_wayTold 169 [vR 218, vI i1, vI i2, vS 9, vS 9, vI s0_1] [] SH v166 Q
                    exact T_drop h ⟨Or.inl rfl, Or.inl rfl, Or.inr rfl, Or.inr rfl, Or.inr rfl, Or.inl rfl, trivial⟩
            · intro h
              refine U_if_ne (tgt := 147) dX11_wayTold_120 (by decide) (fun hc => ?_) (fun hc => ?_)
              · replace h := h.1 hc
                exact T_drop h ⟨Or.inl rfl, Or.inl rfl, Or.inl rfl, Or.inr rfl, Or.inr rfl, Or.inl rfl, trivial⟩
              · replace h := h.2 hc
                refine T_iload_n dX11_wayTold_123 rfl ?_
                refine U_if_le (tgt := 147) dX11_wayTold_124 (by decide) (fun hc => ?_) (fun hc => ?_)
                · replace h := h.1 hc
                  exact T_drop h ⟨Or.inl rfl, Or.inl rfl, Or.inl rfl, Or.inr rfl, Or.inr rfl, Or.inl rfl, trivial⟩
                · replace h := h.2 hc
                  refine T_aload_n dX11_wayTold_127 rfl ?_
                  refine T_getR (r := 221) dX11_wayTold_128 fX11_20 rfl SH_218 rfl ?_
                  refine T_iconst dX11_wayTold_131 (by decide) ?_
                  refine T_iald dX11_wayTold_132 SH_221 (by decide) ?_
                  refine T_bipush dX11_wayTold_133 (by decide) ?_
                  refine U_icmp_ne (tgt := 147) dX11_wayTold_135 (by decide) (fun hc => ?_) (fun hc => ?_)
                  · replace h := h.1 hc
                    exact T_drop h ⟨Or.inl rfl, Or.inl rfl, Or.inl rfl, Or.inr rfl, Or.inr rfl, Or.inl rfl, trivial⟩
                  · replace h := h.2 hc
                    refine T_aload_n dX11_wayTold_138 rfl ?_
                    refine T_iconst dX11_wayTold_139 (by decide) ?_
                    refine T_aload_n dX11_wayTold_140 rfl ?_
                    refine T_getI dX11_wayTold_141 fX11_155 rfl SH_218 ?_
                    refine U_callV (as := [vI 5, vI (v116 218 10)]) (st := []) dX11_wayTold_144 kX11_fail lX11_135 SH_218 rfl rfl rfl rfl (Nat.le_of_ble_eq_true rfl) (Nat.le_of_ble_eq_true rfl) (by omega) ?_
                    refine W_X11_fail (by omega)  h (fun v144 h => ?_)
                    show n_T G d 0 0 mX11_wayTold 147 [vR 218, vI i1, vI i2, vS 9, vS 9, vI s0_1] [] SH v144 Q
                    exact T_drop h ⟨Or.inl rfl, Or.inl rfl, Or.inl rfl, Or.inr rfl, Or.inr rfl, Or.inl rfl, trivial⟩
          · intro h
            refine U_if_ne (tgt := 116) dX11_wayTold_80 (by decide) (fun hc => ?_) (fun hc => ?_)
            · replace h := h.1 hc
              exact T_drop h ⟨Or.inl rfl, Or.inl rfl, Or.inl rfl, Or.inr rfl, Or.inr rfl, Or.inl rfl, trivial⟩
            · replace h := h.2 hc
              refine T_iload_n dX11_wayTold_83 rfl ?_
              refine U_if_le (tgt := 116) dX11_wayTold_84 (by decide) (fun hc => ?_) (fun hc => ?_)
              · replace h := h.1 hc
                exact T_drop h ⟨Or.inl rfl, Or.inl rfl, Or.inl rfl, Or.inr rfl, Or.inr rfl, Or.inl rfl, trivial⟩
              · replace h := h.2 hc
                refine T_iload dX11_wayTold_87 rfl ?_
                refine T_iload_n dX11_wayTold_89 rfl ?_
                refine n_cut (h (n_T G d 0 0 mX11_wayTold 107 [vR 218, vI i1, vI i2, vS 9, vS 9, vI s0_1] [] SH v76 Q)) ?_ ?_
                · intro h
                  refine T_aload_n dX11_wayTold_107 rfl ?_
                  refine T_iconst dX11_wayTold_108 (by decide) ?_
                  refine T_aload_n dX11_wayTold_109 rfl ?_
                  refine T_getI dX11_wayTold_110 fX11_155 rfl SH_218 ?_
                  refine U_callV (as := [vI 4, vI (v76 218 10)]) (st := []) dX11_wayTold_113 kX11_fail lX11_135 SH_218 rfl rfl rfl rfl (Nat.le_of_ble_eq_true rfl) (Nat.le_of_ble_eq_true rfl) (by omega) ?_
                  refine W_X11_fail (by omega)  h (fun v113 h => ?_)
                  show n_T G d 0 0 mX11_wayTold 116 [vR 218, vI i1, vI i2, vS 9, vS 9, vI s0_1] [] SH v113 Q
                  exact T_drop h ⟨Or.inl rfl, Or.inl rfl, Or.inl rfl, Or.inr rfl, Or.inr rfl, Or.inl rfl, trivial⟩
                · intro h
                  refine U_icmp_eq (tgt := 107) dX11_wayTold_90 (by decide) (fun hc => ?_) (fun hc => ?_)
                  · replace h := h.1 hc
                    exact T_drop h ⟨Or.inl rfl, Or.inl rfl, Or.inl rfl, Or.inr rfl, Or.inr rfl, Or.inl rfl, trivial⟩
                  · replace h := h.2 hc
                    refine T_aload_n dX11_wayTold_93 rfl ?_
                    refine T_getR (r := 221) dX11_wayTold_94 fX11_20 rfl SH_218 rfl ?_
                    refine T_iload_n dX11_wayTold_97 rfl ?_
                    refine T_iload dX11_wayTold_98 rfl ?_
                    refine U_callS (as := [vR 221, vI i2, vI s0_1]) (st := []) dX11_wayTold_100 kX11_lineOf lX11_169 rfl rfl (Nat.le_of_ble_eq_true rfl) (Nat.le_of_ble_eq_true rfl) (by omega) ?_
                    refine W_X11_lineOf (by omega) SH_221 h (fun r100 h => ?_)
                    show n_T G d 0 0 mX11_wayTold 103 [vR 218, vI i1, vI i2, vS 9, vS 9, vI s0_1] [vI r100] SH v76 Q
                    refine T_iconst dX11_wayTold_103 (by decide) ?_
                    refine U_icmp_eq (tgt := 116) dX11_wayTold_104 (by decide) (fun hc => ?_) (fun hc => ?_)
                    · replace h := h.1 hc
                      exact T_drop h ⟨Or.inl rfl, Or.inl rfl, Or.inl rfl, Or.inr rfl, Or.inr rfl, Or.inl rfl, trivial⟩
                    · replace h := h.2 hc
                      exact T_drop h ⟨Or.inl rfl, Or.inl rfl, Or.inl rfl, Or.inr rfl, Or.inr rfl, Or.inl rfl, trivial⟩
        · intro h
          refine U_if_ne (tgt := 76) dX11_wayTold_58 (by decide) (fun hc => ?_) (fun hc => ?_)
          · replace h := h.1 hc
            exact T_drop h ⟨Or.inl rfl, Or.inl rfl, Or.inl rfl, Or.inr rfl, Or.inr rfl, Or.inl rfl, trivial⟩
          · replace h := h.2 hc
            refine T_iload dX11_wayTold_61 rfl ?_
            refine T_iconst dX11_wayTold_63 (by decide) ?_
            refine U_icmp_ne (tgt := 76) dX11_wayTold_64 (by decide) (fun hc => ?_) (fun hc => ?_)
            · replace h := h.1 hc
              exact T_drop h ⟨Or.inl rfl, Or.inl rfl, Or.inl rfl, Or.inr rfl, Or.inr rfl, Or.inl rfl, trivial⟩
            · replace h := h.2 hc
              refine T_aload_n dX11_wayTold_67 rfl ?_
              refine T_iconst dX11_wayTold_68 (by decide) ?_
              refine T_aload_n dX11_wayTold_69 rfl ?_
              refine T_getI dX11_wayTold_70 fX11_155 rfl SH_218 ?_
              refine U_callV (as := [vI 3, vI (v27 218 10)]) (st := []) dX11_wayTold_73 kX11_fail lX11_135 SH_218 rfl rfl rfl rfl (Nat.le_of_ble_eq_true rfl) (Nat.le_of_ble_eq_true rfl) (by omega) ?_
              refine W_X11_fail (by omega)  h (fun v73 h => ?_)
              show n_T G d 0 0 mX11_wayTold 76 [vR 218, vI i1, vI i2, vS 9, vS 9, vI s0_1] [] SH v73 Q
              exact T_drop h ⟨Or.inl rfl, Or.inl rfl, Or.inl rfl, Or.inr rfl, Or.inr rfl, Or.inl rfl, trivial⟩
      · intro h
        refine U_if_ne (tgt := 51) dX11_wayTold_36 (by decide) (fun hc => ?_) (fun hc => ?_)
        · replace h := h.1 hc
          refine T_iconst dX11_wayTold_51 (by decide) ?_
          exact T_drop h ⟨Or.inl rfl, Or.inl rfl, Or.inl rfl, Or.inr rfl, Or.inr rfl, Or.inr rfl, trivial⟩
        · replace h := h.2 hc
          refine T_aload_n dX11_wayTold_39 rfl ?_
          refine T_getR (r := 221) dX11_wayTold_40 fX11_20 rfl SH_218 rfl ?_
          refine T_iload dX11_wayTold_43 rfl ?_
          refine U_callS (as := [vR 221, vI r27]) (st := []) dX11_wayTold_45 kX11_nodeNamed lX11_165 rfl rfl (Nat.le_of_ble_eq_true rfl) (Nat.le_of_ble_eq_true rfl) (by omega) ?_
          refine W_X11_nodeNamed (by omega) SH_221 h (fun r45 h => ?_)
          show n_T G d 0 0 mX11_wayTold 48 [vR 218, vI i1, vI i2, vI i3, vI r27, vS 9] [vI r45] SH v27 Q
          refine T_goto (tgt := 52) dX11_wayTold_48 (by decide) ?_
          exact T_drop h ⟨Or.inl rfl, Or.inl rfl, Or.inl rfl, Or.inr rfl, Or.inr rfl, Or.inr rfl, trivial⟩
  · intro h
    refine U_if_ne (tgt := 15) dX11_wayTold_8 (by decide) (fun hc => ?_) (fun hc => ?_)
    · replace h := h.1 hc
      refine T_iconst dX11_wayTold_15 (by decide) ?_
      exact T_drop h ⟨Or.inl rfl, Or.inl rfl, Or.inl rfl, Or.inr rfl, Or.inr rfl, Or.inr rfl, trivial⟩
    · replace h := h.2 hc
      refine T_iconst dX11_wayTold_11 (by decide) ?_
      refine T_goto (tgt := 16) dX11_wayTold_12 (by decide) ?_
      exact T_drop h ⟨Or.inl rfl, Or.inl rfl, Or.inl rfl, Or.inr rfl, Or.inr rfl, Or.inr rfl, trivial⟩

theorem W_X11_statementTold {G : GT} {d : Nat} (hd : 6 ≤ d)    {v : VT} {q : VT → Prop} {Q : Option Vl → List Sh → VT → Prop} (h : P_X11_statementTold  v q) (hQ : ∀ w, q w → Q none SH w) : n_T G d 0 0 mX11_statementTold 0 [vR 218, vS 9, vS 9] [] SH v Q := by
  unfold P_X11_statementTold at h
  refine T_aload_n dX11_statementTold_0 rfl ?_
  refine U_callV (as := []) (st := []) dX11_statementTold_1 kX11_look lX11_128 SH_218 rfl rfl rfl rfl (Nat.le_of_ble_eq_true rfl) (Nat.le_of_ble_eq_true rfl) (by omega) ?_
  refine W_X11_look (by omega)  h (fun r1 v1 h => ?_)
  show n_T G d 0 0 mX11_statementTold 4 [vR 218, vS 9, vS 9] [vI r1] SH v1 Q
  refine T_pop dX11_statementTold_4 rfl ?_
  refine T_aload_n dX11_statementTold_5 rfl ?_
  refine T_getI dX11_statementTold_6 fX11_122 rfl SH_218 ?_
  refine T_istore_n dX11_statementTold_9 (by decide) rfl ?_
  refine T_aload_n dX11_statementTold_10 rfl ?_
  refine U_callV (as := []) (st := []) dX11_statementTold_11 kX11_ownHere lX11_152 SH_218 rfl rfl rfl rfl (Nat.le_of_ble_eq_true rfl) (Nat.le_of_ble_eq_true rfl) (by omega) ?_
  refine W_X11_ownHere (by omega)  h (fun r11 v11 h => ?_)
  show n_T G d 0 0 mX11_statementTold 14 [vR 218, vI (v1 218 2), vS 9] [vI r11] SH v11 Q
  refine T_istore_n dX11_statementTold_14 (by decide) rfl ?_
  refine T_iload_n dX11_statementTold_15 rfl ?_
  refine T_iconst dX11_statementTold_16 (by decide) ?_
  refine n_cut (h (fun (v42 : VT) => n_T G d 0 0 mX11_statementTold 42 [vR 218, vS 9, vI r11] [] SH v42 Q)) ?_ ?_
  · intro v42 h
    refine T_aload_n dX11_statementTold_42 rfl ?_
    refine T_getI dX11_statementTold_43 fX11_116 rfl SH_218 ?_
    refine n_cut (h (fun (v72 : VT) => n_T G d 0 0 mX11_statementTold 72 [vR 218, vS 9, vS 9] [] SH v72 Q)) ?_ ?_
    · intro v72 h
      refine T_aload_n dX11_statementTold_72 rfl ?_
      refine T_bipush dX11_statementTold_73 (by decide) ?_
      refine U_callV (as := [vI 59]) (st := []) dX11_statementTold_75 kX11_asksSign lX11_177 SH_218 rfl rfl rfl rfl (Nat.le_of_ble_eq_true rfl) (Nat.le_of_ble_eq_true rfl) (by omega) ?_
      refine W_X11_asksSign (by omega)  h (fun v75 h => ?_)
      show n_T G d 0 0 mX11_statementTold 78 [vR 218, vS 9, vS 9] [] SH v75 Q
      refine T_aload_n dX11_statementTold_78 rfl ?_
      refine T_dup dX11_statementTold_79 rfl ?_
      refine T_getI dX11_statementTold_80 fX11_180 rfl SH_218 ?_
      refine T_iconst dX11_statementTold_83 (by decide) ?_
      refine U_iadd dX11_statementTold_84 h.1 ?_
      replace h := h.2
      refine U_putI dX11_statementTold_85 fX11_180 rfl rfl SH_218 (fun v85 ev85 => ?_)
      replace h := h v85 ev85
      exact T_vret dX11_statementTold_88 rfl (hQ _ h)
    · intro h
      refine U_if_ne (tgt := 72) dX11_statementTold_46 (by decide) (fun hc => ?_) (fun hc => ?_)
      · replace h := h.1 hc
        exact T_drop h ⟨Or.inl rfl, Or.inr rfl, Or.inr rfl, trivial⟩
      · replace h := h.2 hc
        refine T_aload_n dX11_statementTold_49 rfl ?_
        refine T_iload_n dX11_statementTold_50 rfl ?_
        refine U_callV (as := [vI r11]) (st := []) dX11_statementTold_51 kX11_takes lX11_183 SH_218 rfl rfl rfl rfl (Nat.le_of_ble_eq_true rfl) (Nat.le_of_ble_eq_true rfl) (by omega) ?_
        refine W_X11_takes (by omega)  h (fun r51 v51 h => ?_)
        show n_T G d 0 0 mX11_statementTold 54 [vR 218, vS 9, vI r11] [vI r51] SH v51 Q
        refine U_if_eq (tgt := 72) dX11_statementTold_54 (by decide) (fun hc => ?_) (fun hc => ?_)
        · replace h := h.1 hc
          exact T_drop h ⟨Or.inl rfl, Or.inr rfl, Or.inr rfl, trivial⟩
        · replace h := h.2 hc
          refine T_iload_n dX11_statementTold_57 rfl ?_
          refine U_if_ne (tgt := 68) dX11_statementTold_58 (by decide) (fun hc => ?_) (fun hc => ?_)
          · replace h := h.1 hc
            refine T_aload_n dX11_statementTold_68 rfl ?_
            refine U_callV (as := []) (st := []) dX11_statementTold_69 kX11_wayTold lX11_189 SH_218 rfl rfl rfl rfl (Nat.le_of_ble_eq_true rfl) (Nat.le_of_ble_eq_true rfl) (by omega) ?_
            refine W_X11_wayTold (by omega)  h (fun v69 h => ?_)
            show n_T G d 0 0 mX11_statementTold 72 [vR 218, vS 9, vI r11] [] SH v69 Q
            exact T_drop h ⟨Or.inl rfl, Or.inr rfl, Or.inr rfl, trivial⟩
          · replace h := h.2 hc
            refine T_aload_n dX11_statementTold_61 rfl ?_
            refine U_callV (as := []) (st := []) dX11_statementTold_62 kX11_nodesTold lX11_186 SH_218 rfl rfl rfl rfl (Nat.le_of_ble_eq_true rfl) (Nat.le_of_ble_eq_true rfl) (by omega) ?_
            refine W_X11_nodesTold (by omega)  h (fun v62 h => ?_)
            show n_T G d 0 0 mX11_statementTold 65 [vR 218, vS 9, vI r11] [] SH v62 Q
            refine T_goto (tgt := 72) dX11_statementTold_65 (by decide) ?_
            exact T_drop h ⟨Or.inl rfl, Or.inr rfl, Or.inr rfl, trivial⟩
  · intro h
    refine n_cut (h (n_T G d 0 0 mX11_statementTold 36 [vR 218, vI (v1 218 2), vI r11] [] SH v11 Q)) ?_ ?_
    · intro h
      refine T_aload_n dX11_statementTold_36 rfl ?_
      refine T_iconst dX11_statementTold_37 (by decide) ?_
      refine T_iload_n dX11_statementTold_38 rfl ?_
      refine U_callV (as := [vI 1, vI (v1 218 2)]) (st := []) dX11_statementTold_39 kX11_fail lX11_135 SH_218 rfl rfl rfl rfl (Nat.le_of_ble_eq_true rfl) (Nat.le_of_ble_eq_true rfl) (by omega) ?_
      refine W_X11_fail (by omega)  h (fun v39 h => ?_)
      show n_T G d 0 0 mX11_statementTold 42 [vR 218, vI (v1 218 2), vI r11] [] SH v39 Q
      exact T_drop h ⟨Or.inl rfl, Or.inr rfl, Or.inl rfl, trivial⟩
    · intro h
      refine U_icmp_eq (tgt := 36) dX11_statementTold_17 (by decide) (fun hc => ?_) (fun hc => ?_)
      · replace h := h.1 hc
        exact T_drop h ⟨Or.inl rfl, Or.inl rfl, Or.inl rfl, trivial⟩
      · replace h := h.2 hc
        refine T_iload_n dX11_statementTold_20 rfl ?_
        refine T_aload_n dX11_statementTold_21 rfl ?_
        refine T_getI dX11_statementTold_22 fX11_180 rfl SH_218 ?_
        refine n_cut (h (fun (s0 : Int) => n_T G d 0 0 mX11_statementTold 33 [vR 218, vI (v1 218 2), vI r11] [vI s0, vI r11] SH v11 Q)) ?_ ?_
        · intro s0 h
          refine U_icmp_eq (tgt := 42) dX11_statementTold_33 (by decide) (fun hc => ?_) (fun hc => ?_)
          · replace h := h.1 hc
            exact T_drop h ⟨Or.inl rfl, Or.inr rfl, Or.inl rfl, trivial⟩
          · replace h := h.2 hc
            exact T_drop h ⟨Or.inl rfl, Or.inl rfl, Or.inl rfl, trivial⟩
        · intro h
          refine U_if_ne (tgt := 32) dX11_statementTold_25 (by decide) (fun hc => ?_) (fun hc => ?_)
          · replace h := h.1 hc
            refine T_iconst dX11_statementTold_32 (by decide) ?_
            exact T_drop h ⟨Or.inl rfl, Or.inl rfl, Or.inl rfl, trivial⟩
          · replace h := h.2 hc
            refine T_iconst dX11_statementTold_28 (by decide) ?_
            refine T_goto (tgt := 33) dX11_statementTold_29 (by decide) ?_
            exact T_drop h ⟨Or.inl rfl, Or.inl rfl, Or.inl rfl, trivial⟩

theorem W_X11_net {G : GT} {d : Nat} (hd : 7 ≤ d)    {v : VT} {q : Int → VT → Prop} {Q : Option Vl → List Sh → VT → Prop} (h : P_X11_net  v q) (hQ : ∀ r w, q r w → Q (some (vI r)) SH w) : n_T G d 0 0 mX11_net 0 [vR 218, vS 9] [] SH v Q := by
  unfold P_X11_net at h
  refine T_aload_n dX11_net_0 rfl ?_
  refine T_aload_n dX11_net_1 rfl ?_
  refine T_getI dX11_net_2 fX11_96 rfl SH_218 ?_
  refine U_putI dX11_net_5 fX11_125 rfl rfl SH_218 (fun v5 ev5 => ?_)
  replace h := h v5 ev5
  refine T_aload_n dX11_net_8 rfl ?_
  refine T_iconst dX11_net_9 (by decide) ?_
  refine U_putI dX11_net_10 fX11_96 rfl rfl SH_218 (fun v10 ev10 => ?_)
  replace h := h v10 ev10
  refine T_aload_n dX11_net_13 rfl ?_
  refine T_iconst dX11_net_14 (by decide) ?_
  refine U_putI dX11_net_15 fX11_122 rfl rfl SH_218 (fun v15 ev15 => ?_)
  replace h := h v15 ev15
  refine T_aload_n dX11_net_18 rfl ?_
  refine T_iconst dX11_net_19 (by decide) ?_
  refine U_putI dX11_net_20 fX11_142 rfl rfl SH_218 (fun v20 ev20 => ?_)
  replace h := h v20 ev20
  refine T_aload_n dX11_net_23 rfl ?_
  refine T_iconst dX11_net_24 (by decide) ?_
  refine U_putI dX11_net_25 fX11_116 rfl rfl SH_218 (fun v25 ev25 => ?_)
  replace h := h v25 ev25
  refine T_aload_n dX11_net_28 rfl ?_
  refine T_iconst dX11_net_29 (by decide) ?_
  refine U_putI dX11_net_30 fX11_119 rfl rfl SH_218 (fun v30 ev30 => ?_)
  replace h := h v30 ev30
  refine T_aload_n dX11_net_33 rfl ?_
  refine T_iconst dX11_net_34 (by decide) ?_
  refine U_putI dX11_net_35 fX11_180 rfl rfl SH_218 (fun v35 ev35 => ?_)
  replace h := h v35 ev35
  refine T_iconst dX11_net_38 (by decide) ?_
  refine T_istore_n dX11_net_39 (by decide) rfl ?_
  refine n_cut (h (fun (v60 : VT) => n_T G d 0 0 mX11_net 60 [vR 218, vS 9] [] SH v60 Q)) ?_ ?_
  · intro v60 h
    refine T_aload_n dX11_net_60 rfl ?_
    refine U_callV (as := []) (st := []) dX11_net_61 kX11_statementTold lX11_192 SH_218 rfl rfl rfl rfl (Nat.le_of_ble_eq_true rfl) (Nat.le_of_ble_eq_true rfl) (by omega) ?_
    refine W_X11_statementTold (by omega)  h (fun v61 h => ?_)
    show n_T G d 0 0 mX11_net 64 [vR 218, vS 9] [] SH v61 Q
    refine n_cut (h (fun (v86 : VT) => n_T G d 0 0 mX11_net 86 [vR 218, vS 9] [] SH v86 Q)) ?_ ?_
    · intro v86 h
      refine T_aload_n dX11_net_86 rfl ?_
      refine T_aload_n dX11_net_87 rfl ?_
      refine T_getI dX11_net_88 fX11_116 rfl SH_218 ?_
      refine U_putI dX11_net_91 fX11_113 rfl rfl SH_218 (fun v91 ev91 => ?_)
      replace h := h v91 ev91
      refine T_aload_n dX11_net_94 rfl ?_
      refine T_aload_n dX11_net_95 rfl ?_
      refine T_getI dX11_net_96 fX11_119 rfl SH_218 ?_
      refine U_putI dX11_net_99 fX11_13 rfl rfl SH_218 (fun v99 ev99 => ?_)
      replace h := h v99 ev99
      refine T_aload_n dX11_net_102 rfl ?_
      refine T_getI dX11_net_103 fX11_116 rfl SH_218 ?_
      refine U_if_eq (tgt := 115) dX11_net_106 (by decide) (fun hc => ?_) (fun hc => ?_)
      · replace h := h.1 hc
        refine T_iconst dX11_net_115 (by decide) ?_
        refine T_istore_n dX11_net_116 (by decide) rfl ?_
        refine n_cut (h (fun (v142 : VT) => n_T G d 0 0 mX11_net 142 [vR 218, vS 9] [] SH v142 Q)) ?_ ?_
        · intro v142 h
          refine T_aload_n dX11_net_142 rfl ?_
          refine T_iconst dX11_net_143 (by decide) ?_
          refine U_putZ dX11_net_144 fX11_195 rfl rfl SH_218 (by decide) (fun v144 ev144 => ?_)
          replace h := h v144 ev144
          refine T_aload_n dX11_net_147 rfl ?_
          refine T_iconst dX11_net_148 (by decide) ?_
          refine U_putI dX11_net_149 fX11_199 rfl rfl SH_218 (fun v149 ev149 => ?_)
          replace h := h v149 ev149
          refine T_aload_n dX11_net_152 rfl ?_
          refine T_iconst dX11_net_153 (by decide) ?_
          refine U_putI dX11_net_154 fX11_202 rfl rfl SH_218 (fun v154 ev154 => ?_)
          replace h := h v154 ev154
          refine T_aload_n dX11_net_157 rfl ?_
          refine T_iconst dX11_net_158 (by decide) ?_
          refine U_putI dX11_net_159 fX11_205 rfl rfl SH_218 (fun v159 ev159 => ?_)
          replace h := h v159 ev159
          refine T_aload_n dX11_net_162 rfl ?_
          refine T_getI dX11_net_163 fX11_180 rfl SH_218 ?_
          exact T_iret dX11_net_166 rfl (hQ _ _ h)
        · intro h
          refine T_drop (h (fun (i1 : Int) (v117 : VT) => n_T G d 0 0 mX11_net 117 [vR 218, vI i1] [] SH v117 Q) (fun i1 v117 h => ?_)) ⟨Or.inl rfl, Or.inl rfl, trivial⟩
          refine T_iload_n dX11_net_117 rfl ?_
          refine T_sipush dX11_net_118 (by decide) ?_
          refine U_icmp_ge (tgt := 142) dX11_net_121 (by decide) (fun hc => ?_) (fun hc => ?_)
          · replace h := h.1 hc
            exact T_drop h ⟨Or.inl rfl, Or.inr rfl, trivial⟩
          · replace h := h.2 hc
            refine T_aload_n dX11_net_124 rfl ?_
            refine T_getR (r := 222) dX11_net_125 fX11_23 rfl SH_218 rfl ?_
            refine T_iload_n dX11_net_128 rfl ?_
            refine T_aload_n dX11_net_129 rfl ?_
            refine T_getR (r := 221) dX11_net_130 fX11_20 rfl SH_218 rfl ?_
            refine T_iload_n dX11_net_133 rfl ?_
            refine T_iald dX11_net_134 SH_221 h.1 ?_
            replace h := h.2
            refine U_iast dX11_net_135 SH_222 h.1 (fun v135 ev135 => ?_)
            replace h := h.2 v135 ev135
            refine U_iinc dX11_net_136 rfl (by decide) rfl h.1 ?_
            replace h := h.2
            refine T_goto (tgt := 117) dX11_net_139 (by decide) ?_
            exact T_drop h ⟨Or.inl rfl, Or.inl rfl, trivial⟩
      · replace h := h.2 hc
        refine T_aload_n dX11_net_109 rfl ?_
        refine T_iconst dX11_net_110 (by decide) ?_
        refine U_callV (as := [vI 1]) (st := []) dX11_net_111 kX11_refuses lX11_99 SH_218 rfl rfl rfl rfl (Nat.le_of_ble_eq_true rfl) (Nat.le_of_ble_eq_true rfl) (by omega) ?_
        refine W_X11_refuses (by omega)  h (fun r111 v111 h => ?_)
        show n_T G d 0 0 mX11_net 114 [vR 218, vS 9] [vI r111] SH v111 Q
        exact T_iret dX11_net_114 rfl (hQ _ _ h)
    · intro h
      refine T_drop (h (fun (v64 : VT) => n_T G d 0 0 mX11_net 64 [vR 218, vS 9] [] SH v64 Q) (fun v64 h => ?_)) ⟨Or.inl rfl, Or.inr rfl, trivial⟩
      refine T_aload_n dX11_net_64 rfl ?_
      refine T_getI dX11_net_65 fX11_116 rfl SH_218 ?_
      refine U_if_ne (tgt := 86) dX11_net_68 (by decide) (fun hc => ?_) (fun hc => ?_)
      · replace h := h.1 hc
        exact T_drop h ⟨Or.inl rfl, Or.inr rfl, trivial⟩
      · replace h := h.2 hc
        refine T_aload_n dX11_net_71 rfl ?_
        refine U_callV (as := []) (st := []) dX11_net_72 kX11_look lX11_128 SH_218 rfl rfl rfl rfl (Nat.le_of_ble_eq_true rfl) (Nat.le_of_ble_eq_true rfl) (by omega) ?_
        refine W_X11_look (by omega)  h (fun r72 v72 h => ?_)
        show n_T G d 0 0 mX11_net 75 [vR 218, vS 9] [vI r72] SH v72 Q
        refine T_iconst dX11_net_75 (by decide) ?_
        refine U_icmp_eq (tgt := 86) dX11_net_76 (by decide) (fun hc => ?_) (fun hc => ?_)
        · replace h := h.1 hc
          exact T_drop h ⟨Or.inl rfl, Or.inr rfl, trivial⟩
        · replace h := h.2 hc
          refine T_aload_n dX11_net_79 rfl ?_
          refine U_callV (as := []) (st := []) dX11_net_80 kX11_statementTold lX11_192 SH_218 rfl rfl rfl rfl (Nat.le_of_ble_eq_true rfl) (Nat.le_of_ble_eq_true rfl) (by omega) ?_
          refine W_X11_statementTold (by omega)  h (fun v80 h => ?_)
          show n_T G d 0 0 mX11_net 83 [vR 218, vS 9] [] SH v80 Q
          refine T_goto (tgt := 64) dX11_net_83 (by decide) ?_
          exact T_drop h ⟨Or.inl rfl, Or.inr rfl, trivial⟩
  · intro h
    refine T_drop (h (fun (i1_1 : Int) (v40 : VT) => n_T G d 0 0 mX11_net 40 [vR 218, vI i1_1] [] SH v40 Q) (fun i1_1 v40 h => ?_)) ⟨Or.inl rfl, Or.inl rfl, trivial⟩
    refine T_iload_n dX11_net_40 rfl ?_
    refine T_sipush dX11_net_41 (by decide) ?_
    refine U_icmp_ge (tgt := 60) dX11_net_44 (by decide) (fun hc => ?_) (fun hc => ?_)
    · replace h := h.1 hc
      exact T_drop h ⟨Or.inl rfl, Or.inr rfl, trivial⟩
    · replace h := h.2 hc
      refine T_aload_n dX11_net_47 rfl ?_
      refine T_getR (r := 221) dX11_net_48 fX11_20 rfl SH_218 rfl ?_
      refine T_iload_n dX11_net_51 rfl ?_
      refine T_iconst dX11_net_52 (by decide) ?_
      refine U_iast dX11_net_53 SH_221 h.1 (fun v53 ev53 => ?_)
      replace h := h.2 v53 ev53
      refine U_iinc dX11_net_54 rfl (by decide) rfl h.1 ?_
      replace h := h.2
      refine T_goto (tgt := 40) dX11_net_57 (by decide) ?_
      exact T_drop h ⟨Or.inl rfl, Or.inl rfl, trivial⟩

theorem W_X11_isNode {G : GT} {d : Nat} (hd : 2 ≤ d) {x1 : Int}   {v : VT} {q : Int → Prop} {Q : Option Vl → List Sh → VT → Prop} (h : P_X11_isNode x1 v q) (hQ : ∀ r, q r → Q (some (vI r)) SH v) : n_T G d 0 0 mX11_isNode 0 [vR 218, vI x1] [] SH v Q := by
  unfold P_X11_isNode at h
  refine T_iload_n dX11_isNode_0 rfl ?_
  refine T_i2l dX11_isNode_1 ?_
  refine T_lconst dX11_isNode_2 ?_
  refine T_aload_n dX11_isNode_3 rfl ?_
  refine T_getR (r := 222) dX11_isNode_4 fX11_23 rfl SH_218 rfl ?_
  refine T_iconst dX11_isNode_7 (by decide) ?_
  refine T_iald dX11_isNode_8 SH_222 (by decide) ?_
  refine T_iconst dX11_isNode_9 (by decide) ?_
  refine U_isub dX11_isNode_10 h.1 ?_
  replace h := h.2
  refine T_i2l dX11_isNode_11 ?_
  refine U_callS (as := [vJ x1, vJ 0, vJ ((v 222 0) - 1)]) (st := []) dX11_isNode_12 kX11_isIn lX11_109 rfl rfl (Nat.le_of_ble_eq_true rfl) (Nat.le_of_ble_eq_true rfl) (by omega) ?_
  refine W_X11_isIn (by omega)  h (fun r12 h => ?_)
  show n_T G d 0 0 mX11_isNode 15 [vR 218, vI x1] [vI r12] SH v Q
  exact T_zret dX11_isNode_15 rfl h.1 (hQ _ h.2)

theorem W_X11_isLine {G : GT} {d : Nat} (hd : 2 ≤ d) {x1 : Int}   {v : VT} {q : Int → Prop} {Q : Option Vl → List Sh → VT → Prop} (h : P_X11_isLine x1 v q) (hQ : ∀ r, q r → Q (some (vI r)) SH v) : n_T G d 0 0 mX11_isLine 0 [vR 218, vI x1] [] SH v Q := by
  unfold P_X11_isLine at h
  refine T_iload_n dX11_isLine_0 rfl ?_
  refine T_i2l dX11_isLine_1 ?_
  refine T_lconst dX11_isLine_2 ?_
  refine T_aload_n dX11_isLine_3 rfl ?_
  refine T_getR (r := 222) dX11_isLine_4 fX11_23 rfl SH_218 rfl ?_
  refine T_iconst dX11_isLine_7 (by decide) ?_
  refine T_iald dX11_isLine_8 SH_222 (by decide) ?_
  refine T_iconst dX11_isLine_9 (by decide) ?_
  refine U_isub dX11_isLine_10 h.1 ?_
  replace h := h.2
  refine T_i2l dX11_isLine_11 ?_
  refine U_callS (as := [vJ x1, vJ 0, vJ ((v 222 1) - 1)]) (st := []) dX11_isLine_12 kX11_isIn lX11_109 rfl rfl (Nat.le_of_ble_eq_true rfl) (Nat.le_of_ble_eq_true rfl) (by omega) ?_
  refine W_X11_isIn (by omega)  h (fun r12 h => ?_)
  show n_T G d 0 0 mX11_isLine 15 [vR 218, vI x1] [vI r12] SH v Q
  exact T_zret dX11_isLine_15 rfl h.1 (hQ _ h.2)

theorem W_X11_low {G : GT} {d : Nat} (hd : 1 ≤ d) {x1 : Int}   {v : VT} {q : Int → Prop} {Q : Option Vl → List Sh → VT → Prop} (h : P_X11_low x1 v q) (hQ : ∀ r, q r → Q (some (vI r)) SH v) : n_T G d 0 0 mX11_low 0 [vR 218, vI x1] [] SH v Q := by
  unfold P_X11_low at h
  refine T_aload_n dX11_low_0 rfl ?_
  refine T_getR (r := 222) dX11_low_1 fX11_23 rfl SH_218 rfl ?_
  refine T_bipush dX11_low_4 (by decide) ?_
  refine T_iconst dX11_low_6 (by decide) ?_
  refine T_iload_n dX11_low_7 rfl ?_
  refine U_imul dX11_low_8 h.1 ?_
  replace h := h.2
  refine U_iadd dX11_low_9 h.1 ?_
  replace h := h.2
  refine T_iald dX11_low_10 SH_222 h.1 ?_
  replace h := h.2
  exact T_iret dX11_low_11 rfl (hQ _ h)

theorem W_X11_high {G : GT} {d : Nat} (hd : 1 ≤ d) {x1 : Int}   {v : VT} {q : Int → Prop} {Q : Option Vl → List Sh → VT → Prop} (h : P_X11_high x1 v q) (hQ : ∀ r, q r → Q (some (vI r)) SH v) : n_T G d 0 0 mX11_high 0 [vR 218, vI x1] [] SH v Q := by
  unfold P_X11_high at h
  refine T_aload_n dX11_high_0 rfl ?_
  refine T_getR (r := 222) dX11_high_1 fX11_23 rfl SH_218 rfl ?_
  refine T_bipush dX11_high_4 (by decide) ?_
  refine T_iconst dX11_high_6 (by decide) ?_
  refine T_iload_n dX11_high_7 rfl ?_
  refine U_imul dX11_high_8 h.1 ?_
  replace h := h.2
  refine U_iadd dX11_high_9 h.1 ?_
  replace h := h.2
  refine T_iconst dX11_high_10 (by decide) ?_
  refine U_iadd dX11_high_11 h.1 ?_
  replace h := h.2
  refine T_iald dX11_high_12 SH_222 h.1 ?_
  replace h := h.2
  exact T_iret dX11_high_13 rfl (hQ _ h)

theorem W_X11_priceOf {G : GT} {d : Nat} (hd : 1 ≤ d) {x1 : Int}   {v : VT} {q : Int → Prop} {Q : Option Vl → List Sh → VT → Prop} (h : P_X11_priceOf x1 v q) (hQ : ∀ r, q r → Q (some (vI r)) SH v) : n_T G d 0 0 mX11_priceOf 0 [vR 218, vI x1] [] SH v Q := by
  unfold P_X11_priceOf at h
  refine T_aload_n dX11_priceOf_0 rfl ?_
  refine T_getR (r := 222) dX11_priceOf_1 fX11_23 rfl SH_218 rfl ?_
  refine T_sipush dX11_priceOf_4 (by decide) ?_
  refine T_iload_n dX11_priceOf_7 rfl ?_
  refine U_iadd dX11_priceOf_8 h.1 ?_
  replace h := h.2
  refine T_iald dX11_priceOf_9 SH_222 h.1 ?_
  replace h := h.2
  exact T_iret dX11_priceOf_10 rfl (hQ _ h)

theorem W_X11_all {G : GT} {d : Nat} (hd : 1 ≤ d)    {v : VT} {q : Int → Prop} {Q : Option Vl → List Sh → VT → Prop} (h : P_X11_all  v q) (hQ : ∀ r, q r → Q (some (vI r)) SH v) : n_T G d 0 0 mX11_all 0 [vR 218] [] SH v Q := by
  unfold P_X11_all at h
  refine T_iconst dX11_all_0 (by decide) ?_
  refine T_aload_n dX11_all_1 rfl ?_
  refine T_getR (r := 222) dX11_all_2 fX11_23 rfl SH_218 rfl ?_
  refine T_iconst dX11_all_5 (by decide) ?_
  refine T_iald dX11_all_6 SH_222 (by decide) ?_
  refine T_ishl dX11_all_7 ?_
  refine T_iconst dX11_all_8 (by decide) ?_
  refine U_isub dX11_all_9 h.1 ?_
  replace h := h.2
  exact T_iret dX11_all_10 rfl (hQ _ h)

theorem W_X11_farOf {G : GT} {d : Nat} (hd : 1 ≤ d) {x1 : Int} {x2 : Int}   {v : VT} {q : Int → Prop} {Q : Option Vl → List Sh → VT → Prop} (h : P_X11_farOf x1 x2 v q) (hQ : ∀ r, q r → Q (some (vI r)) SH v) : n_T G d 0 0 mX11_farOf 0 [vR 218, vI x1, vI x2] [] SH v Q := by
  unfold P_X11_farOf at h
  refine T_aload_n dX11_farOf_0 rfl ?_
  refine T_getR (r := 224) dX11_farOf_1 fX11_29 rfl SH_218 rfl ?_
  refine T_bipush dX11_farOf_4 (by decide) ?_
  refine T_iload_n dX11_farOf_6 rfl ?_
  refine U_imul dX11_farOf_7 h.1 ?_
  replace h := h.2
  refine T_iload_n dX11_farOf_8 rfl ?_
  refine U_iadd dX11_farOf_9 h.1 ?_
  replace h := h.2
  refine T_iald dX11_farOf_10 SH_224 h.1 ?_
  replace h := h.2
  exact T_iret dX11_farOf_11 rfl (hQ _ h)

theorem W_X11_laysFar {G : GT} {d : Nat} (hd : 2 ≤ d)    {v : VT} {q : VT → Prop} {Q : Option Vl → List Sh → VT → Prop} (h : P_X11_laysFar  v q) (hQ : ∀ w, q w → Q none SH w) : n_T G d 0 0 mX11_laysFar 0 [vR 218, vS 9, vS 9, vS 9, vS 9, vS 9] [] SH v Q := by
  unfold P_X11_laysFar at h
  refine T_aload_n dX11_laysFar_0 rfl ?_
  refine T_getR (r := 222) dX11_laysFar_1 fX11_23 rfl SH_218 rfl ?_
  refine T_iconst dX11_laysFar_4 (by decide) ?_
  refine T_iald dX11_laysFar_5 SH_222 (by decide) ?_
  refine T_istore_n dX11_laysFar_6 (by decide) rfl ?_
  refine T_iconst dX11_laysFar_7 (by decide) ?_
  refine T_istore_n dX11_laysFar_8 (by decide) rfl ?_
  refine n_cut (h (fun (v55 : VT) => n_T G d 0 0 mX11_laysFar 55 [vR 218, vI (v 222 0), vS 9, vS 9, vS 9, vS 9] [] SH v55 Q)) ?_ ?_
  · intro v55 h
    refine T_iconst dX11_laysFar_55 (by decide) ?_
    refine T_istore_n dX11_laysFar_56 (by decide) rfl ?_
    refine n_cut (h (fun (v113 : VT) => n_T G d 0 0 mX11_laysFar 113 [vR 218, vI (v 222 0), vS 9, vS 9, vS 9, vS 9] [] SH v113 Q)) ?_ ?_
    · intro v113 h
      refine T_iconst dX11_laysFar_113 (by decide) ?_
      refine T_istore_n dX11_laysFar_114 (by decide) rfl ?_
      refine T_drop (h (fun (i2 : Int) (v115 : VT) => n_T G d 0 0 mX11_laysFar 115 [vR 218, vI (v 222 0), vI i2, vS 9, vS 9, vS 9] [] SH v115 Q) (fun i2 v115 h => ?_)) ⟨Or.inl rfl, Or.inl rfl, Or.inl rfl, Or.inr rfl, Or.inr rfl, Or.inr rfl, trivial⟩
      refine T_iload_n dX11_laysFar_115 rfl ?_
      refine T_iload_n dX11_laysFar_116 rfl ?_
      refine U_icmp_ge (tgt := 196) dX11_laysFar_117 (by decide) (fun hc => ?_) (fun hc => ?_)
      · replace h := h.1 hc
        exact T_vret dX11_laysFar_196 rfl (hQ _ h)
      · replace h := h.2 hc
        refine T_iconst dX11_laysFar_120 (by decide) ?_
        refine T_istore_n dX11_laysFar_121 (by decide) rfl ?_
        refine T_drop (h (fun (i3 : Int) (v122 : VT) => n_T G d 0 0 mX11_laysFar 122 [vR 218, vI (v 222 0), vI i2, vI i3, vS 9, vS 9] [] SH v122 Q) (fun i3 v122 h => ?_)) ⟨Or.inl rfl, Or.inl rfl, Or.inl rfl, Or.inl rfl, Or.inr rfl, Or.inr rfl, trivial⟩
        refine T_iload_n dX11_laysFar_122 rfl ?_
        refine T_iload_n dX11_laysFar_123 rfl ?_
        refine U_icmp_ge (tgt := 190) dX11_laysFar_124 (by decide) (fun hc => ?_) (fun hc => ?_)
        · replace h := h.1 hc
          refine U_iinc dX11_laysFar_190 rfl (by decide) rfl h.1 ?_
          replace h := h.2
          refine T_goto (tgt := 115) dX11_laysFar_193 (by decide) ?_
          exact T_drop h ⟨Or.inl rfl, Or.inl rfl, Or.inl rfl, Or.inr rfl, Or.inr rfl, Or.inr rfl, trivial⟩
        · replace h := h.2 hc
          refine T_iconst dX11_laysFar_127 (by decide) ?_
          refine T_istore dX11_laysFar_128 (by decide) rfl ?_
          refine T_drop (h (fun (i4 : Int) (v130 : VT) => n_T G d 0 0 mX11_laysFar 130 [vR 218, vI (v 222 0), vI i2, vI i3, vI i4, vS 9] [] SH v130 Q) (fun i4 v130 h => ?_)) ⟨Or.inl rfl, Or.inl rfl, Or.inl rfl, Or.inl rfl, Or.inl rfl, Or.inr rfl, trivial⟩
          refine T_iload dX11_laysFar_130 rfl ?_
          refine T_iload_n dX11_laysFar_132 rfl ?_
          refine U_icmp_ge (tgt := 184) dX11_laysFar_133 (by decide) (fun hc => ?_) (fun hc => ?_)
          · replace h := h.1 hc
            refine U_iinc dX11_laysFar_184 rfl (by decide) rfl h.1 ?_
            replace h := h.2
            refine T_goto (tgt := 122) dX11_laysFar_187 (by decide) ?_
            exact T_drop h ⟨Or.inl rfl, Or.inl rfl, Or.inl rfl, Or.inl rfl, Or.inr rfl, Or.inr rfl, trivial⟩
          · replace h := h.2 hc
            refine T_aload_n dX11_laysFar_136 rfl ?_
            refine T_iload_n dX11_laysFar_137 rfl ?_
            refine T_iload_n dX11_laysFar_138 rfl ?_
            refine U_callV (as := [vI i3, vI i2]) (st := []) dX11_laysFar_139 kX11_farOf lX11_214 SH_218 rfl rfl rfl rfl (Nat.le_of_ble_eq_true rfl) (Nat.le_of_ble_eq_true rfl) (by omega) ?_
            refine W_X11_farOf (by omega)  h (fun r139 h => ?_)
            show n_T G d 0 0 mX11_laysFar 142 [vR 218, vI (v 222 0), vI i2, vI i3, vI i4, vS 9] [vI r139] SH v130 Q
            refine T_aload_n dX11_laysFar_142 rfl ?_
            refine T_iload_n dX11_laysFar_143 rfl ?_
            refine T_iload dX11_laysFar_144 rfl ?_
            refine U_callV (as := [vI i2, vI i4]) (st := [vI r139]) dX11_laysFar_146 kX11_farOf lX11_214 SH_218 rfl rfl rfl rfl (Nat.le_of_ble_eq_true rfl) (Nat.le_of_ble_eq_true rfl) (by omega) ?_
            refine W_X11_farOf (by omega)  h (fun r146 h => ?_)
            show n_T G d 0 0 mX11_laysFar 149 [vR 218, vI (v 222 0), vI i2, vI i3, vI i4, vS 9] [vI r146, vI r139] SH v130 Q
            refine U_iadd dX11_laysFar_149 h.1 ?_
            replace h := h.2
            refine T_istore dX11_laysFar_150 (by decide) rfl ?_
            refine T_iload dX11_laysFar_152 rfl ?_
            refine T_aload_n dX11_laysFar_154 rfl ?_
            refine T_iload_n dX11_laysFar_155 rfl ?_
            refine T_iload dX11_laysFar_156 rfl ?_
            refine U_callV (as := [vI i3, vI i4]) (st := [vI (r139 + r146)]) dX11_laysFar_158 kX11_farOf lX11_214 SH_218 rfl rfl rfl rfl (Nat.le_of_ble_eq_true rfl) (Nat.le_of_ble_eq_true rfl) (by omega) ?_
            refine W_X11_farOf (by omega)  h (fun r158 h => ?_)
            show n_T G d 0 0 mX11_laysFar 161 [vR 218, vI (v 222 0), vI i2, vI i3, vI i4, vI (r139 + r146)] [vI r158, vI (r139 + r146)] SH v130 Q
            refine U_icmp_ge (tgt := 178) dX11_laysFar_161 (by decide) (fun hc => ?_) (fun hc => ?_)
            · replace h := h.1 hc
              refine U_iinc dX11_laysFar_178 rfl (by decide) rfl h.1 ?_
              replace h := h.2
              refine T_goto (tgt := 130) dX11_laysFar_181 (by decide) ?_
              exact T_drop h ⟨Or.inl rfl, Or.inl rfl, Or.inl rfl, Or.inl rfl, Or.inl rfl, Or.inr rfl, trivial⟩
            · replace h := h.2 hc
              refine T_aload_n dX11_laysFar_164 rfl ?_
              refine T_getR (r := 224) dX11_laysFar_165 fX11_29 rfl SH_218 rfl ?_
              refine T_bipush dX11_laysFar_168 (by decide) ?_
              refine T_iload_n dX11_laysFar_170 rfl ?_
              refine U_imul dX11_laysFar_171 h.1 ?_
              replace h := h.2
              refine T_iload dX11_laysFar_172 rfl ?_
              refine U_iadd dX11_laysFar_174 h.1 ?_
              replace h := h.2
              refine T_iload dX11_laysFar_175 rfl ?_
              refine U_iast dX11_laysFar_177 SH_224 h.1 (fun v177 ev177 => ?_)
              replace h := h.2 v177 ev177
              refine U_iinc dX11_laysFar_178 rfl (by decide) rfl h.1 ?_
              replace h := h.2
              refine T_goto (tgt := 130) dX11_laysFar_181 (by decide) ?_
              exact T_drop h ⟨Or.inl rfl, Or.inl rfl, Or.inl rfl, Or.inl rfl, Or.inl rfl, Or.inr rfl, trivial⟩
    · intro h
      refine T_drop (h (fun (i2_1 : Int) (v57 : VT) => n_T G d 0 0 mX11_laysFar 57 [vR 218, vI (v 222 0), vI i2_1, vS 9, vS 9, vS 9] [] SH v57 Q) (fun i2_1 v57 h => ?_)) ⟨Or.inl rfl, Or.inl rfl, Or.inl rfl, Or.inr rfl, Or.inr rfl, Or.inr rfl, trivial⟩
      refine T_iload_n dX11_laysFar_57 rfl ?_
      refine T_aload_n dX11_laysFar_58 rfl ?_
      refine T_getR (r := 222) dX11_laysFar_59 fX11_23 rfl SH_218 rfl ?_
      refine T_iconst dX11_laysFar_62 (by decide) ?_
      refine T_iald dX11_laysFar_63 SH_222 (by decide) ?_
      refine U_icmp_ge (tgt := 113) dX11_laysFar_64 (by decide) (fun hc => ?_) (fun hc => ?_)
      · replace h := h.1 hc
        exact T_drop h ⟨Or.inl rfl, Or.inl rfl, Or.inr rfl, Or.inr rfl, Or.inr rfl, Or.inr rfl, trivial⟩
      · replace h := h.2 hc
        refine T_aload_n dX11_laysFar_67 rfl ?_
        refine T_getR (r := 224) dX11_laysFar_68 fX11_29 rfl SH_218 rfl ?_
        refine T_bipush dX11_laysFar_71 (by decide) ?_
        refine T_aload_n dX11_laysFar_73 rfl ?_
        refine T_iload_n dX11_laysFar_74 rfl ?_
        refine U_callV (as := [vI i2_1]) (st := [vI 24, vR 224]) dX11_laysFar_75 kX11_low lX11_208 SH_218 rfl rfl rfl rfl (Nat.le_of_ble_eq_true rfl) (Nat.le_of_ble_eq_true rfl) (by omega) ?_
        refine W_X11_low (by omega)  h (fun r75 h => ?_)
        show n_T G d 0 0 mX11_laysFar 78 [vR 218, vI (v 222 0), vI i2_1, vS 9, vS 9, vS 9] [vI r75, vI 24, vR 224] SH v57 Q
        refine U_imul dX11_laysFar_78 h.1 ?_
        replace h := h.2
        refine T_aload_n dX11_laysFar_79 rfl ?_
        refine T_iload_n dX11_laysFar_80 rfl ?_
        refine U_callV (as := [vI i2_1]) (st := [vI (24 * r75), vR 224]) dX11_laysFar_81 kX11_high lX11_211 SH_218 rfl rfl rfl rfl (Nat.le_of_ble_eq_true rfl) (Nat.le_of_ble_eq_true rfl) (by omega) ?_
        refine W_X11_high (by omega)  h (fun r81 h => ?_)
        show n_T G d 0 0 mX11_laysFar 84 [vR 218, vI (v 222 0), vI i2_1, vS 9, vS 9, vS 9] [vI r81, vI (24 * r75), vR 224] SH v57 Q
        refine U_iadd dX11_laysFar_84 h.1 ?_
        replace h := h.2
        refine T_iconst dX11_laysFar_85 (by decide) ?_
        refine U_iast dX11_laysFar_86 SH_224 h.1 (fun v86 ev86 => ?_)
        replace h := h.2 v86 ev86
        refine T_aload_n dX11_laysFar_87 rfl ?_
        refine T_getR (r := 224) dX11_laysFar_88 fX11_29 rfl SH_218 rfl ?_
        refine T_bipush dX11_laysFar_91 (by decide) ?_
        refine T_aload_n dX11_laysFar_93 rfl ?_
        refine T_iload_n dX11_laysFar_94 rfl ?_
        refine U_callV (as := [vI i2_1]) (st := [vI 24, vR 224]) dX11_laysFar_95 kX11_high lX11_211 SH_218 rfl rfl rfl rfl (Nat.le_of_ble_eq_true rfl) (Nat.le_of_ble_eq_true rfl) (by omega) ?_
        refine W_X11_high (by omega)  h (fun r95 h => ?_)
        show n_T G d 0 0 mX11_laysFar 98 [vR 218, vI (v 222 0), vI i2_1, vS 9, vS 9, vS 9] [vI r95, vI 24, vR 224] SH v86 Q
        refine U_imul dX11_laysFar_98 h.1 ?_
        replace h := h.2
        refine T_aload_n dX11_laysFar_99 rfl ?_
        refine T_iload_n dX11_laysFar_100 rfl ?_
        refine U_callV (as := [vI i2_1]) (st := [vI (24 * r95), vR 224]) dX11_laysFar_101 kX11_low lX11_208 SH_218 rfl rfl rfl rfl (Nat.le_of_ble_eq_true rfl) (Nat.le_of_ble_eq_true rfl) (by omega) ?_
        refine W_X11_low (by omega)  h (fun r101 h => ?_)
        show n_T G d 0 0 mX11_laysFar 104 [vR 218, vI (v 222 0), vI i2_1, vS 9, vS 9, vS 9] [vI r101, vI (24 * r95), vR 224] SH v86 Q
        refine U_iadd dX11_laysFar_104 h.1 ?_
        replace h := h.2
        refine T_iconst dX11_laysFar_105 (by decide) ?_
        refine U_iast dX11_laysFar_106 SH_224 h.1 (fun v106 ev106 => ?_)
        replace h := h.2 v106 ev106
        refine U_iinc dX11_laysFar_107 rfl (by decide) rfl h.1 ?_
        replace h := h.2
        refine T_goto (tgt := 57) dX11_laysFar_110 (by decide) ?_
        exact T_drop h ⟨Or.inl rfl, Or.inl rfl, Or.inl rfl, Or.inr rfl, Or.inr rfl, Or.inr rfl, trivial⟩
  · intro h
    refine T_drop (h (fun (i2_2 : Int) (v9 : VT) => n_T G d 0 0 mX11_laysFar 9 [vR 218, vI (v 222 0), vI i2_2, vS 9, vS 9, vS 9] [] SH v9 Q) (fun i2_2 v9 h => ?_)) ⟨Or.inl rfl, Or.inl rfl, Or.inl rfl, Or.inr rfl, Or.inr rfl, Or.inr rfl, trivial⟩
    refine T_iload_n dX11_laysFar_9 rfl ?_
    refine T_iload_n dX11_laysFar_10 rfl ?_
    refine U_icmp_ge (tgt := 55) dX11_laysFar_11 (by decide) (fun hc => ?_) (fun hc => ?_)
    · replace h := h.1 hc
      exact T_drop h ⟨Or.inl rfl, Or.inl rfl, Or.inr rfl, Or.inr rfl, Or.inr rfl, Or.inr rfl, trivial⟩
    · replace h := h.2 hc
      refine T_iconst dX11_laysFar_14 (by decide) ?_
      refine T_istore_n dX11_laysFar_15 (by decide) rfl ?_
      refine T_drop (h (fun (i3_1 : Int) (v16 : VT) => n_T G d 0 0 mX11_laysFar 16 [vR 218, vI (v 222 0), vI i2_2, vI i3_1, vS 9, vS 9] [] SH v16 Q) (fun i3_1 v16 h => ?_)) ⟨Or.inl rfl, Or.inl rfl, Or.inl rfl, Or.inl rfl, Or.inr rfl, Or.inr rfl, trivial⟩
      refine T_iload_n dX11_laysFar_16 rfl ?_
      refine T_iload_n dX11_laysFar_17 rfl ?_
      refine U_icmp_ge (tgt := 49) dX11_laysFar_18 (by decide) (fun hc => ?_) (fun hc => ?_)
      · replace h := h.1 hc
        refine U_iinc dX11_laysFar_49 rfl (by decide) rfl h.1 ?_
        replace h := h.2
        refine T_goto (tgt := 9) dX11_laysFar_52 (by decide) ?_
        exact T_drop h ⟨Or.inl rfl, Or.inl rfl, Or.inl rfl, Or.inr rfl, Or.inr rfl, Or.inr rfl, trivial⟩
      · replace h := h.2 hc
        refine T_aload_n dX11_laysFar_21 rfl ?_
        refine T_getR (r := 224) dX11_laysFar_22 fX11_29 rfl SH_218 rfl ?_
        refine T_bipush dX11_laysFar_25 (by decide) ?_
        refine T_iload_n dX11_laysFar_27 rfl ?_
        refine U_imul dX11_laysFar_28 h.1 ?_
        replace h := h.2
        refine T_iload_n dX11_laysFar_29 rfl ?_
        refine U_iadd dX11_laysFar_30 h.1 ?_
        replace h := h.2
        refine T_iload_n dX11_laysFar_31 rfl ?_
        refine T_iload_n dX11_laysFar_32 rfl ?_
        refine U_icmp_ne (tgt := 40) dX11_laysFar_33 (by decide) (fun hc => ?_) (fun hc => ?_)
        · replace h := h.1 hc
          refine T_bipush dX11_laysFar_40 (by decide) ?_
          refine U_iast dX11_laysFar_42 SH_224 h.1 (fun v42 ev42 => ?_)
          replace h := h.2 v42 ev42
          refine U_iinc dX11_laysFar_43 rfl (by decide) rfl h.1 ?_
          replace h := h.2
          refine T_goto (tgt := 16) dX11_laysFar_46 (by decide) ?_
          exact T_drop h ⟨Or.inl rfl, Or.inl rfl, Or.inl rfl, Or.inl rfl, Or.inr rfl, Or.inr rfl, trivial⟩
        · replace h := h.2 hc
          refine T_iconst dX11_laysFar_36 (by decide) ?_
          refine T_goto (tgt := 42) dX11_laysFar_37 (by decide) ?_
          refine U_iast dX11_laysFar_42 SH_224 h.1 (fun v42_1 ev42_1 => ?_)
          replace h := h.2 v42_1 ev42_1
          refine U_iinc dX11_laysFar_43 rfl (by decide) rfl h.1 ?_
          replace h := h.2
          refine T_goto (tgt := 16) dX11_laysFar_46 (by decide) ?_
          exact T_drop h ⟨Or.inl rfl, Or.inl rfl, Or.inl rfl, Or.inl rfl, Or.inr rfl, Or.inr rfl, trivial⟩

theorem W_X11_areAlike {G : GT} {d : Nat} (hd : 2 ≤ d) {x1 : Int} {x2 : Int}   {v : VT} {q : Int → Prop} {Q : Option Vl → List Sh → VT → Prop} (h : P_X11_areAlike x1 x2 v q) (hQ : ∀ r, q r → Q (some (vI r)) SH v) : n_T G d 0 0 mX11_areAlike 0 [vR 218, vI x1, vI x2, vS 9, vS 9] [] SH v Q := by
  unfold P_X11_areAlike at h
  refine T_aload_n dX11_areAlike_0 rfl ?_
  refine T_aload_n dX11_areAlike_1 rfl ?_
  refine T_iload_n dX11_areAlike_2 rfl ?_
  refine U_callV (as := [vI x1]) (st := [vR 218]) dX11_areAlike_3 kX11_low lX11_208 SH_218 rfl rfl rfl rfl (Nat.le_of_ble_eq_true rfl) (Nat.le_of_ble_eq_true rfl) (by omega) ?_
  refine W_X11_low (by omega)  h (fun r3 h => ?_)
  show n_T G d 0 0 mX11_areAlike 6 [vR 218, vI x1, vI x2, vS 9, vS 9] [vI r3, vR 218] SH v Q
  refine T_aload_n dX11_areAlike_6 rfl ?_
  refine T_iload_n dX11_areAlike_7 rfl ?_
  refine U_callV (as := [vI x2]) (st := [vI r3, vR 218]) dX11_areAlike_8 kX11_low lX11_208 SH_218 rfl rfl rfl rfl (Nat.le_of_ble_eq_true rfl) (Nat.le_of_ble_eq_true rfl) (by omega) ?_
  refine W_X11_low (by omega)  h (fun r8 h => ?_)
  show n_T G d 0 0 mX11_areAlike 11 [vR 218, vI x1, vI x2, vS 9, vS 9] [vI r8, vI r3, vR 218] SH v Q
  refine U_callV (as := [vI r3, vI r8]) (st := []) dX11_areAlike_11 kX11_farOf lX11_214 SH_218 rfl rfl rfl rfl (Nat.le_of_ble_eq_true rfl) (Nat.le_of_ble_eq_true rfl) (by omega) ?_
  refine W_X11_farOf (by omega)  h (fun r11 h => ?_)
  show n_T G d 0 0 mX11_areAlike 14 [vR 218, vI x1, vI x2, vS 9, vS 9] [vI r11] SH v Q
  refine T_istore_n dX11_areAlike_14 (by decide) rfl ?_
  refine T_aload_n dX11_areAlike_15 rfl ?_
  refine T_aload_n dX11_areAlike_16 rfl ?_
  refine T_iload_n dX11_areAlike_17 rfl ?_
  refine U_callV (as := [vI x1]) (st := [vR 218]) dX11_areAlike_18 kX11_high lX11_211 SH_218 rfl rfl rfl rfl (Nat.le_of_ble_eq_true rfl) (Nat.le_of_ble_eq_true rfl) (by omega) ?_
  refine W_X11_high (by omega)  h (fun r18 h => ?_)
  show n_T G d 0 0 mX11_areAlike 21 [vR 218, vI x1, vI x2, vI r11, vS 9] [vI r18, vR 218] SH v Q
  refine T_aload_n dX11_areAlike_21 rfl ?_
  refine T_iload_n dX11_areAlike_22 rfl ?_
  refine U_callV (as := [vI x2]) (st := [vI r18, vR 218]) dX11_areAlike_23 kX11_high lX11_211 SH_218 rfl rfl rfl rfl (Nat.le_of_ble_eq_true rfl) (Nat.le_of_ble_eq_true rfl) (by omega) ?_
  refine W_X11_high (by omega)  h (fun r23 h => ?_)
  show n_T G d 0 0 mX11_areAlike 26 [vR 218, vI x1, vI x2, vI r11, vS 9] [vI r23, vI r18, vR 218] SH v Q
  refine U_callV (as := [vI r18, vI r23]) (st := []) dX11_areAlike_26 kX11_farOf lX11_214 SH_218 rfl rfl rfl rfl (Nat.le_of_ble_eq_true rfl) (Nat.le_of_ble_eq_true rfl) (by omega) ?_
  refine W_X11_farOf (by omega)  h (fun r26 h => ?_)
  show n_T G d 0 0 mX11_areAlike 29 [vR 218, vI x1, vI x2, vI r11, vS 9] [vI r26] SH v Q
  refine T_istore dX11_areAlike_29 (by decide) rfl ?_
  refine T_iload_n dX11_areAlike_31 rfl ?_
  refine T_bipush dX11_areAlike_32 (by decide) ?_
  refine U_icmp_ge (tgt := 44) dX11_areAlike_34 (by decide) (fun hc => ?_) (fun hc => ?_)
  · replace h := h.1 hc
    refine T_iconst dX11_areAlike_44 (by decide) ?_
    exact T_zret dX11_areAlike_45 rfl (by decide) (hQ _ h)
  · replace h := h.2 hc
    refine T_iload dX11_areAlike_37 rfl ?_
    refine T_bipush dX11_areAlike_39 (by decide) ?_
    refine U_icmp_lt (tgt := 46) dX11_areAlike_41 (by decide) (fun hc => ?_) (fun hc => ?_)
    · replace h := h.1 hc
      refine T_iload_n dX11_areAlike_46 rfl ?_
      refine T_iload dX11_areAlike_47 rfl ?_
      refine U_iadd dX11_areAlike_49 h.1 ?_
      replace h := h.2
      refine T_aload_n dX11_areAlike_50 rfl ?_
      refine T_aload_n dX11_areAlike_51 rfl ?_
      refine T_iload_n dX11_areAlike_52 rfl ?_
      refine U_callV (as := [vI x1]) (st := [vR 218, vI (r11 + r26)]) dX11_areAlike_53 kX11_low lX11_208 SH_218 rfl rfl rfl rfl (Nat.le_of_ble_eq_true rfl) (Nat.le_of_ble_eq_true rfl) (by omega) ?_
      refine W_X11_low (by omega)  h (fun r53 h => ?_)
      show n_T G d 0 0 mX11_areAlike 56 [vR 218, vI x1, vI x2, vI r11, vI r26] [vI r53, vR 218, vI (r11 + r26)] SH v Q
      refine T_aload_n dX11_areAlike_56 rfl ?_
      refine T_iload_n dX11_areAlike_57 rfl ?_
      refine U_callV (as := [vI x2]) (st := [vI r53, vR 218, vI (r11 + r26)]) dX11_areAlike_58 kX11_high lX11_211 SH_218 rfl rfl rfl rfl (Nat.le_of_ble_eq_true rfl) (Nat.le_of_ble_eq_true rfl) (by omega) ?_
      refine W_X11_high (by omega)  h (fun r58 h => ?_)
      show n_T G d 0 0 mX11_areAlike 61 [vR 218, vI x1, vI x2, vI r11, vI r26] [vI r58, vI r53, vR 218, vI (r11 + r26)] SH v Q
      refine U_callV (as := [vI r53, vI r58]) (st := [vI (r11 + r26)]) dX11_areAlike_61 kX11_farOf lX11_214 SH_218 rfl rfl rfl rfl (Nat.le_of_ble_eq_true rfl) (Nat.le_of_ble_eq_true rfl) (by omega) ?_
      refine W_X11_farOf (by omega)  h (fun r61 h => ?_)
      show n_T G d 0 0 mX11_areAlike 64 [vR 218, vI x1, vI x2, vI r11, vI r26] [vI r61, vI (r11 + r26)] SH v Q
      refine T_aload_n dX11_areAlike_64 rfl ?_
      refine T_aload_n dX11_areAlike_65 rfl ?_
      refine T_iload_n dX11_areAlike_66 rfl ?_
      refine U_callV (as := [vI x1]) (st := [vR 218, vI r61, vI (r11 + r26)]) dX11_areAlike_67 kX11_high lX11_211 SH_218 rfl rfl rfl rfl (Nat.le_of_ble_eq_true rfl) (Nat.le_of_ble_eq_true rfl) (by omega) ?_
      refine W_X11_high (by omega)  h (fun r67 h => ?_)
      show n_T G d 0 0 mX11_areAlike 70 [vR 218, vI x1, vI x2, vI r11, vI r26] [vI r67, vR 218, vI r61, vI (r11 + r26)] SH v Q
      refine T_aload_n dX11_areAlike_70 rfl ?_
      refine T_iload_n dX11_areAlike_71 rfl ?_
      refine U_callV (as := [vI x2]) (st := [vI r67, vR 218, vI r61, vI (r11 + r26)]) dX11_areAlike_72 kX11_low lX11_208 SH_218 rfl rfl rfl rfl (Nat.le_of_ble_eq_true rfl) (Nat.le_of_ble_eq_true rfl) (by omega) ?_
      refine W_X11_low (by omega)  h (fun r72 h => ?_)
      show n_T G d 0 0 mX11_areAlike 75 [vR 218, vI x1, vI x2, vI r11, vI r26] [vI r72, vI r67, vR 218, vI r61, vI (r11 + r26)] SH v Q
      refine U_callV (as := [vI r67, vI r72]) (st := [vI r61, vI (r11 + r26)]) dX11_areAlike_75 kX11_farOf lX11_214 SH_218 rfl rfl rfl rfl (Nat.le_of_ble_eq_true rfl) (Nat.le_of_ble_eq_true rfl) (by omega) ?_
      refine W_X11_farOf (by omega)  h (fun r75 h => ?_)
      show n_T G d 0 0 mX11_areAlike 78 [vR 218, vI x1, vI x2, vI r11, vI r26] [vI r75, vI r61, vI (r11 + r26)] SH v Q
      refine U_iadd dX11_areAlike_78 h.1 ?_
      replace h := h.2
      refine U_icmp_eq (tgt := 86) dX11_areAlike_79 (by decide) (fun hc => ?_) (fun hc => ?_)
      · replace h := h.1 hc
        refine T_iconst dX11_areAlike_86 (by decide) ?_
        exact T_zret dX11_areAlike_87 rfl (by decide) (hQ _ h)
      · replace h := h.2 hc
        refine T_iconst dX11_areAlike_82 (by decide) ?_
        refine T_goto (tgt := 87) dX11_areAlike_83 (by decide) ?_
        exact T_zret dX11_areAlike_87 rfl (by decide) (hQ _ h)
    · replace h := h.2 hc
      refine T_iconst dX11_areAlike_44 (by decide) ?_
      exact T_zret dX11_areAlike_45 rfl (by decide) (hQ _ h)

theorem W_X11_laysKinds {G : GT} {d : Nat} (hd : 3 ≤ d)    {v : VT} {q : VT → Prop} {Q : Option Vl → List Sh → VT → Prop} (h : P_X11_laysKinds  v q) (hQ : ∀ w, q w → Q none SH w) : n_T G d 0 0 mX11_laysKinds 0 [vR 218, vS 9, vS 9, vS 9, vS 9] [] SH v Q := by
  unfold P_X11_laysKinds at h
  refine T_aload_n dX11_laysKinds_0 rfl ?_
  refine T_getR (r := 222) dX11_laysKinds_1 fX11_23 rfl SH_218 rfl ?_
  refine T_iconst dX11_laysKinds_4 (by decide) ?_
  refine T_iald dX11_laysKinds_5 SH_222 (by decide) ?_
  refine T_istore_n dX11_laysKinds_6 (by decide) rfl ?_
  refine T_iconst dX11_laysKinds_7 (by decide) ?_
  refine T_istore_n dX11_laysKinds_8 (by decide) rfl ?_
  refine n_cut (h (fun (v27 : VT) => n_T G d 0 0 mX11_laysKinds 27 [vR 218, vI (v 222 1), vS 9, vS 9, vS 9] [] SH v27 Q)) ?_ ?_
  · intro v27 h
    refine T_iconst dX11_laysKinds_27 (by decide) ?_
    refine T_istore_n dX11_laysKinds_28 (by decide) rfl ?_
    refine n_cut (h (fun (v107 : VT) => n_T G d 0 0 mX11_laysKinds 107 [vR 218, vI (v 222 1), vS 9, vS 9, vS 9] [] SH v107 Q)) ?_ ?_
    · intro v107 h
      refine T_aload_n dX11_laysKinds_107 rfl ?_
      refine T_iconst dX11_laysKinds_108 (by decide) ?_
      refine U_putI dX11_laysKinds_109 fX11_222 rfl rfl SH_218 (fun v109 ev109 => ?_)
      replace h := h v109 ev109
      refine T_iconst dX11_laysKinds_112 (by decide) ?_
      refine T_istore_n dX11_laysKinds_113 (by decide) rfl ?_
      refine n_cut (h (fun (v155 : VT) => n_T G d 0 0 mX11_laysKinds 155 [vR 218, vI (v 222 1), vS 9, vS 9, vS 9] [] SH v155 Q)) ?_ ?_
      · intro v155 h
        refine T_iconst dX11_laysKinds_155 (by decide) ?_
        refine T_istore_n dX11_laysKinds_156 (by decide) rfl ?_
        refine n_cut (h (fun (v210 : VT) => n_T G d 0 0 mX11_laysKinds 210 [vR 218, vI (v 222 1), vS 9, vS 9, vS 9] [] SH v210 Q)) ?_ ?_
        · intro v210 h
          refine T_iconst dX11_laysKinds_210 (by decide) ?_
          refine T_istore_n dX11_laysKinds_211 (by decide) rfl ?_
          refine T_drop (h (fun (i3 : Int) (v212 : VT) => n_T G d 0 0 mX11_laysKinds 212 [vR 218, vI (v 222 1), vS 9, vI i3, vS 9] [] SH v212 Q) (fun i3 v212 h => ?_)) ⟨Or.inl rfl, Or.inl rfl, Or.inr rfl, Or.inl rfl, Or.inr rfl, trivial⟩
          refine T_iload_n dX11_laysKinds_212 rfl ?_
          refine T_iload_n dX11_laysKinds_213 rfl ?_
          refine U_icmp_ge (tgt := 235) dX11_laysKinds_214 (by decide) (fun hc => ?_) (fun hc => ?_)
          · replace h := h.1 hc
            exact T_vret dX11_laysKinds_235 rfl (hQ _ h)
          · replace h := h.2 hc
            refine T_aload_n dX11_laysKinds_217 rfl ?_
            refine T_getR (r := 225) dX11_laysKinds_218 fX11_32 rfl SH_218 rfl ?_
            refine T_iload_n dX11_laysKinds_221 rfl ?_
            refine T_aload_n dX11_laysKinds_222 rfl ?_
            refine T_getR (r := 229) dX11_laysKinds_223 fX11_44 rfl SH_218 rfl ?_
            refine T_iload_n dX11_laysKinds_226 rfl ?_
            refine T_iald dX11_laysKinds_227 SH_229 h.1 ?_
            replace h := h.2
            refine U_iast dX11_laysKinds_228 SH_225 h.1 (fun v228 ev228 => ?_)
            replace h := h.2 v228 ev228
            refine U_iinc dX11_laysKinds_229 rfl (by decide) rfl h.1 ?_
            replace h := h.2
            refine T_goto (tgt := 212) dX11_laysKinds_232 (by decide) ?_
            exact T_drop h ⟨Or.inl rfl, Or.inl rfl, Or.inr rfl, Or.inl rfl, Or.inr rfl, trivial⟩
        · intro h
          refine T_drop (h (fun (i3_1 : Int) (v157 : VT) => n_T G d 0 0 mX11_laysKinds 157 [vR 218, vI (v 222 1), vS 9, vI i3_1, vS 9] [] SH v157 Q) (fun i3_1 v157 h => ?_)) ⟨Or.inl rfl, Or.inl rfl, Or.inr rfl, Or.inl rfl, Or.inr rfl, trivial⟩
          refine T_iload_n dX11_laysKinds_157 rfl ?_
          refine T_iload_n dX11_laysKinds_158 rfl ?_
          refine U_icmp_ge (tgt := 210) dX11_laysKinds_159 (by decide) (fun hc => ?_) (fun hc => ?_)
          · replace h := h.1 hc
            exact T_drop h ⟨Or.inl rfl, Or.inl rfl, Or.inr rfl, Or.inr rfl, Or.inr rfl, trivial⟩
          · replace h := h.2 hc
            refine T_iconst dX11_laysKinds_162 (by decide) ?_
            refine T_istore dX11_laysKinds_163 (by decide) rfl ?_
            refine T_drop (h (fun (i4 : Int) (v165 : VT) => n_T G d 0 0 mX11_laysKinds 165 [vR 218, vI (v 222 1), vS 9, vI i3_1, vI i4] [] SH v165 Q) (fun i4 v165 h => ?_)) ⟨Or.inl rfl, Or.inl rfl, Or.inr rfl, Or.inl rfl, Or.inl rfl, trivial⟩
            refine T_iload dX11_laysKinds_165 rfl ?_
            refine T_aload_n dX11_laysKinds_167 rfl ?_
            refine T_getI dX11_laysKinds_168 fX11_222 rfl SH_218 ?_
            refine U_icmp_ge (tgt := 204) dX11_laysKinds_171 (by decide) (fun hc => ?_) (fun hc => ?_)
            · replace h := h.1 hc
              refine U_iinc dX11_laysKinds_204 rfl (by decide) rfl h.1 ?_
              replace h := h.2
              refine T_goto (tgt := 157) dX11_laysKinds_207 (by decide) ?_
              exact T_drop h ⟨Or.inl rfl, Or.inl rfl, Or.inr rfl, Or.inl rfl, Or.inr rfl, trivial⟩
            · replace h := h.2 hc
              refine T_aload_n dX11_laysKinds_174 rfl ?_
              refine T_getR (r := 225) dX11_laysKinds_175 fX11_32 rfl SH_218 rfl ?_
              refine T_iload_n dX11_laysKinds_178 rfl ?_
              refine T_iald dX11_laysKinds_179 SH_225 h.1 ?_
              replace h := h.2
              refine T_aload_n dX11_laysKinds_180 rfl ?_
              refine T_getR (r := 227) dX11_laysKinds_181 fX11_38 rfl SH_218 rfl ?_
              refine T_iload dX11_laysKinds_184 rfl ?_
              refine T_iald dX11_laysKinds_186 SH_227 h.1 ?_
              replace h := h.2
              refine U_icmp_ne (tgt := 198) dX11_laysKinds_187 (by decide) (fun hc => ?_) (fun hc => ?_)
              · replace h := h.1 hc
                refine U_iinc dX11_laysKinds_198 rfl (by decide) rfl h.1 ?_
                replace h := h.2
                refine T_goto (tgt := 165) dX11_laysKinds_201 (by decide) ?_
                exact T_drop h ⟨Or.inl rfl, Or.inl rfl, Or.inr rfl, Or.inl rfl, Or.inl rfl, trivial⟩
              · replace h := h.2 hc
                refine T_aload_n dX11_laysKinds_190 rfl ?_
                refine T_getR (r := 229) dX11_laysKinds_191 fX11_44 rfl SH_218 rfl ?_
                refine T_iload_n dX11_laysKinds_194 rfl ?_
                refine T_iload dX11_laysKinds_195 rfl ?_
                refine U_iast dX11_laysKinds_197 SH_229 h.1 (fun v197 ev197 => ?_)
                replace h := h.2 v197 ev197
                refine U_iinc dX11_laysKinds_198 rfl (by decide) rfl h.1 ?_
                replace h := h.2
                refine T_goto (tgt := 165) dX11_laysKinds_201 (by decide) ?_
                exact T_drop h ⟨Or.inl rfl, Or.inl rfl, Or.inr rfl, Or.inl rfl, Or.inl rfl, trivial⟩
      · intro h
        refine T_drop (h (fun (i3_2 : Int) (v114 : VT) => n_T G d 0 0 mX11_laysKinds 114 [vR 218, vI (v 222 1), vS 9, vI i3_2, vS 9] [] SH v114 Q) (fun i3_2 v114 h => ?_)) ⟨Or.inl rfl, Or.inl rfl, Or.inr rfl, Or.inl rfl, Or.inr rfl, trivial⟩
        refine T_iload_n dX11_laysKinds_114 rfl ?_
        refine T_iload_n dX11_laysKinds_115 rfl ?_
        refine U_icmp_ge (tgt := 155) dX11_laysKinds_116 (by decide) (fun hc => ?_) (fun hc => ?_)
        · replace h := h.1 hc
          exact T_drop h ⟨Or.inl rfl, Or.inl rfl, Or.inr rfl, Or.inr rfl, Or.inr rfl, trivial⟩
        · replace h := h.2 hc
          refine T_aload_n dX11_laysKinds_119 rfl ?_
          refine T_getR (r := 225) dX11_laysKinds_120 fX11_32 rfl SH_218 rfl ?_
          refine T_iload_n dX11_laysKinds_123 rfl ?_
          refine T_iald dX11_laysKinds_124 SH_225 h.1 ?_
          replace h := h.2
          refine T_iload_n dX11_laysKinds_125 rfl ?_
          refine U_icmp_ne (tgt := 149) dX11_laysKinds_126 (by decide) (fun hc => ?_) (fun hc => ?_)
          · replace h := h.1 hc
            refine U_iinc dX11_laysKinds_149 rfl (by decide) rfl h.1 ?_
            replace h := h.2
            refine T_goto (tgt := 114) dX11_laysKinds_152 (by decide) ?_
            exact T_drop h ⟨Or.inl rfl, Or.inl rfl, Or.inr rfl, Or.inl rfl, Or.inr rfl, trivial⟩
          · replace h := h.2 hc
            refine T_aload_n dX11_laysKinds_129 rfl ?_
            refine T_getR (r := 227) dX11_laysKinds_130 fX11_38 rfl SH_218 rfl ?_
            refine T_aload_n dX11_laysKinds_133 rfl ?_
            refine T_getI dX11_laysKinds_134 fX11_222 rfl SH_218 ?_
            refine T_iload_n dX11_laysKinds_137 rfl ?_
            refine U_iast dX11_laysKinds_138 SH_227 h.1 (fun v138 ev138 => ?_)
            replace h := h.2 v138 ev138
            refine T_aload_n dX11_laysKinds_139 rfl ?_
            refine T_dup dX11_laysKinds_140 rfl ?_
            refine T_getI dX11_laysKinds_141 fX11_222 rfl SH_218 ?_
            refine T_iconst dX11_laysKinds_144 (by decide) ?_
            refine U_iadd dX11_laysKinds_145 h.1 ?_
            replace h := h.2
            refine U_putI dX11_laysKinds_146 fX11_222 rfl rfl SH_218 (fun v146 ev146 => ?_)
            replace h := h v146 ev146
            refine U_iinc dX11_laysKinds_149 rfl (by decide) rfl h.1 ?_
            replace h := h.2
            refine T_goto (tgt := 114) dX11_laysKinds_152 (by decide) ?_
            exact T_drop h ⟨Or.inl rfl, Or.inl rfl, Or.inr rfl, Or.inl rfl, Or.inr rfl, trivial⟩
    · intro h
      refine T_drop (h (fun (i2 : Int) (v29 : VT) => n_T G d 0 0 mX11_laysKinds 29 [vR 218, vI (v 222 1), vI i2, vS 9, vS 9] [] SH v29 Q) (fun i2 v29 h => ?_)) ⟨Or.inl rfl, Or.inl rfl, Or.inl rfl, Or.inr rfl, Or.inr rfl, trivial⟩
      refine T_iload_n dX11_laysKinds_29 rfl ?_
      refine U_if_eq (tgt := 107) dX11_laysKinds_30 (by decide) (fun hc => ?_) (fun hc => ?_)
      · replace h := h.1 hc
        exact T_drop h ⟨Or.inl rfl, Or.inl rfl, Or.inr rfl, Or.inr rfl, Or.inr rfl, trivial⟩
      · replace h := h.2 hc
        refine T_iconst dX11_laysKinds_33 (by decide) ?_
        refine T_istore_n dX11_laysKinds_34 (by decide) rfl ?_
        refine T_iconst dX11_laysKinds_35 (by decide) ?_
        refine T_istore_n dX11_laysKinds_36 (by decide) rfl ?_
        refine T_drop (h (fun (i2_1 : Int) (i3_3 : Int) (v37 : VT) => n_T G d 0 0 mX11_laysKinds 37 [vR 218, vI (v 222 1), vI i2_1, vI i3_3, vS 9] [] SH v37 Q) (fun i2_1 i3_3 v37 h => ?_)) ⟨Or.inl rfl, Or.inl rfl, Or.inl rfl, Or.inl rfl, Or.inr rfl, trivial⟩
        refine T_iload_n dX11_laysKinds_37 rfl ?_
        refine T_iload_n dX11_laysKinds_38 rfl ?_
        refine U_icmp_ge (tgt := 104) dX11_laysKinds_39 (by decide) (fun hc => ?_) (fun hc => ?_)
        · replace h := h.1 hc
          refine T_goto (tgt := 29) dX11_laysKinds_104 (by decide) ?_
          exact T_drop h ⟨Or.inl rfl, Or.inl rfl, Or.inl rfl, Or.inr rfl, Or.inr rfl, trivial⟩
        · replace h := h.2 hc
          refine T_iconst dX11_laysKinds_42 (by decide) ?_
          refine T_istore dX11_laysKinds_43 (by decide) rfl ?_
          refine T_drop (h (fun (i2_2 : Int) (i4_1 : Int) (v45 : VT) => n_T G d 0 0 mX11_laysKinds 45 [vR 218, vI (v 222 1), vI i2_2, vI i3_3, vI i4_1] [] SH v45 Q) (fun i2_2 i4_1 v45 h => ?_)) ⟨Or.inl rfl, Or.inl rfl, Or.inl rfl, Or.inl rfl, Or.inl rfl, trivial⟩
          refine T_iload dX11_laysKinds_45 rfl ?_
          refine T_iload_n dX11_laysKinds_47 rfl ?_
          refine U_icmp_ge (tgt := 98) dX11_laysKinds_48 (by decide) (fun hc => ?_) (fun hc => ?_)
          · replace h := h.1 hc
            refine U_iinc dX11_laysKinds_98 rfl (by decide) rfl h.1 ?_
            replace h := h.2
            refine T_goto (tgt := 37) dX11_laysKinds_101 (by decide) ?_
            exact T_drop h ⟨Or.inl rfl, Or.inl rfl, Or.inl rfl, Or.inl rfl, Or.inr rfl, trivial⟩
          · replace h := h.2 hc
            refine T_aload_n dX11_laysKinds_51 rfl ?_
            refine T_getR (r := 225) dX11_laysKinds_52 fX11_32 rfl SH_218 rfl ?_
            refine T_iload dX11_laysKinds_55 rfl ?_
            refine T_iald dX11_laysKinds_57 SH_225 h.1 ?_
            replace h := h.2
            refine T_aload_n dX11_laysKinds_58 rfl ?_
            refine T_getR (r := 225) dX11_laysKinds_59 fX11_32 rfl SH_218 rfl ?_
            refine T_iload_n dX11_laysKinds_62 rfl ?_
            refine T_iald dX11_laysKinds_63 SH_225 h.1 ?_
            replace h := h.2
            refine U_icmp_ge (tgt := 92) dX11_laysKinds_64 (by decide) (fun hc => ?_) (fun hc => ?_)
            · replace h := h.1 hc
              refine U_iinc dX11_laysKinds_92 rfl (by decide) rfl h.1 ?_
              replace h := h.2
              refine T_goto (tgt := 45) dX11_laysKinds_95 (by decide) ?_
              exact T_drop h ⟨Or.inl rfl, Or.inl rfl, Or.inl rfl, Or.inl rfl, Or.inl rfl, trivial⟩
            · replace h := h.2 hc
              refine T_aload_n dX11_laysKinds_67 rfl ?_
              refine T_iload_n dX11_laysKinds_68 rfl ?_
              refine T_iload dX11_laysKinds_69 rfl ?_
              refine U_callV (as := [vI i3_3, vI i4_1]) (st := []) dX11_laysKinds_71 kX11_areAlike lX11_218 SH_218 rfl rfl rfl rfl (Nat.le_of_ble_eq_true rfl) (Nat.le_of_ble_eq_true rfl) (by omega) ?_
              refine W_X11_areAlike (by omega)  h (fun r71 h => ?_)
              show n_T G d 0 0 mX11_laysKinds 74 [vR 218, vI (v 222 1), vI i2_2, vI i3_3, vI i4_1] [vI r71] SH v45 Q
              refine U_if_eq (tgt := 92) dX11_laysKinds_74 (by decide) (fun hc => ?_) (fun hc => ?_)
              · replace h := h.1 hc
                refine U_iinc dX11_laysKinds_92 rfl (by decide) rfl h.1 ?_
                replace h := h.2
                refine T_goto (tgt := 45) dX11_laysKinds_95 (by decide) ?_
                exact T_drop h ⟨Or.inl rfl, Or.inl rfl, Or.inl rfl, Or.inl rfl, Or.inl rfl, trivial⟩
              · replace h := h.2 hc
                refine T_aload_n dX11_laysKinds_77 rfl ?_
                refine T_getR (r := 225) dX11_laysKinds_78 fX11_32 rfl SH_218 rfl ?_
                refine T_iload_n dX11_laysKinds_81 rfl ?_
                refine T_aload_n dX11_laysKinds_82 rfl ?_
                refine T_getR (r := 225) dX11_laysKinds_83 fX11_32 rfl SH_218 rfl ?_
                refine T_iload dX11_laysKinds_86 rfl ?_
                refine T_iald dX11_laysKinds_88 SH_225 h.1 ?_
                replace h := h.2
                refine U_iast dX11_laysKinds_89 SH_225 h.1 (fun v89 ev89 => ?_)
                replace h := h.2 v89 ev89
                refine T_iconst dX11_laysKinds_90 (by decide) ?_
                refine T_istore_n dX11_laysKinds_91 (by decide) rfl ?_
                refine U_iinc dX11_laysKinds_92 rfl (by decide) rfl h.1 ?_
                replace h := h.2
                refine T_goto (tgt := 45) dX11_laysKinds_95 (by decide) ?_
                exact T_drop h ⟨Or.inl rfl, Or.inl rfl, Or.inl rfl, Or.inl rfl, Or.inl rfl, trivial⟩
  · intro h
    refine T_drop (h (fun (i2_3 : Int) (v9 : VT) => n_T G d 0 0 mX11_laysKinds 9 [vR 218, vI (v 222 1), vI i2_3, vS 9, vS 9] [] SH v9 Q) (fun i2_3 v9 h => ?_)) ⟨Or.inl rfl, Or.inl rfl, Or.inl rfl, Or.inr rfl, Or.inr rfl, trivial⟩
    refine T_iload_n dX11_laysKinds_9 rfl ?_
    refine T_iload_n dX11_laysKinds_10 rfl ?_
    refine U_icmp_ge (tgt := 27) dX11_laysKinds_11 (by decide) (fun hc => ?_) (fun hc => ?_)
    · replace h := h.1 hc
      exact T_drop h ⟨Or.inl rfl, Or.inl rfl, Or.inr rfl, Or.inr rfl, Or.inr rfl, trivial⟩
    · replace h := h.2 hc
      refine T_aload_n dX11_laysKinds_14 rfl ?_
      refine T_getR (r := 225) dX11_laysKinds_15 fX11_32 rfl SH_218 rfl ?_
      refine T_iload_n dX11_laysKinds_18 rfl ?_
      refine T_iload_n dX11_laysKinds_19 rfl ?_
      refine U_iast dX11_laysKinds_20 SH_225 h.1 (fun v20 ev20 => ?_)
      replace h := h.2 v20 ev20
      refine U_iinc dX11_laysKinds_21 rfl (by decide) rfl h.1 ?_
      replace h := h.2
      refine T_goto (tgt := 9) dX11_laysKinds_24 (by decide) ?_
      exact T_drop h ⟨Or.inl rfl, Or.inl rfl, Or.inl rfl, Or.inr rfl, Or.inr rfl, trivial⟩

theorem W_X11_isWhy {G : GT} {d : Nat} (hd : 1 ≤ d) {x1 : Int} {x2 : Int} {x3 : Int}   {v : VT} {q : VT → Prop} {Q : Option Vl → List Sh → VT → Prop} (h : P_X11_isWhy x1 x2 x3 v q) (hQ : ∀ w, q w → Q none SH w) : n_T G d 0 0 mX11_isWhy 0 [vR 218, vI x1, vI x2, vI x3] [] SH v Q := by
  unfold P_X11_isWhy at h
  refine T_aload_n dX11_isWhy_0 rfl ?_
  refine T_getI dX11_isWhy_1 fX11_225 rfl SH_218 ?_
  refine U_if_eq (tgt := 8) dX11_isWhy_4 (by decide) (fun hc => ?_) (fun hc => ?_)
  · replace h := h.1 hc
    refine T_aload_n dX11_isWhy_8 rfl ?_
    refine T_iload_n dX11_isWhy_9 rfl ?_
    refine U_putI dX11_isWhy_10 fX11_225 rfl rfl SH_218 (fun v10 ev10 => ?_)
    replace h := h v10 ev10
    refine T_aload_n dX11_isWhy_13 rfl ?_
    refine T_getR (r := 226) dX11_isWhy_14 fX11_35 rfl SH_218 rfl ?_
    refine T_iconst dX11_isWhy_17 (by decide) ?_
    refine T_iload_n dX11_isWhy_18 rfl ?_
    refine U_iast dX11_isWhy_19 SH_226 (by decide) (fun v19 ev19 => ?_)
    replace h := h v19 ev19
    refine T_aload_n dX11_isWhy_20 rfl ?_
    refine T_getR (r := 226) dX11_isWhy_21 fX11_35 rfl SH_218 rfl ?_
    refine T_iconst dX11_isWhy_24 (by decide) ?_
    refine T_iload_n dX11_isWhy_25 rfl ?_
    refine U_iast dX11_isWhy_26 SH_226 (by decide) (fun v26 ev26 => ?_)
    replace h := h v26 ev26
    exact T_vret dX11_isWhy_27 rfl (hQ _ h)
  · replace h := h.2 hc
    exact T_vret dX11_isWhy_7 rfl (hQ _ h)

theorem W_X11_laysReason {G : GT} {d : Nat} (hd : 3 ≤ d)    {v : VT} {q : VT → Prop} {Q : Option Vl → List Sh → VT → Prop} (h : P_X11_laysReason  v q) (hQ : ∀ w, q w → Q none SH w) : n_T G d 0 0 mX11_laysReason 0 [vR 218, vS 9, vS 9, vS 9, vS 9] [] SH v Q := by
  unfold P_X11_laysReason at h
  refine T_aload_n dX11_laysReason_0 rfl ?_
  refine T_getR (r := 222) dX11_laysReason_1 fX11_23 rfl SH_218 rfl ?_
  refine T_iconst dX11_laysReason_4 (by decide) ?_
  refine T_iald dX11_laysReason_5 SH_222 (by decide) ?_
  refine T_istore_n dX11_laysReason_6 (by decide) rfl ?_
  refine T_aload_n dX11_laysReason_7 rfl ?_
  refine T_getR (r := 222) dX11_laysReason_8 fX11_23 rfl SH_218 rfl ?_
  refine T_iconst dX11_laysReason_11 (by decide) ?_
  refine T_iald dX11_laysReason_12 SH_222 (by decide) ?_
  refine T_istore_n dX11_laysReason_13 (by decide) rfl ?_
  refine T_aload_n dX11_laysReason_14 rfl ?_
  refine T_iconst dX11_laysReason_15 (by decide) ?_
  refine U_putI dX11_laysReason_16 fX11_225 rfl rfl SH_218 (fun v16 ev16 => ?_)
  replace h := h v16 ev16
  refine T_iconst dX11_laysReason_19 (by decide) ?_
  refine T_istore_n dX11_laysReason_20 (by decide) rfl ?_
  refine n_cut (h (fun (v69 : VT) => n_T G d 0 0 mX11_laysReason 69 [vR 218, vI (v 222 0), vI (v 222 1), vS 9, vS 9] [] SH v69 Q)) ?_ ?_
  · intro v69 h
    refine T_iconst dX11_laysReason_69 (by decide) ?_
    refine T_istore_n dX11_laysReason_70 (by decide) rfl ?_
    refine n_cut (h (fun (v137 : VT) => n_T G d 0 0 mX11_laysReason 137 [vR 218, vS 9, vI (v 222 1), vS 9, vS 9] [] SH v137 Q)) ?_ ?_
    · intro v137 h
      refine T_iconst dX11_laysReason_137 (by decide) ?_
      refine T_istore_n dX11_laysReason_138 (by decide) rfl ?_
      refine T_drop (h (fun (i3 : Int) (v139 : VT) => n_T G d 0 0 mX11_laysReason 139 [vR 218, vS 9, vI (v 222 1), vI i3, vS 9] [] SH v139 Q) (fun i3 v139 h => ?_)) ⟨Or.inl rfl, Or.inr rfl, Or.inl rfl, Or.inl rfl, Or.inr rfl, trivial⟩
      refine T_iload_n dX11_laysReason_139 rfl ?_
      refine T_iload_n dX11_laysReason_140 rfl ?_
      refine U_icmp_ge (tgt := 208) dX11_laysReason_141 (by decide) (fun hc => ?_) (fun hc => ?_)
      · replace h := h.1 hc
        exact T_vret dX11_laysReason_208 rfl (hQ _ h)
      · replace h := h.2 hc
        refine T_aload_n dX11_laysReason_144 rfl ?_
        refine T_getI dX11_laysReason_145 fX11_225 rfl SH_218 ?_
        refine U_if_ne (tgt := 208) dX11_laysReason_148 (by decide) (fun hc => ?_) (fun hc => ?_)
        · replace h := h.1 hc
          exact T_vret dX11_laysReason_208 rfl (hQ _ h)
        · replace h := h.2 hc
          refine T_iload_n dX11_laysReason_151 rfl ?_
          refine T_iconst dX11_laysReason_152 (by decide) ?_
          refine U_iadd dX11_laysReason_153 h.1 ?_
          replace h := h.2
          refine T_istore dX11_laysReason_154 (by decide) rfl ?_
          refine T_drop (h (fun (i4 : Int) (v156 : VT) => n_T G d 0 0 mX11_laysReason 156 [vR 218, vS 9, vI (v 222 1), vI i3, vI i4] [] SH v156 Q) (fun i4 v156 h => ?_)) ⟨Or.inl rfl, Or.inr rfl, Or.inl rfl, Or.inl rfl, Or.inl rfl, trivial⟩
          refine T_iload dX11_laysReason_156 rfl ?_
          refine T_iload_n dX11_laysReason_158 rfl ?_
          refine U_icmp_ge (tgt := 202) dX11_laysReason_159 (by decide) (fun hc => ?_) (fun hc => ?_)
          · replace h := h.1 hc
            refine U_iinc dX11_laysReason_202 rfl (by decide) rfl h.1 ?_
            replace h := h.2
            refine T_goto (tgt := 139) dX11_laysReason_205 (by decide) ?_
            exact T_drop h ⟨Or.inl rfl, Or.inr rfl, Or.inl rfl, Or.inl rfl, Or.inr rfl, trivial⟩
          · replace h := h.2 hc
            refine T_aload_n dX11_laysReason_162 rfl ?_
            refine T_getR (r := 225) dX11_laysReason_163 fX11_32 rfl SH_218 rfl ?_
            refine T_iload_n dX11_laysReason_166 rfl ?_
            refine T_iald dX11_laysReason_167 SH_225 h.1 ?_
            replace h := h.2
            refine T_aload_n dX11_laysReason_168 rfl ?_
            refine T_getR (r := 225) dX11_laysReason_169 fX11_32 rfl SH_218 rfl ?_
            refine T_iload dX11_laysReason_172 rfl ?_
            refine T_iald dX11_laysReason_174 SH_225 h.1 ?_
            replace h := h.2
            refine U_icmp_ne (tgt := 196) dX11_laysReason_175 (by decide) (fun hc => ?_) (fun hc => ?_)
            · replace h := h.1 hc
              refine U_iinc dX11_laysReason_196 rfl (by decide) rfl h.1 ?_
              replace h := h.2
              refine T_goto (tgt := 156) dX11_laysReason_199 (by decide) ?_
              exact T_drop h ⟨Or.inl rfl, Or.inr rfl, Or.inl rfl, Or.inl rfl, Or.inl rfl, trivial⟩
            · replace h := h.2 hc
              refine T_aload_n dX11_laysReason_178 rfl ?_
              refine T_iload_n dX11_laysReason_179 rfl ?_
              refine T_iload dX11_laysReason_180 rfl ?_
              refine U_callV (as := [vI i3, vI i4]) (st := []) dX11_laysReason_182 kX11_areAlike lX11_218 SH_218 rfl rfl rfl rfl (Nat.le_of_ble_eq_true rfl) (Nat.le_of_ble_eq_true rfl) (by omega) ?_
              refine W_X11_areAlike (by omega)  h (fun r182 h => ?_)
              show n_T G d 0 0 mX11_laysReason 185 [vR 218, vS 9, vI (v 222 1), vI i3, vI i4] [vI r182] SH v156 Q
              refine U_if_ne (tgt := 196) dX11_laysReason_185 (by decide) (fun hc => ?_) (fun hc => ?_)
              · replace h := h.1 hc
                refine U_iinc dX11_laysReason_196 rfl (by decide) rfl h.1 ?_
                replace h := h.2
                refine T_goto (tgt := 156) dX11_laysReason_199 (by decide) ?_
                exact T_drop h ⟨Or.inl rfl, Or.inr rfl, Or.inl rfl, Or.inl rfl, Or.inl rfl, trivial⟩
              · replace h := h.2 hc
                refine T_aload_n dX11_laysReason_188 rfl ?_
                refine T_iconst dX11_laysReason_189 (by decide) ?_
                refine T_iload_n dX11_laysReason_190 rfl ?_
                refine T_iload dX11_laysReason_191 rfl ?_
                refine U_callV (as := [vI 3, vI i3, vI i4]) (st := []) dX11_laysReason_193 kX11_isWhy lX11_228 SH_218 rfl rfl rfl rfl (Nat.le_of_ble_eq_true rfl) (Nat.le_of_ble_eq_true rfl) (by omega) ?_
                refine W_X11_isWhy (by omega)  h (fun v193 h => ?_)
                show n_T G d 0 0 mX11_laysReason 196 [vR 218, vS 9, vI (v 222 1), vI i3, vI i4] [] SH v193 Q
                refine U_iinc dX11_laysReason_196 rfl (by decide) rfl h.1 ?_
                replace h := h.2
                refine T_goto (tgt := 156) dX11_laysReason_199 (by decide) ?_
                exact T_drop h ⟨Or.inl rfl, Or.inr rfl, Or.inl rfl, Or.inl rfl, Or.inl rfl, trivial⟩
    · intro h
      refine T_drop (h (fun (i3_1 : Int) (v71 : VT) => n_T G d 0 0 mX11_laysReason 71 [vR 218, vI (v 222 0), vI (v 222 1), vI i3_1, vS 9] [] SH v71 Q) (fun i3_1 v71 h => ?_)) ⟨Or.inl rfl, Or.inl rfl, Or.inl rfl, Or.inl rfl, Or.inr rfl, trivial⟩
      refine T_iload_n dX11_laysReason_71 rfl ?_
      refine T_iload_n dX11_laysReason_72 rfl ?_
      refine U_icmp_ge (tgt := 137) dX11_laysReason_73 (by decide) (fun hc => ?_) (fun hc => ?_)
      · replace h := h.1 hc
        exact T_drop h ⟨Or.inl rfl, Or.inr rfl, Or.inl rfl, Or.inr rfl, Or.inr rfl, trivial⟩
      · replace h := h.2 hc
        refine T_aload_n dX11_laysReason_76 rfl ?_
        refine T_getI dX11_laysReason_77 fX11_225 rfl SH_218 ?_
        refine U_if_ne (tgt := 137) dX11_laysReason_80 (by decide) (fun hc => ?_) (fun hc => ?_)
        · replace h := h.1 hc
          exact T_drop h ⟨Or.inl rfl, Or.inr rfl, Or.inl rfl, Or.inr rfl, Or.inr rfl, trivial⟩
        · replace h := h.2 hc
          refine T_iconst dX11_laysReason_83 (by decide) ?_
          refine T_istore dX11_laysReason_84 (by decide) rfl ?_
          refine T_drop (h (fun (i4_1 : Int) (v86 : VT) => n_T G d 0 0 mX11_laysReason 86 [vR 218, vI (v 222 0), vI (v 222 1), vI i3_1, vI i4_1] [] SH v86 Q) (fun i4_1 v86 h => ?_)) ⟨Or.inl rfl, Or.inl rfl, Or.inl rfl, Or.inl rfl, Or.inl rfl, trivial⟩
          refine T_iload dX11_laysReason_86 rfl ?_
          refine T_iload_n dX11_laysReason_88 rfl ?_
          refine U_icmp_ge (tgt := 131) dX11_laysReason_89 (by decide) (fun hc => ?_) (fun hc => ?_)
          · replace h := h.1 hc
            refine U_iinc dX11_laysReason_131 rfl (by decide) rfl h.1 ?_
            replace h := h.2
            refine T_goto (tgt := 71) dX11_laysReason_134 (by decide) ?_
            exact T_drop h ⟨Or.inl rfl, Or.inl rfl, Or.inl rfl, Or.inl rfl, Or.inr rfl, trivial⟩
          · replace h := h.2 hc
            refine T_aload_n dX11_laysReason_92 rfl ?_
            refine T_iload dX11_laysReason_93 rfl ?_
            refine T_aload_n dX11_laysReason_95 rfl ?_
            refine T_iload_n dX11_laysReason_96 rfl ?_
            refine U_callV (as := [vI i3_1]) (st := [vI i4_1, vR 218]) dX11_laysReason_97 kX11_low lX11_208 SH_218 rfl rfl rfl rfl (Nat.le_of_ble_eq_true rfl) (Nat.le_of_ble_eq_true rfl) (by omega) ?_
            refine W_X11_low (by omega)  h (fun r97 h => ?_)
            show n_T G d 0 0 mX11_laysReason 100 [vR 218, vI (v 222 0), vI (v 222 1), vI i3_1, vI i4_1] [vI r97, vI i4_1, vR 218] SH v86 Q
            refine U_callV (as := [vI i4_1, vI r97]) (st := []) dX11_laysReason_100 kX11_farOf lX11_214 SH_218 rfl rfl rfl rfl (Nat.le_of_ble_eq_true rfl) (Nat.le_of_ble_eq_true rfl) (by omega) ?_
            refine W_X11_farOf (by omega)  h (fun r100 h => ?_)
            show n_T G d 0 0 mX11_laysReason 103 [vR 218, vI (v 222 0), vI (v 222 1), vI i3_1, vI i4_1] [vI r100] SH v86 Q
            refine T_aload_n dX11_laysReason_103 rfl ?_
            refine T_iload dX11_laysReason_104 rfl ?_
            refine T_aload_n dX11_laysReason_106 rfl ?_
            refine T_iload_n dX11_laysReason_107 rfl ?_
            refine U_callV (as := [vI i3_1]) (st := [vI i4_1, vR 218, vI r100]) dX11_laysReason_108 kX11_high lX11_211 SH_218 rfl rfl rfl rfl (Nat.le_of_ble_eq_true rfl) (Nat.le_of_ble_eq_true rfl) (by omega) ?_
            refine W_X11_high (by omega)  h (fun r108 h => ?_)
            show n_T G d 0 0 mX11_laysReason 111 [vR 218, vI (v 222 0), vI (v 222 1), vI i3_1, vI i4_1] [vI r108, vI i4_1, vR 218, vI r100] SH v86 Q
            refine U_callV (as := [vI i4_1, vI r108]) (st := [vI r100]) dX11_laysReason_111 kX11_farOf lX11_214 SH_218 rfl rfl rfl rfl (Nat.le_of_ble_eq_true rfl) (Nat.le_of_ble_eq_true rfl) (by omega) ?_
            refine W_X11_farOf (by omega)  h (fun r111 h => ?_)
            show n_T G d 0 0 mX11_laysReason 114 [vR 218, vI (v 222 0), vI (v 222 1), vI i3_1, vI i4_1] [vI r111, vI r100] SH v86 Q
            refine U_icmp_ne (tgt := 125) dX11_laysReason_114 (by decide) (fun hc => ?_) (fun hc => ?_)
            · replace h := h.1 hc
              refine U_iinc dX11_laysReason_125 rfl (by decide) rfl h.1 ?_
              replace h := h.2
              refine T_goto (tgt := 86) dX11_laysReason_128 (by decide) ?_
              exact T_drop h ⟨Or.inl rfl, Or.inl rfl, Or.inl rfl, Or.inl rfl, Or.inl rfl, trivial⟩
            · replace h := h.2 hc
              refine T_aload_n dX11_laysReason_117 rfl ?_
              refine T_iconst dX11_laysReason_118 (by decide) ?_
              refine T_iload_n dX11_laysReason_119 rfl ?_
              refine T_iload dX11_laysReason_120 rfl ?_
              refine U_callV (as := [vI 2, vI i3_1, vI i4_1]) (st := []) dX11_laysReason_122 kX11_isWhy lX11_228 SH_218 rfl rfl rfl rfl (Nat.le_of_ble_eq_true rfl) (Nat.le_of_ble_eq_true rfl) (by omega) ?_
              refine W_X11_isWhy (by omega)  h (fun v122 h => ?_)
              show n_T G d 0 0 mX11_laysReason 125 [vR 218, vI (v 222 0), vI (v 222 1), vI i3_1, vI i4_1] [] SH v122 Q
              refine U_iinc dX11_laysReason_125 rfl (by decide) rfl h.1 ?_
              replace h := h.2
              refine T_goto (tgt := 86) dX11_laysReason_128 (by decide) ?_
              exact T_drop h ⟨Or.inl rfl, Or.inl rfl, Or.inl rfl, Or.inl rfl, Or.inl rfl, trivial⟩
  · intro h
    refine T_drop (h (fun (i3_2 : Int) (v21 : VT) => n_T G d 0 0 mX11_laysReason 21 [vR 218, vI (v 222 0), vI (v 222 1), vI i3_2, vS 9] [] SH v21 Q) (fun i3_2 v21 h => ?_)) ⟨Or.inl rfl, Or.inl rfl, Or.inl rfl, Or.inl rfl, Or.inr rfl, trivial⟩
    refine T_iload_n dX11_laysReason_21 rfl ?_
    refine T_iload_n dX11_laysReason_22 rfl ?_
    refine U_icmp_ge (tgt := 69) dX11_laysReason_23 (by decide) (fun hc => ?_) (fun hc => ?_)
    · replace h := h.1 hc
      exact T_drop h ⟨Or.inl rfl, Or.inl rfl, Or.inl rfl, Or.inr rfl, Or.inr rfl, trivial⟩
    · replace h := h.2 hc
      refine T_iload_n dX11_laysReason_26 rfl ?_
      refine T_iconst dX11_laysReason_27 (by decide) ?_
      refine U_iadd dX11_laysReason_28 h.1 ?_
      replace h := h.2
      refine T_istore dX11_laysReason_29 (by decide) rfl ?_
      refine T_drop (h (fun (i4_2 : Int) (v31 : VT) => n_T G d 0 0 mX11_laysReason 31 [vR 218, vI (v 222 0), vI (v 222 1), vI i3_2, vI i4_2] [] SH v31 Q) (fun i4_2 v31 h => ?_)) ⟨Or.inl rfl, Or.inl rfl, Or.inl rfl, Or.inl rfl, Or.inl rfl, trivial⟩
      refine T_iload dX11_laysReason_31 rfl ?_
      refine T_iload_n dX11_laysReason_33 rfl ?_
      refine U_icmp_ge (tgt := 63) dX11_laysReason_34 (by decide) (fun hc => ?_) (fun hc => ?_)
      · replace h := h.1 hc
        refine U_iinc dX11_laysReason_63 rfl (by decide) rfl h.1 ?_
        replace h := h.2
        refine T_goto (tgt := 21) dX11_laysReason_66 (by decide) ?_
        exact T_drop h ⟨Or.inl rfl, Or.inl rfl, Or.inl rfl, Or.inl rfl, Or.inr rfl, trivial⟩
      · replace h := h.2 hc
        refine T_aload_n dX11_laysReason_37 rfl ?_
        refine T_iload_n dX11_laysReason_38 rfl ?_
        refine T_iload dX11_laysReason_39 rfl ?_
        refine U_callV (as := [vI i3_2, vI i4_2]) (st := []) dX11_laysReason_41 kX11_farOf lX11_214 SH_218 rfl rfl rfl rfl (Nat.le_of_ble_eq_true rfl) (Nat.le_of_ble_eq_true rfl) (by omega) ?_
        refine W_X11_farOf (by omega)  h (fun r41 h => ?_)
        show n_T G d 0 0 mX11_laysReason 44 [vR 218, vI (v 222 0), vI (v 222 1), vI i3_2, vI i4_2] [vI r41] SH v31 Q
        refine T_bipush dX11_laysReason_44 (by decide) ?_
        refine U_icmp_lt (tgt := 57) dX11_laysReason_46 (by decide) (fun hc => ?_) (fun hc => ?_)
        · replace h := h.1 hc
          refine U_iinc dX11_laysReason_57 rfl (by decide) rfl h.1 ?_
          replace h := h.2
          refine T_goto (tgt := 31) dX11_laysReason_60 (by decide) ?_
          exact T_drop h ⟨Or.inl rfl, Or.inl rfl, Or.inl rfl, Or.inl rfl, Or.inl rfl, trivial⟩
        · replace h := h.2 hc
          refine T_aload_n dX11_laysReason_49 rfl ?_
          refine T_iconst dX11_laysReason_50 (by decide) ?_
          refine T_iload_n dX11_laysReason_51 rfl ?_
          refine T_iload dX11_laysReason_52 rfl ?_
          refine U_callV (as := [vI 1, vI i3_2, vI i4_2]) (st := []) dX11_laysReason_54 kX11_isWhy lX11_228 SH_218 rfl rfl rfl rfl (Nat.le_of_ble_eq_true rfl) (Nat.le_of_ble_eq_true rfl) (by omega) ?_
          refine W_X11_isWhy (by omega)  h (fun v54 h => ?_)
          show n_T G d 0 0 mX11_laysReason 57 [vR 218, vI (v 222 0), vI (v 222 1), vI i3_2, vI i4_2] [] SH v54 Q
          refine U_iinc dX11_laysReason_57 rfl (by decide) rfl h.1 ?_
          replace h := h.2
          refine T_goto (tgt := 31) dX11_laysReason_60 (by decide) ?_
          exact T_drop h ⟨Or.inl rfl, Or.inl rfl, Or.inl rfl, Or.inl rfl, Or.inl rfl, trivial⟩

theorem W_X11_laysSides {G : GT} {d : Nat} (hd : 2 ≤ d)    {v : VT} {q : VT → Prop} {Q : Option Vl → List Sh → VT → Prop} (h : P_X11_laysSides  v q) (hQ : ∀ w, q w → Q none SH w) : n_T G d 0 0 mX11_laysSides 0 [vR 218, vS 9, vS 9] [] SH v Q := by
  unfold P_X11_laysSides at h
  refine T_iconst dX11_laysSides_0 (by decide) ?_
  refine T_istore_n dX11_laysSides_1 (by decide) rfl ?_
  refine T_drop (h (fun (i1 : Int) (v2 : VT) => n_T G d 0 0 mX11_laysSides 2 [vR 218, vI i1, vS 9] [] SH v2 Q) (fun i1 v2 h => ?_)) ⟨Or.inl rfl, Or.inl rfl, Or.inr rfl, trivial⟩
  refine T_iload_n dX11_laysSides_2 rfl ?_
  refine T_aload_n dX11_laysSides_3 rfl ?_
  refine T_getR (r := 222) dX11_laysSides_4 fX11_23 rfl SH_218 rfl ?_
  refine T_iconst dX11_laysSides_7 (by decide) ?_
  refine T_iald dX11_laysSides_8 SH_222 (by decide) ?_
  refine U_icmp_ge (tgt := 93) dX11_laysSides_9 (by decide) (fun hc => ?_) (fun hc => ?_)
  · replace h := h.1 hc
    exact T_vret dX11_laysSides_93 rfl (hQ _ h)
  · replace h := h.2 hc
    refine T_aload_n dX11_laysSides_12 rfl ?_
    refine T_getR (r := 228) dX11_laysSides_13 fX11_41 rfl SH_218 rfl ?_
    refine T_iload_n dX11_laysSides_16 rfl ?_
    refine T_iconst dX11_laysSides_17 (by decide) ?_
    refine U_iast dX11_laysSides_18 SH_228 h.1 (fun v18 ev18 => ?_)
    replace h := h.2 v18 ev18
    refine T_iconst dX11_laysSides_19 (by decide) ?_
    refine T_istore_n dX11_laysSides_20 (by decide) rfl ?_
    refine T_drop (h (fun (i2 : Int) (v21 : VT) => n_T G d 0 0 mX11_laysSides 21 [vR 218, vI i1, vI i2] [] SH v21 Q) (fun i2 v21 h => ?_)) ⟨Or.inl rfl, Or.inl rfl, Or.inl rfl, trivial⟩
    refine T_iload_n dX11_laysSides_21 rfl ?_
    refine T_aload_n dX11_laysSides_22 rfl ?_
    refine T_getI dX11_laysSides_23 fX11_222 rfl SH_218 ?_
    refine U_icmp_ge (tgt := 87) dX11_laysSides_26 (by decide) (fun hc => ?_) (fun hc => ?_)
    · replace h := h.1 hc
      refine U_iinc dX11_laysSides_87 rfl (by decide) rfl h.1 ?_
      replace h := h.2
      refine T_goto (tgt := 2) dX11_laysSides_90 (by decide) ?_
      exact T_drop h ⟨Or.inl rfl, Or.inl rfl, Or.inr rfl, trivial⟩
    · replace h := h.2 hc
      refine T_aload_n dX11_laysSides_29 rfl ?_
      refine T_getI dX11_laysSides_30 fX11_225 rfl SH_218 ?_
      refine U_if_ne (tgt := 87) dX11_laysSides_33 (by decide) (fun hc => ?_) (fun hc => ?_)
      · replace h := h.1 hc
        refine U_iinc dX11_laysSides_87 rfl (by decide) rfl h.1 ?_
        replace h := h.2
        refine T_goto (tgt := 2) dX11_laysSides_90 (by decide) ?_
        exact T_drop h ⟨Or.inl rfl, Or.inl rfl, Or.inr rfl, trivial⟩
      · replace h := h.2 hc
        refine T_aload_n dX11_laysSides_36 rfl ?_
        refine T_iload_n dX11_laysSides_37 rfl ?_
        refine T_aload_n dX11_laysSides_38 rfl ?_
        refine T_aload_n dX11_laysSides_39 rfl ?_
        refine T_getR (r := 227) dX11_laysSides_40 fX11_38 rfl SH_218 rfl ?_
        refine T_iload_n dX11_laysSides_43 rfl ?_
        refine T_iald dX11_laysSides_44 SH_227 h.1 ?_
        replace h := h.2
        refine U_callV (as := [vI (v21 227 i2.toNat)]) (st := [vI i1, vR 218]) dX11_laysSides_45 kX11_low lX11_208 SH_218 rfl rfl rfl rfl (Nat.le_of_ble_eq_true rfl) (Nat.le_of_ble_eq_true rfl) (by omega) ?_
        refine W_X11_low (by omega)  h (fun r45 h => ?_)
        show n_T G d 0 0 mX11_laysSides 48 [vR 218, vI i1, vI i2] [vI r45, vI i1, vR 218] SH v21 Q
        refine U_callV (as := [vI i1, vI r45]) (st := []) dX11_laysSides_48 kX11_farOf lX11_214 SH_218 rfl rfl rfl rfl (Nat.le_of_ble_eq_true rfl) (Nat.le_of_ble_eq_true rfl) (by omega) ?_
        refine W_X11_farOf (by omega)  h (fun r48 h => ?_)
        show n_T G d 0 0 mX11_laysSides 51 [vR 218, vI i1, vI i2] [vI r48] SH v21 Q
        refine T_aload_n dX11_laysSides_51 rfl ?_
        refine T_iload_n dX11_laysSides_52 rfl ?_
        refine T_aload_n dX11_laysSides_53 rfl ?_
        refine T_aload_n dX11_laysSides_54 rfl ?_
        refine T_getR (r := 227) dX11_laysSides_55 fX11_38 rfl SH_218 rfl ?_
        refine T_iload_n dX11_laysSides_58 rfl ?_
        refine T_iald dX11_laysSides_59 SH_227 h.1 ?_
        replace h := h.2
        refine U_callV (as := [vI (v21 227 i2.toNat)]) (st := [vI i1, vR 218, vI r48]) dX11_laysSides_60 kX11_high lX11_211 SH_218 rfl rfl rfl rfl (Nat.le_of_ble_eq_true rfl) (Nat.le_of_ble_eq_true rfl) (by omega) ?_
        refine W_X11_high (by omega)  h (fun r60 h => ?_)
        show n_T G d 0 0 mX11_laysSides 63 [vR 218, vI i1, vI i2] [vI r60, vI i1, vR 218, vI r48] SH v21 Q
        refine U_callV (as := [vI i1, vI r60]) (st := [vI r48]) dX11_laysSides_63 kX11_farOf lX11_214 SH_218 rfl rfl rfl rfl (Nat.le_of_ble_eq_true rfl) (Nat.le_of_ble_eq_true rfl) (by omega) ?_
        refine W_X11_farOf (by omega)  h (fun r63 h => ?_)
        show n_T G d 0 0 mX11_laysSides 66 [vR 218, vI i1, vI i2] [vI r63, vI r48] SH v21 Q
        refine U_icmp_le (tgt := 81) dX11_laysSides_66 (by decide) (fun hc => ?_) (fun hc => ?_)
        · replace h := h.1 hc
          refine U_iinc dX11_laysSides_81 rfl (by decide) rfl h.1 ?_
          replace h := h.2
          refine T_goto (tgt := 21) dX11_laysSides_84 (by decide) ?_
          exact T_drop h ⟨Or.inl rfl, Or.inl rfl, Or.inl rfl, trivial⟩
        · replace h := h.2 hc
          refine T_aload_n dX11_laysSides_69 rfl ?_
          refine T_getR (r := 228) dX11_laysSides_70 fX11_41 rfl SH_218 rfl ?_
          refine T_iload_n dX11_laysSides_73 rfl ?_
          refine T_dup2 dX11_laysSides_74 rfl rfl ?_
          refine T_iald dX11_laysSides_75 SH_228 h.1 ?_
          replace h := h.2
          refine T_iconst dX11_laysSides_76 (by decide) ?_
          refine T_iload_n dX11_laysSides_77 rfl ?_
          refine T_ishl dX11_laysSides_78 ?_
          refine T_ior dX11_laysSides_79 ?_
          refine U_iast dX11_laysSides_80 SH_228 h.1 (fun v80 ev80 => ?_)
          replace h := h.2 v80 ev80
          refine U_iinc dX11_laysSides_81 rfl (by decide) rfl h.1 ?_
          replace h := h.2
          refine T_goto (tgt := 21) dX11_laysSides_84 (by decide) ?_
          exact T_drop h ⟨Or.inl rfl, Or.inl rfl, Or.inl rfl, trivial⟩

theorem W_X11_lays {G : GT} {d : Nat} (hd : 4 ≤ d)    {v : VT} {q : VT → Prop} {Q : Option Vl → List Sh → VT → Prop} (h : P_X11_lays  v q) (hQ : ∀ w, q w → Q none SH w) : n_T G d 0 0 mX11_lays 0 [vR 218] [] SH v Q := by
  unfold P_X11_lays at h
  refine T_aload_n dX11_lays_0 rfl ?_
  refine T_getI dX11_lays_1 fX11_195 rfl SH_218 ?_
  refine U_if_eq (tgt := 8) dX11_lays_4 (by decide) (fun hc => ?_) (fun hc => ?_)
  · replace h := h.1 hc
    refine T_aload_n dX11_lays_8 rfl ?_
    refine T_iconst dX11_lays_9 (by decide) ?_
    refine U_putZ dX11_lays_10 fX11_195 rfl rfl SH_218 (by decide) (fun v10 ev10 => ?_)
    replace h := h v10 ev10
    refine T_aload_n dX11_lays_13 rfl ?_
    refine U_callV (as := []) (st := []) dX11_lays_14 kX11_laysFar lX11_232 SH_218 rfl rfl rfl rfl (Nat.le_of_ble_eq_true rfl) (Nat.le_of_ble_eq_true rfl) (by omega) ?_
    refine W_X11_laysFar (by omega)  h (fun v14 h => ?_)
    show n_T G d 0 0 mX11_lays 17 [vR 218] [] SH v14 Q
    refine T_aload_n dX11_lays_17 rfl ?_
    refine U_callV (as := []) (st := []) dX11_lays_18 kX11_laysKinds lX11_235 SH_218 rfl rfl rfl rfl (Nat.le_of_ble_eq_true rfl) (Nat.le_of_ble_eq_true rfl) (by omega) ?_
    refine W_X11_laysKinds (by omega)  h (fun v18 h => ?_)
    show n_T G d 0 0 mX11_lays 21 [vR 218] [] SH v18 Q
    refine T_aload_n dX11_lays_21 rfl ?_
    refine U_callV (as := []) (st := []) dX11_lays_22 kX11_laysReason lX11_238 SH_218 rfl rfl rfl rfl (Nat.le_of_ble_eq_true rfl) (Nat.le_of_ble_eq_true rfl) (by omega) ?_
    refine W_X11_laysReason (by omega)  h (fun v22 h => ?_)
    show n_T G d 0 0 mX11_lays 25 [vR 218] [] SH v22 Q
    refine T_aload_n dX11_lays_25 rfl ?_
    refine U_callV (as := []) (st := []) dX11_lays_26 kX11_laysSides lX11_241 SH_218 rfl rfl rfl rfl (Nat.le_of_ble_eq_true rfl) (Nat.le_of_ble_eq_true rfl) (by omega) ?_
    refine W_X11_laysSides (by omega)  h (fun v26 h => ?_)
    show n_T G d 0 0 mX11_lays 29 [vR 218] [] SH v26 Q
    exact T_vret dX11_lays_29 rfl (hQ _ h)
  · replace h := h.2 hc
    exact T_vret dX11_lays_7 rfl (hQ _ h)

theorem W_X11_sits {G : GT} {d : Nat} (hd : 5 ≤ d)    {v : VT} {q : Int → VT → Prop} {Q : Option Vl → List Sh → VT → Prop} (h : P_X11_sits  v q) (hQ : ∀ r w, q r w → Q (some (vI r)) SH w) : n_T G d 0 0 mX11_sits 0 [vR 218] [] SH v Q := by
  unfold P_X11_sits at h
  refine T_aload_n dX11_sits_0 rfl ?_
  refine U_callV (as := []) (st := []) dX11_sits_1 kX11_lays lX11_244 SH_218 rfl rfl rfl rfl (Nat.le_of_ble_eq_true rfl) (Nat.le_of_ble_eq_true rfl) (by omega) ?_
  refine W_X11_lays (by omega)  h (fun v1 h => ?_)
  show n_T G d 0 0 mX11_sits 4 [vR 218] [] SH v1 Q
  refine T_aload_n dX11_sits_4 rfl ?_
  refine T_getI dX11_sits_5 fX11_225 rfl SH_218 ?_
  refine U_if_ne (tgt := 24) dX11_sits_8 (by decide) (fun hc => ?_) (fun hc => ?_)
  · replace h := h.1 hc
    refine T_iconst dX11_sits_24 (by decide) ?_
    exact T_zret dX11_sits_25 rfl (by decide) (hQ _ _ h)
  · replace h := h.2 hc
    refine T_aload_n dX11_sits_11 rfl ?_
    refine T_getR (r := 222) dX11_sits_12 fX11_23 rfl SH_218 rfl ?_
    refine T_iconst dX11_sits_15 (by decide) ?_
    refine T_iald dX11_sits_16 SH_222 (by decide) ?_
    refine U_if_le (tgt := 24) dX11_sits_17 (by decide) (fun hc => ?_) (fun hc => ?_)
    · replace h := h.1 hc
      refine T_iconst dX11_sits_24 (by decide) ?_
      exact T_zret dX11_sits_25 rfl (by decide) (hQ _ _ h)
    · replace h := h.2 hc
      refine T_iconst dX11_sits_20 (by decide) ?_
      refine T_goto (tgt := 25) dX11_sits_21 (by decide) ?_
      exact T_zret dX11_sits_25 rfl (by decide) (hQ _ _ h)

theorem W_X11_isWhole {G : GT} {d : Nat} (hd : 5 ≤ d)    {v : VT} {q : Int → VT → Prop} {Q : Option Vl → List Sh → VT → Prop} (h : P_X11_isWhole  v q) (hQ : ∀ r w, q r w → Q (some (vI r)) SH w) : n_T G d 0 0 mX11_isWhole 0 [vR 218] [] SH v Q := by
  unfold P_X11_isWhole at h
  refine T_aload_n dX11_isWhole_0 rfl ?_
  refine U_callV (as := []) (st := []) dX11_isWhole_1 kX11_lays lX11_244 SH_218 rfl rfl rfl rfl (Nat.le_of_ble_eq_true rfl) (Nat.le_of_ble_eq_true rfl) (by omega) ?_
  refine W_X11_lays (by omega)  h (fun v1 h => ?_)
  show n_T G d 0 0 mX11_isWhole 4 [vR 218] [] SH v1 Q
  refine T_aload_n dX11_isWhole_4 rfl ?_
  refine T_getI dX11_isWhole_5 fX11_225 rfl SH_218 ?_
  refine T_iconst dX11_isWhole_8 (by decide) ?_
  refine U_icmp_eq (tgt := 25) dX11_isWhole_9 (by decide) (fun hc => ?_) (fun hc => ?_)
  · replace h := h.1 hc
    refine T_iconst dX11_isWhole_25 (by decide) ?_
    exact T_zret dX11_isWhole_26 rfl (by decide) (hQ _ _ h)
  · replace h := h.2 hc
    refine T_aload_n dX11_isWhole_12 rfl ?_
    refine T_getR (r := 222) dX11_isWhole_13 fX11_23 rfl SH_218 rfl ?_
    refine T_iconst dX11_isWhole_16 (by decide) ?_
    refine T_iald dX11_isWhole_17 SH_222 (by decide) ?_
    refine U_if_le (tgt := 25) dX11_isWhole_18 (by decide) (fun hc => ?_) (fun hc => ?_)
    · replace h := h.1 hc
      refine T_iconst dX11_isWhole_25 (by decide) ?_
      exact T_zret dX11_isWhole_26 rfl (by decide) (hQ _ _ h)
    · replace h := h.2 hc
      refine T_iconst dX11_isWhole_21 (by decide) ?_
      refine T_goto (tgt := 26) dX11_isWhole_22 (by decide) ?_
      exact T_zret dX11_isWhole_26 rfl (by decide) (hQ _ _ h)

theorem W_X11_isFair {G : GT} {d : Nat} (hd : 2 ≤ d)    {v : VT} {q : Int → Prop} {Q : Option Vl → List Sh → VT → Prop} (h : P_X11_isFair  v q) (hQ : ∀ r, q r → Q (some (vI r)) SH v) : n_T G d 0 0 mX11_isFair 0 [vR 218, vS 9] [] SH v Q := by
  unfold P_X11_isFair at h
  refine T_iconst dX11_isFair_0 (by decide) ?_
  refine T_istore_n dX11_isFair_1 (by decide) rfl ?_
  refine T_drop (h (fun (i1 : Int) => n_T G d 0 0 mX11_isFair 2 [vR 218, vI i1] [] SH v Q) (fun i1 h => ?_)) ⟨Or.inl rfl, Or.inl rfl, trivial⟩
  refine T_iload_n dX11_isFair_2 rfl ?_
  refine T_aload_n dX11_isFair_3 rfl ?_
  refine T_getR (r := 222) dX11_isFair_4 fX11_23 rfl SH_218 rfl ?_
  refine T_iconst dX11_isFair_7 (by decide) ?_
  refine T_iald dX11_isFair_8 SH_222 (by decide) ?_
  refine U_icmp_ge (tgt := 43) dX11_isFair_9 (by decide) (fun hc => ?_) (fun hc => ?_)
  · replace h := h.1 hc
    refine T_iconst dX11_isFair_43 (by decide) ?_
    exact T_zret dX11_isFair_44 rfl (by decide) (hQ _ h)
  · replace h := h.2 hc
    refine T_aload_n dX11_isFair_12 rfl ?_
    refine T_iload_n dX11_isFair_13 rfl ?_
    refine U_callV (as := [vI i1]) (st := []) dX11_isFair_14 kX11_priceOf lX11_254 SH_218 rfl rfl rfl rfl (Nat.le_of_ble_eq_true rfl) (Nat.le_of_ble_eq_true rfl) (by omega) ?_
    refine W_X11_priceOf (by omega)  h (fun r14 h => ?_)
    show n_T G d 0 0 mX11_isFair 17 [vR 218, vI i1] [vI r14] SH v Q
    refine T_aload_n dX11_isFair_17 rfl ?_
    refine T_aload_n dX11_isFair_18 rfl ?_
    refine T_getR (r := 227) dX11_isFair_19 fX11_38 rfl SH_218 rfl ?_
    refine T_aload_n dX11_isFair_22 rfl ?_
    refine T_getR (r := 225) dX11_isFair_23 fX11_32 rfl SH_218 rfl ?_
    refine T_iload_n dX11_isFair_26 rfl ?_
    refine T_iald dX11_isFair_27 SH_225 h.1 ?_
    replace h := h.2
    refine T_iald dX11_isFair_28 SH_227 h.1 ?_
    replace h := h.2
    refine U_callV (as := [vI (v 227 (v 225 i1.toNat).toNat)]) (st := [vI r14]) dX11_isFair_29 kX11_priceOf lX11_254 SH_218 rfl rfl rfl rfl (Nat.le_of_ble_eq_true rfl) (Nat.le_of_ble_eq_true rfl) (by omega) ?_
    refine W_X11_priceOf (by omega)  h (fun r29 h => ?_)
    show n_T G d 0 0 mX11_isFair 32 [vR 218, vI i1] [vI r29, vI r14] SH v Q
    refine U_icmp_eq (tgt := 37) dX11_isFair_32 (by decide) (fun hc => ?_) (fun hc => ?_)
    · replace h := h.1 hc
      refine U_iinc dX11_isFair_37 rfl (by decide) rfl h.1 ?_
      replace h := h.2
      refine T_goto (tgt := 2) dX11_isFair_40 (by decide) ?_
      exact T_drop h ⟨Or.inl rfl, Or.inl rfl, trivial⟩
    · replace h := h.2 hc
      refine T_iconst dX11_isFair_35 (by decide) ?_
      exact T_zret dX11_isFair_36 rfl (by decide) (hQ _ h)

theorem W_X11_has {G : GT} {d : Nat} (hd : 5 ≤ d) {x1 : Int}   {v : VT} {q : Int → VT → Prop} {Q : Option Vl → List Sh → VT → Prop} (h : P_X11_has x1 v q) (hQ : ∀ r w, q r w → Q (some (vI r)) SH w) : n_T G d 0 0 mX11_has 0 [vR 218, vI x1] [] SH v Q := by
  unfold P_X11_has at h
  refine T_aload_n dX11_has_0 rfl ?_
  refine U_callV (as := []) (st := []) dX11_has_1 kX11_lays lX11_244 SH_218 rfl rfl rfl rfl (Nat.le_of_ble_eq_true rfl) (Nat.le_of_ble_eq_true rfl) (by omega) ?_
  refine W_X11_lays (by omega)  h (fun v1 h => ?_)
  show n_T G d 0 0 mX11_has 4 [vR 218, vI x1] [] SH v1 Q
  refine T_iload_n dX11_has_4 rfl ?_
  rcases (by omega : x1 = 0 ∨ x1 = 1 ∨ x1 = 2 ∨ x1 = 3 ∨ x1 = 4 ∨ x1 = 5 ∨ x1 = 6 ∨ x1 = 7 ∨ (x1 < 0 ∨ 7 < x1)) with hc | hc | hc | hc | hc | hc | hc | hc | hc
  · refine U_tab (tgt := 52) dX11_has_5 0 hc (by decide) rfl (by decide) ?_
    replace h := h.1 hc
    refine T_aload_n dX11_has_52 rfl ?_
    refine T_getR (r := 222) dX11_has_53 fX11_23 rfl SH_218 rfl ?_
    refine T_iconst dX11_has_56 (by decide) ?_
    refine T_iald dX11_has_57 SH_222 (by decide) ?_
    exact T_iret dX11_has_58 rfl (hQ _ _ h)
  · refine U_tab (tgt := 59) dX11_has_5 1 hc (by decide) rfl (by decide) ?_
    replace h := h.2.1 hc
    refine T_aload_n dX11_has_59 rfl ?_
    refine T_getR (r := 222) dX11_has_60 fX11_23 rfl SH_218 rfl ?_
    refine T_iconst dX11_has_63 (by decide) ?_
    refine T_iald dX11_has_64 SH_222 (by decide) ?_
    exact T_iret dX11_has_65 rfl (hQ _ _ h)
  · refine U_tab (tgt := 66) dX11_has_5 2 hc (by decide) rfl (by decide) ?_
    replace h := h.2.2.1 hc
    refine T_aload_n dX11_has_66 rfl ?_
    refine T_getI dX11_has_67 fX11_222 rfl SH_218 ?_
    exact T_iret dX11_has_70 rfl (hQ _ _ h)
  · refine U_tab (tgt := 71) dX11_has_5 3 hc (by decide) rfl (by decide) ?_
    replace h := h.2.2.2.1 hc
    refine T_aload_n dX11_has_71 rfl ?_
    refine T_getI dX11_has_72 fX11_202 rfl SH_218 ?_
    exact T_iret dX11_has_75 rfl (hQ _ _ h)
  · refine U_tab (tgt := 76) dX11_has_5 4 hc (by decide) rfl (by decide) ?_
    replace h := h.2.2.2.2.1 hc
    refine T_aload_n dX11_has_76 rfl ?_
    refine T_getI dX11_has_77 fX11_205 rfl SH_218 ?_
    exact T_iret dX11_has_80 rfl (hQ _ _ h)
  · refine U_tab (tgt := 81) dX11_has_5 5 hc (by decide) rfl (by decide) ?_
    replace h := h.2.2.2.2.2.1 hc
    refine T_aload_n dX11_has_81 rfl ?_
    refine T_getI dX11_has_82 fX11_199 rfl SH_218 ?_
    exact T_iret dX11_has_85 rfl (hQ _ _ h)
  · refine U_tab (tgt := 86) dX11_has_5 6 hc (by decide) rfl (by decide) ?_
    replace h := h.2.2.2.2.2.2.1 hc
    refine T_aload_n dX11_has_86 rfl ?_
    refine T_getI dX11_has_87 fX11_225 rfl SH_218 ?_
    exact T_iret dX11_has_90 rfl (hQ _ _ h)
  · refine U_tab (tgt := 91) dX11_has_5 7 hc (by decide) rfl (by decide) ?_
    replace h := h.2.2.2.2.2.2.2.1 hc
    refine T_aload_n dX11_has_91 rfl ?_
    refine U_callV (as := []) (st := []) dX11_has_92 kX11_isFair lX11_247 SH_218 rfl rfl rfl rfl (Nat.le_of_ble_eq_true rfl) (Nat.le_of_ble_eq_true rfl) (by omega) ?_
    refine W_X11_isFair (by omega)  h (fun r92 h => ?_)
    show n_T G d 0 0 mX11_has 95 [vR 218, vI x1] [vI r92] SH v1 Q
    refine U_callS (as := [vI r92]) (st := []) dX11_has_95 kX11_flag lX11_250 rfl rfl (Nat.le_of_ble_eq_true rfl) (Nat.le_of_ble_eq_true rfl) (by omega) ?_
    refine W_X11_flag (by omega)  h (fun r95 h => ?_)
    show n_T G d 0 0 mX11_has 98 [vR 218, vI x1] [vI r95] SH v1 Q
    exact T_iret dX11_has_98 rfl (hQ _ _ h)
  · refine T_tabOut (tgt := 99) dX11_has_5 hc (by decide) ?_
    replace h := h.2.2.2.2.2.2.2.2 hc
    refine T_iconst dX11_has_99 (by decide) ?_
    exact T_iret dX11_has_100 rfl (hQ _ _ h)

theorem W_X11_letter {G : GT} {d : Nat} (hd : 3 ≤ d) {x1 : Int} {x2 : Int}   {v : VT} {q : Int → Prop} {Q : Option Vl → List Sh → VT → Prop} (h : P_X11_letter x1 x2 v q) (hQ : ∀ r, q r → Q (some (vI r)) SH v) : n_T G d 0 0 mX11_letter 0 [vR 218, vI x1, vI x2, vS 9, vS 9, vS 9] [] SH v Q := by
  unfold P_X11_letter at h
  refine T_aload_n dX11_letter_0 rfl ?_
  refine T_iload_n dX11_letter_1 rfl ?_
  refine U_callV (as := [vI x1]) (st := []) dX11_letter_2 kX11_isNode lX11_257 SH_218 rfl rfl rfl rfl (Nat.le_of_ble_eq_true rfl) (Nat.le_of_ble_eq_true rfl) (by omega) ?_
  refine W_X11_isNode (by omega)  h (fun r2 h => ?_)
  show n_T G d 0 0 mX11_letter 5 [vR 218, vI x1, vI x2, vS 9, vS 9, vS 9] [vI r2] SH v Q
  refine U_if_eq (tgt := 20) dX11_letter_5 (by decide) (fun hc => ?_) (fun hc => ?_)
  · replace h := h.1 hc
    refine T_iconst dX11_letter_20 (by decide) ?_
    exact T_iret dX11_letter_21 rfl (hQ _ h)
  · replace h := h.2 hc
    refine T_iload_n dX11_letter_8 rfl ?_
    refine T_i2l dX11_letter_9 ?_
    refine T_lconst dX11_letter_10 ?_
    refine T_ldc2 (n := 3) dX11_letter_11 cX11_260 (by unfold r64; omega) ?_
    refine U_callS (as := [vJ x2, vJ 0, vJ 3]) (st := []) dX11_letter_14 kX11_isIn lX11_109 rfl rfl (Nat.le_of_ble_eq_true rfl) (Nat.le_of_ble_eq_true rfl) (by omega) ?_
    refine W_X11_isIn (by omega)  h (fun r14 h => ?_)
    show n_T G d 0 0 mX11_letter 17 [vR 218, vI x1, vI x2, vS 9, vS 9, vS 9] [vI r14] SH v Q
    refine U_if_ne (tgt := 22) dX11_letter_17 (by decide) (fun hc => ?_) (fun hc => ?_)
    · replace h := h.1 hc
      refine T_aload_n dX11_letter_22 rfl ?_
      refine T_getR (r := 222) dX11_letter_23 fX11_23 rfl SH_218 rfl ?_
      refine T_iconst dX11_letter_26 (by decide) ?_
      refine T_iload_n dX11_letter_27 rfl ?_
      refine U_iadd dX11_letter_28 h.1 ?_
      replace h := h.2
      refine T_iald dX11_letter_29 SH_222 h.1 ?_
      replace h := h.2
      refine U_istore_n dX11_letter_30 (by decide) rfl (fun l3 el3 => ?_)
      replace h := h l3 el3
      refine T_iconst dX11_letter_31 (by decide) ?_
      refine T_istore dX11_letter_32 (by decide) rfl ?_
      refine T_iload_n dX11_letter_34 rfl ?_
      refine T_istore dX11_letter_35 (by decide) rfl ?_
      refine n_cut (h (fun (i4 : Int) => n_T G d 0 0 mX11_letter 55 [vS 9, vS 9, vI x2, vI l3, vI i4, vS 9] [] SH v Q)) ?_ ?_
      · intro i4 h
        refine T_iload dX11_letter_55 rfl ?_
        refine T_iconst dX11_letter_57 (by decide) ?_
        refine U_isub dX11_letter_58 h.1 ?_
        replace h := h.2
        refine T_istore dX11_letter_59 (by decide) rfl ?_
        refine T_drop (h (fun (i3 : Int) (i5 : Int) => n_T G d 0 0 mX11_letter 61 [vS 9, vS 9, vI x2, vI i3, vI i4, vI i5] [] SH v Q) (fun i3 i5 h => ?_)) ⟨Or.inr rfl, Or.inr rfl, Or.inl rfl, Or.inl rfl, Or.inl rfl, Or.inl rfl, trivial⟩
        refine T_iload dX11_letter_61 rfl ?_
        refine T_iload_n dX11_letter_63 rfl ?_
        refine U_icmp_le (tgt := 78) dX11_letter_64 (by decide) (fun hc => ?_) (fun hc => ?_)
        · replace h := h.1 hc
          refine T_iload_n dX11_letter_78 rfl ?_
          refine T_iload dX11_letter_79 rfl ?_
          refine U_icmp_ge (tgt := 91) dX11_letter_81 (by decide) (fun hc => ?_) (fun hc => ?_)
          · replace h := h.1 hc
            refine T_iconst dX11_letter_91 (by decide) ?_
            exact T_iret dX11_letter_92 rfl (hQ _ h)
          · replace h := h.2 hc
            refine T_iload_n dX11_letter_84 rfl ?_
            refine T_bipush dX11_letter_85 (by decide) ?_
            refine T_irem dX11_letter_87 (by decide) ?_
            refine T_goto (tgt := 92) dX11_letter_88 (by decide) ?_
            exact T_iret dX11_letter_92 rfl (hQ _ h)
        · replace h := h.2 hc
          refine T_iload_n dX11_letter_67 rfl ?_
          refine T_bipush dX11_letter_68 (by decide) ?_
          refine T_idiv dX11_letter_70 (by decide) ?_
          refine T_istore_n dX11_letter_71 (by decide) rfl ?_
          refine U_iinc dX11_letter_72 rfl (by decide) rfl h.1 ?_
          replace h := h.2
          refine T_goto (tgt := 61) dX11_letter_75 (by decide) ?_
          exact T_drop h ⟨Or.inr rfl, Or.inr rfl, Or.inl rfl, Or.inl rfl, Or.inl rfl, Or.inl rfl, trivial⟩
      · intro h
        refine T_drop (h (fun (i4_1 : Int) (i5_1 : Int) => n_T G d 0 0 mX11_letter 37 [vS 9, vS 9, vI x2, vI l3, vI i4_1, vI i5_1] [] SH v Q) (fun i4_1 i5_1 h => ?_)) ⟨Or.inr rfl, Or.inr rfl, Or.inl rfl, Or.inl rfl, Or.inl rfl, Or.inl rfl, trivial⟩
        refine T_iload dX11_letter_37 rfl ?_
        refine U_if_le (tgt := 55) dX11_letter_39 (by decide) (fun hc => ?_) (fun hc => ?_)
        · replace h := h.1 hc
          exact T_drop h ⟨Or.inr rfl, Or.inr rfl, Or.inl rfl, Or.inl rfl, Or.inl rfl, Or.inr rfl, trivial⟩
        · replace h := h.2 hc
          refine U_iinc dX11_letter_42 rfl (by decide) rfl h.1 ?_
          replace h := h.2
          refine T_iload dX11_letter_45 rfl ?_
          refine T_bipush dX11_letter_47 (by decide) ?_
          refine T_idiv dX11_letter_49 (by decide) ?_
          refine U_istore dX11_letter_50 (by decide) rfl (fun l5 el5 => ?_)
          replace h := h l5 el5
          refine T_goto (tgt := 37) dX11_letter_52 (by decide) ?_
          exact T_drop h ⟨Or.inr rfl, Or.inr rfl, Or.inl rfl, Or.inl rfl, Or.inl rfl, Or.inl rfl, trivial⟩
    · replace h := h.2 hc
      refine T_iconst dX11_letter_20 (by decide) ?_
      exact T_iret dX11_letter_21 rfl (hQ _ h)

theorem W_X11_named {G : GT} {d : Nat} (hd : 2 ≤ d)    {v : VT} {q : Int → VT → Prop} {Q : Option Vl → List Sh → VT → Prop} (h : P_X11_named  v q) (hQ : ∀ r w, q r w → Q (some (vI r)) SH w) : n_T G d 0 0 mX11_named 0 [vR 218, vS 9, vS 9, vS 9] [] SH v Q := by
  unfold P_X11_named at h
  refine T_aload_n dX11_named_0 rfl ?_
  refine T_getI dX11_named_1 fX11_96 rfl SH_218 ?_
  refine T_istore_n dX11_named_4 (by decide) rfl ?_
  refine T_aload_n dX11_named_5 rfl ?_
  refine T_iconst dX11_named_6 (by decide) ?_
  refine U_putI dX11_named_7 fX11_96 rfl rfl SH_218 (fun v7 ev7 => ?_)
  replace h := h v7 ev7
  refine T_iconst dX11_named_10 (by decide) ?_
  refine T_istore_n dX11_named_11 (by decide) rfl ?_
  refine T_iconst dX11_named_12 (by decide) ?_
  refine T_istore_n dX11_named_13 (by decide) rfl ?_
  refine T_drop (h (fun (i2 : Int) (i3 : Int) => n_T G d 0 0 mX11_named 14 [vR 218, vI (v 218 1), vI i2, vI i3] [] SH v7 Q) (fun i2 i3 h => ?_)) ⟨Or.inl rfl, Or.inl rfl, Or.inl rfl, Or.inl rfl, trivial⟩
  refine T_iload_n dX11_named_14 rfl ?_
  refine T_iload_n dX11_named_15 rfl ?_
  refine U_icmp_ge (tgt := 61) dX11_named_16 (by decide) (fun hc => ?_) (fun hc => ?_)
  · replace h := h.1 hc
    refine T_iload_n dX11_named_61 rfl ?_
    refine U_if_ne (tgt := 69) dX11_named_62 (by decide) (fun hc => ?_) (fun hc => ?_)
    · replace h := h.1 hc
      refine T_aload_n dX11_named_69 rfl ?_
      refine T_getR (r := 222) dX11_named_70 fX11_23 rfl SH_218 rfl ?_
      refine T_iload_n dX11_named_73 rfl ?_
      refine U_callS (as := [vR 222, vI i2]) (st := []) dX11_named_74 kX11_nodeNamed lX11_165 rfl rfl (Nat.le_of_ble_eq_true rfl) (Nat.le_of_ble_eq_true rfl) (by omega) ?_
      refine W_X11_nodeNamed (by omega) SH_222 h (fun r74 h => ?_)
      show n_T G d 0 0 mX11_named 77 [vR 218, vI (v 218 1), vI i2, vI i3] [vI r74] SH v7 Q
      exact T_iret dX11_named_77 rfl (hQ _ _ h)
    · replace h := h.2 hc
      refine T_iconst dX11_named_65 (by decide) ?_
      refine T_goto (tgt := 77) dX11_named_66 (by decide) ?_
      exact T_iret dX11_named_77 rfl (hQ _ _ h)
  · replace h := h.2 hc
    refine T_iload_n dX11_named_19 rfl ?_
    refine T_iconst dX11_named_20 (by decide) ?_
    refine U_icmp_eq (tgt := 36) dX11_named_21 (by decide) (fun hc => ?_) (fun hc => ?_)
    · replace h := h.1 hc
      refine T_iconst dX11_named_36 (by decide) ?_
      exact T_iret dX11_named_37 rfl (hQ _ _ h)
    · replace h := h.2 hc
      refine T_aload_n dX11_named_24 rfl ?_
      refine T_getR (r := 219) dX11_named_25 fX11_7 rfl SH_218 rfl ?_
      refine T_iload_n dX11_named_28 rfl ?_
      refine T_iald dX11_named_29 SH_219 h.1 ?_
      replace h := h.2
      refine U_callS (as := [vI (v7 219 i3.toNat)]) (st := []) dX11_named_30 kX11_isLetter lX11_139 rfl rfl (Nat.le_of_ble_eq_true rfl) (Nat.le_of_ble_eq_true rfl) (by omega) ?_
      refine W_X11_isLetter (by omega)  h (fun r30 h => ?_)
      show n_T G d 0 0 mX11_named 33 [vR 218, vI (v 218 1), vI i2, vI i3] [vI r30] SH v7 Q
      refine U_if_ne (tgt := 38) dX11_named_33 (by decide) (fun hc => ?_) (fun hc => ?_)
      · replace h := h.1 hc
        refine T_bipush dX11_named_38 (by decide) ?_
        refine T_iload_n dX11_named_40 rfl ?_
        refine U_imul dX11_named_41 h.1 ?_
        replace h := h.2
        refine T_aload_n dX11_named_42 rfl ?_
        refine T_getR (r := 219) dX11_named_43 fX11_7 rfl SH_218 rfl ?_
        refine T_iload_n dX11_named_46 rfl ?_
        refine T_iald dX11_named_47 SH_219 h.1 ?_
        replace h := h.2
        refine U_iadd dX11_named_48 h.1 ?_
        replace h := h.2
        refine T_bipush dX11_named_49 (by decide) ?_
        refine U_isub dX11_named_51 h.1 ?_
        replace h := h.2
        refine T_iconst dX11_named_52 (by decide) ?_
        refine U_iadd dX11_named_53 h.1 ?_
        replace h := h.2
        refine U_istore_n dX11_named_54 (by decide) rfl (fun l2 el2 => ?_)
        replace h := h l2 el2
        refine U_iinc dX11_named_55 rfl (by decide) rfl h.1 ?_
        replace h := h.2
        refine T_goto (tgt := 14) dX11_named_58 (by decide) ?_
        exact T_drop h ⟨Or.inl rfl, Or.inl rfl, Or.inl rfl, Or.inl rfl, trivial⟩
      · replace h := h.2 hc
        refine T_iconst dX11_named_36 (by decide) ?_
        exact T_iret dX11_named_37 rfl (hQ _ _ h)

theorem W_X11_line {G : GT} {d : Nat} (hd : 5 ≤ d) {x1 : Int} {x2 : Int}   {v : VT} {q : Int → VT → Prop} {Q : Option Vl → List Sh → VT → Prop} (h : P_X11_line x1 x2 v q) (hQ : ∀ r w, q r w → Q (some (vI r)) SH w) : n_T G d 0 0 mX11_line 0 [vR 218, vI x1, vI x2] [] SH v Q := by
  unfold P_X11_line at h
  refine T_aload_n dX11_line_0 rfl ?_
  refine T_iload_n dX11_line_1 rfl ?_
  refine U_callV (as := [vI x1]) (st := []) dX11_line_2 kX11_isLine lX11_262 SH_218 rfl rfl rfl rfl (Nat.le_of_ble_eq_true rfl) (Nat.le_of_ble_eq_true rfl) (by omega) ?_
  refine W_X11_isLine (by omega)  h (fun r2 h => ?_)
  show n_T G d 0 0 mX11_line 5 [vR 218, vI x1, vI x2] [vI r2] SH v Q
  refine U_if_ne (tgt := 10) dX11_line_5 (by decide) (fun hc => ?_) (fun hc => ?_)
  · replace h := h.1 hc
    refine T_aload_n dX11_line_10 rfl ?_
    refine U_callV (as := []) (st := []) dX11_line_11 kX11_lays lX11_244 SH_218 rfl rfl rfl rfl (Nat.le_of_ble_eq_true rfl) (Nat.le_of_ble_eq_true rfl) (by omega) ?_
    refine W_X11_lays (by omega)  h (fun v11 h => ?_)
    show n_T G d 0 0 mX11_line 14 [vR 218, vI x1, vI x2] [] SH v11 Q
    refine T_iload_n dX11_line_14 rfl ?_
    refine U_if_ne (tgt := 26) dX11_line_15 (by decide) (fun hc => ?_) (fun hc => ?_)
    · replace h := h.1 hc
      refine T_iload_n dX11_line_26 rfl ?_
      refine T_iconst dX11_line_27 (by decide) ?_
      refine U_icmp_ne (tgt := 39) dX11_line_28 (by decide) (fun hc => ?_) (fun hc => ?_)
      · replace h := h.1 hc
        refine T_iload_n dX11_line_39 rfl ?_
        refine T_iconst dX11_line_40 (by decide) ?_
        refine U_icmp_ne (tgt := 53) dX11_line_41 (by decide) (fun hc => ?_) (fun hc => ?_)
        · replace h := h.1 hc
          refine T_iload_n dX11_line_53 rfl ?_
          refine T_iconst dX11_line_54 (by decide) ?_
          refine U_icmp_ne (tgt := 66) dX11_line_55 (by decide) (fun hc => ?_) (fun hc => ?_)
          · replace h := h.1 hc
            refine T_iconst dX11_line_66 (by decide) ?_
            exact T_iret dX11_line_67 rfl (hQ _ _ h)
          · replace h := h.2 hc
            refine T_aload_n dX11_line_58 rfl ?_
            refine T_iload_n dX11_line_59 rfl ?_
            refine U_callV (as := [vI x1]) (st := []) dX11_line_60 kX11_priceOf lX11_254 SH_218 rfl rfl rfl rfl (Nat.le_of_ble_eq_true rfl) (Nat.le_of_ble_eq_true rfl) (by omega) ?_
            refine W_X11_priceOf (by omega)  h (fun r60 h => ?_)
            show n_T G d 0 0 mX11_line 63 [vR 218, vI x1, vI x2] [vI r60] SH v11 Q
            refine T_goto (tgt := 67) dX11_line_63 (by decide) ?_
            exact T_iret dX11_line_67 rfl (hQ _ _ h)
        · replace h := h.2 hc
          refine T_aload_n dX11_line_44 rfl ?_
          refine T_getR (r := 225) dX11_line_45 fX11_32 rfl SH_218 rfl ?_
          refine T_iload_n dX11_line_48 rfl ?_
          refine T_iald dX11_line_49 SH_225 h.1 ?_
          replace h := h.2
          refine T_goto (tgt := 67) dX11_line_50 (by decide) ?_
          exact T_iret dX11_line_67 rfl (hQ _ _ h)
      · replace h := h.2 hc
        refine T_aload_n dX11_line_31 rfl ?_
        refine T_iload_n dX11_line_32 rfl ?_
        refine U_callV (as := [vI x1]) (st := []) dX11_line_33 kX11_high lX11_211 SH_218 rfl rfl rfl rfl (Nat.le_of_ble_eq_true rfl) (Nat.le_of_ble_eq_true rfl) (by omega) ?_
        refine W_X11_high (by omega)  h (fun r33 h => ?_)
        show n_T G d 0 0 mX11_line 36 [vR 218, vI x1, vI x2] [vI r33] SH v11 Q
        refine T_goto (tgt := 67) dX11_line_36 (by decide) ?_
        exact T_iret dX11_line_67 rfl (hQ _ _ h)
    · replace h := h.2 hc
      refine T_aload_n dX11_line_18 rfl ?_
      refine T_iload_n dX11_line_19 rfl ?_
      refine U_callV (as := [vI x1]) (st := []) dX11_line_20 kX11_low lX11_208 SH_218 rfl rfl rfl rfl (Nat.le_of_ble_eq_true rfl) (Nat.le_of_ble_eq_true rfl) (by omega) ?_
      refine W_X11_low (by omega)  h (fun r20 h => ?_)
      show n_T G d 0 0 mX11_line 23 [vR 218, vI x1, vI x2] [vI r20] SH v11 Q
      refine T_goto (tgt := 67) dX11_line_23 (by decide) ?_
      exact T_iret dX11_line_67 rfl (hQ _ _ h)
  · replace h := h.2 hc
    refine T_iconst dX11_line_8 (by decide) ?_
    exact T_iret dX11_line_9 rfl (hQ _ _ h)

theorem W_X11_degreeOf {G : GT} {d : Nat} (hd : 2 ≤ d) {x1 : Int}   {v : VT} {q : Int → Prop} {Q : Option Vl → List Sh → VT → Prop} (h : P_X11_degreeOf x1 v q) (hQ : ∀ r, q r → Q (some (vI r)) SH v) : n_T G d 0 0 mX11_degreeOf 0 [vR 218, vI x1, vS 9, vS 9] [] SH v Q := by
  unfold P_X11_degreeOf at h
  refine T_iconst dX11_degreeOf_0 (by decide) ?_
  refine T_istore_n dX11_degreeOf_1 (by decide) rfl ?_
  refine T_iconst dX11_degreeOf_2 (by decide) ?_
  refine T_istore_n dX11_degreeOf_3 (by decide) rfl ?_
  refine T_drop (h (fun (i2 : Int) (i3 : Int) => n_T G d 0 0 mX11_degreeOf 4 [vR 218, vI x1, vI i2, vI i3] [] SH v Q) (fun i2 i3 h => ?_)) ⟨Or.inl rfl, Or.inl rfl, Or.inl rfl, Or.inl rfl, trivial⟩
  refine T_iload_n dX11_degreeOf_4 rfl ?_
  refine T_aload_n dX11_degreeOf_5 rfl ?_
  refine T_getR (r := 222) dX11_degreeOf_6 fX11_23 rfl SH_218 rfl ?_
  refine T_iconst dX11_degreeOf_9 (by decide) ?_
  refine T_iald dX11_degreeOf_10 SH_222 (by decide) ?_
  refine U_icmp_ge (tgt := 49) dX11_degreeOf_11 (by decide) (fun hc => ?_) (fun hc => ?_)
  · replace h := h.1 hc
    refine T_iload_n dX11_degreeOf_49 rfl ?_
    exact T_iret dX11_degreeOf_50 rfl (hQ _ h)
  · replace h := h.2 hc
    refine T_iload_n dX11_degreeOf_14 rfl ?_
    refine T_aload_n dX11_degreeOf_15 rfl ?_
    refine T_iload_n dX11_degreeOf_16 rfl ?_
    refine U_callV (as := [vI i3]) (st := [vI i2]) dX11_degreeOf_17 kX11_low lX11_208 SH_218 rfl rfl rfl rfl (Nat.le_of_ble_eq_true rfl) (Nat.le_of_ble_eq_true rfl) (by omega) ?_
    refine W_X11_low (by omega)  h (fun r17 h => ?_)
    show n_T G d 0 0 mX11_degreeOf 20 [vR 218, vI x1, vI i2, vI i3] [vI r17, vI i2] SH v Q
    refine T_iload_n dX11_degreeOf_20 rfl ?_
    refine U_icmp_eq (tgt := 33) dX11_degreeOf_21 (by decide) (fun hc => ?_) (fun hc => ?_)
    · replace h := h.1 hc
      refine T_iconst dX11_degreeOf_33 (by decide) ?_
      refine T_goto (tgt := 38) dX11_degreeOf_34 (by decide) ?_
      refine U_callS (as := [vI 1]) (st := [vI i2]) dX11_degreeOf_38 kX11_flag lX11_250 rfl rfl (Nat.le_of_ble_eq_true rfl) (Nat.le_of_ble_eq_true rfl) (by omega) ?_
      refine W_X11_flag (by omega)  h (fun r38 h => ?_)
      show n_T G d 0 0 mX11_degreeOf 41 [vR 218, vI x1, vI i2, vI i3] [vI r38, vI i2] SH v Q
      refine U_iadd dX11_degreeOf_41 h.1 ?_
      replace h := h.2
      refine T_istore_n dX11_degreeOf_42 (by decide) rfl ?_
      refine U_iinc dX11_degreeOf_43 rfl (by decide) rfl h.1 ?_
      replace h := h.2
      refine T_goto (tgt := 4) dX11_degreeOf_46 (by decide) ?_
      exact T_drop h ⟨Or.inl rfl, Or.inl rfl, Or.inl rfl, Or.inl rfl, trivial⟩
    · replace h := h.2 hc
      refine T_aload_n dX11_degreeOf_24 rfl ?_
      refine T_iload_n dX11_degreeOf_25 rfl ?_
      refine U_callV (as := [vI i3]) (st := [vI i2]) dX11_degreeOf_26 kX11_high lX11_211 SH_218 rfl rfl rfl rfl (Nat.le_of_ble_eq_true rfl) (Nat.le_of_ble_eq_true rfl) (by omega) ?_
      refine W_X11_high (by omega)  h (fun r26 h => ?_)
      show n_T G d 0 0 mX11_degreeOf 29 [vR 218, vI x1, vI i2, vI i3] [vI r26, vI i2] SH v Q
      refine T_iload_n dX11_degreeOf_29 rfl ?_
      refine U_icmp_ne (tgt := 37) dX11_degreeOf_30 (by decide) (fun hc => ?_) (fun hc => ?_)
      · replace h := h.1 hc
        refine T_iconst dX11_degreeOf_37 (by decide) ?_
        refine U_callS (as := [vI 0]) (st := [vI i2]) dX11_degreeOf_38 kX11_flag lX11_250 rfl rfl (Nat.le_of_ble_eq_true rfl) (Nat.le_of_ble_eq_true rfl) (by omega) ?_
        refine W_X11_flag (by omega)  h (fun r38_1 h => ?_)
        show n_T G d 0 0 mX11_degreeOf 41 [vR 218, vI x1, vI i2, vI i3] [vI r38_1, vI i2] SH v Q
        refine U_iadd dX11_degreeOf_41 h.1 ?_
        replace h := h.2
        refine T_istore_n dX11_degreeOf_42 (by decide) rfl ?_
        refine U_iinc dX11_degreeOf_43 rfl (by decide) rfl h.1 ?_
        replace h := h.2
        refine T_goto (tgt := 4) dX11_degreeOf_46 (by decide) ?_
        exact T_drop h ⟨Or.inl rfl, Or.inl rfl, Or.inl rfl, Or.inl rfl, trivial⟩
      · replace h := h.2 hc
        refine T_iconst dX11_degreeOf_33 (by decide) ?_
        refine T_goto (tgt := 38) dX11_degreeOf_34 (by decide) ?_
        refine U_callS (as := [vI 1]) (st := [vI i2]) dX11_degreeOf_38 kX11_flag lX11_250 rfl rfl (Nat.le_of_ble_eq_true rfl) (Nat.le_of_ble_eq_true rfl) (by omega) ?_
        refine W_X11_flag (by omega)  h (fun r38_2 h => ?_)
        show n_T G d 0 0 mX11_degreeOf 41 [vR 218, vI x1, vI i2, vI i3] [vI r38_2, vI i2] SH v Q
        refine U_iadd dX11_degreeOf_41 h.1 ?_
        replace h := h.2
        refine T_istore_n dX11_degreeOf_42 (by decide) rfl ?_
        refine U_iinc dX11_degreeOf_43 rfl (by decide) rfl h.1 ?_
        replace h := h.2
        refine T_goto (tgt := 4) dX11_degreeOf_46 (by decide) ?_
        exact T_drop h ⟨Or.inl rfl, Or.inl rfl, Or.inl rfl, Or.inl rfl, trivial⟩

theorem W_X11_degree {G : GT} {d : Nat} (hd : 3 ≤ d) {x1 : Int}   {v : VT} {q : Int → Prop} {Q : Option Vl → List Sh → VT → Prop} (h : P_X11_degree x1 v q) (hQ : ∀ r, q r → Q (some (vI r)) SH v) : n_T G d 0 0 mX11_degree 0 [vR 218, vI x1] [] SH v Q := by
  unfold P_X11_degree at h
  refine T_aload_n dX11_degree_0 rfl ?_
  refine T_iload_n dX11_degree_1 rfl ?_
  refine U_callV (as := [vI x1]) (st := []) dX11_degree_2 kX11_isNode lX11_257 SH_218 rfl rfl rfl rfl (Nat.le_of_ble_eq_true rfl) (Nat.le_of_ble_eq_true rfl) (by omega) ?_
  refine W_X11_isNode (by omega)  h (fun r2 h => ?_)
  show n_T G d 0 0 mX11_degree 5 [vR 218, vI x1] [vI r2] SH v Q
  refine U_if_eq (tgt := 16) dX11_degree_5 (by decide) (fun hc => ?_) (fun hc => ?_)
  · replace h := h.1 hc
    refine T_iconst dX11_degree_16 (by decide) ?_
    exact T_iret dX11_degree_17 rfl (hQ _ h)
  · replace h := h.2 hc
    refine T_aload_n dX11_degree_8 rfl ?_
    refine T_iload_n dX11_degree_9 rfl ?_
    refine U_callV (as := [vI x1]) (st := []) dX11_degree_10 kX11_degreeOf lX11_265 SH_218 rfl rfl rfl rfl (Nat.le_of_ble_eq_true rfl) (Nat.le_of_ble_eq_true rfl) (by omega) ?_
    refine W_X11_degreeOf (by omega)  h (fun r10 h => ?_)
    show n_T G d 0 0 mX11_degree 13 [vR 218, vI x1] [vI r10] SH v Q
    refine T_goto (tgt := 17) dX11_degree_13 (by decide) ?_
    exact T_iret dX11_degree_17 rfl (hQ _ h)

theorem W_X11_areNodes {G : GT} {d : Nat} (hd : 5 ≤ d) {x1 : Int} {x2 : Int}   {v : VT} {q : Int → VT → Prop} {Q : Option Vl → List Sh → VT → Prop} (h : P_X11_areNodes x1 x2 v q) (hQ : ∀ r w, q r w → Q (some (vI r)) SH w) : n_T G d 0 0 mX11_areNodes 0 [vR 218, vI x1, vI x2] [] SH v Q := by
  unfold P_X11_areNodes at h
  refine T_aload_n dX11_areNodes_0 rfl ?_
  refine U_callV (as := []) (st := []) dX11_areNodes_1 kX11_lays lX11_244 SH_218 rfl rfl rfl rfl (Nat.le_of_ble_eq_true rfl) (Nat.le_of_ble_eq_true rfl) (by omega) ?_
  refine W_X11_lays (by omega)  h (fun v1 h => ?_)
  show n_T G d 0 0 mX11_areNodes 4 [vR 218, vI x1, vI x2] [] SH v1 Q
  refine T_aload_n dX11_areNodes_4 rfl ?_
  refine T_iload_n dX11_areNodes_5 rfl ?_
  refine U_callV (as := [vI x1]) (st := []) dX11_areNodes_6 kX11_isNode lX11_257 SH_218 rfl rfl rfl rfl (Nat.le_of_ble_eq_true rfl) (Nat.le_of_ble_eq_true rfl) (by omega) ?_
  refine W_X11_isNode (by omega)  h (fun r6 h => ?_)
  show n_T G d 0 0 mX11_areNodes 9 [vR 218, vI x1, vI x2] [vI r6] SH v1 Q
  refine U_if_eq (tgt := 24) dX11_areNodes_9 (by decide) (fun hc => ?_) (fun hc => ?_)
  · replace h := h.1 hc
    refine T_iconst dX11_areNodes_24 (by decide) ?_
    exact T_zret dX11_areNodes_25 rfl (by decide) (hQ _ _ h)
  · replace h := h.2 hc
    refine T_aload_n dX11_areNodes_12 rfl ?_
    refine T_iload_n dX11_areNodes_13 rfl ?_
    refine U_callV (as := [vI x2]) (st := []) dX11_areNodes_14 kX11_isNode lX11_257 SH_218 rfl rfl rfl rfl (Nat.le_of_ble_eq_true rfl) (Nat.le_of_ble_eq_true rfl) (by omega) ?_
    refine W_X11_isNode (by omega)  h (fun r14 h => ?_)
    show n_T G d 0 0 mX11_areNodes 17 [vR 218, vI x1, vI x2] [vI r14] SH v1 Q
    refine U_if_eq (tgt := 24) dX11_areNodes_17 (by decide) (fun hc => ?_) (fun hc => ?_)
    · replace h := h.1 hc
      refine T_iconst dX11_areNodes_24 (by decide) ?_
      exact T_zret dX11_areNodes_25 rfl (by decide) (hQ _ _ h)
    · replace h := h.2 hc
      refine T_iconst dX11_areNodes_20 (by decide) ?_
      refine T_goto (tgt := 25) dX11_areNodes_21 (by decide) ?_
      exact T_zret dX11_areNodes_25 rfl (by decide) (hQ _ _ h)

theorem W_X11_far {G : GT} {d : Nat} (hd : 6 ≤ d) {x1 : Int} {x2 : Int}   {v : VT} {q : Int → VT → Prop} {Q : Option Vl → List Sh → VT → Prop} (h : P_X11_far x1 x2 v q) (hQ : ∀ r w, q r w → Q (some (vI r)) SH w) : n_T G d 0 0 mX11_far 0 [vR 218, vI x1, vI x2] [] SH v Q := by
  unfold P_X11_far at h
  refine T_aload_n dX11_far_0 rfl ?_
  refine T_iload_n dX11_far_1 rfl ?_
  refine T_iload_n dX11_far_2 rfl ?_
  refine U_callV (as := [vI x1, vI x2]) (st := []) dX11_far_3 kX11_areNodes lX11_268 SH_218 rfl rfl rfl rfl (Nat.le_of_ble_eq_true rfl) (Nat.le_of_ble_eq_true rfl) (by omega) ?_
  refine W_X11_areNodes (by omega)  h (fun r3 v3 h => ?_)
  show n_T G d 0 0 mX11_far 6 [vR 218, vI x1, vI x2] [vI r3] SH v3 Q
  refine U_if_eq (tgt := 29) dX11_far_6 (by decide) (fun hc => ?_) (fun hc => ?_)
  · replace h := h.1 hc
    refine T_iconst dX11_far_29 (by decide) ?_
    exact T_iret dX11_far_30 rfl (hQ _ _ h)
  · replace h := h.2 hc
    refine T_aload_n dX11_far_9 rfl ?_
    refine T_iload_n dX11_far_10 rfl ?_
    refine T_iload_n dX11_far_11 rfl ?_
    refine U_callV (as := [vI x1, vI x2]) (st := []) dX11_far_12 kX11_farOf lX11_214 SH_218 rfl rfl rfl rfl (Nat.le_of_ble_eq_true rfl) (Nat.le_of_ble_eq_true rfl) (by omega) ?_
    refine W_X11_farOf (by omega)  h (fun r12 h => ?_)
    show n_T G d 0 0 mX11_far 15 [vR 218, vI x1, vI x2] [vI r12] SH v3 Q
    refine T_bipush dX11_far_15 (by decide) ?_
    refine U_icmp_ge (tgt := 29) dX11_far_17 (by decide) (fun hc => ?_) (fun hc => ?_)
    · replace h := h.1 hc
      refine T_iconst dX11_far_29 (by decide) ?_
      exact T_iret dX11_far_30 rfl (hQ _ _ h)
    · replace h := h.2 hc
      refine T_aload_n dX11_far_20 rfl ?_
      refine T_iload_n dX11_far_21 rfl ?_
      refine T_iload_n dX11_far_22 rfl ?_
      refine U_callV (as := [vI x1, vI x2]) (st := []) dX11_far_23 kX11_farOf lX11_214 SH_218 rfl rfl rfl rfl (Nat.le_of_ble_eq_true rfl) (Nat.le_of_ble_eq_true rfl) (by omega) ?_
      refine W_X11_farOf (by omega)  h (fun r23 h => ?_)
      show n_T G d 0 0 mX11_far 26 [vR 218, vI x1, vI x2] [vI r23] SH v3 Q
      refine T_goto (tgt := 30) dX11_far_26 (by decide) ?_
      exact T_iret dX11_far_30 rfl (hQ _ _ h)

theorem W_X11_ways {G : GT} {d : Nat} (hd : 6 ≤ d) {x1 : Int} {x2 : Int}   {v : VT} {q : Int → VT → Prop} {Q : Option Vl → List Sh → VT → Prop} (h : P_X11_ways x1 x2 v q) (hQ : ∀ r w, q r w → Q (some (vI r)) SH w) : n_T G d 0 0 mX11_ways 0 [vR 218, vI x1, vI x2, vS 9, vS 9, vS 9] [] SH v Q := by
  unfold P_X11_ways at h
  refine T_aload_n dX11_ways_0 rfl ?_
  refine T_iload_n dX11_ways_1 rfl ?_
  refine T_iload_n dX11_ways_2 rfl ?_
  refine U_callV (as := [vI x1, vI x2]) (st := []) dX11_ways_3 kX11_areNodes lX11_268 SH_218 rfl rfl rfl rfl (Nat.le_of_ble_eq_true rfl) (Nat.le_of_ble_eq_true rfl) (by omega) ?_
  refine W_X11_areNodes (by omega)  h (fun r3 v3 h => ?_)
  show n_T G d 0 0 mX11_ways 6 [vR 218, vI x1, vI x2, vS 9, vS 9, vS 9] [vI r3] SH v3 Q
  refine U_if_ne (tgt := 11) dX11_ways_6 (by decide) (fun hc => ?_) (fun hc => ?_)
  · replace h := h.1 hc
    refine T_iconst dX11_ways_11 (by decide) ?_
    refine T_istore_n dX11_ways_12 (by decide) rfl ?_
    refine n_cut (h (fun (v49 : VT) => n_T G d 0 0 mX11_ways 49 [vR 218, vI x1, vI x2, vS 9, vS 9, vS 9] [] SH v49 Q)) ?_ ?_
    · intro v49 h
      refine T_iconst dX11_ways_49 (by decide) ?_
      refine T_istore_n dX11_ways_50 (by decide) rfl ?_
      refine T_drop (h (fun (i3 : Int) (v51 : VT) => n_T G d 0 0 mX11_ways 51 [vR 218, vI x1, vI x2, vI i3, vS 9, vS 9] [] SH v51 Q) (fun i3 v51 h => ?_)) ⟨Or.inl rfl, Or.inl rfl, Or.inl rfl, Or.inl rfl, Or.inr rfl, Or.inr rfl, trivial⟩
      refine T_iload_n dX11_ways_51 rfl ?_
      refine T_bipush dX11_ways_52 (by decide) ?_
      refine U_icmp_ge (tgt := 192) dX11_ways_54 (by decide) (fun hc => ?_) (fun hc => ?_)
      · replace h := h.1 hc
        refine T_aload_n dX11_ways_192 rfl ?_
        refine T_getR (r := 230) dX11_ways_193 fX11_47 rfl SH_218 rfl ?_
        refine T_iload_n dX11_ways_196 rfl ?_
        refine T_lald dX11_ways_197 SH_230 h.1 ?_
        replace h := h.2
        refine U_l2i dX11_ways_198 h.1 ?_
        replace h := h.2
        exact T_iret dX11_ways_199 rfl (hQ _ _ h)
      · replace h := h.2 hc
        refine T_iconst dX11_ways_57 (by decide) ?_
        refine T_istore dX11_ways_58 (by decide) rfl ?_
        refine T_drop (h (fun (i4 : Int) (v60 : VT) => n_T G d 0 0 mX11_ways 60 [vR 218, vI x1, vI x2, vI i3, vI i4, vS 9] [] SH v60 Q) (fun i4 v60 h => ?_)) ⟨Or.inl rfl, Or.inl rfl, Or.inl rfl, Or.inl rfl, Or.inl rfl, Or.inr rfl, trivial⟩
        refine T_iload dX11_ways_60 rfl ?_
        refine T_aload_n dX11_ways_62 rfl ?_
        refine T_getR (r := 222) dX11_ways_63 fX11_23 rfl SH_218 rfl ?_
        refine T_iconst dX11_ways_66 (by decide) ?_
        refine T_iald dX11_ways_67 SH_222 (by decide) ?_
        refine U_icmp_ge (tgt := 186) dX11_ways_68 (by decide) (fun hc => ?_) (fun hc => ?_)
        · replace h := h.1 hc
          refine U_iinc dX11_ways_186 rfl (by decide) rfl h.1 ?_
          replace h := h.2
          refine T_goto (tgt := 51) dX11_ways_189 (by decide) ?_
          exact T_drop h ⟨Or.inl rfl, Or.inl rfl, Or.inl rfl, Or.inl rfl, Or.inr rfl, Or.inr rfl, trivial⟩
        · replace h := h.2 hc
          refine T_aload_n dX11_ways_71 rfl ?_
          refine T_iload_n dX11_ways_72 rfl ?_
          refine T_iload dX11_ways_73 rfl ?_
          refine U_callV (as := [vI x1, vI i4]) (st := []) dX11_ways_75 kX11_farOf lX11_214 SH_218 rfl rfl rfl rfl (Nat.le_of_ble_eq_true rfl) (Nat.le_of_ble_eq_true rfl) (by omega) ?_
          refine W_X11_farOf (by omega)  h (fun r75 h => ?_)
          show n_T G d 0 0 mX11_ways 78 [vR 218, vI x1, vI x2, vI i3, vI i4, vS 9] [vI r75] SH v60 Q
          refine T_iload_n dX11_ways_78 rfl ?_
          refine U_icmp_eq (tgt := 85) dX11_ways_79 (by decide) (fun hc => ?_) (fun hc => ?_)
          · replace h := h.1 hc
            refine T_iconst dX11_ways_85 (by decide) ?_
            refine T_istore dX11_ways_86 (by decide) rfl ?_
            refine T_drop (h (fun (i5 : Int) (v88 : VT) => n_T G d 0 0 mX11_ways 88 [vR 218, vI x1, vI x2, vI i3, vI i4, vI i5] [] SH v88 Q) (fun i5 v88 h => ?_)) ⟨Or.inl rfl, Or.inl rfl, Or.inl rfl, Or.inl rfl, Or.inl rfl, Or.inl rfl, trivial⟩
            refine T_iload dX11_ways_88 rfl ?_
            refine T_aload_n dX11_ways_90 rfl ?_
            refine T_getR (r := 222) dX11_ways_91 fX11_23 rfl SH_218 rfl ?_
            refine T_iconst dX11_ways_94 (by decide) ?_
            refine T_iald dX11_ways_95 SH_222 (by decide) ?_
            refine U_icmp_ge (tgt := 180) dX11_ways_96 (by decide) (fun hc => ?_) (fun hc => ?_)
            · replace h := h.1 hc
              refine U_iinc dX11_ways_180 rfl (by decide) rfl h.1 ?_
              replace h := h.2
              refine T_goto (tgt := 60) dX11_ways_183 (by decide) ?_
              exact T_drop h ⟨Or.inl rfl, Or.inl rfl, Or.inl rfl, Or.inl rfl, Or.inl rfl, Or.inr rfl, trivial⟩
            · replace h := h.2 hc
              refine T_aload_n dX11_ways_99 rfl ?_
              refine T_iload dX11_ways_100 rfl ?_
              refine T_iload dX11_ways_102 rfl ?_
              refine U_callV (as := [vI i5, vI i4]) (st := []) dX11_ways_104 kX11_farOf lX11_214 SH_218 rfl rfl rfl rfl (Nat.le_of_ble_eq_true rfl) (Nat.le_of_ble_eq_true rfl) (by omega) ?_
              refine W_X11_farOf (by omega)  h (fun r104 h => ?_)
              show n_T G d 0 0 mX11_ways 107 [vR 218, vI x1, vI x2, vI i3, vI i4, vI i5] [vI r104] SH v88 Q
              refine T_iconst dX11_ways_107 (by decide) ?_
              refine U_icmp_ne (tgt := 174) dX11_ways_108 (by decide) (fun hc => ?_) (fun hc => ?_)
              · replace h := h.1 hc
                refine U_iinc dX11_ways_174 rfl (by decide) rfl h.1 ?_
                replace h := h.2
                refine T_goto (tgt := 88) dX11_ways_177 (by decide) ?_
                exact T_drop h ⟨Or.inl rfl, Or.inl rfl, Or.inl rfl, Or.inl rfl, Or.inl rfl, Or.inl rfl, trivial⟩
              · replace h := h.2 hc
                refine T_aload_n dX11_ways_111 rfl ?_
                refine T_iload_n dX11_ways_112 rfl ?_
                refine T_iload dX11_ways_113 rfl ?_
                refine U_callV (as := [vI x1, vI i5]) (st := []) dX11_ways_115 kX11_farOf lX11_214 SH_218 rfl rfl rfl rfl (Nat.le_of_ble_eq_true rfl) (Nat.le_of_ble_eq_true rfl) (by omega) ?_
                refine W_X11_farOf (by omega)  h (fun r115 h => ?_)
                show n_T G d 0 0 mX11_ways 118 [vR 218, vI x1, vI x2, vI i3, vI i4, vI i5] [vI r115] SH v88 Q
                refine T_iload_n dX11_ways_118 rfl ?_
                refine T_iconst dX11_ways_119 (by decide) ?_
                refine U_isub dX11_ways_120 h.1 ?_
                replace h := h.2
                refine U_icmp_ne (tgt := 174) dX11_ways_121 (by decide) (fun hc => ?_) (fun hc => ?_)
                · replace h := h.1 hc
                  refine U_iinc dX11_ways_174 rfl (by decide) rfl h.1 ?_
                  replace h := h.2
                  refine T_goto (tgt := 88) dX11_ways_177 (by decide) ?_
                  exact T_drop h ⟨Or.inl rfl, Or.inl rfl, Or.inl rfl, Or.inl rfl, Or.inl rfl, Or.inl rfl, trivial⟩
                · replace h := h.2 hc
                  refine T_aload_n dX11_ways_124 rfl ?_
                  refine T_getR (r := 230) dX11_ways_125 fX11_47 rfl SH_218 rfl ?_
                  refine T_iload dX11_ways_128 rfl ?_
                  refine T_aload_n dX11_ways_130 rfl ?_
                  refine T_getR (r := 230) dX11_ways_131 fX11_47 rfl SH_218 rfl ?_
                  refine T_iload dX11_ways_134 rfl ?_
                  refine T_lald dX11_ways_136 SH_230 h.1 ?_
                  replace h := h.2
                  refine T_aload_n dX11_ways_137 rfl ?_
                  refine T_getR (r := 230) dX11_ways_138 fX11_47 rfl SH_218 rfl ?_
                  refine T_iload dX11_ways_141 rfl ?_
                  refine T_lald dX11_ways_143 SH_230 h.1 ?_
                  replace h := h.2
                  refine U_ladd dX11_ways_144 h.1 ?_
                  replace h := h.2
                  refine T_ldc2 (n := 1000000000) dX11_ways_145 cX11_271 (by unfold r64; omega) ?_
                  refine U_lc_le (tgt := 158) dX11_ways_148 dX11_ways_149 (by decide) (fun hc => ?_) (fun hc => ?_)
                  · replace h := h.1 hc
                    refine T_aload_n dX11_ways_158 rfl ?_
                    refine T_getR (r := 230) dX11_ways_159 fX11_47 rfl SH_218 rfl ?_
                    refine T_iload dX11_ways_162 rfl ?_
                    refine T_lald dX11_ways_164 SH_230 h.1 ?_
                    replace h := h.2
                    refine T_aload_n dX11_ways_165 rfl ?_
                    refine T_getR (r := 230) dX11_ways_166 fX11_47 rfl SH_218 rfl ?_
                    refine T_iload dX11_ways_169 rfl ?_
                    refine T_lald dX11_ways_171 SH_230 h.1 ?_
                    replace h := h.2
                    refine U_ladd dX11_ways_172 h.1 ?_
                    replace h := h.2
                    refine U_last dX11_ways_173 SH_230 h.1 (fun v173 ev173 => ?_)
                    replace h := h.2 v173 ev173
                    refine U_iinc dX11_ways_174 rfl (by decide) rfl h.1 ?_
                    replace h := h.2
                    refine T_goto (tgt := 88) dX11_ways_177 (by decide) ?_
                    exact T_drop h ⟨Or.inl rfl, Or.inl rfl, Or.inl rfl, Or.inl rfl, Or.inl rfl, Or.inl rfl, trivial⟩
                  · replace h := h.2 hc
                    refine T_ldc2 (n := 1000000000) dX11_ways_152 cX11_271 (by unfold r64; omega) ?_
                    refine T_goto (tgt := 173) dX11_ways_155 (by decide) ?_
                    refine U_last dX11_ways_173 SH_230 h.1 (fun v173_1 ev173_1 => ?_)
                    replace h := h.2 v173_1 ev173_1
                    refine U_iinc dX11_ways_174 rfl (by decide) rfl h.1 ?_
                    replace h := h.2
                    refine T_goto (tgt := 88) dX11_ways_177 (by decide) ?_
                    exact T_drop h ⟨Or.inl rfl, Or.inl rfl, Or.inl rfl, Or.inl rfl, Or.inl rfl, Or.inl rfl, trivial⟩
          · replace h := h.2 hc
            refine T_goto (tgt := 180) dX11_ways_82 (by decide) ?_
            refine U_iinc dX11_ways_180 rfl (by decide) rfl h.1 ?_
            replace h := h.2
            refine T_goto (tgt := 60) dX11_ways_183 (by decide) ?_
            exact T_drop h ⟨Or.inl rfl, Or.inl rfl, Or.inl rfl, Or.inl rfl, Or.inl rfl, Or.inr rfl, trivial⟩
    · intro h
      refine T_drop (h (fun (i3_1 : Int) (v13 : VT) => n_T G d 0 0 mX11_ways 13 [vR 218, vI x1, vI x2, vI i3_1, vS 9, vS 9] [] SH v13 Q) (fun i3_1 v13 h => ?_)) ⟨Or.inl rfl, Or.inl rfl, Or.inl rfl, Or.inl rfl, Or.inr rfl, Or.inr rfl, trivial⟩
      refine T_iload_n dX11_ways_13 rfl ?_
      refine T_aload_n dX11_ways_14 rfl ?_
      refine T_getR (r := 222) dX11_ways_15 fX11_23 rfl SH_218 rfl ?_
      refine T_iconst dX11_ways_18 (by decide) ?_
      refine T_iald dX11_ways_19 SH_222 (by decide) ?_
      refine U_icmp_ge (tgt := 49) dX11_ways_20 (by decide) (fun hc => ?_) (fun hc => ?_)
      · replace h := h.1 hc
        exact T_drop h ⟨Or.inl rfl, Or.inl rfl, Or.inl rfl, Or.inr rfl, Or.inr rfl, Or.inr rfl, trivial⟩
      · replace h := h.2 hc
        refine T_aload_n dX11_ways_23 rfl ?_
        refine T_getR (r := 230) dX11_ways_24 fX11_47 rfl SH_218 rfl ?_
        refine T_iload_n dX11_ways_27 rfl ?_
        refine T_iload_n dX11_ways_28 rfl ?_
        refine T_iload_n dX11_ways_29 rfl ?_
        refine U_icmp_ne (tgt := 37) dX11_ways_30 (by decide) (fun hc => ?_) (fun hc => ?_)
        · replace h := h.1 hc
          refine T_iconst dX11_ways_37 (by decide) ?_
          refine U_callS (as := [vI 0]) (st := [vI i3_1, vR 230]) dX11_ways_38 kX11_flag lX11_250 rfl rfl (Nat.le_of_ble_eq_true rfl) (Nat.le_of_ble_eq_true rfl) (by omega) ?_
          refine W_X11_flag (by omega)  h (fun r38 h => ?_)
          show n_T G d 0 0 mX11_ways 41 [vR 218, vI x1, vI x2, vI i3_1, vS 9, vS 9] [vI r38, vI i3_1, vR 230] SH v13 Q
          refine T_i2l dX11_ways_41 ?_
          refine U_last dX11_ways_42 SH_230 h.1 (fun v42 ev42 => ?_)
          replace h := h.2 v42 ev42
          refine U_iinc dX11_ways_43 rfl (by decide) rfl h.1 ?_
          replace h := h.2
          refine T_goto (tgt := 13) dX11_ways_46 (by decide) ?_
          exact T_drop h ⟨Or.inl rfl, Or.inl rfl, Or.inl rfl, Or.inl rfl, Or.inr rfl, Or.inr rfl, trivial⟩
        · replace h := h.2 hc
          refine T_iconst dX11_ways_33 (by decide) ?_
          refine T_goto (tgt := 38) dX11_ways_34 (by decide) ?_
          refine U_callS (as := [vI 1]) (st := [vI i3_1, vR 230]) dX11_ways_38 kX11_flag lX11_250 rfl rfl (Nat.le_of_ble_eq_true rfl) (Nat.le_of_ble_eq_true rfl) (by omega) ?_
          refine W_X11_flag (by omega)  h (fun r38_1 h => ?_)
          show n_T G d 0 0 mX11_ways 41 [vR 218, vI x1, vI x2, vI i3_1, vS 9, vS 9] [vI r38_1, vI i3_1, vR 230] SH v13 Q
          refine T_i2l dX11_ways_41 ?_
          refine U_last dX11_ways_42 SH_230 h.1 (fun v42_1 ev42_1 => ?_)
          replace h := h.2 v42_1 ev42_1
          refine U_iinc dX11_ways_43 rfl (by decide) rfl h.1 ?_
          replace h := h.2
          refine T_goto (tgt := 13) dX11_ways_46 (by decide) ?_
          exact T_drop h ⟨Or.inl rfl, Or.inl rfl, Or.inl rfl, Or.inl rfl, Or.inr rfl, Or.inr rfl, trivial⟩
  · replace h := h.2 hc
    refine T_iconst dX11_ways_9 (by decide) ?_
    exact T_iret dX11_ways_10 rfl (hQ _ _ h)

theorem W_X11_betweenOf {G : GT} {d : Nat} (hd : 2 ≤ d) {x1 : Int} {x2 : Int}   {v : VT} {q : Int → Prop} {Q : Option Vl → List Sh → VT → Prop} (h : P_X11_betweenOf x1 x2 v q) (hQ : ∀ r, q r → Q (some (vI r)) SH v) : n_T G d 0 0 mX11_betweenOf 0 [vR 218, vI x1, vI x2, vS 9, vS 9] [] SH v Q := by
  unfold P_X11_betweenOf at h
  refine T_iconst dX11_betweenOf_0 (by decide) ?_
  refine T_istore_n dX11_betweenOf_1 (by decide) rfl ?_
  refine T_iconst dX11_betweenOf_2 (by decide) ?_
  refine T_istore dX11_betweenOf_3 (by decide) rfl ?_
  refine T_drop (h (fun (i3 : Int) (i4 : Int) => n_T G d 0 0 mX11_betweenOf 5 [vR 218, vI x1, vI x2, vI i3, vI i4] [] SH v Q) (fun i3 i4 h => ?_)) ⟨Or.inl rfl, Or.inl rfl, Or.inl rfl, Or.inl rfl, Or.inl rfl, trivial⟩
  refine T_iload dX11_betweenOf_5 rfl ?_
  refine T_aload_n dX11_betweenOf_7 rfl ?_
  refine T_getR (r := 222) dX11_betweenOf_8 fX11_23 rfl SH_218 rfl ?_
  refine T_iconst dX11_betweenOf_11 (by decide) ?_
  refine T_iald dX11_betweenOf_12 SH_222 (by decide) ?_
  refine U_icmp_ge (tgt := 64) dX11_betweenOf_13 (by decide) (fun hc => ?_) (fun hc => ?_)
  · replace h := h.1 hc
    refine T_iload_n dX11_betweenOf_64 rfl ?_
    exact T_iret dX11_betweenOf_65 rfl (hQ _ h)
  · replace h := h.2 hc
    refine T_aload_n dX11_betweenOf_16 rfl ?_
    refine T_iload_n dX11_betweenOf_17 rfl ?_
    refine T_iload_n dX11_betweenOf_18 rfl ?_
    refine U_callV (as := [vI x1, vI x2]) (st := []) dX11_betweenOf_19 kX11_farOf lX11_214 SH_218 rfl rfl rfl rfl (Nat.le_of_ble_eq_true rfl) (Nat.le_of_ble_eq_true rfl) (by omega) ?_
    refine W_X11_farOf (by omega)  h (fun r19 h => ?_)
    show n_T G d 0 0 mX11_betweenOf 22 [vR 218, vI x1, vI x2, vI i3, vI i4] [vI r19] SH v Q
    refine T_bipush dX11_betweenOf_22 (by decide) ?_
    refine U_icmp_ge (tgt := 64) dX11_betweenOf_24 (by decide) (fun hc => ?_) (fun hc => ?_)
    · replace h := h.1 hc
      refine T_iload_n dX11_betweenOf_64 rfl ?_
      exact T_iret dX11_betweenOf_65 rfl (hQ _ h)
    · replace h := h.2 hc
      refine T_aload_n dX11_betweenOf_27 rfl ?_
      refine T_iload_n dX11_betweenOf_28 rfl ?_
      refine T_iload dX11_betweenOf_29 rfl ?_
      refine U_callV (as := [vI x1, vI i4]) (st := []) dX11_betweenOf_31 kX11_farOf lX11_214 SH_218 rfl rfl rfl rfl (Nat.le_of_ble_eq_true rfl) (Nat.le_of_ble_eq_true rfl) (by omega) ?_
      refine W_X11_farOf (by omega)  h (fun r31 h => ?_)
      show n_T G d 0 0 mX11_betweenOf 34 [vR 218, vI x1, vI x2, vI i3, vI i4] [vI r31] SH v Q
      refine T_aload_n dX11_betweenOf_34 rfl ?_
      refine T_iload dX11_betweenOf_35 rfl ?_
      refine T_iload_n dX11_betweenOf_37 rfl ?_
      refine U_callV (as := [vI i4, vI x2]) (st := [vI r31]) dX11_betweenOf_38 kX11_farOf lX11_214 SH_218 rfl rfl rfl rfl (Nat.le_of_ble_eq_true rfl) (Nat.le_of_ble_eq_true rfl) (by omega) ?_
      refine W_X11_farOf (by omega)  h (fun r38 h => ?_)
      show n_T G d 0 0 mX11_betweenOf 41 [vR 218, vI x1, vI x2, vI i3, vI i4] [vI r38, vI r31] SH v Q
      refine U_iadd dX11_betweenOf_41 h.1 ?_
      replace h := h.2
      refine T_aload_n dX11_betweenOf_42 rfl ?_
      refine T_iload_n dX11_betweenOf_43 rfl ?_
      refine T_iload_n dX11_betweenOf_44 rfl ?_
      refine U_callV (as := [vI x1, vI x2]) (st := [vI (r31 + r38)]) dX11_betweenOf_45 kX11_farOf lX11_214 SH_218 rfl rfl rfl rfl (Nat.le_of_ble_eq_true rfl) (Nat.le_of_ble_eq_true rfl) (by omega) ?_
      refine W_X11_farOf (by omega)  h (fun r45 h => ?_)
      show n_T G d 0 0 mX11_betweenOf 48 [vR 218, vI x1, vI x2, vI i3, vI i4] [vI r45, vI (r31 + r38)] SH v Q
      refine U_icmp_ne (tgt := 58) dX11_betweenOf_48 (by decide) (fun hc => ?_) (fun hc => ?_)
      · replace h := h.1 hc
        refine U_iinc dX11_betweenOf_58 rfl (by decide) rfl h.1 ?_
        replace h := h.2
        refine T_goto (tgt := 5) dX11_betweenOf_61 (by decide) ?_
        exact T_drop h ⟨Or.inl rfl, Or.inl rfl, Or.inl rfl, Or.inl rfl, Or.inl rfl, trivial⟩
      · replace h := h.2 hc
        refine T_iload_n dX11_betweenOf_51 rfl ?_
        refine T_iconst dX11_betweenOf_52 (by decide) ?_
        refine T_iload dX11_betweenOf_53 rfl ?_
        refine T_ishl dX11_betweenOf_55 ?_
        refine T_ior dX11_betweenOf_56 ?_
        refine U_istore_n dX11_betweenOf_57 (by decide) rfl (fun l3 el3 => ?_)
        replace h := h l3 el3
        refine U_iinc dX11_betweenOf_58 rfl (by decide) rfl h.1 ?_
        replace h := h.2
        refine T_goto (tgt := 5) dX11_betweenOf_61 (by decide) ?_
        exact T_drop h ⟨Or.inl rfl, Or.inl rfl, Or.inl rfl, Or.inl rfl, Or.inl rfl, trivial⟩

theorem W_X11_between {G : GT} {d : Nat} (hd : 6 ≤ d) {x1 : Int} {x2 : Int}   {v : VT} {q : Int → VT → Prop} {Q : Option Vl → List Sh → VT → Prop} (h : P_X11_between x1 x2 v q) (hQ : ∀ r w, q r w → Q (some (vI r)) SH w) : n_T G d 0 0 mX11_between 0 [vR 218, vI x1, vI x2] [] SH v Q := by
  unfold P_X11_between at h
  refine T_aload_n dX11_between_0 rfl ?_
  refine T_iload_n dX11_between_1 rfl ?_
  refine T_iload_n dX11_between_2 rfl ?_
  refine U_callV (as := [vI x1, vI x2]) (st := []) dX11_between_3 kX11_areNodes lX11_268 SH_218 rfl rfl rfl rfl (Nat.le_of_ble_eq_true rfl) (Nat.le_of_ble_eq_true rfl) (by omega) ?_
  refine W_X11_areNodes (by omega)  h (fun r3 v3 h => ?_)
  show n_T G d 0 0 mX11_between 6 [vR 218, vI x1, vI x2] [vI r3] SH v3 Q
  refine U_if_eq (tgt := 18) dX11_between_6 (by decide) (fun hc => ?_) (fun hc => ?_)
  · replace h := h.1 hc
    refine T_iconst dX11_between_18 (by decide) ?_
    exact T_iret dX11_between_19 rfl (hQ _ _ h)
  · replace h := h.2 hc
    refine T_aload_n dX11_between_9 rfl ?_
    refine T_iload_n dX11_between_10 rfl ?_
    refine T_iload_n dX11_between_11 rfl ?_
    refine U_callV (as := [vI x1, vI x2]) (st := []) dX11_between_12 kX11_betweenOf lX11_273 SH_218 rfl rfl rfl rfl (Nat.le_of_ble_eq_true rfl) (Nat.le_of_ble_eq_true rfl) (by omega) ?_
    refine W_X11_betweenOf (by omega)  h (fun r12 h => ?_)
    show n_T G d 0 0 mX11_between 15 [vR 218, vI x1, vI x2] [vI r12] SH v3 Q
    refine T_goto (tgt := 19) dX11_between_15 (by decide) ?_
    exact T_iret dX11_between_19 rfl (hQ _ _ h)

theorem W_X11_reach {G : GT} {d : Nat} (hd : 6 ≤ d) {x1 : Int}   {v : VT} {q : Int → VT → Prop} {Q : Option Vl → List Sh → VT → Prop} (h : P_X11_reach x1 v q) (hQ : ∀ r w, q r w → Q (some (vI r)) SH w) : n_T G d 0 0 mX11_reach 0 [vR 218, vI x1, vS 9, vS 9] [] SH v Q := by
  unfold P_X11_reach at h
  refine T_aload_n dX11_reach_0 rfl ?_
  refine T_iload_n dX11_reach_1 rfl ?_
  refine T_iload_n dX11_reach_2 rfl ?_
  refine U_callV (as := [vI x1, vI x1]) (st := []) dX11_reach_3 kX11_areNodes lX11_268 SH_218 rfl rfl rfl rfl (Nat.le_of_ble_eq_true rfl) (Nat.le_of_ble_eq_true rfl) (by omega) ?_
  refine W_X11_areNodes (by omega)  h (fun r3 v3 h => ?_)
  show n_T G d 0 0 mX11_reach 6 [vR 218, vI x1, vS 9, vS 9] [vI r3] SH v3 Q
  refine U_if_ne (tgt := 11) dX11_reach_6 (by decide) (fun hc => ?_) (fun hc => ?_)
  · replace h := h.1 hc
    refine T_iconst dX11_reach_11 (by decide) ?_
    refine T_istore_n dX11_reach_12 (by decide) rfl ?_
    refine T_iconst dX11_reach_13 (by decide) ?_
    refine T_istore_n dX11_reach_14 (by decide) rfl ?_
    refine T_drop (h (fun (i2 : Int) (i3 : Int) => n_T G d 0 0 mX11_reach 15 [vR 218, vI x1, vI i2, vI i3] [] SH v3 Q) (fun i2 i3 h => ?_)) ⟨Or.inl rfl, Or.inl rfl, Or.inl rfl, Or.inl rfl, trivial⟩
    refine T_iload_n dX11_reach_15 rfl ?_
    refine T_aload_n dX11_reach_16 rfl ?_
    refine T_getR (r := 222) dX11_reach_17 fX11_23 rfl SH_218 rfl ?_
    refine T_iconst dX11_reach_20 (by decide) ?_
    refine T_iald dX11_reach_21 SH_222 (by decide) ?_
    refine U_icmp_ge (tgt := 59) dX11_reach_22 (by decide) (fun hc => ?_) (fun hc => ?_)
    · replace h := h.1 hc
      refine T_iload_n dX11_reach_59 rfl ?_
      exact T_iret dX11_reach_60 rfl (hQ _ _ h)
    · replace h := h.2 hc
      refine T_aload_n dX11_reach_25 rfl ?_
      refine T_iload_n dX11_reach_26 rfl ?_
      refine T_iload_n dX11_reach_27 rfl ?_
      refine U_callV (as := [vI x1, vI i3]) (st := []) dX11_reach_28 kX11_farOf lX11_214 SH_218 rfl rfl rfl rfl (Nat.le_of_ble_eq_true rfl) (Nat.le_of_ble_eq_true rfl) (by omega) ?_
      refine W_X11_farOf (by omega)  h (fun r28 h => ?_)
      show n_T G d 0 0 mX11_reach 31 [vR 218, vI x1, vI i2, vI i3] [vI r28] SH v3 Q
      refine T_bipush dX11_reach_31 (by decide) ?_
      refine U_icmp_ge (tgt := 53) dX11_reach_33 (by decide) (fun hc => ?_) (fun hc => ?_)
      · replace h := h.1 hc
        refine U_iinc dX11_reach_53 rfl (by decide) rfl h.1 ?_
        replace h := h.2
        refine T_goto (tgt := 15) dX11_reach_56 (by decide) ?_
        exact T_drop h ⟨Or.inl rfl, Or.inl rfl, Or.inl rfl, Or.inl rfl, trivial⟩
      · replace h := h.2 hc
        refine T_aload_n dX11_reach_36 rfl ?_
        refine T_iload_n dX11_reach_37 rfl ?_
        refine T_iload_n dX11_reach_38 rfl ?_
        refine U_callV (as := [vI x1, vI i3]) (st := []) dX11_reach_39 kX11_farOf lX11_214 SH_218 rfl rfl rfl rfl (Nat.le_of_ble_eq_true rfl) (Nat.le_of_ble_eq_true rfl) (by omega) ?_
        refine W_X11_farOf (by omega)  h (fun r39 h => ?_)
        show n_T G d 0 0 mX11_reach 42 [vR 218, vI x1, vI i2, vI i3] [vI r39] SH v3 Q
        refine T_iload_n dX11_reach_42 rfl ?_
        refine U_icmp_le (tgt := 53) dX11_reach_43 (by decide) (fun hc => ?_) (fun hc => ?_)
        · replace h := h.1 hc
          refine U_iinc dX11_reach_53 rfl (by decide) rfl h.1 ?_
          replace h := h.2
          refine T_goto (tgt := 15) dX11_reach_56 (by decide) ?_
          exact T_drop h ⟨Or.inl rfl, Or.inl rfl, Or.inl rfl, Or.inl rfl, trivial⟩
        · replace h := h.2 hc
          refine T_aload_n dX11_reach_46 rfl ?_
          refine T_iload_n dX11_reach_47 rfl ?_
          refine T_iload_n dX11_reach_48 rfl ?_
          refine U_callV (as := [vI x1, vI i3]) (st := []) dX11_reach_49 kX11_farOf lX11_214 SH_218 rfl rfl rfl rfl (Nat.le_of_ble_eq_true rfl) (Nat.le_of_ble_eq_true rfl) (by omega) ?_
          refine W_X11_farOf (by omega)  h (fun r49 h => ?_)
          show n_T G d 0 0 mX11_reach 52 [vR 218, vI x1, vI i2, vI i3] [vI r49] SH v3 Q
          refine T_istore_n dX11_reach_52 (by decide) rfl ?_
          refine U_iinc dX11_reach_53 rfl (by decide) rfl h.1 ?_
          replace h := h.2
          refine T_goto (tgt := 15) dX11_reach_56 (by decide) ?_
          exact T_drop h ⟨Or.inl rfl, Or.inl rfl, Or.inl rfl, Or.inl rfl, trivial⟩
  · replace h := h.2 hc
    refine T_iconst dX11_reach_9 (by decide) ?_
    exact T_iret dX11_reach_10 rfl (hQ _ _ h)

theorem W_X11_cheapens {G : GT} {d : Nat} (hd : 1 ≤ d) {x1 : Int} {x2 : Int} {x3 : Int}   {v : VT} {q : Int → VT → Prop} {Q : Option Vl → List Sh → VT → Prop} (h : P_X11_cheapens x1 x2 x3 v q) (hQ : ∀ r w, q r w → Q (some (vI r)) SH w) : n_T G d 0 0 mX11_cheapens 0 [vR 218, vI x1, vI x2, vI x3] [] SH v Q := by
  unfold P_X11_cheapens at h
  refine T_aload_n dX11_cheapens_0 rfl ?_
  refine T_getR (r := 231) dX11_cheapens_1 fX11_51 rfl SH_218 rfl ?_
  refine T_iload_n dX11_cheapens_4 rfl ?_
  refine T_iald dX11_cheapens_5 SH_231 h.1 ?_
  replace h := h.2
  refine T_iload_n dX11_cheapens_6 rfl ?_
  refine U_iadd dX11_cheapens_7 h.1 ?_
  replace h := h.2
  refine T_aload_n dX11_cheapens_8 rfl ?_
  refine T_getR (r := 231) dX11_cheapens_9 fX11_51 rfl SH_218 rfl ?_
  refine T_iload_n dX11_cheapens_12 rfl ?_
  refine T_iald dX11_cheapens_13 SH_231 h.1 ?_
  replace h := h.2
  refine U_icmp_lt (tgt := 19) dX11_cheapens_14 (by decide) (fun hc => ?_) (fun hc => ?_)
  · replace h := h.1 hc
    refine T_aload_n dX11_cheapens_19 rfl ?_
    refine T_getR (r := 231) dX11_cheapens_20 fX11_51 rfl SH_218 rfl ?_
    refine T_iload_n dX11_cheapens_23 rfl ?_
    refine T_aload_n dX11_cheapens_24 rfl ?_
    refine T_getR (r := 231) dX11_cheapens_25 fX11_51 rfl SH_218 rfl ?_
    refine T_iload_n dX11_cheapens_28 rfl ?_
    refine T_iald dX11_cheapens_29 SH_231 h.1 ?_
    replace h := h.2
    refine T_iload_n dX11_cheapens_30 rfl ?_
    refine U_iadd dX11_cheapens_31 h.1 ?_
    replace h := h.2
    refine U_iast dX11_cheapens_32 SH_231 h.1 (fun v32 ev32 => ?_)
    replace h := h.2 v32 ev32
    refine T_iconst dX11_cheapens_33 (by decide) ?_
    exact T_zret dX11_cheapens_34 rfl (by decide) (hQ _ _ h)
  · replace h := h.2 hc
    refine T_iconst dX11_cheapens_17 (by decide) ?_
    exact T_zret dX11_cheapens_18 rfl (by decide) (hQ _ _ h)

theorem W_X11_laysCosts {G : GT} {d : Nat} (hd : 2 ≤ d) {x1 : Int}   {v : VT} {q : VT → Prop} {Q : Option Vl → List Sh → VT → Prop} (h : P_X11_laysCosts x1 v q) (hQ : ∀ w, q w → Q none SH w) : n_T G d 0 0 mX11_laysCosts 0 [vR 218, vI x1, vS 9, vS 9] [] SH v Q := by
  unfold P_X11_laysCosts at h
  refine T_iconst dX11_laysCosts_0 (by decide) ?_
  refine T_istore_n dX11_laysCosts_1 (by decide) rfl ?_
  refine n_cut (h (fun (v36 : VT) => n_T G d 0 0 mX11_laysCosts 36 [vR 218, vS 9, vS 9, vS 9] [] SH v36 Q)) ?_ ?_
  · intro v36 h
    refine T_iconst dX11_laysCosts_36 (by decide) ?_
    refine T_istore_n dX11_laysCosts_37 (by decide) rfl ?_
    refine T_drop (h (fun (i2 : Int) (v38 : VT) => n_T G d 0 0 mX11_laysCosts 38 [vR 218, vS 9, vI i2, vS 9] [] SH v38 Q) (fun i2 v38 h => ?_)) ⟨Or.inl rfl, Or.inr rfl, Or.inl rfl, Or.inr rfl, trivial⟩
    refine T_iload_n dX11_laysCosts_38 rfl ?_
    refine U_if_eq (tgt := 129) dX11_laysCosts_39 (by decide) (fun hc => ?_) (fun hc => ?_)
    · replace h := h.1 hc
      exact T_vret dX11_laysCosts_129 rfl (hQ _ h)
    · replace h := h.2 hc
      refine T_iconst dX11_laysCosts_42 (by decide) ?_
      refine T_istore_n dX11_laysCosts_43 (by decide) rfl ?_
      refine T_iconst dX11_laysCosts_44 (by decide) ?_
      refine T_istore_n dX11_laysCosts_45 (by decide) rfl ?_
      refine T_drop (h (fun (i2_1 : Int) (i3 : Int) (v46 : VT) => n_T G d 0 0 mX11_laysCosts 46 [vR 218, vS 9, vI i2_1, vI i3] [] SH v46 Q) (fun i2_1 i3 v46 h => ?_)) ⟨Or.inl rfl, Or.inr rfl, Or.inl rfl, Or.inl rfl, trivial⟩
      refine T_iload_n dX11_laysCosts_46 rfl ?_
      refine T_aload_n dX11_laysCosts_47 rfl ?_
      refine T_getR (r := 222) dX11_laysCosts_48 fX11_23 rfl SH_218 rfl ?_
      refine T_iconst dX11_laysCosts_51 (by decide) ?_
      refine T_iald dX11_laysCosts_52 SH_222 (by decide) ?_
      refine U_icmp_ge (tgt := 126) dX11_laysCosts_53 (by decide) (fun hc => ?_) (fun hc => ?_)
      · replace h := h.1 hc
        refine T_goto (tgt := 38) dX11_laysCosts_126 (by decide) ?_
        exact T_drop h ⟨Or.inl rfl, Or.inr rfl, Or.inl rfl, Or.inr rfl, trivial⟩
      · replace h := h.2 hc
        refine T_aload_n dX11_laysCosts_56 rfl ?_
        refine T_aload_n dX11_laysCosts_57 rfl ?_
        refine T_iload_n dX11_laysCosts_58 rfl ?_
        refine U_callV (as := [vI i3]) (st := [vR 218]) dX11_laysCosts_59 kX11_low lX11_208 SH_218 rfl rfl rfl rfl (Nat.le_of_ble_eq_true rfl) (Nat.le_of_ble_eq_true rfl) (by omega) ?_
        refine W_X11_low (by omega)  h (fun r59 h => ?_)
        show n_T G d 0 0 mX11_laysCosts 62 [vR 218, vS 9, vI i2_1, vI i3] [vI r59, vR 218] SH v46 Q
        refine T_aload_n dX11_laysCosts_62 rfl ?_
        refine T_iload_n dX11_laysCosts_63 rfl ?_
        refine U_callV (as := [vI i3]) (st := [vI r59, vR 218]) dX11_laysCosts_64 kX11_high lX11_211 SH_218 rfl rfl rfl rfl (Nat.le_of_ble_eq_true rfl) (Nat.le_of_ble_eq_true rfl) (by omega) ?_
        refine W_X11_high (by omega)  h (fun r64 h => ?_)
        show n_T G d 0 0 mX11_laysCosts 67 [vR 218, vS 9, vI i2_1, vI i3] [vI r64, vI r59, vR 218] SH v46 Q
        refine T_aload_n dX11_laysCosts_67 rfl ?_
        refine T_iload_n dX11_laysCosts_68 rfl ?_
        refine U_callV (as := [vI i3]) (st := [vI r64, vI r59, vR 218]) dX11_laysCosts_69 kX11_priceOf lX11_254 SH_218 rfl rfl rfl rfl (Nat.le_of_ble_eq_true rfl) (Nat.le_of_ble_eq_true rfl) (by omega) ?_
        refine W_X11_priceOf (by omega)  h (fun r69 h => ?_)
        show n_T G d 0 0 mX11_laysCosts 72 [vR 218, vS 9, vI i2_1, vI i3] [vI r69, vI r64, vI r59, vR 218] SH v46 Q
        refine U_callV (as := [vI r59, vI r64, vI r69]) (st := []) dX11_laysCosts_72 kX11_cheapens lX11_277 SH_218 rfl rfl rfl rfl (Nat.le_of_ble_eq_true rfl) (Nat.le_of_ble_eq_true rfl) (by omega) ?_
        refine W_X11_cheapens (by omega)  h (fun r72 v72 h => ?_)
        show n_T G d 0 0 mX11_laysCosts 75 [vR 218, vS 9, vI i2_1, vI i3] [vI r72] SH v72 Q
        refine n_cut (h (fun (s0 : Int) => n_T G d 0 0 mX11_laysCosts 87 [vR 218, vS 9, vS 9, vI i3] [vI s0] SH v72 Q)) ?_ ?_
        · intro s0 h
          refine T_istore_n dX11_laysCosts_87 (by decide) rfl ?_
          refine T_aload_n dX11_laysCosts_88 rfl ?_
          refine T_aload_n dX11_laysCosts_89 rfl ?_
          refine T_iload_n dX11_laysCosts_90 rfl ?_
          refine U_callV (as := [vI i3]) (st := [vR 218]) dX11_laysCosts_91 kX11_high lX11_211 SH_218 rfl rfl rfl rfl (Nat.le_of_ble_eq_true rfl) (Nat.le_of_ble_eq_true rfl) (by omega) ?_
          refine W_X11_high (by omega)  h (fun r91 h => ?_)
          show n_T G d 0 0 mX11_laysCosts 94 [vR 218, vS 9, vI s0, vI i3] [vI r91, vR 218] SH v72 Q
          refine T_aload_n dX11_laysCosts_94 rfl ?_
          refine T_iload_n dX11_laysCosts_95 rfl ?_
          refine U_callV (as := [vI i3]) (st := [vI r91, vR 218]) dX11_laysCosts_96 kX11_low lX11_208 SH_218 rfl rfl rfl rfl (Nat.le_of_ble_eq_true rfl) (Nat.le_of_ble_eq_true rfl) (by omega) ?_
          refine W_X11_low (by omega)  h (fun r96 h => ?_)
          show n_T G d 0 0 mX11_laysCosts 99 [vR 218, vS 9, vI s0, vI i3] [vI r96, vI r91, vR 218] SH v72 Q
          refine T_aload_n dX11_laysCosts_99 rfl ?_
          refine T_iload_n dX11_laysCosts_100 rfl ?_
          refine U_callV (as := [vI i3]) (st := [vI r96, vI r91, vR 218]) dX11_laysCosts_101 kX11_priceOf lX11_254 SH_218 rfl rfl rfl rfl (Nat.le_of_ble_eq_true rfl) (Nat.le_of_ble_eq_true rfl) (by omega) ?_
          refine W_X11_priceOf (by omega)  h (fun r101 h => ?_)
          show n_T G d 0 0 mX11_laysCosts 104 [vR 218, vS 9, vI s0, vI i3] [vI r101, vI r96, vI r91, vR 218] SH v72 Q
          refine U_callV (as := [vI r91, vI r96, vI r101]) (st := []) dX11_laysCosts_104 kX11_cheapens lX11_277 SH_218 rfl rfl rfl rfl (Nat.le_of_ble_eq_true rfl) (Nat.le_of_ble_eq_true rfl) (by omega) ?_
          refine W_X11_cheapens (by omega)  h (fun r104 v104 h => ?_)
          show n_T G d 0 0 mX11_laysCosts 107 [vR 218, vS 9, vI s0, vI i3] [vI r104] SH v104 Q
          refine U_if_ne (tgt := 114) dX11_laysCosts_107 (by decide) (fun hc => ?_) (fun hc => ?_)
          · replace h := h.1 hc
            refine T_iconst dX11_laysCosts_114 (by decide) ?_
            refine T_goto (tgt := 119) dX11_laysCosts_115 (by decide) ?_
            refine T_istore_n dX11_laysCosts_119 (by decide) rfl ?_
            refine U_iinc dX11_laysCosts_120 rfl (by decide) rfl h.1 ?_
            replace h := h.2
            refine T_goto (tgt := 46) dX11_laysCosts_123 (by decide) ?_
            exact T_drop h ⟨Or.inl rfl, Or.inr rfl, Or.inl rfl, Or.inl rfl, trivial⟩
          · replace h := h.2 hc
            refine T_iload_n dX11_laysCosts_110 rfl ?_
            refine U_if_eq (tgt := 118) dX11_laysCosts_111 (by decide) (fun hc => ?_) (fun hc => ?_)
            · replace h := h.1 hc
              refine T_iconst dX11_laysCosts_118 (by decide) ?_
              refine T_istore_n dX11_laysCosts_119 (by decide) rfl ?_
              refine U_iinc dX11_laysCosts_120 rfl (by decide) rfl h.1 ?_
              replace h := h.2
              refine T_goto (tgt := 46) dX11_laysCosts_123 (by decide) ?_
              exact T_drop h ⟨Or.inl rfl, Or.inr rfl, Or.inl rfl, Or.inl rfl, trivial⟩
            · replace h := h.2 hc
              refine T_iconst dX11_laysCosts_114 (by decide) ?_
              refine T_goto (tgt := 119) dX11_laysCosts_115 (by decide) ?_
              refine T_istore_n dX11_laysCosts_119 (by decide) rfl ?_
              refine U_iinc dX11_laysCosts_120 rfl (by decide) rfl h.1 ?_
              replace h := h.2
              refine T_goto (tgt := 46) dX11_laysCosts_123 (by decide) ?_
              exact T_drop h ⟨Or.inl rfl, Or.inr rfl, Or.inl rfl, Or.inl rfl, trivial⟩
        · intro h
          refine n_cut (h (n_T G d 0 0 mX11_laysCosts 82 [vR 218, vS 9, vS 9, vI i3] [] SH v72 Q)) ?_ ?_
          · intro h
            refine T_iconst dX11_laysCosts_82 (by decide) ?_
            refine T_goto (tgt := 87) dX11_laysCosts_83 (by decide) ?_
            exact T_drop h ⟨Or.inl rfl, Or.inr rfl, Or.inr rfl, Or.inl rfl, trivial⟩
          · intro h
            refine U_if_ne (tgt := 82) dX11_laysCosts_75 (by decide) (fun hc => ?_) (fun hc => ?_)
            · replace h := h.1 hc
              exact T_drop h ⟨Or.inl rfl, Or.inr rfl, Or.inr rfl, Or.inl rfl, trivial⟩
            · replace h := h.2 hc
              refine T_iload_n dX11_laysCosts_78 rfl ?_
              refine U_if_eq (tgt := 86) dX11_laysCosts_79 (by decide) (fun hc => ?_) (fun hc => ?_)
              · replace h := h.1 hc
                refine T_iconst dX11_laysCosts_86 (by decide) ?_
                exact T_drop h ⟨Or.inl rfl, Or.inr rfl, Or.inr rfl, Or.inl rfl, trivial⟩
              · replace h := h.2 hc
                exact T_drop h ⟨Or.inl rfl, Or.inr rfl, Or.inr rfl, Or.inl rfl, trivial⟩
  · intro h
    refine T_drop (h (fun (i2_2 : Int) (v2 : VT) => n_T G d 0 0 mX11_laysCosts 2 [vR 218, vI x1, vI i2_2, vS 9] [] SH v2 Q) (fun i2_2 v2 h => ?_)) ⟨Or.inl rfl, Or.inl rfl, Or.inl rfl, Or.inr rfl, trivial⟩
    refine T_iload_n dX11_laysCosts_2 rfl ?_
    refine T_aload_n dX11_laysCosts_3 rfl ?_
    refine T_getR (r := 222) dX11_laysCosts_4 fX11_23 rfl SH_218 rfl ?_
    refine T_iconst dX11_laysCosts_7 (by decide) ?_
    refine T_iald dX11_laysCosts_8 SH_222 (by decide) ?_
    refine U_icmp_ge (tgt := 36) dX11_laysCosts_9 (by decide) (fun hc => ?_) (fun hc => ?_)
    · replace h := h.1 hc
      exact T_drop h ⟨Or.inl rfl, Or.inr rfl, Or.inr rfl, Or.inr rfl, trivial⟩
    · replace h := h.2 hc
      refine T_aload_n dX11_laysCosts_12 rfl ?_
      refine T_getR (r := 231) dX11_laysCosts_13 fX11_51 rfl SH_218 rfl ?_
      refine T_iload_n dX11_laysCosts_16 rfl ?_
      refine T_iload_n dX11_laysCosts_17 rfl ?_
      refine T_iload_n dX11_laysCosts_18 rfl ?_
      refine U_icmp_ne (tgt := 26) dX11_laysCosts_19 (by decide) (fun hc => ?_) (fun hc => ?_)
      · replace h := h.1 hc
        refine T_ldcw (n := 1000000000) dX11_laysCosts_26 cX11_276 (by unfold r32; omega) ?_
        refine U_iast dX11_laysCosts_29 SH_231 h.1 (fun v29 ev29 => ?_)
        replace h := h.2 v29 ev29
        refine U_iinc dX11_laysCosts_30 rfl (by decide) rfl h.1 ?_
        replace h := h.2
        refine T_goto (tgt := 2) dX11_laysCosts_33 (by decide) ?_
        exact T_drop h ⟨Or.inl rfl, Or.inl rfl, Or.inl rfl, Or.inr rfl, trivial⟩
      · replace h := h.2 hc
        refine T_iconst dX11_laysCosts_22 (by decide) ?_
        refine T_goto (tgt := 29) dX11_laysCosts_23 (by decide) ?_
        refine U_iast dX11_laysCosts_29 SH_231 h.1 (fun v29_1 ev29_1 => ?_)
        replace h := h.2 v29_1 ev29_1
        refine U_iinc dX11_laysCosts_30 rfl (by decide) rfl h.1 ?_
        replace h := h.2
        refine T_goto (tgt := 2) dX11_laysCosts_33 (by decide) ?_
        exact T_drop h ⟨Or.inl rfl, Or.inl rfl, Or.inl rfl, Or.inr rfl, trivial⟩

theorem W_X11_barOf {G : GT} {d : Nat} (hd : 2 ≤ d) {x1 : Int} {x2 : Int}   {v : VT} {q : Int → Prop} {Q : Option Vl → List Sh → VT → Prop} (h : P_X11_barOf x1 x2 v q) (hQ : ∀ r, q r → Q (some (vI r)) SH v) : n_T G d 0 0 mX11_barOf 0 [vR 218, vI x1, vI x2, vS 9, vS 9, vS 9, vS 9] [] SH v Q := by
  unfold P_X11_barOf at h
  refine T_iconst dX11_barOf_0 (by decide) ?_
  refine T_istore_n dX11_barOf_1 (by decide) rfl ?_
  refine T_iconst dX11_barOf_2 (by decide) ?_
  refine T_iload_n dX11_barOf_3 rfl ?_
  refine T_ishl dX11_barOf_4 ?_
  refine T_istore dX11_barOf_5 (by decide) rfl ?_
  refine T_drop (h (fun (i3 : Int) (i4 : Int) => n_T G d 0 0 mX11_barOf 7 [vR 218, vS 9, vI x2, vI i3, vI i4, vS 9, vS 9] [] SH v Q) (fun i3 i4 h => ?_)) ⟨Or.inl rfl, Or.inr rfl, Or.inl rfl, Or.inl rfl, Or.inl rfl, Or.inr rfl, Or.inr rfl, trivial⟩
  refine T_iload dX11_barOf_7 rfl ?_
  refine T_iload_n dX11_barOf_9 rfl ?_
  refine U_callS (as := [vI i4, vI x2]) (st := []) dX11_barOf_10 kX11_isOf lX11_281 rfl rfl (Nat.le_of_ble_eq_true rfl) (Nat.le_of_ble_eq_true rfl) (by omega) ?_
  refine W_X11_isOf (by omega)  h (fun r10 h => ?_)
  show n_T G d 0 0 mX11_barOf 13 [vR 218, vS 9, vI x2, vI i3, vI i4, vS 9, vS 9] [vI r10] SH v Q
  refine U_if_ne (tgt := 119) dX11_barOf_13 (by decide) (fun hc => ?_) (fun hc => ?_)
  · replace h := h.1 hc
    refine T_iload_n dX11_barOf_119 rfl ?_
    exact T_iret dX11_barOf_120 rfl (hQ _ h)
  · replace h := h.2 hc
    refine U_iinc dX11_barOf_16 rfl (by decide) rfl h.1 ?_
    replace h := h.2
    refine T_iconst dX11_barOf_19 (by decide) ?_
    refine T_istore dX11_barOf_20 (by decide) rfl ?_
    refine T_drop (h (fun (i4_1 : Int) (i5 : Int) => n_T G d 0 0 mX11_barOf 22 [vR 218, vS 9, vI x2, vI (i3 + 1), vI i4_1, vI i5, vS 9] [] SH v Q) (fun i4_1 i5 h => ?_)) ⟨Or.inl rfl, Or.inr rfl, Or.inl rfl, Or.inl rfl, Or.inl rfl, Or.inl rfl, Or.inr rfl, trivial⟩
    refine T_iload dX11_barOf_22 rfl ?_
    refine T_iload dX11_barOf_24 rfl ?_
    refine U_icmp_eq (tgt := 116) dX11_barOf_26 (by decide) (fun hc => ?_) (fun hc => ?_)
    · replace h := h.1 hc
      refine T_goto (tgt := 7) dX11_barOf_116 (by decide) ?_
      exact T_drop h ⟨Or.inl rfl, Or.inr rfl, Or.inl rfl, Or.inl rfl, Or.inl rfl, Or.inr rfl, Or.inr rfl, trivial⟩
    · replace h := h.2 hc
      refine T_iload dX11_barOf_29 rfl ?_
      refine T_istore dX11_barOf_31 (by decide) rfl ?_
      refine T_iconst dX11_barOf_33 (by decide) ?_
      refine T_istore dX11_barOf_34 (by decide) rfl ?_
      refine T_drop (h (fun (i4_2 : Int) (i6 : Int) => n_T G d 0 0 mX11_barOf 36 [vR 218, vS 9, vI x2, vI (i3 + 1), vI i4_2, vI i4_1, vI i6] [] SH v Q) (fun i4_2 i6 h => ?_)) ⟨Or.inl rfl, Or.inr rfl, Or.inl rfl, Or.inl rfl, Or.inl rfl, Or.inl rfl, Or.inl rfl, trivial⟩
      refine T_iload dX11_barOf_36 rfl ?_
      refine T_aload_n dX11_barOf_38 rfl ?_
      refine T_getR (r := 222) dX11_barOf_39 fX11_23 rfl SH_218 rfl ?_
      refine T_iconst dX11_barOf_42 (by decide) ?_
      refine T_iald dX11_barOf_43 SH_222 (by decide) ?_
      refine U_icmp_ge (tgt := 113) dX11_barOf_44 (by decide) (fun hc => ?_) (fun hc => ?_)
      · replace h := h.1 hc
        refine T_goto (tgt := 22) dX11_barOf_113 (by decide) ?_
        exact T_drop h ⟨Or.inl rfl, Or.inr rfl, Or.inl rfl, Or.inl rfl, Or.inl rfl, Or.inl rfl, Or.inr rfl, trivial⟩
      · replace h := h.2 hc
        refine T_aload_n dX11_barOf_47 rfl ?_
        refine T_iload dX11_barOf_48 rfl ?_
        refine U_callV (as := [vI i6]) (st := []) dX11_barOf_50 kX11_priceOf lX11_254 SH_218 rfl rfl rfl rfl (Nat.le_of_ble_eq_true rfl) (Nat.le_of_ble_eq_true rfl) (by omega) ?_
        refine W_X11_priceOf (by omega)  h (fun r50 h => ?_)
        show n_T G d 0 0 mX11_barOf 53 [vR 218, vS 9, vI x2, vI (i3 + 1), vI i4_2, vI i4_1, vI i6] [vI r50] SH v Q
        refine T_iload_n dX11_barOf_53 rfl ?_
        refine U_icmp_gt (tgt := 107) dX11_barOf_54 (by decide) (fun hc => ?_) (fun hc => ?_)
        · replace h := h.1 hc
          refine U_iinc dX11_barOf_107 rfl (by decide) rfl h.1 ?_
          replace h := h.2
          refine T_goto (tgt := 36) dX11_barOf_110 (by decide) ?_
          exact T_drop h ⟨Or.inl rfl, Or.inr rfl, Or.inl rfl, Or.inl rfl, Or.inl rfl, Or.inl rfl, Or.inl rfl, trivial⟩
        · replace h := h.2 hc
          refine T_iload dX11_barOf_57 rfl ?_
          refine T_aload_n dX11_barOf_59 rfl ?_
          refine T_iload dX11_barOf_60 rfl ?_
          refine U_callV (as := [vI i6]) (st := [vI i4_2]) dX11_barOf_62 kX11_low lX11_208 SH_218 rfl rfl rfl rfl (Nat.le_of_ble_eq_true rfl) (Nat.le_of_ble_eq_true rfl) (by omega) ?_
          refine W_X11_low (by omega)  h (fun r62 h => ?_)
          show n_T G d 0 0 mX11_barOf 65 [vR 218, vS 9, vI x2, vI (i3 + 1), vI i4_2, vI i4_1, vI i6] [vI r62, vI i4_2] SH v Q
          refine U_callS (as := [vI i4_2, vI r62]) (st := []) dX11_barOf_65 kX11_isOf lX11_281 rfl rfl (Nat.le_of_ble_eq_true rfl) (Nat.le_of_ble_eq_true rfl) (by omega) ?_
          refine W_X11_isOf (by omega)  h (fun r65 h => ?_)
          show n_T G d 0 0 mX11_barOf 68 [vR 218, vS 9, vI x2, vI (i3 + 1), vI i4_2, vI i4_1, vI i6] [vI r65] SH v Q
          refine n_cut (h (n_T G d 0 0 mX11_barOf 85 [vR 218, vS 9, vI x2, vI (i3 + 1), vI i4_2, vI i4_1, vI i6] [] SH v Q)) ?_ ?_
          · intro h
            refine T_iload dX11_barOf_85 rfl ?_
            refine T_iconst dX11_barOf_87 (by decide) ?_
            refine T_aload_n dX11_barOf_88 rfl ?_
            refine T_iload dX11_barOf_89 rfl ?_
            refine U_callV (as := [vI i6]) (st := [vI 1, vI i4_2]) dX11_barOf_91 kX11_low lX11_208 SH_218 rfl rfl rfl rfl (Nat.le_of_ble_eq_true rfl) (Nat.le_of_ble_eq_true rfl) (by omega) ?_
            refine W_X11_low (by omega)  h (fun r91 h => ?_)
            show n_T G d 0 0 mX11_barOf 94 [vR 218, vS 9, vI x2, vI (i3 + 1), vI i4_2, vI i4_1, vI i6] [vI r91, vI 1, vI i4_2] SH v Q
            refine T_ishl dX11_barOf_94 ?_
            refine T_iconst dX11_barOf_95 (by decide) ?_
            refine T_aload_n dX11_barOf_96 rfl ?_
            refine T_iload dX11_barOf_97 rfl ?_
            refine U_callV (as := [vI i6]) (st := [vI 1, vI (i_shl 1 r91), vI i4_2]) dX11_barOf_99 kX11_high lX11_211 SH_218 rfl rfl rfl rfl (Nat.le_of_ble_eq_true rfl) (Nat.le_of_ble_eq_true rfl) (by omega) ?_
            refine W_X11_high (by omega)  h (fun r99 h => ?_)
            show n_T G d 0 0 mX11_barOf 102 [vR 218, vS 9, vI x2, vI (i3 + 1), vI i4_2, vI i4_1, vI i6] [vI r99, vI 1, vI (i_shl 1 r91), vI i4_2] SH v Q
            refine T_ishl dX11_barOf_102 ?_
            refine T_ior dX11_barOf_103 ?_
            refine T_ior dX11_barOf_104 ?_
            refine U_istore dX11_barOf_105 (by decide) rfl (fun l4 el4 => ?_)
            replace h := h l4 el4
            refine U_iinc dX11_barOf_107 rfl (by decide) rfl h.1 ?_
            replace h := h.2
            refine T_goto (tgt := 36) dX11_barOf_110 (by decide) ?_
            exact T_drop h ⟨Or.inl rfl, Or.inr rfl, Or.inl rfl, Or.inl rfl, Or.inl rfl, Or.inl rfl, Or.inl rfl, trivial⟩
          · intro h
            refine U_if_ne (tgt := 85) dX11_barOf_68 (by decide) (fun hc => ?_) (fun hc => ?_)
            · replace h := h.1 hc
              exact T_drop h ⟨Or.inl rfl, Or.inr rfl, Or.inl rfl, Or.inl rfl, Or.inl rfl, Or.inl rfl, Or.inl rfl, trivial⟩
            · replace h := h.2 hc
              refine T_iload dX11_barOf_71 rfl ?_
              refine T_aload_n dX11_barOf_73 rfl ?_
              refine T_iload dX11_barOf_74 rfl ?_
              refine U_callV (as := [vI i6]) (st := [vI i4_2]) dX11_barOf_76 kX11_high lX11_211 SH_218 rfl rfl rfl rfl (Nat.le_of_ble_eq_true rfl) (Nat.le_of_ble_eq_true rfl) (by omega) ?_
              refine W_X11_high (by omega)  h (fun r76 h => ?_)
              show n_T G d 0 0 mX11_barOf 79 [vR 218, vS 9, vI x2, vI (i3 + 1), vI i4_2, vI i4_1, vI i6] [vI r76, vI i4_2] SH v Q
              refine U_callS (as := [vI i4_2, vI r76]) (st := []) dX11_barOf_79 kX11_isOf lX11_281 rfl rfl (Nat.le_of_ble_eq_true rfl) (Nat.le_of_ble_eq_true rfl) (by omega) ?_
              refine W_X11_isOf (by omega)  h (fun r79 h => ?_)
              show n_T G d 0 0 mX11_barOf 82 [vR 218, vS 9, vI x2, vI (i3 + 1), vI i4_2, vI i4_1, vI i6] [vI r79] SH v Q
              refine U_if_eq (tgt := 107) dX11_barOf_82 (by decide) (fun hc => ?_) (fun hc => ?_)
              · replace h := h.1 hc
                refine U_iinc dX11_barOf_107 rfl (by decide) rfl h.1 ?_
                replace h := h.2
                refine T_goto (tgt := 36) dX11_barOf_110 (by decide) ?_
                exact T_drop h ⟨Or.inl rfl, Or.inr rfl, Or.inl rfl, Or.inl rfl, Or.inl rfl, Or.inl rfl, Or.inl rfl, trivial⟩
              · replace h := h.2 hc
                exact T_drop h ⟨Or.inl rfl, Or.inr rfl, Or.inl rfl, Or.inl rfl, Or.inl rfl, Or.inl rfl, Or.inl rfl, trivial⟩

theorem W_X11_areJoined {G : GT} {d : Nat} (hd : 6 ≤ d) {x1 : Int} {x2 : Int}   {v : VT} {q : Int → VT → Prop} {Q : Option Vl → List Sh → VT → Prop} (h : P_X11_areJoined x1 x2 v q) (hQ : ∀ r w, q r w → Q (some (vI r)) SH w) : n_T G d 0 0 mX11_areJoined 0 [vR 218, vI x1, vI x2] [] SH v Q := by
  unfold P_X11_areJoined at h
  refine T_aload_n dX11_areJoined_0 rfl ?_
  refine T_iload_n dX11_areJoined_1 rfl ?_
  refine T_iload_n dX11_areJoined_2 rfl ?_
  refine U_callV (as := [vI x1, vI x2]) (st := []) dX11_areJoined_3 kX11_areNodes lX11_268 SH_218 rfl rfl rfl rfl (Nat.le_of_ble_eq_true rfl) (Nat.le_of_ble_eq_true rfl) (by omega) ?_
  refine W_X11_areNodes (by omega)  h (fun r3 v3 h => ?_)
  show n_T G d 0 0 mX11_areJoined 6 [vR 218, vI x1, vI x2] [vI r3] SH v3 Q
  refine U_if_eq (tgt := 24) dX11_areJoined_6 (by decide) (fun hc => ?_) (fun hc => ?_)
  · replace h := h.1 hc
    refine T_iconst dX11_areJoined_24 (by decide) ?_
    exact T_zret dX11_areJoined_25 rfl (by decide) (hQ _ _ h)
  · replace h := h.2 hc
    refine T_aload_n dX11_areJoined_9 rfl ?_
    refine T_iload_n dX11_areJoined_10 rfl ?_
    refine T_iload_n dX11_areJoined_11 rfl ?_
    refine U_callV (as := [vI x1, vI x2]) (st := []) dX11_areJoined_12 kX11_farOf lX11_214 SH_218 rfl rfl rfl rfl (Nat.le_of_ble_eq_true rfl) (Nat.le_of_ble_eq_true rfl) (by omega) ?_
    refine W_X11_farOf (by omega)  h (fun r12 h => ?_)
    show n_T G d 0 0 mX11_areJoined 15 [vR 218, vI x1, vI x2] [vI r12] SH v3 Q
    refine T_bipush dX11_areJoined_15 (by decide) ?_
    refine U_icmp_ge (tgt := 24) dX11_areJoined_17 (by decide) (fun hc => ?_) (fun hc => ?_)
    · replace h := h.1 hc
      refine T_iconst dX11_areJoined_24 (by decide) ?_
      exact T_zret dX11_areJoined_25 rfl (by decide) (hQ _ _ h)
    · replace h := h.2 hc
      refine T_iconst dX11_areJoined_20 (by decide) ?_
      refine T_goto (tgt := 25) dX11_areJoined_21 (by decide) ?_
      exact T_zret dX11_areJoined_25 rfl (by decide) (hQ _ _ h)

theorem W_X11_price {G : GT} {d : Nat} (hd : 7 ≤ d) {x1 : Int} {x2 : Int} {x3 : Int}   {v : VT} {q : Int → VT → Prop} {Q : Option Vl → List Sh → VT → Prop} (h : P_X11_price x1 x2 x3 v q) (hQ : ∀ r w, q r w → Q (some (vI r)) SH w) : n_T G d 0 0 mX11_price 0 [vR 218, vI x1, vI x2, vI x3] [] SH v Q := by
  unfold P_X11_price at h
  refine T_aload_n dX11_price_0 rfl ?_
  refine T_iload_n dX11_price_1 rfl ?_
  refine T_iload_n dX11_price_2 rfl ?_
  refine U_callV (as := [vI x1, vI x2]) (st := []) dX11_price_3 kX11_areJoined lX11_284 SH_218 rfl rfl rfl rfl (Nat.le_of_ble_eq_true rfl) (Nat.le_of_ble_eq_true rfl) (by omega) ?_
  refine W_X11_areJoined (by omega)  h (fun r3 v3 h => ?_)
  show n_T G d 0 0 mX11_price 6 [vR 218, vI x1, vI x2, vI x3] [vI r3] SH v3 Q
  refine U_if_eq (tgt := 19) dX11_price_6 (by decide) (fun hc => ?_) (fun hc => ?_)
  · replace h := h.1 hc
    refine T_iconst dX11_price_19 (by decide) ?_
    exact T_iret dX11_price_20 rfl (hQ _ _ h)
  · replace h := h.2 hc
    refine T_iload_n dX11_price_9 rfl ?_
    refine T_i2l dX11_price_10 ?_
    refine T_lconst dX11_price_11 ?_
    refine T_lconst dX11_price_12 ?_
    refine U_callS (as := [vJ x3, vJ 0, vJ 1]) (st := []) dX11_price_13 kX11_isIn lX11_109 rfl rfl (Nat.le_of_ble_eq_true rfl) (Nat.le_of_ble_eq_true rfl) (by omega) ?_
    refine W_X11_isIn (by omega)  h (fun r13 h => ?_)
    show n_T G d 0 0 mX11_price 16 [vR 218, vI x1, vI x2, vI x3] [vI r13] SH v3 Q
    refine U_if_ne (tgt := 21) dX11_price_16 (by decide) (fun hc => ?_) (fun hc => ?_)
    · replace h := h.1 hc
      refine T_iload_n dX11_price_21 rfl ?_
      refine T_iconst dX11_price_22 (by decide) ?_
      refine U_icmp_ne (tgt := 33) dX11_price_23 (by decide) (fun hc => ?_) (fun hc => ?_)
      · replace h := h.1 hc
        refine T_aload_n dX11_price_33 rfl ?_
        refine T_iload_n dX11_price_34 rfl ?_
        refine U_callV (as := [vI x2]) (st := []) dX11_price_35 kX11_laysCosts lX11_290 SH_218 rfl rfl rfl rfl (Nat.le_of_ble_eq_true rfl) (Nat.le_of_ble_eq_true rfl) (by omega) ?_
        refine W_X11_laysCosts (by omega)  h (fun v35 h => ?_)
        show n_T G d 0 0 mX11_price 38 [vR 218, vI x1, vI x2, vI x3] [] SH v35 Q
        refine T_aload_n dX11_price_38 rfl ?_
        refine T_getR (r := 231) dX11_price_39 fX11_51 rfl SH_218 rfl ?_
        refine T_iload_n dX11_price_42 rfl ?_
        refine T_iald dX11_price_43 SH_231 h.1 ?_
        replace h := h.2
        exact T_iret dX11_price_44 rfl (hQ _ _ h)
      · replace h := h.2 hc
        refine T_aload_n dX11_price_26 rfl ?_
        refine T_iload_n dX11_price_27 rfl ?_
        refine T_iload_n dX11_price_28 rfl ?_
        refine U_callV (as := [vI x1, vI x2]) (st := []) dX11_price_29 kX11_barOf lX11_287 SH_218 rfl rfl rfl rfl (Nat.le_of_ble_eq_true rfl) (Nat.le_of_ble_eq_true rfl) (by omega) ?_
        refine W_X11_barOf (by omega)  h (fun r29 h => ?_)
        show n_T G d 0 0 mX11_price 32 [vR 218, vI x1, vI x2, vI x3] [vI r29] SH v3 Q
        exact T_iret dX11_price_32 rfl (hQ _ _ h)
    · replace h := h.2 hc
      refine T_iconst dX11_price_19 (by decide) ?_
      exact T_iret dX11_price_20 rfl (hQ _ _ h)

theorem W_X11_nextOf {G : GT} {d : Nat} (hd : 2 ≤ d) {x1 : Int}   {v : VT} {q : Int → Prop} {Q : Option Vl → List Sh → VT → Prop} (h : P_X11_nextOf x1 v q) (hQ : ∀ r, q r → Q (some (vI r)) SH v) : n_T G d 0 0 mX11_nextOf 0 [vR 218, vI x1, vS 9, vS 9] [] SH v Q := by
  unfold P_X11_nextOf at h
  refine T_iconst dX11_nextOf_0 (by decide) ?_
  refine T_istore_n dX11_nextOf_1 (by decide) rfl ?_
  refine T_drop (h (fun (i2 : Int) => n_T G d 0 0 mX11_nextOf 2 [vR 218, vI x1, vI i2, vS 9] [] SH v Q) (fun i2 h => ?_)) ⟨Or.inl rfl, Or.inl rfl, Or.inl rfl, Or.inr rfl, trivial⟩
  refine T_iload_n dX11_nextOf_2 rfl ?_
  refine T_aload_n dX11_nextOf_3 rfl ?_
  refine T_getR (r := 222) dX11_nextOf_4 fX11_23 rfl SH_218 rfl ?_
  refine T_iconst dX11_nextOf_7 (by decide) ?_
  refine T_iald dX11_nextOf_8 SH_222 (by decide) ?_
  refine U_icmp_ge (tgt := 61) dX11_nextOf_9 (by decide) (fun hc => ?_) (fun hc => ?_)
  · replace h := h.1 hc
    refine T_iconst dX11_nextOf_61 (by decide) ?_
    exact T_iret dX11_nextOf_62 rfl (hQ _ h)
  · replace h := h.2 hc
    refine T_aload_n dX11_nextOf_12 rfl ?_
    refine T_getR (r := 222) dX11_nextOf_13 fX11_23 rfl SH_218 rfl ?_
    refine T_iload_n dX11_nextOf_16 rfl ?_
    refine T_iload_n dX11_nextOf_17 rfl ?_
    refine U_callS (as := [vR 222, vI x1, vI i2]) (st := []) dX11_nextOf_18 kX11_lineOf lX11_169 rfl rfl (Nat.le_of_ble_eq_true rfl) (Nat.le_of_ble_eq_true rfl) (by omega) ?_
    refine W_X11_lineOf (by omega) SH_222 h (fun r18 h => ?_)
    show n_T G d 0 0 mX11_nextOf 21 [vR 218, vI x1, vI i2, vS 9] [vI r18] SH v Q
    refine T_istore_n dX11_nextOf_21 (by decide) rfl ?_
    refine T_iload_n dX11_nextOf_22 rfl ?_
    refine T_iload_n dX11_nextOf_23 rfl ?_
    refine U_icmp_eq (tgt := 55) dX11_nextOf_24 (by decide) (fun hc => ?_) (fun hc => ?_)
    · replace h := h.1 hc
      refine U_iinc dX11_nextOf_55 rfl (by decide) rfl h.1 ?_
      replace h := h.2
      refine T_goto (tgt := 2) dX11_nextOf_58 (by decide) ?_
      exact T_drop h ⟨Or.inl rfl, Or.inl rfl, Or.inl rfl, Or.inr rfl, trivial⟩
    · replace h := h.2 hc
      refine T_iload_n dX11_nextOf_27 rfl ?_
      refine T_iconst dX11_nextOf_28 (by decide) ?_
      refine U_icmp_eq (tgt := 55) dX11_nextOf_29 (by decide) (fun hc => ?_) (fun hc => ?_)
      · replace h := h.1 hc
        refine U_iinc dX11_nextOf_55 rfl (by decide) rfl h.1 ?_
        replace h := h.2
        refine T_goto (tgt := 2) dX11_nextOf_58 (by decide) ?_
        exact T_drop h ⟨Or.inl rfl, Or.inl rfl, Or.inl rfl, Or.inr rfl, trivial⟩
      · replace h := h.2 hc
        refine T_aload_n dX11_nextOf_32 rfl ?_
        refine T_getR (r := 231) dX11_nextOf_33 fX11_51 rfl SH_218 rfl ?_
        refine T_iload_n dX11_nextOf_36 rfl ?_
        refine T_iald dX11_nextOf_37 SH_231 h.1 ?_
        replace h := h.2
        refine T_aload_n dX11_nextOf_38 rfl ?_
        refine T_iload_n dX11_nextOf_39 rfl ?_
        refine U_callV (as := [vI r18]) (st := [vI (v 231 i2.toNat)]) dX11_nextOf_40 kX11_priceOf lX11_254 SH_218 rfl rfl rfl rfl (Nat.le_of_ble_eq_true rfl) (Nat.le_of_ble_eq_true rfl) (by omega) ?_
        refine W_X11_priceOf (by omega)  h (fun r40 h => ?_)
        show n_T G d 0 0 mX11_nextOf 43 [vR 218, vI x1, vI i2, vI r18] [vI r40, vI (v 231 i2.toNat)] SH v Q
        refine U_iadd dX11_nextOf_43 h.1 ?_
        replace h := h.2
        refine T_aload_n dX11_nextOf_44 rfl ?_
        refine T_getR (r := 231) dX11_nextOf_45 fX11_51 rfl SH_218 rfl ?_
        refine T_iload_n dX11_nextOf_48 rfl ?_
        refine T_iald dX11_nextOf_49 SH_231 h.1 ?_
        replace h := h.2
        refine U_icmp_ne (tgt := 55) dX11_nextOf_50 (by decide) (fun hc => ?_) (fun hc => ?_)
        · replace h := h.1 hc
          refine U_iinc dX11_nextOf_55 rfl (by decide) rfl h.1 ?_
          replace h := h.2
          refine T_goto (tgt := 2) dX11_nextOf_58 (by decide) ?_
          exact T_drop h ⟨Or.inl rfl, Or.inl rfl, Or.inl rfl, Or.inr rfl, trivial⟩
        · replace h := h.2 hc
          refine T_iload_n dX11_nextOf_53 rfl ?_
          exact T_iret dX11_nextOf_54 rfl (hQ _ h)

theorem W_X11_road {G : GT} {d : Nat} (hd : 7 ≤ d) {x1 : Int} {x2 : Int} {x3 : Int}   {v : VT} {q : Int → VT → Prop} {Q : Option Vl → List Sh → VT → Prop} (h : P_X11_road x1 x2 x3 v q) (hQ : ∀ r w, q r w → Q (some (vI r)) SH w) : n_T G d 0 0 mX11_road 0 [vR 218, vI x1, vI x2, vI x3, vS 9, vS 9] [] SH v Q := by
  unfold P_X11_road at h
  refine T_aload_n dX11_road_0 rfl ?_
  refine T_iload_n dX11_road_1 rfl ?_
  refine T_iload_n dX11_road_2 rfl ?_
  refine U_callV (as := [vI x1, vI x2]) (st := []) dX11_road_3 kX11_areJoined lX11_284 SH_218 rfl rfl rfl rfl (Nat.le_of_ble_eq_true rfl) (Nat.le_of_ble_eq_true rfl) (by omega) ?_
  refine W_X11_areJoined (by omega)  h (fun r3 v3 h => ?_)
  show n_T G d 0 0 mX11_road 6 [vR 218, vI x1, vI x2, vI x3, vS 9, vS 9] [vI r3] SH v3 Q
  refine U_if_eq (tgt := 14) dX11_road_6 (by decide) (fun hc => ?_) (fun hc => ?_)
  · replace h := h.1 hc
    refine T_iconst dX11_road_14 (by decide) ?_
    exact T_iret dX11_road_15 rfl (hQ _ _ h)
  · replace h := h.2 hc
    refine T_iload_n dX11_road_9 rfl ?_
    refine T_iconst dX11_road_10 (by decide) ?_
    refine U_icmp_ge (tgt := 16) dX11_road_11 (by decide) (fun hc => ?_) (fun hc => ?_)
    · replace h := h.1 hc
      refine T_aload_n dX11_road_16 rfl ?_
      refine T_iload_n dX11_road_17 rfl ?_
      refine U_callV (as := [vI x2]) (st := []) dX11_road_18 kX11_laysCosts lX11_290 SH_218 rfl rfl rfl rfl (Nat.le_of_ble_eq_true rfl) (Nat.le_of_ble_eq_true rfl) (by omega) ?_
      refine W_X11_laysCosts (by omega)  h (fun v18 h => ?_)
      show n_T G d 0 0 mX11_road 21 [vR 218, vI x1, vI x2, vI x3, vS 9, vS 9] [] SH v18 Q
      refine T_iload_n dX11_road_21 rfl ?_
      refine T_istore dX11_road_22 (by decide) rfl ?_
      refine T_iconst dX11_road_24 (by decide) ?_
      refine T_istore dX11_road_25 (by decide) rfl ?_
      refine n_cut (h (fun (i4 : Int) (i5 : Int) => n_T G d 0 0 mX11_road 53 [vS 9, vS 9, vS 9, vI x3, vI i4, vI i5] [] SH v18 Q)) ?_ ?_
      · intro i4 i5 h
        refine T_iload_n dX11_road_53 rfl ?_
        refine T_iconst dX11_road_54 (by decide) ?_
        refine U_icmp_ne (tgt := 65) dX11_road_55 (by decide) (fun hc => ?_) (fun hc => ?_)
        · replace h := h.1 hc
          refine T_iload dX11_road_65 rfl ?_
          refine T_iload_n dX11_road_67 rfl ?_
          refine U_icmp_ne (tgt := 76) dX11_road_68 (by decide) (fun hc => ?_) (fun hc => ?_)
          · replace h := h.1 hc
            refine T_iconst dX11_road_76 (by decide) ?_
            exact T_iret dX11_road_77 rfl (hQ _ _ h)
          · replace h := h.2 hc
            refine T_iload dX11_road_71 rfl ?_
            refine T_goto (tgt := 77) dX11_road_73 (by decide) ?_
            exact T_iret dX11_road_77 rfl (hQ _ _ h)
        · replace h := h.2 hc
          refine T_iload dX11_road_58 rfl ?_
          refine T_iconst dX11_road_60 (by decide) ?_
          refine U_iadd dX11_road_61 h.1 ?_
          replace h := h.2
          refine T_goto (tgt := 77) dX11_road_62 (by decide) ?_
          exact T_iret dX11_road_77 rfl (hQ _ _ h)
      · intro h
        refine T_drop (h (fun (i4_1 : Int) (i5_1 : Int) => n_T G d 0 0 mX11_road 27 [vR 218, vS 9, vI x2, vI x3, vI i4_1, vI i5_1] [] SH v18 Q) (fun i4_1 i5_1 h => ?_)) ⟨Or.inl rfl, Or.inr rfl, Or.inl rfl, Or.inl rfl, Or.inl rfl, Or.inl rfl, trivial⟩
        refine T_iload dX11_road_27 rfl ?_
        refine T_iload_n dX11_road_29 rfl ?_
        refine U_icmp_eq (tgt := 53) dX11_road_30 (by decide) (fun hc => ?_) (fun hc => ?_)
        · replace h := h.1 hc
          exact T_drop h ⟨Or.inr rfl, Or.inr rfl, Or.inr rfl, Or.inl rfl, Or.inl rfl, Or.inl rfl, trivial⟩
        · replace h := h.2 hc
          refine T_iload dX11_road_33 rfl ?_
          refine T_iload_n dX11_road_35 rfl ?_
          refine U_icmp_eq (tgt := 53) dX11_road_36 (by decide) (fun hc => ?_) (fun hc => ?_)
          · replace h := h.1 hc
            exact T_drop h ⟨Or.inr rfl, Or.inr rfl, Or.inr rfl, Or.inl rfl, Or.inl rfl, Or.inl rfl, trivial⟩
          · replace h := h.2 hc
            refine T_aload_n dX11_road_39 rfl ?_
            refine T_iload dX11_road_40 rfl ?_
            refine U_callV (as := [vI i4_1]) (st := []) dX11_road_42 kX11_nextOf lX11_293 SH_218 rfl rfl rfl rfl (Nat.le_of_ble_eq_true rfl) (Nat.le_of_ble_eq_true rfl) (by omega) ?_
            refine W_X11_nextOf (by omega)  h (fun r42 h => ?_)
            show n_T G d 0 0 mX11_road 45 [vR 218, vS 9, vI x2, vI x3, vI i4_1, vI i5_1] [vI r42] SH v18 Q
            refine T_istore dX11_road_45 (by decide) rfl ?_
            refine U_iinc dX11_road_47 rfl (by decide) rfl h.1 ?_
            replace h := h.2
            refine T_goto (tgt := 27) dX11_road_50 (by decide) ?_
            exact T_drop h ⟨Or.inl rfl, Or.inr rfl, Or.inl rfl, Or.inl rfl, Or.inl rfl, Or.inl rfl, trivial⟩
    · replace h := h.2 hc
      refine T_iconst dX11_road_14 (by decide) ?_
      exact T_iret dX11_road_15 rfl (hQ _ _ h)

theorem W_X11_spread {G : GT} {d : Nat} (hd : 5 ≤ d)    {v : VT} {q : Int → VT → Prop} {Q : Option Vl → List Sh → VT → Prop} (h : P_X11_spread  v q) (hQ : ∀ r w, q r w → Q (some (vI r)) SH w) : n_T G d 0 0 mX11_spread 0 [vR 218, vS 9, vS 9, vS 9] [] SH v Q := by
  unfold P_X11_spread at h
  refine T_aload_n dX11_spread_0 rfl ?_
  refine U_callV (as := []) (st := []) dX11_spread_1 kX11_lays lX11_244 SH_218 rfl rfl rfl rfl (Nat.le_of_ble_eq_true rfl) (Nat.le_of_ble_eq_true rfl) (by omega) ?_
  refine W_X11_lays (by omega)  h (fun v1 h => ?_)
  show n_T G d 0 0 mX11_spread 4 [vR 218, vS 9, vS 9, vS 9] [] SH v1 Q
  refine T_iconst dX11_spread_4 (by decide) ?_
  refine T_istore_n dX11_spread_5 (by decide) rfl ?_
  refine T_iconst dX11_spread_6 (by decide) ?_
  refine T_istore_n dX11_spread_7 (by decide) rfl ?_
  refine T_drop (h (fun (i1 : Int) (i2 : Int) => n_T G d 0 0 mX11_spread 8 [vR 218, vI i1, vI i2, vS 9] [] SH v1 Q) (fun i1 i2 h => ?_)) ⟨Or.inl rfl, Or.inl rfl, Or.inl rfl, Or.inr rfl, trivial⟩
  refine T_iload_n dX11_spread_8 rfl ?_
  refine T_aload_n dX11_spread_9 rfl ?_
  refine T_getR (r := 222) dX11_spread_10 fX11_23 rfl SH_218 rfl ?_
  refine T_iconst dX11_spread_13 (by decide) ?_
  refine T_iald dX11_spread_14 SH_222 (by decide) ?_
  refine U_icmp_ge (tgt := 64) dX11_spread_15 (by decide) (fun hc => ?_) (fun hc => ?_)
  · replace h := h.1 hc
    refine T_iload_n dX11_spread_64 rfl ?_
    exact T_iret dX11_spread_65 rfl (hQ _ _ h)
  · replace h := h.2 hc
    refine T_iload_n dX11_spread_18 rfl ?_
    refine T_iconst dX11_spread_19 (by decide) ?_
    refine U_iadd dX11_spread_20 h.1 ?_
    replace h := h.2
    refine T_istore_n dX11_spread_21 (by decide) rfl ?_
    refine T_drop (h (fun (i1_1 : Int) (i3 : Int) => n_T G d 0 0 mX11_spread 22 [vR 218, vI i1_1, vI i2, vI i3] [] SH v1 Q) (fun i1_1 i3 h => ?_)) ⟨Or.inl rfl, Or.inl rfl, Or.inl rfl, Or.inl rfl, trivial⟩
    refine T_iload_n dX11_spread_22 rfl ?_
    refine T_aload_n dX11_spread_23 rfl ?_
    refine T_getR (r := 222) dX11_spread_24 fX11_23 rfl SH_218 rfl ?_
    refine T_iconst dX11_spread_27 (by decide) ?_
    refine T_iald dX11_spread_28 SH_222 (by decide) ?_
    refine U_icmp_ge (tgt := 58) dX11_spread_29 (by decide) (fun hc => ?_) (fun hc => ?_)
    · replace h := h.1 hc
      refine U_iinc dX11_spread_58 rfl (by decide) rfl h.1 ?_
      replace h := h.2
      refine T_goto (tgt := 8) dX11_spread_61 (by decide) ?_
      exact T_drop h ⟨Or.inl rfl, Or.inl rfl, Or.inl rfl, Or.inr rfl, trivial⟩
    · replace h := h.2 hc
      refine T_aload_n dX11_spread_32 rfl ?_
      refine T_iload_n dX11_spread_33 rfl ?_
      refine T_iload_n dX11_spread_34 rfl ?_
      refine U_callV (as := [vI i2, vI i3]) (st := []) dX11_spread_35 kX11_farOf lX11_214 SH_218 rfl rfl rfl rfl (Nat.le_of_ble_eq_true rfl) (Nat.le_of_ble_eq_true rfl) (by omega) ?_
      refine W_X11_farOf (by omega)  h (fun r35 h => ?_)
      show n_T G d 0 0 mX11_spread 38 [vR 218, vI i1_1, vI i2, vI i3] [vI r35] SH v1 Q
      refine T_bipush dX11_spread_38 (by decide) ?_
      refine U_icmp_ge (tgt := 52) dX11_spread_40 (by decide) (fun hc => ?_) (fun hc => ?_)
      · replace h := h.1 hc
        refine U_iinc dX11_spread_52 rfl (by decide) rfl h.1 ?_
        replace h := h.2
        refine T_goto (tgt := 22) dX11_spread_55 (by decide) ?_
        exact T_drop h ⟨Or.inl rfl, Or.inl rfl, Or.inl rfl, Or.inl rfl, trivial⟩
      · replace h := h.2 hc
        refine T_iload_n dX11_spread_43 rfl ?_
        refine T_aload_n dX11_spread_44 rfl ?_
        refine T_iload_n dX11_spread_45 rfl ?_
        refine T_iload_n dX11_spread_46 rfl ?_
        refine U_callV (as := [vI i2, vI i3]) (st := [vI i1_1]) dX11_spread_47 kX11_farOf lX11_214 SH_218 rfl rfl rfl rfl (Nat.le_of_ble_eq_true rfl) (Nat.le_of_ble_eq_true rfl) (by omega) ?_
        refine W_X11_farOf (by omega)  h (fun r47 h => ?_)
        show n_T G d 0 0 mX11_spread 50 [vR 218, vI i1_1, vI i2, vI i3] [vI r47, vI i1_1] SH v1 Q
        refine U_iadd dX11_spread_50 h.1 ?_
        replace h := h.2
        refine T_istore_n dX11_spread_51 (by decide) rfl ?_
        refine U_iinc dX11_spread_52 rfl (by decide) rfl h.1 ?_
        replace h := h.2
        refine T_goto (tgt := 22) dX11_spread_55 (by decide) ?_
        exact T_drop h ⟨Or.inl rfl, Or.inl rfl, Or.inl rfl, Or.inl rfl, trivial⟩

theorem W_X11_alike {G : GT} {d : Nat} (hd : 5 ≤ d) {x1 : Int} {x2 : Int}   {v : VT} {q : Int → VT → Prop} {Q : Option Vl → List Sh → VT → Prop} (h : P_X11_alike x1 x2 v q) (hQ : ∀ r w, q r w → Q (some (vI r)) SH w) : n_T G d 0 0 mX11_alike 0 [vR 218, vI x1, vI x2] [] SH v Q := by
  unfold P_X11_alike at h
  refine T_aload_n dX11_alike_0 rfl ?_
  refine T_iload_n dX11_alike_1 rfl ?_
  refine U_callV (as := [vI x1]) (st := []) dX11_alike_2 kX11_isLine lX11_262 SH_218 rfl rfl rfl rfl (Nat.le_of_ble_eq_true rfl) (Nat.le_of_ble_eq_true rfl) (by omega) ?_
  refine W_X11_isLine (by omega)  h (fun r2 h => ?_)
  show n_T G d 0 0 mX11_alike 5 [vR 218, vI x1, vI x2] [vI r2] SH v Q
  refine U_if_eq (tgt := 16) dX11_alike_5 (by decide) (fun hc => ?_) (fun hc => ?_)
  · replace h := h.1 hc
    refine T_iconst dX11_alike_16 (by decide) ?_
    exact T_iret dX11_alike_17 rfl (hQ _ _ h)
  · replace h := h.2 hc
    refine T_aload_n dX11_alike_8 rfl ?_
    refine T_iload_n dX11_alike_9 rfl ?_
    refine U_callV (as := [vI x2]) (st := []) dX11_alike_10 kX11_isLine lX11_262 SH_218 rfl rfl rfl rfl (Nat.le_of_ble_eq_true rfl) (Nat.le_of_ble_eq_true rfl) (by omega) ?_
    refine W_X11_isLine (by omega)  h (fun r10 h => ?_)
    show n_T G d 0 0 mX11_alike 13 [vR 218, vI x1, vI x2] [vI r10] SH v Q
    refine U_if_ne (tgt := 18) dX11_alike_13 (by decide) (fun hc => ?_) (fun hc => ?_)
    · replace h := h.1 hc
      refine T_aload_n dX11_alike_18 rfl ?_
      refine U_callV (as := []) (st := []) dX11_alike_19 kX11_lays lX11_244 SH_218 rfl rfl rfl rfl (Nat.le_of_ble_eq_true rfl) (Nat.le_of_ble_eq_true rfl) (by omega) ?_
      refine W_X11_lays (by omega)  h (fun v19 h => ?_)
      show n_T G d 0 0 mX11_alike 22 [vR 218, vI x1, vI x2] [] SH v19 Q
      refine T_aload_n dX11_alike_22 rfl ?_
      refine T_iload_n dX11_alike_23 rfl ?_
      refine T_iload_n dX11_alike_24 rfl ?_
      refine U_callV (as := [vI x1, vI x2]) (st := []) dX11_alike_25 kX11_areAlike lX11_218 SH_218 rfl rfl rfl rfl (Nat.le_of_ble_eq_true rfl) (Nat.le_of_ble_eq_true rfl) (by omega) ?_
      refine W_X11_areAlike (by omega)  h (fun r25 h => ?_)
      show n_T G d 0 0 mX11_alike 28 [vR 218, vI x1, vI x2] [vI r25] SH v19 Q
      refine U_callS (as := [vI r25]) (st := []) dX11_alike_28 kX11_flag lX11_250 rfl rfl (Nat.le_of_ble_eq_true rfl) (Nat.le_of_ble_eq_true rfl) (by omega) ?_
      refine W_X11_flag (by omega)  h (fun r28 h => ?_)
      show n_T G d 0 0 mX11_alike 31 [vR 218, vI x1, vI x2] [vI r28] SH v19 Q
      exact T_iret dX11_alike_31 rfl (hQ _ _ h)
    · replace h := h.2 hc
      refine T_iconst dX11_alike_16 (by decide) ?_
      exact T_iret dX11_alike_17 rfl (hQ _ _ h)

theorem W_X11_sideOne {G : GT} {d : Nat} (hd : 2 ≤ d) {x1 : Int}   {v : VT} {q : Int → Prop} {Q : Option Vl → List Sh → VT → Prop} (h : P_X11_sideOne x1 v q) (hQ : ∀ r, q r → Q (some (vI r)) SH v) : n_T G d 0 0 mX11_sideOne 0 [vR 218, vI x1, vS 9, vS 9] [] SH v Q := by
  unfold P_X11_sideOne at h
  refine T_iconst dX11_sideOne_0 (by decide) ?_
  refine T_istore_n dX11_sideOne_1 (by decide) rfl ?_
  refine T_iconst dX11_sideOne_2 (by decide) ?_
  refine T_istore_n dX11_sideOne_3 (by decide) rfl ?_
  refine T_drop (h (fun (i2 : Int) (i3 : Int) => n_T G d 0 0 mX11_sideOne 4 [vR 218, vI x1, vI i2, vI i3] [] SH v Q) (fun i2 i3 h => ?_)) ⟨Or.inl rfl, Or.inl rfl, Or.inl rfl, Or.inl rfl, trivial⟩
  refine T_iload_n dX11_sideOne_4 rfl ?_
  refine T_aload_n dX11_sideOne_5 rfl ?_
  refine T_getR (r := 222) dX11_sideOne_6 fX11_23 rfl SH_218 rfl ?_
  refine T_iconst dX11_sideOne_9 (by decide) ?_
  refine T_iald dX11_sideOne_10 SH_222 (by decide) ?_
  refine U_icmp_ge (tgt := 39) dX11_sideOne_11 (by decide) (fun hc => ?_) (fun hc => ?_)
  · replace h := h.1 hc
    refine T_iload_n dX11_sideOne_39 rfl ?_
    exact T_iret dX11_sideOne_40 rfl (hQ _ h)
  · replace h := h.2 hc
    refine T_aload_n dX11_sideOne_14 rfl ?_
    refine T_getR (r := 228) dX11_sideOne_15 fX11_41 rfl SH_218 rfl ?_
    refine T_iload_n dX11_sideOne_18 rfl ?_
    refine T_iald dX11_sideOne_19 SH_228 h.1 ?_
    replace h := h.2
    refine T_iload_n dX11_sideOne_20 rfl ?_
    refine U_callS (as := [vI (v 228 i3.toNat), vI x1]) (st := []) dX11_sideOne_21 kX11_isOf lX11_281 rfl rfl (Nat.le_of_ble_eq_true rfl) (Nat.le_of_ble_eq_true rfl) (by omega) ?_
    refine W_X11_isOf (by omega)  h (fun r21 h => ?_)
    show n_T G d 0 0 mX11_sideOne 24 [vR 218, vI x1, vI i2, vI i3] [vI r21] SH v Q
    refine U_if_eq (tgt := 33) dX11_sideOne_24 (by decide) (fun hc => ?_) (fun hc => ?_)
    · replace h := h.1 hc
      refine U_iinc dX11_sideOne_33 rfl (by decide) rfl h.1 ?_
      replace h := h.2
      refine T_goto (tgt := 4) dX11_sideOne_36 (by decide) ?_
      exact T_drop h ⟨Or.inl rfl, Or.inl rfl, Or.inl rfl, Or.inl rfl, trivial⟩
    · replace h := h.2 hc
      refine T_iload_n dX11_sideOne_27 rfl ?_
      refine T_iconst dX11_sideOne_28 (by decide) ?_
      refine T_iload_n dX11_sideOne_29 rfl ?_
      refine T_ishl dX11_sideOne_30 ?_
      refine T_ior dX11_sideOne_31 ?_
      refine U_istore_n dX11_sideOne_32 (by decide) rfl (fun l2 el2 => ?_)
      replace h := h l2 el2
      refine U_iinc dX11_sideOne_33 rfl (by decide) rfl h.1 ?_
      replace h := h.2
      refine T_goto (tgt := 4) dX11_sideOne_36 (by decide) ?_
      exact T_drop h ⟨Or.inl rfl, Or.inl rfl, Or.inl rfl, Or.inl rfl, trivial⟩

theorem W_X11_costOf {G : GT} {d : Nat} (hd : 3 ≤ d) {x1 : Int}   {v : VT} {q : Int → Prop} {Q : Option Vl → List Sh → VT → Prop} (h : P_X11_costOf x1 v q) (hQ : ∀ r, q r → Q (some (vI r)) SH v) : n_T G d 0 0 mX11_costOf 0 [vR 218, vI x1, vS 9] [] SH v Q := by
  unfold P_X11_costOf at h
  refine T_aload_n dX11_costOf_0 rfl ?_
  refine T_iload_n dX11_costOf_1 rfl ?_
  refine U_callV (as := [vI x1]) (st := []) dX11_costOf_2 kX11_sideOne lX11_296 SH_218 rfl rfl rfl rfl (Nat.le_of_ble_eq_true rfl) (Nat.le_of_ble_eq_true rfl) (by omega) ?_
  refine W_X11_sideOne (by omega)  h (fun r2 h => ?_)
  show n_T G d 0 0 mX11_costOf 5 [vR 218, vI x1, vS 9] [vI r2] SH v Q
  refine U_callS (as := [vI r2]) (st := []) dX11_costOf_5 kX11_count lX11_299 rfl rfl (Nat.le_of_ble_eq_true rfl) (Nat.le_of_ble_eq_true rfl) (by omega) ?_
  refine W_X11_count (by omega)  h (fun r5 h => ?_)
  show n_T G d 0 0 mX11_costOf 8 [vR 218, vI x1, vS 9] [vI r5] SH v Q
  refine T_istore_n dX11_costOf_8 (by decide) rfl ?_
  refine T_iload_n dX11_costOf_9 rfl ?_
  refine T_aload_n dX11_costOf_10 rfl ?_
  refine T_getR (r := 222) dX11_costOf_11 fX11_23 rfl SH_218 rfl ?_
  refine T_iconst dX11_costOf_14 (by decide) ?_
  refine T_iald dX11_costOf_15 SH_222 (by decide) ?_
  refine T_iload_n dX11_costOf_16 rfl ?_
  refine U_isub dX11_costOf_17 h.1 ?_
  replace h := h.2
  refine U_imul dX11_costOf_18 h.1 ?_
  replace h := h.2
  exact T_iret dX11_costOf_19 rfl (hQ _ h)

theorem W_X11_sort {G : GT} {d : Nat} (hd : 5 ≤ d) {x1 : Int} {x2 : Int}   {v : VT} {q : Int → VT → Prop} {Q : Option Vl → List Sh → VT → Prop} (h : P_X11_sort x1 x2 v q) (hQ : ∀ r w, q r w → Q (some (vI r)) SH w) : n_T G d 0 0 mX11_sort 0 [vR 218, vI x1, vI x2, vS 9, vS 9] [] SH v Q := by
  unfold P_X11_sort at h
  refine T_aload_n dX11_sort_0 rfl ?_
  refine U_callV (as := []) (st := []) dX11_sort_1 kX11_lays lX11_244 SH_218 rfl rfl rfl rfl (Nat.le_of_ble_eq_true rfl) (Nat.le_of_ble_eq_true rfl) (by omega) ?_
  refine W_X11_lays (by omega)  h (fun v1 h => ?_)
  show n_T G d 0 0 mX11_sort 4 [vR 218, vI x1, vI x2, vS 9, vS 9] [] SH v1 Q
  refine T_iload_n dX11_sort_4 rfl ?_
  refine T_i2l dX11_sort_5 ?_
  refine T_lconst dX11_sort_6 ?_
  refine T_aload_n dX11_sort_7 rfl ?_
  refine T_getI dX11_sort_8 fX11_222 rfl SH_218 ?_
  refine T_iconst dX11_sort_11 (by decide) ?_
  refine U_isub dX11_sort_12 h.1 ?_
  replace h := h.2
  refine T_i2l dX11_sort_13 ?_
  refine U_callS (as := [vJ x1, vJ 0, vJ ((v1 218 18) - 1)]) (st := []) dX11_sort_14 kX11_isIn lX11_109 rfl rfl (Nat.le_of_ble_eq_true rfl) (Nat.le_of_ble_eq_true rfl) (by omega) ?_
  refine W_X11_isIn (by omega)  h (fun r14 h => ?_)
  show n_T G d 0 0 mX11_sort 17 [vR 218, vI x1, vI x2, vS 9, vS 9] [vI r14] SH v1 Q
  refine U_if_ne (tgt := 22) dX11_sort_17 (by decide) (fun hc => ?_) (fun hc => ?_)
  · replace h := h.1 hc
    refine T_iconst dX11_sort_22 (by decide) ?_
    refine T_istore_n dX11_sort_23 (by decide) rfl ?_
    refine T_iconst dX11_sort_24 (by decide) ?_
    refine T_istore dX11_sort_25 (by decide) rfl ?_
    refine n_cut (h (fun (i3 : Int) => n_T G d 0 0 mX11_sort 66 [vR 218, vI x1, vI x2, vI i3, vS 9] [] SH v1 Q)) ?_ ?_
    · intro i3 h
      refine T_iload_n dX11_sort_66 rfl ?_
      rcases (by omega : x2 = 0 ∨ x2 = 1 ∨ x2 = 2 ∨ x2 = 3 ∨ (x2 < 0 ∨ 3 < x2)) with hc | hc | hc | hc | hc
      · refine U_tab (tgt := 96) dX11_sort_67 0 hc (by decide) rfl (by decide) ?_
        replace h := h.1 hc
        refine T_iload_n dX11_sort_96 rfl ?_
        exact T_iret dX11_sort_97 rfl (hQ _ _ h)
      · refine U_tab (tgt := 98) dX11_sort_67 1 hc (by decide) rfl (by decide) ?_
        replace h := h.2.1 hc
        refine T_aload_n dX11_sort_98 rfl ?_
        refine T_getR (r := 227) dX11_sort_99 fX11_38 rfl SH_218 rfl ?_
        refine T_iload_n dX11_sort_102 rfl ?_
        refine T_iald dX11_sort_103 SH_227 h.1 ?_
        replace h := h.2
        exact T_iret dX11_sort_104 rfl (hQ _ _ h)
      · refine U_tab (tgt := 105) dX11_sort_67 2 hc (by decide) rfl (by decide) ?_
        replace h := h.2.2.1 hc
        refine T_aload_n dX11_sort_105 rfl ?_
        refine T_getI dX11_sort_106 fX11_225 rfl SH_218 ?_
        refine U_if_ne (tgt := 120) dX11_sort_109 (by decide) (fun hc => ?_) (fun hc => ?_)
        · replace h := h.1 hc
          refine T_iconst dX11_sort_120 (by decide) ?_
          exact T_iret dX11_sort_121 rfl (hQ _ _ h)
        · replace h := h.2 hc
          refine T_aload_n dX11_sort_112 rfl ?_
          refine T_iload_n dX11_sort_113 rfl ?_
          refine U_callV (as := [vI x1]) (st := []) dX11_sort_114 kX11_costOf lX11_302 SH_218 rfl rfl rfl rfl (Nat.le_of_ble_eq_true rfl) (Nat.le_of_ble_eq_true rfl) (by omega) ?_
          refine W_X11_costOf (by omega)  h (fun r114 h => ?_)
          show n_T G d 0 0 mX11_sort 117 [vR 218, vI x1, vI x2, vI i3, vS 9] [vI r114] SH v1 Q
          refine T_goto (tgt := 121) dX11_sort_117 (by decide) ?_
          exact T_iret dX11_sort_121 rfl (hQ _ _ h)
      · refine U_tab (tgt := 122) dX11_sort_67 3 hc (by decide) rfl (by decide) ?_
        replace h := h.2.2.2.1 hc
        refine T_aload_n dX11_sort_122 rfl ?_
        refine T_getI dX11_sort_123 fX11_225 rfl SH_218 ?_
        refine U_if_ne (tgt := 137) dX11_sort_126 (by decide) (fun hc => ?_) (fun hc => ?_)
        · replace h := h.1 hc
          refine T_iconst dX11_sort_137 (by decide) ?_
          exact T_iret dX11_sort_138 rfl (hQ _ _ h)
        · replace h := h.2 hc
          refine T_aload_n dX11_sort_129 rfl ?_
          refine T_iload_n dX11_sort_130 rfl ?_
          refine U_callV (as := [vI x1]) (st := []) dX11_sort_131 kX11_sideOne lX11_296 SH_218 rfl rfl rfl rfl (Nat.le_of_ble_eq_true rfl) (Nat.le_of_ble_eq_true rfl) (by omega) ?_
          refine W_X11_sideOne (by omega)  h (fun r131 h => ?_)
          show n_T G d 0 0 mX11_sort 134 [vR 218, vI x1, vI x2, vI i3, vS 9] [vI r131] SH v1 Q
          refine T_goto (tgt := 138) dX11_sort_134 (by decide) ?_
          exact T_iret dX11_sort_138 rfl (hQ _ _ h)
      · refine T_tabOut (tgt := 139) dX11_sort_67 hc (by decide) ?_
        replace h := h.2.2.2.2 hc
        refine T_iconst dX11_sort_139 (by decide) ?_
        exact T_iret dX11_sort_140 rfl (hQ _ _ h)
    · intro h
      refine T_drop (h (fun (i3_1 : Int) (i4 : Int) => n_T G d 0 0 mX11_sort 27 [vR 218, vI x1, vI x2, vI i3_1, vI i4] [] SH v1 Q) (fun i3_1 i4 h => ?_)) ⟨Or.inl rfl, Or.inl rfl, Or.inl rfl, Or.inl rfl, Or.inl rfl, trivial⟩
      refine T_iload dX11_sort_27 rfl ?_
      refine T_aload_n dX11_sort_29 rfl ?_
      refine T_getR (r := 222) dX11_sort_30 fX11_23 rfl SH_218 rfl ?_
      refine T_iconst dX11_sort_33 (by decide) ?_
      refine T_iald dX11_sort_34 SH_222 (by decide) ?_
      refine U_icmp_ge (tgt := 66) dX11_sort_35 (by decide) (fun hc => ?_) (fun hc => ?_)
      · replace h := h.1 hc
        exact T_drop h ⟨Or.inl rfl, Or.inl rfl, Or.inl rfl, Or.inl rfl, Or.inr rfl, trivial⟩
      · replace h := h.2 hc
        refine T_iload_n dX11_sort_38 rfl ?_
        refine T_aload_n dX11_sort_39 rfl ?_
        refine T_getR (r := 225) dX11_sort_40 fX11_32 rfl SH_218 rfl ?_
        refine T_iload dX11_sort_43 rfl ?_
        refine T_iald dX11_sort_45 SH_225 h.1 ?_
        replace h := h.2
        refine T_iload_n dX11_sort_46 rfl ?_
        refine U_icmp_ne (tgt := 54) dX11_sort_47 (by decide) (fun hc => ?_) (fun hc => ?_)
        · replace h := h.1 hc
          refine T_iconst dX11_sort_54 (by decide) ?_
          refine U_callS (as := [vI 0]) (st := [vI i3_1]) dX11_sort_55 kX11_flag lX11_250 rfl rfl (Nat.le_of_ble_eq_true rfl) (Nat.le_of_ble_eq_true rfl) (by omega) ?_
          refine W_X11_flag (by omega)  h (fun r55 h => ?_)
          show n_T G d 0 0 mX11_sort 58 [vR 218, vI x1, vI x2, vI i3_1, vI i4] [vI r55, vI i3_1] SH v1 Q
          refine U_iadd dX11_sort_58 h.1 ?_
          replace h := h.2
          refine T_istore_n dX11_sort_59 (by decide) rfl ?_
          refine U_iinc dX11_sort_60 rfl (by decide) rfl h.1 ?_
          replace h := h.2
          refine T_goto (tgt := 27) dX11_sort_63 (by decide) ?_
          exact T_drop h ⟨Or.inl rfl, Or.inl rfl, Or.inl rfl, Or.inl rfl, Or.inl rfl, trivial⟩
        · replace h := h.2 hc
          refine T_iconst dX11_sort_50 (by decide) ?_
          refine T_goto (tgt := 55) dX11_sort_51 (by decide) ?_
          refine U_callS (as := [vI 1]) (st := [vI i3_1]) dX11_sort_55 kX11_flag lX11_250 rfl rfl (Nat.le_of_ble_eq_true rfl) (Nat.le_of_ble_eq_true rfl) (by omega) ?_
          refine W_X11_flag (by omega)  h (fun r55_1 h => ?_)
          show n_T G d 0 0 mX11_sort 58 [vR 218, vI x1, vI x2, vI i3_1, vI i4] [vI r55_1, vI i3_1] SH v1 Q
          refine U_iadd dX11_sort_58 h.1 ?_
          replace h := h.2
          refine T_istore_n dX11_sort_59 (by decide) rfl ?_
          refine U_iinc dX11_sort_60 rfl (by decide) rfl h.1 ?_
          replace h := h.2
          refine T_goto (tgt := 27) dX11_sort_63 (by decide) ?_
          exact T_drop h ⟨Or.inl rfl, Or.inl rfl, Or.inl rfl, Or.inl rfl, Or.inl rfl, trivial⟩
  · replace h := h.2 hc
    refine T_iconst dX11_sort_20 (by decide) ?_
    exact T_iret dX11_sort_21 rfl (hQ _ _ h)

theorem W_X11_shows {G : GT} {d : Nat} (hd : 5 ≤ d) {x1 : Int}   {v : VT} {q : Int → VT → Prop} {Q : Option Vl → List Sh → VT → Prop} (h : P_X11_shows x1 v q) (hQ : ∀ r w, q r w → Q (some (vI r)) SH w) : n_T G d 0 0 mX11_shows 0 [vR 218, vI x1] [] SH v Q := by
  unfold P_X11_shows at h
  refine T_aload_n dX11_shows_0 rfl ?_
  refine U_callV (as := []) (st := []) dX11_shows_1 kX11_lays lX11_244 SH_218 rfl rfl rfl rfl (Nat.le_of_ble_eq_true rfl) (Nat.le_of_ble_eq_true rfl) (by omega) ?_
  refine W_X11_lays (by omega)  h (fun v1 h => ?_)
  show n_T G d 0 0 mX11_shows 4 [vR 218, vI x1] [] SH v1 Q
  refine T_aload_n dX11_shows_4 rfl ?_
  refine T_getI dX11_shows_5 fX11_225 rfl SH_218 ?_
  refine U_if_eq (tgt := 30) dX11_shows_8 (by decide) (fun hc => ?_) (fun hc => ?_)
  · replace h := h.1 hc
    refine T_iconst dX11_shows_30 (by decide) ?_
    exact T_iret dX11_shows_31 rfl (hQ _ _ h)
  · replace h := h.2 hc
    refine T_iload_n dX11_shows_11 rfl ?_
    refine T_i2l dX11_shows_12 ?_
    refine T_lconst dX11_shows_13 ?_
    refine T_lconst dX11_shows_14 ?_
    refine U_callS (as := [vJ x1, vJ 0, vJ 1]) (st := []) dX11_shows_15 kX11_isIn lX11_109 rfl rfl (Nat.le_of_ble_eq_true rfl) (Nat.le_of_ble_eq_true rfl) (by omega) ?_
    refine W_X11_isIn (by omega)  h (fun r15 h => ?_)
    show n_T G d 0 0 mX11_shows 18 [vR 218, vI x1] [vI r15] SH v1 Q
    refine U_if_eq (tgt := 30) dX11_shows_18 (by decide) (fun hc => ?_) (fun hc => ?_)
    · replace h := h.1 hc
      refine T_iconst dX11_shows_30 (by decide) ?_
      exact T_iret dX11_shows_31 rfl (hQ _ _ h)
    · replace h := h.2 hc
      refine T_aload_n dX11_shows_21 rfl ?_
      refine T_getR (r := 226) dX11_shows_22 fX11_35 rfl SH_218 rfl ?_
      refine T_iload_n dX11_shows_25 rfl ?_
      refine T_iald dX11_shows_26 SH_226 h.1 ?_
      replace h := h.2
      refine T_goto (tgt := 31) dX11_shows_27 (by decide) ?_
      exact T_iret dX11_shows_31 rfl (hQ _ _ h)

theorem W_X11_sides {G : GT} {d : Nat} (hd : 6 ≤ d) {x1 : Int}   {v : VT} {q : Int → VT → Prop} {Q : Option Vl → List Sh → VT → Prop} (h : P_X11_sides x1 v q) (hQ : ∀ r w, q r w → Q (some (vI r)) SH w) : n_T G d 0 0 mX11_sides 0 [vR 218, vI x1] [] SH v Q := by
  unfold P_X11_sides at h
  refine T_aload_n dX11_sides_0 rfl ?_
  refine U_callV (as := []) (st := []) dX11_sides_1 kX11_sits lX11_305 SH_218 rfl rfl rfl rfl (Nat.le_of_ble_eq_true rfl) (Nat.le_of_ble_eq_true rfl) (by omega) ?_
  refine W_X11_sits (by omega)  h (fun r1 v1 h => ?_)
  show n_T G d 0 0 mX11_sides 4 [vR 218, vI x1] [vI r1] SH v1 Q
  refine U_if_eq (tgt := 24) dX11_sides_4 (by decide) (fun hc => ?_) (fun hc => ?_)
  · replace h := h.1 hc
    refine T_iconst dX11_sides_24 (by decide) ?_
    exact T_iret dX11_sides_25 rfl (hQ _ _ h)
  · replace h := h.2 hc
    refine T_aload_n dX11_sides_7 rfl ?_
    refine T_iload_n dX11_sides_8 rfl ?_
    refine U_callV (as := [vI x1]) (st := []) dX11_sides_9 kX11_isNode lX11_257 SH_218 rfl rfl rfl rfl (Nat.le_of_ble_eq_true rfl) (Nat.le_of_ble_eq_true rfl) (by omega) ?_
    refine W_X11_isNode (by omega)  h (fun r9 h => ?_)
    show n_T G d 0 0 mX11_sides 12 [vR 218, vI x1] [vI r9] SH v1 Q
    refine U_if_eq (tgt := 24) dX11_sides_12 (by decide) (fun hc => ?_) (fun hc => ?_)
    · replace h := h.1 hc
      refine T_iconst dX11_sides_24 (by decide) ?_
      exact T_iret dX11_sides_25 rfl (hQ _ _ h)
    · replace h := h.2 hc
      refine T_aload_n dX11_sides_15 rfl ?_
      refine T_getR (r := 228) dX11_sides_16 fX11_41 rfl SH_218 rfl ?_
      refine T_iload_n dX11_sides_19 rfl ?_
      refine T_iald dX11_sides_20 SH_228 h.1 ?_
      replace h := h.2
      refine T_goto (tgt := 25) dX11_sides_21 (by decide) ?_
      exact T_iret dX11_sides_25 rfl (hQ _ _ h)

theorem W_X11_nodeAt {G : GT} {d : Nat} (hd : 1 ≤ d) {x1 : Int}   {v : VT} {q : Int → Prop} {Q : Option Vl → List Sh → VT → Prop} (h : P_X11_nodeAt x1 v q) (hQ : ∀ r, q r → Q (some (vI r)) SH v) : n_T G d 0 0 mX11_nodeAt 0 [vR 218, vI x1, vS 9] [] SH v Q := by
  unfold P_X11_nodeAt at h
  refine T_iconst dX11_nodeAt_0 (by decide) ?_
  refine T_istore_n dX11_nodeAt_1 (by decide) rfl ?_
  refine T_drop (h (fun (i2 : Int) => n_T G d 0 0 mX11_nodeAt 2 [vR 218, vI x1, vI i2] [] SH v Q) (fun i2 h => ?_)) ⟨Or.inl rfl, Or.inl rfl, Or.inl rfl, trivial⟩
  refine T_iload_n dX11_nodeAt_2 rfl ?_
  refine T_aload_n dX11_nodeAt_3 rfl ?_
  refine T_getR (r := 222) dX11_nodeAt_4 fX11_23 rfl SH_218 rfl ?_
  refine T_iconst dX11_nodeAt_7 (by decide) ?_
  refine T_iald dX11_nodeAt_8 SH_222 (by decide) ?_
  refine U_icmp_ge (tgt := 30) dX11_nodeAt_9 (by decide) (fun hc => ?_) (fun hc => ?_)
  · replace h := h.1 hc
    refine T_iconst dX11_nodeAt_30 (by decide) ?_
    exact T_iret dX11_nodeAt_31 rfl (hQ _ h)
  · replace h := h.2 hc
    refine T_aload_n dX11_nodeAt_12 rfl ?_
    refine T_getR (r := 228) dX11_nodeAt_13 fX11_41 rfl SH_218 rfl ?_
    refine T_iload_n dX11_nodeAt_16 rfl ?_
    refine T_iald dX11_nodeAt_17 SH_228 h.1 ?_
    replace h := h.2
    refine T_iload_n dX11_nodeAt_18 rfl ?_
    refine U_icmp_ne (tgt := 24) dX11_nodeAt_19 (by decide) (fun hc => ?_) (fun hc => ?_)
    · replace h := h.1 hc
      refine U_iinc dX11_nodeAt_24 rfl (by decide) rfl h.1 ?_
      replace h := h.2
      refine T_goto (tgt := 2) dX11_nodeAt_27 (by decide) ?_
      exact T_drop h ⟨Or.inl rfl, Or.inl rfl, Or.inl rfl, trivial⟩
    · replace h := h.2 hc
      refine T_iload_n dX11_nodeAt_22 rfl ?_
      exact T_iret dX11_nodeAt_23 rfl (hQ _ h)

theorem W_X11_at {G : GT} {d : Nat} (hd : 6 ≤ d) {x1 : Int}   {v : VT} {q : Int → VT → Prop} {Q : Option Vl → List Sh → VT → Prop} (h : P_X11_at x1 v q) (hQ : ∀ r w, q r w → Q (some (vI r)) SH w) : n_T G d 0 0 mX11_at 0 [vR 218, vI x1] [] SH v Q := by
  unfold P_X11_at at h
  refine T_aload_n dX11_at_0 rfl ?_
  refine U_callV (as := []) (st := []) dX11_at_1 kX11_sits lX11_305 SH_218 rfl rfl rfl rfl (Nat.le_of_ble_eq_true rfl) (Nat.le_of_ble_eq_true rfl) (by omega) ?_
  refine W_X11_sits (by omega)  h (fun r1 v1 h => ?_)
  show n_T G d 0 0 mX11_at 4 [vR 218, vI x1] [vI r1] SH v1 Q
  refine U_if_eq (tgt := 15) dX11_at_4 (by decide) (fun hc => ?_) (fun hc => ?_)
  · replace h := h.1 hc
    refine T_iconst dX11_at_15 (by decide) ?_
    exact T_iret dX11_at_16 rfl (hQ _ _ h)
  · replace h := h.2 hc
    refine T_aload_n dX11_at_7 rfl ?_
    refine T_iload_n dX11_at_8 rfl ?_
    refine U_callV (as := [vI x1]) (st := []) dX11_at_9 kX11_nodeAt lX11_308 SH_218 rfl rfl rfl rfl (Nat.le_of_ble_eq_true rfl) (Nat.le_of_ble_eq_true rfl) (by omega) ?_
    refine W_X11_nodeAt (by omega)  h (fun r9 h => ?_)
    show n_T G d 0 0 mX11_at 12 [vR 218, vI x1] [vI r9] SH v1 Q
    refine T_goto (tgt := 16) dX11_at_12 (by decide) ?_
    exact T_iret dX11_at_16 rfl (hQ _ _ h)

theorem W_X11_isDirection {G : GT} {d : Nat} (hd : 6 ≤ d) {x1 : Int}   {v : VT} {q : Int → VT → Prop} {Q : Option Vl → List Sh → VT → Prop} (h : P_X11_isDirection x1 v q) (hQ : ∀ r w, q r w → Q (some (vI r)) SH w) : n_T G d 0 0 mX11_isDirection 0 [vR 218, vI x1] [] SH v Q := by
  unfold P_X11_isDirection at h
  refine T_aload_n dX11_isDirection_0 rfl ?_
  refine U_callV (as := []) (st := []) dX11_isDirection_1 kX11_sits lX11_305 SH_218 rfl rfl rfl rfl (Nat.le_of_ble_eq_true rfl) (Nat.le_of_ble_eq_true rfl) (by omega) ?_
  refine W_X11_sits (by omega)  h (fun r1 v1 h => ?_)
  show n_T G d 0 0 mX11_isDirection 4 [vR 218, vI x1] [vI r1] SH v1 Q
  refine U_if_eq (tgt := 27) dX11_isDirection_4 (by decide) (fun hc => ?_) (fun hc => ?_)
  · replace h := h.1 hc
    refine T_iconst dX11_isDirection_27 (by decide) ?_
    exact T_zret dX11_isDirection_28 rfl (by decide) (hQ _ _ h)
  · replace h := h.2 hc
    refine T_iload_n dX11_isDirection_7 rfl ?_
    refine T_i2l dX11_isDirection_8 ?_
    refine T_lconst dX11_isDirection_9 ?_
    refine T_aload_n dX11_isDirection_10 rfl ?_
    refine T_getI dX11_isDirection_11 fX11_222 rfl SH_218 ?_
    refine T_iconst dX11_isDirection_14 (by decide) ?_
    refine U_isub dX11_isDirection_15 h.1 ?_
    replace h := h.2
    refine T_i2l dX11_isDirection_16 ?_
    refine U_callS (as := [vJ x1, vJ 0, vJ ((v1 218 18) - 1)]) (st := []) dX11_isDirection_17 kX11_isIn lX11_109 rfl rfl (Nat.le_of_ble_eq_true rfl) (Nat.le_of_ble_eq_true rfl) (by omega) ?_
    refine W_X11_isIn (by omega)  h (fun r17 h => ?_)
    show n_T G d 0 0 mX11_isDirection 20 [vR 218, vI x1] [vI r17] SH v1 Q
    refine U_if_eq (tgt := 27) dX11_isDirection_20 (by decide) (fun hc => ?_) (fun hc => ?_)
    · replace h := h.1 hc
      refine T_iconst dX11_isDirection_27 (by decide) ?_
      exact T_zret dX11_isDirection_28 rfl (by decide) (hQ _ _ h)
    · replace h := h.2 hc
      refine T_iconst dX11_isDirection_23 (by decide) ?_
      refine T_goto (tgt := 28) dX11_isDirection_24 (by decide) ?_
      exact T_zret dX11_isDirection_28 rfl (by decide) (hQ _ _ h)

theorem W_X11_pairsOf {G : GT} {d : Nat} (hd : 2 ≤ d) {x1 : Int} {x2 : Int}   {v : VT} {q : Int → Prop} {Q : Option Vl → List Sh → VT → Prop} (h : P_X11_pairsOf x1 x2 v q) (hQ : ∀ r, q r → Q (some (vI r)) SH v) : n_T G d 0 0 mX11_pairsOf 0 [vR 218, vI x1, vI x2, vS 9, vS 9] [] SH v Q := by
  unfold P_X11_pairsOf at h
  refine T_iconst dX11_pairsOf_0 (by decide) ?_
  refine T_istore_n dX11_pairsOf_1 (by decide) rfl ?_
  refine T_iconst dX11_pairsOf_2 (by decide) ?_
  refine T_istore dX11_pairsOf_3 (by decide) rfl ?_
  refine T_drop (h (fun (i3 : Int) (i4 : Int) => n_T G d 0 0 mX11_pairsOf 5 [vR 218, vI x1, vI x2, vI i3, vI i4] [] SH v Q) (fun i3 i4 h => ?_)) ⟨Or.inl rfl, Or.inl rfl, Or.inl rfl, Or.inl rfl, Or.inl rfl, trivial⟩
  refine T_iload dX11_pairsOf_5 rfl ?_
  refine T_aload_n dX11_pairsOf_7 rfl ?_
  refine T_getR (r := 222) dX11_pairsOf_8 fX11_23 rfl SH_218 rfl ?_
  refine T_iconst dX11_pairsOf_11 (by decide) ?_
  refine T_iald dX11_pairsOf_12 SH_222 (by decide) ?_
  refine U_icmp_ge (tgt := 52) dX11_pairsOf_13 (by decide) (fun hc => ?_) (fun hc => ?_)
  · replace h := h.1 hc
    refine T_iload_n dX11_pairsOf_52 rfl ?_
    refine U_callS (as := [vI i3]) (st := []) dX11_pairsOf_53 kX11_count lX11_299 rfl rfl (Nat.le_of_ble_eq_true rfl) (Nat.le_of_ble_eq_true rfl) (by omega) ?_
    refine W_X11_count (by omega)  h (fun r53 h => ?_)
    show n_T G d 0 0 mX11_pairsOf 56 [vR 218, vI x1, vI x2, vI i3, vI i4] [vI r53] SH v Q
    exact T_iret dX11_pairsOf_56 rfl (hQ _ h)
  · replace h := h.2 hc
    refine T_iload_n dX11_pairsOf_16 rfl ?_
    refine T_iconst dX11_pairsOf_17 (by decide) ?_
    refine T_iconst dX11_pairsOf_18 (by decide) ?_
    refine T_aload_n dX11_pairsOf_19 rfl ?_
    refine T_getR (r := 228) dX11_pairsOf_20 fX11_41 rfl SH_218 rfl ?_
    refine T_iload dX11_pairsOf_23 rfl ?_
    refine T_iald dX11_pairsOf_25 SH_228 h.1 ?_
    replace h := h.2
    refine T_iload_n dX11_pairsOf_26 rfl ?_
    refine T_ishr dX11_pairsOf_27 ?_
    refine T_iconst dX11_pairsOf_28 (by decide) ?_
    refine T_iand dX11_pairsOf_29 ?_
    refine U_imul dX11_pairsOf_30 h.1 ?_
    replace h := h.2
    refine T_aload_n dX11_pairsOf_31 rfl ?_
    refine T_getR (r := 228) dX11_pairsOf_32 fX11_41 rfl SH_218 rfl ?_
    refine T_iload dX11_pairsOf_35 rfl ?_
    refine T_iald dX11_pairsOf_37 SH_228 h.1 ?_
    replace h := h.2
    refine T_iload_n dX11_pairsOf_38 rfl ?_
    refine T_ishr dX11_pairsOf_39 ?_
    refine T_iconst dX11_pairsOf_40 (by decide) ?_
    refine T_iand dX11_pairsOf_41 ?_
    refine U_iadd dX11_pairsOf_42 h.1 ?_
    replace h := h.2
    refine T_ishl dX11_pairsOf_43 ?_
    refine T_ior dX11_pairsOf_44 ?_
    refine U_istore_n dX11_pairsOf_45 (by decide) rfl (fun l3 el3 => ?_)
    replace h := h l3 el3
    refine U_iinc dX11_pairsOf_46 rfl (by decide) rfl h.1 ?_
    replace h := h.2
    refine T_goto (tgt := 5) dX11_pairsOf_49 (by decide) ?_
    exact T_drop h ⟨Or.inl rfl, Or.inl rfl, Or.inl rfl, Or.inl rfl, Or.inl rfl, trivial⟩

theorem W_X11_cross {G : GT} {d : Nat} (hd : 7 ≤ d) {x1 : Int} {x2 : Int}   {v : VT} {q : Int → VT → Prop} {Q : Option Vl → List Sh → VT → Prop} (h : P_X11_cross x1 x2 v q) (hQ : ∀ r w, q r w → Q (some (vI r)) SH w) : n_T G d 0 0 mX11_cross 0 [vR 218, vI x1, vI x2] [] SH v Q := by
  unfold P_X11_cross at h
  refine T_aload_n dX11_cross_0 rfl ?_
  refine T_iload_n dX11_cross_1 rfl ?_
  refine U_callV (as := [vI x1]) (st := []) dX11_cross_2 kX11_isDirection lX11_311 SH_218 rfl rfl rfl rfl (Nat.le_of_ble_eq_true rfl) (Nat.le_of_ble_eq_true rfl) (by omega) ?_
  refine W_X11_isDirection (by omega)  h (fun r2 v2 h => ?_)
  show n_T G d 0 0 mX11_cross 5 [vR 218, vI x1, vI x2] [vI r2] SH v2 Q
  refine U_if_eq (tgt := 30) dX11_cross_5 (by decide) (fun hc => ?_) (fun hc => ?_)
  · replace h := h.1 hc
    refine T_iconst dX11_cross_30 (by decide) ?_
    exact T_iret dX11_cross_31 rfl (hQ _ _ h)
  · replace h := h.2 hc
    refine T_aload_n dX11_cross_8 rfl ?_
    refine T_iload_n dX11_cross_9 rfl ?_
    refine U_callV (as := [vI x2]) (st := []) dX11_cross_10 kX11_isDirection lX11_311 SH_218 rfl rfl rfl rfl (Nat.le_of_ble_eq_true rfl) (Nat.le_of_ble_eq_true rfl) (by omega) ?_
    refine W_X11_isDirection (by omega)  h (fun r10 v10 h => ?_)
    show n_T G d 0 0 mX11_cross 13 [vR 218, vI x1, vI x2] [vI r10] SH v10 Q
    refine U_if_eq (tgt := 30) dX11_cross_13 (by decide) (fun hc => ?_) (fun hc => ?_)
    · replace h := h.1 hc
      refine T_iconst dX11_cross_30 (by decide) ?_
      exact T_iret dX11_cross_31 rfl (hQ _ _ h)
    · replace h := h.2 hc
      refine T_iload_n dX11_cross_16 rfl ?_
      refine T_iload_n dX11_cross_17 rfl ?_
      refine U_icmp_eq (tgt := 30) dX11_cross_18 (by decide) (fun hc => ?_) (fun hc => ?_)
      · replace h := h.1 hc
        refine T_iconst dX11_cross_30 (by decide) ?_
        exact T_iret dX11_cross_31 rfl (hQ _ _ h)
      · replace h := h.2 hc
        refine T_aload_n dX11_cross_21 rfl ?_
        refine T_iload_n dX11_cross_22 rfl ?_
        refine T_iload_n dX11_cross_23 rfl ?_
        refine U_callV (as := [vI x1, vI x2]) (st := []) dX11_cross_24 kX11_pairsOf lX11_314 SH_218 rfl rfl rfl rfl (Nat.le_of_ble_eq_true rfl) (Nat.le_of_ble_eq_true rfl) (by omega) ?_
        refine W_X11_pairsOf (by omega)  h (fun r24 h => ?_)
        show n_T G d 0 0 mX11_cross 27 [vR 218, vI x1, vI x2] [vI r24] SH v10 Q
        refine T_goto (tgt := 31) dX11_cross_27 (by decide) ?_
        exact T_iret dX11_cross_31 rfl (hQ _ _ h)

theorem W_X11_half {G : GT} {d : Nat} (hd : 3 ≤ d) {x1 : Int}   {v : VT} {q : Int → Prop} {Q : Option Vl → List Sh → VT → Prop} (h : P_X11_half x1 v q) (hQ : ∀ r, q r → Q (some (vI r)) SH v) : n_T G d 0 0 mX11_half 0 [vR 218, vI x1] [] SH v Q := by
  unfold P_X11_half at h
  refine T_iload_n dX11_half_0 rfl ?_
  refine T_iconst dX11_half_1 (by decide) ?_
  refine T_irem dX11_half_2 (by decide) ?_
  refine T_iconst dX11_half_3 (by decide) ?_
  refine U_icmp_ne (tgt := 17) dX11_half_4 (by decide) (fun hc => ?_) (fun hc => ?_)
  · replace h := h.1 hc
    refine T_aload_n dX11_half_17 rfl ?_
    refine U_callV (as := []) (st := []) dX11_half_18 kX11_all lX11_317 SH_218 rfl rfl rfl rfl (Nat.le_of_ble_eq_true rfl) (Nat.le_of_ble_eq_true rfl) (by omega) ?_
    refine W_X11_all (by omega)  h (fun r18 h => ?_)
    show n_T G d 0 0 mX11_half 21 [vR 218, vI x1] [vI r18] SH v Q
    refine T_aload_n dX11_half_21 rfl ?_
    refine T_iload_n dX11_half_22 rfl ?_
    refine T_iconst dX11_half_23 (by decide) ?_
    refine T_idiv dX11_half_24 (by decide) ?_
    refine U_callV (as := [vI (i_div x1 2)]) (st := [vI r18]) dX11_half_25 kX11_sideOne lX11_296 SH_218 rfl rfl rfl rfl (Nat.le_of_ble_eq_true rfl) (Nat.le_of_ble_eq_true rfl) (by omega) ?_
    refine W_X11_sideOne (by omega)  h (fun r25 h => ?_)
    show n_T G d 0 0 mX11_half 28 [vR 218, vI x1] [vI r25, vI r18] SH v Q
    refine T_iconst dX11_half_28 (by decide) ?_
    refine T_ixor dX11_half_29 ?_
    refine T_iand dX11_half_30 ?_
    exact T_iret dX11_half_31 rfl (hQ _ h)
  · replace h := h.2 hc
    refine T_aload_n dX11_half_7 rfl ?_
    refine T_iload_n dX11_half_8 rfl ?_
    refine T_iconst dX11_half_9 (by decide) ?_
    refine T_idiv dX11_half_10 (by decide) ?_
    refine U_callV (as := [vI (i_div x1 2)]) (st := []) dX11_half_11 kX11_sideOne lX11_296 SH_218 rfl rfl rfl rfl (Nat.le_of_ble_eq_true rfl) (Nat.le_of_ble_eq_true rfl) (by omega) ?_
    refine W_X11_sideOne (by omega)  h (fun r11 h => ?_)
    show n_T G d 0 0 mX11_half 14 [vR 218, vI x1] [vI r11] SH v Q
    refine T_goto (tgt := 31) dX11_half_14 (by decide) ?_
    exact T_iret dX11_half_31 rfl (hQ _ h)

theorem W_X11_doFit {G : GT} {d : Nat} (hd : 4 ≤ d) {x1 : Int} {x2 : Int}   {v : VT} {q : Int → Prop} {Q : Option Vl → List Sh → VT → Prop} (h : P_X11_doFit x1 x2 v q) (hQ : ∀ r, q r → Q (some (vI r)) SH v) : n_T G d 0 0 mX11_doFit 0 [vR 218, vI x1, vI x2] [] SH v Q := by
  unfold P_X11_doFit at h
  refine T_aload_n dX11_doFit_0 rfl ?_
  refine T_iload_n dX11_doFit_1 rfl ?_
  refine U_callV (as := [vI x1]) (st := []) dX11_doFit_2 kX11_half lX11_320 SH_218 rfl rfl rfl rfl (Nat.le_of_ble_eq_true rfl) (Nat.le_of_ble_eq_true rfl) (by omega) ?_
  refine W_X11_half (by omega)  h (fun r2 h => ?_)
  show n_T G d 0 0 mX11_doFit 5 [vR 218, vI x1, vI x2] [vI r2] SH v Q
  refine T_aload_n dX11_doFit_5 rfl ?_
  refine T_iload_n dX11_doFit_6 rfl ?_
  refine U_callV (as := [vI x2]) (st := [vI r2]) dX11_doFit_7 kX11_half lX11_320 SH_218 rfl rfl rfl rfl (Nat.le_of_ble_eq_true rfl) (Nat.le_of_ble_eq_true rfl) (by omega) ?_
  refine W_X11_half (by omega)  h (fun r7 h => ?_)
  show n_T G d 0 0 mX11_doFit 10 [vR 218, vI x1, vI x2] [vI r7, vI r2] SH v Q
  refine T_ior dX11_doFit_10 ?_
  refine T_aload_n dX11_doFit_11 rfl ?_
  refine U_callV (as := []) (st := [vI (i_or r2 r7)]) dX11_doFit_12 kX11_all lX11_317 SH_218 rfl rfl rfl rfl (Nat.le_of_ble_eq_true rfl) (Nat.le_of_ble_eq_true rfl) (by omega) ?_
  refine W_X11_all (by omega)  h (fun r12 h => ?_)
  show n_T G d 0 0 mX11_doFit 15 [vR 218, vI x1, vI x2] [vI r12, vI (i_or r2 r7)] SH v Q
  refine U_icmp_ne (tgt := 36) dX11_doFit_15 (by decide) (fun hc => ?_) (fun hc => ?_)
  · replace h := h.1 hc
    refine T_iconst dX11_doFit_36 (by decide) ?_
    exact T_zret dX11_doFit_37 rfl (by decide) (hQ _ h)
  · replace h := h.2 hc
    refine T_aload_n dX11_doFit_18 rfl ?_
    refine T_iload_n dX11_doFit_19 rfl ?_
    refine U_callV (as := [vI x1]) (st := []) dX11_doFit_20 kX11_half lX11_320 SH_218 rfl rfl rfl rfl (Nat.le_of_ble_eq_true rfl) (Nat.le_of_ble_eq_true rfl) (by omega) ?_
    refine W_X11_half (by omega)  h (fun r20 h => ?_)
    show n_T G d 0 0 mX11_doFit 23 [vR 218, vI x1, vI x2] [vI r20] SH v Q
    refine T_aload_n dX11_doFit_23 rfl ?_
    refine T_iload_n dX11_doFit_24 rfl ?_
    refine U_callV (as := [vI x2]) (st := [vI r20]) dX11_doFit_25 kX11_half lX11_320 SH_218 rfl rfl rfl rfl (Nat.le_of_ble_eq_true rfl) (Nat.le_of_ble_eq_true rfl) (by omega) ?_
    refine W_X11_half (by omega)  h (fun r25 h => ?_)
    show n_T G d 0 0 mX11_doFit 28 [vR 218, vI x1, vI x2] [vI r25, vI r20] SH v Q
    refine T_iand dX11_doFit_28 ?_
    refine U_if_eq (tgt := 36) dX11_doFit_29 (by decide) (fun hc => ?_) (fun hc => ?_)
    · replace h := h.1 hc
      refine T_iconst dX11_doFit_36 (by decide) ?_
      exact T_zret dX11_doFit_37 rfl (by decide) (hQ _ h)
    · replace h := h.2 hc
      refine T_iconst dX11_doFit_32 (by decide) ?_
      refine T_goto (tgt := 37) dX11_doFit_33 (by decide) ?_
      exact T_zret dX11_doFit_37 rfl (by decide) (hQ _ h)

theorem W_X11_isHalf {G : GT} {d : Nat} (hd : 6 ≤ d) {x1 : Int}   {v : VT} {q : Int → VT → Prop} {Q : Option Vl → List Sh → VT → Prop} (h : P_X11_isHalf x1 v q) (hQ : ∀ r w, q r w → Q (some (vI r)) SH w) : n_T G d 0 0 mX11_isHalf 0 [vR 218, vI x1] [] SH v Q := by
  unfold P_X11_isHalf at h
  refine T_aload_n dX11_isHalf_0 rfl ?_
  refine U_callV (as := []) (st := []) dX11_isHalf_1 kX11_sits lX11_305 SH_218 rfl rfl rfl rfl (Nat.le_of_ble_eq_true rfl) (Nat.le_of_ble_eq_true rfl) (by omega) ?_
  refine W_X11_sits (by omega)  h (fun r1 v1 h => ?_)
  show n_T G d 0 0 mX11_isHalf 4 [vR 218, vI x1] [vI r1] SH v1 Q
  refine U_if_eq (tgt := 29) dX11_isHalf_4 (by decide) (fun hc => ?_) (fun hc => ?_)
  · replace h := h.1 hc
    refine T_iconst dX11_isHalf_29 (by decide) ?_
    exact T_zret dX11_isHalf_30 rfl (by decide) (hQ _ _ h)
  · replace h := h.2 hc
    refine T_iload_n dX11_isHalf_7 rfl ?_
    refine T_i2l dX11_isHalf_8 ?_
    refine T_lconst dX11_isHalf_9 ?_
    refine T_iconst dX11_isHalf_10 (by decide) ?_
    refine T_aload_n dX11_isHalf_11 rfl ?_
    refine T_getI dX11_isHalf_12 fX11_222 rfl SH_218 ?_
    refine U_imul dX11_isHalf_15 h.1 ?_
    replace h := h.2
    refine T_iconst dX11_isHalf_16 (by decide) ?_
    refine U_isub dX11_isHalf_17 h.1 ?_
    replace h := h.2
    refine T_i2l dX11_isHalf_18 ?_
    refine U_callS (as := [vJ x1, vJ 0, vJ ((2 * (v1 218 18)) - 1)]) (st := []) dX11_isHalf_19 kX11_isIn lX11_109 rfl rfl (Nat.le_of_ble_eq_true rfl) (Nat.le_of_ble_eq_true rfl) (by omega) ?_
    refine W_X11_isIn (by omega)  h (fun r19 h => ?_)
    show n_T G d 0 0 mX11_isHalf 22 [vR 218, vI x1] [vI r19] SH v1 Q
    refine U_if_eq (tgt := 29) dX11_isHalf_22 (by decide) (fun hc => ?_) (fun hc => ?_)
    · replace h := h.1 hc
      refine T_iconst dX11_isHalf_29 (by decide) ?_
      exact T_zret dX11_isHalf_30 rfl (by decide) (hQ _ _ h)
    · replace h := h.2 hc
      refine T_iconst dX11_isHalf_25 (by decide) ?_
      refine T_goto (tgt := 30) dX11_isHalf_26 (by decide) ?_
      exact T_zret dX11_isHalf_30 rfl (by decide) (hQ _ _ h)

theorem W_X11_fit {G : GT} {d : Nat} (hd : 7 ≤ d) {x1 : Int} {x2 : Int}   {v : VT} {q : Int → VT → Prop} {Q : Option Vl → List Sh → VT → Prop} (h : P_X11_fit x1 x2 v q) (hQ : ∀ r w, q r w → Q (some (vI r)) SH w) : n_T G d 0 0 mX11_fit 0 [vR 218, vI x1, vI x2] [] SH v Q := by
  unfold P_X11_fit at h
  refine T_aload_n dX11_fit_0 rfl ?_
  refine T_iload_n dX11_fit_1 rfl ?_
  refine U_callV (as := [vI x1]) (st := []) dX11_fit_2 kX11_isHalf lX11_323 SH_218 rfl rfl rfl rfl (Nat.le_of_ble_eq_true rfl) (Nat.le_of_ble_eq_true rfl) (by omega) ?_
  refine W_X11_isHalf (by omega)  h (fun r2 v2 h => ?_)
  show n_T G d 0 0 mX11_fit 5 [vR 218, vI x1, vI x2] [vI r2] SH v2 Q
  refine U_if_eq (tgt := 33) dX11_fit_5 (by decide) (fun hc => ?_) (fun hc => ?_)
  · replace h := h.1 hc
    refine T_iconst dX11_fit_33 (by decide) ?_
    exact T_iret dX11_fit_34 rfl (hQ _ _ h)
  · replace h := h.2 hc
    refine T_aload_n dX11_fit_8 rfl ?_
    refine T_iload_n dX11_fit_9 rfl ?_
    refine U_callV (as := [vI x2]) (st := []) dX11_fit_10 kX11_isHalf lX11_323 SH_218 rfl rfl rfl rfl (Nat.le_of_ble_eq_true rfl) (Nat.le_of_ble_eq_true rfl) (by omega) ?_
    refine W_X11_isHalf (by omega)  h (fun r10 v10 h => ?_)
    show n_T G d 0 0 mX11_fit 13 [vR 218, vI x1, vI x2] [vI r10] SH v10 Q
    refine U_if_eq (tgt := 33) dX11_fit_13 (by decide) (fun hc => ?_) (fun hc => ?_)
    · replace h := h.1 hc
      refine T_iconst dX11_fit_33 (by decide) ?_
      exact T_iret dX11_fit_34 rfl (hQ _ _ h)
    · replace h := h.2 hc
      refine T_iload_n dX11_fit_16 rfl ?_
      refine T_iload_n dX11_fit_17 rfl ?_
      refine U_icmp_eq (tgt := 33) dX11_fit_18 (by decide) (fun hc => ?_) (fun hc => ?_)
      · replace h := h.1 hc
        refine T_iconst dX11_fit_33 (by decide) ?_
        exact T_iret dX11_fit_34 rfl (hQ _ _ h)
      · replace h := h.2 hc
        refine T_aload_n dX11_fit_21 rfl ?_
        refine T_iload_n dX11_fit_22 rfl ?_
        refine T_iload_n dX11_fit_23 rfl ?_
        refine U_callV (as := [vI x1, vI x2]) (st := []) dX11_fit_24 kX11_doFit lX11_326 SH_218 rfl rfl rfl rfl (Nat.le_of_ble_eq_true rfl) (Nat.le_of_ble_eq_true rfl) (by omega) ?_
        refine W_X11_doFit (by omega)  h (fun r24 h => ?_)
        show n_T G d 0 0 mX11_fit 27 [vR 218, vI x1, vI x2] [vI r24] SH v10 Q
        refine U_callS (as := [vI r24]) (st := []) dX11_fit_27 kX11_flag lX11_250 rfl rfl (Nat.le_of_ble_eq_true rfl) (Nat.le_of_ble_eq_true rfl) (by omega) ?_
        refine W_X11_flag (by omega)  h (fun r27 h => ?_)
        show n_T G d 0 0 mX11_fit 30 [vR 218, vI x1, vI x2] [vI r27] SH v10 Q
        refine T_goto (tgt := 34) dX11_fit_30 (by decide) ?_
        exact T_iret dX11_fit_34 rfl (hQ _ _ h)

theorem W_X11_isCube {G : GT} {d : Nat} (hd : 2 ≤ d) {x1 : Int} {x2 : Int}   {v : VT} {q : Int → Prop} {Q : Option Vl → List Sh → VT → Prop} (h : P_X11_isCube x1 x2 v q) (hQ : ∀ r, q r → Q (some (vI r)) SH v) : n_T G d 0 0 mX11_isCube 0 [vR 218, vI x1, vI x2, vS 9] [] SH v Q := by
  unfold P_X11_isCube at h
  refine T_iload_n dX11_isCube_0 rfl ?_
  refine T_istore_n dX11_isCube_1 (by decide) rfl ?_
  refine T_drop (h (fun (i3 : Int) => n_T G d 0 0 mX11_isCube 2 [vR 218, vI x1, vI x2, vI i3] [] SH v Q) (fun i3 h => ?_)) ⟨Or.inl rfl, Or.inl rfl, Or.inl rfl, Or.inl rfl, trivial⟩
  refine T_iload_n dX11_isCube_2 rfl ?_
  refine U_if_le (tgt := 33) dX11_isCube_3 (by decide) (fun hc => ?_) (fun hc => ?_)
  · replace h := h.1 hc
    refine T_iconst dX11_isCube_33 (by decide) ?_
    exact T_zret dX11_isCube_34 rfl (by decide) (hQ _ h)
  · replace h := h.2 hc
    refine T_aload_n dX11_isCube_6 rfl ?_
    refine T_aload_n dX11_isCube_7 rfl ?_
    refine T_getR (r := 228) dX11_isCube_8 fX11_41 rfl SH_218 rfl ?_
    refine T_iload_n dX11_isCube_11 rfl ?_
    refine T_iald dX11_isCube_12 SH_228 h.1 ?_
    replace h := h.2
    refine T_iload_n dX11_isCube_13 rfl ?_
    refine T_ior dX11_isCube_14 ?_
    refine U_callV (as := [vI (i_or (v 228 x1.toNat) i3)]) (st := []) dX11_isCube_15 kX11_nodeAt lX11_308 SH_218 rfl rfl rfl rfl (Nat.le_of_ble_eq_true rfl) (Nat.le_of_ble_eq_true rfl) (by omega) ?_
    refine W_X11_nodeAt (by omega)  h (fun r15 h => ?_)
    show n_T G d 0 0 mX11_isCube 18 [vR 218, vI x1, vI x2, vI i3] [vI r15] SH v Q
    refine T_iconst dX11_isCube_18 (by decide) ?_
    refine U_icmp_ne (tgt := 24) dX11_isCube_19 (by decide) (fun hc => ?_) (fun hc => ?_)
    · replace h := h.1 hc
      refine T_iload_n dX11_isCube_24 rfl ?_
      refine T_iconst dX11_isCube_25 (by decide) ?_
      refine U_isub dX11_isCube_26 h.1 ?_
      replace h := h.2
      refine T_iload_n dX11_isCube_27 rfl ?_
      refine T_iand dX11_isCube_28 ?_
      refine U_istore_n dX11_isCube_29 (by decide) rfl (fun l3 el3 => ?_)
      replace h := h l3 el3
      refine T_goto (tgt := 2) dX11_isCube_30 (by decide) ?_
      exact T_drop h ⟨Or.inl rfl, Or.inl rfl, Or.inl rfl, Or.inl rfl, trivial⟩
    · replace h := h.2 hc
      refine T_iconst dX11_isCube_22 (by decide) ?_
      exact T_zret dX11_isCube_23 rfl (by decide) (hQ _ h)

theorem W_X11_cubes {G : GT} {d : Nat} (hd : 6 ≤ d) {x1 : Int}   {v : VT} {q : Int → VT → Prop} {Q : Option Vl → List Sh → VT → Prop} (h : P_X11_cubes x1 v q) (hQ : ∀ r w, q r w → Q (some (vI r)) SH w) : n_T G d 0 0 mX11_cubes 0 [vR 218, vI x1, vS 9, vS 9, vS 9, vS 9] [] SH v Q := by
  unfold P_X11_cubes at h
  refine T_aload_n dX11_cubes_0 rfl ?_
  refine U_callV (as := []) (st := []) dX11_cubes_1 kX11_sits lX11_305 SH_218 rfl rfl rfl rfl (Nat.le_of_ble_eq_true rfl) (Nat.le_of_ble_eq_true rfl) (by omega) ?_
  refine W_X11_sits (by omega)  h (fun r1 v1 h => ?_)
  show n_T G d 0 0 mX11_cubes 4 [vR 218, vI x1, vS 9, vS 9, vS 9, vS 9] [vI r1] SH v1 Q
  refine U_if_eq (tgt := 11) dX11_cubes_4 (by decide) (fun hc => ?_) (fun hc => ?_)
  · replace h := h.1 hc
    refine T_iconst dX11_cubes_11 (by decide) ?_
    exact T_iret dX11_cubes_12 rfl (hQ _ _ h)
  · replace h := h.2 hc
    refine T_iload_n dX11_cubes_7 rfl ?_
    refine U_if_ge (tgt := 13) dX11_cubes_8 (by decide) (fun hc => ?_) (fun hc => ?_)
    · replace h := h.1 hc
      refine T_iconst dX11_cubes_13 (by decide) ?_
      refine T_istore_n dX11_cubes_14 (by decide) rfl ?_
      refine T_iconst dX11_cubes_15 (by decide) ?_
      refine T_istore_n dX11_cubes_16 (by decide) rfl ?_
      refine T_drop (h (fun (i2 : Int) (i3 : Int) => n_T G d 0 0 mX11_cubes 17 [vR 218, vI x1, vI i2, vI i3, vS 9, vS 9] [] SH v1 Q) (fun i2 i3 h => ?_)) ⟨Or.inl rfl, Or.inl rfl, Or.inl rfl, Or.inl rfl, Or.inr rfl, Or.inr rfl, trivial⟩
      refine T_iload_n dX11_cubes_17 rfl ?_
      refine T_aload_n dX11_cubes_18 rfl ?_
      refine T_getR (r := 222) dX11_cubes_19 fX11_23 rfl SH_218 rfl ?_
      refine T_iconst dX11_cubes_22 (by decide) ?_
      refine T_iald dX11_cubes_23 SH_222 (by decide) ?_
      refine U_icmp_ge (tgt := 125) dX11_cubes_24 (by decide) (fun hc => ?_) (fun hc => ?_)
      · replace h := h.1 hc
        refine T_iload_n dX11_cubes_125 rfl ?_
        exact T_iret dX11_cubes_126 rfl (hQ _ _ h)
      · replace h := h.2 hc
        refine T_iconst dX11_cubes_27 (by decide) ?_
        refine T_istore dX11_cubes_28 (by decide) rfl ?_
        refine T_drop (h (fun (i2_1 : Int) (i4 : Int) => n_T G d 0 0 mX11_cubes 30 [vR 218, vI x1, vI i2_1, vI i3, vI i4, vS 9] [] SH v1 Q) (fun i2_1 i4 h => ?_)) ⟨Or.inl rfl, Or.inl rfl, Or.inl rfl, Or.inl rfl, Or.inl rfl, Or.inr rfl, trivial⟩
        refine T_iload dX11_cubes_30 rfl ?_
        refine T_aload_n dX11_cubes_32 rfl ?_
        refine T_getR (r := 222) dX11_cubes_33 fX11_23 rfl SH_218 rfl ?_
        refine T_iconst dX11_cubes_36 (by decide) ?_
        refine T_iald dX11_cubes_37 SH_222 (by decide) ?_
        refine U_icmp_ge (tgt := 119) dX11_cubes_38 (by decide) (fun hc => ?_) (fun hc => ?_)
        · replace h := h.1 hc
          refine U_iinc dX11_cubes_119 rfl (by decide) rfl h.1 ?_
          replace h := h.2
          refine T_goto (tgt := 17) dX11_cubes_122 (by decide) ?_
          exact T_drop h ⟨Or.inl rfl, Or.inl rfl, Or.inl rfl, Or.inl rfl, Or.inr rfl, Or.inr rfl, trivial⟩
        · replace h := h.2 hc
          refine T_aload_n dX11_cubes_41 rfl ?_
          refine T_getR (r := 228) dX11_cubes_42 fX11_41 rfl SH_218 rfl ?_
          refine T_iload dX11_cubes_45 rfl ?_
          refine T_iald dX11_cubes_47 SH_228 h.1 ?_
          replace h := h.2
          refine T_aload_n dX11_cubes_48 rfl ?_
          refine T_getR (r := 228) dX11_cubes_49 fX11_41 rfl SH_218 rfl ?_
          refine T_iload_n dX11_cubes_52 rfl ?_
          refine T_iald dX11_cubes_53 SH_228 h.1 ?_
          replace h := h.2
          refine T_iconst dX11_cubes_54 (by decide) ?_
          refine T_ixor dX11_cubes_55 ?_
          refine T_iand dX11_cubes_56 ?_
          refine U_istore dX11_cubes_57 (by decide) rfl (fun l5 el5 => ?_)
          replace h := h l5 el5
          refine T_iload_n dX11_cubes_59 rfl ?_
          refine T_aload_n dX11_cubes_60 rfl ?_
          refine T_getR (r := 228) dX11_cubes_61 fX11_41 rfl SH_218 rfl ?_
          refine T_iload_n dX11_cubes_64 rfl ?_
          refine T_iald dX11_cubes_65 SH_228 h.1 ?_
          replace h := h.2
          refine T_aload_n dX11_cubes_66 rfl ?_
          refine T_getR (r := 228) dX11_cubes_67 fX11_41 rfl SH_218 rfl ?_
          refine T_iload dX11_cubes_70 rfl ?_
          refine T_iald dX11_cubes_72 SH_228 h.1 ?_
          replace h := h.2
          refine T_iconst dX11_cubes_73 (by decide) ?_
          refine T_ixor dX11_cubes_74 ?_
          refine T_iand dX11_cubes_75 ?_
          refine U_if_ne (tgt := 107) dX11_cubes_76 (by decide) (fun hc => ?_) (fun hc => ?_)
          · replace h := h.1 hc
            refine T_iconst dX11_cubes_107 (by decide) ?_
            refine U_callS (as := [vI 0]) (st := [vI i2_1]) dX11_cubes_108 kX11_flag lX11_250 rfl rfl (Nat.le_of_ble_eq_true rfl) (Nat.le_of_ble_eq_true rfl) (by omega) ?_
            refine W_X11_flag (by omega)  h (fun r108 h => ?_)
            show n_T G d 0 0 mX11_cubes 111 [vR 218, vI x1, vI i2_1, vI i3, vI i4, vI l5] [vI r108, vI i2_1] SH v1 Q
            refine U_iadd dX11_cubes_111 h.1 ?_
            replace h := h.2
            refine T_istore_n dX11_cubes_112 (by decide) rfl ?_
            refine U_iinc dX11_cubes_113 rfl (by decide) rfl h.1 ?_
            replace h := h.2
            refine T_goto (tgt := 30) dX11_cubes_116 (by decide) ?_
            exact T_drop h ⟨Or.inl rfl, Or.inl rfl, Or.inl rfl, Or.inl rfl, Or.inl rfl, Or.inr rfl, trivial⟩
          · replace h := h.2 hc
            refine T_iload dX11_cubes_79 rfl ?_
            refine U_callS (as := [vI l5]) (st := [vI i2_1]) dX11_cubes_81 kX11_count lX11_299 rfl rfl (Nat.le_of_ble_eq_true rfl) (Nat.le_of_ble_eq_true rfl) (by omega) ?_
            refine W_X11_count (by omega)  h (fun r81 h => ?_)
            show n_T G d 0 0 mX11_cubes 84 [vR 218, vI x1, vI i2_1, vI i3, vI i4, vI l5] [vI r81, vI i2_1] SH v1 Q
            refine T_iload_n dX11_cubes_84 rfl ?_
            refine U_icmp_ne (tgt := 107) dX11_cubes_85 (by decide) (fun hc => ?_) (fun hc => ?_)
            · replace h := h.1 hc
              refine T_iconst dX11_cubes_107 (by decide) ?_
              refine U_callS (as := [vI 0]) (st := [vI i2_1]) dX11_cubes_108 kX11_flag lX11_250 rfl rfl (Nat.le_of_ble_eq_true rfl) (Nat.le_of_ble_eq_true rfl) (by omega) ?_
              refine W_X11_flag (by omega)  h (fun r108_1 h => ?_)
              show n_T G d 0 0 mX11_cubes 111 [vR 218, vI x1, vI i2_1, vI i3, vI i4, vI l5] [vI r108_1, vI i2_1] SH v1 Q
              refine U_iadd dX11_cubes_111 h.1 ?_
              replace h := h.2
              refine U_istore_n dX11_cubes_112 (by decide) rfl (fun l2 el2 => ?_)
              replace h := h l2 el2
              refine U_iinc dX11_cubes_113 rfl (by decide) rfl h.1 ?_
              replace h := h.2
              refine T_goto (tgt := 30) dX11_cubes_116 (by decide) ?_
              exact T_drop h ⟨Or.inl rfl, Or.inl rfl, Or.inl rfl, Or.inl rfl, Or.inl rfl, Or.inr rfl, trivial⟩
            · replace h := h.2 hc
              refine T_iload_n dX11_cubes_88 rfl ?_
              refine T_iconst dX11_cubes_89 (by decide) ?_
              refine U_icmp_gt (tgt := 107) dX11_cubes_90 (by decide) (fun hc => ?_) (fun hc => ?_)
              · replace h := h.1 hc
                refine T_iconst dX11_cubes_107 (by decide) ?_
                refine U_callS (as := [vI 0]) (st := [vI i2_1]) dX11_cubes_108 kX11_flag lX11_250 rfl rfl (Nat.le_of_ble_eq_true rfl) (Nat.le_of_ble_eq_true rfl) (by omega) ?_
                refine W_X11_flag (by omega)  h (fun r108_2 h => ?_)
                show n_T G d 0 0 mX11_cubes 111 [vR 218, vI x1, vI i2_1, vI i3, vI i4, vI l5] [vI r108_2, vI i2_1] SH v1 Q
                refine U_iadd dX11_cubes_111 h.1 ?_
                replace h := h.2
                refine U_istore_n dX11_cubes_112 (by decide) rfl (fun l2_1 el2_1 => ?_)
                replace h := h l2_1 el2_1
                refine U_iinc dX11_cubes_113 rfl (by decide) rfl h.1 ?_
                replace h := h.2
                refine T_goto (tgt := 30) dX11_cubes_116 (by decide) ?_
                exact T_drop h ⟨Or.inl rfl, Or.inl rfl, Or.inl rfl, Or.inl rfl, Or.inl rfl, Or.inr rfl, trivial⟩
              · replace h := h.2 hc
                refine T_aload_n dX11_cubes_93 rfl ?_
                refine T_iload_n dX11_cubes_94 rfl ?_
                refine T_iload dX11_cubes_95 rfl ?_
                refine U_callV (as := [vI i3, vI l5]) (st := [vI i2_1]) dX11_cubes_97 kX11_isCube lX11_329 SH_218 rfl rfl rfl rfl (Nat.le_of_ble_eq_true rfl) (Nat.le_of_ble_eq_true rfl) (by omega) ?_
                refine W_X11_isCube (by omega)  h (fun r97 h => ?_)
                show n_T G d 0 0 mX11_cubes 100 [vR 218, vI x1, vI i2_1, vI i3, vI i4, vI l5] [vI r97, vI i2_1] SH v1 Q
                refine U_if_eq (tgt := 107) dX11_cubes_100 (by decide) (fun hc => ?_) (fun hc => ?_)
                · replace h := h.1 hc
                  refine T_iconst dX11_cubes_107 (by decide) ?_
                  refine U_callS (as := [vI 0]) (st := [vI i2_1]) dX11_cubes_108 kX11_flag lX11_250 rfl rfl (Nat.le_of_ble_eq_true rfl) (Nat.le_of_ble_eq_true rfl) (by omega) ?_
                  refine W_X11_flag (by omega)  h (fun r108_3 h => ?_)
                  show n_T G d 0 0 mX11_cubes 111 [vR 218, vI x1, vI i2_1, vI i3, vI i4, vI l5] [vI r108_3, vI i2_1] SH v1 Q
                  refine U_iadd dX11_cubes_111 h.1 ?_
                  replace h := h.2
                  refine U_istore_n dX11_cubes_112 (by decide) rfl (fun l2_2 el2_2 => ?_)
                  replace h := h l2_2 el2_2
                  refine U_iinc dX11_cubes_113 rfl (by decide) rfl h.1 ?_
                  replace h := h.2
                  refine T_goto (tgt := 30) dX11_cubes_116 (by decide) ?_
                  exact T_drop h ⟨Or.inl rfl, Or.inl rfl, Or.inl rfl, Or.inl rfl, Or.inl rfl, Or.inr rfl, trivial⟩
                · replace h := h.2 hc
                  refine T_iconst dX11_cubes_103 (by decide) ?_
                  refine T_goto (tgt := 108) dX11_cubes_104 (by decide) ?_
                  refine U_callS (as := [vI 1]) (st := [vI i2_1]) dX11_cubes_108 kX11_flag lX11_250 rfl rfl (Nat.le_of_ble_eq_true rfl) (Nat.le_of_ble_eq_true rfl) (by omega) ?_
                  refine W_X11_flag (by omega)  h (fun r108_4 h => ?_)
                  show n_T G d 0 0 mX11_cubes 111 [vR 218, vI x1, vI i2_1, vI i3, vI i4, vI l5] [vI r108_4, vI i2_1] SH v1 Q
                  refine U_iadd dX11_cubes_111 h.1 ?_
                  replace h := h.2
                  refine U_istore_n dX11_cubes_112 (by decide) rfl (fun l2_3 el2_3 => ?_)
                  replace h := h l2_3 el2_3
                  refine U_iinc dX11_cubes_113 rfl (by decide) rfl h.1 ?_
                  replace h := h.2
                  refine T_goto (tgt := 30) dX11_cubes_116 (by decide) ?_
                  exact T_drop h ⟨Or.inl rfl, Or.inl rfl, Or.inl rfl, Or.inl rfl, Or.inl rfl, Or.inr rfl, trivial⟩
    · replace h := h.2 hc
      refine T_iconst dX11_cubes_11 (by decide) ?_
      exact T_iret dX11_cubes_12 rfl (hQ _ _ h)

theorem W_X11_mostCrossing {G : GT} {d : Nat} (hd : 3 ≤ d)    {v : VT} {q : Int → VT → Prop} {Q : Option Vl → List Sh → VT → Prop} (h : P_X11_mostCrossing  v q) (hQ : ∀ r w, q r w → Q (some (vI r)) SH w) : n_T G d 0 0 mX11_mostCrossing 0 [vR 218, vS 9, vS 9, vS 9, vS 9, vS 9] [] SH v Q := by
  unfold P_X11_mostCrossing at h
  refine T_iconst dX11_mostCrossing_0 (by decide) ?_
  refine T_istore_n dX11_mostCrossing_1 (by decide) rfl ?_
  refine T_iconst dX11_mostCrossing_2 (by decide) ?_
  refine T_istore_n dX11_mostCrossing_3 (by decide) rfl ?_
  refine T_aload_n dX11_mostCrossing_4 rfl ?_
  refine T_getR (r := 232) dX11_mostCrossing_5 fX11_54 rfl SH_218 rfl ?_
  refine T_iconst dX11_mostCrossing_8 (by decide) ?_
  refine T_iconst dX11_mostCrossing_9 (by decide) ?_
  refine T_aload_n dX11_mostCrossing_10 rfl ?_
  refine T_getI dX11_mostCrossing_11 fX11_222 rfl SH_218 ?_
  refine T_ishl dX11_mostCrossing_14 ?_
  refine T_iconst dX11_mostCrossing_15 (by decide) ?_
  refine U_isub dX11_mostCrossing_16 h.1 ?_
  replace h := h.2
  refine U_iast dX11_mostCrossing_17 SH_232 (by decide) (fun v17 ev17 => ?_)
  replace h := h v17 ev17
  refine T_aload_n dX11_mostCrossing_18 rfl ?_
  refine T_getR (r := 233) dX11_mostCrossing_19 fX11_57 rfl SH_218 rfl ?_
  refine T_iconst dX11_mostCrossing_22 (by decide) ?_
  refine T_iconst dX11_mostCrossing_23 (by decide) ?_
  refine U_iast dX11_mostCrossing_24 SH_233 (by decide) (fun v24 ev24 => ?_)
  replace h := h v24 ev24
  refine T_drop (h (fun (i1 : Int) (i2 : Int) (v25 : VT) => n_T G d 0 0 mX11_mostCrossing 25 [vR 218, vI i1, vI i2, vS 9, vS 9, vS 9] [] SH v25 Q) (fun i1 i2 v25 h => ?_)) ⟨Or.inl rfl, Or.inl rfl, Or.inl rfl, Or.inr rfl, Or.inr rfl, Or.inr rfl, trivial⟩
  refine T_iload_n dX11_mostCrossing_25 rfl ?_
  refine U_if_lt (tgt := 205) dX11_mostCrossing_26 (by decide) (fun hc => ?_) (fun hc => ?_)
  · replace h := h.1 hc
    refine T_iload_n dX11_mostCrossing_205 rfl ?_
    exact T_iret dX11_mostCrossing_206 rfl (hQ _ _ h)
  · replace h := h.2 hc
    refine T_aload_n dX11_mostCrossing_29 rfl ?_
    refine T_getR (r := 232) dX11_mostCrossing_30 fX11_54 rfl SH_218 rfl ?_
    refine T_iload_n dX11_mostCrossing_33 rfl ?_
    refine T_iald dX11_mostCrossing_34 SH_232 h.1 ?_
    replace h := h.2
    refine U_if_ne (tgt := 44) dX11_mostCrossing_35 (by decide) (fun hc => ?_) (fun hc => ?_)
    · replace h := h.1 hc
      refine T_iconst dX11_mostCrossing_44 (by decide) ?_
      refine T_istore_n dX11_mostCrossing_45 (by decide) rfl ?_
      refine n_cut (h (fun (i3 : Int) => n_T G d 0 0 mX11_mostCrossing 65 [vR 218, vI i1, vI i2, vI i3, vS 9, vS 9] [] SH v25 Q)) ?_ ?_
      · intro i3 h
        refine T_aload_n dX11_mostCrossing_65 rfl ?_
        refine T_getR (r := 232) dX11_mostCrossing_66 fX11_54 rfl SH_218 rfl ?_
        refine T_iload_n dX11_mostCrossing_69 rfl ?_
        refine T_dup2 dX11_mostCrossing_70 rfl rfl ?_
        refine T_iald dX11_mostCrossing_71 SH_232 h.1 ?_
        replace h := h.2
        refine T_iconst dX11_mostCrossing_72 (by decide) ?_
        refine T_iload_n dX11_mostCrossing_73 rfl ?_
        refine T_ishl dX11_mostCrossing_74 ?_
        refine T_iconst dX11_mostCrossing_75 (by decide) ?_
        refine T_ixor dX11_mostCrossing_76 ?_
        refine T_iand dX11_mostCrossing_77 ?_
        refine U_iast dX11_mostCrossing_78 SH_232 h.1 (fun v78 ev78 => ?_)
        replace h := h.2 v78 ev78
        refine T_aload_n dX11_mostCrossing_79 rfl ?_
        refine T_getR (r := 233) dX11_mostCrossing_80 fX11_57 rfl SH_218 rfl ?_
        refine T_iload_n dX11_mostCrossing_83 rfl ?_
        refine T_iald dX11_mostCrossing_84 SH_233 h.1 ?_
        replace h := h.2
        refine T_iconst dX11_mostCrossing_85 (by decide) ?_
        refine T_iload_n dX11_mostCrossing_86 rfl ?_
        refine T_ishl dX11_mostCrossing_87 ?_
        refine T_ior dX11_mostCrossing_88 ?_
        refine U_istore dX11_mostCrossing_89 (by decide) rfl (fun l4 el4 => ?_)
        replace h := h l4 el4
        refine T_iload dX11_mostCrossing_91 rfl ?_
        refine U_callS (as := [vI l4]) (st := []) dX11_mostCrossing_93 kX11_count lX11_299 rfl rfl (Nat.le_of_ble_eq_true rfl) (Nat.le_of_ble_eq_true rfl) (by omega) ?_
        refine W_X11_count (by omega)  h (fun r93 h => ?_)
        show n_T G d 0 0 mX11_mostCrossing 96 [vR 218, vI i1, vI i2, vI i3, vI l4, vS 9] [vI r93] SH v78 Q
        refine T_iload_n dX11_mostCrossing_96 rfl ?_
        refine U_callS (as := [vI i1]) (st := [vI r93]) dX11_mostCrossing_97 kX11_count lX11_299 rfl rfl (Nat.le_of_ble_eq_true rfl) (Nat.le_of_ble_eq_true rfl) (by omega) ?_
        refine W_X11_count (by omega)  h (fun r97 h => ?_)
        show n_T G d 0 0 mX11_mostCrossing 100 [vR 218, vI i1, vI i2, vI i3, vI l4, vS 9] [vI r97, vI r93] SH v78 Q
        refine n_cut (h (fun (i1_1 : Int) => n_T G d 0 0 mX11_mostCrossing 124 [vR 218, vI i1_1, vI i2, vI i3, vI l4, vS 9] [] SH v78 Q)) ?_ ?_
        · intro i1_1 h
          refine U_iinc dX11_mostCrossing_124 rfl (by decide) rfl h.1 ?_
          replace h := h.2
          refine T_aload_n dX11_mostCrossing_127 rfl ?_
          refine T_getR (r := 233) dX11_mostCrossing_128 fX11_57 rfl SH_218 rfl ?_
          refine T_iload_n dX11_mostCrossing_131 rfl ?_
          refine T_iload dX11_mostCrossing_132 rfl ?_
          refine U_iast dX11_mostCrossing_134 SH_233 h.1 (fun v134 ev134 => ?_)
          replace h := h.2 v134 ev134
          refine T_aload_n dX11_mostCrossing_135 rfl ?_
          refine T_getR (r := 232) dX11_mostCrossing_136 fX11_54 rfl SH_218 rfl ?_
          refine T_iload_n dX11_mostCrossing_139 rfl ?_
          refine T_iconst dX11_mostCrossing_140 (by decide) ?_
          refine U_iast dX11_mostCrossing_141 SH_232 h.1 (fun v141 ev141 => ?_)
          replace h := h.2 v141 ev141
          refine T_iload_n dX11_mostCrossing_142 rfl ?_
          refine T_iconst dX11_mostCrossing_143 (by decide) ?_
          refine U_iadd dX11_mostCrossing_144 h.1 ?_
          replace h := h.2
          refine T_istore dX11_mostCrossing_145 (by decide) rfl ?_
          refine T_drop (h (fun (i5 : Int) (v147 : VT) => n_T G d 0 0 mX11_mostCrossing 147 [vR 218, vI i1_1, vI (i2 + 1), vI i3, vS 9, vI i5] [] SH v147 Q) (fun i5 v147 h => ?_)) ⟨Or.inl rfl, Or.inl rfl, Or.inl rfl, Or.inl rfl, Or.inr rfl, Or.inl rfl, trivial⟩
          refine T_iload dX11_mostCrossing_147 rfl ?_
          refine T_aload_n dX11_mostCrossing_149 rfl ?_
          refine T_getI dX11_mostCrossing_150 fX11_222 rfl SH_218 ?_
          refine U_icmp_ge (tgt := 202) dX11_mostCrossing_153 (by decide) (fun hc => ?_) (fun hc => ?_)
          · replace h := h.1 hc
            refine T_goto (tgt := 25) dX11_mostCrossing_202 (by decide) ?_
            exact T_drop h ⟨Or.inl rfl, Or.inl rfl, Or.inl rfl, Or.inr rfl, Or.inr rfl, Or.inr rfl, trivial⟩
          · replace h := h.2 hc
            refine T_aload_n dX11_mostCrossing_156 rfl ?_
            refine T_getR (r := 232) dX11_mostCrossing_157 fX11_54 rfl SH_218 rfl ?_
            refine T_iload_n dX11_mostCrossing_160 rfl ?_
            refine T_iconst dX11_mostCrossing_161 (by decide) ?_
            refine U_isub dX11_mostCrossing_162 h.1 ?_
            replace h := h.2
            refine T_iald dX11_mostCrossing_163 SH_232 h.1 ?_
            replace h := h.2
            refine T_iload dX11_mostCrossing_164 rfl ?_
            refine U_callS (as := [vI (v147 232 ((i2 + 1) - 1).toNat), vI i5]) (st := []) dX11_mostCrossing_166 kX11_isOf lX11_281 rfl rfl (Nat.le_of_ble_eq_true rfl) (Nat.le_of_ble_eq_true rfl) (by omega) ?_
            refine W_X11_isOf (by omega)  h (fun r166 h => ?_)
            show n_T G d 0 0 mX11_mostCrossing 169 [vR 218, vI i1_1, vI (i2 + 1), vI i3, vS 9, vI i5] [vI r166] SH v147 Q
            refine U_if_eq (tgt := 196) dX11_mostCrossing_169 (by decide) (fun hc => ?_) (fun hc => ?_)
            · replace h := h.1 hc
              refine U_iinc dX11_mostCrossing_196 rfl (by decide) rfl h.1 ?_
              replace h := h.2
              refine T_goto (tgt := 147) dX11_mostCrossing_199 (by decide) ?_
              exact T_drop h ⟨Or.inl rfl, Or.inl rfl, Or.inl rfl, Or.inl rfl, Or.inr rfl, Or.inl rfl, trivial⟩
            · replace h := h.2 hc
              refine T_aload_n dX11_mostCrossing_172 rfl ?_
              refine T_iload_n dX11_mostCrossing_173 rfl ?_
              refine T_iload dX11_mostCrossing_174 rfl ?_
              refine U_callV (as := [vI i3, vI i5]) (st := []) dX11_mostCrossing_176 kX11_pairsOf lX11_314 SH_218 rfl rfl rfl rfl (Nat.le_of_ble_eq_true rfl) (Nat.le_of_ble_eq_true rfl) (by omega) ?_
              refine W_X11_pairsOf (by omega)  h (fun r176 h => ?_)
              show n_T G d 0 0 mX11_mostCrossing 179 [vR 218, vI i1_1, vI (i2 + 1), vI i3, vS 9, vI i5] [vI r176] SH v147 Q
              refine T_iconst dX11_mostCrossing_179 (by decide) ?_
              refine U_icmp_ne (tgt := 196) dX11_mostCrossing_180 (by decide) (fun hc => ?_) (fun hc => ?_)
              · replace h := h.1 hc
                refine U_iinc dX11_mostCrossing_196 rfl (by decide) rfl h.1 ?_
                replace h := h.2
                refine T_goto (tgt := 147) dX11_mostCrossing_199 (by decide) ?_
                exact T_drop h ⟨Or.inl rfl, Or.inl rfl, Or.inl rfl, Or.inl rfl, Or.inr rfl, Or.inl rfl, trivial⟩
              · replace h := h.2 hc
                refine T_aload_n dX11_mostCrossing_183 rfl ?_
                refine T_getR (r := 232) dX11_mostCrossing_184 fX11_54 rfl SH_218 rfl ?_
                refine T_iload_n dX11_mostCrossing_187 rfl ?_
                refine T_dup2 dX11_mostCrossing_188 rfl rfl ?_
                refine T_iald dX11_mostCrossing_189 SH_232 h.1 ?_
                replace h := h.2
                refine T_iconst dX11_mostCrossing_190 (by decide) ?_
                refine T_iload dX11_mostCrossing_191 rfl ?_
                refine T_ishl dX11_mostCrossing_193 ?_
                refine T_ior dX11_mostCrossing_194 ?_
                refine U_iast dX11_mostCrossing_195 SH_232 h.1 (fun v195 ev195 => ?_)
                replace h := h.2 v195 ev195
                refine U_iinc dX11_mostCrossing_196 rfl (by decide) rfl h.1 ?_
                replace h := h.2
                refine T_goto (tgt := 147) dX11_mostCrossing_199 (by decide) ?_
                exact T_drop h ⟨Or.inl rfl, Or.inl rfl, Or.inl rfl, Or.inl rfl, Or.inr rfl, Or.inl rfl, trivial⟩
        · intro h
          refine n_cut (h (n_T G d 0 0 mX11_mostCrossing 121 [vR 218, vS 9, vI i2, vI i3, vI l4, vS 9] [] SH v78 Q)) ?_ ?_
          · intro h
            refine T_iload dX11_mostCrossing_121 rfl ?_
            refine T_istore_n dX11_mostCrossing_123 (by decide) rfl ?_
            exact T_drop h ⟨Or.inl rfl, Or.inl rfl, Or.inl rfl, Or.inl rfl, Or.inl rfl, Or.inr rfl, trivial⟩
          · intro h
            refine U_icmp_gt (tgt := 121) dX11_mostCrossing_100 (by decide) (fun hc => ?_) (fun hc => ?_)
            · replace h := h.1 hc
              exact T_drop h ⟨Or.inl rfl, Or.inr rfl, Or.inl rfl, Or.inl rfl, Or.inl rfl, Or.inr rfl, trivial⟩
            · replace h := h.2 hc
              refine T_iload dX11_mostCrossing_103 rfl ?_
              refine U_callS (as := [vI l4]) (st := []) dX11_mostCrossing_105 kX11_count lX11_299 rfl rfl (Nat.le_of_ble_eq_true rfl) (Nat.le_of_ble_eq_true rfl) (by omega) ?_
              refine W_X11_count (by omega)  h (fun r105 h => ?_)
              show n_T G d 0 0 mX11_mostCrossing 108 [vR 218, vI i1, vI i2, vI i3, vI l4, vS 9] [vI r105] SH v78 Q
              refine T_iload_n dX11_mostCrossing_108 rfl ?_
              refine U_callS (as := [vI i1]) (st := [vI r105]) dX11_mostCrossing_109 kX11_count lX11_299 rfl rfl (Nat.le_of_ble_eq_true rfl) (Nat.le_of_ble_eq_true rfl) (by omega) ?_
              refine W_X11_count (by omega)  h (fun r109 h => ?_)
              show n_T G d 0 0 mX11_mostCrossing 112 [vR 218, vI i1, vI i2, vI i3, vI l4, vS 9] [vI r109, vI r105] SH v78 Q
              refine U_icmp_ne (tgt := 124) dX11_mostCrossing_112 (by decide) (fun hc => ?_) (fun hc => ?_)
              · replace h := h.1 hc
                exact T_drop h ⟨Or.inl rfl, Or.inl rfl, Or.inl rfl, Or.inl rfl, Or.inl rfl, Or.inr rfl, trivial⟩
              · replace h := h.2 hc
                refine T_iload dX11_mostCrossing_115 rfl ?_
                refine T_iload_n dX11_mostCrossing_117 rfl ?_
                refine U_icmp_ge (tgt := 124) dX11_mostCrossing_118 (by decide) (fun hc => ?_) (fun hc => ?_)
                · replace h := h.1 hc
                  exact T_drop h ⟨Or.inl rfl, Or.inl rfl, Or.inl rfl, Or.inl rfl, Or.inl rfl, Or.inr rfl, trivial⟩
                · replace h := h.2 hc
                  exact T_drop h ⟨Or.inl rfl, Or.inr rfl, Or.inl rfl, Or.inl rfl, Or.inl rfl, Or.inr rfl, trivial⟩
      · intro h
        refine T_drop (h (fun (i3_1 : Int) => n_T G d 0 0 mX11_mostCrossing 46 [vR 218, vI i1, vI i2, vI i3_1, vS 9, vS 9] [] SH v25 Q) (fun i3_1 h => ?_)) ⟨Or.inl rfl, Or.inl rfl, Or.inl rfl, Or.inl rfl, Or.inr rfl, Or.inr rfl, trivial⟩
        refine T_aload_n dX11_mostCrossing_46 rfl ?_
        refine T_getR (r := 232) dX11_mostCrossing_47 fX11_54 rfl SH_218 rfl ?_
        refine T_iload_n dX11_mostCrossing_50 rfl ?_
        refine T_iald dX11_mostCrossing_51 SH_232 h.1 ?_
        replace h := h.2
        refine T_iload_n dX11_mostCrossing_52 rfl ?_
        refine U_callS (as := [vI (v25 232 i2.toNat), vI i3_1]) (st := []) dX11_mostCrossing_53 kX11_isOf lX11_281 rfl rfl (Nat.le_of_ble_eq_true rfl) (Nat.le_of_ble_eq_true rfl) (by omega) ?_
        refine W_X11_isOf (by omega)  h (fun r53 h => ?_)
        show n_T G d 0 0 mX11_mostCrossing 56 [vR 218, vI i1, vI i2, vI i3_1, vS 9, vS 9] [vI r53] SH v25 Q
        refine U_if_ne (tgt := 65) dX11_mostCrossing_56 (by decide) (fun hc => ?_) (fun hc => ?_)
        · replace h := h.1 hc
          exact T_drop h ⟨Or.inl rfl, Or.inl rfl, Or.inl rfl, Or.inl rfl, Or.inr rfl, Or.inr rfl, trivial⟩
        · replace h := h.2 hc
          refine U_iinc dX11_mostCrossing_59 rfl (by decide) rfl h.1 ?_
          replace h := h.2
          refine T_goto (tgt := 46) dX11_mostCrossing_62 (by decide) ?_
          exact T_drop h ⟨Or.inl rfl, Or.inl rfl, Or.inl rfl, Or.inl rfl, Or.inr rfl, Or.inr rfl, trivial⟩
    · replace h := h.2 hc
      refine U_iinc dX11_mostCrossing_38 rfl (by decide) rfl h.1 ?_
      replace h := h.2
      refine T_goto (tgt := 25) dX11_mostCrossing_41 (by decide) ?_
      exact T_drop h ⟨Or.inl rfl, Or.inl rfl, Or.inl rfl, Or.inr rfl, Or.inr rfl, Or.inr rfl, trivial⟩

theorem W_X11_most {G : GT} {d : Nat} (hd : 6 ≤ d) {x1 : Int}   {v : VT} {q : Int → VT → Prop} {Q : Option Vl → List Sh → VT → Prop} (h : P_X11_most x1 v q) (hQ : ∀ r w, q r w → Q (some (vI r)) SH w) : n_T G d 0 0 mX11_most 0 [vR 218, vI x1, vS 9] [] SH v Q := by
  unfold P_X11_most at h
  refine T_aload_n dX11_most_0 rfl ?_
  refine U_callV (as := []) (st := []) dX11_most_1 kX11_sits lX11_305 SH_218 rfl rfl rfl rfl (Nat.le_of_ble_eq_true rfl) (Nat.le_of_ble_eq_true rfl) (by omega) ?_
  refine W_X11_sits (by omega)  h (fun r1 v1 h => ?_)
  show n_T G d 0 0 mX11_most 4 [vR 218, vI x1, vS 9] [vI r1] SH v1 Q
  refine U_if_eq (tgt := 17) dX11_most_4 (by decide) (fun hc => ?_) (fun hc => ?_)
  · replace h := h.1 hc
    refine T_iconst dX11_most_17 (by decide) ?_
    exact T_iret dX11_most_18 rfl (hQ _ _ h)
  · replace h := h.2 hc
    refine T_iload_n dX11_most_7 rfl ?_
    refine T_i2l dX11_most_8 ?_
    refine T_lconst dX11_most_9 ?_
    refine T_lconst dX11_most_10 ?_
    refine U_callS (as := [vJ x1, vJ 0, vJ 1]) (st := []) dX11_most_11 kX11_isIn lX11_109 rfl rfl (Nat.le_of_ble_eq_true rfl) (Nat.le_of_ble_eq_true rfl) (by omega) ?_
    refine W_X11_isIn (by omega)  h (fun r11 h => ?_)
    show n_T G d 0 0 mX11_most 14 [vR 218, vI x1, vS 9] [vI r11] SH v1 Q
    refine U_if_ne (tgt := 19) dX11_most_14 (by decide) (fun hc => ?_) (fun hc => ?_)
    · replace h := h.1 hc
      refine T_aload_n dX11_most_19 rfl ?_
      refine U_callV (as := []) (st := []) dX11_most_20 kX11_mostCrossing lX11_332 SH_218 rfl rfl rfl rfl (Nat.le_of_ble_eq_true rfl) (Nat.le_of_ble_eq_true rfl) (by omega) ?_
      refine W_X11_mostCrossing (by omega)  h (fun r20 v20 h => ?_)
      show n_T G d 0 0 mX11_most 23 [vR 218, vI x1, vS 9] [vI r20] SH v20 Q
      refine T_istore_n dX11_most_23 (by decide) rfl ?_
      refine T_iload_n dX11_most_24 rfl ?_
      refine U_if_ne (tgt := 35) dX11_most_25 (by decide) (fun hc => ?_) (fun hc => ?_)
      · replace h := h.1 hc
        refine T_iload_n dX11_most_35 rfl ?_
        exact T_iret dX11_most_36 rfl (hQ _ _ h)
      · replace h := h.2 hc
        refine T_iload_n dX11_most_28 rfl ?_
        refine U_callS (as := [vI r20]) (st := []) dX11_most_29 kX11_count lX11_299 rfl rfl (Nat.le_of_ble_eq_true rfl) (Nat.le_of_ble_eq_true rfl) (by omega) ?_
        refine W_X11_count (by omega)  h (fun r29 h => ?_)
        show n_T G d 0 0 mX11_most 32 [vR 218, vI x1, vI r20] [vI r29] SH v20 Q
        refine T_goto (tgt := 36) dX11_most_32 (by decide) ?_
        exact T_iret dX11_most_36 rfl (hQ _ _ h)
    · replace h := h.2 hc
      refine T_iconst dX11_most_17 (by decide) ?_
      exact T_iret dX11_most_18 rfl (hQ _ _ h)

theorem W_X11_opposite {G : GT} {d : Nat} (hd : 6 ≤ d) {x1 : Int}   {v : VT} {q : Int → VT → Prop} {Q : Option Vl → List Sh → VT → Prop} (h : P_X11_opposite x1 v q) (hQ : ∀ r w, q r w → Q (some (vI r)) SH w) : n_T G d 0 0 mX11_opposite 0 [vR 218, vI x1] [] SH v Q := by
  unfold P_X11_opposite at h
  refine T_aload_n dX11_opposite_0 rfl ?_
  refine U_callV (as := []) (st := []) dX11_opposite_1 kX11_sits lX11_305 SH_218 rfl rfl rfl rfl (Nat.le_of_ble_eq_true rfl) (Nat.le_of_ble_eq_true rfl) (by omega) ?_
  refine W_X11_sits (by omega)  h (fun r1 v1 h => ?_)
  show n_T G d 0 0 mX11_opposite 4 [vR 218, vI x1] [vI r1] SH v1 Q
  refine U_if_eq (tgt := 39) dX11_opposite_4 (by decide) (fun hc => ?_) (fun hc => ?_)
  · replace h := h.1 hc
    refine T_iconst dX11_opposite_39 (by decide) ?_
    exact T_iret dX11_opposite_40 rfl (hQ _ _ h)
  · replace h := h.2 hc
    refine T_aload_n dX11_opposite_7 rfl ?_
    refine T_iload_n dX11_opposite_8 rfl ?_
    refine U_callV (as := [vI x1]) (st := []) dX11_opposite_9 kX11_isNode lX11_257 SH_218 rfl rfl rfl rfl (Nat.le_of_ble_eq_true rfl) (Nat.le_of_ble_eq_true rfl) (by omega) ?_
    refine W_X11_isNode (by omega)  h (fun r9 h => ?_)
    show n_T G d 0 0 mX11_opposite 12 [vR 218, vI x1] [vI r9] SH v1 Q
    refine U_if_eq (tgt := 39) dX11_opposite_12 (by decide) (fun hc => ?_) (fun hc => ?_)
    · replace h := h.1 hc
      refine T_iconst dX11_opposite_39 (by decide) ?_
      exact T_iret dX11_opposite_40 rfl (hQ _ _ h)
    · replace h := h.2 hc
      refine T_aload_n dX11_opposite_15 rfl ?_
      refine T_iconst dX11_opposite_16 (by decide) ?_
      refine T_aload_n dX11_opposite_17 rfl ?_
      refine T_getI dX11_opposite_18 fX11_222 rfl SH_218 ?_
      refine T_ishl dX11_opposite_21 ?_
      refine T_iconst dX11_opposite_22 (by decide) ?_
      refine U_isub dX11_opposite_23 h.1 ?_
      replace h := h.2
      refine T_aload_n dX11_opposite_24 rfl ?_
      refine T_getR (r := 228) dX11_opposite_25 fX11_41 rfl SH_218 rfl ?_
      refine T_iload_n dX11_opposite_28 rfl ?_
      refine T_iald dX11_opposite_29 SH_228 h.1 ?_
      replace h := h.2
      refine T_iconst dX11_opposite_30 (by decide) ?_
      refine T_ixor dX11_opposite_31 ?_
      refine T_iand dX11_opposite_32 ?_
      refine U_callV (as := [vI (i_and ((i_shl 1 (v1 218 18)) - 1) (i_xor (v1 228 x1.toNat) (-1)))]) (st := []) dX11_opposite_33 kX11_nodeAt lX11_308 SH_218 rfl rfl rfl rfl (Nat.le_of_ble_eq_true rfl) (Nat.le_of_ble_eq_true rfl) (by omega) ?_
      refine W_X11_nodeAt (by omega)  h (fun r33 h => ?_)
      show n_T G d 0 0 mX11_opposite 36 [vR 218, vI x1] [vI r33] SH v1 Q
      refine T_goto (tgt := 40) dX11_opposite_36 (by decide) ?_
      exact T_iret dX11_opposite_40 rfl (hQ _ _ h)

theorem W_X11_even {G : GT} {d : Nat} (hd : 6 ≤ d) {x1 : Int}   {v : VT} {q : Int → VT → Prop} {Q : Option Vl → List Sh → VT → Prop} (h : P_X11_even x1 v q) (hQ : ∀ r w, q r w → Q (some (vI r)) SH w) : n_T G d 0 0 mX11_even 0 [vR 218, vI x1, vS 9, vS 9] [] SH v Q := by
  unfold P_X11_even at h
  refine T_aload_n dX11_even_0 rfl ?_
  refine U_callV (as := []) (st := []) dX11_even_1 kX11_sits lX11_305 SH_218 rfl rfl rfl rfl (Nat.le_of_ble_eq_true rfl) (Nat.le_of_ble_eq_true rfl) (by omega) ?_
  refine W_X11_sits (by omega)  h (fun r1 v1 h => ?_)
  show n_T G d 0 0 mX11_even 4 [vR 218, vI x1, vS 9, vS 9] [vI r1] SH v1 Q
  refine U_if_eq (tgt := 24) dX11_even_4 (by decide) (fun hc => ?_) (fun hc => ?_)
  · replace h := h.1 hc
    refine T_iconst dX11_even_24 (by decide) ?_
    exact T_iret dX11_even_25 rfl (hQ _ _ h)
  · replace h := h.2 hc
    refine T_aload_n dX11_even_7 rfl ?_
    refine T_getI dX11_even_8 fX11_222 rfl SH_218 ?_
    refine U_if_eq (tgt := 24) dX11_even_11 (by decide) (fun hc => ?_) (fun hc => ?_)
    · replace h := h.1 hc
      refine T_iconst dX11_even_24 (by decide) ?_
      exact T_iret dX11_even_25 rfl (hQ _ _ h)
    · replace h := h.2 hc
      refine T_iload_n dX11_even_14 rfl ?_
      refine T_i2l dX11_even_15 ?_
      refine T_lconst dX11_even_16 ?_
      refine T_lconst dX11_even_17 ?_
      refine U_callS (as := [vJ x1, vJ 0, vJ 1]) (st := []) dX11_even_18 kX11_isIn lX11_109 rfl rfl (Nat.le_of_ble_eq_true rfl) (Nat.le_of_ble_eq_true rfl) (by omega) ?_
      refine W_X11_isIn (by omega)  h (fun r18 h => ?_)
      show n_T G d 0 0 mX11_even 21 [vR 218, vI x1, vS 9, vS 9] [vI r18] SH v1 Q
      refine U_if_ne (tgt := 26) dX11_even_21 (by decide) (fun hc => ?_) (fun hc => ?_)
      · replace h := h.1 hc
        refine T_iconst dX11_even_26 (by decide) ?_
        refine T_istore_n dX11_even_27 (by decide) rfl ?_
        refine T_iconst dX11_even_28 (by decide) ?_
        refine T_istore_n dX11_even_29 (by decide) rfl ?_
        refine T_drop (h (fun (i2 : Int) (i3 : Int) => n_T G d 0 0 mX11_even 30 [vR 218, vI x1, vI i2, vI i3] [] SH v1 Q) (fun i2 i3 h => ?_)) ⟨Or.inl rfl, Or.inl rfl, Or.inl rfl, Or.inl rfl, trivial⟩
        refine T_iload_n dX11_even_30 rfl ?_
        refine T_aload_n dX11_even_31 rfl ?_
        refine T_getI dX11_even_32 fX11_222 rfl SH_218 ?_
        refine U_icmp_ge (tgt := 59) dX11_even_35 (by decide) (fun hc => ?_) (fun hc => ?_)
        · replace h := h.1 hc
          refine T_iload_n dX11_even_59 rfl ?_
          refine U_if_ne (tgt := 67) dX11_even_60 (by decide) (fun hc => ?_) (fun hc => ?_)
          · replace h := h.1 hc
            refine T_aload_n dX11_even_67 rfl ?_
            refine T_iload_n dX11_even_68 rfl ?_
            refine U_callV (as := [vI i2]) (st := []) dX11_even_69 kX11_costOf lX11_302 SH_218 rfl rfl rfl rfl (Nat.le_of_ble_eq_true rfl) (Nat.le_of_ble_eq_true rfl) (by omega) ?_
            refine W_X11_costOf (by omega)  h (fun r69 h => ?_)
            show n_T G d 0 0 mX11_even 72 [vR 218, vI x1, vI i2, vI i3] [vI r69] SH v1 Q
            exact T_iret dX11_even_72 rfl (hQ _ _ h)
          · replace h := h.2 hc
            refine T_iload_n dX11_even_63 rfl ?_
            refine T_goto (tgt := 72) dX11_even_64 (by decide) ?_
            exact T_iret dX11_even_72 rfl (hQ _ _ h)
        · replace h := h.2 hc
          refine T_aload_n dX11_even_38 rfl ?_
          refine T_iload_n dX11_even_39 rfl ?_
          refine U_callV (as := [vI i3]) (st := []) dX11_even_40 kX11_costOf lX11_302 SH_218 rfl rfl rfl rfl (Nat.le_of_ble_eq_true rfl) (Nat.le_of_ble_eq_true rfl) (by omega) ?_
          refine W_X11_costOf (by omega)  h (fun r40 h => ?_)
          show n_T G d 0 0 mX11_even 43 [vR 218, vI x1, vI i2, vI i3] [vI r40] SH v1 Q
          refine T_aload_n dX11_even_43 rfl ?_
          refine T_iload_n dX11_even_44 rfl ?_
          refine U_callV (as := [vI i2]) (st := [vI r40]) dX11_even_45 kX11_costOf lX11_302 SH_218 rfl rfl rfl rfl (Nat.le_of_ble_eq_true rfl) (Nat.le_of_ble_eq_true rfl) (by omega) ?_
          refine W_X11_costOf (by omega)  h (fun r45 h => ?_)
          show n_T G d 0 0 mX11_even 48 [vR 218, vI x1, vI i2, vI i3] [vI r45, vI r40] SH v1 Q
          refine U_icmp_le (tgt := 53) dX11_even_48 (by decide) (fun hc => ?_) (fun hc => ?_)
          · replace h := h.1 hc
            refine U_iinc dX11_even_53 rfl (by decide) rfl h.1 ?_
            replace h := h.2
            refine T_goto (tgt := 30) dX11_even_56 (by decide) ?_
            exact T_drop h ⟨Or.inl rfl, Or.inl rfl, Or.inl rfl, Or.inl rfl, trivial⟩
          · replace h := h.2 hc
            refine T_iload_n dX11_even_51 rfl ?_
            refine T_istore_n dX11_even_52 (by decide) rfl ?_
            refine U_iinc dX11_even_53 rfl (by decide) rfl h.1 ?_
            replace h := h.2
            refine T_goto (tgt := 30) dX11_even_56 (by decide) ?_
            exact T_drop h ⟨Or.inl rfl, Or.inl rfl, Or.inl rfl, Or.inl rfl, trivial⟩
      · replace h := h.2 hc
        refine T_iconst dX11_even_24 (by decide) ?_
        exact T_iret dX11_even_25 rfl (hQ _ _ h)

theorem W_X11_few {G : GT} {d : Nat} (hd : 6 ≤ d)    {v : VT} {q : Int → VT → Prop} {Q : Option Vl → List Sh → VT → Prop} (h : P_X11_few  v q) (hQ : ∀ r w, q r w → Q (some (vI r)) SH w) : n_T G d 0 0 mX11_few 0 [vR 218, vS 9, vS 9, vS 9, vS 9, vS 9, vS 9] [] SH v Q := by
  unfold P_X11_few at h
  refine T_aload_n dX11_few_0 rfl ?_
  refine U_callV (as := []) (st := []) dX11_few_1 kX11_sits lX11_305 SH_218 rfl rfl rfl rfl (Nat.le_of_ble_eq_true rfl) (Nat.le_of_ble_eq_true rfl) (by omega) ?_
  refine W_X11_sits (by omega)  h (fun r1 v1 h => ?_)
  show n_T G d 0 0 mX11_few 4 [vR 218, vS 9, vS 9, vS 9, vS 9, vS 9, vS 9] [vI r1] SH v1 Q
  refine U_if_eq (tgt := 16) dX11_few_4 (by decide) (fun hc => ?_) (fun hc => ?_)
  · replace h := h.1 hc
    refine T_iconst dX11_few_16 (by decide) ?_
    exact T_iret dX11_few_17 rfl (hQ _ _ h)
  · replace h := h.2 hc
    refine T_aload_n dX11_few_7 rfl ?_
    refine T_getI dX11_few_8 fX11_222 rfl SH_218 ?_
    refine T_bipush dX11_few_11 (by decide) ?_
    refine U_icmp_le (tgt := 18) dX11_few_13 (by decide) (fun hc => ?_) (fun hc => ?_)
    · replace h := h.1 hc
      refine T_iconst dX11_few_18 (by decide) ?_
      refine T_aload_n dX11_few_19 rfl ?_
      refine T_getI dX11_few_20 fX11_222 rfl SH_218 ?_
      refine U_imul dX11_few_23 h.1 ?_
      replace h := h.2
      refine U_istore_n dX11_few_24 (by decide) rfl (fun l1 el1 => ?_)
      replace h := h l1 el1
      refine T_iconst dX11_few_25 (by decide) ?_
      refine T_istore_n dX11_few_26 (by decide) rfl ?_
      refine n_cut (h (fun (v79 : VT) => n_T G d 0 0 mX11_few 79 [vR 218, vI l1, vS 9, vS 9, vS 9, vS 9, vS 9] [] SH v79 Q)) ?_ ?_
      · intro v79 h
        refine T_aload_n dX11_few_79 rfl ?_
        refine T_getR (r := 234) dX11_few_80 fX11_61 rfl SH_218 rfl ?_
        refine T_iconst dX11_few_83 (by decide) ?_
        refine T_iconst dX11_few_84 (by decide) ?_
        refine U_bast dX11_few_85 SH_234 (by decide) (fun v85 ev85 => ?_)
        replace h := h v85 ev85
        refine T_iconst dX11_few_86 (by decide) ?_
        refine T_istore_n dX11_few_87 (by decide) rfl ?_
        refine n_cut (h (fun (v215 : VT) => n_T G d 0 0 mX11_few 215 [vR 218, vI l1, vS 9, vS 9, vS 9, vS 9, vS 9] [] SH v215 Q)) ?_ ?_
        · intro v215 h
          refine T_aload_n dX11_few_215 rfl ?_
          refine T_getI dX11_few_216 fX11_222 rfl SH_218 ?_
          refine T_aload_n dX11_few_219 rfl ?_
          refine T_getR (r := 234) dX11_few_220 fX11_61 rfl SH_218 rfl ?_
          refine T_iconst dX11_few_223 (by decide) ?_
          refine T_iload_n dX11_few_224 rfl ?_
          refine T_ishl dX11_few_225 ?_
          refine T_iconst dX11_few_226 (by decide) ?_
          refine U_isub dX11_few_227 h.1 ?_
          replace h := h.2
          refine T_bald dX11_few_228 SH_234 h.1 ?_
          replace h := h.2
          refine U_isub dX11_few_229 h.1 ?_
          replace h := h.2
          exact T_iret dX11_few_230 rfl (hQ _ _ h)
        · intro h
          refine T_drop (h (fun (i2 : Int) (v88 : VT) => n_T G d 0 0 mX11_few 88 [vR 218, vI l1, vI i2, vS 9, vS 9, vS 9, vS 9] [] SH v88 Q) (fun i2 v88 h => ?_)) ⟨Or.inl rfl, Or.inl rfl, Or.inl rfl, Or.inr rfl, Or.inr rfl, Or.inr rfl, Or.inr rfl, trivial⟩
          refine T_iload_n dX11_few_88 rfl ?_
          refine T_iconst dX11_few_89 (by decide) ?_
          refine T_iload_n dX11_few_90 rfl ?_
          refine T_ishl dX11_few_91 ?_
          refine U_icmp_ge (tgt := 215) dX11_few_92 (by decide) (fun hc => ?_) (fun hc => ?_)
          · replace h := h.1 hc
            exact T_drop h ⟨Or.inl rfl, Or.inl rfl, Or.inr rfl, Or.inr rfl, Or.inr rfl, Or.inr rfl, Or.inr rfl, trivial⟩
          · replace h := h.2 hc
            refine T_iconst dX11_few_95 (by decide) ?_
            refine T_istore_n dX11_few_96 (by decide) rfl ?_
            refine n_cut (h (fun (i3 : Int) => n_T G d 0 0 mX11_few 111 [vR 218, vI l1, vI i2, vI i3, vS 9, vS 9, vS 9] [] SH v88 Q)) ?_ ?_
            · intro i3 h
              refine T_iload_n dX11_few_111 rfl ?_
              refine T_iconst dX11_few_112 (by decide) ?_
              refine T_iload_n dX11_few_113 rfl ?_
              refine T_ishl dX11_few_114 ?_
              refine T_iconst dX11_few_115 (by decide) ?_
              refine T_ixor dX11_few_116 ?_
              refine T_iand dX11_few_117 ?_
              refine U_istore dX11_few_118 (by decide) rfl (fun l4 el4 => ?_)
              replace h := h l4 el4
              refine T_aload_n dX11_few_120 rfl ?_
              refine T_getR (r := 234) dX11_few_121 fX11_61 rfl SH_218 rfl ?_
              refine T_iload dX11_few_124 rfl ?_
              refine T_bald dX11_few_126 SH_234 h.1 ?_
              replace h := h.2
              refine U_istore dX11_few_127 (by decide) rfl (fun l5 el5 => ?_)
              replace h := h l5 el5
              refine T_iconst dX11_few_129 (by decide) ?_
              refine T_istore dX11_few_130 (by decide) rfl ?_
              refine T_drop (h (fun (i5 : Int) (i6 : Int) => n_T G d 0 0 mX11_few 132 [vR 218, vI l1, vI i2, vI i3, vI l4, vI i5, vI i6] [] SH v88 Q) (fun i5 i6 h => ?_)) ⟨Or.inl rfl, Or.inl rfl, Or.inl rfl, Or.inl rfl, Or.inl rfl, Or.inl rfl, Or.inl rfl, trivial⟩
              refine T_iload dX11_few_132 rfl ?_
              refine T_iload_n dX11_few_134 rfl ?_
              refine U_icmp_ge (tgt := 200) dX11_few_135 (by decide) (fun hc => ?_) (fun hc => ?_)
              · replace h := h.1 hc
                refine T_aload_n dX11_few_200 rfl ?_
                refine T_getR (r := 234) dX11_few_201 fX11_61 rfl SH_218 rfl ?_
                refine T_iload_n dX11_few_204 rfl ?_
                refine T_iload dX11_few_205 rfl ?_
                refine T_i2b dX11_few_207 ?_
                refine U_bast dX11_few_208 SH_234 h.1 (fun v208 ev208 => ?_)
                replace h := h.2 v208 ev208
                refine U_iinc dX11_few_209 rfl (by decide) rfl h.1 ?_
                replace h := h.2
                refine T_goto (tgt := 88) dX11_few_212 (by decide) ?_
                exact T_drop h ⟨Or.inl rfl, Or.inl rfl, Or.inl rfl, Or.inr rfl, Or.inr rfl, Or.inr rfl, Or.inr rfl, trivial⟩
              · replace h := h.2 hc
                refine T_aload_n dX11_few_138 rfl ?_
                refine T_getR (r := 235) dX11_few_139 fX11_65 rfl SH_218 rfl ?_
                refine T_iload_n dX11_few_142 rfl ?_
                refine T_iald dX11_few_143 SH_235 h.1 ?_
                replace h := h.2
                refine T_iload dX11_few_144 rfl ?_
                refine T_iand dX11_few_146 ?_
                refine T_iload dX11_few_147 rfl ?_
                refine U_callS (as := [vI (i_and (v88 235 i3.toNat) l4), vI i6]) (st := []) dX11_few_149 kX11_isOf lX11_281 rfl rfl (Nat.le_of_ble_eq_true rfl) (Nat.le_of_ble_eq_true rfl) (by omega) ?_
                refine W_X11_isOf (by omega)  h (fun r149 h => ?_)
                show n_T G d 0 0 mX11_few 152 [vR 218, vI l1, vI i2, vI i3, vI l4, vI i5, vI i6] [vI r149] SH v88 Q
                refine U_if_eq (tgt := 194) dX11_few_152 (by decide) (fun hc => ?_) (fun hc => ?_)
                · replace h := h.1 hc
                  refine U_iinc dX11_few_194 rfl (by decide) rfl h.1 ?_
                  replace h := h.2
                  refine T_goto (tgt := 132) dX11_few_197 (by decide) ?_
                  exact T_drop h ⟨Or.inl rfl, Or.inl rfl, Or.inl rfl, Or.inl rfl, Or.inl rfl, Or.inl rfl, Or.inl rfl, trivial⟩
                · replace h := h.2 hc
                  refine T_aload_n dX11_few_155 rfl ?_
                  refine T_getR (r := 234) dX11_few_156 fX11_61 rfl SH_218 rfl ?_
                  refine T_iload dX11_few_159 rfl ?_
                  refine T_iconst dX11_few_161 (by decide) ?_
                  refine T_iload dX11_few_162 rfl ?_
                  refine T_ishl dX11_few_164 ?_
                  refine T_iconst dX11_few_165 (by decide) ?_
                  refine T_ixor dX11_few_166 ?_
                  refine T_iand dX11_few_167 ?_
                  refine T_bald dX11_few_168 SH_234 h.1 ?_
                  replace h := h.2
                  refine T_iconst dX11_few_169 (by decide) ?_
                  refine U_iadd dX11_few_170 h.1 ?_
                  replace h := h.2
                  refine T_iload dX11_few_171 rfl ?_
                  refine U_icmp_le (tgt := 194) dX11_few_173 (by decide) (fun hc => ?_) (fun hc => ?_)
                  · replace h := h.1 hc
                    refine U_iinc dX11_few_194 rfl (by decide) rfl h.1 ?_
                    replace h := h.2
                    refine T_goto (tgt := 132) dX11_few_197 (by decide) ?_
                    exact T_drop h ⟨Or.inl rfl, Or.inl rfl, Or.inl rfl, Or.inl rfl, Or.inl rfl, Or.inl rfl, Or.inl rfl, trivial⟩
                  · replace h := h.2 hc
                    refine T_aload_n dX11_few_176 rfl ?_
                    refine T_getR (r := 234) dX11_few_177 fX11_61 rfl SH_218 rfl ?_
                    refine T_iload dX11_few_180 rfl ?_
                    refine T_iconst dX11_few_182 (by decide) ?_
                    refine T_iload dX11_few_183 rfl ?_
                    refine T_ishl dX11_few_185 ?_
                    refine T_iconst dX11_few_186 (by decide) ?_
                    refine T_ixor dX11_few_187 ?_
                    refine T_iand dX11_few_188 ?_
                    refine T_bald dX11_few_189 SH_234 h.1 ?_
                    replace h := h.2
                    refine T_iconst dX11_few_190 (by decide) ?_
                    refine U_iadd dX11_few_191 h.1 ?_
                    replace h := h.2
                    refine U_istore dX11_few_192 (by decide) rfl (fun l5_1 el5_1 => ?_)
                    replace h := h l5_1 el5_1
                    refine U_iinc dX11_few_194 rfl (by decide) rfl h.1 ?_
                    replace h := h.2
                    refine T_goto (tgt := 132) dX11_few_197 (by decide) ?_
                    exact T_drop h ⟨Or.inl rfl, Or.inl rfl, Or.inl rfl, Or.inl rfl, Or.inl rfl, Or.inl rfl, Or.inl rfl, trivial⟩
            · intro h
              refine T_drop (h (fun (i3_1 : Int) => n_T G d 0 0 mX11_few 97 [vR 218, vI l1, vI i2, vI i3_1, vS 9, vS 9, vS 9] [] SH v88 Q) (fun i3_1 h => ?_)) ⟨Or.inl rfl, Or.inl rfl, Or.inl rfl, Or.inl rfl, Or.inr rfl, Or.inr rfl, Or.inr rfl, trivial⟩
              refine T_iload_n dX11_few_97 rfl ?_
              refine T_iload_n dX11_few_98 rfl ?_
              refine T_iconst dX11_few_99 (by decide) ?_
              refine U_iadd dX11_few_100 h.1 ?_
              replace h := h.2
              refine T_ishr dX11_few_101 ?_
              refine U_if_eq (tgt := 111) dX11_few_102 (by decide) (fun hc => ?_) (fun hc => ?_)
              · replace h := h.1 hc
                exact T_drop h ⟨Or.inl rfl, Or.inl rfl, Or.inl rfl, Or.inl rfl, Or.inr rfl, Or.inr rfl, Or.inr rfl, trivial⟩
              · replace h := h.2 hc
                refine U_iinc dX11_few_105 rfl (by decide) rfl h.1 ?_
                replace h := h.2
                refine T_goto (tgt := 97) dX11_few_108 (by decide) ?_
                exact T_drop h ⟨Or.inl rfl, Or.inl rfl, Or.inl rfl, Or.inl rfl, Or.inr rfl, Or.inr rfl, Or.inr rfl, trivial⟩
      · intro h
        refine T_drop (h (fun (i2_1 : Int) (v27 : VT) => n_T G d 0 0 mX11_few 27 [vR 218, vI l1, vI i2_1, vS 9, vS 9, vS 9, vS 9] [] SH v27 Q) (fun i2_1 v27 h => ?_)) ⟨Or.inl rfl, Or.inl rfl, Or.inl rfl, Or.inr rfl, Or.inr rfl, Or.inr rfl, Or.inr rfl, trivial⟩
        refine T_iload_n dX11_few_27 rfl ?_
        refine T_iload_n dX11_few_28 rfl ?_
        refine U_icmp_ge (tgt := 79) dX11_few_29 (by decide) (fun hc => ?_) (fun hc => ?_)
        · replace h := h.1 hc
          exact T_drop h ⟨Or.inl rfl, Or.inl rfl, Or.inr rfl, Or.inr rfl, Or.inr rfl, Or.inr rfl, Or.inr rfl, trivial⟩
        · replace h := h.2 hc
          refine T_aload_n dX11_few_32 rfl ?_
          refine T_getR (r := 235) dX11_few_33 fX11_65 rfl SH_218 rfl ?_
          refine T_iload_n dX11_few_36 rfl ?_
          refine T_iconst dX11_few_37 (by decide) ?_
          refine U_iast dX11_few_38 SH_235 h.1 (fun v38 ev38 => ?_)
          replace h := h.2 v38 ev38
          refine T_iconst dX11_few_39 (by decide) ?_
          refine T_istore_n dX11_few_40 (by decide) rfl ?_
          refine T_drop (h (fun (i3_2 : Int) (v41 : VT) => n_T G d 0 0 mX11_few 41 [vR 218, vI l1, vI i2_1, vI i3_2, vS 9, vS 9, vS 9] [] SH v41 Q) (fun i3_2 v41 h => ?_)) ⟨Or.inl rfl, Or.inl rfl, Or.inl rfl, Or.inl rfl, Or.inr rfl, Or.inr rfl, Or.inr rfl, trivial⟩
          refine T_iload_n dX11_few_41 rfl ?_
          refine T_iload_n dX11_few_42 rfl ?_
          refine U_icmp_ge (tgt := 73) dX11_few_43 (by decide) (fun hc => ?_) (fun hc => ?_)
          · replace h := h.1 hc
            refine U_iinc dX11_few_73 rfl (by decide) rfl h.1 ?_
            replace h := h.2
            refine T_goto (tgt := 27) dX11_few_76 (by decide) ?_
            exact T_drop h ⟨Or.inl rfl, Or.inl rfl, Or.inl rfl, Or.inr rfl, Or.inr rfl, Or.inr rfl, Or.inr rfl, trivial⟩
          · replace h := h.2 hc
            refine T_aload_n dX11_few_46 rfl ?_
            refine T_iload_n dX11_few_47 rfl ?_
            refine T_iload_n dX11_few_48 rfl ?_
            refine U_callV (as := [vI i2_1, vI i3_2]) (st := []) dX11_few_49 kX11_doFit lX11_326 SH_218 rfl rfl rfl rfl (Nat.le_of_ble_eq_true rfl) (Nat.le_of_ble_eq_true rfl) (by omega) ?_
            refine W_X11_doFit (by omega)  h (fun r49 h => ?_)
            show n_T G d 0 0 mX11_few 52 [vR 218, vI l1, vI i2_1, vI i3_2, vS 9, vS 9, vS 9] [vI r49] SH v41 Q
            refine U_if_eq (tgt := 67) dX11_few_52 (by decide) (fun hc => ?_) (fun hc => ?_)
            · replace h := h.1 hc
              refine U_iinc dX11_few_67 rfl (by decide) rfl h.1 ?_
              replace h := h.2
              refine T_goto (tgt := 41) dX11_few_70 (by decide) ?_
              exact T_drop h ⟨Or.inl rfl, Or.inl rfl, Or.inl rfl, Or.inl rfl, Or.inr rfl, Or.inr rfl, Or.inr rfl, trivial⟩
            · replace h := h.2 hc
              refine T_aload_n dX11_few_55 rfl ?_
              refine T_getR (r := 235) dX11_few_56 fX11_65 rfl SH_218 rfl ?_
              refine T_iload_n dX11_few_59 rfl ?_
              refine T_dup2 dX11_few_60 rfl rfl ?_
              refine T_iald dX11_few_61 SH_235 h.1 ?_
              replace h := h.2
              refine T_iconst dX11_few_62 (by decide) ?_
              refine T_iload_n dX11_few_63 rfl ?_
              refine T_ishl dX11_few_64 ?_
              refine T_ior dX11_few_65 ?_
              refine U_iast dX11_few_66 SH_235 h.1 (fun v66 ev66 => ?_)
              replace h := h.2 v66 ev66
              refine U_iinc dX11_few_67 rfl (by decide) rfl h.1 ?_
              replace h := h.2
              refine T_goto (tgt := 41) dX11_few_70 (by decide) ?_
              exact T_drop h ⟨Or.inl rfl, Or.inl rfl, Or.inl rfl, Or.inl rfl, Or.inr rfl, Or.inr rfl, Or.inr rfl, trivial⟩
    · replace h := h.2 hc
      refine T_iconst dX11_few_16 (by decide) ?_
      exact T_iret dX11_few_17 rfl (hQ _ _ h)

theorem W_X11_medianOf {G : GT} {d : Nat} (hd : 3 ≤ d) {x1 : Int} {x2 : Int} {x3 : Int}   {v : VT} {q : Int → Prop} {Q : Option Vl → List Sh → VT → Prop} (h : P_X11_medianOf x1 x2 x3 v q) (hQ : ∀ r, q r → Q (some (vI r)) SH v) : n_T G d 0 0 mX11_medianOf 0 [vR 218, vI x1, vI x2, vI x3] [] SH v Q := by
  unfold P_X11_medianOf at h
  refine T_aload_n dX11_medianOf_0 rfl ?_
  refine T_iload_n dX11_medianOf_1 rfl ?_
  refine T_iload_n dX11_medianOf_2 rfl ?_
  refine U_callV (as := [vI x1, vI x2]) (st := []) dX11_medianOf_3 kX11_betweenOf lX11_273 SH_218 rfl rfl rfl rfl (Nat.le_of_ble_eq_true rfl) (Nat.le_of_ble_eq_true rfl) (by omega) ?_
  refine W_X11_betweenOf (by omega)  h (fun r3 h => ?_)
  show n_T G d 0 0 mX11_medianOf 6 [vR 218, vI x1, vI x2, vI x3] [vI r3] SH v Q
  refine T_aload_n dX11_medianOf_6 rfl ?_
  refine T_iload_n dX11_medianOf_7 rfl ?_
  refine T_iload_n dX11_medianOf_8 rfl ?_
  refine U_callV (as := [vI x2, vI x3]) (st := [vI r3]) dX11_medianOf_9 kX11_betweenOf lX11_273 SH_218 rfl rfl rfl rfl (Nat.le_of_ble_eq_true rfl) (Nat.le_of_ble_eq_true rfl) (by omega) ?_
  refine W_X11_betweenOf (by omega)  h (fun r9 h => ?_)
  show n_T G d 0 0 mX11_medianOf 12 [vR 218, vI x1, vI x2, vI x3] [vI r9, vI r3] SH v Q
  refine T_iand dX11_medianOf_12 ?_
  refine T_aload_n dX11_medianOf_13 rfl ?_
  refine T_iload_n dX11_medianOf_14 rfl ?_
  refine T_iload_n dX11_medianOf_15 rfl ?_
  refine U_callV (as := [vI x1, vI x3]) (st := [vI (i_and r3 r9)]) dX11_medianOf_16 kX11_betweenOf lX11_273 SH_218 rfl rfl rfl rfl (Nat.le_of_ble_eq_true rfl) (Nat.le_of_ble_eq_true rfl) (by omega) ?_
  refine W_X11_betweenOf (by omega)  h (fun r16 h => ?_)
  show n_T G d 0 0 mX11_medianOf 19 [vR 218, vI x1, vI x2, vI x3] [vI r16, vI (i_and r3 r9)] SH v Q
  refine T_iand dX11_medianOf_19 ?_
  exact T_iret dX11_medianOf_20 rfl (hQ _ h)

theorem W_X11_median {G : GT} {d : Nat} (hd : 6 ≤ d) {x1 : Int} {x2 : Int} {x3 : Int}   {v : VT} {q : Int → VT → Prop} {Q : Option Vl → List Sh → VT → Prop} (h : P_X11_median x1 x2 x3 v q) (hQ : ∀ r w, q r w → Q (some (vI r)) SH w) : n_T G d 0 0 mX11_median 0 [vR 218, vI x1, vI x2, vI x3] [] SH v Q := by
  unfold P_X11_median at h
  refine T_aload_n dX11_median_0 rfl ?_
  refine T_iload_n dX11_median_1 rfl ?_
  refine T_iload_n dX11_median_2 rfl ?_
  refine U_callV (as := [vI x1, vI x2]) (st := []) dX11_median_3 kX11_areNodes lX11_268 SH_218 rfl rfl rfl rfl (Nat.le_of_ble_eq_true rfl) (Nat.le_of_ble_eq_true rfl) (by omega) ?_
  refine W_X11_areNodes (by omega)  h (fun r3 v3 h => ?_)
  show n_T G d 0 0 mX11_median 6 [vR 218, vI x1, vI x2, vI x3] [vI r3] SH v3 Q
  refine U_if_eq (tgt := 27) dX11_median_6 (by decide) (fun hc => ?_) (fun hc => ?_)
  · replace h := h.1 hc
    refine T_iconst dX11_median_27 (by decide) ?_
    exact T_iret dX11_median_28 rfl (hQ _ _ h)
  · replace h := h.2 hc
    refine T_aload_n dX11_median_9 rfl ?_
    refine T_iload_n dX11_median_10 rfl ?_
    refine U_callV (as := [vI x3]) (st := []) dX11_median_11 kX11_isNode lX11_257 SH_218 rfl rfl rfl rfl (Nat.le_of_ble_eq_true rfl) (Nat.le_of_ble_eq_true rfl) (by omega) ?_
    refine W_X11_isNode (by omega)  h (fun r11 h => ?_)
    show n_T G d 0 0 mX11_median 14 [vR 218, vI x1, vI x2, vI x3] [vI r11] SH v3 Q
    refine U_if_eq (tgt := 27) dX11_median_14 (by decide) (fun hc => ?_) (fun hc => ?_)
    · replace h := h.1 hc
      refine T_iconst dX11_median_27 (by decide) ?_
      exact T_iret dX11_median_28 rfl (hQ _ _ h)
    · replace h := h.2 hc
      refine T_aload_n dX11_median_17 rfl ?_
      refine T_iload_n dX11_median_18 rfl ?_
      refine T_iload_n dX11_median_19 rfl ?_
      refine T_iload_n dX11_median_20 rfl ?_
      refine U_callV (as := [vI x1, vI x2, vI x3]) (st := []) dX11_median_21 kX11_medianOf lX11_335 SH_218 rfl rfl rfl rfl (Nat.le_of_ble_eq_true rfl) (Nat.le_of_ble_eq_true rfl) (by omega) ?_
      refine W_X11_medianOf (by omega)  h (fun r21 h => ?_)
      show n_T G d 0 0 mX11_median 24 [vR 218, vI x1, vI x2, vI x3] [vI r21] SH v3 Q
      refine T_goto (tgt := 28) dX11_median_24 (by decide) ?_
      exact T_iret dX11_median_28 rfl (hQ _ _ h)

theorem W_X11_medians {G : GT} {d : Nat} (hd : 5 ≤ d) {x1 : Int}   {v : VT} {q : Int → VT → Prop} {Q : Option Vl → List Sh → VT → Prop} (h : P_X11_medians x1 v q) (hQ : ∀ r w, q r w → Q (some (vI r)) SH w) : n_T G d 0 0 mX11_medians 0 [vR 218, vI x1, vS 9, vS 9, vS 9, vS 9] [] SH v Q := by
  unfold P_X11_medians at h
  refine T_iload_n dX11_medians_0 rfl ?_
  refine T_i2l dX11_medians_1 ?_
  refine T_lconst dX11_medians_2 ?_
  refine T_ldc2 (n := 3) dX11_medians_3 cX11_260 (by unfold r64; omega) ?_
  refine U_callS (as := [vJ x1, vJ 0, vJ 3]) (st := []) dX11_medians_6 kX11_isIn lX11_109 rfl rfl (Nat.le_of_ble_eq_true rfl) (Nat.le_of_ble_eq_true rfl) (by omega) ?_
  refine W_X11_isIn (by omega)  h (fun r6 h => ?_)
  show n_T G d 0 0 mX11_medians 9 [vR 218, vI x1, vS 9, vS 9, vS 9, vS 9] [vI r6] SH v Q
  refine U_if_ne (tgt := 14) dX11_medians_9 (by decide) (fun hc => ?_) (fun hc => ?_)
  · replace h := h.1 hc
    refine T_aload_n dX11_medians_14 rfl ?_
    refine U_callV (as := []) (st := []) dX11_medians_15 kX11_lays lX11_244 SH_218 rfl rfl rfl rfl (Nat.le_of_ble_eq_true rfl) (Nat.le_of_ble_eq_true rfl) (by omega) ?_
    refine W_X11_lays (by omega)  h (fun v15 h => ?_)
    show n_T G d 0 0 mX11_medians 18 [vR 218, vI x1, vS 9, vS 9, vS 9, vS 9] [] SH v15 Q
    refine T_aload_n dX11_medians_18 rfl ?_
    refine T_getR (r := 222) dX11_medians_19 fX11_23 rfl SH_218 rfl ?_
    refine T_iconst dX11_medians_22 (by decide) ?_
    refine T_iald dX11_medians_23 SH_222 (by decide) ?_
    refine T_istore_n dX11_medians_24 (by decide) rfl ?_
    refine T_iconst dX11_medians_25 (by decide) ?_
    refine T_istore_n dX11_medians_26 (by decide) rfl ?_
    refine n_cut (h (fun (i3 : Int) (i4 : Int) (i5 : Int) => n_T G d 0 0 mX11_medians 71 [vS 9, vI x1, vS 9, vI i3, vI i4, vI i5] [] SH v15 Q)) ?_ ?_
    · intro i3 i4 i5 h
      refine T_iload_n dX11_medians_71 rfl ?_
      refine U_if_ne (tgt := 79) dX11_medians_72 (by decide) (fun hc => ?_) (fun hc => ?_)
      · replace h := h.1 hc
        refine T_iload_n dX11_medians_79 rfl ?_
        refine T_iconst dX11_medians_80 (by decide) ?_
        refine U_icmp_ne (tgt := 88) dX11_medians_81 (by decide) (fun hc => ?_) (fun hc => ?_)
        · replace h := h.1 hc
          refine T_iload_n dX11_medians_88 rfl ?_
          refine T_iconst dX11_medians_89 (by decide) ?_
          refine U_icmp_ne (tgt := 98) dX11_medians_90 (by decide) (fun hc => ?_) (fun hc => ?_)
          · replace h := h.1 hc
            refine T_iload dX11_medians_98 rfl ?_
            exact T_iret dX11_medians_100 rfl (hQ _ _ h)
          · replace h := h.2 hc
            refine T_iload dX11_medians_93 rfl ?_
            refine T_goto (tgt := 100) dX11_medians_95 (by decide) ?_
            exact T_iret dX11_medians_100 rfl (hQ _ _ h)
        · replace h := h.2 hc
          refine T_iload_n dX11_medians_84 rfl ?_
          refine T_goto (tgt := 100) dX11_medians_85 (by decide) ?_
          exact T_iret dX11_medians_100 rfl (hQ _ _ h)
      · replace h := h.2 hc
        refine T_iconst dX11_medians_75 (by decide) ?_
        refine T_goto (tgt := 100) dX11_medians_76 (by decide) ?_
        exact T_iret dX11_medians_100 rfl (hQ _ _ h)
    · intro h
      refine T_drop (h (fun (i3_1 : Int) => n_T G d 0 0 mX11_medians 27 [vR 218, vI x1, vI (v15 222 0), vI i3_1, vS 9, vS 9] [] SH v15 Q) (fun i3_1 h => ?_)) ⟨Or.inl rfl, Or.inl rfl, Or.inl rfl, Or.inl rfl, Or.inr rfl, Or.inr rfl, trivial⟩
      refine T_iload_n dX11_medians_27 rfl ?_
      refine T_iload_n dX11_medians_28 rfl ?_
      refine U_icmp_ge (tgt := 119) dX11_medians_29 (by decide) (fun hc => ?_) (fun hc => ?_)
      · replace h := h.1 hc
        refine T_iload_n dX11_medians_119 rfl ?_
        refine U_if_ne (tgt := 127) dX11_medians_120 (by decide) (fun hc => ?_) (fun hc => ?_)
        · replace h := h.1 hc
          refine T_iconst dX11_medians_127 (by decide) ?_
          exact T_iret dX11_medians_128 rfl (hQ _ _ h)
        · replace h := h.2 hc
          refine T_iconst dX11_medians_123 (by decide) ?_
          refine T_goto (tgt := 128) dX11_medians_124 (by decide) ?_
          exact T_iret dX11_medians_128 rfl (hQ _ _ h)
      · replace h := h.2 hc
        refine T_iload_n dX11_medians_32 rfl ?_
        refine T_iconst dX11_medians_33 (by decide) ?_
        refine U_iadd dX11_medians_34 h.1 ?_
        replace h := h.2
        refine T_istore dX11_medians_35 (by decide) rfl ?_
        refine T_drop (h (fun (i4_1 : Int) => n_T G d 0 0 mX11_medians 37 [vR 218, vI x1, vI (v15 222 0), vI i3_1, vI i4_1, vS 9] [] SH v15 Q) (fun i4_1 h => ?_)) ⟨Or.inl rfl, Or.inl rfl, Or.inl rfl, Or.inl rfl, Or.inl rfl, Or.inr rfl, trivial⟩
        refine T_iload dX11_medians_37 rfl ?_
        refine T_iload_n dX11_medians_39 rfl ?_
        refine U_icmp_ge (tgt := 113) dX11_medians_40 (by decide) (fun hc => ?_) (fun hc => ?_)
        · replace h := h.1 hc
          refine U_iinc dX11_medians_113 rfl (by decide) rfl h.1 ?_
          replace h := h.2
          refine T_goto (tgt := 27) dX11_medians_116 (by decide) ?_
          exact T_drop h ⟨Or.inl rfl, Or.inl rfl, Or.inl rfl, Or.inl rfl, Or.inr rfl, Or.inr rfl, trivial⟩
        · replace h := h.2 hc
          refine T_iload dX11_medians_43 rfl ?_
          refine T_iconst dX11_medians_45 (by decide) ?_
          refine U_iadd dX11_medians_46 h.1 ?_
          replace h := h.2
          refine T_istore dX11_medians_47 (by decide) rfl ?_
          refine T_drop (h (fun (i5_1 : Int) => n_T G d 0 0 mX11_medians 49 [vR 218, vI x1, vI (v15 222 0), vI i3_1, vI i4_1, vI i5_1] [] SH v15 Q) (fun i5_1 h => ?_)) ⟨Or.inl rfl, Or.inl rfl, Or.inl rfl, Or.inl rfl, Or.inl rfl, Or.inl rfl, trivial⟩
          refine T_iload dX11_medians_49 rfl ?_
          refine T_iload_n dX11_medians_51 rfl ?_
          refine U_icmp_ge (tgt := 107) dX11_medians_52 (by decide) (fun hc => ?_) (fun hc => ?_)
          · replace h := h.1 hc
            refine U_iinc dX11_medians_107 rfl (by decide) rfl h.1 ?_
            replace h := h.2
            refine T_goto (tgt := 37) dX11_medians_110 (by decide) ?_
            exact T_drop h ⟨Or.inl rfl, Or.inl rfl, Or.inl rfl, Or.inl rfl, Or.inl rfl, Or.inr rfl, trivial⟩
          · replace h := h.2 hc
            refine T_aload_n dX11_medians_55 rfl ?_
            refine T_iload_n dX11_medians_56 rfl ?_
            refine T_iload dX11_medians_57 rfl ?_
            refine T_iload dX11_medians_59 rfl ?_
            refine U_callV (as := [vI i3_1, vI i4_1, vI i5_1]) (st := []) dX11_medians_61 kX11_medianOf lX11_335 SH_218 rfl rfl rfl rfl (Nat.le_of_ble_eq_true rfl) (Nat.le_of_ble_eq_true rfl) (by omega) ?_
            refine W_X11_medianOf (by omega)  h (fun r61 h => ?_)
            show n_T G d 0 0 mX11_medians 64 [vR 218, vI x1, vI (v15 222 0), vI i3_1, vI i4_1, vI i5_1] [vI r61] SH v15 Q
            refine U_callS (as := [vI r61]) (st := []) dX11_medians_64 kX11_count lX11_299 rfl rfl (Nat.le_of_ble_eq_true rfl) (Nat.le_of_ble_eq_true rfl) (by omega) ?_
            refine W_X11_count (by omega)  h (fun r64 h => ?_)
            show n_T G d 0 0 mX11_medians 67 [vR 218, vI x1, vI (v15 222 0), vI i3_1, vI i4_1, vI i5_1] [vI r64] SH v15 Q
            refine T_iconst dX11_medians_67 (by decide) ?_
            refine U_icmp_eq (tgt := 101) dX11_medians_68 (by decide) (fun hc => ?_) (fun hc => ?_)
            · replace h := h.1 hc
              refine U_iinc dX11_medians_101 rfl (by decide) rfl h.1 ?_
              replace h := h.2
              refine T_goto (tgt := 49) dX11_medians_104 (by decide) ?_
              exact T_drop h ⟨Or.inl rfl, Or.inl rfl, Or.inl rfl, Or.inl rfl, Or.inl rfl, Or.inl rfl, trivial⟩
            · replace h := h.2 hc
              exact T_drop h ⟨Or.inr rfl, Or.inl rfl, Or.inr rfl, Or.inl rfl, Or.inl rfl, Or.inl rfl, trivial⟩
  · replace h := h.2 hc
    refine T_iconst dX11_medians_12 (by decide) ?_
    exact T_iret dX11_medians_13 rfl (hQ _ _ h)

theorem W_X11_vote {G : GT} {d : Nat} (hd : 3 ≤ d)    {v : VT} {q : Int → VT → Prop} {Q : Option Vl → List Sh → VT → Prop} (h : P_X11_vote  v q) (hQ : ∀ r w, q r w → Q (some (vI r)) SH w) : n_T G d 0 0 mX11_vote 0 [vR 218, vS 9, vS 9, vS 9] [] SH v Q := by
  unfold P_X11_vote at h
  refine T_aload_n dX11_vote_0 rfl ?_
  refine T_getI dX11_vote_1 fX11_96 rfl SH_218 ?_
  refine T_istore_n dX11_vote_4 (by decide) rfl ?_
  refine T_aload_n dX11_vote_5 rfl ?_
  refine T_iconst dX11_vote_6 (by decide) ?_
  refine U_putI dX11_vote_7 fX11_96 rfl rfl SH_218 (fun v7 ev7 => ?_)
  replace h := h v7 ev7
  refine T_iload_n dX11_vote_10 rfl ?_
  refine T_i2l dX11_vote_11 ?_
  refine T_lconst dX11_vote_12 ?_
  refine T_ldc2 (n := 15) dX11_vote_13 cX11_339 (by unfold r64; omega) ?_
  refine U_callS (as := [vJ (v 218 1), vJ 1, vJ 15]) (st := []) dX11_vote_16 kX11_isIn lX11_109 rfl rfl (Nat.le_of_ble_eq_true rfl) (Nat.le_of_ble_eq_true rfl) (by omega) ?_
  refine W_X11_isIn (by omega)  h (fun r16 h => ?_)
  show n_T G d 0 0 mX11_vote 19 [vR 218, vI (v 218 1), vS 9, vS 9] [vI r16] SH v7 Q
  refine T_istore_n dX11_vote_19 (by decide) rfl ?_
  refine T_iconst dX11_vote_20 (by decide) ?_
  refine T_istore_n dX11_vote_21 (by decide) rfl ?_
  refine n_cut (h (fun (i2 : Int) => n_T G d 0 0 mX11_vote 48 [vR 218, vI (v 218 1), vI i2, vS 9] [] SH v7 Q)) ?_ ?_
  · intro i2 h
    refine T_iload_n dX11_vote_48 rfl ?_
    refine U_if_ne (tgt := 58) dX11_vote_49 (by decide) (fun hc => ?_) (fun hc => ?_)
    · replace h := h.1 hc
      refine T_iconst dX11_vote_58 (by decide) ?_
      refine T_istore_n dX11_vote_59 (by decide) rfl ?_
      refine T_drop (h (fun (i3 : Int) (v60 : VT) => n_T G d 0 0 mX11_vote 60 [vR 218, vI (v 218 1), vS 9, vI i3] [] SH v60 Q) (fun i3 v60 h => ?_)) ⟨Or.inl rfl, Or.inl rfl, Or.inr rfl, Or.inl rfl, trivial⟩
      refine T_iload_n dX11_vote_60 rfl ?_
      refine T_iload_n dX11_vote_61 rfl ?_
      refine U_icmp_ge (tgt := 83) dX11_vote_62 (by decide) (fun hc => ?_) (fun hc => ?_)
      · replace h := h.1 hc
        refine T_aload_n dX11_vote_83 rfl ?_
        refine T_iload_n dX11_vote_84 rfl ?_
        refine U_putI dX11_vote_85 fX11_202 rfl rfl SH_218 (fun v85 ev85 => ?_)
        replace h := h v85 ev85
        refine T_iload_n dX11_vote_88 rfl ?_
        exact T_iret dX11_vote_89 rfl (hQ _ _ h)
      · replace h := h.2 hc
        refine T_aload_n dX11_vote_65 rfl ?_
        refine T_getR (r := 236) dX11_vote_66 fX11_68 rfl SH_218 rfl ?_
        refine T_iload_n dX11_vote_69 rfl ?_
        refine T_aload_n dX11_vote_70 rfl ?_
        refine T_getR (r := 219) dX11_vote_71 fX11_7 rfl SH_218 rfl ?_
        refine T_iload_n dX11_vote_74 rfl ?_
        refine T_iald dX11_vote_75 SH_219 h.1 ?_
        replace h := h.2
        refine U_iast dX11_vote_76 SH_236 h.1 (fun v76 ev76 => ?_)
        replace h := h.2 v76 ev76
        refine U_iinc dX11_vote_77 rfl (by decide) rfl h.1 ?_
        replace h := h.2
        refine T_goto (tgt := 60) dX11_vote_80 (by decide) ?_
        exact T_drop h ⟨Or.inl rfl, Or.inl rfl, Or.inr rfl, Or.inl rfl, trivial⟩
    · replace h := h.2 hc
      refine T_aload_n dX11_vote_52 rfl ?_
      refine T_iconst dX11_vote_53 (by decide) ?_
      refine U_callV (as := [vI 1]) (st := []) dX11_vote_54 kX11_refuses lX11_99 SH_218 rfl rfl rfl rfl (Nat.le_of_ble_eq_true rfl) (Nat.le_of_ble_eq_true rfl) (by omega) ?_
      refine W_X11_refuses (by omega)  h (fun r54 v54 h => ?_)
      show n_T G d 0 0 mX11_vote 57 [vR 218, vI (v 218 1), vI i2, vS 9] [vI r54] SH v54 Q
      exact T_iret dX11_vote_57 rfl (hQ _ _ h)
  · intro h
    refine T_drop (h (fun (i2_1 : Int) (i3_1 : Int) => n_T G d 0 0 mX11_vote 22 [vR 218, vI (v 218 1), vI i2_1, vI i3_1] [] SH v7 Q) (fun i2_1 i3_1 h => ?_)) ⟨Or.inl rfl, Or.inl rfl, Or.inl rfl, Or.inl rfl, trivial⟩
    refine T_iload_n dX11_vote_22 rfl ?_
    refine T_iload_n dX11_vote_23 rfl ?_
    refine U_icmp_ge (tgt := 48) dX11_vote_24 (by decide) (fun hc => ?_) (fun hc => ?_)
    · replace h := h.1 hc
      exact T_drop h ⟨Or.inl rfl, Or.inl rfl, Or.inl rfl, Or.inr rfl, trivial⟩
    · replace h := h.2 hc
      refine T_iload_n dX11_vote_27 rfl ?_
      refine U_if_eq (tgt := 48) dX11_vote_28 (by decide) (fun hc => ?_) (fun hc => ?_)
      · replace h := h.1 hc
        exact T_drop h ⟨Or.inl rfl, Or.inl rfl, Or.inl rfl, Or.inr rfl, trivial⟩
      · replace h := h.2 hc
        refine T_aload_n dX11_vote_31 rfl ?_
        refine T_aload_n dX11_vote_32 rfl ?_
        refine T_getR (r := 219) dX11_vote_33 fX11_7 rfl SH_218 rfl ?_
        refine T_iload_n dX11_vote_36 rfl ?_
        refine T_iald dX11_vote_37 SH_219 h.1 ?_
        replace h := h.2
        refine U_callV (as := [vI (v7 219 i3_1.toNat)]) (st := []) dX11_vote_38 kX11_isNode lX11_257 SH_218 rfl rfl rfl rfl (Nat.le_of_ble_eq_true rfl) (Nat.le_of_ble_eq_true rfl) (by omega) ?_
        refine W_X11_isNode (by omega)  h (fun r38 h => ?_)
        show n_T G d 0 0 mX11_vote 41 [vR 218, vI (v 218 1), vI i2_1, vI i3_1] [vI r38] SH v7 Q
        refine T_istore_n dX11_vote_41 (by decide) rfl ?_
        refine U_iinc dX11_vote_42 rfl (by decide) rfl h.1 ?_
        replace h := h.2
        refine T_goto (tgt := 22) dX11_vote_45 (by decide) ?_
        exact T_drop h ⟨Or.inl rfl, Or.inl rfl, Or.inl rfl, Or.inl rfl, trivial⟩

theorem W_X11_canVote {G : GT} {d : Nat} (hd : 6 ≤ d)    {v : VT} {q : Int → VT → Prop} {Q : Option Vl → List Sh → VT → Prop} (h : P_X11_canVote  v q) (hQ : ∀ r w, q r w → Q (some (vI r)) SH w) : n_T G d 0 0 mX11_canVote 0 [vR 218, vS 9] [] SH v Q := by
  unfold P_X11_canVote at h
  refine T_iconst dX11_canVote_0 (by decide) ?_
  refine T_istore_n dX11_canVote_1 (by decide) rfl ?_
  refine n_cut (h (n_T G d 0 0 mX11_canVote 31 [vR 218, vS 9] [] SH v Q)) ?_ ?_
  · intro h
    refine T_aload_n dX11_canVote_31 rfl ?_
    refine T_getI dX11_canVote_32 fX11_202 rfl SH_218 ?_
    refine U_if_le (tgt := 49) dX11_canVote_35 (by decide) (fun hc => ?_) (fun hc => ?_)
    · replace h := h.1 hc
      refine T_iconst dX11_canVote_49 (by decide) ?_
      exact T_zret dX11_canVote_50 rfl (by decide) (hQ _ _ h)
    · replace h := h.2 hc
      refine T_aload_n dX11_canVote_38 rfl ?_
      refine U_callV (as := []) (st := []) dX11_canVote_39 kX11_isWhole lX11_341 SH_218 rfl rfl rfl rfl (Nat.le_of_ble_eq_true rfl) (Nat.le_of_ble_eq_true rfl) (by omega) ?_
      refine W_X11_isWhole (by omega)  h (fun r39 v39 h => ?_)
      show n_T G d 0 0 mX11_canVote 42 [vR 218, vS 9] [vI r39] SH v39 Q
      refine U_if_eq (tgt := 49) dX11_canVote_42 (by decide) (fun hc => ?_) (fun hc => ?_)
      · replace h := h.1 hc
        refine T_iconst dX11_canVote_49 (by decide) ?_
        exact T_zret dX11_canVote_50 rfl (by decide) (hQ _ _ h)
      · replace h := h.2 hc
        refine T_iconst dX11_canVote_45 (by decide) ?_
        refine T_goto (tgt := 50) dX11_canVote_46 (by decide) ?_
        exact T_zret dX11_canVote_50 rfl (by decide) (hQ _ _ h)
  · intro h
    refine T_drop (h (fun (i1 : Int) => n_T G d 0 0 mX11_canVote 2 [vR 218, vI i1] [] SH v Q) (fun i1 h => ?_)) ⟨Or.inl rfl, Or.inl rfl, trivial⟩
    refine T_iload_n dX11_canVote_2 rfl ?_
    refine T_aload_n dX11_canVote_3 rfl ?_
    refine T_getI dX11_canVote_4 fX11_202 rfl SH_218 ?_
    refine U_icmp_ge (tgt := 31) dX11_canVote_7 (by decide) (fun hc => ?_) (fun hc => ?_)
    · replace h := h.1 hc
      exact T_drop h ⟨Or.inl rfl, Or.inr rfl, trivial⟩
    · replace h := h.2 hc
      refine T_aload_n dX11_canVote_10 rfl ?_
      refine T_aload_n dX11_canVote_11 rfl ?_
      refine T_getR (r := 236) dX11_canVote_12 fX11_68 rfl SH_218 rfl ?_
      refine T_iload_n dX11_canVote_15 rfl ?_
      refine T_iald dX11_canVote_16 SH_236 h.1 ?_
      replace h := h.2
      refine U_callV (as := [vI (v 236 i1.toNat)]) (st := []) dX11_canVote_17 kX11_isNode lX11_257 SH_218 rfl rfl rfl rfl (Nat.le_of_ble_eq_true rfl) (Nat.le_of_ble_eq_true rfl) (by omega) ?_
      refine W_X11_isNode (by omega)  h (fun r17 h => ?_)
      show n_T G d 0 0 mX11_canVote 20 [vR 218, vI i1] [vI r17] SH v Q
      refine U_if_ne (tgt := 25) dX11_canVote_20 (by decide) (fun hc => ?_) (fun hc => ?_)
      · replace h := h.1 hc
        refine U_iinc dX11_canVote_25 rfl (by decide) rfl h.1 ?_
        replace h := h.2
        refine T_goto (tgt := 2) dX11_canVote_28 (by decide) ?_
        exact T_drop h ⟨Or.inl rfl, Or.inl rfl, trivial⟩
      · replace h := h.2 hc
        refine T_iconst dX11_canVote_23 (by decide) ?_
        exact T_zret dX11_canVote_24 rfl (by decide) (hQ _ _ h)

theorem W_X11_farFromVotes {G : GT} {d : Nat} (hd : 2 ≤ d) {x1 : Int}   {v : VT} {q : Int → Prop} {Q : Option Vl → List Sh → VT → Prop} (h : P_X11_farFromVotes x1 v q) (hQ : ∀ r, q r → Q (some (vI r)) SH v) : n_T G d 0 0 mX11_farFromVotes 0 [vR 218, vI x1, vS 9, vS 9] [] SH v Q := by
  unfold P_X11_farFromVotes at h
  refine T_iconst dX11_farFromVotes_0 (by decide) ?_
  refine T_istore_n dX11_farFromVotes_1 (by decide) rfl ?_
  refine T_iconst dX11_farFromVotes_2 (by decide) ?_
  refine T_istore_n dX11_farFromVotes_3 (by decide) rfl ?_
  refine T_drop (h (fun (i2 : Int) (i3 : Int) => n_T G d 0 0 mX11_farFromVotes 4 [vR 218, vI x1, vI i2, vI i3] [] SH v Q) (fun i2 i3 h => ?_)) ⟨Or.inl rfl, Or.inl rfl, Or.inl rfl, Or.inl rfl, trivial⟩
  refine T_iload_n dX11_farFromVotes_4 rfl ?_
  refine T_aload_n dX11_farFromVotes_5 rfl ?_
  refine T_getI dX11_farFromVotes_6 fX11_202 rfl SH_218 ?_
  refine U_icmp_ge (tgt := 32) dX11_farFromVotes_9 (by decide) (fun hc => ?_) (fun hc => ?_)
  · replace h := h.1 hc
    refine T_iload_n dX11_farFromVotes_32 rfl ?_
    exact T_iret dX11_farFromVotes_33 rfl (hQ _ h)
  · replace h := h.2 hc
    refine T_iload_n dX11_farFromVotes_12 rfl ?_
    refine T_aload_n dX11_farFromVotes_13 rfl ?_
    refine T_iload_n dX11_farFromVotes_14 rfl ?_
    refine T_aload_n dX11_farFromVotes_15 rfl ?_
    refine T_getR (r := 236) dX11_farFromVotes_16 fX11_68 rfl SH_218 rfl ?_
    refine T_iload_n dX11_farFromVotes_19 rfl ?_
    refine T_iald dX11_farFromVotes_20 SH_236 h.1 ?_
    replace h := h.2
    refine U_callV (as := [vI x1, vI (v 236 i3.toNat)]) (st := [vI i2]) dX11_farFromVotes_21 kX11_farOf lX11_214 SH_218 rfl rfl rfl rfl (Nat.le_of_ble_eq_true rfl) (Nat.le_of_ble_eq_true rfl) (by omega) ?_
    refine W_X11_farOf (by omega)  h (fun r21 h => ?_)
    show n_T G d 0 0 mX11_farFromVotes 24 [vR 218, vI x1, vI i2, vI i3] [vI r21, vI i2] SH v Q
    refine U_iadd dX11_farFromVotes_24 h.1 ?_
    replace h := h.2
    refine T_istore_n dX11_farFromVotes_25 (by decide) rfl ?_
    refine U_iinc dX11_farFromVotes_26 rfl (by decide) rfl h.1 ?_
    replace h := h.2
    refine T_goto (tgt := 4) dX11_farFromVotes_29 (by decide) ?_
    exact T_drop h ⟨Or.inl rfl, Or.inl rfl, Or.inl rfl, Or.inl rfl, trivial⟩

theorem W_X11_majority {G : GT} {d : Nat} (hd : 2 ≤ d)    {v : VT} {q : Int → Prop} {Q : Option Vl → List Sh → VT → Prop} (h : P_X11_majority  v q) (hQ : ∀ r, q r → Q (some (vI r)) SH v) : n_T G d 0 0 mX11_majority 0 [vR 218, vS 9, vS 9, vS 9, vS 9] [] SH v Q := by
  unfold P_X11_majority at h
  refine T_iconst dX11_majority_0 (by decide) ?_
  refine T_istore_n dX11_majority_1 (by decide) rfl ?_
  refine T_iconst dX11_majority_2 (by decide) ?_
  refine T_istore_n dX11_majority_3 (by decide) rfl ?_
  refine T_drop (h (fun (i1 : Int) (i2 : Int) => n_T G d 0 0 mX11_majority 4 [vR 218, vI i1, vI i2, vS 9, vS 9] [] SH v Q) (fun i1 i2 h => ?_)) ⟨Or.inl rfl, Or.inl rfl, Or.inl rfl, Or.inr rfl, Or.inr rfl, trivial⟩
  refine T_iload_n dX11_majority_4 rfl ?_
  refine T_aload_n dX11_majority_5 rfl ?_
  refine T_getI dX11_majority_6 fX11_222 rfl SH_218 ?_
  refine U_icmp_ge (tgt := 73) dX11_majority_9 (by decide) (fun hc => ?_) (fun hc => ?_)
  · replace h := h.1 hc
    refine T_aload_n dX11_majority_73 rfl ?_
    refine T_iload_n dX11_majority_74 rfl ?_
    refine U_callV (as := [vI i1]) (st := []) dX11_majority_75 kX11_nodeAt lX11_308 SH_218 rfl rfl rfl rfl (Nat.le_of_ble_eq_true rfl) (Nat.le_of_ble_eq_true rfl) (by omega) ?_
    refine W_X11_nodeAt (by omega)  h (fun r75 h => ?_)
    show n_T G d 0 0 mX11_majority 78 [vR 218, vI i1, vI i2, vS 9, vS 9] [vI r75] SH v Q
    exact T_iret dX11_majority_78 rfl (hQ _ h)
  · replace h := h.2 hc
    refine T_iconst dX11_majority_12 (by decide) ?_
    refine T_istore_n dX11_majority_13 (by decide) rfl ?_
    refine T_iconst dX11_majority_14 (by decide) ?_
    refine T_istore dX11_majority_15 (by decide) rfl ?_
    refine n_cut (h (fun (i3 : Int) => n_T G d 0 0 mX11_majority 51 [vR 218, vI i1, vI i2, vI i3, vS 9] [] SH v Q)) ?_ ?_
    · intro i3 h
      refine T_iconst dX11_majority_51 (by decide) ?_
      refine T_iload_n dX11_majority_52 rfl ?_
      refine U_imul dX11_majority_53 h.1 ?_
      replace h := h.2
      refine T_aload_n dX11_majority_54 rfl ?_
      refine T_getI dX11_majority_55 fX11_202 rfl SH_218 ?_
      refine U_icmp_le (tgt := 67) dX11_majority_58 (by decide) (fun hc => ?_) (fun hc => ?_)
      · replace h := h.1 hc
        refine U_iinc dX11_majority_67 rfl (by decide) rfl h.1 ?_
        replace h := h.2
        refine T_goto (tgt := 4) dX11_majority_70 (by decide) ?_
        exact T_drop h ⟨Or.inl rfl, Or.inl rfl, Or.inl rfl, Or.inr rfl, Or.inr rfl, trivial⟩
      · replace h := h.2 hc
        refine T_iload_n dX11_majority_61 rfl ?_
        refine T_iconst dX11_majority_62 (by decide) ?_
        refine T_iload_n dX11_majority_63 rfl ?_
        refine T_ishl dX11_majority_64 ?_
        refine T_ior dX11_majority_65 ?_
        refine U_istore_n dX11_majority_66 (by decide) rfl (fun l1 el1 => ?_)
        replace h := h l1 el1
        refine U_iinc dX11_majority_67 rfl (by decide) rfl h.1 ?_
        replace h := h.2
        refine T_goto (tgt := 4) dX11_majority_70 (by decide) ?_
        exact T_drop h ⟨Or.inl rfl, Or.inl rfl, Or.inl rfl, Or.inr rfl, Or.inr rfl, trivial⟩
    · intro h
      refine T_drop (h (fun (i3_1 : Int) (i4 : Int) => n_T G d 0 0 mX11_majority 17 [vR 218, vI i1, vI i2, vI i3_1, vI i4] [] SH v Q) (fun i3_1 i4 h => ?_)) ⟨Or.inl rfl, Or.inl rfl, Or.inl rfl, Or.inl rfl, Or.inl rfl, trivial⟩
      refine T_iload dX11_majority_17 rfl ?_
      refine T_aload_n dX11_majority_19 rfl ?_
      refine T_getI dX11_majority_20 fX11_202 rfl SH_218 ?_
      refine U_icmp_ge (tgt := 51) dX11_majority_23 (by decide) (fun hc => ?_) (fun hc => ?_)
      · replace h := h.1 hc
        exact T_drop h ⟨Or.inl rfl, Or.inl rfl, Or.inl rfl, Or.inl rfl, Or.inr rfl, trivial⟩
      · replace h := h.2 hc
        refine T_iload_n dX11_majority_26 rfl ?_
        refine T_aload_n dX11_majority_27 rfl ?_
        refine T_getR (r := 228) dX11_majority_28 fX11_41 rfl SH_218 rfl ?_
        refine T_aload_n dX11_majority_31 rfl ?_
        refine T_getR (r := 236) dX11_majority_32 fX11_68 rfl SH_218 rfl ?_
        refine T_iload dX11_majority_35 rfl ?_
        refine T_iald dX11_majority_37 SH_236 h.1 ?_
        replace h := h.2
        refine T_iald dX11_majority_38 SH_228 h.1 ?_
        replace h := h.2
        refine T_iload_n dX11_majority_39 rfl ?_
        refine T_ishr dX11_majority_40 ?_
        refine T_iconst dX11_majority_41 (by decide) ?_
        refine T_iand dX11_majority_42 ?_
        refine U_iadd dX11_majority_43 h.1 ?_
        replace h := h.2
        refine U_istore_n dX11_majority_44 (by decide) rfl (fun l3 el3 => ?_)
        replace h := h l3 el3
        refine U_iinc dX11_majority_45 rfl (by decide) rfl h.1 ?_
        replace h := h.2
        refine T_goto (tgt := 17) dX11_majority_48 (by decide) ?_
        exact T_drop h ⟨Or.inl rfl, Or.inl rfl, Or.inl rfl, Or.inl rfl, Or.inl rfl, trivial⟩

theorem W_X11_winner {G : GT} {d : Nat} (hd : 7 ≤ d) {x1 : Int}   {v : VT} {q : Int → VT → Prop} {Q : Option Vl → List Sh → VT → Prop} (h : P_X11_winner x1 v q) (hQ : ∀ r w, q r w → Q (some (vI r)) SH w) : n_T G d 0 0 mX11_winner 0 [vR 218, vI x1, vS 9, vS 9] [] SH v Q := by
  unfold P_X11_winner at h
  refine T_iload_n dX11_winner_0 rfl ?_
  refine T_i2l dX11_winner_1 ?_
  refine T_lconst dX11_winner_2 ?_
  refine T_ldc2 (n := 2) dX11_winner_3 cX11_344 (by unfold r64; omega) ?_
  refine U_callS (as := [vJ x1, vJ 0, vJ 2]) (st := []) dX11_winner_6 kX11_isIn lX11_109 rfl rfl (Nat.le_of_ble_eq_true rfl) (Nat.le_of_ble_eq_true rfl) (by omega) ?_
  refine W_X11_isIn (by omega)  h (fun r6 h => ?_)
  show n_T G d 0 0 mX11_winner 9 [vR 218, vI x1, vS 9, vS 9] [vI r6] SH v Q
  refine U_if_eq (tgt := 19) dX11_winner_9 (by decide) (fun hc => ?_) (fun hc => ?_)
  · replace h := h.1 hc
    refine T_iconst dX11_winner_19 (by decide) ?_
    exact T_iret dX11_winner_20 rfl (hQ _ _ h)
  · replace h := h.2 hc
    refine T_aload_n dX11_winner_12 rfl ?_
    refine U_callV (as := []) (st := []) dX11_winner_13 kX11_canVote lX11_346 SH_218 rfl rfl rfl rfl (Nat.le_of_ble_eq_true rfl) (Nat.le_of_ble_eq_true rfl) (by omega) ?_
    refine W_X11_canVote (by omega)  h (fun r13 v13 h => ?_)
    show n_T G d 0 0 mX11_winner 16 [vR 218, vI x1, vS 9, vS 9] [vI r13] SH v13 Q
    refine U_if_ne (tgt := 21) dX11_winner_16 (by decide) (fun hc => ?_) (fun hc => ?_)
    · replace h := h.1 hc
      refine T_iload_n dX11_winner_21 rfl ?_
      refine T_iconst dX11_winner_22 (by decide) ?_
      refine U_icmp_ne (tgt := 42) dX11_winner_23 (by decide) (fun hc => ?_) (fun hc => ?_)
      · replace h := h.1 hc
        refine T_iconst dX11_winner_42 (by decide) ?_
        refine T_istore_n dX11_winner_43 (by decide) rfl ?_
        refine T_iconst dX11_winner_44 (by decide) ?_
        refine T_istore_n dX11_winner_45 (by decide) rfl ?_
        refine T_drop (h (fun (i2 : Int) (i3 : Int) => n_T G d 0 0 mX11_winner 46 [vR 218, vI x1, vI i2, vI i3] [] SH v13 Q) (fun i2 i3 h => ?_)) ⟨Or.inl rfl, Or.inl rfl, Or.inl rfl, Or.inl rfl, trivial⟩
        refine T_iload_n dX11_winner_46 rfl ?_
        refine T_aload_n dX11_winner_47 rfl ?_
        refine T_getR (r := 222) dX11_winner_48 fX11_23 rfl SH_218 rfl ?_
        refine T_iconst dX11_winner_51 (by decide) ?_
        refine T_iald dX11_winner_52 SH_222 (by decide) ?_
        refine U_icmp_ge (tgt := 77) dX11_winner_53 (by decide) (fun hc => ?_) (fun hc => ?_)
        · replace h := h.1 hc
          refine T_iload_n dX11_winner_77 rfl ?_
          refine U_if_ne (tgt := 85) dX11_winner_78 (by decide) (fun hc => ?_) (fun hc => ?_)
          · replace h := h.1 hc
            refine T_aload_n dX11_winner_85 rfl ?_
            refine T_iload_n dX11_winner_86 rfl ?_
            refine U_callV (as := [vI i2]) (st := []) dX11_winner_87 kX11_farFromVotes lX11_352 SH_218 rfl rfl rfl rfl (Nat.le_of_ble_eq_true rfl) (Nat.le_of_ble_eq_true rfl) (by omega) ?_
            refine W_X11_farFromVotes (by omega)  h (fun r87 h => ?_)
            show n_T G d 0 0 mX11_winner 90 [vR 218, vI x1, vI i2, vI i3] [vI r87] SH v13 Q
            exact T_iret dX11_winner_90 rfl (hQ _ _ h)
          · replace h := h.2 hc
            refine T_iload_n dX11_winner_81 rfl ?_
            refine T_goto (tgt := 90) dX11_winner_82 (by decide) ?_
            exact T_iret dX11_winner_90 rfl (hQ _ _ h)
        · replace h := h.2 hc
          refine T_aload_n dX11_winner_56 rfl ?_
          refine T_iload_n dX11_winner_57 rfl ?_
          refine U_callV (as := [vI i3]) (st := []) dX11_winner_58 kX11_farFromVotes lX11_352 SH_218 rfl rfl rfl rfl (Nat.le_of_ble_eq_true rfl) (Nat.le_of_ble_eq_true rfl) (by omega) ?_
          refine W_X11_farFromVotes (by omega)  h (fun r58 h => ?_)
          show n_T G d 0 0 mX11_winner 61 [vR 218, vI x1, vI i2, vI i3] [vI r58] SH v13 Q
          refine T_aload_n dX11_winner_61 rfl ?_
          refine T_iload_n dX11_winner_62 rfl ?_
          refine U_callV (as := [vI i2]) (st := [vI r58]) dX11_winner_63 kX11_farFromVotes lX11_352 SH_218 rfl rfl rfl rfl (Nat.le_of_ble_eq_true rfl) (Nat.le_of_ble_eq_true rfl) (by omega) ?_
          refine W_X11_farFromVotes (by omega)  h (fun r63 h => ?_)
          show n_T G d 0 0 mX11_winner 66 [vR 218, vI x1, vI i2, vI i3] [vI r63, vI r58] SH v13 Q
          refine U_icmp_ge (tgt := 71) dX11_winner_66 (by decide) (fun hc => ?_) (fun hc => ?_)
          · replace h := h.1 hc
            refine U_iinc dX11_winner_71 rfl (by decide) rfl h.1 ?_
            replace h := h.2
            refine T_goto (tgt := 46) dX11_winner_74 (by decide) ?_
            exact T_drop h ⟨Or.inl rfl, Or.inl rfl, Or.inl rfl, Or.inl rfl, trivial⟩
          · replace h := h.2 hc
            refine T_iload_n dX11_winner_69 rfl ?_
            refine T_istore_n dX11_winner_70 (by decide) rfl ?_
            refine U_iinc dX11_winner_71 rfl (by decide) rfl h.1 ?_
            replace h := h.2
            refine T_goto (tgt := 46) dX11_winner_74 (by decide) ?_
            exact T_drop h ⟨Or.inl rfl, Or.inl rfl, Or.inl rfl, Or.inl rfl, trivial⟩
      · replace h := h.2 hc
        refine T_aload_n dX11_winner_26 rfl ?_
        refine U_callV (as := []) (st := []) dX11_winner_27 kX11_sits lX11_305 SH_218 rfl rfl rfl rfl (Nat.le_of_ble_eq_true rfl) (Nat.le_of_ble_eq_true rfl) (by omega) ?_
        refine W_X11_sits (by omega)  h (fun r27 v27 h => ?_)
        show n_T G d 0 0 mX11_winner 30 [vR 218, vI x1, vS 9, vS 9] [vI r27] SH v27 Q
        refine U_if_eq (tgt := 40) dX11_winner_30 (by decide) (fun hc => ?_) (fun hc => ?_)
        · replace h := h.1 hc
          refine T_iconst dX11_winner_40 (by decide) ?_
          exact T_iret dX11_winner_41 rfl (hQ _ _ h)
        · replace h := h.2 hc
          refine T_aload_n dX11_winner_33 rfl ?_
          refine U_callV (as := []) (st := []) dX11_winner_34 kX11_majority lX11_349 SH_218 rfl rfl rfl rfl (Nat.le_of_ble_eq_true rfl) (Nat.le_of_ble_eq_true rfl) (by omega) ?_
          refine W_X11_majority (by omega)  h (fun r34 h => ?_)
          show n_T G d 0 0 mX11_winner 37 [vR 218, vI x1, vS 9, vS 9] [vI r34] SH v27 Q
          refine T_goto (tgt := 41) dX11_winner_37 (by decide) ?_
          exact T_iret dX11_winner_41 rfl (hQ _ _ h)
    · replace h := h.2 hc
      refine T_iconst dX11_winner_19 (by decide) ?_
      exact T_iret dX11_winner_20 rfl (hQ _ _ h)

theorem W_X11_isSet {G : GT} {d : Nat} (hd : 6 ≤ d) {x1 : Int}   {v : VT} {q : Int → VT → Prop} {Q : Option Vl → List Sh → VT → Prop} (h : P_X11_isSet x1 v q) (hQ : ∀ r w, q r w → Q (some (vI r)) SH w) : n_T G d 0 0 mX11_isSet 0 [vR 218, vI x1] [] SH v Q := by
  unfold P_X11_isSet at h
  refine T_iload_n dX11_isSet_0 rfl ?_
  refine U_if_lt (tgt := 26) dX11_isSet_1 (by decide) (fun hc => ?_) (fun hc => ?_)
  · replace h := h.1 hc
    refine T_iconst dX11_isSet_26 (by decide) ?_
    exact T_zret dX11_isSet_27 rfl (by decide) (hQ _ _ h)
  · replace h := h.2 hc
    refine T_iload_n dX11_isSet_4 rfl ?_
    refine T_aload_n dX11_isSet_5 rfl ?_
    refine U_callV (as := []) (st := [vI x1]) dX11_isSet_6 kX11_all lX11_317 SH_218 rfl rfl rfl rfl (Nat.le_of_ble_eq_true rfl) (Nat.le_of_ble_eq_true rfl) (by omega) ?_
    refine W_X11_all (by omega)  h (fun r6 h => ?_)
    show n_T G d 0 0 mX11_isSet 9 [vR 218, vI x1] [vI r6, vI x1] SH v Q
    refine T_iconst dX11_isSet_9 (by decide) ?_
    refine T_ixor dX11_isSet_10 ?_
    refine T_iand dX11_isSet_11 ?_
    refine U_if_ne (tgt := 26) dX11_isSet_12 (by decide) (fun hc => ?_) (fun hc => ?_)
    · replace h := h.1 hc
      refine T_iconst dX11_isSet_26 (by decide) ?_
      exact T_zret dX11_isSet_27 rfl (by decide) (hQ _ _ h)
    · replace h := h.2 hc
      refine T_aload_n dX11_isSet_15 rfl ?_
      refine U_callV (as := []) (st := []) dX11_isSet_16 kX11_isWhole lX11_341 SH_218 rfl rfl rfl rfl (Nat.le_of_ble_eq_true rfl) (Nat.le_of_ble_eq_true rfl) (by omega) ?_
      refine W_X11_isWhole (by omega)  h (fun r16 v16 h => ?_)
      show n_T G d 0 0 mX11_isSet 19 [vR 218, vI x1] [vI r16] SH v16 Q
      refine U_if_eq (tgt := 26) dX11_isSet_19 (by decide) (fun hc => ?_) (fun hc => ?_)
      · replace h := h.1 hc
        refine T_iconst dX11_isSet_26 (by decide) ?_
        exact T_zret dX11_isSet_27 rfl (by decide) (hQ _ _ h)
      · replace h := h.2 hc
        refine T_iconst dX11_isSet_22 (by decide) ?_
        refine T_goto (tgt := 27) dX11_isSet_23 (by decide) ?_
        exact T_zret dX11_isSet_27 rfl (by decide) (hQ _ _ h)

theorem W_X11_isTrue {G : GT} {d : Nat} (hd : 2 ≤ d) {x1 : Int}   {v : VT} {q : Int → VT → Prop} {Q : Option Vl → List Sh → VT → Prop} (h : P_X11_isTrue x1 v q) (hQ : ∀ r w, q r w → Q (some (vI r)) SH w) : n_T G d 0 0 mX11_isTrue 0 [vR 218, vI x1, vS 9, vS 9, vS 9, vS 9, vS 9] [] SH v Q := by
  unfold P_X11_isTrue at h
  refine T_aload_n dX11_isTrue_0 rfl ?_
  refine T_getR (r := 222) dX11_isTrue_1 fX11_23 rfl SH_218 rfl ?_
  refine T_iconst dX11_isTrue_4 (by decide) ?_
  refine T_iald dX11_isTrue_5 SH_222 (by decide) ?_
  refine T_istore_n dX11_isTrue_6 (by decide) rfl ?_
  refine T_iconst dX11_isTrue_7 (by decide) ?_
  refine T_istore_n dX11_isTrue_8 (by decide) rfl ?_
  refine n_cut (h (fun (v91 : VT) => n_T G d 0 0 mX11_isTrue 91 [vR 218, vI x1, vI (v 222 0), vS 9, vS 9, vS 9, vS 9] [] SH v91 Q)) ?_ ?_
  · intro v91 h
    refine T_iconst dX11_isTrue_91 (by decide) ?_
    refine T_istore_n dX11_isTrue_92 (by decide) rfl ?_
    refine n_cut (h (fun (v194 : VT) => n_T G d 0 0 mX11_isTrue 194 [vR 218, vI x1, vI (v 222 0), vS 9, vS 9, vS 9, vS 9] [] SH v194 Q)) ?_ ?_
    · intro v194 h
      refine T_iconst dX11_isTrue_194 (by decide) ?_
      refine T_istore_n dX11_isTrue_195 (by decide) rfl ?_
      refine T_drop (h (fun (i3 : Int) => n_T G d 0 0 mX11_isTrue 196 [vR 218, vI x1, vI (v 222 0), vI i3, vS 9, vS 9, vS 9] [] SH v194 Q) (fun i3 h => ?_)) ⟨Or.inl rfl, Or.inl rfl, Or.inl rfl, Or.inl rfl, Or.inr rfl, Or.inr rfl, Or.inr rfl, trivial⟩
      refine T_iload_n dX11_isTrue_196 rfl ?_
      refine T_iload_n dX11_isTrue_197 rfl ?_
      refine U_icmp_ge (tgt := 263) dX11_isTrue_198 (by decide) (fun hc => ?_) (fun hc => ?_)
      · replace h := h.1 hc
        refine T_iconst dX11_isTrue_263 (by decide) ?_
        exact T_zret dX11_isTrue_264 rfl (by decide) (hQ _ _ h)
      · replace h := h.2 hc
        refine T_iconst dX11_isTrue_201 (by decide) ?_
        refine T_istore dX11_isTrue_202 (by decide) rfl ?_
        refine T_drop (h (fun (i4 : Int) => n_T G d 0 0 mX11_isTrue 204 [vR 218, vI x1, vI (v 222 0), vI i3, vI i4, vS 9, vS 9] [] SH v194 Q) (fun i4 h => ?_)) ⟨Or.inl rfl, Or.inl rfl, Or.inl rfl, Or.inl rfl, Or.inl rfl, Or.inr rfl, Or.inr rfl, trivial⟩
        refine T_iload dX11_isTrue_204 rfl ?_
        refine T_iload_n dX11_isTrue_206 rfl ?_
        refine U_icmp_ge (tgt := 257) dX11_isTrue_207 (by decide) (fun hc => ?_) (fun hc => ?_)
        · replace h := h.1 hc
          refine U_iinc dX11_isTrue_257 rfl (by decide) rfl h.1 ?_
          replace h := h.2
          refine T_goto (tgt := 196) dX11_isTrue_260 (by decide) ?_
          exact T_drop h ⟨Or.inl rfl, Or.inl rfl, Or.inl rfl, Or.inl rfl, Or.inr rfl, Or.inr rfl, Or.inr rfl, trivial⟩
        · replace h := h.2 hc
          refine T_iload_n dX11_isTrue_210 rfl ?_
          refine T_iload_n dX11_isTrue_211 rfl ?_
          refine U_callS (as := [vI x1, vI i3]) (st := []) dX11_isTrue_212 kX11_isOf lX11_281 rfl rfl (Nat.le_of_ble_eq_true rfl) (Nat.le_of_ble_eq_true rfl) (by omega) ?_
          refine W_X11_isOf (by omega)  h (fun r212 h => ?_)
          show n_T G d 0 0 mX11_isTrue 215 [vR 218, vI x1, vI (v 222 0), vI i3, vI i4, vS 9, vS 9] [vI r212] SH v194 Q
          refine U_if_eq (tgt := 251) dX11_isTrue_215 (by decide) (fun hc => ?_) (fun hc => ?_)
          · replace h := h.1 hc
            refine U_iinc dX11_isTrue_251 rfl (by decide) rfl h.1 ?_
            replace h := h.2
            refine T_goto (tgt := 204) dX11_isTrue_254 (by decide) ?_
            exact T_drop h ⟨Or.inl rfl, Or.inl rfl, Or.inl rfl, Or.inl rfl, Or.inl rfl, Or.inr rfl, Or.inr rfl, trivial⟩
          · replace h := h.2 hc
            refine T_iload_n dX11_isTrue_218 rfl ?_
            refine T_iload dX11_isTrue_219 rfl ?_
            refine U_callS (as := [vI x1, vI i4]) (st := []) dX11_isTrue_221 kX11_isOf lX11_281 rfl rfl (Nat.le_of_ble_eq_true rfl) (Nat.le_of_ble_eq_true rfl) (by omega) ?_
            refine W_X11_isOf (by omega)  h (fun r221 h => ?_)
            show n_T G d 0 0 mX11_isTrue 224 [vR 218, vI x1, vI (v 222 0), vI i3, vI i4, vS 9, vS 9] [vI r221] SH v194 Q
            refine U_if_eq (tgt := 251) dX11_isTrue_224 (by decide) (fun hc => ?_) (fun hc => ?_)
            · replace h := h.1 hc
              refine U_iinc dX11_isTrue_251 rfl (by decide) rfl h.1 ?_
              replace h := h.2
              refine T_goto (tgt := 204) dX11_isTrue_254 (by decide) ?_
              exact T_drop h ⟨Or.inl rfl, Or.inl rfl, Or.inl rfl, Or.inl rfl, Or.inl rfl, Or.inr rfl, Or.inr rfl, trivial⟩
            · replace h := h.2 hc
              refine T_aload_n dX11_isTrue_227 rfl ?_
              refine T_getR (r := 237) dX11_isTrue_228 fX11_71 rfl SH_218 rfl ?_
              refine T_bipush dX11_isTrue_231 (by decide) ?_
              refine T_iload_n dX11_isTrue_233 rfl ?_
              refine U_imul dX11_isTrue_234 h.1 ?_
              replace h := h.2
              refine T_iload dX11_isTrue_235 rfl ?_
              refine U_iadd dX11_isTrue_237 h.1 ?_
              replace h := h.2
              refine T_iald dX11_isTrue_238 SH_237 h.1 ?_
              replace h := h.2
              refine T_aload_n dX11_isTrue_239 rfl ?_
              refine T_iload_n dX11_isTrue_240 rfl ?_
              refine T_iload dX11_isTrue_241 rfl ?_
              refine U_callV (as := [vI i3, vI i4]) (st := [vI (v194 237 ((24 * i3) + i4).toNat)]) dX11_isTrue_243 kX11_farOf lX11_214 SH_218 rfl rfl rfl rfl (Nat.le_of_ble_eq_true rfl) (Nat.le_of_ble_eq_true rfl) (by omega) ?_
              refine W_X11_farOf (by omega)  h (fun r243 h => ?_)
              show n_T G d 0 0 mX11_isTrue 246 [vR 218, vI x1, vI (v 222 0), vI i3, vI i4, vS 9, vS 9] [vI r243, vI (v194 237 ((24 * i3) + i4).toNat)] SH v194 Q
              refine U_icmp_eq (tgt := 251) dX11_isTrue_246 (by decide) (fun hc => ?_) (fun hc => ?_)
              · replace h := h.1 hc
                refine U_iinc dX11_isTrue_251 rfl (by decide) rfl h.1 ?_
                replace h := h.2
                refine T_goto (tgt := 204) dX11_isTrue_254 (by decide) ?_
                exact T_drop h ⟨Or.inl rfl, Or.inl rfl, Or.inl rfl, Or.inl rfl, Or.inl rfl, Or.inr rfl, Or.inr rfl, trivial⟩
              · replace h := h.2 hc
                refine T_iconst dX11_isTrue_249 (by decide) ?_
                exact T_zret dX11_isTrue_250 rfl (by decide) (hQ _ _ h)
    · intro h
      refine T_drop (h (fun (i3_1 : Int) (v93 : VT) => n_T G d 0 0 mX11_isTrue 93 [vR 218, vI x1, vI (v 222 0), vI i3_1, vS 9, vS 9, vS 9] [] SH v93 Q) (fun i3_1 v93 h => ?_)) ⟨Or.inl rfl, Or.inl rfl, Or.inl rfl, Or.inl rfl, Or.inr rfl, Or.inr rfl, Or.inr rfl, trivial⟩
      refine T_iload_n dX11_isTrue_93 rfl ?_
      refine T_iload_n dX11_isTrue_94 rfl ?_
      refine U_icmp_ge (tgt := 194) dX11_isTrue_95 (by decide) (fun hc => ?_) (fun hc => ?_)
      · replace h := h.1 hc
        exact T_drop h ⟨Or.inl rfl, Or.inl rfl, Or.inl rfl, Or.inr rfl, Or.inr rfl, Or.inr rfl, Or.inr rfl, trivial⟩
      · replace h := h.2 hc
        refine T_iconst dX11_isTrue_98 (by decide) ?_
        refine T_istore dX11_isTrue_99 (by decide) rfl ?_
        refine T_drop (h (fun (i4_1 : Int) (v101 : VT) => n_T G d 0 0 mX11_isTrue 101 [vR 218, vI x1, vI (v 222 0), vI i3_1, vI i4_1, vS 9, vS 9] [] SH v101 Q) (fun i4_1 v101 h => ?_)) ⟨Or.inl rfl, Or.inl rfl, Or.inl rfl, Or.inl rfl, Or.inl rfl, Or.inr rfl, Or.inr rfl, trivial⟩
        refine T_iload dX11_isTrue_101 rfl ?_
        refine T_iload_n dX11_isTrue_103 rfl ?_
        refine U_icmp_ge (tgt := 188) dX11_isTrue_104 (by decide) (fun hc => ?_) (fun hc => ?_)
        · replace h := h.1 hc
          refine U_iinc dX11_isTrue_188 rfl (by decide) rfl h.1 ?_
          replace h := h.2
          refine T_goto (tgt := 93) dX11_isTrue_191 (by decide) ?_
          exact T_drop h ⟨Or.inl rfl, Or.inl rfl, Or.inl rfl, Or.inl rfl, Or.inr rfl, Or.inr rfl, Or.inr rfl, trivial⟩
        · replace h := h.2 hc
          refine T_iconst dX11_isTrue_107 (by decide) ?_
          refine T_istore dX11_isTrue_108 (by decide) rfl ?_
          refine T_drop (h (fun (i5 : Int) (v110 : VT) => n_T G d 0 0 mX11_isTrue 110 [vR 218, vI x1, vI (v 222 0), vI i3_1, vI i4_1, vI i5, vS 9] [] SH v110 Q) (fun i5 v110 h => ?_)) ⟨Or.inl rfl, Or.inl rfl, Or.inl rfl, Or.inl rfl, Or.inl rfl, Or.inl rfl, Or.inr rfl, trivial⟩
          refine T_iload dX11_isTrue_110 rfl ?_
          refine T_iload_n dX11_isTrue_112 rfl ?_
          refine U_icmp_ge (tgt := 182) dX11_isTrue_113 (by decide) (fun hc => ?_) (fun hc => ?_)
          · replace h := h.1 hc
            refine U_iinc dX11_isTrue_182 rfl (by decide) rfl h.1 ?_
            replace h := h.2
            refine T_goto (tgt := 101) dX11_isTrue_185 (by decide) ?_
            exact T_drop h ⟨Or.inl rfl, Or.inl rfl, Or.inl rfl, Or.inl rfl, Or.inl rfl, Or.inr rfl, Or.inr rfl, trivial⟩
          · replace h := h.2 hc
            refine T_aload_n dX11_isTrue_116 rfl ?_
            refine T_getR (r := 237) dX11_isTrue_117 fX11_71 rfl SH_218 rfl ?_
            refine T_bipush dX11_isTrue_120 (by decide) ?_
            refine T_iload dX11_isTrue_122 rfl ?_
            refine U_imul dX11_isTrue_124 h.1 ?_
            replace h := h.2
            refine T_iload_n dX11_isTrue_125 rfl ?_
            refine U_iadd dX11_isTrue_126 h.1 ?_
            replace h := h.2
            refine T_iald dX11_isTrue_127 SH_237 h.1 ?_
            replace h := h.2
            refine T_aload_n dX11_isTrue_128 rfl ?_
            refine T_getR (r := 237) dX11_isTrue_129 fX11_71 rfl SH_218 rfl ?_
            refine T_bipush dX11_isTrue_132 (by decide) ?_
            refine T_iload_n dX11_isTrue_134 rfl ?_
            refine U_imul dX11_isTrue_135 h.1 ?_
            replace h := h.2
            refine T_iload dX11_isTrue_136 rfl ?_
            refine U_iadd dX11_isTrue_138 h.1 ?_
            replace h := h.2
            refine T_iald dX11_isTrue_139 SH_237 h.1 ?_
            replace h := h.2
            refine U_iadd dX11_isTrue_140 h.1 ?_
            replace h := h.2
            refine U_istore dX11_isTrue_141 (by decide) rfl (fun l6 el6 => ?_)
            replace h := h l6 el6
            refine T_iload dX11_isTrue_143 rfl ?_
            refine T_aload_n dX11_isTrue_145 rfl ?_
            refine T_getR (r := 237) dX11_isTrue_146 fX11_71 rfl SH_218 rfl ?_
            refine T_bipush dX11_isTrue_149 (by decide) ?_
            refine T_iload dX11_isTrue_151 rfl ?_
            refine U_imul dX11_isTrue_153 h.1 ?_
            replace h := h.2
            refine T_iload dX11_isTrue_154 rfl ?_
            refine U_iadd dX11_isTrue_156 h.1 ?_
            replace h := h.2
            refine T_iald dX11_isTrue_157 SH_237 h.1 ?_
            replace h := h.2
            refine U_icmp_ge (tgt := 176) dX11_isTrue_158 (by decide) (fun hc => ?_) (fun hc => ?_)
            · replace h := h.1 hc
              refine U_iinc dX11_isTrue_176 rfl (by decide) rfl h.1 ?_
              replace h := h.2
              refine T_goto (tgt := 110) dX11_isTrue_179 (by decide) ?_
              exact T_drop h ⟨Or.inl rfl, Or.inl rfl, Or.inl rfl, Or.inl rfl, Or.inl rfl, Or.inl rfl, Or.inr rfl, trivial⟩
            · replace h := h.2 hc
              refine T_aload_n dX11_isTrue_161 rfl ?_
              refine T_getR (r := 237) dX11_isTrue_162 fX11_71 rfl SH_218 rfl ?_
              refine T_bipush dX11_isTrue_165 (by decide) ?_
              refine T_iload dX11_isTrue_167 rfl ?_
              refine U_imul dX11_isTrue_169 h.1 ?_
              replace h := h.2
              refine T_iload dX11_isTrue_170 rfl ?_
              refine U_iadd dX11_isTrue_172 h.1 ?_
              replace h := h.2
              refine T_iload dX11_isTrue_173 rfl ?_
              refine U_iast dX11_isTrue_175 SH_237 h.1 (fun v175 ev175 => ?_)
              replace h := h.2 v175 ev175
              refine U_iinc dX11_isTrue_176 rfl (by decide) rfl h.1 ?_
              replace h := h.2
              refine T_goto (tgt := 110) dX11_isTrue_179 (by decide) ?_
              exact T_drop h ⟨Or.inl rfl, Or.inl rfl, Or.inl rfl, Or.inl rfl, Or.inl rfl, Or.inl rfl, Or.inr rfl, trivial⟩
  · intro h
    refine T_drop (h (fun (i3_2 : Int) (v9 : VT) => n_T G d 0 0 mX11_isTrue 9 [vR 218, vI x1, vI (v 222 0), vI i3_2, vS 9, vS 9, vS 9] [] SH v9 Q) (fun i3_2 v9 h => ?_)) ⟨Or.inl rfl, Or.inl rfl, Or.inl rfl, Or.inl rfl, Or.inr rfl, Or.inr rfl, Or.inr rfl, trivial⟩
    refine T_iload_n dX11_isTrue_9 rfl ?_
    refine T_iload_n dX11_isTrue_10 rfl ?_
    refine U_icmp_ge (tgt := 91) dX11_isTrue_11 (by decide) (fun hc => ?_) (fun hc => ?_)
    · replace h := h.1 hc
      exact T_drop h ⟨Or.inl rfl, Or.inl rfl, Or.inl rfl, Or.inr rfl, Or.inr rfl, Or.inr rfl, Or.inr rfl, trivial⟩
    · replace h := h.2 hc
      refine T_iconst dX11_isTrue_14 (by decide) ?_
      refine T_istore dX11_isTrue_15 (by decide) rfl ?_
      refine T_drop (h (fun (i4_2 : Int) (v17 : VT) => n_T G d 0 0 mX11_isTrue 17 [vR 218, vI x1, vI (v 222 0), vI i3_2, vI i4_2, vS 9, vS 9] [] SH v17 Q) (fun i4_2 v17 h => ?_)) ⟨Or.inl rfl, Or.inl rfl, Or.inl rfl, Or.inl rfl, Or.inl rfl, Or.inr rfl, Or.inr rfl, trivial⟩
      refine T_iload dX11_isTrue_17 rfl ?_
      refine T_iload_n dX11_isTrue_19 rfl ?_
      refine U_icmp_ge (tgt := 85) dX11_isTrue_20 (by decide) (fun hc => ?_) (fun hc => ?_)
      · replace h := h.1 hc
        refine U_iinc dX11_isTrue_85 rfl (by decide) rfl h.1 ?_
        replace h := h.2
        refine T_goto (tgt := 9) dX11_isTrue_88 (by decide) ?_
        exact T_drop h ⟨Or.inl rfl, Or.inl rfl, Or.inl rfl, Or.inl rfl, Or.inr rfl, Or.inr rfl, Or.inr rfl, trivial⟩
      · replace h := h.2 hc
        refine T_aload_n dX11_isTrue_23 rfl ?_
        refine T_getR (r := 237) dX11_isTrue_24 fX11_71 rfl SH_218 rfl ?_
        refine T_bipush dX11_isTrue_27 (by decide) ?_
        refine T_iload_n dX11_isTrue_29 rfl ?_
        refine U_imul dX11_isTrue_30 h.1 ?_
        replace h := h.2
        refine T_iload dX11_isTrue_31 rfl ?_
        refine U_iadd dX11_isTrue_33 h.1 ?_
        replace h := h.2
        refine T_iload_n dX11_isTrue_34 rfl ?_
        refine T_iload dX11_isTrue_35 rfl ?_
        refine U_icmp_ne (tgt := 44) dX11_isTrue_37 (by decide) (fun hc => ?_) (fun hc => ?_)
        · replace h := h.1 hc
          refine T_aload_n dX11_isTrue_44 rfl ?_
          refine T_iload_n dX11_isTrue_45 rfl ?_
          refine T_iload dX11_isTrue_46 rfl ?_
          refine U_callV (as := [vI i3_2, vI i4_2]) (st := [vI ((24 * i3_2) + i4_2), vR 237]) dX11_isTrue_48 kX11_farOf lX11_214 SH_218 rfl rfl rfl rfl (Nat.le_of_ble_eq_true rfl) (Nat.le_of_ble_eq_true rfl) (by omega) ?_
          refine W_X11_farOf (by omega)  h (fun r48 h => ?_)
          show n_T G d 0 0 mX11_isTrue 51 [vR 218, vI x1, vI (v 222 0), vI i3_2, vI i4_2, vS 9, vS 9] [vI r48, vI ((24 * i3_2) + i4_2), vR 237] SH v17 Q
          refine T_iconst dX11_isTrue_51 (by decide) ?_
          refine U_icmp_ne (tgt := 76) dX11_isTrue_52 (by decide) (fun hc => ?_) (fun hc => ?_)
          · replace h := h.1 hc
            refine T_bipush dX11_isTrue_76 (by decide) ?_
            refine U_iast dX11_isTrue_78 SH_237 h.1 (fun v78 ev78 => ?_)
            replace h := h.2 v78 ev78
            refine U_iinc dX11_isTrue_79 rfl (by decide) rfl h.1 ?_
            replace h := h.2
            refine T_goto (tgt := 17) dX11_isTrue_82 (by decide) ?_
            exact T_drop h ⟨Or.inl rfl, Or.inl rfl, Or.inl rfl, Or.inl rfl, Or.inl rfl, Or.inr rfl, Or.inr rfl, trivial⟩
          · replace h := h.2 hc
            refine T_iload_n dX11_isTrue_55 rfl ?_
            refine T_iload_n dX11_isTrue_56 rfl ?_
            refine U_callS (as := [vI x1, vI i3_2]) (st := [vI ((24 * i3_2) + i4_2), vR 237]) dX11_isTrue_57 kX11_isOf lX11_281 rfl rfl (Nat.le_of_ble_eq_true rfl) (Nat.le_of_ble_eq_true rfl) (by omega) ?_
            refine W_X11_isOf (by omega)  h (fun r57 h => ?_)
            show n_T G d 0 0 mX11_isTrue 60 [vR 218, vI x1, vI (v 222 0), vI i3_2, vI i4_2, vS 9, vS 9] [vI r57, vI ((24 * i3_2) + i4_2), vR 237] SH v17 Q
            refine U_if_eq (tgt := 76) dX11_isTrue_60 (by decide) (fun hc => ?_) (fun hc => ?_)
            · replace h := h.1 hc
              refine T_bipush dX11_isTrue_76 (by decide) ?_
              refine U_iast dX11_isTrue_78 SH_237 h.1 (fun v78_1 ev78_1 => ?_)
              replace h := h.2 v78_1 ev78_1
              refine U_iinc dX11_isTrue_79 rfl (by decide) rfl h.1 ?_
              replace h := h.2
              refine T_goto (tgt := 17) dX11_isTrue_82 (by decide) ?_
              exact T_drop h ⟨Or.inl rfl, Or.inl rfl, Or.inl rfl, Or.inl rfl, Or.inl rfl, Or.inr rfl, Or.inr rfl, trivial⟩
            · replace h := h.2 hc
              refine T_iload_n dX11_isTrue_63 rfl ?_
              refine T_iload dX11_isTrue_64 rfl ?_
              refine U_callS (as := [vI x1, vI i4_2]) (st := [vI ((24 * i3_2) + i4_2), vR 237]) dX11_isTrue_66 kX11_isOf lX11_281 rfl rfl (Nat.le_of_ble_eq_true rfl) (Nat.le_of_ble_eq_true rfl) (by omega) ?_
              refine W_X11_isOf (by omega)  h (fun r66 h => ?_)
              show n_T G d 0 0 mX11_isTrue 69 [vR 218, vI x1, vI (v 222 0), vI i3_2, vI i4_2, vS 9, vS 9] [vI r66, vI ((24 * i3_2) + i4_2), vR 237] SH v17 Q
              refine U_if_eq (tgt := 76) dX11_isTrue_69 (by decide) (fun hc => ?_) (fun hc => ?_)
              · replace h := h.1 hc
                refine T_bipush dX11_isTrue_76 (by decide) ?_
                refine U_iast dX11_isTrue_78 SH_237 h.1 (fun v78_2 ev78_2 => ?_)
                replace h := h.2 v78_2 ev78_2
                refine U_iinc dX11_isTrue_79 rfl (by decide) rfl h.1 ?_
                replace h := h.2
                refine T_goto (tgt := 17) dX11_isTrue_82 (by decide) ?_
                exact T_drop h ⟨Or.inl rfl, Or.inl rfl, Or.inl rfl, Or.inl rfl, Or.inl rfl, Or.inr rfl, Or.inr rfl, trivial⟩
              · replace h := h.2 hc
                refine T_iconst dX11_isTrue_72 (by decide) ?_
                refine T_goto (tgt := 78) dX11_isTrue_73 (by decide) ?_
                refine U_iast dX11_isTrue_78 SH_237 h.1 (fun v78_3 ev78_3 => ?_)
                replace h := h.2 v78_3 ev78_3
                refine U_iinc dX11_isTrue_79 rfl (by decide) rfl h.1 ?_
                replace h := h.2
                refine T_goto (tgt := 17) dX11_isTrue_82 (by decide) ?_
                exact T_drop h ⟨Or.inl rfl, Or.inl rfl, Or.inl rfl, Or.inl rfl, Or.inl rfl, Or.inr rfl, Or.inr rfl, trivial⟩
        · replace h := h.2 hc
          refine T_iconst dX11_isTrue_40 (by decide) ?_
          refine T_goto (tgt := 78) dX11_isTrue_41 (by decide) ?_
          refine U_iast dX11_isTrue_78 SH_237 h.1 (fun v78_4 ev78_4 => ?_)
          replace h := h.2 v78_4 ev78_4
          refine U_iinc dX11_isTrue_79 rfl (by decide) rfl h.1 ?_
          replace h := h.2
          refine T_goto (tgt := 17) dX11_isTrue_82 (by decide) ?_
          exact T_drop h ⟨Or.inl rfl, Or.inl rfl, Or.inl rfl, Or.inl rfl, Or.inl rfl, Or.inr rfl, Or.inr rfl, trivial⟩

theorem W_X11_spread_ {G : GT} {d : Nat} (hd : 3 ≤ d) {x1 : Int}   {v : VT} {q : Int → Prop} {Q : Option Vl → List Sh → VT → Prop} (h : P_X11_spread_ x1 v q) (hQ : ∀ r, q r → Q (some (vI r)) SH v) : n_T G d 0 0 mX11_spread_ 0 [vR 218, vI x1, vS 9, vS 9, vS 9] [] SH v Q := by
  unfold P_X11_spread_ at h
  refine T_iload_n dX11_spread__0 rfl ?_
  refine T_istore_n dX11_spread__1 (by decide) rfl ?_
  refine T_iconst dX11_spread__2 (by decide) ?_
  refine T_istore_n dX11_spread__3 (by decide) rfl ?_
  refine T_drop (h (fun (i2 : Int) (i3 : Int) => n_T G d 0 0 mX11_spread_ 4 [vR 218, vI x1, vI i2, vI i3, vS 9] [] SH v Q) (fun i2 i3 h => ?_)) ⟨Or.inl rfl, Or.inl rfl, Or.inl rfl, Or.inl rfl, Or.inr rfl, trivial⟩
  refine T_iload_n dX11_spread__4 rfl ?_
  refine T_aload_n dX11_spread__5 rfl ?_
  refine T_getR (r := 222) dX11_spread__6 fX11_23 rfl SH_218 rfl ?_
  refine T_iconst dX11_spread__9 (by decide) ?_
  refine T_iald dX11_spread__10 SH_222 (by decide) ?_
  refine U_icmp_ge (tgt := 69) dX11_spread__11 (by decide) (fun hc => ?_) (fun hc => ?_)
  · replace h := h.1 hc
    refine T_iload_n dX11_spread__69 rfl ?_
    exact T_iret dX11_spread__70 rfl (hQ _ h)
  · replace h := h.2 hc
    refine T_iload_n dX11_spread__14 rfl ?_
    refine T_iconst dX11_spread__15 (by decide) ?_
    refine U_iadd dX11_spread__16 h.1 ?_
    replace h := h.2
    refine T_istore dX11_spread__17 (by decide) rfl ?_
    refine T_drop (h (fun (i2_1 : Int) (i4 : Int) => n_T G d 0 0 mX11_spread_ 19 [vR 218, vI x1, vI i2_1, vI i3, vI i4] [] SH v Q) (fun i2_1 i4 h => ?_)) ⟨Or.inl rfl, Or.inl rfl, Or.inl rfl, Or.inl rfl, Or.inl rfl, trivial⟩
    refine T_iload dX11_spread__19 rfl ?_
    refine T_aload_n dX11_spread__21 rfl ?_
    refine T_getR (r := 222) dX11_spread__22 fX11_23 rfl SH_218 rfl ?_
    refine T_iconst dX11_spread__25 (by decide) ?_
    refine T_iald dX11_spread__26 SH_222 (by decide) ?_
    refine U_icmp_ge (tgt := 63) dX11_spread__27 (by decide) (fun hc => ?_) (fun hc => ?_)
    · replace h := h.1 hc
      refine U_iinc dX11_spread__63 rfl (by decide) rfl h.1 ?_
      replace h := h.2
      refine T_goto (tgt := 4) dX11_spread__66 (by decide) ?_
      exact T_drop h ⟨Or.inl rfl, Or.inl rfl, Or.inl rfl, Or.inl rfl, Or.inr rfl, trivial⟩
    · replace h := h.2 hc
      refine T_iload_n dX11_spread__30 rfl ?_
      refine T_iload_n dX11_spread__31 rfl ?_
      refine U_callS (as := [vI x1, vI i3]) (st := []) dX11_spread__32 kX11_isOf lX11_281 rfl rfl (Nat.le_of_ble_eq_true rfl) (Nat.le_of_ble_eq_true rfl) (by omega) ?_
      refine W_X11_isOf (by omega)  h (fun r32 h => ?_)
      show n_T G d 0 0 mX11_spread_ 35 [vR 218, vI x1, vI i2_1, vI i3, vI i4] [vI r32] SH v Q
      refine U_if_eq (tgt := 57) dX11_spread__35 (by decide) (fun hc => ?_) (fun hc => ?_)
      · replace h := h.1 hc
        refine U_iinc dX11_spread__57 rfl (by decide) rfl h.1 ?_
        replace h := h.2
        refine T_goto (tgt := 19) dX11_spread__60 (by decide) ?_
        exact T_drop h ⟨Or.inl rfl, Or.inl rfl, Or.inl rfl, Or.inl rfl, Or.inl rfl, trivial⟩
      · replace h := h.2 hc
        refine T_iload_n dX11_spread__38 rfl ?_
        refine T_iload dX11_spread__39 rfl ?_
        refine U_callS (as := [vI x1, vI i4]) (st := []) dX11_spread__41 kX11_isOf lX11_281 rfl rfl (Nat.le_of_ble_eq_true rfl) (Nat.le_of_ble_eq_true rfl) (by omega) ?_
        refine W_X11_isOf (by omega)  h (fun r41 h => ?_)
        show n_T G d 0 0 mX11_spread_ 44 [vR 218, vI x1, vI i2_1, vI i3, vI i4] [vI r41] SH v Q
        refine U_if_eq (tgt := 57) dX11_spread__44 (by decide) (fun hc => ?_) (fun hc => ?_)
        · replace h := h.1 hc
          refine U_iinc dX11_spread__57 rfl (by decide) rfl h.1 ?_
          replace h := h.2
          refine T_goto (tgt := 19) dX11_spread__60 (by decide) ?_
          exact T_drop h ⟨Or.inl rfl, Or.inl rfl, Or.inl rfl, Or.inl rfl, Or.inl rfl, trivial⟩
        · replace h := h.2 hc
          refine T_iload_n dX11_spread__47 rfl ?_
          refine T_aload_n dX11_spread__48 rfl ?_
          refine T_iload_n dX11_spread__49 rfl ?_
          refine T_iload dX11_spread__50 rfl ?_
          refine U_callV (as := [vI i3, vI i4]) (st := [vI i2_1]) dX11_spread__52 kX11_betweenOf lX11_273 SH_218 rfl rfl rfl rfl (Nat.le_of_ble_eq_true rfl) (Nat.le_of_ble_eq_true rfl) (by omega) ?_
          refine W_X11_betweenOf (by omega)  h (fun r52 h => ?_)
          show n_T G d 0 0 mX11_spread_ 55 [vR 218, vI x1, vI i2_1, vI i3, vI i4] [vI r52, vI i2_1] SH v Q
          refine T_ior dX11_spread__55 ?_
          refine U_istore_n dX11_spread__56 (by decide) rfl (fun l2 el2 => ?_)
          replace h := h l2 el2
          refine U_iinc dX11_spread__57 rfl (by decide) rfl h.1 ?_
          replace h := h.2
          refine T_goto (tgt := 19) dX11_spread__60 (by decide) ?_
          exact T_drop h ⟨Or.inl rfl, Or.inl rfl, Or.inl rfl, Or.inl rfl, Or.inl rfl, trivial⟩

theorem W_X11_set {G : GT} {d : Nat} (hd : 7 ≤ d) {x1 : Int} {x2 : Int}   {v : VT} {q : Int → VT → Prop} {Q : Option Vl → List Sh → VT → Prop} (h : P_X11_set x1 x2 v q) (hQ : ∀ r w, q r w → Q (some (vI r)) SH w) : n_T G d 0 0 mX11_set 0 [vR 218, vI x1, vI x2] [] SH v Q := by
  unfold P_X11_set at h
  refine T_aload_n dX11_set_0 rfl ?_
  refine T_iload_n dX11_set_1 rfl ?_
  refine U_callV (as := [vI x1]) (st := []) dX11_set_2 kX11_isSet lX11_355 SH_218 rfl rfl rfl rfl (Nat.le_of_ble_eq_true rfl) (Nat.le_of_ble_eq_true rfl) (by omega) ?_
  refine W_X11_isSet (by omega)  h (fun r2 v2 h => ?_)
  show n_T G d 0 0 mX11_set 5 [vR 218, vI x1, vI x2] [vI r2] SH v2 Q
  refine U_if_eq (tgt := 18) dX11_set_5 (by decide) (fun hc => ?_) (fun hc => ?_)
  · replace h := h.1 hc
    refine T_iconst dX11_set_18 (by decide) ?_
    exact T_iret dX11_set_19 rfl (hQ _ _ h)
  · replace h := h.2 hc
    refine T_iload_n dX11_set_8 rfl ?_
    refine T_i2l dX11_set_9 ?_
    refine T_lconst dX11_set_10 ?_
    refine T_lconst dX11_set_11 ?_
    refine U_callS (as := [vJ x2, vJ 0, vJ 1]) (st := []) dX11_set_12 kX11_isIn lX11_109 rfl rfl (Nat.le_of_ble_eq_true rfl) (Nat.le_of_ble_eq_true rfl) (by omega) ?_
    refine W_X11_isIn (by omega)  h (fun r12 h => ?_)
    show n_T G d 0 0 mX11_set 15 [vR 218, vI x1, vI x2] [vI r12] SH v2 Q
    refine U_if_ne (tgt := 20) dX11_set_15 (by decide) (fun hc => ?_) (fun hc => ?_)
    · replace h := h.1 hc
      refine T_iload_n dX11_set_20 rfl ?_
      refine U_if_ne (tgt := 32) dX11_set_21 (by decide) (fun hc => ?_) (fun hc => ?_)
      · replace h := h.1 hc
        refine T_aload_n dX11_set_32 rfl ?_
        refine T_iload_n dX11_set_33 rfl ?_
        refine U_callV (as := [vI x1]) (st := []) dX11_set_34 kX11_spread_ lX11_361 SH_218 rfl rfl rfl rfl (Nat.le_of_ble_eq_true rfl) (Nat.le_of_ble_eq_true rfl) (by omega) ?_
        refine W_X11_spread_ (by omega)  h (fun r34 h => ?_)
        show n_T G d 0 0 mX11_set 37 [vR 218, vI x1, vI x2] [vI r34] SH v2 Q
        refine T_iload_n dX11_set_37 rfl ?_
        refine U_icmp_ne (tgt := 45) dX11_set_38 (by decide) (fun hc => ?_) (fun hc => ?_)
        · replace h := h.1 hc
          refine T_iconst dX11_set_45 (by decide) ?_
          refine U_callS (as := [vI 0]) (st := []) dX11_set_46 kX11_flag lX11_250 rfl rfl (Nat.le_of_ble_eq_true rfl) (Nat.le_of_ble_eq_true rfl) (by omega) ?_
          refine W_X11_flag (by omega)  h (fun r46 h => ?_)
          show n_T G d 0 0 mX11_set 49 [vR 218, vI x1, vI x2] [vI r46] SH v2 Q
          exact T_iret dX11_set_49 rfl (hQ _ _ h)
        · replace h := h.2 hc
          refine T_iconst dX11_set_41 (by decide) ?_
          refine T_goto (tgt := 46) dX11_set_42 (by decide) ?_
          refine U_callS (as := [vI 1]) (st := []) dX11_set_46 kX11_flag lX11_250 rfl rfl (Nat.le_of_ble_eq_true rfl) (Nat.le_of_ble_eq_true rfl) (by omega) ?_
          refine W_X11_flag (by omega)  h (fun r46_1 h => ?_)
          show n_T G d 0 0 mX11_set 49 [vR 218, vI x1, vI x2] [vI r46_1] SH v2 Q
          exact T_iret dX11_set_49 rfl (hQ _ _ h)
      · replace h := h.2 hc
        refine T_aload_n dX11_set_24 rfl ?_
        refine T_iload_n dX11_set_25 rfl ?_
        refine U_callV (as := [vI x1]) (st := []) dX11_set_26 kX11_isTrue lX11_358 SH_218 rfl rfl rfl rfl (Nat.le_of_ble_eq_true rfl) (Nat.le_of_ble_eq_true rfl) (by omega) ?_
        refine W_X11_isTrue (by omega)  h (fun r26 v26 h => ?_)
        show n_T G d 0 0 mX11_set 29 [vR 218, vI x1, vI x2] [vI r26] SH v26 Q
        refine T_goto (tgt := 46) dX11_set_29 (by decide) ?_
        refine U_callS (as := [vI r26]) (st := []) dX11_set_46 kX11_flag lX11_250 rfl rfl (Nat.le_of_ble_eq_true rfl) (Nat.le_of_ble_eq_true rfl) (by omega) ?_
        refine W_X11_flag (by omega)  h (fun r46_2 h => ?_)
        show n_T G d 0 0 mX11_set 49 [vR 218, vI x1, vI x2] [vI r46_2] SH v26 Q
        exact T_iret dX11_set_49 rfl (hQ _ _ h)
    · replace h := h.2 hc
      refine T_iconst dX11_set_18 (by decide) ?_
      exact T_iret dX11_set_19 rfl (hQ _ _ h)

theorem W_X11_hull {G : GT} {d : Nat} (hd : 7 ≤ d) {x1 : Int}   {v : VT} {q : Int → VT → Prop} {Q : Option Vl → List Sh → VT → Prop} (h : P_X11_hull x1 v q) (hQ : ∀ r w, q r w → Q (some (vI r)) SH w) : n_T G d 0 0 mX11_hull 0 [vR 218, vI x1, vS 9] [] SH v Q := by
  unfold P_X11_hull at h
  refine T_aload_n dX11_hull_0 rfl ?_
  refine T_iload_n dX11_hull_1 rfl ?_
  refine U_callV (as := [vI x1]) (st := []) dX11_hull_2 kX11_isSet lX11_355 SH_218 rfl rfl rfl rfl (Nat.le_of_ble_eq_true rfl) (Nat.le_of_ble_eq_true rfl) (by omega) ?_
  refine W_X11_isSet (by omega)  h (fun r2 v2 h => ?_)
  show n_T G d 0 0 mX11_hull 5 [vR 218, vI x1, vS 9] [vI r2] SH v2 Q
  refine U_if_ne (tgt := 10) dX11_hull_5 (by decide) (fun hc => ?_) (fun hc => ?_)
  · replace h := h.1 hc
    refine T_iload_n dX11_hull_10 rfl ?_
    refine T_istore_n dX11_hull_11 (by decide) rfl ?_
    refine T_drop (h (fun (i2 : Int) => n_T G d 0 0 mX11_hull 12 [vR 218, vS 9, vI i2] [] SH v2 Q) (fun i2 h => ?_)) ⟨Or.inl rfl, Or.inr rfl, Or.inl rfl, trivial⟩
    refine T_aload_n dX11_hull_12 rfl ?_
    refine T_iload_n dX11_hull_13 rfl ?_
    refine U_callV (as := [vI i2]) (st := []) dX11_hull_14 kX11_spread_ lX11_361 SH_218 rfl rfl rfl rfl (Nat.le_of_ble_eq_true rfl) (Nat.le_of_ble_eq_true rfl) (by omega) ?_
    refine W_X11_spread_ (by omega)  h (fun r14 h => ?_)
    show n_T G d 0 0 mX11_hull 17 [vR 218, vS 9, vI i2] [vI r14] SH v2 Q
    refine T_iload_n dX11_hull_17 rfl ?_
    refine U_icmp_eq (tgt := 30) dX11_hull_18 (by decide) (fun hc => ?_) (fun hc => ?_)
    · replace h := h.1 hc
      refine T_iload_n dX11_hull_30 rfl ?_
      exact T_iret dX11_hull_31 rfl (hQ _ _ h)
    · replace h := h.2 hc
      refine T_aload_n dX11_hull_21 rfl ?_
      refine T_iload_n dX11_hull_22 rfl ?_
      refine U_callV (as := [vI i2]) (st := []) dX11_hull_23 kX11_spread_ lX11_361 SH_218 rfl rfl rfl rfl (Nat.le_of_ble_eq_true rfl) (Nat.le_of_ble_eq_true rfl) (by omega) ?_
      refine W_X11_spread_ (by omega)  h (fun r23 h => ?_)
      show n_T G d 0 0 mX11_hull 26 [vR 218, vS 9, vI i2] [vI r23] SH v2 Q
      refine T_istore_n dX11_hull_26 (by decide) rfl ?_
      refine T_goto (tgt := 12) dX11_hull_27 (by decide) ?_
      exact T_drop h ⟨Or.inl rfl, Or.inr rfl, Or.inl rfl, trivial⟩
  · replace h := h.2 hc
    refine T_iconst dX11_hull_8 (by decide) ?_
    exact T_iret dX11_hull_9 rfl (hQ _ _ h)

theorem W_X11_gate {G : GT} {d : Nat} (hd : 7 ≤ d) {x1 : Int} {x2 : Int}   {v : VT} {q : Int → VT → Prop} {Q : Option Vl → List Sh → VT → Prop} (h : P_X11_gate x1 x2 v q) (hQ : ∀ r w, q r w → Q (some (vI r)) SH w) : n_T G d 0 0 mX11_gate 0 [vR 218, vI x1, vI x2, vS 9, vS 9, vS 9] [] SH v Q := by
  unfold P_X11_gate at h
  refine T_aload_n dX11_gate_0 rfl ?_
  refine T_iload_n dX11_gate_1 rfl ?_
  refine U_callV (as := [vI x2]) (st := []) dX11_gate_2 kX11_isSet lX11_355 SH_218 rfl rfl rfl rfl (Nat.le_of_ble_eq_true rfl) (Nat.le_of_ble_eq_true rfl) (by omega) ?_
  refine W_X11_isSet (by omega)  h (fun r2 v2 h => ?_)
  show n_T G d 0 0 mX11_gate 5 [vR 218, vI x1, vI x2, vS 9, vS 9, vS 9] [vI r2] SH v2 Q
  refine U_if_eq (tgt := 16) dX11_gate_5 (by decide) (fun hc => ?_) (fun hc => ?_)
  · replace h := h.1 hc
    refine T_iconst dX11_gate_16 (by decide) ?_
    exact T_iret dX11_gate_17 rfl (hQ _ _ h)
  · replace h := h.2 hc
    refine T_aload_n dX11_gate_8 rfl ?_
    refine T_iload_n dX11_gate_9 rfl ?_
    refine U_callV (as := [vI x1]) (st := []) dX11_gate_10 kX11_isNode lX11_257 SH_218 rfl rfl rfl rfl (Nat.le_of_ble_eq_true rfl) (Nat.le_of_ble_eq_true rfl) (by omega) ?_
    refine W_X11_isNode (by omega)  h (fun r10 h => ?_)
    show n_T G d 0 0 mX11_gate 13 [vR 218, vI x1, vI x2, vS 9, vS 9, vS 9] [vI r10] SH v2 Q
    refine U_if_ne (tgt := 18) dX11_gate_13 (by decide) (fun hc => ?_) (fun hc => ?_)
    · replace h := h.1 hc
      refine T_iconst dX11_gate_18 (by decide) ?_
      refine T_istore_n dX11_gate_19 (by decide) rfl ?_
      refine T_drop (h (fun (i3 : Int) => n_T G d 0 0 mX11_gate 20 [vR 218, vI x1, vI x2, vI i3, vS 9, vS 9] [] SH v2 Q) (fun i3 h => ?_)) ⟨Or.inl rfl, Or.inl rfl, Or.inl rfl, Or.inl rfl, Or.inr rfl, Or.inr rfl, trivial⟩
      refine T_iload_n dX11_gate_20 rfl ?_
      refine T_aload_n dX11_gate_21 rfl ?_
      refine T_getR (r := 222) dX11_gate_22 fX11_23 rfl SH_218 rfl ?_
      refine T_iconst dX11_gate_25 (by decide) ?_
      refine T_iald dX11_gate_26 SH_222 (by decide) ?_
      refine U_icmp_ge (tgt := 105) dX11_gate_27 (by decide) (fun hc => ?_) (fun hc => ?_)
      · replace h := h.1 hc
        refine T_iconst dX11_gate_105 (by decide) ?_
        exact T_iret dX11_gate_106 rfl (hQ _ _ h)
      · replace h := h.2 hc
        refine T_iload_n dX11_gate_30 rfl ?_
        refine T_iload_n dX11_gate_31 rfl ?_
        refine U_callS (as := [vI x2, vI i3]) (st := []) dX11_gate_32 kX11_isOf lX11_281 rfl rfl (Nat.le_of_ble_eq_true rfl) (Nat.le_of_ble_eq_true rfl) (by omega) ?_
        refine W_X11_isOf (by omega)  h (fun r32 h => ?_)
        show n_T G d 0 0 mX11_gate 35 [vR 218, vI x1, vI x2, vI i3, vS 9, vS 9] [vI r32] SH v2 Q
        refine T_istore dX11_gate_35 (by decide) rfl ?_
        refine T_iconst dX11_gate_37 (by decide) ?_
        refine T_istore dX11_gate_38 (by decide) rfl ?_
        refine T_drop (h (fun (i4 : Int) (i5 : Int) => n_T G d 0 0 mX11_gate 40 [vR 218, vI x1, vI x2, vI i3, vI i4, vI i5] [] SH v2 Q) (fun i4 i5 h => ?_)) ⟨Or.inl rfl, Or.inl rfl, Or.inl rfl, Or.inl rfl, Or.inl rfl, Or.inl rfl, trivial⟩
        refine T_iload dX11_gate_40 rfl ?_
        refine T_aload_n dX11_gate_42 rfl ?_
        refine T_getR (r := 222) dX11_gate_43 fX11_23 rfl SH_218 rfl ?_
        refine T_iconst dX11_gate_46 (by decide) ?_
        refine T_iald dX11_gate_47 SH_222 (by decide) ?_
        refine U_icmp_ge (tgt := 92) dX11_gate_48 (by decide) (fun hc => ?_) (fun hc => ?_)
        · replace h := h.1 hc
          refine T_iload dX11_gate_92 rfl ?_
          refine U_if_eq (tgt := 99) dX11_gate_94 (by decide) (fun hc => ?_) (fun hc => ?_)
          · replace h := h.1 hc
            refine U_iinc dX11_gate_99 rfl (by decide) rfl h.1 ?_
            replace h := h.2
            refine T_goto (tgt := 20) dX11_gate_102 (by decide) ?_
            exact T_drop h ⟨Or.inl rfl, Or.inl rfl, Or.inl rfl, Or.inl rfl, Or.inr rfl, Or.inr rfl, trivial⟩
          · replace h := h.2 hc
            refine T_iload_n dX11_gate_97 rfl ?_
            exact T_iret dX11_gate_98 rfl (hQ _ _ h)
        · replace h := h.2 hc
          refine T_iload dX11_gate_51 rfl ?_
          refine U_if_eq (tgt := 92) dX11_gate_53 (by decide) (fun hc => ?_) (fun hc => ?_)
          · replace h := h.1 hc
            refine T_iload dX11_gate_92 rfl ?_
            refine U_if_eq (tgt := 99) dX11_gate_94 (by decide) (fun hc => ?_) (fun hc => ?_)
            · replace h := h.1 hc
              refine U_iinc dX11_gate_99 rfl (by decide) rfl h.1 ?_
              replace h := h.2
              refine T_goto (tgt := 20) dX11_gate_102 (by decide) ?_
              exact T_drop h ⟨Or.inl rfl, Or.inl rfl, Or.inl rfl, Or.inl rfl, Or.inr rfl, Or.inr rfl, trivial⟩
            · replace h := h.2 hc
              refine T_iload_n dX11_gate_97 rfl ?_
              exact T_iret dX11_gate_98 rfl (hQ _ _ h)
          · replace h := h.2 hc
            refine T_iload_n dX11_gate_56 rfl ?_
            refine T_iload dX11_gate_57 rfl ?_
            refine U_callS (as := [vI x2, vI i5]) (st := []) dX11_gate_59 kX11_isOf lX11_281 rfl rfl (Nat.le_of_ble_eq_true rfl) (Nat.le_of_ble_eq_true rfl) (by omega) ?_
            refine W_X11_isOf (by omega)  h (fun r59 h => ?_)
            show n_T G d 0 0 mX11_gate 62 [vR 218, vI x1, vI x2, vI i3, vI i4, vI i5] [vI r59] SH v2 Q
            refine U_if_eq (tgt := 79) dX11_gate_62 (by decide) (fun hc => ?_) (fun hc => ?_)
            · replace h := h.1 hc
              refine T_iconst dX11_gate_79 (by decide) ?_
              refine T_goto (tgt := 84) dX11_gate_80 (by decide) ?_
              refine T_istore dX11_gate_84 (by decide) rfl ?_
              refine U_iinc dX11_gate_86 rfl (by decide) rfl h.1 ?_
              replace h := h.2
              refine T_goto (tgt := 40) dX11_gate_89 (by decide) ?_
              exact T_drop h ⟨Or.inl rfl, Or.inl rfl, Or.inl rfl, Or.inl rfl, Or.inl rfl, Or.inl rfl, trivial⟩
            · replace h := h.2 hc
              refine T_aload_n dX11_gate_65 rfl ?_
              refine T_iload_n dX11_gate_66 rfl ?_
              refine T_iload dX11_gate_67 rfl ?_
              refine U_callV (as := [vI x1, vI i5]) (st := []) dX11_gate_69 kX11_betweenOf lX11_273 SH_218 rfl rfl rfl rfl (Nat.le_of_ble_eq_true rfl) (Nat.le_of_ble_eq_true rfl) (by omega) ?_
              refine W_X11_betweenOf (by omega)  h (fun r69 h => ?_)
              show n_T G d 0 0 mX11_gate 72 [vR 218, vI x1, vI x2, vI i3, vI i4, vI i5] [vI r69] SH v2 Q
              refine T_iload_n dX11_gate_72 rfl ?_
              refine U_callS (as := [vI r69, vI i3]) (st := []) dX11_gate_73 kX11_isOf lX11_281 rfl rfl (Nat.le_of_ble_eq_true rfl) (Nat.le_of_ble_eq_true rfl) (by omega) ?_
              refine W_X11_isOf (by omega)  h (fun r73 h => ?_)
              show n_T G d 0 0 mX11_gate 76 [vR 218, vI x1, vI x2, vI i3, vI i4, vI i5] [vI r73] SH v2 Q
              refine U_if_eq (tgt := 83) dX11_gate_76 (by decide) (fun hc => ?_) (fun hc => ?_)
              · replace h := h.1 hc
                refine T_iconst dX11_gate_83 (by decide) ?_
                refine T_istore dX11_gate_84 (by decide) rfl ?_
                refine U_iinc dX11_gate_86 rfl (by decide) rfl h.1 ?_
                replace h := h.2
                refine T_goto (tgt := 40) dX11_gate_89 (by decide) ?_
                exact T_drop h ⟨Or.inl rfl, Or.inl rfl, Or.inl rfl, Or.inl rfl, Or.inl rfl, Or.inl rfl, trivial⟩
              · replace h := h.2 hc
                refine T_iconst dX11_gate_79 (by decide) ?_
                refine T_goto (tgt := 84) dX11_gate_80 (by decide) ?_
                refine T_istore dX11_gate_84 (by decide) rfl ?_
                refine U_iinc dX11_gate_86 rfl (by decide) rfl h.1 ?_
                replace h := h.2
                refine T_goto (tgt := 40) dX11_gate_89 (by decide) ?_
                exact T_drop h ⟨Or.inl rfl, Or.inl rfl, Or.inl rfl, Or.inl rfl, Or.inl rfl, Or.inl rfl, trivial⟩
    · replace h := h.2 hc
      refine T_iconst dX11_gate_16 (by decide) ?_
      exact T_iret dX11_gate_17 rfl (hQ _ _ h)

theorem W_X11_see {G : GT} {d : Nat} (hd : 3 ≤ d)    {v : VT} {q : Int → VT → Prop} {Q : Option Vl → List Sh → VT → Prop} (h : P_X11_see  v q) (hQ : ∀ r w, q r w → Q (some (vI r)) SH w) : n_T G d 0 0 mX11_see 0 [vR 218, vS 9, vS 9, vS 9] [] SH v Q := by
  unfold P_X11_see at h
  refine T_aload_n dX11_see_0 rfl ?_
  refine T_getI dX11_see_1 fX11_96 rfl SH_218 ?_
  refine T_istore_n dX11_see_4 (by decide) rfl ?_
  refine T_aload_n dX11_see_5 rfl ?_
  refine T_iconst dX11_see_6 (by decide) ?_
  refine U_putI dX11_see_7 fX11_96 rfl rfl SH_218 (fun v7 ev7 => ?_)
  replace h := h v7 ev7
  refine T_iload_n dX11_see_10 rfl ?_
  refine n_cut (h (fun (s0 : Int) => n_T G d 0 0 mX11_see 33 [vR 218, vI (v 218 1), vS 9, vS 9] [vI s0] SH v7 Q)) ?_ ?_
  · intro s0 h
    refine T_istore_n dX11_see_33 (by decide) rfl ?_
    refine T_iconst dX11_see_34 (by decide) ?_
    refine T_istore_n dX11_see_35 (by decide) rfl ?_
    refine n_cut (h (fun (i2 : Int) => n_T G d 0 0 mX11_see 83 [vR 218, vI (v 218 1), vI i2, vS 9] [] SH v7 Q)) ?_ ?_
    · intro i2 h
      refine T_iload_n dX11_see_83 rfl ?_
      refine U_if_ne (tgt := 93) dX11_see_84 (by decide) (fun hc => ?_) (fun hc => ?_)
      · replace h := h.1 hc
        refine T_iconst dX11_see_93 (by decide) ?_
        refine T_istore_n dX11_see_94 (by decide) rfl ?_
        refine T_drop (h (fun (i3 : Int) (v95 : VT) => n_T G d 0 0 mX11_see 95 [vR 218, vI (v 218 1), vS 9, vI i3] [] SH v95 Q) (fun i3 v95 h => ?_)) ⟨Or.inl rfl, Or.inl rfl, Or.inr rfl, Or.inl rfl, trivial⟩
        refine T_iload_n dX11_see_95 rfl ?_
        refine T_iload_n dX11_see_96 rfl ?_
        refine U_icmp_ge (tgt := 118) dX11_see_97 (by decide) (fun hc => ?_) (fun hc => ?_)
        · replace h := h.1 hc
          refine T_aload_n dX11_see_118 rfl ?_
          refine T_iload_n dX11_see_119 rfl ?_
          refine T_iconst dX11_see_120 (by decide) ?_
          refine T_idiv dX11_see_121 (by decide) ?_
          refine U_putI dX11_see_122 fX11_205 rfl rfl SH_218 (fun v122 ev122 => ?_)
          replace h := h v122 ev122
          refine T_aload_n dX11_see_125 rfl ?_
          refine T_getI dX11_see_126 fX11_205 rfl SH_218 ?_
          exact T_iret dX11_see_129 rfl (hQ _ _ h)
        · replace h := h.2 hc
          refine T_aload_n dX11_see_100 rfl ?_
          refine T_getR (r := 238) dX11_see_101 fX11_74 rfl SH_218 rfl ?_
          refine T_iload_n dX11_see_104 rfl ?_
          refine T_aload_n dX11_see_105 rfl ?_
          refine T_getR (r := 219) dX11_see_106 fX11_7 rfl SH_218 rfl ?_
          refine T_iload_n dX11_see_109 rfl ?_
          refine T_iald dX11_see_110 SH_219 h.1 ?_
          replace h := h.2
          refine U_iast dX11_see_111 SH_238 h.1 (fun v111 ev111 => ?_)
          replace h := h.2 v111 ev111
          refine U_iinc dX11_see_112 rfl (by decide) rfl h.1 ?_
          replace h := h.2
          refine T_goto (tgt := 95) dX11_see_115 (by decide) ?_
          exact T_drop h ⟨Or.inl rfl, Or.inl rfl, Or.inr rfl, Or.inl rfl, trivial⟩
      · replace h := h.2 hc
        refine T_aload_n dX11_see_87 rfl ?_
        refine T_iconst dX11_see_88 (by decide) ?_
        refine U_callV (as := [vI 1]) (st := []) dX11_see_89 kX11_refuses lX11_99 SH_218 rfl rfl rfl rfl (Nat.le_of_ble_eq_true rfl) (Nat.le_of_ble_eq_true rfl) (by omega) ?_
        refine W_X11_refuses (by omega)  h (fun r89 v89 h => ?_)
        show n_T G d 0 0 mX11_see 92 [vR 218, vI (v 218 1), vI i2, vS 9] [vI r89] SH v89 Q
        exact T_iret dX11_see_92 rfl (hQ _ _ h)
    · intro h
      refine T_drop (h (fun (i2_1 : Int) (i3_1 : Int) => n_T G d 0 0 mX11_see 36 [vR 218, vI (v 218 1), vI i2_1, vI i3_1] [] SH v7 Q) (fun i2_1 i3_1 h => ?_)) ⟨Or.inl rfl, Or.inl rfl, Or.inl rfl, Or.inl rfl, trivial⟩
      refine T_iload_n dX11_see_36 rfl ?_
      refine T_iload_n dX11_see_37 rfl ?_
      refine U_icmp_ge (tgt := 83) dX11_see_38 (by decide) (fun hc => ?_) (fun hc => ?_)
      · replace h := h.1 hc
        exact T_drop h ⟨Or.inl rfl, Or.inl rfl, Or.inl rfl, Or.inr rfl, trivial⟩
      · replace h := h.2 hc
        refine T_iload_n dX11_see_41 rfl ?_
        refine U_if_eq (tgt := 83) dX11_see_42 (by decide) (fun hc => ?_) (fun hc => ?_)
        · replace h := h.1 hc
          exact T_drop h ⟨Or.inl rfl, Or.inl rfl, Or.inl rfl, Or.inr rfl, trivial⟩
        · replace h := h.2 hc
          refine T_aload_n dX11_see_45 rfl ?_
          refine T_aload_n dX11_see_46 rfl ?_
          refine T_getR (r := 219) dX11_see_47 fX11_7 rfl SH_218 rfl ?_
          refine T_iload_n dX11_see_50 rfl ?_
          refine T_iald dX11_see_51 SH_219 h.1 ?_
          replace h := h.2
          refine U_callV (as := [vI (v7 219 i3_1.toNat)]) (st := []) dX11_see_52 kX11_isNode lX11_257 SH_218 rfl rfl rfl rfl (Nat.le_of_ble_eq_true rfl) (Nat.le_of_ble_eq_true rfl) (by omega) ?_
          refine W_X11_isNode (by omega)  h (fun r52 h => ?_)
          show n_T G d 0 0 mX11_see 55 [vR 218, vI (v 218 1), vI i2_1, vI i3_1] [vI r52] SH v7 Q
          refine U_if_eq (tgt := 75) dX11_see_55 (by decide) (fun hc => ?_) (fun hc => ?_)
          · replace h := h.1 hc
            refine T_iconst dX11_see_75 (by decide) ?_
            refine T_istore_n dX11_see_76 (by decide) rfl ?_
            refine U_iinc dX11_see_77 rfl (by decide) rfl h.1 ?_
            replace h := h.2
            refine T_goto (tgt := 36) dX11_see_80 (by decide) ?_
            exact T_drop h ⟨Or.inl rfl, Or.inl rfl, Or.inl rfl, Or.inl rfl, trivial⟩
          · replace h := h.2 hc
            refine T_aload_n dX11_see_58 rfl ?_
            refine T_getR (r := 219) dX11_see_59 fX11_7 rfl SH_218 rfl ?_
            refine T_iload_n dX11_see_62 rfl ?_
            refine T_iconst dX11_see_63 (by decide) ?_
            refine U_iadd dX11_see_64 h.1 ?_
            replace h := h.2
            refine T_iald dX11_see_65 SH_219 h.1 ?_
            replace h := h.2
            refine T_bipush dX11_see_66 (by decide) ?_
            refine U_icmp_gt (tgt := 75) dX11_see_68 (by decide) (fun hc => ?_) (fun hc => ?_)
            · replace h := h.1 hc
              refine T_iconst dX11_see_75 (by decide) ?_
              refine T_istore_n dX11_see_76 (by decide) rfl ?_
              refine U_iinc dX11_see_77 rfl (by decide) rfl h.1 ?_
              replace h := h.2
              refine T_goto (tgt := 36) dX11_see_80 (by decide) ?_
              exact T_drop h ⟨Or.inl rfl, Or.inl rfl, Or.inl rfl, Or.inl rfl, trivial⟩
            · replace h := h.2 hc
              refine T_iconst dX11_see_71 (by decide) ?_
              refine T_goto (tgt := 76) dX11_see_72 (by decide) ?_
              refine T_istore_n dX11_see_76 (by decide) rfl ?_
              refine U_iinc dX11_see_77 rfl (by decide) rfl h.1 ?_
              replace h := h.2
              refine T_goto (tgt := 36) dX11_see_80 (by decide) ?_
              exact T_drop h ⟨Or.inl rfl, Or.inl rfl, Or.inl rfl, Or.inl rfl, trivial⟩
  · intro h
    refine n_cut (h (n_T G d 0 0 mX11_see 32 [vR 218, vI (v 218 1), vS 9, vS 9] [] SH v7 Q)) ?_ ?_
    · intro h
      refine T_iconst dX11_see_32 (by decide) ?_
      exact T_drop h ⟨Or.inl rfl, Or.inl rfl, Or.inr rfl, Or.inr rfl, trivial⟩
    · intro h
      refine U_if_le (tgt := 32) dX11_see_11 (by decide) (fun hc => ?_) (fun hc => ?_)
      · replace h := h.1 hc
        exact T_drop h ⟨Or.inl rfl, Or.inl rfl, Or.inr rfl, Or.inr rfl, trivial⟩
      · replace h := h.2 hc
        refine T_iload_n dX11_see_14 rfl ?_
        refine T_iconst dX11_see_15 (by decide) ?_
        refine T_irem dX11_see_16 (by decide) ?_
        refine U_if_ne (tgt := 32) dX11_see_17 (by decide) (fun hc => ?_) (fun hc => ?_)
        · replace h := h.1 hc
          exact T_drop h ⟨Or.inl rfl, Or.inl rfl, Or.inr rfl, Or.inr rfl, trivial⟩
        · replace h := h.2 hc
          refine T_iload_n dX11_see_20 rfl ?_
          refine T_iconst dX11_see_21 (by decide) ?_
          refine T_idiv dX11_see_22 (by decide) ?_
          refine T_bipush dX11_see_23 (by decide) ?_
          refine U_icmp_gt (tgt := 32) dX11_see_25 (by decide) (fun hc => ?_) (fun hc => ?_)
          · replace h := h.1 hc
            exact T_drop h ⟨Or.inl rfl, Or.inl rfl, Or.inr rfl, Or.inr rfl, trivial⟩
          · replace h := h.2 hc
            refine T_iconst dX11_see_28 (by decide) ?_
            refine T_goto (tgt := 33) dX11_see_29 (by decide) ?_
            exact T_drop h ⟨Or.inl rfl, Or.inl rfl, Or.inr rfl, Or.inr rfl, trivial⟩

theorem W_X11_fitting {G : GT} {d : Nat} (hd : 2 ≤ d)    {v : VT} {q : Int → Prop} {Q : Option Vl → List Sh → VT → Prop} (h : P_X11_fitting  v q) (hQ : ∀ r, q r → Q (some (vI r)) SH v) : n_T G d 0 0 mX11_fitting 0 [vR 218, vS 9, vS 9, vS 9, vS 9] [] SH v Q := by
  unfold P_X11_fitting at h
  refine T_iconst dX11_fitting_0 (by decide) ?_
  refine T_istore_n dX11_fitting_1 (by decide) rfl ?_
  refine T_iconst dX11_fitting_2 (by decide) ?_
  refine T_istore_n dX11_fitting_3 (by decide) rfl ?_
  refine T_drop (h (fun (i1 : Int) (i2 : Int) => n_T G d 0 0 mX11_fitting 4 [vR 218, vI i1, vI i2, vS 9, vS 9] [] SH v Q) (fun i1 i2 h => ?_)) ⟨Or.inl rfl, Or.inl rfl, Or.inl rfl, Or.inr rfl, Or.inr rfl, trivial⟩
  refine T_iload_n dX11_fitting_4 rfl ?_
  refine T_aload_n dX11_fitting_5 rfl ?_
  refine T_getR (r := 222) dX11_fitting_6 fX11_23 rfl SH_218 rfl ?_
  refine T_iconst dX11_fitting_9 (by decide) ?_
  refine T_iald dX11_fitting_10 SH_222 (by decide) ?_
  refine U_icmp_ge (tgt := 87) dX11_fitting_11 (by decide) (fun hc => ?_) (fun hc => ?_)
  · replace h := h.1 hc
    refine T_iload_n dX11_fitting_87 rfl ?_
    exact T_iret dX11_fitting_88 rfl (hQ _ h)
  · replace h := h.2 hc
    refine T_iconst dX11_fitting_14 (by decide) ?_
    refine T_istore_n dX11_fitting_15 (by decide) rfl ?_
    refine T_iconst dX11_fitting_16 (by decide) ?_
    refine T_istore dX11_fitting_17 (by decide) rfl ?_
    refine T_drop (h (fun (i3 : Int) (i4 : Int) => n_T G d 0 0 mX11_fitting 19 [vR 218, vI i1, vI i2, vI i3, vI i4] [] SH v Q) (fun i3 i4 h => ?_)) ⟨Or.inl rfl, Or.inl rfl, Or.inl rfl, Or.inl rfl, Or.inl rfl, trivial⟩
    refine T_iload dX11_fitting_19 rfl ?_
    refine T_aload_n dX11_fitting_21 rfl ?_
    refine T_getI dX11_fitting_22 fX11_205 rfl SH_218 ?_
    refine U_icmp_ge (tgt := 72) dX11_fitting_25 (by decide) (fun hc => ?_) (fun hc => ?_)
    · replace h := h.1 hc
      refine T_iload_n dX11_fitting_72 rfl ?_
      refine T_iload_n dX11_fitting_73 rfl ?_
      refine U_callS (as := [vI i3]) (st := [vI i1]) dX11_fitting_74 kX11_flag lX11_250 rfl rfl (Nat.le_of_ble_eq_true rfl) (Nat.le_of_ble_eq_true rfl) (by omega) ?_
      refine W_X11_flag (by omega)  h (fun r74 h => ?_)
      show n_T G d 0 0 mX11_fitting 77 [vR 218, vI i1, vI i2, vI i3, vI i4] [vI r74, vI i1] SH v Q
      refine T_iload_n dX11_fitting_77 rfl ?_
      refine T_ishl dX11_fitting_78 ?_
      refine T_ior dX11_fitting_79 ?_
      refine U_istore_n dX11_fitting_80 (by decide) rfl (fun l1 el1 => ?_)
      replace h := h l1 el1
      refine U_iinc dX11_fitting_81 rfl (by decide) rfl h.1 ?_
      replace h := h.2
      refine T_goto (tgt := 4) dX11_fitting_84 (by decide) ?_
      exact T_drop h ⟨Or.inl rfl, Or.inl rfl, Or.inl rfl, Or.inr rfl, Or.inr rfl, trivial⟩
    · replace h := h.2 hc
      refine T_iload_n dX11_fitting_28 rfl ?_
      refine U_if_eq (tgt := 64) dX11_fitting_29 (by decide) (fun hc => ?_) (fun hc => ?_)
      · replace h := h.1 hc
        refine T_iconst dX11_fitting_64 (by decide) ?_
        refine T_istore_n dX11_fitting_65 (by decide) rfl ?_
        refine U_iinc dX11_fitting_66 rfl (by decide) rfl h.1 ?_
        replace h := h.2
        refine T_goto (tgt := 19) dX11_fitting_69 (by decide) ?_
        exact T_drop h ⟨Or.inl rfl, Or.inl rfl, Or.inl rfl, Or.inl rfl, Or.inl rfl, trivial⟩
      · replace h := h.2 hc
        refine T_aload_n dX11_fitting_32 rfl ?_
        refine T_aload_n dX11_fitting_33 rfl ?_
        refine T_getR (r := 238) dX11_fitting_34 fX11_74 rfl SH_218 rfl ?_
        refine T_iconst dX11_fitting_37 (by decide) ?_
        refine T_iload dX11_fitting_38 rfl ?_
        refine U_imul dX11_fitting_40 h.1 ?_
        replace h := h.2
        refine T_iald dX11_fitting_41 SH_238 h.1 ?_
        replace h := h.2
        refine T_iload_n dX11_fitting_42 rfl ?_
        refine U_callV (as := [vI (v 238 (2 * i4).toNat), vI i2]) (st := []) dX11_fitting_43 kX11_farOf lX11_214 SH_218 rfl rfl rfl rfl (Nat.le_of_ble_eq_true rfl) (Nat.le_of_ble_eq_true rfl) (by omega) ?_
        refine W_X11_farOf (by omega)  h (fun r43 h => ?_)
        show n_T G d 0 0 mX11_fitting 46 [vR 218, vI i1, vI i2, vI i3, vI i4] [vI r43] SH v Q
        refine T_aload_n dX11_fitting_46 rfl ?_
        refine T_getR (r := 238) dX11_fitting_47 fX11_74 rfl SH_218 rfl ?_
        refine T_iconst dX11_fitting_50 (by decide) ?_
        refine T_iload dX11_fitting_51 rfl ?_
        refine U_imul dX11_fitting_53 h.1 ?_
        replace h := h.2
        refine T_iconst dX11_fitting_54 (by decide) ?_
        refine U_iadd dX11_fitting_55 h.1 ?_
        replace h := h.2
        refine T_iald dX11_fitting_56 SH_238 h.1 ?_
        replace h := h.2
        refine U_icmp_ne (tgt := 64) dX11_fitting_57 (by decide) (fun hc => ?_) (fun hc => ?_)
        · replace h := h.1 hc
          refine T_iconst dX11_fitting_64 (by decide) ?_
          refine T_istore_n dX11_fitting_65 (by decide) rfl ?_
          refine U_iinc dX11_fitting_66 rfl (by decide) rfl h.1 ?_
          replace h := h.2
          refine T_goto (tgt := 19) dX11_fitting_69 (by decide) ?_
          exact T_drop h ⟨Or.inl rfl, Or.inl rfl, Or.inl rfl, Or.inl rfl, Or.inl rfl, trivial⟩
        · replace h := h.2 hc
          refine T_iconst dX11_fitting_60 (by decide) ?_
          refine T_goto (tgt := 65) dX11_fitting_61 (by decide) ?_
          refine T_istore_n dX11_fitting_65 (by decide) rfl ?_
          refine U_iinc dX11_fitting_66 rfl (by decide) rfl h.1 ?_
          replace h := h.2
          refine T_goto (tgt := 19) dX11_fitting_69 (by decide) ?_
          exact T_drop h ⟨Or.inl rfl, Or.inl rfl, Or.inl rfl, Or.inl rfl, Or.inl rfl, trivial⟩

theorem W_X11_canFit {G : GT} {d : Nat} (hd : 5 ≤ d)    {v : VT} {q : Int → VT → Prop} {Q : Option Vl → List Sh → VT → Prop} (h : P_X11_canFit  v q) (hQ : ∀ r w, q r w → Q (some (vI r)) SH w) : n_T G d 0 0 mX11_canFit 0 [vR 218, vS 9] [] SH v Q := by
  unfold P_X11_canFit at h
  refine T_aload_n dX11_canFit_0 rfl ?_
  refine U_callV (as := []) (st := []) dX11_canFit_1 kX11_lays lX11_244 SH_218 rfl rfl rfl rfl (Nat.le_of_ble_eq_true rfl) (Nat.le_of_ble_eq_true rfl) (by omega) ?_
  refine W_X11_lays (by omega)  h (fun v1 h => ?_)
  show n_T G d 0 0 mX11_canFit 4 [vR 218, vS 9] [] SH v1 Q
  refine T_iconst dX11_canFit_4 (by decide) ?_
  refine T_istore_n dX11_canFit_5 (by decide) rfl ?_
  refine T_drop (h (fun (i1 : Int) => n_T G d 0 0 mX11_canFit 6 [vR 218, vI i1] [] SH v1 Q) (fun i1 h => ?_)) ⟨Or.inl rfl, Or.inl rfl, trivial⟩
  refine T_iload_n dX11_canFit_6 rfl ?_
  refine T_aload_n dX11_canFit_7 rfl ?_
  refine T_getI dX11_canFit_8 fX11_205 rfl SH_218 ?_
  refine U_icmp_ge (tgt := 37) dX11_canFit_11 (by decide) (fun hc => ?_) (fun hc => ?_)
  · replace h := h.1 hc
    refine T_aload_n dX11_canFit_37 rfl ?_
    refine T_getI dX11_canFit_38 fX11_205 rfl SH_218 ?_
    refine U_if_le (tgt := 48) dX11_canFit_41 (by decide) (fun hc => ?_) (fun hc => ?_)
    · replace h := h.1 hc
      refine T_iconst dX11_canFit_48 (by decide) ?_
      exact T_zret dX11_canFit_49 rfl (by decide) (hQ _ _ h)
    · replace h := h.2 hc
      refine T_iconst dX11_canFit_44 (by decide) ?_
      refine T_goto (tgt := 49) dX11_canFit_45 (by decide) ?_
      exact T_zret dX11_canFit_49 rfl (by decide) (hQ _ _ h)
  · replace h := h.2 hc
    refine T_aload_n dX11_canFit_14 rfl ?_
    refine T_aload_n dX11_canFit_15 rfl ?_
    refine T_getR (r := 238) dX11_canFit_16 fX11_74 rfl SH_218 rfl ?_
    refine T_iconst dX11_canFit_19 (by decide) ?_
    refine T_iload_n dX11_canFit_20 rfl ?_
    refine U_imul dX11_canFit_21 h.1 ?_
    replace h := h.2
    refine T_iald dX11_canFit_22 SH_238 h.1 ?_
    replace h := h.2
    refine U_callV (as := [vI (v1 238 (2 * i1).toNat)]) (st := []) dX11_canFit_23 kX11_isNode lX11_257 SH_218 rfl rfl rfl rfl (Nat.le_of_ble_eq_true rfl) (Nat.le_of_ble_eq_true rfl) (by omega) ?_
    refine W_X11_isNode (by omega)  h (fun r23 h => ?_)
    show n_T G d 0 0 mX11_canFit 26 [vR 218, vI i1] [vI r23] SH v1 Q
    refine U_if_ne (tgt := 31) dX11_canFit_26 (by decide) (fun hc => ?_) (fun hc => ?_)
    · replace h := h.1 hc
      refine U_iinc dX11_canFit_31 rfl (by decide) rfl h.1 ?_
      replace h := h.2
      refine T_goto (tgt := 6) dX11_canFit_34 (by decide) ?_
      exact T_drop h ⟨Or.inl rfl, Or.inl rfl, trivial⟩
    · replace h := h.2 hc
      refine T_iconst dX11_canFit_29 (by decide) ?_
      exact T_zret dX11_canFit_30 rfl (by decide) (hQ _ _ h)

theorem W_X11_fits {G : GT} {d : Nat} (hd : 6 ≤ d)    {v : VT} {q : Int → VT → Prop} {Q : Option Vl → List Sh → VT → Prop} (h : P_X11_fits  v q) (hQ : ∀ r w, q r w → Q (some (vI r)) SH w) : n_T G d 0 0 mX11_fits 0 [vR 218] [] SH v Q := by
  unfold P_X11_fits at h
  refine T_aload_n dX11_fits_0 rfl ?_
  refine U_callV (as := []) (st := []) dX11_fits_1 kX11_canFit lX11_364 SH_218 rfl rfl rfl rfl (Nat.le_of_ble_eq_true rfl) (Nat.le_of_ble_eq_true rfl) (by omega) ?_
  refine W_X11_canFit (by omega)  h (fun r1 v1 h => ?_)
  show n_T G d 0 0 mX11_fits 4 [vR 218] [vI r1] SH v1 Q
  refine U_if_eq (tgt := 14) dX11_fits_4 (by decide) (fun hc => ?_) (fun hc => ?_)
  · replace h := h.1 hc
    refine T_iconst dX11_fits_14 (by decide) ?_
    exact T_iret dX11_fits_15 rfl (hQ _ _ h)
  · replace h := h.2 hc
    refine T_aload_n dX11_fits_7 rfl ?_
    refine U_callV (as := []) (st := []) dX11_fits_8 kX11_fitting lX11_367 SH_218 rfl rfl rfl rfl (Nat.le_of_ble_eq_true rfl) (Nat.le_of_ble_eq_true rfl) (by omega) ?_
    refine W_X11_fitting (by omega)  h (fun r8 h => ?_)
    show n_T G d 0 0 mX11_fits 11 [vR 218] [vI r8] SH v1 Q
    refine T_goto (tgt := 15) dX11_fits_11 (by decide) ?_
    exact T_iret dX11_fits_15 rfl (hQ _ _ h)

theorem W_X11_mostBy {G : GT} {d : Nat} (hd : 2 ≤ d) {x1 : Int} {x2 : Int}   {v : VT} {q : Int → Prop} {Q : Option Vl → List Sh → VT → Prop} (h : P_X11_mostBy x1 x2 v q) (hQ : ∀ r, q r → Q (some (vI r)) SH v) : n_T G d 0 0 mX11_mostBy 0 [vR 218, vI x1, vI x2, vS 9, vS 9, vS 9, vS 9] [] SH v Q := by
  unfold P_X11_mostBy at h
  refine T_iconst dX11_mostBy_0 (by decide) ?_
  refine T_istore_n dX11_mostBy_1 (by decide) rfl ?_
  refine T_iconst dX11_mostBy_2 (by decide) ?_
  refine T_istore dX11_mostBy_3 (by decide) rfl ?_
  refine T_drop (h (fun (i3 : Int) (i4 : Int) => n_T G d 0 0 mX11_mostBy 5 [vR 218, vI x1, vI x2, vI i3, vI i4, vS 9, vS 9] [] SH v Q) (fun i3 i4 h => ?_)) ⟨Or.inl rfl, Or.inl rfl, Or.inl rfl, Or.inl rfl, Or.inl rfl, Or.inr rfl, Or.inr rfl, trivial⟩
  refine T_iload dX11_mostBy_5 rfl ?_
  refine T_bipush dX11_mostBy_7 (by decide) ?_
  refine U_icmp_gt (tgt := 84) dX11_mostBy_9 (by decide) (fun hc => ?_) (fun hc => ?_)
  · replace h := h.1 hc
    refine T_iload_n dX11_mostBy_84 rfl ?_
    exact T_iret dX11_mostBy_85 rfl (hQ _ h)
  · replace h := h.2 hc
    refine T_iconst dX11_mostBy_12 (by decide) ?_
    refine T_istore dX11_mostBy_13 (by decide) rfl ?_
    refine T_iconst dX11_mostBy_15 (by decide) ?_
    refine T_istore dX11_mostBy_16 (by decide) rfl ?_
    refine T_drop (h (fun (i5 : Int) (i6 : Int) => n_T G d 0 0 mX11_mostBy 18 [vR 218, vI x1, vI x2, vI i3, vI i4, vI i5, vI i6] [] SH v Q) (fun i5 i6 h => ?_)) ⟨Or.inl rfl, Or.inl rfl, Or.inl rfl, Or.inl rfl, Or.inl rfl, Or.inl rfl, Or.inl rfl, trivial⟩
    refine T_iload dX11_mostBy_18 rfl ?_
    refine T_aload_n dX11_mostBy_20 rfl ?_
    refine T_getR (r := 222) dX11_mostBy_21 fX11_23 rfl SH_218 rfl ?_
    refine T_iconst dX11_mostBy_24 (by decide) ?_
    refine T_iald dX11_mostBy_25 SH_222 (by decide) ?_
    refine U_icmp_ge (tgt := 69) dX11_mostBy_26 (by decide) (fun hc => ?_) (fun hc => ?_)
    · replace h := h.1 hc
      refine T_iload dX11_mostBy_69 rfl ?_
      refine T_iload_n dX11_mostBy_71 rfl ?_
      refine U_icmp_le (tgt := 78) dX11_mostBy_72 (by decide) (fun hc => ?_) (fun hc => ?_)
      · replace h := h.1 hc
        refine U_iinc dX11_mostBy_78 rfl (by decide) rfl h.1 ?_
        replace h := h.2
        refine T_goto (tgt := 5) dX11_mostBy_81 (by decide) ?_
        exact T_drop h ⟨Or.inl rfl, Or.inl rfl, Or.inl rfl, Or.inl rfl, Or.inl rfl, Or.inr rfl, Or.inr rfl, trivial⟩
      · replace h := h.2 hc
        refine T_iload dX11_mostBy_75 rfl ?_
        refine T_istore_n dX11_mostBy_77 (by decide) rfl ?_
        refine U_iinc dX11_mostBy_78 rfl (by decide) rfl h.1 ?_
        replace h := h.2
        refine T_goto (tgt := 5) dX11_mostBy_81 (by decide) ?_
        exact T_drop h ⟨Or.inl rfl, Or.inl rfl, Or.inl rfl, Or.inl rfl, Or.inl rfl, Or.inr rfl, Or.inr rfl, trivial⟩
    · replace h := h.2 hc
      refine T_iload dX11_mostBy_29 rfl ?_
      refine T_iload_n dX11_mostBy_31 rfl ?_
      refine T_iload dX11_mostBy_32 rfl ?_
      refine U_callS (as := [vI x2, vI i6]) (st := [vI i5]) dX11_mostBy_34 kX11_isOf lX11_281 rfl rfl (Nat.le_of_ble_eq_true rfl) (Nat.le_of_ble_eq_true rfl) (by omega) ?_
      refine W_X11_isOf (by omega)  h (fun r34 h => ?_)
      show n_T G d 0 0 mX11_mostBy 37 [vR 218, vI x1, vI x2, vI i3, vI i4, vI i5, vI i6] [vI r34, vI i5] SH v Q
      refine U_if_eq (tgt := 56) dX11_mostBy_37 (by decide) (fun hc => ?_) (fun hc => ?_)
      · replace h := h.1 hc
        refine T_iconst dX11_mostBy_56 (by decide) ?_
        refine U_callS (as := [vI 0]) (st := [vI i5]) dX11_mostBy_57 kX11_flag lX11_250 rfl rfl (Nat.le_of_ble_eq_true rfl) (Nat.le_of_ble_eq_true rfl) (by omega) ?_
        refine W_X11_flag (by omega)  h (fun r57 h => ?_)
        show n_T G d 0 0 mX11_mostBy 60 [vR 218, vI x1, vI x2, vI i3, vI i4, vI i5, vI i6] [vI r57, vI i5] SH v Q
        refine U_iadd dX11_mostBy_60 h.1 ?_
        replace h := h.2
        refine T_istore dX11_mostBy_61 (by decide) rfl ?_
        refine U_iinc dX11_mostBy_63 rfl (by decide) rfl h.1 ?_
        replace h := h.2
        refine T_goto (tgt := 18) dX11_mostBy_66 (by decide) ?_
        exact T_drop h ⟨Or.inl rfl, Or.inl rfl, Or.inl rfl, Or.inl rfl, Or.inl rfl, Or.inl rfl, Or.inl rfl, trivial⟩
      · replace h := h.2 hc
        refine T_aload_n dX11_mostBy_40 rfl ?_
        refine T_iload_n dX11_mostBy_41 rfl ?_
        refine T_iload dX11_mostBy_42 rfl ?_
        refine U_callV (as := [vI x1, vI i6]) (st := [vI i5]) dX11_mostBy_44 kX11_farOf lX11_214 SH_218 rfl rfl rfl rfl (Nat.le_of_ble_eq_true rfl) (Nat.le_of_ble_eq_true rfl) (by omega) ?_
        refine W_X11_farOf (by omega)  h (fun r44 h => ?_)
        show n_T G d 0 0 mX11_mostBy 47 [vR 218, vI x1, vI x2, vI i3, vI i4, vI i5, vI i6] [vI r44, vI i5] SH v Q
        refine T_iload dX11_mostBy_47 rfl ?_
        refine U_icmp_ne (tgt := 56) dX11_mostBy_49 (by decide) (fun hc => ?_) (fun hc => ?_)
        · replace h := h.1 hc
          refine T_iconst dX11_mostBy_56 (by decide) ?_
          refine U_callS (as := [vI 0]) (st := [vI i5]) dX11_mostBy_57 kX11_flag lX11_250 rfl rfl (Nat.le_of_ble_eq_true rfl) (Nat.le_of_ble_eq_true rfl) (by omega) ?_
          refine W_X11_flag (by omega)  h (fun r57_1 h => ?_)
          show n_T G d 0 0 mX11_mostBy 60 [vR 218, vI x1, vI x2, vI i3, vI i4, vI i5, vI i6] [vI r57_1, vI i5] SH v Q
          refine U_iadd dX11_mostBy_60 h.1 ?_
          replace h := h.2
          refine T_istore dX11_mostBy_61 (by decide) rfl ?_
          refine U_iinc dX11_mostBy_63 rfl (by decide) rfl h.1 ?_
          replace h := h.2
          refine T_goto (tgt := 18) dX11_mostBy_66 (by decide) ?_
          exact T_drop h ⟨Or.inl rfl, Or.inl rfl, Or.inl rfl, Or.inl rfl, Or.inl rfl, Or.inl rfl, Or.inl rfl, trivial⟩
        · replace h := h.2 hc
          refine T_iconst dX11_mostBy_52 (by decide) ?_
          refine T_goto (tgt := 57) dX11_mostBy_53 (by decide) ?_
          refine U_callS (as := [vI 1]) (st := [vI i5]) dX11_mostBy_57 kX11_flag lX11_250 rfl rfl (Nat.le_of_ble_eq_true rfl) (Nat.le_of_ble_eq_true rfl) (by omega) ?_
          refine W_X11_flag (by omega)  h (fun r57_2 h => ?_)
          show n_T G d 0 0 mX11_mostBy 60 [vR 218, vI x1, vI x2, vI i3, vI i4, vI i5, vI i6] [vI r57_2, vI i5] SH v Q
          refine U_iadd dX11_mostBy_60 h.1 ?_
          replace h := h.2
          refine T_istore dX11_mostBy_61 (by decide) rfl ?_
          refine U_iinc dX11_mostBy_63 rfl (by decide) rfl h.1 ?_
          replace h := h.2
          refine T_goto (tgt := 18) dX11_mostBy_66 (by decide) ?_
          exact T_drop h ⟨Or.inl rfl, Or.inl rfl, Or.inl rfl, Or.inl rfl, Or.inl rfl, Or.inl rfl, Or.inl rfl, trivial⟩

theorem W_X11_tells {G : GT} {d : Nat} (hd : 6 ≤ d) {x1 : Int}   {v : VT} {q : Int → VT → Prop} {Q : Option Vl → List Sh → VT → Prop} (h : P_X11_tells x1 v q) (hQ : ∀ r w, q r w → Q (some (vI r)) SH w) : n_T G d 0 0 mX11_tells 0 [vR 218, vI x1, vS 9, vS 9, vS 9] [] SH v Q := by
  unfold P_X11_tells at h
  refine T_aload_n dX11_tells_0 rfl ?_
  refine U_callV (as := []) (st := []) dX11_tells_1 kX11_canFit lX11_364 SH_218 rfl rfl rfl rfl (Nat.le_of_ble_eq_true rfl) (Nat.le_of_ble_eq_true rfl) (by omega) ?_
  refine W_X11_canFit (by omega)  h (fun r1 v1 h => ?_)
  show n_T G d 0 0 mX11_tells 4 [vR 218, vI x1, vS 9, vS 9, vS 9] [vI r1] SH v1 Q
  refine U_if_eq (tgt := 17) dX11_tells_4 (by decide) (fun hc => ?_) (fun hc => ?_)
  · replace h := h.1 hc
    refine T_iconst dX11_tells_17 (by decide) ?_
    exact T_iret dX11_tells_18 rfl (hQ _ _ h)
  · replace h := h.2 hc
    refine T_iload_n dX11_tells_7 rfl ?_
    refine T_i2l dX11_tells_8 ?_
    refine T_lconst dX11_tells_9 ?_
    refine T_lconst dX11_tells_10 ?_
    refine U_callS (as := [vJ x1, vJ 0, vJ 1]) (st := []) dX11_tells_11 kX11_isIn lX11_109 rfl rfl (Nat.le_of_ble_eq_true rfl) (Nat.le_of_ble_eq_true rfl) (by omega) ?_
    refine W_X11_isIn (by omega)  h (fun r11 h => ?_)
    show n_T G d 0 0 mX11_tells 14 [vR 218, vI x1, vS 9, vS 9, vS 9] [vI r11] SH v1 Q
    refine U_if_ne (tgt := 19) dX11_tells_14 (by decide) (fun hc => ?_) (fun hc => ?_)
    · replace h := h.1 hc
      refine T_aload_n dX11_tells_19 rfl ?_
      refine U_callV (as := []) (st := []) dX11_tells_20 kX11_fitting lX11_367 SH_218 rfl rfl rfl rfl (Nat.le_of_ble_eq_true rfl) (Nat.le_of_ble_eq_true rfl) (by omega) ?_
      refine W_X11_fitting (by omega)  h (fun r20 h => ?_)
      show n_T G d 0 0 mX11_tells 23 [vR 218, vI x1, vS 9, vS 9, vS 9] [vI r20] SH v1 Q
      refine T_istore_n dX11_tells_23 (by decide) rfl ?_
      refine T_iload_n dX11_tells_24 rfl ?_
      refine U_if_ne (tgt := 30) dX11_tells_25 (by decide) (fun hc => ?_) (fun hc => ?_)
      · replace h := h.1 hc
        refine T_iconst dX11_tells_30 (by decide) ?_
        refine T_istore_n dX11_tells_31 (by decide) rfl ?_
        refine T_iconst dX11_tells_32 (by decide) ?_
        refine T_istore dX11_tells_33 (by decide) rfl ?_
        refine T_drop (h (fun (i3 : Int) (i4 : Int) => n_T G d 0 0 mX11_tells 35 [vR 218, vI x1, vI r20, vI i3, vI i4] [] SH v1 Q) (fun i3 i4 h => ?_)) ⟨Or.inl rfl, Or.inl rfl, Or.inl rfl, Or.inl rfl, Or.inl rfl, trivial⟩
        refine T_iload dX11_tells_35 rfl ?_
        refine T_aload_n dX11_tells_37 rfl ?_
        refine T_getR (r := 222) dX11_tells_38 fX11_23 rfl SH_218 rfl ?_
        refine T_iconst dX11_tells_41 (by decide) ?_
        refine T_iald dX11_tells_42 SH_222 (by decide) ?_
        refine U_icmp_ge (tgt := 71) dX11_tells_43 (by decide) (fun hc => ?_) (fun hc => ?_)
        · replace h := h.1 hc
          refine T_iload_n dX11_tells_71 rfl ?_
          refine U_if_ne (tgt := 79) dX11_tells_72 (by decide) (fun hc => ?_) (fun hc => ?_)
          · replace h := h.1 hc
            refine T_aload_n dX11_tells_79 rfl ?_
            refine T_iload_n dX11_tells_80 rfl ?_
            refine T_iload_n dX11_tells_81 rfl ?_
            refine U_callV (as := [vI i3, vI r20]) (st := []) dX11_tells_82 kX11_mostBy lX11_370 SH_218 rfl rfl rfl rfl (Nat.le_of_ble_eq_true rfl) (Nat.le_of_ble_eq_true rfl) (by omega) ?_
            refine W_X11_mostBy (by omega)  h (fun r82 h => ?_)
            show n_T G d 0 0 mX11_tells 85 [vR 218, vI x1, vI r20, vI i3, vI i4] [vI r82] SH v1 Q
            exact T_iret dX11_tells_85 rfl (hQ _ _ h)
          · replace h := h.2 hc
            refine T_iload_n dX11_tells_75 rfl ?_
            refine T_goto (tgt := 85) dX11_tells_76 (by decide) ?_
            exact T_iret dX11_tells_85 rfl (hQ _ _ h)
        · replace h := h.2 hc
          refine T_aload_n dX11_tells_46 rfl ?_
          refine T_iload dX11_tells_47 rfl ?_
          refine T_iload_n dX11_tells_49 rfl ?_
          refine U_callV (as := [vI i4, vI r20]) (st := []) dX11_tells_50 kX11_mostBy lX11_370 SH_218 rfl rfl rfl rfl (Nat.le_of_ble_eq_true rfl) (Nat.le_of_ble_eq_true rfl) (by omega) ?_
          refine W_X11_mostBy (by omega)  h (fun r50 h => ?_)
          show n_T G d 0 0 mX11_tells 53 [vR 218, vI x1, vI r20, vI i3, vI i4] [vI r50] SH v1 Q
          refine T_aload_n dX11_tells_53 rfl ?_
          refine T_iload_n dX11_tells_54 rfl ?_
          refine T_iload_n dX11_tells_55 rfl ?_
          refine U_callV (as := [vI i3, vI r20]) (st := [vI r50]) dX11_tells_56 kX11_mostBy lX11_370 SH_218 rfl rfl rfl rfl (Nat.le_of_ble_eq_true rfl) (Nat.le_of_ble_eq_true rfl) (by omega) ?_
          refine W_X11_mostBy (by omega)  h (fun r56 h => ?_)
          show n_T G d 0 0 mX11_tells 59 [vR 218, vI x1, vI r20, vI i3, vI i4] [vI r56, vI r50] SH v1 Q
          refine U_icmp_ge (tgt := 65) dX11_tells_59 (by decide) (fun hc => ?_) (fun hc => ?_)
          · replace h := h.1 hc
            refine U_iinc dX11_tells_65 rfl (by decide) rfl h.1 ?_
            replace h := h.2
            refine T_goto (tgt := 35) dX11_tells_68 (by decide) ?_
            exact T_drop h ⟨Or.inl rfl, Or.inl rfl, Or.inl rfl, Or.inl rfl, Or.inl rfl, trivial⟩
          · replace h := h.2 hc
            refine T_iload dX11_tells_62 rfl ?_
            refine T_istore_n dX11_tells_64 (by decide) rfl ?_
            refine U_iinc dX11_tells_65 rfl (by decide) rfl h.1 ?_
            replace h := h.2
            refine T_goto (tgt := 35) dX11_tells_68 (by decide) ?_
            exact T_drop h ⟨Or.inl rfl, Or.inl rfl, Or.inl rfl, Or.inl rfl, Or.inl rfl, trivial⟩
      · replace h := h.2 hc
        refine T_iconst dX11_tells_28 (by decide) ?_
        exact T_iret dX11_tells_29 rfl (hQ _ _ h)
    · replace h := h.2 hc
      refine T_iconst dX11_tells_17 (by decide) ?_
      exact T_iret dX11_tells_18 rfl (hQ _ _ h)

theorem W_X11_keeps {G : GT} {d : Nat} (hd : 1 ≤ d)    {v : VT} {q : VT → Prop} {Q : Option Vl → List Sh → VT → Prop} (h : P_X11_keeps  v q) (hQ : ∀ w, q w → Q none SH w) : n_T G d 0 0 mX11_keeps 0 [vR 218, vS 9] [] SH v Q := by
  unfold P_X11_keeps at h
  refine T_aload_n dX11_keeps_0 rfl ?_
  refine T_aload_n dX11_keeps_1 rfl ?_
  refine T_getI dX11_keeps_2 fX11_373 rfl SH_218 ?_
  refine T_iconst dX11_keeps_5 (by decide) ?_
  refine U_iadd dX11_keeps_6 h.1 ?_
  replace h := h.2
  refine T_bipush dX11_keeps_7 (by decide) ?_
  refine T_irem dX11_keeps_9 (by decide) ?_
  refine U_putI dX11_keeps_10 fX11_373 rfl rfl SH_218 (fun v10 ev10 => ?_)
  replace h := h v10 ev10
  refine T_iconst dX11_keeps_13 (by decide) ?_
  refine T_istore_n dX11_keeps_14 (by decide) rfl ?_
  refine n_cut (h (fun (v49 : VT) => n_T G d 0 0 mX11_keeps 49 [vR 218, vS 9] [] SH v49 Q)) ?_ ?_
  · intro v49 h
    refine T_aload_n dX11_keeps_49 rfl ?_
    refine T_getI dX11_keeps_50 fX11_199 rfl SH_218 ?_
    refine T_bipush dX11_keeps_53 (by decide) ?_
    refine U_icmp_ge (tgt := 68) dX11_keeps_55 (by decide) (fun hc => ?_) (fun hc => ?_)
    · replace h := h.1 hc
      exact T_vret dX11_keeps_68 rfl (hQ _ h)
    · replace h := h.2 hc
      refine T_aload_n dX11_keeps_58 rfl ?_
      refine T_dup dX11_keeps_59 rfl ?_
      refine T_getI dX11_keeps_60 fX11_199 rfl SH_218 ?_
      refine T_iconst dX11_keeps_63 (by decide) ?_
      refine U_iadd dX11_keeps_64 h.1 ?_
      replace h := h.2
      refine U_putI dX11_keeps_65 fX11_199 rfl rfl SH_218 (fun v65 ev65 => ?_)
      replace h := h v65 ev65
      exact T_vret dX11_keeps_68 rfl (hQ _ h)
  · intro h
    refine T_drop (h (fun (i1 : Int) (v15 : VT) => n_T G d 0 0 mX11_keeps 15 [vR 218, vI i1] [] SH v15 Q) (fun i1 v15 h => ?_)) ⟨Or.inl rfl, Or.inl rfl, trivial⟩
    refine T_iload_n dX11_keeps_15 rfl ?_
    refine T_sipush dX11_keeps_16 (by decide) ?_
    refine U_icmp_ge (tgt := 49) dX11_keeps_19 (by decide) (fun hc => ?_) (fun hc => ?_)
    · replace h := h.1 hc
      exact T_drop h ⟨Or.inl rfl, Or.inr rfl, trivial⟩
    · replace h := h.2 hc
      refine T_aload_n dX11_keeps_22 rfl ?_
      refine T_getR (r := 239) dX11_keeps_23 fX11_77 rfl SH_218 rfl ?_
      refine T_sipush dX11_keeps_26 (by decide) ?_
      refine T_aload_n dX11_keeps_29 rfl ?_
      refine T_getI dX11_keeps_30 fX11_373 rfl SH_218 ?_
      refine U_imul dX11_keeps_33 h.1 ?_
      replace h := h.2
      refine T_iload_n dX11_keeps_34 rfl ?_
      refine U_iadd dX11_keeps_35 h.1 ?_
      replace h := h.2
      refine T_aload_n dX11_keeps_36 rfl ?_
      refine T_getR (r := 222) dX11_keeps_37 fX11_23 rfl SH_218 rfl ?_
      refine T_iload_n dX11_keeps_40 rfl ?_
      refine T_iald dX11_keeps_41 SH_222 h.1 ?_
      replace h := h.2
      refine U_iast dX11_keeps_42 SH_239 h.1 (fun v42 ev42 => ?_)
      replace h := h.2 v42 ev42
      refine U_iinc dX11_keeps_43 rfl (by decide) rfl h.1 ?_
      replace h := h.2
      refine T_goto (tgt := 15) dX11_keeps_46 (by decide) ?_
      exact T_drop h ⟨Or.inl rfl, Or.inl rfl, trivial⟩

theorem W_X11_undo {G : GT} {d : Nat} (hd : 2 ≤ d)    {v : VT} {q : Int → VT → Prop} {Q : Option Vl → List Sh → VT → Prop} (h : P_X11_undo  v q) (hQ : ∀ r w, q r w → Q (some (vI r)) SH w) : n_T G d 0 0 mX11_undo 0 [vR 218, vS 9] [] SH v Q := by
  unfold P_X11_undo at h
  refine T_aload_n dX11_undo_0 rfl ?_
  refine T_getI dX11_undo_1 fX11_199 rfl SH_218 ?_
  refine U_if_ne (tgt := 13) dX11_undo_4 (by decide) (fun hc => ?_) (fun hc => ?_)
  · replace h := h.1 hc
    refine T_iconst dX11_undo_13 (by decide) ?_
    refine T_istore_n dX11_undo_14 (by decide) rfl ?_
    refine n_cut (h (fun (v49 : VT) => n_T G d 0 0 mX11_undo 49 [vR 218, vS 9] [] SH v49 Q)) ?_ ?_
    · intro v49 h
      refine T_aload_n dX11_undo_49 rfl ?_
      refine T_aload_n dX11_undo_50 rfl ?_
      refine T_getI dX11_undo_51 fX11_373 rfl SH_218 ?_
      refine T_bipush dX11_undo_54 (by decide) ?_
      refine U_iadd dX11_undo_56 h.1 ?_
      replace h := h.2
      refine T_iconst dX11_undo_57 (by decide) ?_
      refine U_isub dX11_undo_58 h.1 ?_
      replace h := h.2
      refine T_bipush dX11_undo_59 (by decide) ?_
      refine T_irem dX11_undo_61 (by decide) ?_
      refine U_putI dX11_undo_62 fX11_373 rfl rfl SH_218 (fun v62 ev62 => ?_)
      replace h := h v62 ev62
      refine T_aload_n dX11_undo_65 rfl ?_
      refine T_dup dX11_undo_66 rfl ?_
      refine T_getI dX11_undo_67 fX11_199 rfl SH_218 ?_
      refine T_iconst dX11_undo_70 (by decide) ?_
      refine U_isub dX11_undo_71 h.1 ?_
      replace h := h.2
      refine U_putI dX11_undo_72 fX11_199 rfl rfl SH_218 (fun v72 ev72 => ?_)
      replace h := h v72 ev72
      refine T_aload_n dX11_undo_75 rfl ?_
      refine T_iconst dX11_undo_76 (by decide) ?_
      refine U_putZ dX11_undo_77 fX11_195 rfl rfl SH_218 (by decide) (fun v77 ev77 => ?_)
      replace h := h v77 ev77
      refine T_iconst dX11_undo_80 (by decide) ?_
      exact T_zret dX11_undo_81 rfl (by decide) (hQ _ _ h)
    · intro h
      refine T_drop (h (fun (i1 : Int) (v15 : VT) => n_T G d 0 0 mX11_undo 15 [vR 218, vI i1] [] SH v15 Q) (fun i1 v15 h => ?_)) ⟨Or.inl rfl, Or.inl rfl, trivial⟩
      refine T_iload_n dX11_undo_15 rfl ?_
      refine T_sipush dX11_undo_16 (by decide) ?_
      refine U_icmp_ge (tgt := 49) dX11_undo_19 (by decide) (fun hc => ?_) (fun hc => ?_)
      · replace h := h.1 hc
        exact T_drop h ⟨Or.inl rfl, Or.inr rfl, trivial⟩
      · replace h := h.2 hc
        refine T_aload_n dX11_undo_22 rfl ?_
        refine T_getR (r := 222) dX11_undo_23 fX11_23 rfl SH_218 rfl ?_
        refine T_iload_n dX11_undo_26 rfl ?_
        refine T_aload_n dX11_undo_27 rfl ?_
        refine T_getR (r := 239) dX11_undo_28 fX11_77 rfl SH_218 rfl ?_
        refine T_sipush dX11_undo_31 (by decide) ?_
        refine T_aload_n dX11_undo_34 rfl ?_
        refine T_getI dX11_undo_35 fX11_373 rfl SH_218 ?_
        refine U_imul dX11_undo_38 h.1 ?_
        replace h := h.2
        refine T_iload_n dX11_undo_39 rfl ?_
        refine U_iadd dX11_undo_40 h.1 ?_
        replace h := h.2
        refine T_iald dX11_undo_41 SH_239 h.1 ?_
        replace h := h.2
        refine U_iast dX11_undo_42 SH_222 h.1 (fun v42 ev42 => ?_)
        replace h := h.2 v42 ev42
        refine U_iinc dX11_undo_43 rfl (by decide) rfl h.1 ?_
        replace h := h.2
        refine T_goto (tgt := 15) dX11_undo_46 (by decide) ?_
        exact T_drop h ⟨Or.inl rfl, Or.inl rfl, trivial⟩
  · replace h := h.2 hc
    refine T_aload_n dX11_undo_7 rfl ?_
    refine T_iconst dX11_undo_8 (by decide) ?_
    refine U_callV (as := [vI 4]) (st := []) dX11_undo_9 kX11_isRefused lX11_103 SH_218 rfl rfl rfl rfl (Nat.le_of_ble_eq_true rfl) (Nat.le_of_ble_eq_true rfl) (by omega) ?_
    refine W_X11_isRefused (by omega)  h (fun r9 v9 h => ?_)
    show n_T G d 0 0 mX11_undo 12 [vR 218, vS 9] [vI r9] SH v9 Q
    exact T_zret dX11_undo_12 rfl h.1 (hQ _ _ h.2)

theorem W_X11_isNext {G : GT} {d : Nat} (hd : 1 ≤ d)    {v : VT} {q : VT → Prop} {Q : Option Vl → List Sh → VT → Prop} (h : P_X11_isNext  v q) (hQ : ∀ w, q w → Q none SH w) : n_T G d 0 0 mX11_isNext 0 [vR 218, vS 9] [] SH v Q := by
  unfold P_X11_isNext at h
  refine T_iconst dX11_isNext_0 (by decide) ?_
  refine T_istore_n dX11_isNext_1 (by decide) rfl ?_
  refine T_drop (h (fun (i1 : Int) (v2 : VT) => n_T G d 0 0 mX11_isNext 2 [vR 218, vI i1] [] SH v2 Q) (fun i1 v2 h => ?_)) ⟨Or.inl rfl, Or.inl rfl, trivial⟩
  refine T_iload_n dX11_isNext_2 rfl ?_
  refine T_sipush dX11_isNext_3 (by decide) ?_
  refine U_icmp_ge (tgt := 27) dX11_isNext_6 (by decide) (fun hc => ?_) (fun hc => ?_)
  · replace h := h.1 hc
    refine T_aload_n dX11_isNext_27 rfl ?_
    refine T_iconst dX11_isNext_28 (by decide) ?_
    refine U_putZ dX11_isNext_29 fX11_195 rfl rfl SH_218 (by decide) (fun v29 ev29 => ?_)
    replace h := h v29 ev29
    exact T_vret dX11_isNext_32 rfl (hQ _ h)
  · replace h := h.2 hc
    refine T_aload_n dX11_isNext_9 rfl ?_
    refine T_getR (r := 222) dX11_isNext_10 fX11_23 rfl SH_218 rfl ?_
    refine T_iload_n dX11_isNext_13 rfl ?_
    refine T_aload_n dX11_isNext_14 rfl ?_
    refine T_getR (r := 223) dX11_isNext_15 fX11_26 rfl SH_218 rfl ?_
    refine T_iload_n dX11_isNext_18 rfl ?_
    refine T_iald dX11_isNext_19 SH_223 h.1 ?_
    replace h := h.2
    refine U_iast dX11_isNext_20 SH_222 h.1 (fun v20 ev20 => ?_)
    replace h := h.2 v20 ev20
    refine U_iinc dX11_isNext_21 rfl (by decide) rfl h.1 ?_
    replace h := h.2
    refine T_goto (tgt := 2) dX11_isNext_24 (by decide) ?_
    exact T_drop h ⟨Or.inl rfl, Or.inl rfl, trivial⟩

theorem W_X11_canJoin {G : GT} {d : Nat} (hd : 3 ≤ d) {x1 : Int} {x2 : Int}   {v : VT} {q : Int → Prop} {Q : Option Vl → List Sh → VT → Prop} (h : P_X11_canJoin x1 x2 v q) (hQ : ∀ r, q r → Q (some (vI r)) SH v) : n_T G d 0 0 mX11_canJoin 0 [vR 218, vI x1, vI x2] [] SH v Q := by
  unfold P_X11_canJoin at h
  refine T_aload_n dX11_canJoin_0 rfl ?_
  refine T_iload_n dX11_canJoin_1 rfl ?_
  refine U_callV (as := [vI x1]) (st := []) dX11_canJoin_2 kX11_isNode lX11_257 SH_218 rfl rfl rfl rfl (Nat.le_of_ble_eq_true rfl) (Nat.le_of_ble_eq_true rfl) (by omega) ?_
  refine W_X11_isNode (by omega)  h (fun r2 h => ?_)
  show n_T G d 0 0 mX11_canJoin 5 [vR 218, vI x1, vI x2] [vI r2] SH v Q
  refine U_if_eq (tgt := 49) dX11_canJoin_5 (by decide) (fun hc => ?_) (fun hc => ?_)
  · replace h := h.1 hc
    refine T_iconst dX11_canJoin_49 (by decide) ?_
    exact T_zret dX11_canJoin_50 rfl (by decide) (hQ _ h)
  · replace h := h.2 hc
    refine T_aload_n dX11_canJoin_8 rfl ?_
    refine T_iload_n dX11_canJoin_9 rfl ?_
    refine U_callV (as := [vI x2]) (st := []) dX11_canJoin_10 kX11_isNode lX11_257 SH_218 rfl rfl rfl rfl (Nat.le_of_ble_eq_true rfl) (Nat.le_of_ble_eq_true rfl) (by omega) ?_
    refine W_X11_isNode (by omega)  h (fun r10 h => ?_)
    show n_T G d 0 0 mX11_canJoin 13 [vR 218, vI x1, vI x2] [vI r10] SH v Q
    refine U_if_eq (tgt := 49) dX11_canJoin_13 (by decide) (fun hc => ?_) (fun hc => ?_)
    · replace h := h.1 hc
      refine T_iconst dX11_canJoin_49 (by decide) ?_
      exact T_zret dX11_canJoin_50 rfl (by decide) (hQ _ h)
    · replace h := h.2 hc
      refine T_iload_n dX11_canJoin_16 rfl ?_
      refine T_iload_n dX11_canJoin_17 rfl ?_
      refine U_icmp_eq (tgt := 49) dX11_canJoin_18 (by decide) (fun hc => ?_) (fun hc => ?_)
      · replace h := h.1 hc
        refine T_iconst dX11_canJoin_49 (by decide) ?_
        exact T_zret dX11_canJoin_50 rfl (by decide) (hQ _ h)
      · replace h := h.2 hc
        refine T_aload_n dX11_canJoin_21 rfl ?_
        refine T_getR (r := 222) dX11_canJoin_22 fX11_23 rfl SH_218 rfl ?_
        refine T_iconst dX11_canJoin_25 (by decide) ?_
        refine T_iald dX11_canJoin_26 SH_222 (by decide) ?_
        refine T_bipush dX11_canJoin_27 (by decide) ?_
        refine U_icmp_ge (tgt := 49) dX11_canJoin_29 (by decide) (fun hc => ?_) (fun hc => ?_)
        · replace h := h.1 hc
          refine T_iconst dX11_canJoin_49 (by decide) ?_
          exact T_zret dX11_canJoin_50 rfl (by decide) (hQ _ h)
        · replace h := h.2 hc
          refine T_aload_n dX11_canJoin_32 rfl ?_
          refine T_getR (r := 222) dX11_canJoin_33 fX11_23 rfl SH_218 rfl ?_
          refine T_iload_n dX11_canJoin_36 rfl ?_
          refine T_iload_n dX11_canJoin_37 rfl ?_
          refine U_callS (as := [vR 222, vI x1, vI x2]) (st := []) dX11_canJoin_38 kX11_lineOf lX11_169 rfl rfl (Nat.le_of_ble_eq_true rfl) (Nat.le_of_ble_eq_true rfl) (by omega) ?_
          refine W_X11_lineOf (by omega) SH_222 h (fun r38 h => ?_)
          show n_T G d 0 0 mX11_canJoin 41 [vR 218, vI x1, vI x2] [vI r38] SH v Q
          refine T_iconst dX11_canJoin_41 (by decide) ?_
          refine U_icmp_ne (tgt := 49) dX11_canJoin_42 (by decide) (fun hc => ?_) (fun hc => ?_)
          · replace h := h.1 hc
            refine T_iconst dX11_canJoin_49 (by decide) ?_
            exact T_zret dX11_canJoin_50 rfl (by decide) (hQ _ h)
          · replace h := h.2 hc
            refine T_iconst dX11_canJoin_45 (by decide) ?_
            refine T_goto (tgt := 50) dX11_canJoin_46 (by decide) ?_
            exact T_zret dX11_canJoin_50 rfl (by decide) (hQ _ h)

theorem W_X11_joins {G : GT} {d : Nat} (hd : 2 ≤ d) {x1 : Int} {x2 : Int}   {v : VT} {q : VT → Prop} {Q : Option Vl → List Sh → VT → Prop} (h : P_X11_joins x1 x2 v q) (hQ : ∀ w, q w → Q none SH w) : n_T G d 0 0 mX11_joins 0 [vR 218, vI x1, vI x2] [] SH v Q := by
  unfold P_X11_joins at h
  refine T_aload_n dX11_joins_0 rfl ?_
  refine T_getR (r := 222) dX11_joins_1 fX11_23 rfl SH_218 rfl ?_
  refine T_iload_n dX11_joins_4 rfl ?_
  refine T_iload_n dX11_joins_5 rfl ?_
  refine T_iconst dX11_joins_6 (by decide) ?_
  refine U_callS (as := [vR 222, vI x1, vI x2, vI 1]) (st := []) dX11_joins_7 kX11_adds lX11_173 rfl rfl (Nat.le_of_ble_eq_true rfl) (Nat.le_of_ble_eq_true rfl) (by omega) ?_
  refine W_X11_adds (by omega) SH_222 h (fun v7 h => ?_)
  show n_T G d 0 0 mX11_joins 10 [vR 218, vI x1, vI x2] [] SH v7 Q
  refine T_aload_n dX11_joins_10 rfl ?_
  refine T_iconst dX11_joins_11 (by decide) ?_
  refine U_putZ dX11_joins_12 fX11_195 rfl rfl SH_218 (by decide) (fun v12 ev12 => ?_)
  replace h := h v12 ev12
  exact T_vret dX11_joins_15 rfl (hQ _ h)

theorem W_X11_join {G : GT} {d : Nat} (hd : 4 ≤ d) {x1 : Int} {x2 : Int}   {v : VT} {q : Int → VT → Prop} {Q : Option Vl → List Sh → VT → Prop} (h : P_X11_join x1 x2 v q) (hQ : ∀ r w, q r w → Q (some (vI r)) SH w) : n_T G d 0 0 mX11_join 0 [vR 218, vI x1, vI x2] [] SH v Q := by
  unfold P_X11_join at h
  refine T_aload_n dX11_join_0 rfl ?_
  refine T_iload_n dX11_join_1 rfl ?_
  refine T_iload_n dX11_join_2 rfl ?_
  refine U_callV (as := [vI x1, vI x2]) (st := []) dX11_join_3 kX11_canJoin lX11_376 SH_218 rfl rfl rfl rfl (Nat.le_of_ble_eq_true rfl) (Nat.le_of_ble_eq_true rfl) (by omega) ?_
  refine W_X11_canJoin (by omega)  h (fun r3 h => ?_)
  show n_T G d 0 0 mX11_join 6 [vR 218, vI x1, vI x2] [vI r3] SH v Q
  refine U_if_ne (tgt := 15) dX11_join_6 (by decide) (fun hc => ?_) (fun hc => ?_)
  · replace h := h.1 hc
    refine T_aload_n dX11_join_15 rfl ?_
    refine U_callV (as := []) (st := []) dX11_join_16 kX11_keeps lX11_379 SH_218 rfl rfl rfl rfl (Nat.le_of_ble_eq_true rfl) (Nat.le_of_ble_eq_true rfl) (by omega) ?_
    refine W_X11_keeps (by omega)  h (fun v16 h => ?_)
    show n_T G d 0 0 mX11_join 19 [vR 218, vI x1, vI x2] [] SH v16 Q
    refine T_aload_n dX11_join_19 rfl ?_
    refine T_iload_n dX11_join_20 rfl ?_
    refine T_iload_n dX11_join_21 rfl ?_
    refine U_callV (as := [vI x1, vI x2]) (st := []) dX11_join_22 kX11_joins lX11_382 SH_218 rfl rfl rfl rfl (Nat.le_of_ble_eq_true rfl) (Nat.le_of_ble_eq_true rfl) (by omega) ?_
    refine W_X11_joins (by omega)  h (fun v22 h => ?_)
    show n_T G d 0 0 mX11_join 25 [vR 218, vI x1, vI x2] [] SH v22 Q
    refine T_aload_n dX11_join_25 rfl ?_
    refine T_getR (r := 222) dX11_join_26 fX11_23 rfl SH_218 rfl ?_
    refine T_iconst dX11_join_29 (by decide) ?_
    refine T_iald dX11_join_30 SH_222 (by decide) ?_
    refine T_iconst dX11_join_31 (by decide) ?_
    refine U_isub dX11_join_32 h.1 ?_
    replace h := h.2
    exact T_iret dX11_join_33 rfl (hQ _ _ h)
  · replace h := h.2 hc
    refine T_aload_n dX11_join_9 rfl ?_
    refine T_iconst dX11_join_10 (by decide) ?_
    refine U_callV (as := [vI 2]) (st := []) dX11_join_11 kX11_refuses lX11_99 SH_218 rfl rfl rfl rfl (Nat.le_of_ble_eq_true rfl) (Nat.le_of_ble_eq_true rfl) (by omega) ?_
    refine W_X11_refuses (by omega)  h (fun r11 v11 h => ?_)
    show n_T G d 0 0 mX11_join 14 [vR 218, vI x1, vI x2] [vI r11] SH v11 Q
    exact T_iret dX11_join_14 rfl (hQ _ _ h)

theorem W_X11_cuts {G : GT} {d : Nat} (hd : 1 ≤ d) {x1 : Int}   {v : VT} {q : VT → Prop} {Q : Option Vl → List Sh → VT → Prop} (h : P_X11_cuts x1 v q) (hQ : ∀ w, q w → Q none SH w) : n_T G d 0 0 mX11_cuts 0 [vR 218, vI x1, vS 9] [] SH v Q := by
  unfold P_X11_cuts at h
  refine T_bipush dX11_cuts_0 (by decide) ?_
  refine T_iconst dX11_cuts_2 (by decide) ?_
  refine T_iload_n dX11_cuts_3 rfl ?_
  refine U_imul dX11_cuts_4 h.1 ?_
  replace h := h.2
  refine U_iadd dX11_cuts_5 h.1 ?_
  replace h := h.2
  refine U_istore_n dX11_cuts_6 (by decide) rfl (fun l2 el2 => ?_)
  replace h := h l2 el2
  refine n_cut (h (fun (v44 : VT) => n_T G d 0 0 mX11_cuts 44 [vR 218, vI x1, vS 9] [] SH v44 Q)) ?_ ?_
  · intro v44 h
    refine T_iload_n dX11_cuts_44 rfl ?_
    refine T_istore_n dX11_cuts_45 (by decide) rfl ?_
    refine n_cut (h (fun (v86 : VT) => n_T G d 0 0 mX11_cuts 86 [vR 218, vS 9, vS 9] [] SH v86 Q)) ?_ ?_
    · intro v86 h
      refine T_aload_n dX11_cuts_86 rfl ?_
      refine T_getR (r := 222) dX11_cuts_87 fX11_23 rfl SH_218 rfl ?_
      refine T_iconst dX11_cuts_90 (by decide) ?_
      refine T_dup2 dX11_cuts_91 rfl rfl ?_
      refine T_iald dX11_cuts_92 SH_222 (by decide) ?_
      refine T_iconst dX11_cuts_93 (by decide) ?_
      refine U_isub dX11_cuts_94 h.1 ?_
      replace h := h.2
      refine U_iast dX11_cuts_95 SH_222 (by decide) (fun v95 ev95 => ?_)
      replace h := h v95 ev95
      refine T_aload_n dX11_cuts_96 rfl ?_
      refine T_iconst dX11_cuts_97 (by decide) ?_
      refine U_putZ dX11_cuts_98 fX11_195 rfl rfl SH_218 (by decide) (fun v98 ev98 => ?_)
      replace h := h v98 ev98
      exact T_vret dX11_cuts_101 rfl (hQ _ h)
    · intro h
      refine T_drop (h (fun (i2 : Int) (v46 : VT) => n_T G d 0 0 mX11_cuts 46 [vR 218, vS 9, vI i2] [] SH v46 Q) (fun i2 v46 h => ?_)) ⟨Or.inl rfl, Or.inr rfl, Or.inl rfl, trivial⟩
      refine T_iload_n dX11_cuts_46 rfl ?_
      refine T_aload_n dX11_cuts_47 rfl ?_
      refine T_getR (r := 222) dX11_cuts_48 fX11_23 rfl SH_218 rfl ?_
      refine T_iconst dX11_cuts_51 (by decide) ?_
      refine T_iald dX11_cuts_52 SH_222 (by decide) ?_
      refine T_iconst dX11_cuts_53 (by decide) ?_
      refine U_isub dX11_cuts_54 h.1 ?_
      replace h := h.2
      refine U_icmp_ge (tgt := 86) dX11_cuts_55 (by decide) (fun hc => ?_) (fun hc => ?_)
      · replace h := h.1 hc
        exact T_drop h ⟨Or.inl rfl, Or.inr rfl, Or.inr rfl, trivial⟩
      · replace h := h.2 hc
        refine T_aload_n dX11_cuts_58 rfl ?_
        refine T_getR (r := 222) dX11_cuts_59 fX11_23 rfl SH_218 rfl ?_
        refine T_sipush dX11_cuts_62 (by decide) ?_
        refine T_iload_n dX11_cuts_65 rfl ?_
        refine U_iadd dX11_cuts_66 h.1 ?_
        replace h := h.2
        refine T_aload_n dX11_cuts_67 rfl ?_
        refine T_getR (r := 222) dX11_cuts_68 fX11_23 rfl SH_218 rfl ?_
        refine T_sipush dX11_cuts_71 (by decide) ?_
        refine T_iload_n dX11_cuts_74 rfl ?_
        refine U_iadd dX11_cuts_75 h.1 ?_
        replace h := h.2
        refine T_iconst dX11_cuts_76 (by decide) ?_
        refine U_iadd dX11_cuts_77 h.1 ?_
        replace h := h.2
        refine T_iald dX11_cuts_78 SH_222 h.1 ?_
        replace h := h.2
        refine U_iast dX11_cuts_79 SH_222 h.1 (fun v79 ev79 => ?_)
        replace h := h.2 v79 ev79
        refine U_iinc dX11_cuts_80 rfl (by decide) rfl h.1 ?_
        replace h := h.2
        refine T_goto (tgt := 46) dX11_cuts_83 (by decide) ?_
        exact T_drop h ⟨Or.inl rfl, Or.inr rfl, Or.inl rfl, trivial⟩
  · intro h
    refine T_drop (h (fun (i2_1 : Int) (v7 : VT) => n_T G d 0 0 mX11_cuts 7 [vR 218, vI x1, vI i2_1] [] SH v7 Q) (fun i2_1 v7 h => ?_)) ⟨Or.inl rfl, Or.inl rfl, Or.inl rfl, trivial⟩
    refine T_iload_n dX11_cuts_7 rfl ?_
    refine T_bipush dX11_cuts_8 (by decide) ?_
    refine T_iconst dX11_cuts_10 (by decide) ?_
    refine T_aload_n dX11_cuts_11 rfl ?_
    refine T_getR (r := 222) dX11_cuts_12 fX11_23 rfl SH_218 rfl ?_
    refine T_iconst dX11_cuts_15 (by decide) ?_
    refine T_iald dX11_cuts_16 SH_222 (by decide) ?_
    refine T_iconst dX11_cuts_17 (by decide) ?_
    refine U_isub dX11_cuts_18 h.1 ?_
    replace h := h.2
    refine U_imul dX11_cuts_19 h.1 ?_
    replace h := h.2
    refine U_iadd dX11_cuts_20 h.1 ?_
    replace h := h.2
    refine U_icmp_ge (tgt := 44) dX11_cuts_21 (by decide) (fun hc => ?_) (fun hc => ?_)
    · replace h := h.1 hc
      exact T_drop h ⟨Or.inl rfl, Or.inl rfl, Or.inr rfl, trivial⟩
    · replace h := h.2 hc
      refine T_aload_n dX11_cuts_24 rfl ?_
      refine T_getR (r := 222) dX11_cuts_25 fX11_23 rfl SH_218 rfl ?_
      refine T_iload_n dX11_cuts_28 rfl ?_
      refine T_aload_n dX11_cuts_29 rfl ?_
      refine T_getR (r := 222) dX11_cuts_30 fX11_23 rfl SH_218 rfl ?_
      refine T_iload_n dX11_cuts_33 rfl ?_
      refine T_iconst dX11_cuts_34 (by decide) ?_
      refine U_iadd dX11_cuts_35 h.1 ?_
      replace h := h.2
      refine T_iald dX11_cuts_36 SH_222 h.1 ?_
      replace h := h.2
      refine U_iast dX11_cuts_37 SH_222 h.1 (fun v37 ev37 => ?_)
      replace h := h.2 v37 ev37
      refine U_iinc dX11_cuts_38 rfl (by decide) rfl h.1 ?_
      replace h := h.2
      refine T_goto (tgt := 7) dX11_cuts_41 (by decide) ?_
      exact T_drop h ⟨Or.inl rfl, Or.inl rfl, Or.inl rfl, trivial⟩

theorem W_X11_toll {G : GT} {d : Nat} (hd : 3 ≤ d) {x1 : Int} {x2 : Int}   {v : VT} {q : Int → VT → Prop} {Q : Option Vl → List Sh → VT → Prop} (h : P_X11_toll x1 x2 v q) (hQ : ∀ r w, q r w → Q (some (vI r)) SH w) : n_T G d 0 0 mX11_toll 0 [vR 218, vI x1, vI x2] [] SH v Q := by
  unfold P_X11_toll at h
  refine T_aload_n dX11_toll_0 rfl ?_
  refine T_iload_n dX11_toll_1 rfl ?_
  refine U_callV (as := [vI x1]) (st := []) dX11_toll_2 kX11_isLine lX11_262 SH_218 rfl rfl rfl rfl (Nat.le_of_ble_eq_true rfl) (Nat.le_of_ble_eq_true rfl) (by omega) ?_
  refine W_X11_isLine (by omega)  h (fun r2 h => ?_)
  show n_T G d 0 0 mX11_toll 5 [vR 218, vI x1, vI x2] [vI r2] SH v Q
  refine U_if_eq (tgt := 29) dX11_toll_5 (by decide) (fun hc => ?_) (fun hc => ?_)
  · replace h := h.1 hc
    refine T_aload_n dX11_toll_29 rfl ?_
    refine T_iconst dX11_toll_30 (by decide) ?_
    refine U_callV (as := [vI 2]) (st := []) dX11_toll_31 kX11_isRefused lX11_103 SH_218 rfl rfl rfl rfl (Nat.le_of_ble_eq_true rfl) (Nat.le_of_ble_eq_true rfl) (by omega) ?_
    refine W_X11_isRefused (by omega)  h (fun r31 v31 h => ?_)
    show n_T G d 0 0 mX11_toll 34 [vR 218, vI x1, vI x2] [vI r31] SH v31 Q
    exact T_zret dX11_toll_34 rfl h.1 (hQ _ _ h.2)
  · replace h := h.2 hc
    refine T_iload_n dX11_toll_8 rfl ?_
    refine T_i2l dX11_toll_9 ?_
    refine T_lconst dX11_toll_10 ?_
    refine T_ldc2 (n := 9) dX11_toll_11 cX11_385 (by unfold r64; omega) ?_
    refine U_callS (as := [vJ x2, vJ 1, vJ 9]) (st := []) dX11_toll_14 kX11_isIn lX11_109 rfl rfl (Nat.le_of_ble_eq_true rfl) (Nat.le_of_ble_eq_true rfl) (by omega) ?_
    refine W_X11_isIn (by omega)  h (fun r14 h => ?_)
    show n_T G d 0 0 mX11_toll 17 [vR 218, vI x1, vI x2] [vI r14] SH v Q
    refine U_if_eq (tgt := 29) dX11_toll_17 (by decide) (fun hc => ?_) (fun hc => ?_)
    · replace h := h.1 hc
      refine T_aload_n dX11_toll_29 rfl ?_
      refine T_iconst dX11_toll_30 (by decide) ?_
      refine U_callV (as := [vI 2]) (st := []) dX11_toll_31 kX11_isRefused lX11_103 SH_218 rfl rfl rfl rfl (Nat.le_of_ble_eq_true rfl) (Nat.le_of_ble_eq_true rfl) (by omega) ?_
      refine W_X11_isRefused (by omega)  h (fun r31_1 v31_1 h => ?_)
      show n_T G d 0 0 mX11_toll 34 [vR 218, vI x1, vI x2] [vI r31_1] SH v31_1 Q
      exact T_zret dX11_toll_34 rfl h.1 (hQ _ _ h.2)
    · replace h := h.2 hc
      refine T_aload_n dX11_toll_20 rfl ?_
      refine T_iload_n dX11_toll_21 rfl ?_
      refine U_callV (as := [vI x1]) (st := []) dX11_toll_22 kX11_priceOf lX11_254 SH_218 rfl rfl rfl rfl (Nat.le_of_ble_eq_true rfl) (Nat.le_of_ble_eq_true rfl) (by omega) ?_
      refine W_X11_priceOf (by omega)  h (fun r22 h => ?_)
      show n_T G d 0 0 mX11_toll 25 [vR 218, vI x1, vI x2] [vI r22] SH v Q
      refine T_iload_n dX11_toll_25 rfl ?_
      refine U_icmp_ne (tgt := 35) dX11_toll_26 (by decide) (fun hc => ?_) (fun hc => ?_)
      · replace h := h.1 hc
        refine T_aload_n dX11_toll_35 rfl ?_
        refine U_callV (as := []) (st := []) dX11_toll_36 kX11_keeps lX11_379 SH_218 rfl rfl rfl rfl (Nat.le_of_ble_eq_true rfl) (Nat.le_of_ble_eq_true rfl) (by omega) ?_
        refine W_X11_keeps (by omega)  h (fun v36 h => ?_)
        show n_T G d 0 0 mX11_toll 39 [vR 218, vI x1, vI x2] [] SH v36 Q
        refine T_aload_n dX11_toll_39 rfl ?_
        refine T_getR (r := 222) dX11_toll_40 fX11_23 rfl SH_218 rfl ?_
        refine T_sipush dX11_toll_43 (by decide) ?_
        refine T_iload_n dX11_toll_46 rfl ?_
        refine U_iadd dX11_toll_47 h.1 ?_
        replace h := h.2
        refine T_iload_n dX11_toll_48 rfl ?_
        refine U_iast dX11_toll_49 SH_222 h.1 (fun v49 ev49 => ?_)
        replace h := h.2 v49 ev49
        refine T_iconst dX11_toll_50 (by decide) ?_
        exact T_zret dX11_toll_51 rfl (by decide) (hQ _ _ h)
      · replace h := h.2 hc
        refine T_aload_n dX11_toll_29 rfl ?_
        refine T_iconst dX11_toll_30 (by decide) ?_
        refine U_callV (as := [vI 2]) (st := []) dX11_toll_31 kX11_isRefused lX11_103 SH_218 rfl rfl rfl rfl (Nat.le_of_ble_eq_true rfl) (Nat.le_of_ble_eq_true rfl) (by omega) ?_
        refine W_X11_isRefused (by omega)  h (fun r31_2 v31_2 h => ?_)
        show n_T G d 0 0 mX11_toll 34 [vR 218, vI x1, vI x2] [vI r31_2] SH v31_2 Q
        exact T_zret dX11_toll_34 rfl h.1 (hQ _ _ h.2)

theorem W_X11_cut {G : GT} {d : Nat} (hd : 3 ≤ d) {x1 : Int}   {v : VT} {q : Int → VT → Prop} {Q : Option Vl → List Sh → VT → Prop} (h : P_X11_cut x1 v q) (hQ : ∀ r w, q r w → Q (some (vI r)) SH w) : n_T G d 0 0 mX11_cut 0 [vR 218, vI x1] [] SH v Q := by
  unfold P_X11_cut at h
  refine T_aload_n dX11_cut_0 rfl ?_
  refine T_iload_n dX11_cut_1 rfl ?_
  refine U_callV (as := [vI x1]) (st := []) dX11_cut_2 kX11_isLine lX11_262 SH_218 rfl rfl rfl rfl (Nat.le_of_ble_eq_true rfl) (Nat.le_of_ble_eq_true rfl) (by omega) ?_
  refine W_X11_isLine (by omega)  h (fun r2 h => ?_)
  show n_T G d 0 0 mX11_cut 5 [vR 218, vI x1] [vI r2] SH v Q
  refine U_if_ne (tgt := 14) dX11_cut_5 (by decide) (fun hc => ?_) (fun hc => ?_)
  · replace h := h.1 hc
    refine T_aload_n dX11_cut_14 rfl ?_
    refine U_callV (as := []) (st := []) dX11_cut_15 kX11_keeps lX11_379 SH_218 rfl rfl rfl rfl (Nat.le_of_ble_eq_true rfl) (Nat.le_of_ble_eq_true rfl) (by omega) ?_
    refine W_X11_keeps (by omega)  h (fun v15 h => ?_)
    show n_T G d 0 0 mX11_cut 18 [vR 218, vI x1] [] SH v15 Q
    refine T_aload_n dX11_cut_18 rfl ?_
    refine T_iload_n dX11_cut_19 rfl ?_
    refine U_callV (as := [vI x1]) (st := []) dX11_cut_20 kX11_cuts lX11_387 SH_218 rfl rfl rfl rfl (Nat.le_of_ble_eq_true rfl) (Nat.le_of_ble_eq_true rfl) (by omega) ?_
    refine W_X11_cuts (by omega)  h (fun v20 h => ?_)
    show n_T G d 0 0 mX11_cut 23 [vR 218, vI x1] [] SH v20 Q
    refine T_iconst dX11_cut_23 (by decide) ?_
    exact T_zret dX11_cut_24 rfl (by decide) (hQ _ _ h)
  · replace h := h.2 hc
    refine T_aload_n dX11_cut_8 rfl ?_
    refine T_iconst dX11_cut_9 (by decide) ?_
    refine U_callV (as := [vI 2]) (st := []) dX11_cut_10 kX11_isRefused lX11_103 SH_218 rfl rfl rfl rfl (Nat.le_of_ble_eq_true rfl) (Nat.le_of_ble_eq_true rfl) (by omega) ?_
    refine W_X11_isRefused (by omega)  h (fun r10 v10 h => ?_)
    show n_T G d 0 0 mX11_cut 13 [vR 218, vI x1] [vI r10] SH v10 Q
    exact T_zret dX11_cut_13 rfl h.1 (hQ _ _ h.2)

theorem W_X11_canGrow {G : GT} {d : Nat} (hd : 3 ≤ d) {x1 : Int}   {v : VT} {q : Int → Prop} {Q : Option Vl → List Sh → VT → Prop} (h : P_X11_canGrow x1 v q) (hQ : ∀ r, q r → Q (some (vI r)) SH v) : n_T G d 0 0 mX11_canGrow 0 [vR 218, vI x1] [] SH v Q := by
  unfold P_X11_canGrow at h
  refine T_aload_n dX11_canGrow_0 rfl ?_
  refine T_iload_n dX11_canGrow_1 rfl ?_
  refine U_callV (as := [vI x1]) (st := []) dX11_canGrow_2 kX11_isNode lX11_257 SH_218 rfl rfl rfl rfl (Nat.le_of_ble_eq_true rfl) (Nat.le_of_ble_eq_true rfl) (by omega) ?_
  refine W_X11_isNode (by omega)  h (fun r2 h => ?_)
  show n_T G d 0 0 mX11_canGrow 5 [vR 218, vI x1] [vI r2] SH v Q
  refine U_if_eq (tgt := 34) dX11_canGrow_5 (by decide) (fun hc => ?_) (fun hc => ?_)
  · replace h := h.1 hc
    refine T_iconst dX11_canGrow_34 (by decide) ?_
    exact T_zret dX11_canGrow_35 rfl (by decide) (hQ _ h)
  · replace h := h.2 hc
    refine T_aload_n dX11_canGrow_8 rfl ?_
    refine T_getR (r := 222) dX11_canGrow_9 fX11_23 rfl SH_218 rfl ?_
    refine T_iconst dX11_canGrow_12 (by decide) ?_
    refine T_iald dX11_canGrow_13 SH_222 (by decide) ?_
    refine T_bipush dX11_canGrow_14 (by decide) ?_
    refine U_icmp_ge (tgt := 34) dX11_canGrow_16 (by decide) (fun hc => ?_) (fun hc => ?_)
    · replace h := h.1 hc
      refine T_iconst dX11_canGrow_34 (by decide) ?_
      exact T_zret dX11_canGrow_35 rfl (by decide) (hQ _ h)
    · replace h := h.2 hc
      refine T_aload_n dX11_canGrow_19 rfl ?_
      refine T_getR (r := 222) dX11_canGrow_20 fX11_23 rfl SH_218 rfl ?_
      refine T_iconst dX11_canGrow_23 (by decide) ?_
      refine T_iald dX11_canGrow_24 SH_222 (by decide) ?_
      refine T_bipush dX11_canGrow_25 (by decide) ?_
      refine U_icmp_ge (tgt := 34) dX11_canGrow_27 (by decide) (fun hc => ?_) (fun hc => ?_)
      · replace h := h.1 hc
        refine T_iconst dX11_canGrow_34 (by decide) ?_
        exact T_zret dX11_canGrow_35 rfl (by decide) (hQ _ h)
      · replace h := h.2 hc
        refine T_iconst dX11_canGrow_30 (by decide) ?_
        refine T_goto (tgt := 35) dX11_canGrow_31 (by decide) ?_
        exact T_zret dX11_canGrow_35 rfl (by decide) (hQ _ h)

theorem W_X11_grows {G : GT} {d : Nat} (hd : 3 ≤ d) {x1 : Int}   {v : VT} {q : VT → Prop} {Q : Option Vl → List Sh → VT → Prop} (h : P_X11_grows x1 v q) (hQ : ∀ w, q w → Q none SH w) : n_T G d 0 0 mX11_grows 0 [vR 218, vI x1] [] SH v Q := by
  unfold P_X11_grows at h
  refine T_aload_n dX11_grows_0 rfl ?_
  refine T_getR (r := 222) dX11_grows_1 fX11_23 rfl SH_218 rfl ?_
  refine T_iconst dX11_grows_4 (by decide) ?_
  refine T_aload_n dX11_grows_5 rfl ?_
  refine T_getR (r := 222) dX11_grows_6 fX11_23 rfl SH_218 rfl ?_
  refine T_iconst dX11_grows_9 (by decide) ?_
  refine T_iald dX11_grows_10 SH_222 (by decide) ?_
  refine U_iadd dX11_grows_11 h.1 ?_
  replace h := h.2
  refine T_iconst dX11_grows_12 (by decide) ?_
  refine U_iast dX11_grows_13 SH_222 h.1 (fun v13 ev13 => ?_)
  replace h := h.2 v13 ev13
  refine T_aload_n dX11_grows_14 rfl ?_
  refine T_getR (r := 222) dX11_grows_15 fX11_23 rfl SH_218 rfl ?_
  refine T_iconst dX11_grows_18 (by decide) ?_
  refine T_dup2 dX11_grows_19 rfl rfl ?_
  refine T_iald dX11_grows_20 SH_222 (by decide) ?_
  refine T_iconst dX11_grows_21 (by decide) ?_
  refine U_iadd dX11_grows_22 h.1 ?_
  replace h := h.2
  refine U_iast dX11_grows_23 SH_222 (by decide) (fun v23 ev23 => ?_)
  replace h := h v23 ev23
  refine T_aload_n dX11_grows_24 rfl ?_
  refine T_iload_n dX11_grows_25 rfl ?_
  refine T_aload_n dX11_grows_26 rfl ?_
  refine T_getR (r := 222) dX11_grows_27 fX11_23 rfl SH_218 rfl ?_
  refine T_iconst dX11_grows_30 (by decide) ?_
  refine T_iald dX11_grows_31 SH_222 (by decide) ?_
  refine T_iconst dX11_grows_32 (by decide) ?_
  refine U_isub dX11_grows_33 h.1 ?_
  replace h := h.2
  refine U_callV (as := [vI x1, vI ((v23 222 0) - 1)]) (st := []) dX11_grows_34 kX11_joins lX11_382 SH_218 rfl rfl rfl rfl (Nat.le_of_ble_eq_true rfl) (Nat.le_of_ble_eq_true rfl) (by omega) ?_
  refine W_X11_joins (by omega)  h (fun v34 h => ?_)
  show n_T G d 0 0 mX11_grows 37 [vR 218, vI x1] [] SH v34 Q
  exact T_vret dX11_grows_37 rfl (hQ _ h)

theorem W_X11_grow {G : GT} {d : Nat} (hd : 4 ≤ d) {x1 : Int}   {v : VT} {q : Int → VT → Prop} {Q : Option Vl → List Sh → VT → Prop} (h : P_X11_grow x1 v q) (hQ : ∀ r w, q r w → Q (some (vI r)) SH w) : n_T G d 0 0 mX11_grow 0 [vR 218, vI x1] [] SH v Q := by
  unfold P_X11_grow at h
  refine T_aload_n dX11_grow_0 rfl ?_
  refine T_iload_n dX11_grow_1 rfl ?_
  refine U_callV (as := [vI x1]) (st := []) dX11_grow_2 kX11_canGrow lX11_390 SH_218 rfl rfl rfl rfl (Nat.le_of_ble_eq_true rfl) (Nat.le_of_ble_eq_true rfl) (by omega) ?_
  refine W_X11_canGrow (by omega)  h (fun r2 h => ?_)
  show n_T G d 0 0 mX11_grow 5 [vR 218, vI x1] [vI r2] SH v Q
  refine U_if_ne (tgt := 14) dX11_grow_5 (by decide) (fun hc => ?_) (fun hc => ?_)
  · replace h := h.1 hc
    refine T_aload_n dX11_grow_14 rfl ?_
    refine U_callV (as := []) (st := []) dX11_grow_15 kX11_keeps lX11_379 SH_218 rfl rfl rfl rfl (Nat.le_of_ble_eq_true rfl) (Nat.le_of_ble_eq_true rfl) (by omega) ?_
    refine W_X11_keeps (by omega)  h (fun v15 h => ?_)
    show n_T G d 0 0 mX11_grow 18 [vR 218, vI x1] [] SH v15 Q
    refine T_aload_n dX11_grow_18 rfl ?_
    refine T_iload_n dX11_grow_19 rfl ?_
    refine U_callV (as := [vI x1]) (st := []) dX11_grow_20 kX11_grows lX11_393 SH_218 rfl rfl rfl rfl (Nat.le_of_ble_eq_true rfl) (Nat.le_of_ble_eq_true rfl) (by omega) ?_
    refine W_X11_grows (by omega)  h (fun v20 h => ?_)
    show n_T G d 0 0 mX11_grow 23 [vR 218, vI x1] [] SH v20 Q
    refine T_aload_n dX11_grow_23 rfl ?_
    refine T_getR (r := 222) dX11_grow_24 fX11_23 rfl SH_218 rfl ?_
    refine T_iconst dX11_grow_27 (by decide) ?_
    refine T_iald dX11_grow_28 SH_222 (by decide) ?_
    refine T_iconst dX11_grow_29 (by decide) ?_
    refine U_isub dX11_grow_30 h.1 ?_
    replace h := h.2
    exact T_iret dX11_grow_31 rfl (hQ _ _ h)
  · replace h := h.2 hc
    refine T_aload_n dX11_grow_8 rfl ?_
    refine T_iconst dX11_grow_9 (by decide) ?_
    refine U_callV (as := [vI 2]) (st := []) dX11_grow_10 kX11_refuses lX11_99 SH_218 rfl rfl rfl rfl (Nat.le_of_ble_eq_true rfl) (Nat.le_of_ble_eq_true rfl) (by omega) ?_
    refine W_X11_refuses (by omega)  h (fun r10 v10 h => ?_)
    show n_T G d 0 0 mX11_grow 13 [vR 218, vI x1] [vI r10] SH v10 Q
    exact T_iret dX11_grow_13 rfl (hQ _ _ h)

theorem W_X11_turns {G : GT} {d : Nat} (hd : 2 ≤ d) {x1 : Int}   {v : VT} {q : VT → Prop} {Q : Option Vl → List Sh → VT → Prop} (h : P_X11_turns x1 v q) (hQ : ∀ w, q w → Q none SH w) : n_T G d 0 0 mX11_turns 0 [vR 218, vI x1, vS 9, vS 9, vS 9] [] SH v Q := by
  unfold P_X11_turns at h
  refine T_aload_n dX11_turns_0 rfl ?_
  refine T_getR (r := 223) dX11_turns_1 fX11_26 rfl SH_218 rfl ?_
  refine T_iconst dX11_turns_4 (by decide) ?_
  refine T_iload_n dX11_turns_5 rfl ?_
  refine U_iast dX11_turns_6 SH_223 (by decide) (fun v6 ev6 => ?_)
  replace h := h v6 ev6
  refine T_aload_n dX11_turns_7 rfl ?_
  refine T_getR (r := 223) dX11_turns_8 fX11_26 rfl SH_218 rfl ?_
  refine T_iconst dX11_turns_11 (by decide) ?_
  refine T_iconst dX11_turns_12 (by decide) ?_
  refine U_iast dX11_turns_13 SH_223 (by decide) (fun v13 ev13 => ?_)
  replace h := h v13 ev13
  refine T_iconst dX11_turns_14 (by decide) ?_
  refine T_istore_n dX11_turns_15 (by decide) rfl ?_
  refine n_cut (h (fun (v37 : VT) => n_T G d 0 0 mX11_turns 37 [vR 218, vS 9, vS 9, vS 9, vS 9] [] SH v37 Q)) ?_ ?_
  · intro v37 h
    refine T_aload_n dX11_turns_37 rfl ?_
    refine T_getR (r := 222) dX11_turns_38 fX11_23 rfl SH_218 rfl ?_
    refine T_iconst dX11_turns_41 (by decide) ?_
    refine T_iald dX11_turns_42 SH_222 (by decide) ?_
    refine T_iconst dX11_turns_43 (by decide) ?_
    refine U_isub dX11_turns_44 h.1 ?_
    replace h := h.2
    refine U_istore_n dX11_turns_45 (by decide) rfl (fun l2 el2 => ?_)
    replace h := h l2 el2
    refine n_cut (h (fun (v87 : VT) => n_T G d 0 0 mX11_turns 87 [vR 218, vS 9, vS 9, vS 9, vS 9] [] SH v87 Q)) ?_ ?_
    · intro v87 h
      refine T_iconst dX11_turns_87 (by decide) ?_
      refine T_istore_n dX11_turns_88 (by decide) rfl ?_
      refine T_drop (h (fun (i2 : Int) (v89 : VT) => n_T G d 0 0 mX11_turns 89 [vR 218, vS 9, vI i2, vS 9, vS 9] [] SH v89 Q) (fun i2 v89 h => ?_)) ⟨Or.inl rfl, Or.inr rfl, Or.inl rfl, Or.inr rfl, Or.inr rfl, trivial⟩
      refine T_iload_n dX11_turns_89 rfl ?_
      refine T_aload_n dX11_turns_90 rfl ?_
      refine T_getR (r := 222) dX11_turns_91 fX11_23 rfl SH_218 rfl ?_
      refine T_iconst dX11_turns_94 (by decide) ?_
      refine T_iald dX11_turns_95 SH_222 (by decide) ?_
      refine U_icmp_ge (tgt := 174) dX11_turns_96 (by decide) (fun hc => ?_) (fun hc => ?_)
      · replace h := h.1 hc
        refine T_aload_n dX11_turns_174 rfl ?_
        refine U_callV (as := []) (st := []) dX11_turns_175 kX11_isNext lX11_396 SH_218 rfl rfl rfl rfl (Nat.le_of_ble_eq_true rfl) (Nat.le_of_ble_eq_true rfl) (by omega) ?_
        refine W_X11_isNext (by omega)  h (fun v175 h => ?_)
        show n_T G d 0 0 mX11_turns 178 [vR 218, vS 9, vI i2, vS 9, vS 9] [] SH v175 Q
        exact T_vret dX11_turns_178 rfl (hQ _ h)
      · replace h := h.2 hc
        refine T_aload_n dX11_turns_99 rfl ?_
        refine T_getR (r := 240) dX11_turns_100 fX11_80 rfl SH_218 rfl ?_
        refine T_aload_n dX11_turns_103 rfl ?_
        refine T_iload_n dX11_turns_104 rfl ?_
        refine U_callV (as := [vI i2]) (st := [vR 240]) dX11_turns_105 kX11_low lX11_208 SH_218 rfl rfl rfl rfl (Nat.le_of_ble_eq_true rfl) (Nat.le_of_ble_eq_true rfl) (by omega) ?_
        refine W_X11_low (by omega)  h (fun r105 h => ?_)
        show n_T G d 0 0 mX11_turns 108 [vR 218, vS 9, vI i2, vS 9, vS 9] [vI r105, vR 240] SH v89 Q
        refine T_iald dX11_turns_108 SH_240 h.1 ?_
        replace h := h.2
        refine U_istore_n dX11_turns_109 (by decide) rfl (fun l3 el3 => ?_)
        replace h := h l3 el3
        refine T_aload_n dX11_turns_110 rfl ?_
        refine T_getR (r := 240) dX11_turns_111 fX11_80 rfl SH_218 rfl ?_
        refine T_aload_n dX11_turns_114 rfl ?_
        refine T_iload_n dX11_turns_115 rfl ?_
        refine U_callV (as := [vI i2]) (st := [vR 240]) dX11_turns_116 kX11_high lX11_211 SH_218 rfl rfl rfl rfl (Nat.le_of_ble_eq_true rfl) (Nat.le_of_ble_eq_true rfl) (by omega) ?_
        refine W_X11_high (by omega)  h (fun r116 h => ?_)
        show n_T G d 0 0 mX11_turns 119 [vR 218, vS 9, vI i2, vI l3, vS 9] [vI r116, vR 240] SH v89 Q
        refine T_iald dX11_turns_119 SH_240 h.1 ?_
        replace h := h.2
        refine U_istore dX11_turns_120 (by decide) rfl (fun l4 el4 => ?_)
        replace h := h l4 el4
        refine T_iload_n dX11_turns_122 rfl ?_
        refine T_iconst dX11_turns_123 (by decide) ?_
        refine U_icmp_eq (tgt := 168) dX11_turns_124 (by decide) (fun hc => ?_) (fun hc => ?_)
        · replace h := h.1 hc
          refine U_iinc dX11_turns_168 rfl (by decide) rfl h.1 ?_
          replace h := h.2
          refine T_goto (tgt := 89) dX11_turns_171 (by decide) ?_
          exact T_drop h ⟨Or.inl rfl, Or.inr rfl, Or.inl rfl, Or.inr rfl, Or.inr rfl, trivial⟩
        · replace h := h.2 hc
          refine T_iload dX11_turns_127 rfl ?_
          refine T_iconst dX11_turns_129 (by decide) ?_
          refine U_icmp_eq (tgt := 168) dX11_turns_130 (by decide) (fun hc => ?_) (fun hc => ?_)
          · replace h := h.1 hc
            refine U_iinc dX11_turns_168 rfl (by decide) rfl h.1 ?_
            replace h := h.2
            refine T_goto (tgt := 89) dX11_turns_171 (by decide) ?_
            exact T_drop h ⟨Or.inl rfl, Or.inr rfl, Or.inl rfl, Or.inr rfl, Or.inr rfl, trivial⟩
          · replace h := h.2 hc
            refine T_iload_n dX11_turns_133 rfl ?_
            refine T_iload dX11_turns_134 rfl ?_
            refine U_icmp_eq (tgt := 168) dX11_turns_136 (by decide) (fun hc => ?_) (fun hc => ?_)
            · replace h := h.1 hc
              refine U_iinc dX11_turns_168 rfl (by decide) rfl h.1 ?_
              replace h := h.2
              refine T_goto (tgt := 89) dX11_turns_171 (by decide) ?_
              exact T_drop h ⟨Or.inl rfl, Or.inr rfl, Or.inl rfl, Or.inr rfl, Or.inr rfl, trivial⟩
            · replace h := h.2 hc
              refine T_aload_n dX11_turns_139 rfl ?_
              refine T_getR (r := 223) dX11_turns_140 fX11_26 rfl SH_218 rfl ?_
              refine T_iload_n dX11_turns_143 rfl ?_
              refine T_iload dX11_turns_144 rfl ?_
              refine U_callS (as := [vR 223, vI l3, vI l4]) (st := []) dX11_turns_146 kX11_lineOf lX11_169 rfl rfl (Nat.le_of_ble_eq_true rfl) (Nat.le_of_ble_eq_true rfl) (by omega) ?_
              refine W_X11_lineOf (by omega) SH_223 h (fun r146 h => ?_)
              show n_T G d 0 0 mX11_turns 149 [vR 218, vS 9, vI i2, vI l3, vI l4] [vI r146] SH v89 Q
              refine T_iconst dX11_turns_149 (by decide) ?_
              refine U_icmp_ne (tgt := 168) dX11_turns_150 (by decide) (fun hc => ?_) (fun hc => ?_)
              · replace h := h.1 hc
                refine U_iinc dX11_turns_168 rfl (by decide) rfl h.1 ?_
                replace h := h.2
                refine T_goto (tgt := 89) dX11_turns_171 (by decide) ?_
                exact T_drop h ⟨Or.inl rfl, Or.inr rfl, Or.inl rfl, Or.inr rfl, Or.inr rfl, trivial⟩
              · replace h := h.2 hc
                refine T_aload_n dX11_turns_153 rfl ?_
                refine T_getR (r := 223) dX11_turns_154 fX11_26 rfl SH_218 rfl ?_
                refine T_iload_n dX11_turns_157 rfl ?_
                refine T_iload dX11_turns_158 rfl ?_
                refine T_aload_n dX11_turns_160 rfl ?_
                refine T_iload_n dX11_turns_161 rfl ?_
                refine U_callV (as := [vI i2]) (st := [vI l4, vI l3, vR 223]) dX11_turns_162 kX11_priceOf lX11_254 SH_218 rfl rfl rfl rfl (Nat.le_of_ble_eq_true rfl) (Nat.le_of_ble_eq_true rfl) (by omega) ?_
                refine W_X11_priceOf (by omega)  h (fun r162 h => ?_)
                show n_T G d 0 0 mX11_turns 165 [vR 218, vS 9, vI i2, vI l3, vI l4] [vI r162, vI l4, vI l3, vR 223] SH v89 Q
                refine U_callS (as := [vR 223, vI l3, vI l4, vI r162]) (st := []) dX11_turns_165 kX11_adds lX11_173 rfl rfl (Nat.le_of_ble_eq_true rfl) (Nat.le_of_ble_eq_true rfl) (by omega) ?_
                refine W_X11_adds (by omega) SH_223 h (fun v165 h => ?_)
                show n_T G d 0 0 mX11_turns 168 [vR 218, vS 9, vI i2, vI l3, vI l4] [] SH v165 Q
                refine U_iinc dX11_turns_168 rfl (by decide) rfl h.1 ?_
                replace h := h.2
                refine T_goto (tgt := 89) dX11_turns_171 (by decide) ?_
                exact T_drop h ⟨Or.inl rfl, Or.inr rfl, Or.inl rfl, Or.inr rfl, Or.inr rfl, trivial⟩
    · intro h
      refine T_drop (h (fun (i2_1 : Int) (v46 : VT) => n_T G d 0 0 mX11_turns 46 [vR 218, vS 9, vI i2_1, vS 9, vS 9] [] SH v46 Q) (fun i2_1 v46 h => ?_)) ⟨Or.inl rfl, Or.inr rfl, Or.inl rfl, Or.inr rfl, Or.inr rfl, trivial⟩
      refine T_iload_n dX11_turns_46 rfl ?_
      refine U_if_lt (tgt := 87) dX11_turns_47 (by decide) (fun hc => ?_) (fun hc => ?_)
      · replace h := h.1 hc
        exact T_drop h ⟨Or.inl rfl, Or.inr rfl, Or.inr rfl, Or.inr rfl, Or.inr rfl, trivial⟩
      · replace h := h.2 hc
        refine T_aload_n dX11_turns_50 rfl ?_
        refine T_getR (r := 240) dX11_turns_51 fX11_80 rfl SH_218 rfl ?_
        refine T_iload_n dX11_turns_54 rfl ?_
        refine T_iald dX11_turns_55 SH_240 h.1 ?_
        replace h := h.2
        refine T_iconst dX11_turns_56 (by decide) ?_
        refine U_icmp_eq (tgt := 81) dX11_turns_57 (by decide) (fun hc => ?_) (fun hc => ?_)
        · replace h := h.1 hc
          refine U_iinc dX11_turns_81 rfl (by decide) rfl h.1 ?_
          replace h := h.2
          refine T_goto (tgt := 46) dX11_turns_84 (by decide) ?_
          exact T_drop h ⟨Or.inl rfl, Or.inr rfl, Or.inl rfl, Or.inr rfl, Or.inr rfl, trivial⟩
        · replace h := h.2 hc
          refine T_aload_n dX11_turns_60 rfl ?_
          refine T_getR (r := 223) dX11_turns_61 fX11_26 rfl SH_218 rfl ?_
          refine T_iconst dX11_turns_64 (by decide) ?_
          refine T_aload_n dX11_turns_65 rfl ?_
          refine T_getR (r := 240) dX11_turns_66 fX11_80 rfl SH_218 rfl ?_
          refine T_iload_n dX11_turns_69 rfl ?_
          refine T_iald dX11_turns_70 SH_240 h.1 ?_
          replace h := h.2
          refine U_iadd dX11_turns_71 h.1 ?_
          replace h := h.2
          refine T_aload_n dX11_turns_72 rfl ?_
          refine T_getR (r := 222) dX11_turns_73 fX11_23 rfl SH_218 rfl ?_
          refine T_iconst dX11_turns_76 (by decide) ?_
          refine T_iload_n dX11_turns_77 rfl ?_
          refine U_iadd dX11_turns_78 h.1 ?_
          replace h := h.2
          refine T_iald dX11_turns_79 SH_222 h.1 ?_
          replace h := h.2
          refine U_iast dX11_turns_80 SH_223 h.1 (fun v80 ev80 => ?_)
          replace h := h.2 v80 ev80
          refine U_iinc dX11_turns_81 rfl (by decide) rfl h.1 ?_
          replace h := h.2
          refine T_goto (tgt := 46) dX11_turns_84 (by decide) ?_
          exact T_drop h ⟨Or.inl rfl, Or.inr rfl, Or.inl rfl, Or.inr rfl, Or.inr rfl, trivial⟩
  · intro h
    refine T_drop (h (fun (i2_2 : Int) (v16 : VT) => n_T G d 0 0 mX11_turns 16 [vR 218, vS 9, vI i2_2, vS 9, vS 9] [] SH v16 Q) (fun i2_2 v16 h => ?_)) ⟨Or.inl rfl, Or.inr rfl, Or.inl rfl, Or.inr rfl, Or.inr rfl, trivial⟩
    refine T_iload_n dX11_turns_16 rfl ?_
    refine T_bipush dX11_turns_17 (by decide) ?_
    refine U_icmp_ge (tgt := 37) dX11_turns_19 (by decide) (fun hc => ?_) (fun hc => ?_)
    · replace h := h.1 hc
      exact T_drop h ⟨Or.inl rfl, Or.inr rfl, Or.inr rfl, Or.inr rfl, Or.inr rfl, trivial⟩
    · replace h := h.2 hc
      refine T_aload_n dX11_turns_22 rfl ?_
      refine T_getR (r := 223) dX11_turns_23 fX11_26 rfl SH_218 rfl ?_
      refine T_iconst dX11_turns_26 (by decide) ?_
      refine T_iload_n dX11_turns_27 rfl ?_
      refine U_iadd dX11_turns_28 h.1 ?_
      replace h := h.2
      refine T_iconst dX11_turns_29 (by decide) ?_
      refine U_iast dX11_turns_30 SH_223 h.1 (fun v30 ev30 => ?_)
      replace h := h.2 v30 ev30
      refine U_iinc dX11_turns_31 rfl (by decide) rfl h.1 ?_
      replace h := h.2
      refine T_goto (tgt := 16) dX11_turns_34 (by decide) ?_
      exact T_drop h ⟨Or.inl rfl, Or.inr rfl, Or.inl rfl, Or.inr rfl, Or.inr rfl, trivial⟩

theorem W_X11_drop {G : GT} {d : Nat} (hd : 3 ≤ d) {x1 : Int}   {v : VT} {q : Int → VT → Prop} {Q : Option Vl → List Sh → VT → Prop} (h : P_X11_drop x1 v q) (hQ : ∀ r w, q r w → Q (some (vI r)) SH w) : n_T G d 0 0 mX11_drop 0 [vR 218, vI x1, vS 9] [] SH v Q := by
  unfold P_X11_drop at h
  refine T_aload_n dX11_drop_0 rfl ?_
  refine T_iload_n dX11_drop_1 rfl ?_
  refine U_callV (as := [vI x1]) (st := []) dX11_drop_2 kX11_isNode lX11_257 SH_218 rfl rfl rfl rfl (Nat.le_of_ble_eq_true rfl) (Nat.le_of_ble_eq_true rfl) (by omega) ?_
  refine W_X11_isNode (by omega)  h (fun r2 h => ?_)
  show n_T G d 0 0 mX11_drop 5 [vR 218, vI x1, vS 9] [vI r2] SH v Q
  refine U_if_eq (tgt := 18) dX11_drop_5 (by decide) (fun hc => ?_) (fun hc => ?_)
  · replace h := h.1 hc
    refine T_aload_n dX11_drop_18 rfl ?_
    refine T_iconst dX11_drop_19 (by decide) ?_
    refine U_callV (as := [vI 2]) (st := []) dX11_drop_20 kX11_isRefused lX11_103 SH_218 rfl rfl rfl rfl (Nat.le_of_ble_eq_true rfl) (Nat.le_of_ble_eq_true rfl) (by omega) ?_
    refine W_X11_isRefused (by omega)  h (fun r20 v20 h => ?_)
    show n_T G d 0 0 mX11_drop 23 [vR 218, vI x1, vS 9] [vI r20] SH v20 Q
    exact T_zret dX11_drop_23 rfl h.1 (hQ _ _ h.2)
  · replace h := h.2 hc
    refine T_aload_n dX11_drop_8 rfl ?_
    refine T_getR (r := 222) dX11_drop_9 fX11_23 rfl SH_218 rfl ?_
    refine T_iconst dX11_drop_12 (by decide) ?_
    refine T_iald dX11_drop_13 SH_222 (by decide) ?_
    refine T_iconst dX11_drop_14 (by decide) ?_
    refine U_icmp_ne (tgt := 24) dX11_drop_15 (by decide) (fun hc => ?_) (fun hc => ?_)
    · replace h := h.1 hc
      refine T_aload_n dX11_drop_24 rfl ?_
      refine U_callV (as := []) (st := []) dX11_drop_25 kX11_keeps lX11_379 SH_218 rfl rfl rfl rfl (Nat.le_of_ble_eq_true rfl) (Nat.le_of_ble_eq_true rfl) (by omega) ?_
      refine W_X11_keeps (by omega)  h (fun v25 h => ?_)
      show n_T G d 0 0 mX11_drop 28 [vR 218, vI x1, vS 9] [] SH v25 Q
      refine T_iconst dX11_drop_28 (by decide) ?_
      refine T_istore_n dX11_drop_29 (by decide) rfl ?_
      refine n_cut (h (fun (v73 : VT) => n_T G d 0 0 mX11_drop 73 [vR 218, vS 9, vS 9] [] SH v73 Q)) ?_ ?_
      · intro v73 h
        refine T_aload_n dX11_drop_73 rfl ?_
        refine T_aload_n dX11_drop_74 rfl ?_
        refine T_getR (r := 222) dX11_drop_75 fX11_23 rfl SH_218 rfl ?_
        refine T_iconst dX11_drop_78 (by decide) ?_
        refine T_iald dX11_drop_79 SH_222 (by decide) ?_
        refine T_iconst dX11_drop_80 (by decide) ?_
        refine U_isub dX11_drop_81 h.1 ?_
        replace h := h.2
        refine U_callV (as := [vI ((v73 222 0) - 1)]) (st := []) dX11_drop_82 kX11_turns lX11_399 SH_218 rfl rfl rfl rfl (Nat.le_of_ble_eq_true rfl) (Nat.le_of_ble_eq_true rfl) (by omega) ?_
        refine W_X11_turns (by omega)  h (fun v82 h => ?_)
        show n_T G d 0 0 mX11_drop 85 [vR 218, vS 9, vS 9] [] SH v82 Q
        refine T_iconst dX11_drop_85 (by decide) ?_
        exact T_zret dX11_drop_86 rfl (by decide) (hQ _ _ h)
      · intro h
        refine T_drop (h (fun (i2 : Int) (v30 : VT) => n_T G d 0 0 mX11_drop 30 [vR 218, vI x1, vI i2] [] SH v30 Q) (fun i2 v30 h => ?_)) ⟨Or.inl rfl, Or.inl rfl, Or.inl rfl, trivial⟩
        refine T_iload_n dX11_drop_30 rfl ?_
        refine T_aload_n dX11_drop_31 rfl ?_
        refine T_getR (r := 222) dX11_drop_32 fX11_23 rfl SH_218 rfl ?_
        refine T_iconst dX11_drop_35 (by decide) ?_
        refine T_iald dX11_drop_36 SH_222 (by decide) ?_
        refine U_icmp_ge (tgt := 73) dX11_drop_37 (by decide) (fun hc => ?_) (fun hc => ?_)
        · replace h := h.1 hc
          exact T_drop h ⟨Or.inl rfl, Or.inr rfl, Or.inr rfl, trivial⟩
        · replace h := h.2 hc
          refine T_aload_n dX11_drop_40 rfl ?_
          refine T_getR (r := 240) dX11_drop_41 fX11_80 rfl SH_218 rfl ?_
          refine T_iload_n dX11_drop_44 rfl ?_
          refine T_iload_n dX11_drop_45 rfl ?_
          refine T_iload_n dX11_drop_46 rfl ?_
          refine U_icmp_ne (tgt := 54) dX11_drop_47 (by decide) (fun hc => ?_) (fun hc => ?_)
          · replace h := h.1 hc
            refine T_iload_n dX11_drop_54 rfl ?_
            refine T_iload_n dX11_drop_55 rfl ?_
            refine U_icmp_le (tgt := 65) dX11_drop_56 (by decide) (fun hc => ?_) (fun hc => ?_)
            · replace h := h.1 hc
              refine T_iload_n dX11_drop_65 rfl ?_
              refine U_iast dX11_drop_66 SH_240 h.1 (fun v66 ev66 => ?_)
              replace h := h.2 v66 ev66
              refine U_iinc dX11_drop_67 rfl (by decide) rfl h.1 ?_
              replace h := h.2
              refine T_goto (tgt := 30) dX11_drop_70 (by decide) ?_
              exact T_drop h ⟨Or.inl rfl, Or.inl rfl, Or.inl rfl, trivial⟩
            · replace h := h.2 hc
              refine T_iload_n dX11_drop_59 rfl ?_
              refine T_iconst dX11_drop_60 (by decide) ?_
              refine U_isub dX11_drop_61 h.1 ?_
              replace h := h.2
              refine T_goto (tgt := 66) dX11_drop_62 (by decide) ?_
              refine U_iast dX11_drop_66 SH_240 h.1 (fun v66_1 ev66_1 => ?_)
              replace h := h.2 v66_1 ev66_1
              refine U_iinc dX11_drop_67 rfl (by decide) rfl h.1 ?_
              replace h := h.2
              refine T_goto (tgt := 30) dX11_drop_70 (by decide) ?_
              exact T_drop h ⟨Or.inl rfl, Or.inl rfl, Or.inl rfl, trivial⟩
          · replace h := h.2 hc
            refine T_iconst dX11_drop_50 (by decide) ?_
            refine T_goto (tgt := 66) dX11_drop_51 (by decide) ?_
            refine U_iast dX11_drop_66 SH_240 h.1 (fun v66_2 ev66_2 => ?_)
            replace h := h.2 v66_2 ev66_2
            refine U_iinc dX11_drop_67 rfl (by decide) rfl h.1 ?_
            replace h := h.2
            refine T_goto (tgt := 30) dX11_drop_70 (by decide) ?_
            exact T_drop h ⟨Or.inl rfl, Or.inl rfl, Or.inl rfl, trivial⟩
    · replace h := h.2 hc
      refine T_aload_n dX11_drop_18 rfl ?_
      refine T_iconst dX11_drop_19 (by decide) ?_
      refine U_callV (as := [vI 2]) (st := []) dX11_drop_20 kX11_isRefused lX11_103 SH_218 rfl rfl rfl rfl (Nat.le_of_ble_eq_true rfl) (Nat.le_of_ble_eq_true rfl) (by omega) ?_
      refine W_X11_isRefused (by omega)  h (fun r20_1 v20_1 h => ?_)
      show n_T G d 0 0 mX11_drop 23 [vR 218, vI x1, vS 9] [vI r20_1] SH v20_1 Q
      exact T_zret dX11_drop_23 rfl h.1 (hQ _ _ h.2)

theorem W_X11_presses {G : GT} {d : Nat} (hd : 3 ≤ d) {x1 : Int}   {v : VT} {q : VT → Prop} {Q : Option Vl → List Sh → VT → Prop} (h : P_X11_presses x1 v q) (hQ : ∀ w, q w → Q none SH w) : n_T G d 0 0 mX11_presses 0 [vR 218, vI x1, vS 9, vS 9, vS 9, vS 9, vS 9] [] SH v Q := by
  unfold P_X11_presses at h
  refine T_aload_n dX11_presses_0 rfl ?_
  refine T_getR (r := 222) dX11_presses_1 fX11_23 rfl SH_218 rfl ?_
  refine T_iconst dX11_presses_4 (by decide) ?_
  refine T_iald dX11_presses_5 SH_222 (by decide) ?_
  refine T_istore_n dX11_presses_6 (by decide) rfl ?_
  refine T_iconst dX11_presses_7 (by decide) ?_
  refine T_istore_n dX11_presses_8 (by decide) rfl ?_
  refine n_cut (h (fun (v27 : VT) => n_T G d 0 0 mX11_presses 27 [vR 218, vI x1, vI (v 222 0), vS 9, vS 9, vS 9, vS 9] [] SH v27 Q)) ?_ ?_
  · intro v27 h
    refine T_iconst dX11_presses_27 (by decide) ?_
    refine T_istore_n dX11_presses_28 (by decide) rfl ?_
    refine n_cut (h (fun (v172 : VT) => n_T G d 0 0 mX11_presses 172 [vR 218, vS 9, vI (v 222 0), vS 9, vS 9, vS 9, vS 9] [] SH v172 Q)) ?_ ?_
    · intro v172 h
      refine T_iconst dX11_presses_172 (by decide) ?_
      refine T_istore dX11_presses_173 (by decide) rfl ?_
      refine T_iconst dX11_presses_175 (by decide) ?_
      refine T_istore dX11_presses_176 (by decide) rfl ?_
      refine T_drop (h (fun (i4 : Int) (i5 : Int) (v178 : VT) => n_T G d 0 0 mX11_presses 178 [vR 218, vS 9, vI (v 222 0), vS 9, vI i4, vI i5, vS 9] [] SH v178 Q) (fun i4 i5 v178 h => ?_)) ⟨Or.inl rfl, Or.inr rfl, Or.inl rfl, Or.inr rfl, Or.inl rfl, Or.inl rfl, Or.inr rfl, trivial⟩
      refine T_iload dX11_presses_178 rfl ?_
      refine T_iload_n dX11_presses_180 rfl ?_
      refine U_icmp_ge (tgt := 251) dX11_presses_181 (by decide) (fun hc => ?_) (fun hc => ?_)
      · replace h := h.1 hc
        refine T_aload_n dX11_presses_251 rfl ?_
        refine T_iload dX11_presses_252 rfl ?_
        refine U_callV (as := [vI i4]) (st := []) dX11_presses_254 kX11_turns lX11_399 SH_218 rfl rfl rfl rfl (Nat.le_of_ble_eq_true rfl) (Nat.le_of_ble_eq_true rfl) (by omega) ?_
        refine W_X11_turns (by omega)  h (fun v254 h => ?_)
        show n_T G d 0 0 mX11_presses 257 [vR 218, vS 9, vI (v 222 0), vS 9, vI i4, vI i5, vS 9] [] SH v254 Q
        exact T_vret dX11_presses_257 rfl (hQ _ h)
      · replace h := h.2 hc
        refine T_aload_n dX11_presses_184 rfl ?_
        refine T_getR (r := 240) dX11_presses_185 fX11_80 rfl SH_218 rfl ?_
        refine T_iload dX11_presses_188 rfl ?_
        refine T_aload_n dX11_presses_190 rfl ?_
        refine T_getR (r := 241) dX11_presses_191 fX11_83 rfl SH_218 rfl ?_
        refine T_iload dX11_presses_194 rfl ?_
        refine T_iald dX11_presses_196 SH_241 h.1 ?_
        replace h := h.2
        refine T_iload dX11_presses_197 rfl ?_
        refine n_cut (h (fun (s0 : Int) => n_T G d 0 0 mX11_presses 219 [vR 218, vS 9, vI (v 222 0), vS 9, vI i4, vI i5, vS 9] [vI s0, vI i5, vR 240] SH v178 Q)) ?_ ?_
        · intro s0 h
          refine U_iast dX11_presses_219 SH_240 h.1 (fun v219 ev219 => ?_)
          replace h := h.2 v219 ev219
          refine T_iload dX11_presses_220 rfl ?_
          refine T_aload_n dX11_presses_222 rfl ?_
          refine T_getR (r := 241) dX11_presses_223 fX11_83 rfl SH_218 rfl ?_
          refine T_iload dX11_presses_226 rfl ?_
          refine T_iald dX11_presses_228 SH_241 h.1 ?_
          replace h := h.2
          refine T_iload dX11_presses_229 rfl ?_
          refine U_icmp_ne (tgt := 238) dX11_presses_231 (by decide) (fun hc => ?_) (fun hc => ?_)
          · replace h := h.1 hc
            refine T_iconst dX11_presses_238 (by decide) ?_
            refine U_callS (as := [vI 0]) (st := [vI i4]) dX11_presses_239 kX11_flag lX11_250 rfl rfl (Nat.le_of_ble_eq_true rfl) (Nat.le_of_ble_eq_true rfl) (by omega) ?_
            refine W_X11_flag (by omega)  h (fun r239 h => ?_)
            show n_T G d 0 0 mX11_presses 242 [vR 218, vS 9, vI (v 222 0), vS 9, vI i4, vI i5, vS 9] [vI r239, vI i4] SH v219 Q
            refine U_iadd dX11_presses_242 h.1 ?_
            replace h := h.2
            refine T_istore dX11_presses_243 (by decide) rfl ?_
            refine U_iinc dX11_presses_245 rfl (by decide) rfl h.1 ?_
            replace h := h.2
            refine T_goto (tgt := 178) dX11_presses_248 (by decide) ?_
            exact T_drop h ⟨Or.inl rfl, Or.inr rfl, Or.inl rfl, Or.inr rfl, Or.inl rfl, Or.inl rfl, Or.inr rfl, trivial⟩
          · replace h := h.2 hc
            refine T_iconst dX11_presses_234 (by decide) ?_
            refine T_goto (tgt := 239) dX11_presses_235 (by decide) ?_
            refine U_callS (as := [vI 1]) (st := [vI i4]) dX11_presses_239 kX11_flag lX11_250 rfl rfl (Nat.le_of_ble_eq_true rfl) (Nat.le_of_ble_eq_true rfl) (by omega) ?_
            refine W_X11_flag (by omega)  h (fun r239_1 h => ?_)
            show n_T G d 0 0 mX11_presses 242 [vR 218, vS 9, vI (v 222 0), vS 9, vI i4, vI i5, vS 9] [vI r239_1, vI i4] SH v219 Q
            refine U_iadd dX11_presses_242 h.1 ?_
            replace h := h.2
            refine T_istore dX11_presses_243 (by decide) rfl ?_
            refine U_iinc dX11_presses_245 rfl (by decide) rfl h.1 ?_
            replace h := h.2
            refine T_goto (tgt := 178) dX11_presses_248 (by decide) ?_
            exact T_drop h ⟨Or.inl rfl, Or.inr rfl, Or.inl rfl, Or.inr rfl, Or.inl rfl, Or.inl rfl, Or.inr rfl, trivial⟩
        · intro h
          refine U_icmp_ne (tgt := 207) dX11_presses_199 (by decide) (fun hc => ?_) (fun hc => ?_)
          · replace h := h.1 hc
            refine T_aload_n dX11_presses_207 rfl ?_
            refine T_getR (r := 240) dX11_presses_208 fX11_80 rfl SH_218 rfl ?_
            refine T_aload_n dX11_presses_211 rfl ?_
            refine T_getR (r := 241) dX11_presses_212 fX11_83 rfl SH_218 rfl ?_
            refine T_iload dX11_presses_215 rfl ?_
            refine T_iald dX11_presses_217 SH_241 h.1 ?_
            replace h := h.2
            refine T_iald dX11_presses_218 SH_240 h.1 ?_
            replace h := h.2
            exact T_drop h ⟨Or.inl rfl, Or.inr rfl, Or.inl rfl, Or.inr rfl, Or.inl rfl, Or.inl rfl, Or.inr rfl, trivial⟩
          · replace h := h.2 hc
            refine T_iload dX11_presses_202 rfl ?_
            refine T_goto (tgt := 219) dX11_presses_204 (by decide) ?_
            exact T_drop h ⟨Or.inl rfl, Or.inr rfl, Or.inl rfl, Or.inr rfl, Or.inl rfl, Or.inl rfl, Or.inr rfl, trivial⟩
    · intro h
      refine T_drop (h (fun (i3 : Int) (v29 : VT) => n_T G d 0 0 mX11_presses 29 [vR 218, vI x1, vI (v 222 0), vI i3, vS 9, vS 9, vS 9] [] SH v29 Q) (fun i3 v29 h => ?_)) ⟨Or.inl rfl, Or.inl rfl, Or.inl rfl, Or.inl rfl, Or.inr rfl, Or.inr rfl, Or.inr rfl, trivial⟩
      refine T_iload_n dX11_presses_29 rfl ?_
      refine U_if_eq (tgt := 172) dX11_presses_30 (by decide) (fun hc => ?_) (fun hc => ?_)
      · replace h := h.1 hc
        exact T_drop h ⟨Or.inl rfl, Or.inr rfl, Or.inl rfl, Or.inr rfl, Or.inr rfl, Or.inr rfl, Or.inr rfl, trivial⟩
      · replace h := h.2 hc
        refine T_iconst dX11_presses_33 (by decide) ?_
        refine T_istore_n dX11_presses_34 (by decide) rfl ?_
        refine T_iconst dX11_presses_35 (by decide) ?_
        refine T_istore dX11_presses_36 (by decide) rfl ?_
        refine T_drop (h (fun (i3_1 : Int) (i4_1 : Int) (v38 : VT) => n_T G d 0 0 mX11_presses 38 [vR 218, vI x1, vI (v 222 0), vI i3_1, vI i4_1, vS 9, vS 9] [] SH v38 Q) (fun i3_1 i4_1 v38 h => ?_)) ⟨Or.inl rfl, Or.inl rfl, Or.inl rfl, Or.inl rfl, Or.inl rfl, Or.inr rfl, Or.inr rfl, trivial⟩
        refine T_iload dX11_presses_38 rfl ?_
        refine T_aload_n dX11_presses_40 rfl ?_
        refine T_getR (r := 222) dX11_presses_41 fX11_23 rfl SH_218 rfl ?_
        refine T_iconst dX11_presses_44 (by decide) ?_
        refine T_iald dX11_presses_45 SH_222 (by decide) ?_
        refine U_icmp_ge (tgt := 169) dX11_presses_46 (by decide) (fun hc => ?_) (fun hc => ?_)
        · replace h := h.1 hc
          refine T_goto (tgt := 29) dX11_presses_169 (by decide) ?_
          exact T_drop h ⟨Or.inl rfl, Or.inl rfl, Or.inl rfl, Or.inl rfl, Or.inr rfl, Or.inr rfl, Or.inr rfl, trivial⟩
        · replace h := h.2 hc
          refine T_aload_n dX11_presses_49 rfl ?_
          refine T_getR (r := 225) dX11_presses_50 fX11_32 rfl SH_218 rfl ?_
          refine T_iload dX11_presses_53 rfl ?_
          refine T_iald dX11_presses_55 SH_225 h.1 ?_
          replace h := h.2
          refine T_iload_n dX11_presses_56 rfl ?_
          refine U_icmp_ne (tgt := 163) dX11_presses_57 (by decide) (fun hc => ?_) (fun hc => ?_)
          · replace h := h.1 hc
            refine U_iinc dX11_presses_163 rfl (by decide) rfl h.1 ?_
            replace h := h.2
            refine T_goto (tgt := 38) dX11_presses_166 (by decide) ?_
            exact T_drop h ⟨Or.inl rfl, Or.inl rfl, Or.inl rfl, Or.inl rfl, Or.inl rfl, Or.inr rfl, Or.inr rfl, trivial⟩
          · replace h := h.2 hc
            refine T_aload_n dX11_presses_60 rfl ?_
            refine T_getR (r := 241) dX11_presses_61 fX11_83 rfl SH_218 rfl ?_
            refine T_aload_n dX11_presses_64 rfl ?_
            refine T_iload dX11_presses_65 rfl ?_
            refine U_callV (as := [vI i4_1]) (st := [vR 241]) dX11_presses_67 kX11_low lX11_208 SH_218 rfl rfl rfl rfl (Nat.le_of_ble_eq_true rfl) (Nat.le_of_ble_eq_true rfl) (by omega) ?_
            refine W_X11_low (by omega)  h (fun r67 h => ?_)
            show n_T G d 0 0 mX11_presses 70 [vR 218, vI x1, vI (v 222 0), vI i3_1, vI i4_1, vS 9, vS 9] [vI r67, vR 241] SH v38 Q
            refine T_iald dX11_presses_70 SH_241 h.1 ?_
            replace h := h.2
            refine T_aload_n dX11_presses_71 rfl ?_
            refine T_getR (r := 241) dX11_presses_72 fX11_83 rfl SH_218 rfl ?_
            refine T_aload_n dX11_presses_75 rfl ?_
            refine T_iload dX11_presses_76 rfl ?_
            refine U_callV (as := [vI i4_1]) (st := [vR 241, vI (v38 241 r67.toNat)]) dX11_presses_78 kX11_high lX11_211 SH_218 rfl rfl rfl rfl (Nat.le_of_ble_eq_true rfl) (Nat.le_of_ble_eq_true rfl) (by omega) ?_
            refine W_X11_high (by omega)  h (fun r78 h => ?_)
            show n_T G d 0 0 mX11_presses 81 [vR 218, vI x1, vI (v 222 0), vI i3_1, vI i4_1, vS 9, vS 9] [vI r78, vR 241, vI (v38 241 r67.toNat)] SH v38 Q
            refine T_iald dX11_presses_81 SH_241 h.1 ?_
            replace h := h.2
            refine U_icmp_eq (tgt := 163) dX11_presses_82 (by decide) (fun hc => ?_) (fun hc => ?_)
            · replace h := h.1 hc
              refine U_iinc dX11_presses_163 rfl (by decide) rfl h.1 ?_
              replace h := h.2
              refine T_goto (tgt := 38) dX11_presses_166 (by decide) ?_
              exact T_drop h ⟨Or.inl rfl, Or.inl rfl, Or.inl rfl, Or.inl rfl, Or.inl rfl, Or.inr rfl, Or.inr rfl, trivial⟩
            · replace h := h.2 hc
              refine T_aload_n dX11_presses_85 rfl ?_
              refine T_getR (r := 241) dX11_presses_86 fX11_83 rfl SH_218 rfl ?_
              refine T_aload_n dX11_presses_89 rfl ?_
              refine T_iload dX11_presses_90 rfl ?_
              refine U_callV (as := [vI i4_1]) (st := [vR 241]) dX11_presses_92 kX11_low lX11_208 SH_218 rfl rfl rfl rfl (Nat.le_of_ble_eq_true rfl) (Nat.le_of_ble_eq_true rfl) (by omega) ?_
              refine W_X11_low (by omega)  h (fun r92 h => ?_)
              show n_T G d 0 0 mX11_presses 95 [vR 218, vI x1, vI (v 222 0), vI i3_1, vI i4_1, vS 9, vS 9] [vI r92, vR 241] SH v38 Q
              refine T_iald dX11_presses_95 SH_241 h.1 ?_
              replace h := h.2
              refine U_istore dX11_presses_96 (by decide) rfl (fun l5 el5 => ?_)
              replace h := h l5 el5
              refine T_aload_n dX11_presses_98 rfl ?_
              refine T_getR (r := 241) dX11_presses_99 fX11_83 rfl SH_218 rfl ?_
              refine T_aload_n dX11_presses_102 rfl ?_
              refine T_iload dX11_presses_103 rfl ?_
              refine U_callV (as := [vI i4_1]) (st := [vR 241]) dX11_presses_105 kX11_high lX11_211 SH_218 rfl rfl rfl rfl (Nat.le_of_ble_eq_true rfl) (Nat.le_of_ble_eq_true rfl) (by omega) ?_
              refine W_X11_high (by omega)  h (fun r105 h => ?_)
              show n_T G d 0 0 mX11_presses 108 [vR 218, vI x1, vI (v 222 0), vI i3_1, vI i4_1, vI l5, vS 9] [vI r105, vR 241] SH v38 Q
              refine T_iald dX11_presses_108 SH_241 h.1 ?_
              replace h := h.2
              refine U_istore dX11_presses_109 (by decide) rfl (fun l6 el6 => ?_)
              replace h := h l6 el6
              refine T_aload_n dX11_presses_111 rfl ?_
              refine T_getR (r := 241) dX11_presses_112 fX11_83 rfl SH_218 rfl ?_
              refine T_aload_n dX11_presses_115 rfl ?_
              refine T_iload dX11_presses_116 rfl ?_
              refine U_callV (as := [vI i4_1]) (st := [vR 241]) dX11_presses_118 kX11_low lX11_208 SH_218 rfl rfl rfl rfl (Nat.le_of_ble_eq_true rfl) (Nat.le_of_ble_eq_true rfl) (by omega) ?_
              refine W_X11_low (by omega)  h (fun r118 h => ?_)
              show n_T G d 0 0 mX11_presses 121 [vR 218, vI x1, vI (v 222 0), vI i3_1, vI i4_1, vI l5, vI l6] [vI r118, vR 241] SH v38 Q
              refine T_iload dX11_presses_121 rfl ?_
              refine T_iload dX11_presses_123 rfl ?_
              refine n_cut (h (fun (s0_1 : Int) => n_T G d 0 0 mX11_presses 135 [vR 218, vI x1, vI (v 222 0), vS 9, vI i4_1, vI l5, vI l6] [vI s0_1, vI r118, vR 241] SH v38 Q)) ?_ ?_
              · intro s0_1 h
                refine U_iast dX11_presses_135 SH_241 h.1 (fun v135 ev135 => ?_)
                replace h := h.2 v135 ev135
                refine T_aload_n dX11_presses_136 rfl ?_
                refine T_getR (r := 241) dX11_presses_137 fX11_83 rfl SH_218 rfl ?_
                refine T_aload_n dX11_presses_140 rfl ?_
                refine T_iload dX11_presses_141 rfl ?_
                refine U_callV (as := [vI i4_1]) (st := [vR 241]) dX11_presses_143 kX11_high lX11_211 SH_218 rfl rfl rfl rfl (Nat.le_of_ble_eq_true rfl) (Nat.le_of_ble_eq_true rfl) (by omega) ?_
                refine W_X11_high (by omega)  h (fun r143 h => ?_)
                show n_T G d 0 0 mX11_presses 146 [vR 218, vI x1, vI (v 222 0), vS 9, vI i4_1, vI l5, vI l6] [vI r143, vR 241] SH v135 Q
                refine T_iload dX11_presses_146 rfl ?_
                refine T_iload dX11_presses_148 rfl ?_
                refine U_icmp_ge (tgt := 158) dX11_presses_150 (by decide) (fun hc => ?_) (fun hc => ?_)
                · replace h := h.1 hc
                  refine T_iload dX11_presses_158 rfl ?_
                  refine U_iast dX11_presses_160 SH_241 h.1 (fun v160 ev160 => ?_)
                  replace h := h.2 v160 ev160
                  refine T_iconst dX11_presses_161 (by decide) ?_
                  refine T_istore_n dX11_presses_162 (by decide) rfl ?_
                  refine U_iinc dX11_presses_163 rfl (by decide) rfl h.1 ?_
                  replace h := h.2
                  refine T_goto (tgt := 38) dX11_presses_166 (by decide) ?_
                  exact T_drop h ⟨Or.inl rfl, Or.inl rfl, Or.inl rfl, Or.inl rfl, Or.inl rfl, Or.inr rfl, Or.inr rfl, trivial⟩
                · replace h := h.2 hc
                  refine T_iload dX11_presses_153 rfl ?_
                  refine T_goto (tgt := 160) dX11_presses_155 (by decide) ?_
                  refine U_iast dX11_presses_160 SH_241 h.1 (fun v160_1 ev160_1 => ?_)
                  replace h := h.2 v160_1 ev160_1
                  refine T_iconst dX11_presses_161 (by decide) ?_
                  refine T_istore_n dX11_presses_162 (by decide) rfl ?_
                  refine U_iinc dX11_presses_163 rfl (by decide) rfl h.1 ?_
                  replace h := h.2
                  refine T_goto (tgt := 38) dX11_presses_166 (by decide) ?_
                  exact T_drop h ⟨Or.inl rfl, Or.inl rfl, Or.inl rfl, Or.inl rfl, Or.inl rfl, Or.inr rfl, Or.inr rfl, trivial⟩
              · intro h
                refine U_icmp_ge (tgt := 133) dX11_presses_125 (by decide) (fun hc => ?_) (fun hc => ?_)
                · replace h := h.1 hc
                  refine T_iload dX11_presses_133 rfl ?_
                  exact T_drop h ⟨Or.inl rfl, Or.inl rfl, Or.inl rfl, Or.inr rfl, Or.inl rfl, Or.inl rfl, Or.inl rfl, trivial⟩
                · replace h := h.2 hc
                  refine T_iload dX11_presses_128 rfl ?_
                  refine T_goto (tgt := 135) dX11_presses_130 (by decide) ?_
                  exact T_drop h ⟨Or.inl rfl, Or.inl rfl, Or.inl rfl, Or.inr rfl, Or.inl rfl, Or.inl rfl, Or.inl rfl, trivial⟩
  · intro h
    refine T_drop (h (fun (i3_2 : Int) (v9 : VT) => n_T G d 0 0 mX11_presses 9 [vR 218, vI x1, vI (v 222 0), vI i3_2, vS 9, vS 9, vS 9] [] SH v9 Q) (fun i3_2 v9 h => ?_)) ⟨Or.inl rfl, Or.inl rfl, Or.inl rfl, Or.inl rfl, Or.inr rfl, Or.inr rfl, Or.inr rfl, trivial⟩
    refine T_iload_n dX11_presses_9 rfl ?_
    refine T_iload_n dX11_presses_10 rfl ?_
    refine U_icmp_ge (tgt := 27) dX11_presses_11 (by decide) (fun hc => ?_) (fun hc => ?_)
    · replace h := h.1 hc
      exact T_drop h ⟨Or.inl rfl, Or.inl rfl, Or.inl rfl, Or.inr rfl, Or.inr rfl, Or.inr rfl, Or.inr rfl, trivial⟩
    · replace h := h.2 hc
      refine T_aload_n dX11_presses_14 rfl ?_
      refine T_getR (r := 241) dX11_presses_15 fX11_83 rfl SH_218 rfl ?_
      refine T_iload_n dX11_presses_18 rfl ?_
      refine T_iload_n dX11_presses_19 rfl ?_
      refine U_iast dX11_presses_20 SH_241 h.1 (fun v20 ev20 => ?_)
      replace h := h.2 v20 ev20
      refine U_iinc dX11_presses_21 rfl (by decide) rfl h.1 ?_
      replace h := h.2
      refine T_goto (tgt := 9) dX11_presses_24 (by decide) ?_
      exact T_drop h ⟨Or.inl rfl, Or.inl rfl, Or.inl rfl, Or.inl rfl, Or.inr rfl, Or.inr rfl, Or.inr rfl, trivial⟩

theorem W_X11_press {G : GT} {d : Nat} (hd : 5 ≤ d) {x1 : Int}   {v : VT} {q : Int → VT → Prop} {Q : Option Vl → List Sh → VT → Prop} (h : P_X11_press x1 v q) (hQ : ∀ r w, q r w → Q (some (vI r)) SH w) : n_T G d 0 0 mX11_press 0 [vR 218, vI x1] [] SH v Q := by
  unfold P_X11_press at h
  refine T_aload_n dX11_press_0 rfl ?_
  refine U_callV (as := []) (st := []) dX11_press_1 kX11_lays lX11_244 SH_218 rfl rfl rfl rfl (Nat.le_of_ble_eq_true rfl) (Nat.le_of_ble_eq_true rfl) (by omega) ?_
  refine W_X11_lays (by omega)  h (fun v1 h => ?_)
  show n_T G d 0 0 mX11_press 4 [vR 218, vI x1] [] SH v1 Q
  refine T_iload_n dX11_press_4 rfl ?_
  refine T_i2l dX11_press_5 ?_
  refine T_lconst dX11_press_6 ?_
  refine T_aload_n dX11_press_7 rfl ?_
  refine T_getI dX11_press_8 fX11_222 rfl SH_218 ?_
  refine T_iconst dX11_press_11 (by decide) ?_
  refine U_isub dX11_press_12 h.1 ?_
  replace h := h.2
  refine T_i2l dX11_press_13 ?_
  refine U_callS (as := [vJ x1, vJ 0, vJ ((v1 218 18) - 1)]) (st := []) dX11_press_14 kX11_isIn lX11_109 rfl rfl (Nat.le_of_ble_eq_true rfl) (Nat.le_of_ble_eq_true rfl) (by omega) ?_
  refine W_X11_isIn (by omega)  h (fun r14 h => ?_)
  show n_T G d 0 0 mX11_press 17 [vR 218, vI x1] [vI r14] SH v1 Q
  refine U_if_ne (tgt := 26) dX11_press_17 (by decide) (fun hc => ?_) (fun hc => ?_)
  · replace h := h.1 hc
    refine T_aload_n dX11_press_26 rfl ?_
    refine U_callV (as := []) (st := []) dX11_press_27 kX11_keeps lX11_379 SH_218 rfl rfl rfl rfl (Nat.le_of_ble_eq_true rfl) (Nat.le_of_ble_eq_true rfl) (by omega) ?_
    refine W_X11_keeps (by omega)  h (fun v27 h => ?_)
    show n_T G d 0 0 mX11_press 30 [vR 218, vI x1] [] SH v27 Q
    refine T_aload_n dX11_press_30 rfl ?_
    refine T_iload_n dX11_press_31 rfl ?_
    refine U_callV (as := [vI x1]) (st := []) dX11_press_32 kX11_presses lX11_402 SH_218 rfl rfl rfl rfl (Nat.le_of_ble_eq_true rfl) (Nat.le_of_ble_eq_true rfl) (by omega) ?_
    refine W_X11_presses (by omega)  h (fun v32 h => ?_)
    show n_T G d 0 0 mX11_press 35 [vR 218, vI x1] [] SH v32 Q
    refine T_aload_n dX11_press_35 rfl ?_
    refine T_getR (r := 222) dX11_press_36 fX11_23 rfl SH_218 rfl ?_
    refine T_iconst dX11_press_39 (by decide) ?_
    refine T_iald dX11_press_40 SH_222 (by decide) ?_
    exact T_iret dX11_press_41 rfl (hQ _ _ h)
  · replace h := h.2 hc
    refine T_aload_n dX11_press_20 rfl ?_
    refine T_iconst dX11_press_21 (by decide) ?_
    refine U_callV (as := [vI 3]) (st := []) dX11_press_22 kX11_refuses lX11_99 SH_218 rfl rfl rfl rfl (Nat.le_of_ble_eq_true rfl) (Nat.le_of_ble_eq_true rfl) (by omega) ?_
    refine W_X11_refuses (by omega)  h (fun r22 v22 h => ?_)
    show n_T G d 0 0 mX11_press 25 [vR 218, vI x1] [vI r22] SH v22 Q
    exact T_iret dX11_press_25 rfl (hQ _ _ h)

theorem W_X11_linesIn {G : GT} {d : Nat} (hd : 2 ≤ d) {x1 : Int}   {v : VT} {q : Int → Prop} {Q : Option Vl → List Sh → VT → Prop} (h : P_X11_linesIn x1 v q) (hQ : ∀ r, q r → Q (some (vI r)) SH v) : n_T G d 0 0 mX11_linesIn 0 [vR 218, vI x1, vS 9, vS 9] [] SH v Q := by
  unfold P_X11_linesIn at h
  refine T_iconst dX11_linesIn_0 (by decide) ?_
  refine T_istore_n dX11_linesIn_1 (by decide) rfl ?_
  refine T_iconst dX11_linesIn_2 (by decide) ?_
  refine T_istore_n dX11_linesIn_3 (by decide) rfl ?_
  refine T_drop (h (fun (i2 : Int) (i3 : Int) => n_T G d 0 0 mX11_linesIn 4 [vR 218, vI x1, vI i2, vI i3] [] SH v Q) (fun i2 i3 h => ?_)) ⟨Or.inl rfl, Or.inl rfl, Or.inl rfl, Or.inl rfl, trivial⟩
  refine T_iload_n dX11_linesIn_4 rfl ?_
  refine T_aload_n dX11_linesIn_5 rfl ?_
  refine T_getR (r := 222) dX11_linesIn_6 fX11_23 rfl SH_218 rfl ?_
  refine T_iconst dX11_linesIn_9 (by decide) ?_
  refine T_iald dX11_linesIn_10 SH_222 (by decide) ?_
  refine U_icmp_ge (tgt := 55) dX11_linesIn_11 (by decide) (fun hc => ?_) (fun hc => ?_)
  · replace h := h.1 hc
    refine T_iload_n dX11_linesIn_55 rfl ?_
    exact T_iret dX11_linesIn_56 rfl (hQ _ h)
  · replace h := h.2 hc
    refine T_iload_n dX11_linesIn_14 rfl ?_
    refine T_iload_n dX11_linesIn_15 rfl ?_
    refine T_aload_n dX11_linesIn_16 rfl ?_
    refine T_iload_n dX11_linesIn_17 rfl ?_
    refine U_callV (as := [vI i3]) (st := [vI x1, vI i2]) dX11_linesIn_18 kX11_low lX11_208 SH_218 rfl rfl rfl rfl (Nat.le_of_ble_eq_true rfl) (Nat.le_of_ble_eq_true rfl) (by omega) ?_
    refine W_X11_low (by omega)  h (fun r18 h => ?_)
    show n_T G d 0 0 mX11_linesIn 21 [vR 218, vI x1, vI i2, vI i3] [vI r18, vI x1, vI i2] SH v Q
    refine U_callS (as := [vI x1, vI r18]) (st := [vI i2]) dX11_linesIn_21 kX11_isOf lX11_281 rfl rfl (Nat.le_of_ble_eq_true rfl) (Nat.le_of_ble_eq_true rfl) (by omega) ?_
    refine W_X11_isOf (by omega)  h (fun r21 h => ?_)
    show n_T G d 0 0 mX11_linesIn 24 [vR 218, vI x1, vI i2, vI i3] [vI r21, vI i2] SH v Q
    refine U_if_eq (tgt := 43) dX11_linesIn_24 (by decide) (fun hc => ?_) (fun hc => ?_)
    · replace h := h.1 hc
      refine T_iconst dX11_linesIn_43 (by decide) ?_
      refine U_callS (as := [vI 0]) (st := [vI i2]) dX11_linesIn_44 kX11_flag lX11_250 rfl rfl (Nat.le_of_ble_eq_true rfl) (Nat.le_of_ble_eq_true rfl) (by omega) ?_
      refine W_X11_flag (by omega)  h (fun r44 h => ?_)
      show n_T G d 0 0 mX11_linesIn 47 [vR 218, vI x1, vI i2, vI i3] [vI r44, vI i2] SH v Q
      refine U_iadd dX11_linesIn_47 h.1 ?_
      replace h := h.2
      refine T_istore_n dX11_linesIn_48 (by decide) rfl ?_
      refine U_iinc dX11_linesIn_49 rfl (by decide) rfl h.1 ?_
      replace h := h.2
      refine T_goto (tgt := 4) dX11_linesIn_52 (by decide) ?_
      exact T_drop h ⟨Or.inl rfl, Or.inl rfl, Or.inl rfl, Or.inl rfl, trivial⟩
    · replace h := h.2 hc
      refine T_iload_n dX11_linesIn_27 rfl ?_
      refine T_aload_n dX11_linesIn_28 rfl ?_
      refine T_iload_n dX11_linesIn_29 rfl ?_
      refine U_callV (as := [vI i3]) (st := [vI x1, vI i2]) dX11_linesIn_30 kX11_high lX11_211 SH_218 rfl rfl rfl rfl (Nat.le_of_ble_eq_true rfl) (Nat.le_of_ble_eq_true rfl) (by omega) ?_
      refine W_X11_high (by omega)  h (fun r30 h => ?_)
      show n_T G d 0 0 mX11_linesIn 33 [vR 218, vI x1, vI i2, vI i3] [vI r30, vI x1, vI i2] SH v Q
      refine U_callS (as := [vI x1, vI r30]) (st := [vI i2]) dX11_linesIn_33 kX11_isOf lX11_281 rfl rfl (Nat.le_of_ble_eq_true rfl) (Nat.le_of_ble_eq_true rfl) (by omega) ?_
      refine W_X11_isOf (by omega)  h (fun r33 h => ?_)
      show n_T G d 0 0 mX11_linesIn 36 [vR 218, vI x1, vI i2, vI i3] [vI r33, vI i2] SH v Q
      refine U_if_eq (tgt := 43) dX11_linesIn_36 (by decide) (fun hc => ?_) (fun hc => ?_)
      · replace h := h.1 hc
        refine T_iconst dX11_linesIn_43 (by decide) ?_
        refine U_callS (as := [vI 0]) (st := [vI i2]) dX11_linesIn_44 kX11_flag lX11_250 rfl rfl (Nat.le_of_ble_eq_true rfl) (Nat.le_of_ble_eq_true rfl) (by omega) ?_
        refine W_X11_flag (by omega)  h (fun r44_1 h => ?_)
        show n_T G d 0 0 mX11_linesIn 47 [vR 218, vI x1, vI i2, vI i3] [vI r44_1, vI i2] SH v Q
        refine U_iadd dX11_linesIn_47 h.1 ?_
        replace h := h.2
        refine T_istore_n dX11_linesIn_48 (by decide) rfl ?_
        refine U_iinc dX11_linesIn_49 rfl (by decide) rfl h.1 ?_
        replace h := h.2
        refine T_goto (tgt := 4) dX11_linesIn_52 (by decide) ?_
        exact T_drop h ⟨Or.inl rfl, Or.inl rfl, Or.inl rfl, Or.inl rfl, trivial⟩
      · replace h := h.2 hc
        refine T_iconst dX11_linesIn_39 (by decide) ?_
        refine T_goto (tgt := 44) dX11_linesIn_40 (by decide) ?_
        refine U_callS (as := [vI 1]) (st := [vI i2]) dX11_linesIn_44 kX11_flag lX11_250 rfl rfl (Nat.le_of_ble_eq_true rfl) (Nat.le_of_ble_eq_true rfl) (by omega) ?_
        refine W_X11_flag (by omega)  h (fun r44_2 h => ?_)
        show n_T G d 0 0 mX11_linesIn 47 [vR 218, vI x1, vI i2, vI i3] [vI r44_2, vI i2] SH v Q
        refine U_iadd dX11_linesIn_47 h.1 ?_
        replace h := h.2
        refine T_istore_n dX11_linesIn_48 (by decide) rfl ?_
        refine U_iinc dX11_linesIn_49 rfl (by decide) rfl h.1 ?_
        replace h := h.2
        refine T_goto (tgt := 4) dX11_linesIn_52 (by decide) ?_
        exact T_drop h ⟨Or.inl rfl, Or.inl rfl, Or.inl rfl, Or.inl rfl, trivial⟩

theorem W_X11_areApart {G : GT} {d : Nat} (hd : 2 ≤ d) {x1 : Int} {x2 : Int}   {v : VT} {q : Int → Prop} {Q : Option Vl → List Sh → VT → Prop} (h : P_X11_areApart x1 x2 v q) (hQ : ∀ r, q r → Q (some (vI r)) SH v) : n_T G d 0 0 mX11_areApart 0 [vR 218, vI x1, vI x2, vS 9] [] SH v Q := by
  unfold P_X11_areApart at h
  refine T_iconst dX11_areApart_0 (by decide) ?_
  refine T_istore_n dX11_areApart_1 (by decide) rfl ?_
  refine T_drop (h (fun (i3 : Int) => n_T G d 0 0 mX11_areApart 2 [vR 218, vI x1, vI x2, vI i3] [] SH v Q) (fun i3 h => ?_)) ⟨Or.inl rfl, Or.inl rfl, Or.inl rfl, Or.inl rfl, trivial⟩
  refine T_iload_n dX11_areApart_2 rfl ?_
  refine T_aload_n dX11_areApart_3 rfl ?_
  refine T_getR (r := 222) dX11_areApart_4 fX11_23 rfl SH_218 rfl ?_
  refine T_iconst dX11_areApart_7 (by decide) ?_
  refine T_iald dX11_areApart_8 SH_222 (by decide) ?_
  refine U_icmp_ge (tgt := 68) dX11_areApart_9 (by decide) (fun hc => ?_) (fun hc => ?_)
  · replace h := h.1 hc
    refine T_iconst dX11_areApart_68 (by decide) ?_
    exact T_zret dX11_areApart_69 rfl (by decide) (hQ _ h)
  · replace h := h.2 hc
    refine T_iload_n dX11_areApart_12 rfl ?_
    refine T_aload_n dX11_areApart_13 rfl ?_
    refine T_iload_n dX11_areApart_14 rfl ?_
    refine U_callV (as := [vI i3]) (st := [vI x1]) dX11_areApart_15 kX11_low lX11_208 SH_218 rfl rfl rfl rfl (Nat.le_of_ble_eq_true rfl) (Nat.le_of_ble_eq_true rfl) (by omega) ?_
    refine W_X11_low (by omega)  h (fun r15 h => ?_)
    show n_T G d 0 0 mX11_areApart 18 [vR 218, vI x1, vI x2, vI i3] [vI r15, vI x1] SH v Q
    refine U_callS (as := [vI x1, vI r15]) (st := []) dX11_areApart_18 kX11_isOf lX11_281 rfl rfl (Nat.le_of_ble_eq_true rfl) (Nat.le_of_ble_eq_true rfl) (by omega) ?_
    refine W_X11_isOf (by omega)  h (fun r18 h => ?_)
    show n_T G d 0 0 mX11_areApart 21 [vR 218, vI x1, vI x2, vI i3] [vI r18] SH v Q
    refine n_cut (h (n_T G d 0 0 mX11_areApart 36 [vR 218, vI x1, vI x2, vI i3] [] SH v Q)) ?_ ?_
    · intro h
      refine T_iload_n dX11_areApart_36 rfl ?_
      refine T_aload_n dX11_areApart_37 rfl ?_
      refine T_iload_n dX11_areApart_38 rfl ?_
      refine U_callV (as := [vI i3]) (st := [vI x2]) dX11_areApart_39 kX11_low lX11_208 SH_218 rfl rfl rfl rfl (Nat.le_of_ble_eq_true rfl) (Nat.le_of_ble_eq_true rfl) (by omega) ?_
      refine W_X11_low (by omega)  h (fun r39 h => ?_)
      show n_T G d 0 0 mX11_areApart 42 [vR 218, vI x1, vI x2, vI i3] [vI r39, vI x2] SH v Q
      refine U_callS (as := [vI x2, vI r39]) (st := []) dX11_areApart_42 kX11_isOf lX11_281 rfl rfl (Nat.le_of_ble_eq_true rfl) (Nat.le_of_ble_eq_true rfl) (by omega) ?_
      refine W_X11_isOf (by omega)  h (fun r42 h => ?_)
      show n_T G d 0 0 mX11_areApart 45 [vR 218, vI x1, vI x2, vI i3] [vI r42] SH v Q
      refine U_if_eq (tgt := 62) dX11_areApart_45 (by decide) (fun hc => ?_) (fun hc => ?_)
      · replace h := h.1 hc
        refine U_iinc dX11_areApart_62 rfl (by decide) rfl h.1 ?_
        replace h := h.2
        refine T_goto (tgt := 2) dX11_areApart_65 (by decide) ?_
        exact T_drop h ⟨Or.inl rfl, Or.inl rfl, Or.inl rfl, Or.inl rfl, trivial⟩
      · replace h := h.2 hc
        refine T_iload_n dX11_areApart_48 rfl ?_
        refine T_aload_n dX11_areApart_49 rfl ?_
        refine T_iload_n dX11_areApart_50 rfl ?_
        refine U_callV (as := [vI i3]) (st := [vI x1]) dX11_areApart_51 kX11_high lX11_211 SH_218 rfl rfl rfl rfl (Nat.le_of_ble_eq_true rfl) (Nat.le_of_ble_eq_true rfl) (by omega) ?_
        refine W_X11_high (by omega)  h (fun r51 h => ?_)
        show n_T G d 0 0 mX11_areApart 54 [vR 218, vI x1, vI x2, vI i3] [vI r51, vI x1] SH v Q
        refine U_callS (as := [vI x1, vI r51]) (st := []) dX11_areApart_54 kX11_isOf lX11_281 rfl rfl (Nat.le_of_ble_eq_true rfl) (Nat.le_of_ble_eq_true rfl) (by omega) ?_
        refine W_X11_isOf (by omega)  h (fun r54 h => ?_)
        show n_T G d 0 0 mX11_areApart 57 [vR 218, vI x1, vI x2, vI i3] [vI r54] SH v Q
        refine U_if_eq (tgt := 62) dX11_areApart_57 (by decide) (fun hc => ?_) (fun hc => ?_)
        · replace h := h.1 hc
          refine U_iinc dX11_areApart_62 rfl (by decide) rfl h.1 ?_
          replace h := h.2
          refine T_goto (tgt := 2) dX11_areApart_65 (by decide) ?_
          exact T_drop h ⟨Or.inl rfl, Or.inl rfl, Or.inl rfl, Or.inl rfl, trivial⟩
        · replace h := h.2 hc
          refine T_iconst dX11_areApart_60 (by decide) ?_
          exact T_zret dX11_areApart_61 rfl (by decide) (hQ _ h)
    · intro h
      refine U_if_eq (tgt := 36) dX11_areApart_21 (by decide) (fun hc => ?_) (fun hc => ?_)
      · replace h := h.1 hc
        exact T_drop h ⟨Or.inl rfl, Or.inl rfl, Or.inl rfl, Or.inl rfl, trivial⟩
      · replace h := h.2 hc
        refine T_iload_n dX11_areApart_24 rfl ?_
        refine T_aload_n dX11_areApart_25 rfl ?_
        refine T_iload_n dX11_areApart_26 rfl ?_
        refine U_callV (as := [vI i3]) (st := [vI x2]) dX11_areApart_27 kX11_high lX11_211 SH_218 rfl rfl rfl rfl (Nat.le_of_ble_eq_true rfl) (Nat.le_of_ble_eq_true rfl) (by omega) ?_
        refine W_X11_high (by omega)  h (fun r27 h => ?_)
        show n_T G d 0 0 mX11_areApart 30 [vR 218, vI x1, vI x2, vI i3] [vI r27, vI x2] SH v Q
        refine U_callS (as := [vI x2, vI r27]) (st := []) dX11_areApart_30 kX11_isOf lX11_281 rfl rfl (Nat.le_of_ble_eq_true rfl) (Nat.le_of_ble_eq_true rfl) (by omega) ?_
        refine W_X11_isOf (by omega)  h (fun r30 h => ?_)
        show n_T G d 0 0 mX11_areApart 33 [vR 218, vI x1, vI x2, vI i3] [vI r30] SH v Q
        refine U_if_ne (tgt := 60) dX11_areApart_33 (by decide) (fun hc => ?_) (fun hc => ?_)
        · replace h := h.1 hc
          refine T_iconst dX11_areApart_60 (by decide) ?_
          exact T_zret dX11_areApart_61 rfl (by decide) (hQ _ h)
        · replace h := h.2 hc
          exact T_drop h ⟨Or.inl rfl, Or.inl rfl, Or.inl rfl, Or.inl rfl, trivial⟩

theorem W_X11_canOpen {G : GT} {d : Nat} (hd : 3 ≤ d) {x1 : Int} {x2 : Int}   {v : VT} {q : Int → Prop} {Q : Option Vl → List Sh → VT → Prop} (h : P_X11_canOpen x1 x2 v q) (hQ : ∀ r, q r → Q (some (vI r)) SH v) : n_T G d 0 0 mX11_canOpen 0 [vR 218, vI x1, vI x2, vS 9] [] SH v Q := by
  unfold P_X11_canOpen at h
  refine T_iload_n dX11_canOpen_0 rfl ?_
  refine T_iload_n dX11_canOpen_1 rfl ?_
  refine T_iand dX11_canOpen_2 ?_
  refine T_istore_n dX11_canOpen_3 (by decide) rfl ?_
  refine T_iload_n dX11_canOpen_4 rfl ?_
  refine U_if_lt (tgt := 43) dX11_canOpen_5 (by decide) (fun hc => ?_) (fun hc => ?_)
  · replace h := h.1 hc
    refine T_iconst dX11_canOpen_43 (by decide) ?_
    exact T_zret dX11_canOpen_44 rfl (by decide) (hQ _ h)
  · replace h := h.2 hc
    refine T_iload_n dX11_canOpen_8 rfl ?_
    refine U_if_lt (tgt := 43) dX11_canOpen_9 (by decide) (fun hc => ?_) (fun hc => ?_)
    · replace h := h.1 hc
      refine T_iconst dX11_canOpen_43 (by decide) ?_
      exact T_zret dX11_canOpen_44 rfl (by decide) (hQ _ h)
    · replace h := h.2 hc
      refine T_iload_n dX11_canOpen_12 rfl ?_
      refine T_iload_n dX11_canOpen_13 rfl ?_
      refine T_ior dX11_canOpen_14 ?_
      refine T_aload_n dX11_canOpen_15 rfl ?_
      refine U_callV (as := []) (st := [vI (i_or x1 x2)]) dX11_canOpen_16 kX11_all lX11_317 SH_218 rfl rfl rfl rfl (Nat.le_of_ble_eq_true rfl) (Nat.le_of_ble_eq_true rfl) (by omega) ?_
      refine W_X11_all (by omega)  h (fun r16 h => ?_)
      show n_T G d 0 0 mX11_canOpen 19 [vR 218, vI x1, vI x2, vI (i_and x1 x2)] [vI r16, vI (i_or x1 x2)] SH v Q
      refine U_icmp_ne (tgt := 43) dX11_canOpen_19 (by decide) (fun hc => ?_) (fun hc => ?_)
      · replace h := h.1 hc
        refine T_iconst dX11_canOpen_43 (by decide) ?_
        exact T_zret dX11_canOpen_44 rfl (by decide) (hQ _ h)
      · replace h := h.2 hc
        refine T_iload_n dX11_canOpen_22 rfl ?_
        refine U_if_eq (tgt := 43) dX11_canOpen_23 (by decide) (fun hc => ?_) (fun hc => ?_)
        · replace h := h.1 hc
          refine T_iconst dX11_canOpen_43 (by decide) ?_
          exact T_zret dX11_canOpen_44 rfl (by decide) (hQ _ h)
        · replace h := h.2 hc
          refine T_aload_n dX11_canOpen_26 rfl ?_
          refine T_iload_n dX11_canOpen_27 rfl ?_
          refine T_iload_n dX11_canOpen_28 rfl ?_
          refine T_iconst dX11_canOpen_29 (by decide) ?_
          refine T_ixor dX11_canOpen_30 ?_
          refine T_iand dX11_canOpen_31 ?_
          refine T_iload_n dX11_canOpen_32 rfl ?_
          refine T_iload_n dX11_canOpen_33 rfl ?_
          refine T_iconst dX11_canOpen_34 (by decide) ?_
          refine T_ixor dX11_canOpen_35 ?_
          refine T_iand dX11_canOpen_36 ?_
          refine U_callV (as := [vI (i_and x1 (i_xor x2 (-1))), vI (i_and x2 (i_xor x1 (-1)))]) (st := []) dX11_canOpen_37 kX11_areApart lX11_405 SH_218 rfl rfl rfl rfl (Nat.le_of_ble_eq_true rfl) (Nat.le_of_ble_eq_true rfl) (by omega) ?_
          refine W_X11_areApart (by omega)  h (fun r37 h => ?_)
          show n_T G d 0 0 mX11_canOpen 40 [vR 218, vI x1, vI x2, vI (i_and x1 x2)] [vI r37] SH v Q
          refine U_if_ne (tgt := 45) dX11_canOpen_40 (by decide) (fun hc => ?_) (fun hc => ?_)
          · replace h := h.1 hc
            refine T_aload_n dX11_canOpen_45 rfl ?_
            refine T_getR (r := 222) dX11_canOpen_46 fX11_23 rfl SH_218 rfl ?_
            refine T_iconst dX11_canOpen_49 (by decide) ?_
            refine T_iald dX11_canOpen_50 SH_222 (by decide) ?_
            refine T_iload_n dX11_canOpen_51 rfl ?_
            refine U_callS (as := [vI (i_and x1 x2)]) (st := [vI (v 222 0)]) dX11_canOpen_52 kX11_count lX11_299 rfl rfl (Nat.le_of_ble_eq_true rfl) (Nat.le_of_ble_eq_true rfl) (by omega) ?_
            refine W_X11_count (by omega)  h (fun r52 h => ?_)
            show n_T G d 0 0 mX11_canOpen 55 [vR 218, vI x1, vI x2, vI (i_and x1 x2)] [vI r52, vI (v 222 0)] SH v Q
            refine U_iadd dX11_canOpen_55 h.1 ?_
            replace h := h.2
            refine T_bipush dX11_canOpen_56 (by decide) ?_
            refine U_icmp_gt (tgt := 87) dX11_canOpen_58 (by decide) (fun hc => ?_) (fun hc => ?_)
            · replace h := h.1 hc
              refine T_iconst dX11_canOpen_87 (by decide) ?_
              exact T_zret dX11_canOpen_88 rfl (by decide) (hQ _ h)
            · replace h := h.2 hc
              refine T_aload_n dX11_canOpen_61 rfl ?_
              refine T_getR (r := 222) dX11_canOpen_62 fX11_23 rfl SH_218 rfl ?_
              refine T_iconst dX11_canOpen_65 (by decide) ?_
              refine T_iald dX11_canOpen_66 SH_222 (by decide) ?_
              refine T_aload_n dX11_canOpen_67 rfl ?_
              refine T_iload_n dX11_canOpen_68 rfl ?_
              refine U_callV (as := [vI (i_and x1 x2)]) (st := [vI (v 222 1)]) dX11_canOpen_69 kX11_linesIn lX11_408 SH_218 rfl rfl rfl rfl (Nat.le_of_ble_eq_true rfl) (Nat.le_of_ble_eq_true rfl) (by omega) ?_
              refine W_X11_linesIn (by omega)  h (fun r69 h => ?_)
              show n_T G d 0 0 mX11_canOpen 72 [vR 218, vI x1, vI x2, vI (i_and x1 x2)] [vI r69, vI (v 222 1)] SH v Q
              refine U_iadd dX11_canOpen_72 h.1 ?_
              replace h := h.2
              refine T_iload_n dX11_canOpen_73 rfl ?_
              refine U_callS (as := [vI (i_and x1 x2)]) (st := [vI ((v 222 1) + r69)]) dX11_canOpen_74 kX11_count lX11_299 rfl rfl (Nat.le_of_ble_eq_true rfl) (Nat.le_of_ble_eq_true rfl) (by omega) ?_
              refine W_X11_count (by omega)  h (fun r74 h => ?_)
              show n_T G d 0 0 mX11_canOpen 77 [vR 218, vI x1, vI x2, vI (i_and x1 x2)] [vI r74, vI ((v 222 1) + r69)] SH v Q
              refine U_iadd dX11_canOpen_77 h.1 ?_
              replace h := h.2
              refine T_bipush dX11_canOpen_78 (by decide) ?_
              refine U_icmp_gt (tgt := 87) dX11_canOpen_80 (by decide) (fun hc => ?_) (fun hc => ?_)
              · replace h := h.1 hc
                refine T_iconst dX11_canOpen_87 (by decide) ?_
                exact T_zret dX11_canOpen_88 rfl (by decide) (hQ _ h)
              · replace h := h.2 hc
                refine T_iconst dX11_canOpen_83 (by decide) ?_
                refine T_goto (tgt := 88) dX11_canOpen_84 (by decide) ?_
                exact T_zret dX11_canOpen_88 rfl (by decide) (hQ _ h)
          · replace h := h.2 hc
            refine T_iconst dX11_canOpen_43 (by decide) ?_
            exact T_zret dX11_canOpen_44 rfl (by decide) (hQ _ h)

theorem W_X11_endOf {G : GT} {d : Nat} (hd : 2 ≤ d) {x1 : Int} {x2 : Int} {x3 : Int} {x4 : Int}   {v : VT} {q : Int → Prop} {Q : Option Vl → List Sh → VT → Prop} (h : P_X11_endOf x1 x2 x3 x4 v q) (hQ : ∀ r, q r → Q (some (vI r)) SH v) : n_T G d 0 0 mX11_endOf 0 [vR 218, vI x1, vI x2, vI x3, vI x4] [] SH v Q := by
  unfold P_X11_endOf at h
  refine T_iload_n dX11_endOf_0 rfl ?_
  refine T_iload_n dX11_endOf_1 rfl ?_
  refine U_callS (as := [vI x3, vI x1]) (st := []) dX11_endOf_2 kX11_isOf lX11_281 rfl rfl (Nat.le_of_ble_eq_true rfl) (Nat.le_of_ble_eq_true rfl) (by omega) ?_
  refine W_X11_isOf (by omega)  h (fun r2 h => ?_)
  show n_T G d 0 0 mX11_endOf 5 [vR 218, vI x1, vI x2, vI x3, vI x4] [vI r2] SH v Q
  refine U_if_eq (tgt := 26) dX11_endOf_5 (by decide) (fun hc => ?_) (fun hc => ?_)
  · replace h := h.1 hc
    refine T_iload_n dX11_endOf_26 rfl ?_
    exact T_iret dX11_endOf_27 rfl (hQ _ h)
  · replace h := h.2 hc
    refine T_iload dX11_endOf_8 rfl ?_
    refine T_iload_n dX11_endOf_10 rfl ?_
    refine U_callS (as := [vI x4, vI x2]) (st := []) dX11_endOf_11 kX11_isOf lX11_281 rfl rfl (Nat.le_of_ble_eq_true rfl) (Nat.le_of_ble_eq_true rfl) (by omega) ?_
    refine W_X11_isOf (by omega)  h (fun r11 h => ?_)
    show n_T G d 0 0 mX11_endOf 14 [vR 218, vI x1, vI x2, vI x3, vI x4] [vI r11] SH v Q
    refine U_if_eq (tgt := 26) dX11_endOf_14 (by decide) (fun hc => ?_) (fun hc => ?_)
    · replace h := h.1 hc
      refine T_iload_n dX11_endOf_26 rfl ?_
      exact T_iret dX11_endOf_27 rfl (hQ _ h)
    · replace h := h.2 hc
      refine T_aload_n dX11_endOf_17 rfl ?_
      refine T_getR (r := 242) dX11_endOf_18 fX11_86 rfl SH_218 rfl ?_
      refine T_iload_n dX11_endOf_21 rfl ?_
      refine T_iald dX11_endOf_22 SH_242 h.1 ?_
      replace h := h.2
      refine T_goto (tgt := 27) dX11_endOf_23 (by decide) ?_
      exact T_iret dX11_endOf_27 rfl (hQ _ h)

theorem W_X11_opens {G : GT} {d : Nat} (hd : 3 ≤ d) {x1 : Int} {x2 : Int}   {v : VT} {q : VT → Prop} {Q : Option Vl → List Sh → VT → Prop} (h : P_X11_opens x1 x2 v q) (hQ : ∀ w, q w → Q none SH w) : n_T G d 0 0 mX11_opens 0 [vR 218, vI x1, vI x2, vS 9, vS 9] [] SH v Q := by
  unfold P_X11_opens at h
  refine T_aload_n dX11_opens_0 rfl ?_
  refine T_getR (r := 222) dX11_opens_1 fX11_23 rfl SH_218 rfl ?_
  refine T_iconst dX11_opens_4 (by decide) ?_
  refine T_iald dX11_opens_5 SH_222 (by decide) ?_
  refine T_istore_n dX11_opens_6 (by decide) rfl ?_
  refine T_iconst dX11_opens_7 (by decide) ?_
  refine T_istore dX11_opens_8 (by decide) rfl ?_
  refine n_cut (h (fun (v38 : VT) => n_T G d 0 0 mX11_opens 38 [vR 218, vI x1, vI x2, vI (v 222 0), vS 9] [] SH v38 Q)) ?_ ?_
  · intro v38 h
    refine T_iconst dX11_opens_38 (by decide) ?_
    refine T_istore dX11_opens_39 (by decide) rfl ?_
    refine n_cut (h (fun (i3 : Int) (v87 : VT) => n_T G d 0 0 mX11_opens 87 [vR 218, vI x1, vI x2, vI i3, vS 9] [] SH v87 Q)) ?_ ?_
    · intro i3 v87 h
      refine T_aload_n dX11_opens_87 rfl ?_
      refine T_getR (r := 223) dX11_opens_88 fX11_26 rfl SH_218 rfl ?_
      refine T_iconst dX11_opens_91 (by decide) ?_
      refine T_iload_n dX11_opens_92 rfl ?_
      refine U_iast dX11_opens_93 SH_223 (by decide) (fun v93 ev93 => ?_)
      replace h := h v93 ev93
      refine T_aload_n dX11_opens_94 rfl ?_
      refine T_getR (r := 223) dX11_opens_95 fX11_26 rfl SH_218 rfl ?_
      refine T_iconst dX11_opens_98 (by decide) ?_
      refine T_iconst dX11_opens_99 (by decide) ?_
      refine U_iast dX11_opens_100 SH_223 (by decide) (fun v100 ev100 => ?_)
      replace h := h v100 ev100
      refine T_iconst dX11_opens_101 (by decide) ?_
      refine T_istore dX11_opens_102 (by decide) rfl ?_
      refine n_cut (h (fun (v170 : VT) => n_T G d 0 0 mX11_opens 170 [vR 218, vI x1, vS 9, vS 9, vS 9] [] SH v170 Q)) ?_ ?_
      · intro v170 h
        refine T_iconst dX11_opens_170 (by decide) ?_
        refine T_istore dX11_opens_171 (by decide) rfl ?_
        refine n_cut (h (fun (v251 : VT) => n_T G d 0 0 mX11_opens 251 [vR 218, vI x1, vS 9, vS 9, vS 9] [] SH v251 Q)) ?_ ?_
        · intro v251 h
          refine T_iconst dX11_opens_251 (by decide) ?_
          refine T_istore dX11_opens_252 (by decide) rfl ?_
          refine T_drop (h (fun (i4 : Int) (v254 : VT) => n_T G d 0 0 mX11_opens 254 [vR 218, vI x1, vS 9, vS 9, vI i4] [] SH v254 Q) (fun i4 v254 h => ?_)) ⟨Or.inl rfl, Or.inl rfl, Or.inr rfl, Or.inr rfl, Or.inl rfl, trivial⟩
          refine T_iload dX11_opens_254 rfl ?_
          refine T_aload_n dX11_opens_256 rfl ?_
          refine T_getR (r := 222) dX11_opens_257 fX11_23 rfl SH_218 rfl ?_
          refine T_iconst dX11_opens_260 (by decide) ?_
          refine T_iald dX11_opens_261 SH_222 (by decide) ?_
          refine U_icmp_ge (tgt := 297) dX11_opens_262 (by decide) (fun hc => ?_) (fun hc => ?_)
          · replace h := h.1 hc
            refine T_aload_n dX11_opens_297 rfl ?_
            refine U_callV (as := []) (st := []) dX11_opens_298 kX11_isNext lX11_396 SH_218 rfl rfl rfl rfl (Nat.le_of_ble_eq_true rfl) (Nat.le_of_ble_eq_true rfl) (by omega) ?_
            refine W_X11_isNext (by omega)  h (fun v298 h => ?_)
            show n_T G d 0 0 mX11_opens 301 [vR 218, vI x1, vS 9, vS 9, vI i4] [] SH v298 Q
            exact T_vret dX11_opens_301 rfl (hQ _ h)
          · replace h := h.2 hc
            refine T_iload_n dX11_opens_265 rfl ?_
            refine T_iload dX11_opens_266 rfl ?_
            refine U_callS (as := [vI x1, vI i4]) (st := []) dX11_opens_268 kX11_isOf lX11_281 rfl rfl (Nat.le_of_ble_eq_true rfl) (Nat.le_of_ble_eq_true rfl) (by omega) ?_
            refine W_X11_isOf (by omega)  h (fun r268 h => ?_)
            show n_T G d 0 0 mX11_opens 271 [vR 218, vI x1, vS 9, vS 9, vI i4] [vI r268] SH v254 Q
            refine U_if_eq (tgt := 291) dX11_opens_271 (by decide) (fun hc => ?_) (fun hc => ?_)
            · replace h := h.1 hc
              refine U_iinc dX11_opens_291 rfl (by decide) rfl h.1 ?_
              replace h := h.2
              refine T_goto (tgt := 254) dX11_opens_294 (by decide) ?_
              exact T_drop h ⟨Or.inl rfl, Or.inl rfl, Or.inr rfl, Or.inr rfl, Or.inl rfl, trivial⟩
            · replace h := h.2 hc
              refine T_aload_n dX11_opens_274 rfl ?_
              refine T_getR (r := 223) dX11_opens_275 fX11_26 rfl SH_218 rfl ?_
              refine T_iload dX11_opens_278 rfl ?_
              refine T_aload_n dX11_opens_280 rfl ?_
              refine T_getR (r := 242) dX11_opens_281 fX11_86 rfl SH_218 rfl ?_
              refine T_iload dX11_opens_284 rfl ?_
              refine T_iald dX11_opens_286 SH_242 h.1 ?_
              replace h := h.2
              refine T_iconst dX11_opens_287 (by decide) ?_
              refine U_callS (as := [vR 223, vI i4, vI (v254 242 i4.toNat), vI 1]) (st := []) dX11_opens_288 kX11_adds lX11_173 rfl rfl (Nat.le_of_ble_eq_true rfl) (Nat.le_of_ble_eq_true rfl) (by omega) ?_
              refine W_X11_adds (by omega) SH_223 h (fun v288 h => ?_)
              show n_T G d 0 0 mX11_opens 291 [vR 218, vI x1, vS 9, vS 9, vI i4] [] SH v288 Q
              refine U_iinc dX11_opens_291 rfl (by decide) rfl h.1 ?_
              replace h := h.2
              refine T_goto (tgt := 254) dX11_opens_294 (by decide) ?_
              exact T_drop h ⟨Or.inl rfl, Or.inl rfl, Or.inr rfl, Or.inr rfl, Or.inl rfl, trivial⟩
        · intro h
          refine T_drop (h (fun (i4_1 : Int) (v173 : VT) => n_T G d 0 0 mX11_opens 173 [vR 218, vI x1, vS 9, vS 9, vI i4_1] [] SH v173 Q) (fun i4_1 v173 h => ?_)) ⟨Or.inl rfl, Or.inl rfl, Or.inr rfl, Or.inr rfl, Or.inl rfl, trivial⟩
          refine T_iload dX11_opens_173 rfl ?_
          refine T_aload_n dX11_opens_175 rfl ?_
          refine T_getR (r := 222) dX11_opens_176 fX11_23 rfl SH_218 rfl ?_
          refine T_iconst dX11_opens_179 (by decide) ?_
          refine T_iald dX11_opens_180 SH_222 (by decide) ?_
          refine U_icmp_ge (tgt := 251) dX11_opens_181 (by decide) (fun hc => ?_) (fun hc => ?_)
          · replace h := h.1 hc
            exact T_drop h ⟨Or.inl rfl, Or.inl rfl, Or.inr rfl, Or.inr rfl, Or.inr rfl, trivial⟩
          · replace h := h.2 hc
            refine T_iload_n dX11_opens_184 rfl ?_
            refine T_aload_n dX11_opens_185 rfl ?_
            refine T_iload dX11_opens_186 rfl ?_
            refine U_callV (as := [vI i4_1]) (st := [vI x1]) dX11_opens_188 kX11_low lX11_208 SH_218 rfl rfl rfl rfl (Nat.le_of_ble_eq_true rfl) (Nat.le_of_ble_eq_true rfl) (by omega) ?_
            refine W_X11_low (by omega)  h (fun r188 h => ?_)
            show n_T G d 0 0 mX11_opens 191 [vR 218, vI x1, vS 9, vS 9, vI i4_1] [vI r188, vI x1] SH v173 Q
            refine U_callS (as := [vI x1, vI r188]) (st := []) dX11_opens_191 kX11_isOf lX11_281 rfl rfl (Nat.le_of_ble_eq_true rfl) (Nat.le_of_ble_eq_true rfl) (by omega) ?_
            refine W_X11_isOf (by omega)  h (fun r191 h => ?_)
            show n_T G d 0 0 mX11_opens 194 [vR 218, vI x1, vS 9, vS 9, vI i4_1] [vI r191] SH v173 Q
            refine U_if_eq (tgt := 245) dX11_opens_194 (by decide) (fun hc => ?_) (fun hc => ?_)
            · replace h := h.1 hc
              refine U_iinc dX11_opens_245 rfl (by decide) rfl h.1 ?_
              replace h := h.2
              refine T_goto (tgt := 173) dX11_opens_248 (by decide) ?_
              exact T_drop h ⟨Or.inl rfl, Or.inl rfl, Or.inr rfl, Or.inr rfl, Or.inl rfl, trivial⟩
            · replace h := h.2 hc
              refine T_iload_n dX11_opens_197 rfl ?_
              refine T_aload_n dX11_opens_198 rfl ?_
              refine T_iload dX11_opens_199 rfl ?_
              refine U_callV (as := [vI i4_1]) (st := [vI x1]) dX11_opens_201 kX11_high lX11_211 SH_218 rfl rfl rfl rfl (Nat.le_of_ble_eq_true rfl) (Nat.le_of_ble_eq_true rfl) (by omega) ?_
              refine W_X11_high (by omega)  h (fun r201 h => ?_)
              show n_T G d 0 0 mX11_opens 204 [vR 218, vI x1, vS 9, vS 9, vI i4_1] [vI r201, vI x1] SH v173 Q
              refine U_callS (as := [vI x1, vI r201]) (st := []) dX11_opens_204 kX11_isOf lX11_281 rfl rfl (Nat.le_of_ble_eq_true rfl) (Nat.le_of_ble_eq_true rfl) (by omega) ?_
              refine W_X11_isOf (by omega)  h (fun r204 h => ?_)
              show n_T G d 0 0 mX11_opens 207 [vR 218, vI x1, vS 9, vS 9, vI i4_1] [vI r204] SH v173 Q
              refine U_if_eq (tgt := 245) dX11_opens_207 (by decide) (fun hc => ?_) (fun hc => ?_)
              · replace h := h.1 hc
                refine U_iinc dX11_opens_245 rfl (by decide) rfl h.1 ?_
                replace h := h.2
                refine T_goto (tgt := 173) dX11_opens_248 (by decide) ?_
                exact T_drop h ⟨Or.inl rfl, Or.inl rfl, Or.inr rfl, Or.inr rfl, Or.inl rfl, trivial⟩
              · replace h := h.2 hc
                refine T_aload_n dX11_opens_210 rfl ?_
                refine T_getR (r := 223) dX11_opens_211 fX11_26 rfl SH_218 rfl ?_
                refine T_aload_n dX11_opens_214 rfl ?_
                refine T_getR (r := 242) dX11_opens_215 fX11_86 rfl SH_218 rfl ?_
                refine T_aload_n dX11_opens_218 rfl ?_
                refine T_iload dX11_opens_219 rfl ?_
                refine U_callV (as := [vI i4_1]) (st := [vR 242, vR 223]) dX11_opens_221 kX11_low lX11_208 SH_218 rfl rfl rfl rfl (Nat.le_of_ble_eq_true rfl) (Nat.le_of_ble_eq_true rfl) (by omega) ?_
                refine W_X11_low (by omega)  h (fun r221 h => ?_)
                show n_T G d 0 0 mX11_opens 224 [vR 218, vI x1, vS 9, vS 9, vI i4_1] [vI r221, vR 242, vR 223] SH v173 Q
                refine T_iald dX11_opens_224 SH_242 h.1 ?_
                replace h := h.2
                refine T_aload_n dX11_opens_225 rfl ?_
                refine T_getR (r := 242) dX11_opens_226 fX11_86 rfl SH_218 rfl ?_
                refine T_aload_n dX11_opens_229 rfl ?_
                refine T_iload dX11_opens_230 rfl ?_
                refine U_callV (as := [vI i4_1]) (st := [vR 242, vI (v173 242 r221.toNat), vR 223]) dX11_opens_232 kX11_high lX11_211 SH_218 rfl rfl rfl rfl (Nat.le_of_ble_eq_true rfl) (Nat.le_of_ble_eq_true rfl) (by omega) ?_
                refine W_X11_high (by omega)  h (fun r232 h => ?_)
                show n_T G d 0 0 mX11_opens 235 [vR 218, vI x1, vS 9, vS 9, vI i4_1] [vI r232, vR 242, vI (v173 242 r221.toNat), vR 223] SH v173 Q
                refine T_iald dX11_opens_235 SH_242 h.1 ?_
                replace h := h.2
                refine T_aload_n dX11_opens_236 rfl ?_
                refine T_iload dX11_opens_237 rfl ?_
                refine U_callV (as := [vI i4_1]) (st := [vI (v173 242 r232.toNat), vI (v173 242 r221.toNat), vR 223]) dX11_opens_239 kX11_priceOf lX11_254 SH_218 rfl rfl rfl rfl (Nat.le_of_ble_eq_true rfl) (Nat.le_of_ble_eq_true rfl) (by omega) ?_
                refine W_X11_priceOf (by omega)  h (fun r239 h => ?_)
                show n_T G d 0 0 mX11_opens 242 [vR 218, vI x1, vS 9, vS 9, vI i4_1] [vI r239, vI (v173 242 r232.toNat), vI (v173 242 r221.toNat), vR 223] SH v173 Q
                refine U_callS (as := [vR 223, vI (v173 242 r221.toNat), vI (v173 242 r232.toNat), vI r239]) (st := []) dX11_opens_242 kX11_adds lX11_173 rfl rfl (Nat.le_of_ble_eq_true rfl) (Nat.le_of_ble_eq_true rfl) (by omega) ?_
                refine W_X11_adds (by omega) SH_223 h (fun v242 h => ?_)
                show n_T G d 0 0 mX11_opens 245 [vR 218, vI x1, vS 9, vS 9, vI i4_1] [] SH v242 Q
                refine U_iinc dX11_opens_245 rfl (by decide) rfl h.1 ?_
                replace h := h.2
                refine T_goto (tgt := 173) dX11_opens_248 (by decide) ?_
                exact T_drop h ⟨Or.inl rfl, Or.inl rfl, Or.inr rfl, Or.inr rfl, Or.inl rfl, trivial⟩
      · intro h
        refine T_drop (h (fun (i4_2 : Int) (v104 : VT) => n_T G d 0 0 mX11_opens 104 [vR 218, vI x1, vI x2, vS 9, vI i4_2] [] SH v104 Q) (fun i4_2 v104 h => ?_)) ⟨Or.inl rfl, Or.inl rfl, Or.inl rfl, Or.inr rfl, Or.inl rfl, trivial⟩
        refine T_iload dX11_opens_104 rfl ?_
        refine T_aload_n dX11_opens_106 rfl ?_
        refine T_getR (r := 222) dX11_opens_107 fX11_23 rfl SH_218 rfl ?_
        refine T_iconst dX11_opens_110 (by decide) ?_
        refine T_iald dX11_opens_111 SH_222 (by decide) ?_
        refine U_icmp_ge (tgt := 170) dX11_opens_112 (by decide) (fun hc => ?_) (fun hc => ?_)
        · replace h := h.1 hc
          exact T_drop h ⟨Or.inl rfl, Or.inl rfl, Or.inr rfl, Or.inr rfl, Or.inr rfl, trivial⟩
        · replace h := h.2 hc
          refine T_aload_n dX11_opens_115 rfl ?_
          refine T_getR (r := 223) dX11_opens_116 fX11_26 rfl SH_218 rfl ?_
          refine T_aload_n dX11_opens_119 rfl ?_
          refine T_aload_n dX11_opens_120 rfl ?_
          refine T_iload dX11_opens_121 rfl ?_
          refine U_callV (as := [vI i4_2]) (st := [vR 218, vR 223]) dX11_opens_123 kX11_low lX11_208 SH_218 rfl rfl rfl rfl (Nat.le_of_ble_eq_true rfl) (Nat.le_of_ble_eq_true rfl) (by omega) ?_
          refine W_X11_low (by omega)  h (fun r123 h => ?_)
          show n_T G d 0 0 mX11_opens 126 [vR 218, vI x1, vI x2, vS 9, vI i4_2] [vI r123, vR 218, vR 223] SH v104 Q
          refine T_aload_n dX11_opens_126 rfl ?_
          refine T_iload dX11_opens_127 rfl ?_
          refine U_callV (as := [vI i4_2]) (st := [vI r123, vR 218, vR 223]) dX11_opens_129 kX11_high lX11_211 SH_218 rfl rfl rfl rfl (Nat.le_of_ble_eq_true rfl) (Nat.le_of_ble_eq_true rfl) (by omega) ?_
          refine W_X11_high (by omega)  h (fun r129 h => ?_)
          show n_T G d 0 0 mX11_opens 132 [vR 218, vI x1, vI x2, vS 9, vI i4_2] [vI r129, vI r123, vR 218, vR 223] SH v104 Q
          refine T_iload_n dX11_opens_132 rfl ?_
          refine T_iload_n dX11_opens_133 rfl ?_
          refine U_callV (as := [vI r123, vI r129, vI x1, vI x2]) (st := [vR 223]) dX11_opens_134 kX11_endOf lX11_411 SH_218 rfl rfl rfl rfl (Nat.le_of_ble_eq_true rfl) (Nat.le_of_ble_eq_true rfl) (by omega) ?_
          refine W_X11_endOf (by omega)  h (fun r134 h => ?_)
          show n_T G d 0 0 mX11_opens 137 [vR 218, vI x1, vI x2, vS 9, vI i4_2] [vI r134, vR 223] SH v104 Q
          refine T_aload_n dX11_opens_137 rfl ?_
          refine T_aload_n dX11_opens_138 rfl ?_
          refine T_iload dX11_opens_139 rfl ?_
          refine U_callV (as := [vI i4_2]) (st := [vR 218, vI r134, vR 223]) dX11_opens_141 kX11_high lX11_211 SH_218 rfl rfl rfl rfl (Nat.le_of_ble_eq_true rfl) (Nat.le_of_ble_eq_true rfl) (by omega) ?_
          refine W_X11_high (by omega)  h (fun r141 h => ?_)
          show n_T G d 0 0 mX11_opens 144 [vR 218, vI x1, vI x2, vS 9, vI i4_2] [vI r141, vR 218, vI r134, vR 223] SH v104 Q
          refine T_aload_n dX11_opens_144 rfl ?_
          refine T_iload dX11_opens_145 rfl ?_
          refine U_callV (as := [vI i4_2]) (st := [vI r141, vR 218, vI r134, vR 223]) dX11_opens_147 kX11_low lX11_208 SH_218 rfl rfl rfl rfl (Nat.le_of_ble_eq_true rfl) (Nat.le_of_ble_eq_true rfl) (by omega) ?_
          refine W_X11_low (by omega)  h (fun r147 h => ?_)
          show n_T G d 0 0 mX11_opens 150 [vR 218, vI x1, vI x2, vS 9, vI i4_2] [vI r147, vI r141, vR 218, vI r134, vR 223] SH v104 Q
          refine T_iload_n dX11_opens_150 rfl ?_
          refine T_iload_n dX11_opens_151 rfl ?_
          refine U_callV (as := [vI r141, vI r147, vI x1, vI x2]) (st := [vI r134, vR 223]) dX11_opens_152 kX11_endOf lX11_411 SH_218 rfl rfl rfl rfl (Nat.le_of_ble_eq_true rfl) (Nat.le_of_ble_eq_true rfl) (by omega) ?_
          refine W_X11_endOf (by omega)  h (fun r152 h => ?_)
          show n_T G d 0 0 mX11_opens 155 [vR 218, vI x1, vI x2, vS 9, vI i4_2] [vI r152, vI r134, vR 223] SH v104 Q
          refine T_aload_n dX11_opens_155 rfl ?_
          refine T_iload dX11_opens_156 rfl ?_
          refine U_callV (as := [vI i4_2]) (st := [vI r152, vI r134, vR 223]) dX11_opens_158 kX11_priceOf lX11_254 SH_218 rfl rfl rfl rfl (Nat.le_of_ble_eq_true rfl) (Nat.le_of_ble_eq_true rfl) (by omega) ?_
          refine W_X11_priceOf (by omega)  h (fun r158 h => ?_)
          show n_T G d 0 0 mX11_opens 161 [vR 218, vI x1, vI x2, vS 9, vI i4_2] [vI r158, vI r152, vI r134, vR 223] SH v104 Q
          refine U_callS (as := [vR 223, vI r134, vI r152, vI r158]) (st := []) dX11_opens_161 kX11_adds lX11_173 rfl rfl (Nat.le_of_ble_eq_true rfl) (Nat.le_of_ble_eq_true rfl) (by omega) ?_
          refine W_X11_adds (by omega) SH_223 h (fun v161 h => ?_)
          show n_T G d 0 0 mX11_opens 164 [vR 218, vI x1, vI x2, vS 9, vI i4_2] [] SH v161 Q
          refine U_iinc dX11_opens_164 rfl (by decide) rfl h.1 ?_
          replace h := h.2
          refine T_goto (tgt := 104) dX11_opens_167 (by decide) ?_
          exact T_drop h ⟨Or.inl rfl, Or.inl rfl, Or.inl rfl, Or.inr rfl, Or.inl rfl, trivial⟩
    · intro h
      refine T_drop (h (fun (i3_1 : Int) (i4_3 : Int) (v41 : VT) => n_T G d 0 0 mX11_opens 41 [vR 218, vI x1, vI x2, vI i3_1, vI i4_3] [] SH v41 Q) (fun i3_1 i4_3 v41 h => ?_)) ⟨Or.inl rfl, Or.inl rfl, Or.inl rfl, Or.inl rfl, Or.inl rfl, trivial⟩
      refine T_iload dX11_opens_41 rfl ?_
      refine T_aload_n dX11_opens_43 rfl ?_
      refine T_getR (r := 222) dX11_opens_44 fX11_23 rfl SH_218 rfl ?_
      refine T_iconst dX11_opens_47 (by decide) ?_
      refine T_iald dX11_opens_48 SH_222 (by decide) ?_
      refine U_icmp_ge (tgt := 87) dX11_opens_49 (by decide) (fun hc => ?_) (fun hc => ?_)
      · replace h := h.1 hc
        exact T_drop h ⟨Or.inl rfl, Or.inl rfl, Or.inl rfl, Or.inl rfl, Or.inr rfl, trivial⟩
      · replace h := h.2 hc
        refine T_iload_n dX11_opens_52 rfl ?_
        refine T_iload dX11_opens_53 rfl ?_
        refine U_callS (as := [vI x1, vI i4_3]) (st := []) dX11_opens_55 kX11_isOf lX11_281 rfl rfl (Nat.le_of_ble_eq_true rfl) (Nat.le_of_ble_eq_true rfl) (by omega) ?_
        refine W_X11_isOf (by omega)  h (fun r55 h => ?_)
        show n_T G d 0 0 mX11_opens 58 [vR 218, vI x1, vI x2, vI i3_1, vI i4_3] [vI r55] SH v41 Q
        refine U_if_eq (tgt := 81) dX11_opens_58 (by decide) (fun hc => ?_) (fun hc => ?_)
        · replace h := h.1 hc
          refine U_iinc dX11_opens_81 rfl (by decide) rfl h.1 ?_
          replace h := h.2
          refine T_goto (tgt := 41) dX11_opens_84 (by decide) ?_
          exact T_drop h ⟨Or.inl rfl, Or.inl rfl, Or.inl rfl, Or.inl rfl, Or.inl rfl, trivial⟩
        · replace h := h.2 hc
          refine T_aload_n dX11_opens_61 rfl ?_
          refine T_getR (r := 242) dX11_opens_62 fX11_86 rfl SH_218 rfl ?_
          refine T_iload dX11_opens_65 rfl ?_
          refine T_iload_n dX11_opens_67 rfl ?_
          refine U_iast dX11_opens_68 SH_242 h.1 (fun v68 ev68 => ?_)
          replace h := h.2 v68 ev68
          refine T_aload_n dX11_opens_69 rfl ?_
          refine T_getR (r := 223) dX11_opens_70 fX11_26 rfl SH_218 rfl ?_
          refine T_iconst dX11_opens_73 (by decide) ?_
          refine T_iload_n dX11_opens_74 rfl ?_
          refine U_iadd dX11_opens_75 h.1 ?_
          replace h := h.2
          refine T_iconst dX11_opens_76 (by decide) ?_
          refine U_iast dX11_opens_77 SH_223 h.1 (fun v77 ev77 => ?_)
          replace h := h.2 v77 ev77
          refine U_iinc dX11_opens_78 rfl (by decide) rfl h.1 ?_
          replace h := h.2
          refine U_iinc dX11_opens_81 rfl (by decide) rfl h.1 ?_
          replace h := h.2
          refine T_goto (tgt := 41) dX11_opens_84 (by decide) ?_
          exact T_drop h ⟨Or.inl rfl, Or.inl rfl, Or.inl rfl, Or.inl rfl, Or.inl rfl, trivial⟩
  · intro h
    refine T_drop (h (fun (i4_4 : Int) (v10 : VT) => n_T G d 0 0 mX11_opens 10 [vR 218, vI x1, vI x2, vI (v 222 0), vI i4_4] [] SH v10 Q) (fun i4_4 v10 h => ?_)) ⟨Or.inl rfl, Or.inl rfl, Or.inl rfl, Or.inl rfl, Or.inl rfl, trivial⟩
    refine T_iload dX11_opens_10 rfl ?_
    refine T_sipush dX11_opens_12 (by decide) ?_
    refine U_icmp_ge (tgt := 38) dX11_opens_15 (by decide) (fun hc => ?_) (fun hc => ?_)
    · replace h := h.1 hc
      exact T_drop h ⟨Or.inl rfl, Or.inl rfl, Or.inl rfl, Or.inl rfl, Or.inr rfl, trivial⟩
    · replace h := h.2 hc
      refine T_aload_n dX11_opens_18 rfl ?_
      refine T_getR (r := 223) dX11_opens_19 fX11_26 rfl SH_218 rfl ?_
      refine T_iload dX11_opens_22 rfl ?_
      refine T_aload_n dX11_opens_24 rfl ?_
      refine T_getR (r := 222) dX11_opens_25 fX11_23 rfl SH_218 rfl ?_
      refine T_iload dX11_opens_28 rfl ?_
      refine T_iald dX11_opens_30 SH_222 h.1 ?_
      replace h := h.2
      refine U_iast dX11_opens_31 SH_223 h.1 (fun v31 ev31 => ?_)
      replace h := h.2 v31 ev31
      refine U_iinc dX11_opens_32 rfl (by decide) rfl h.1 ?_
      replace h := h.2
      refine T_goto (tgt := 10) dX11_opens_35 (by decide) ?_
      exact T_drop h ⟨Or.inl rfl, Or.inl rfl, Or.inl rfl, Or.inl rfl, Or.inl rfl, trivial⟩

theorem W_X11_open {G : GT} {d : Nat} (hd : 4 ≤ d) {x1 : Int} {x2 : Int}   {v : VT} {q : Int → VT → Prop} {Q : Option Vl → List Sh → VT → Prop} (h : P_X11_open x1 x2 v q) (hQ : ∀ r w, q r w → Q (some (vI r)) SH w) : n_T G d 0 0 mX11_open 0 [vR 218, vI x1, vI x2] [] SH v Q := by
  unfold P_X11_open at h
  refine T_aload_n dX11_open_0 rfl ?_
  refine T_iload_n dX11_open_1 rfl ?_
  refine T_iload_n dX11_open_2 rfl ?_
  refine U_callV (as := [vI x1, vI x2]) (st := []) dX11_open_3 kX11_canOpen lX11_415 SH_218 rfl rfl rfl rfl (Nat.le_of_ble_eq_true rfl) (Nat.le_of_ble_eq_true rfl) (by omega) ?_
  refine W_X11_canOpen (by omega)  h (fun r3 h => ?_)
  show n_T G d 0 0 mX11_open 6 [vR 218, vI x1, vI x2] [vI r3] SH v Q
  refine U_if_ne (tgt := 15) dX11_open_6 (by decide) (fun hc => ?_) (fun hc => ?_)
  · replace h := h.1 hc
    refine T_aload_n dX11_open_15 rfl ?_
    refine U_callV (as := []) (st := []) dX11_open_16 kX11_keeps lX11_379 SH_218 rfl rfl rfl rfl (Nat.le_of_ble_eq_true rfl) (Nat.le_of_ble_eq_true rfl) (by omega) ?_
    refine W_X11_keeps (by omega)  h (fun v16 h => ?_)
    show n_T G d 0 0 mX11_open 19 [vR 218, vI x1, vI x2] [] SH v16 Q
    refine T_aload_n dX11_open_19 rfl ?_
    refine T_iload_n dX11_open_20 rfl ?_
    refine T_iload_n dX11_open_21 rfl ?_
    refine T_iand dX11_open_22 ?_
    refine T_iload_n dX11_open_23 rfl ?_
    refine T_iload_n dX11_open_24 rfl ?_
    refine T_iconst dX11_open_25 (by decide) ?_
    refine T_ixor dX11_open_26 ?_
    refine T_iand dX11_open_27 ?_
    refine U_callV (as := [vI (i_and x1 x2), vI (i_and x2 (i_xor x1 (-1)))]) (st := []) dX11_open_28 kX11_opens lX11_418 SH_218 rfl rfl rfl rfl (Nat.le_of_ble_eq_true rfl) (Nat.le_of_ble_eq_true rfl) (by omega) ?_
    refine W_X11_opens (by omega)  h (fun v28 h => ?_)
    show n_T G d 0 0 mX11_open 31 [vR 218, vI x1, vI x2] [] SH v28 Q
    refine T_aload_n dX11_open_31 rfl ?_
    refine T_getR (r := 222) dX11_open_32 fX11_23 rfl SH_218 rfl ?_
    refine T_iconst dX11_open_35 (by decide) ?_
    refine T_iald dX11_open_36 SH_222 (by decide) ?_
    exact T_iret dX11_open_37 rfl (hQ _ _ h)
  · replace h := h.2 hc
    refine T_aload_n dX11_open_9 rfl ?_
    refine T_iconst dX11_open_10 (by decide) ?_
    refine U_callV (as := [vI 3]) (st := []) dX11_open_11 kX11_refuses lX11_99 SH_218 rfl rfl rfl rfl (Nat.le_of_ble_eq_true rfl) (Nat.le_of_ble_eq_true rfl) (by omega) ?_
    refine W_X11_refuses (by omega)  h (fun r11 v11 h => ?_)
    show n_T G d 0 0 mX11_open 14 [vR 218, vI x1, vI x2] [vI r11] SH v11 Q
    exact T_iret dX11_open_14 rfl (hQ _ _ h)

theorem W_X11_seed {G : GT} {d : Nat} (hd : 2 ≤ d) {x1 : Int}   {v : VT} {q : Int → VT → Prop} {Q : Option Vl → List Sh → VT → Prop} (h : P_X11_seed x1 v q) (hQ : ∀ r w, q r w → Q (some (vI r)) SH w) : n_T G d 0 0 mX11_seed 0 [vR 218, vI x1] [] SH v Q := by
  unfold P_X11_seed at h
  refine T_iload_n dX11_seed_0 rfl ?_
  refine U_if_ge (tgt := 10) dX11_seed_1 (by decide) (fun hc => ?_) (fun hc => ?_)
  · replace h := h.1 hc
    refine T_aload_n dX11_seed_10 rfl ?_
    refine T_iload_n dX11_seed_11 rfl ?_
    refine T_i2l dX11_seed_12 ?_
    refine U_putJ dX11_seed_13 fX11_89 rfl rfl SH_218 (fun v13 ev13 => ?_)
    replace h := h v13 ev13
    refine T_iconst dX11_seed_16 (by decide) ?_
    exact T_zret dX11_seed_17 rfl (by decide) (hQ _ _ h)
  · replace h := h.2 hc
    refine T_aload_n dX11_seed_4 rfl ?_
    refine T_iconst dX11_seed_5 (by decide) ?_
    refine U_callV (as := [vI 5]) (st := []) dX11_seed_6 kX11_isRefused lX11_103 SH_218 rfl rfl rfl rfl (Nat.le_of_ble_eq_true rfl) (Nat.le_of_ble_eq_true rfl) (by omega) ?_
    refine W_X11_isRefused (by omega)  h (fun r6 v6 h => ?_)
    show n_T G d 0 0 mX11_seed 9 [vR 218, vI x1] [vI r6] SH v6 Q
    exact T_zret dX11_seed_9 rfl h.1 (hQ _ _ h.2)

theorem W_X11_drawOf {G : GT} {d : Nat} (hd : 1 ≤ d) {x1 : Int}   {v : VT} {q : Int → VT → Prop} {Q : Option Vl → List Sh → VT → Prop} (h : P_X11_drawOf x1 v q) (hQ : ∀ r w, q r w → Q (some (vI r)) SH w) : n_T G d 0 0 mX11_drawOf 0 [vR 218, vI x1] [] SH v Q := by
  unfold P_X11_drawOf at h
  refine T_aload_n dX11_drawOf_0 rfl ?_
  refine T_ldc2 (n := 1103515245) dX11_drawOf_1 cX11_421 (by unfold r64; omega) ?_
  refine T_aload_n dX11_drawOf_4 rfl ?_
  refine T_getJ dX11_drawOf_5 fX11_89 rfl SH_218 ?_
  refine U_lmul dX11_drawOf_8 h.1 ?_
  replace h := h.2
  refine T_ldc2 (n := 12345) dX11_drawOf_9 cX11_423 (by unfold r64; omega) ?_
  refine U_ladd dX11_drawOf_12 h.1 ?_
  replace h := h.2
  refine T_ldc2 (n := 2147483648) dX11_drawOf_13 cX11_425 (by unfold r64; omega) ?_
  refine T_lrem dX11_drawOf_16 (by decide) ?_
  refine U_putJ dX11_drawOf_17 fX11_89 rfl rfl SH_218 (fun v17 ev17 => ?_)
  replace h := h v17 ev17
  refine T_aload_n dX11_drawOf_20 rfl ?_
  refine T_getJ dX11_drawOf_21 fX11_89 rfl SH_218 ?_
  refine T_ldc2 (n := 64) dX11_drawOf_24 cX11_427 (by unfold r64; omega) ?_
  refine T_ldiv dX11_drawOf_27 (by decide) ?_
  refine T_iload_n dX11_drawOf_28 rfl ?_
  refine T_i2l dX11_drawOf_29 ?_
  refine T_lrem dX11_drawOf_30 h.1 ?_
  replace h := h.2
  refine U_l2i dX11_drawOf_31 h.1 ?_
  replace h := h.2
  exact T_iret dX11_drawOf_32 rfl (hQ _ _ h)

theorem W_X11_stirs {G : GT} {d : Nat} (hd : 5 ≤ d)    {v : VT} {q : VT → Prop} {Q : Option Vl → List Sh → VT → Prop} (h : P_X11_stirs  v q) (hQ : ∀ w, q w → Q none SH w) : n_T G d 0 0 mX11_stirs 0 [vR 218, vS 9, vS 9, vS 9, vS 9] [] SH v Q := by
  unfold P_X11_stirs at h
  refine T_aload_n dX11_stirs_0 rfl ?_
  refine T_iconst dX11_stirs_1 (by decide) ?_
  refine U_callV (as := [vI 4]) (st := []) dX11_stirs_2 kX11_drawOf lX11_429 SH_218 rfl rfl rfl rfl (Nat.le_of_ble_eq_true rfl) (Nat.le_of_ble_eq_true rfl) (by omega) ?_
  refine W_X11_drawOf (by omega)  h (fun r2 v2 h => ?_)
  show n_T G d 0 0 mX11_stirs 5 [vR 218, vS 9, vS 9, vS 9, vS 9] [vI r2] SH v2 Q
  refine T_istore_n dX11_stirs_5 (by decide) rfl ?_
  refine T_iload_n dX11_stirs_6 rfl ?_
  refine T_iconst dX11_stirs_7 (by decide) ?_
  refine U_icmp_ne (tgt := 49) dX11_stirs_8 (by decide) (fun hc => ?_) (fun hc => ?_)
  · replace h := h.1 hc
    refine T_aload_n dX11_stirs_49 rfl ?_
    refine T_aload_n dX11_stirs_50 rfl ?_
    refine T_getR (r := 222) dX11_stirs_51 fX11_23 rfl SH_218 rfl ?_
    refine T_iconst dX11_stirs_54 (by decide) ?_
    refine T_iald dX11_stirs_55 SH_222 (by decide) ?_
    refine U_callV (as := [vI (v2 222 0)]) (st := []) dX11_stirs_56 kX11_drawOf lX11_429 SH_218 rfl rfl rfl rfl (Nat.le_of_ble_eq_true rfl) (Nat.le_of_ble_eq_true rfl) (by omega) ?_
    refine W_X11_drawOf (by omega)  h (fun r56 v56 h => ?_)
    show n_T G d 0 0 mX11_stirs 59 [vR 218, vI r2, vS 9, vS 9, vS 9] [vI r56] SH v56 Q
    refine T_istore_n dX11_stirs_59 (by decide) rfl ?_
    refine T_iload_n dX11_stirs_60 rfl ?_
    refine T_iconst dX11_stirs_61 (by decide) ?_
    refine U_icmp_ge (tgt := 79) dX11_stirs_62 (by decide) (fun hc => ?_) (fun hc => ?_)
    · replace h := h.1 hc
      refine T_aload_n dX11_stirs_79 rfl ?_
      refine T_aload_n dX11_stirs_80 rfl ?_
      refine T_getR (r := 222) dX11_stirs_81 fX11_23 rfl SH_218 rfl ?_
      refine T_iconst dX11_stirs_84 (by decide) ?_
      refine T_iald dX11_stirs_85 SH_222 (by decide) ?_
      refine U_callV (as := [vI (v56 222 0)]) (st := []) dX11_stirs_86 kX11_drawOf lX11_429 SH_218 rfl rfl rfl rfl (Nat.le_of_ble_eq_true rfl) (Nat.le_of_ble_eq_true rfl) (by omega) ?_
      refine W_X11_drawOf (by omega)  h (fun r86 v86 h => ?_)
      show n_T G d 0 0 mX11_stirs 89 [vR 218, vI r2, vI r56, vS 9, vS 9] [vI r86] SH v86 Q
      refine T_istore_n dX11_stirs_89 (by decide) rfl ?_
      refine T_iload_n dX11_stirs_90 rfl ?_
      refine T_iload_n dX11_stirs_91 rfl ?_
      refine n_cut (h (fun (s0 : Int) => n_T G d 0 0 mX11_stirs 108 [vR 218, vS 9, vI r56, vI r86, vS 9] [vI s0] SH v86 Q)) ?_ ?_
      · intro s0 h
        refine T_istore dX11_stirs_108 (by decide) rfl ?_
        refine T_iload dX11_stirs_110 rfl ?_
        refine T_iconst dX11_stirs_112 (by decide) ?_
        refine U_icmp_eq (tgt := 125) dX11_stirs_113 (by decide) (fun hc => ?_) (fun hc => ?_)
        · replace h := h.1 hc
          refine T_aload_n dX11_stirs_125 rfl ?_
          refine T_iload_n dX11_stirs_126 rfl ?_
          refine T_iload_n dX11_stirs_127 rfl ?_
          refine U_callV (as := [vI r56, vI r86]) (st := []) dX11_stirs_128 kX11_canJoin lX11_376 SH_218 rfl rfl rfl rfl (Nat.le_of_ble_eq_true rfl) (Nat.le_of_ble_eq_true rfl) (by omega) ?_
          refine W_X11_canJoin (by omega)  h (fun r128 h => ?_)
          show n_T G d 0 0 mX11_stirs 131 [vR 218, vS 9, vI r56, vI r86, vI s0] [vI r128] SH v86 Q
          refine U_if_eq (tgt := 140) dX11_stirs_131 (by decide) (fun hc => ?_) (fun hc => ?_)
          · replace h := h.1 hc
            exact T_vret dX11_stirs_140 rfl (hQ _ h)
          · replace h := h.2 hc
            refine T_aload_n dX11_stirs_134 rfl ?_
            refine T_iload_n dX11_stirs_135 rfl ?_
            refine T_iload_n dX11_stirs_136 rfl ?_
            refine U_callV (as := [vI r56, vI r86]) (st := []) dX11_stirs_137 kX11_joins lX11_382 SH_218 rfl rfl rfl rfl (Nat.le_of_ble_eq_true rfl) (Nat.le_of_ble_eq_true rfl) (by omega) ?_
            refine W_X11_joins (by omega)  h (fun v137 h => ?_)
            show n_T G d 0 0 mX11_stirs 140 [vR 218, vS 9, vI r56, vI r86, vI s0] [] SH v137 Q
            exact T_vret dX11_stirs_140 rfl (hQ _ h)
        · replace h := h.2 hc
          refine T_aload_n dX11_stirs_116 rfl ?_
          refine T_iload dX11_stirs_117 rfl ?_
          refine U_callV (as := [vI s0]) (st := []) dX11_stirs_119 kX11_cuts lX11_387 SH_218 rfl rfl rfl rfl (Nat.le_of_ble_eq_true rfl) (Nat.le_of_ble_eq_true rfl) (by omega) ?_
          refine W_X11_cuts (by omega)  h (fun v119 h => ?_)
          show n_T G d 0 0 mX11_stirs 122 [vR 218, vS 9, vI r56, vI r86, vI s0] [] SH v119 Q
          refine T_goto (tgt := 140) dX11_stirs_122 (by decide) ?_
          exact T_vret dX11_stirs_140 rfl (hQ _ h)
      · intro h
        refine U_icmp_ne (tgt := 99) dX11_stirs_92 (by decide) (fun hc => ?_) (fun hc => ?_)
        · replace h := h.1 hc
          refine T_aload_n dX11_stirs_99 rfl ?_
          refine T_getR (r := 222) dX11_stirs_100 fX11_23 rfl SH_218 rfl ?_
          refine T_iload_n dX11_stirs_103 rfl ?_
          refine T_iload_n dX11_stirs_104 rfl ?_
          refine U_callS (as := [vR 222, vI r56, vI r86]) (st := []) dX11_stirs_105 kX11_lineOf lX11_169 rfl rfl (Nat.le_of_ble_eq_true rfl) (Nat.le_of_ble_eq_true rfl) (by omega) ?_
          refine W_X11_lineOf (by omega) SH_222 h (fun r105 h => ?_)
          show n_T G d 0 0 mX11_stirs 108 [vR 218, vI r2, vI r56, vI r86, vS 9] [vI r105] SH v86 Q
          exact T_drop h ⟨Or.inl rfl, Or.inr rfl, Or.inl rfl, Or.inl rfl, Or.inr rfl, trivial⟩
        · replace h := h.2 hc
          refine T_iconst dX11_stirs_95 (by decide) ?_
          refine T_goto (tgt := 108) dX11_stirs_96 (by decide) ?_
          exact T_drop h ⟨Or.inl rfl, Or.inr rfl, Or.inl rfl, Or.inl rfl, Or.inr rfl, trivial⟩
    · replace h := h.2 hc
      refine T_aload_n dX11_stirs_65 rfl ?_
      refine T_iload_n dX11_stirs_66 rfl ?_
      refine U_callV (as := [vI r56]) (st := []) dX11_stirs_67 kX11_canGrow lX11_390 SH_218 rfl rfl rfl rfl (Nat.le_of_ble_eq_true rfl) (Nat.le_of_ble_eq_true rfl) (by omega) ?_
      refine W_X11_canGrow (by omega)  h (fun r67 h => ?_)
      show n_T G d 0 0 mX11_stirs 70 [vR 218, vI r2, vI r56, vS 9, vS 9] [vI r67] SH v56 Q
      refine U_if_eq (tgt := 78) dX11_stirs_70 (by decide) (fun hc => ?_) (fun hc => ?_)
      · replace h := h.1 hc
        exact T_vret dX11_stirs_78 rfl (hQ _ h)
      · replace h := h.2 hc
        refine T_aload_n dX11_stirs_73 rfl ?_
        refine T_iload_n dX11_stirs_74 rfl ?_
        refine U_callV (as := [vI r56]) (st := []) dX11_stirs_75 kX11_grows lX11_393 SH_218 rfl rfl rfl rfl (Nat.le_of_ble_eq_true rfl) (Nat.le_of_ble_eq_true rfl) (by omega) ?_
        refine W_X11_grows (by omega)  h (fun v75 h => ?_)
        show n_T G d 0 0 mX11_stirs 78 [vR 218, vI r2, vI r56, vS 9, vS 9] [] SH v75 Q
        exact T_vret dX11_stirs_78 rfl (hQ _ h)
  · replace h := h.2 hc
    refine T_aload_n dX11_stirs_11 rfl ?_
    refine U_callV (as := []) (st := []) dX11_stirs_12 kX11_lays lX11_244 SH_218 rfl rfl rfl rfl (Nat.le_of_ble_eq_true rfl) (Nat.le_of_ble_eq_true rfl) (by omega) ?_
    refine W_X11_lays (by omega)  h (fun v12 h => ?_)
    show n_T G d 0 0 mX11_stirs 15 [vR 218, vI r2, vS 9, vS 9, vS 9] [] SH v12 Q
    refine T_aload_n dX11_stirs_15 rfl ?_
    refine T_aload_n dX11_stirs_16 rfl ?_
    refine T_getI dX11_stirs_17 fX11_222 rfl SH_218 ?_
    refine n_cut (h (fun (s0_1 : Int) => n_T G d 0 0 mX11_stirs 31 [vR 218, vS 9, vS 9, vS 9, vS 9] [vI s0_1, vR 218] SH v12 Q)) ?_ ?_
    · intro s0_1 h
      refine U_callV (as := [vI s0_1]) (st := []) dX11_stirs_31 kX11_drawOf lX11_429 SH_218 rfl rfl rfl rfl (Nat.le_of_ble_eq_true rfl) (Nat.le_of_ble_eq_true rfl) (by omega) ?_
      refine W_X11_drawOf (by omega)  h (fun r31 v31 h => ?_)
      show n_T G d 0 0 mX11_stirs 34 [vR 218, vS 9, vS 9, vS 9, vS 9] [vI r31] SH v31 Q
      refine T_istore_n dX11_stirs_34 (by decide) rfl ?_
      refine T_iload_n dX11_stirs_35 rfl ?_
      refine T_aload_n dX11_stirs_36 rfl ?_
      refine T_getI dX11_stirs_37 fX11_222 rfl SH_218 ?_
      refine U_icmp_ge (tgt := 48) dX11_stirs_40 (by decide) (fun hc => ?_) (fun hc => ?_)
      · replace h := h.1 hc
        exact T_vret dX11_stirs_48 rfl (hQ _ h)
      · replace h := h.2 hc
        refine T_aload_n dX11_stirs_43 rfl ?_
        refine T_iload_n dX11_stirs_44 rfl ?_
        refine U_callV (as := [vI r31]) (st := []) dX11_stirs_45 kX11_presses lX11_402 SH_218 rfl rfl rfl rfl (Nat.le_of_ble_eq_true rfl) (Nat.le_of_ble_eq_true rfl) (by omega) ?_
        refine W_X11_presses (by omega)  h (fun v45 h => ?_)
        show n_T G d 0 0 mX11_stirs 48 [vR 218, vS 9, vI r31, vS 9, vS 9] [] SH v45 Q
        exact T_vret dX11_stirs_48 rfl (hQ _ h)
    · intro h
      refine U_if_le (tgt := 30) dX11_stirs_20 (by decide) (fun hc => ?_) (fun hc => ?_)
      · replace h := h.1 hc
        refine T_iconst dX11_stirs_30 (by decide) ?_
        exact T_drop h ⟨Or.inl rfl, Or.inr rfl, Or.inr rfl, Or.inr rfl, Or.inr rfl, trivial⟩
      · replace h := h.2 hc
        refine T_aload_n dX11_stirs_23 rfl ?_
        refine T_getI dX11_stirs_24 fX11_222 rfl SH_218 ?_
        refine T_goto (tgt := 31) dX11_stirs_27 (by decide) ?_
        exact T_drop h ⟨Or.inl rfl, Or.inr rfl, Or.inr rfl, Or.inr rfl, Or.inr rfl, trivial⟩

theorem W_X11_chance {G : GT} {d : Nat} (hd : 6 ≤ d) {x1 : Int}   {v : VT} {q : Int → VT → Prop} {Q : Option Vl → List Sh → VT → Prop} (h : P_X11_chance x1 v q) (hQ : ∀ r w, q r w → Q (some (vI r)) SH w) : n_T G d 0 0 mX11_chance 0 [vR 218, vI x1, vS 9] [] SH v Q := by
  unfold P_X11_chance at h
  refine T_iload_n dX11_chance_0 rfl ?_
  refine T_i2l dX11_chance_1 ?_
  refine T_lconst dX11_chance_2 ?_
  refine T_ldc2 (n := 40) dX11_chance_3 cX11_432 (by unfold r64; omega) ?_
  refine U_callS (as := [vJ x1, vJ 1, vJ 40]) (st := []) dX11_chance_6 kX11_isIn lX11_109 rfl rfl (Nat.le_of_ble_eq_true rfl) (Nat.le_of_ble_eq_true rfl) (by omega) ?_
  refine W_X11_isIn (by omega)  h (fun r6 h => ?_)
  show n_T G d 0 0 mX11_chance 9 [vR 218, vI x1, vS 9] [vI r6] SH v Q
  refine U_if_eq (tgt := 21) dX11_chance_9 (by decide) (fun hc => ?_) (fun hc => ?_)
  · replace h := h.1 hc
    refine T_aload_n dX11_chance_21 rfl ?_
    refine T_iconst dX11_chance_22 (by decide) ?_
    refine U_callV (as := [vI 3]) (st := []) dX11_chance_23 kX11_refuses lX11_99 SH_218 rfl rfl rfl rfl (Nat.le_of_ble_eq_true rfl) (Nat.le_of_ble_eq_true rfl) (by omega) ?_
    refine W_X11_refuses (by omega)  h (fun r23 v23 h => ?_)
    show n_T G d 0 0 mX11_chance 26 [vR 218, vI x1, vS 9] [vI r23] SH v23 Q
    exact T_iret dX11_chance_26 rfl (hQ _ _ h)
  · replace h := h.2 hc
    refine T_aload_n dX11_chance_12 rfl ?_
    refine T_getR (r := 222) dX11_chance_13 fX11_23 rfl SH_218 rfl ?_
    refine T_iconst dX11_chance_16 (by decide) ?_
    refine T_iald dX11_chance_17 SH_222 (by decide) ?_
    refine U_if_ne (tgt := 27) dX11_chance_18 (by decide) (fun hc => ?_) (fun hc => ?_)
    · replace h := h.1 hc
      refine T_aload_n dX11_chance_27 rfl ?_
      refine U_callV (as := []) (st := []) dX11_chance_28 kX11_keeps lX11_379 SH_218 rfl rfl rfl rfl (Nat.le_of_ble_eq_true rfl) (Nat.le_of_ble_eq_true rfl) (by omega) ?_
      refine W_X11_keeps (by omega)  h (fun v28 h => ?_)
      show n_T G d 0 0 mX11_chance 31 [vR 218, vI x1, vS 9] [] SH v28 Q
      refine T_iconst dX11_chance_31 (by decide) ?_
      refine T_istore_n dX11_chance_32 (by decide) rfl ?_
      refine T_drop (h (fun (i2 : Int) (v33 : VT) => n_T G d 0 0 mX11_chance 33 [vR 218, vI x1, vI i2] [] SH v33 Q) (fun i2 v33 h => ?_)) ⟨Or.inl rfl, Or.inl rfl, Or.inl rfl, trivial⟩
      refine T_iload_n dX11_chance_33 rfl ?_
      refine T_iload_n dX11_chance_34 rfl ?_
      refine U_icmp_ge (tgt := 48) dX11_chance_35 (by decide) (fun hc => ?_) (fun hc => ?_)
      · replace h := h.1 hc
        refine T_aload_n dX11_chance_48 rfl ?_
        refine T_getR (r := 222) dX11_chance_49 fX11_23 rfl SH_218 rfl ?_
        refine T_iconst dX11_chance_52 (by decide) ?_
        refine T_iald dX11_chance_53 SH_222 (by decide) ?_
        exact T_iret dX11_chance_54 rfl (hQ _ _ h)
      · replace h := h.2 hc
        refine T_aload_n dX11_chance_38 rfl ?_
        refine U_callV (as := []) (st := []) dX11_chance_39 kX11_stirs lX11_434 SH_218 rfl rfl rfl rfl (Nat.le_of_ble_eq_true rfl) (Nat.le_of_ble_eq_true rfl) (by omega) ?_
        refine W_X11_stirs (by omega)  h (fun v39 h => ?_)
        show n_T G d 0 0 mX11_chance 42 [vR 218, vI x1, vI i2] [] SH v39 Q
        refine U_iinc dX11_chance_42 rfl (by decide) rfl h.1 ?_
        replace h := h.2
        refine T_goto (tgt := 33) dX11_chance_45 (by decide) ?_
        exact T_drop h ⟨Or.inl rfl, Or.inl rfl, Or.inl rfl, trivial⟩
    · replace h := h.2 hc
      refine T_aload_n dX11_chance_21 rfl ?_
      refine T_iconst dX11_chance_22 (by decide) ?_
      refine U_callV (as := [vI 3]) (st := []) dX11_chance_23 kX11_refuses lX11_99 SH_218 rfl rfl rfl rfl (Nat.le_of_ble_eq_true rfl) (Nat.le_of_ble_eq_true rfl) (by omega) ?_
      refine W_X11_refuses (by omega)  h (fun r23_1 v23_1 h => ?_)
      show n_T G d 0 0 mX11_chance 26 [vR 218, vI x1, vS 9] [vI r23_1] SH v23_1 Q
      exact T_iret dX11_chance_26 rfl (hQ _ _ h)

theorem W_X11_last {G : GT} {d : Nat} (hd : 1 ≤ d) {a0 : Nat} {n0 : Nat} {x1 : Int} (ha0 : SH[a0]? = some (.inr (0, n0, []))) (hln0 : n0 < 2147483648)  {v : VT} {q : Int → Prop} {Q : Option Vl → List Sh → VT → Prop} (h : P_X11_last a0 n0 x1 v q) (hQ : ∀ r, q r → Q (some (vI r)) SH v) : n_T G d 0 0 mX11_last 0 [vR a0, vI x1, vS 9, vS 9] [] SH v Q := by
  unfold P_X11_last at h
  refine T_sipush dX11_last_0 (by decide) ?_
  refine T_istore_n dX11_last_3 (by decide) rfl ?_
  refine T_iconst dX11_last_4 (by decide) ?_
  refine T_istore_n dX11_last_5 (by decide) rfl ?_
  refine T_drop (h (fun (i2 : Int) (i3 : Int) => n_T G d 0 0 mX11_last 6 [vR a0, vI x1, vI i2, vI i3] [] SH v Q) (fun i2 i3 h => ?_)) ⟨Or.inl rfl, Or.inl rfl, Or.inl rfl, Or.inl rfl, trivial⟩
  refine T_iload_n dX11_last_6 rfl ?_
  refine T_iload_n dX11_last_7 rfl ?_
  refine U_icmp_ge (tgt := 29) dX11_last_8 (by decide) (fun hc => ?_) (fun hc => ?_)
  · replace h := h.1 hc
    refine T_iload_n dX11_last_29 rfl ?_
    exact T_iret dX11_last_30 rfl (hQ _ h)
  · replace h := h.2 hc
    refine T_iconst dX11_last_11 (by decide) ?_
    refine T_iload_n dX11_last_12 rfl ?_
    refine U_imul dX11_last_13 h.1 ?_
    replace h := h.2
    refine T_aload_n dX11_last_14 rfl ?_
    refine T_iload_n dX11_last_15 rfl ?_
    refine T_iald dX11_last_16 ha0 h.1 ?_
    replace h := h.2
    refine U_iadd dX11_last_17 h.1 ?_
    replace h := h.2
    refine T_sipush dX11_last_18 (by decide) ?_
    refine T_irem dX11_last_21 (by decide) ?_
    refine U_istore_n dX11_last_22 (by decide) rfl (fun l2 el2 => ?_)
    replace h := h l2 el2
    refine U_iinc dX11_last_23 rfl (by decide) rfl h.1 ?_
    replace h := h.2
    refine T_goto (tgt := 6) dX11_last_26 (by decide) ?_
    exact T_drop h ⟨Or.inl rfl, Or.inl rfl, Or.inl rfl, Or.inl rfl, trivial⟩

theorem W_X11_image {G : GT} {d : Nat} (hd : 2 ≤ d)    {v : VT} {q : Int → VT → Prop} {Q : Option Vl → List Sh → VT → Prop} (h : P_X11_image  v q) (hQ : ∀ r w, q r w → Q (some (vI r)) SH w) : n_T G d 0 0 mX11_image 0 [vR 218, vS 9] [] SH v Q := by
  unfold P_X11_image at h
  refine T_aload_n dX11_image_0 rfl ?_
  refine T_getR (r := 243) dX11_image_1 fX11_93 rfl SH_218 rfl ?_
  refine T_iconst dX11_image_4 (by decide) ?_
  refine T_aload_n dX11_image_5 rfl ?_
  refine T_getR (r := 222) dX11_image_6 fX11_23 rfl SH_218 rfl ?_
  refine T_iconst dX11_image_9 (by decide) ?_
  refine T_iald dX11_image_10 SH_222 (by decide) ?_
  refine U_iast dX11_image_11 SH_243 (by decide) (fun v11 ev11 => ?_)
  replace h := h v11 ev11
  refine T_aload_n dX11_image_12 rfl ?_
  refine T_getR (r := 243) dX11_image_13 fX11_93 rfl SH_218 rfl ?_
  refine T_iconst dX11_image_16 (by decide) ?_
  refine T_aload_n dX11_image_17 rfl ?_
  refine T_getR (r := 222) dX11_image_18 fX11_23 rfl SH_218 rfl ?_
  refine T_iconst dX11_image_21 (by decide) ?_
  refine T_iald dX11_image_22 SH_222 (by decide) ?_
  refine U_iast dX11_image_23 SH_243 (by decide) (fun v23 ev23 => ?_)
  replace h := h v23 ev23
  refine T_iconst dX11_image_24 (by decide) ?_
  refine T_istore_n dX11_image_25 (by decide) rfl ?_
  refine n_cut (h (fun (v61 : VT) => n_T G d 0 0 mX11_image 61 [vR 218, vS 9] [] SH v61 Q)) ?_ ?_
  · intro v61 h
    refine T_aload_n dX11_image_61 rfl ?_
    refine T_iconst dX11_image_62 (by decide) ?_
    refine T_iconst dX11_image_63 (by decide) ?_
    refine T_aload_n dX11_image_64 rfl ?_
    refine T_getR (r := 222) dX11_image_65 fX11_23 rfl SH_218 rfl ?_
    refine T_iconst dX11_image_68 (by decide) ?_
    refine T_iald dX11_image_69 SH_222 (by decide) ?_
    refine U_imul dX11_image_70 h.1 ?_
    replace h := h.2
    refine U_iadd dX11_image_71 h.1 ?_
    replace h := h.2
    refine U_putI dX11_image_72 fX11_437 rfl rfl SH_218 (fun v72 ev72 => ?_)
    replace h := h v72 ev72
    refine T_aload_n dX11_image_75 rfl ?_
    refine T_getR (r := 243) dX11_image_76 fX11_93 rfl SH_218 rfl ?_
    refine T_aload_n dX11_image_79 rfl ?_
    refine T_getI dX11_image_80 fX11_437 rfl SH_218 ?_
    refine T_aload_n dX11_image_83 rfl ?_
    refine T_getR (r := 243) dX11_image_84 fX11_93 rfl SH_218 rfl ?_
    refine T_aload_n dX11_image_87 rfl ?_
    refine T_getI dX11_image_88 fX11_437 rfl SH_218 ?_
    refine U_callS (as := [vR 243, vI (v72 218 43)]) (st := [vI (v72 218 43), vR 243]) dX11_image_91 kX11_last lX11_440 rfl rfl (Nat.le_of_ble_eq_true rfl) (Nat.le_of_ble_eq_true rfl) (by omega) ?_
    refine W_X11_last (by omega) SH_243 (by decide) h (fun r91 h => ?_)
    show n_T G d 0 0 mX11_image 94 [vR 218, vS 9] [vI r91, vI (v72 218 43), vR 243] SH v72 Q
    refine U_iast dX11_image_94 SH_243 h.1 (fun v94 ev94 => ?_)
    replace h := h.2 v94 ev94
    refine T_aload_n dX11_image_95 rfl ?_
    refine T_dup dX11_image_96 rfl ?_
    refine T_getI dX11_image_97 fX11_437 rfl SH_218 ?_
    refine T_iconst dX11_image_100 (by decide) ?_
    refine U_iadd dX11_image_101 h.1 ?_
    replace h := h.2
    refine U_putI dX11_image_102 fX11_437 rfl rfl SH_218 (fun v102 ev102 => ?_)
    replace h := h v102 ev102
    refine T_aload_n dX11_image_105 rfl ?_
    refine T_getI dX11_image_106 fX11_437 rfl SH_218 ?_
    exact T_iret dX11_image_109 rfl (hQ _ _ h)
  · intro h
    refine T_drop (h (fun (i1 : Int) (v26 : VT) => n_T G d 0 0 mX11_image 26 [vR 218, vI i1] [] SH v26 Q) (fun i1 v26 h => ?_)) ⟨Or.inl rfl, Or.inl rfl, trivial⟩
    refine T_iload_n dX11_image_26 rfl ?_
    refine T_iconst dX11_image_27 (by decide) ?_
    refine T_aload_n dX11_image_28 rfl ?_
    refine T_getR (r := 222) dX11_image_29 fX11_23 rfl SH_218 rfl ?_
    refine T_iconst dX11_image_32 (by decide) ?_
    refine T_iald dX11_image_33 SH_222 (by decide) ?_
    refine U_imul dX11_image_34 h.1 ?_
    replace h := h.2
    refine U_icmp_ge (tgt := 61) dX11_image_35 (by decide) (fun hc => ?_) (fun hc => ?_)
    · replace h := h.1 hc
      exact T_drop h ⟨Or.inl rfl, Or.inr rfl, trivial⟩
    · replace h := h.2 hc
      refine T_aload_n dX11_image_38 rfl ?_
      refine T_getR (r := 243) dX11_image_39 fX11_93 rfl SH_218 rfl ?_
      refine T_iconst dX11_image_42 (by decide) ?_
      refine T_iload_n dX11_image_43 rfl ?_
      refine U_iadd dX11_image_44 h.1 ?_
      replace h := h.2
      refine T_aload_n dX11_image_45 rfl ?_
      refine T_getR (r := 222) dX11_image_46 fX11_23 rfl SH_218 rfl ?_
      refine T_bipush dX11_image_49 (by decide) ?_
      refine T_iload_n dX11_image_51 rfl ?_
      refine U_iadd dX11_image_52 h.1 ?_
      replace h := h.2
      refine T_iald dX11_image_53 SH_222 h.1 ?_
      replace h := h.2
      refine U_iast dX11_image_54 SH_243 h.1 (fun v54 ev54 => ?_)
      replace h := h.2 v54 ev54
      refine U_iinc dX11_image_55 rfl (by decide) rfl h.1 ?_
      replace h := h.2
      refine T_goto (tgt := 26) dX11_image_58 (by decide) ?_
      exact T_drop h ⟨Or.inl rfl, Or.inl rfl, trivial⟩

theorem W_X11_octet {G : GT} {d : Nat} (hd : 2 ≤ d) {x1 : Int}   {v : VT} {q : Int → Prop} {Q : Option Vl → List Sh → VT → Prop} (h : P_X11_octet x1 v q) (hQ : ∀ r, q r → Q (some (vI r)) SH v) : n_T G d 0 0 mX11_octet 0 [vR 218, vI x1] [] SH v Q := by
  unfold P_X11_octet at h
  refine T_iload_n dX11_octet_0 rfl ?_
  refine T_i2l dX11_octet_1 ?_
  refine T_lconst dX11_octet_2 ?_
  refine T_aload_n dX11_octet_3 rfl ?_
  refine T_getI dX11_octet_4 fX11_437 rfl SH_218 ?_
  refine T_iconst dX11_octet_7 (by decide) ?_
  refine U_isub dX11_octet_8 h.1 ?_
  replace h := h.2
  refine T_i2l dX11_octet_9 ?_
  refine U_callS (as := [vJ x1, vJ 0, vJ ((v 218 43) - 1)]) (st := []) dX11_octet_10 kX11_isIn lX11_109 rfl rfl (Nat.le_of_ble_eq_true rfl) (Nat.le_of_ble_eq_true rfl) (by omega) ?_
  refine W_X11_isIn (by omega)  h (fun r10 h => ?_)
  show n_T G d 0 0 mX11_octet 13 [vR 218, vI x1] [vI r10] SH v Q
  refine U_if_eq (tgt := 25) dX11_octet_13 (by decide) (fun hc => ?_) (fun hc => ?_)
  · replace h := h.1 hc
    refine T_iconst dX11_octet_25 (by decide) ?_
    exact T_iret dX11_octet_26 rfl (hQ _ h)
  · replace h := h.2 hc
    refine T_aload_n dX11_octet_16 rfl ?_
    refine T_getR (r := 243) dX11_octet_17 fX11_93 rfl SH_218 rfl ?_
    refine T_iload_n dX11_octet_20 rfl ?_
    refine T_iald dX11_octet_21 SH_243 h.1 ?_
    replace h := h.2
    refine T_goto (tgt := 26) dX11_octet_22 (by decide) ?_
    exact T_iret dX11_octet_26 rfl (hQ _ h)

theorem W_X11_isImage {G : GT} {d : Nat} (hd : 2 ≤ d) {x1 : Int}   {v : VT} {q : Int → VT → Prop} {Q : Option Vl → List Sh → VT → Prop} (h : P_X11_isImage x1 v q) (hQ : ∀ r w, q r w → Q (some (vI r)) SH w) : n_T G d 0 0 mX11_isImage 0 [vR 218, vI x1, vS 9] [] SH v Q := by
  unfold P_X11_isImage at h
  refine T_iload_n dX11_isImage_0 rfl ?_
  refine T_iconst dX11_isImage_1 (by decide) ?_
  refine U_icmp_lt (tgt := 68) dX11_isImage_2 (by decide) (fun hc => ?_) (fun hc => ?_)
  · replace h := h.1 hc
    refine T_iconst dX11_isImage_68 (by decide) ?_
    exact T_zret dX11_isImage_69 rfl (by decide) (hQ _ _ h)
  · replace h := h.2 hc
    refine T_aload_n dX11_isImage_5 rfl ?_
    refine T_getR (r := 219) dX11_isImage_6 fX11_7 rfl SH_218 rfl ?_
    refine T_iconst dX11_isImage_9 (by decide) ?_
    refine T_iald dX11_isImage_10 SH_219 (by decide) ?_
    refine T_i2l dX11_isImage_11 ?_
    refine T_lconst dX11_isImage_12 ?_
    refine T_ldc2 (n := 24) dX11_isImage_13 cX11_443 (by unfold r64; omega) ?_
    refine U_callS (as := [vJ (v 219 0), vJ 1, vJ 24]) (st := []) dX11_isImage_16 kX11_isIn lX11_109 rfl rfl (Nat.le_of_ble_eq_true rfl) (Nat.le_of_ble_eq_true rfl) (by omega) ?_
    refine W_X11_isIn (by omega)  h (fun r16 h => ?_)
    show n_T G d 0 0 mX11_isImage 19 [vR 218, vI x1, vS 9] [vI r16] SH v Q
    refine U_if_eq (tgt := 68) dX11_isImage_19 (by decide) (fun hc => ?_) (fun hc => ?_)
    · replace h := h.1 hc
      refine T_iconst dX11_isImage_68 (by decide) ?_
      exact T_zret dX11_isImage_69 rfl (by decide) (hQ _ _ h)
    · replace h := h.2 hc
      refine T_aload_n dX11_isImage_22 rfl ?_
      refine T_getR (r := 219) dX11_isImage_23 fX11_7 rfl SH_218 rfl ?_
      refine T_iconst dX11_isImage_26 (by decide) ?_
      refine T_iald dX11_isImage_27 SH_219 (by decide) ?_
      refine T_bipush dX11_isImage_28 (by decide) ?_
      refine U_icmp_gt (tgt := 68) dX11_isImage_30 (by decide) (fun hc => ?_) (fun hc => ?_)
      · replace h := h.1 hc
        refine T_iconst dX11_isImage_68 (by decide) ?_
        exact T_zret dX11_isImage_69 rfl (by decide) (hQ _ _ h)
      · replace h := h.2 hc
        refine T_iload_n dX11_isImage_33 rfl ?_
        refine T_iconst dX11_isImage_34 (by decide) ?_
        refine T_iconst dX11_isImage_35 (by decide) ?_
        refine T_aload_n dX11_isImage_36 rfl ?_
        refine T_getR (r := 219) dX11_isImage_37 fX11_7 rfl SH_218 rfl ?_
        refine T_iconst dX11_isImage_40 (by decide) ?_
        refine T_iald dX11_isImage_41 SH_219 (by decide) ?_
        refine U_imul dX11_isImage_42 h.1 ?_
        replace h := h.2
        refine U_iadd dX11_isImage_43 h.1 ?_
        replace h := h.2
        refine U_icmp_ne (tgt := 68) dX11_isImage_44 (by decide) (fun hc => ?_) (fun hc => ?_)
        · replace h := h.1 hc
          refine T_iconst dX11_isImage_68 (by decide) ?_
          exact T_zret dX11_isImage_69 rfl (by decide) (hQ _ _ h)
        · replace h := h.2 hc
          refine T_aload_n dX11_isImage_47 rfl ?_
          refine T_getR (r := 219) dX11_isImage_48 fX11_7 rfl SH_218 rfl ?_
          refine T_iload_n dX11_isImage_51 rfl ?_
          refine T_iconst dX11_isImage_52 (by decide) ?_
          refine U_isub dX11_isImage_53 h.1 ?_
          replace h := h.2
          refine T_iald dX11_isImage_54 SH_219 h.1 ?_
          replace h := h.2
          refine T_aload_n dX11_isImage_55 rfl ?_
          refine T_getR (r := 219) dX11_isImage_56 fX11_7 rfl SH_218 rfl ?_
          refine T_iload_n dX11_isImage_59 rfl ?_
          refine T_iconst dX11_isImage_60 (by decide) ?_
          refine U_isub dX11_isImage_61 h.1 ?_
          replace h := h.2
          refine U_callS (as := [vR 219, vI (x1 - 1)]) (st := [vI (v 219 (x1 - 1).toNat)]) dX11_isImage_62 kX11_last lX11_440 rfl rfl (Nat.le_of_ble_eq_true rfl) (Nat.le_of_ble_eq_true rfl) (by omega) ?_
          refine W_X11_last (by omega) SH_219 (by decide) h (fun r62 h => ?_)
          show n_T G d 0 0 mX11_isImage 65 [vR 218, vI x1, vS 9] [vI r62, vI (v 219 (x1 - 1).toNat)] SH v Q
          refine U_icmp_eq (tgt := 70) dX11_isImage_65 (by decide) (fun hc => ?_) (fun hc => ?_)
          · replace h := h.1 hc
            refine T_iconst dX11_isImage_70 (by decide) ?_
            refine T_istore_n dX11_isImage_71 (by decide) rfl ?_
            refine n_cut (h (fun (v92 : VT) => n_T G d 0 0 mX11_isImage 92 [vR 218, vI x1, vS 9] [] SH v92 Q)) ?_ ?_
            · intro v92 h
              refine T_aload_n dX11_isImage_92 rfl ?_
              refine T_getR (r := 223) dX11_isImage_93 fX11_26 rfl SH_218 rfl ?_
              refine T_iconst dX11_isImage_96 (by decide) ?_
              refine T_aload_n dX11_isImage_97 rfl ?_
              refine T_getR (r := 219) dX11_isImage_98 fX11_7 rfl SH_218 rfl ?_
              refine T_iconst dX11_isImage_101 (by decide) ?_
              refine T_iald dX11_isImage_102 SH_219 (by decide) ?_
              refine U_iast dX11_isImage_103 SH_223 (by decide) (fun v103 ev103 => ?_)
              replace h := h v103 ev103
              refine T_iconst dX11_isImage_104 (by decide) ?_
              refine T_istore_n dX11_isImage_105 (by decide) rfl ?_
              refine T_drop (h (fun (i2 : Int) (v106 : VT) => n_T G d 0 0 mX11_isImage 106 [vR 218, vI x1, vI i2] [] SH v106 Q) (fun i2 v106 h => ?_)) ⟨Or.inl rfl, Or.inl rfl, Or.inl rfl, trivial⟩
              refine T_iload_n dX11_isImage_106 rfl ?_
              refine T_iload_n dX11_isImage_107 rfl ?_
              refine T_iconst dX11_isImage_108 (by decide) ?_
              refine U_isub dX11_isImage_109 h.1 ?_
              replace h := h.2
              refine U_icmp_ge (tgt := 202) dX11_isImage_110 (by decide) (fun hc => ?_) (fun hc => ?_)
              · replace h := h.1 hc
                refine T_iconst dX11_isImage_202 (by decide) ?_
                exact T_zret dX11_isImage_203 rfl (by decide) (hQ _ _ h)
              · replace h := h.2 hc
                refine T_aload_n dX11_isImage_113 rfl ?_
                refine T_getR (r := 219) dX11_isImage_114 fX11_7 rfl SH_218 rfl ?_
                refine T_iload_n dX11_isImage_117 rfl ?_
                refine T_iald dX11_isImage_118 SH_219 h.1 ?_
                replace h := h.2
                refine T_aload_n dX11_isImage_119 rfl ?_
                refine T_getR (r := 219) dX11_isImage_120 fX11_7 rfl SH_218 rfl ?_
                refine T_iload_n dX11_isImage_123 rfl ?_
                refine T_iconst dX11_isImage_124 (by decide) ?_
                refine U_iadd dX11_isImage_125 h.1 ?_
                replace h := h.2
                refine T_iald dX11_isImage_126 SH_219 h.1 ?_
                replace h := h.2
                refine U_icmp_ge (tgt := 172) dX11_isImage_127 (by decide) (fun hc => ?_) (fun hc => ?_)
                · replace h := h.1 hc
                  refine T_iconst dX11_isImage_172 (by decide) ?_
                  exact T_zret dX11_isImage_173 rfl (by decide) (hQ _ _ h)
                · replace h := h.2 hc
                  refine T_aload_n dX11_isImage_130 rfl ?_
                  refine T_getR (r := 219) dX11_isImage_131 fX11_7 rfl SH_218 rfl ?_
                  refine T_iload_n dX11_isImage_134 rfl ?_
                  refine T_iconst dX11_isImage_135 (by decide) ?_
                  refine U_iadd dX11_isImage_136 h.1 ?_
                  replace h := h.2
                  refine T_iald dX11_isImage_137 SH_219 h.1 ?_
                  replace h := h.2
                  refine T_aload_n dX11_isImage_138 rfl ?_
                  refine T_getR (r := 219) dX11_isImage_139 fX11_7 rfl SH_218 rfl ?_
                  refine T_iconst dX11_isImage_142 (by decide) ?_
                  refine T_iald dX11_isImage_143 SH_219 (by decide) ?_
                  refine U_icmp_ge (tgt := 172) dX11_isImage_144 (by decide) (fun hc => ?_) (fun hc => ?_)
                  · replace h := h.1 hc
                    refine T_iconst dX11_isImage_172 (by decide) ?_
                    exact T_zret dX11_isImage_173 rfl (by decide) (hQ _ _ h)
                  · replace h := h.2 hc
                    refine T_aload_n dX11_isImage_147 rfl ?_
                    refine T_getR (r := 223) dX11_isImage_148 fX11_26 rfl SH_218 rfl ?_
                    refine T_aload_n dX11_isImage_151 rfl ?_
                    refine T_getR (r := 219) dX11_isImage_152 fX11_7 rfl SH_218 rfl ?_
                    refine T_iload_n dX11_isImage_155 rfl ?_
                    refine T_iald dX11_isImage_156 SH_219 h.1 ?_
                    replace h := h.2
                    refine T_aload_n dX11_isImage_157 rfl ?_
                    refine T_getR (r := 219) dX11_isImage_158 fX11_7 rfl SH_218 rfl ?_
                    refine T_iload_n dX11_isImage_161 rfl ?_
                    refine T_iconst dX11_isImage_162 (by decide) ?_
                    refine U_iadd dX11_isImage_163 h.1 ?_
                    replace h := h.2
                    refine T_iald dX11_isImage_164 SH_219 h.1 ?_
                    replace h := h.2
                    refine U_callS (as := [vR 223, vI (v106 219 i2.toNat), vI (v106 219 (i2 + 1).toNat)]) (st := []) dX11_isImage_165 kX11_lineOf lX11_169 rfl rfl (Nat.le_of_ble_eq_true rfl) (Nat.le_of_ble_eq_true rfl) (by omega) ?_
                    refine W_X11_lineOf (by omega) SH_223 h (fun r165 h => ?_)
                    show n_T G d 0 0 mX11_isImage 168 [vR 218, vI x1, vI i2] [vI r165] SH v106 Q
                    refine T_iconst dX11_isImage_168 (by decide) ?_
                    refine U_icmp_eq (tgt := 174) dX11_isImage_169 (by decide) (fun hc => ?_) (fun hc => ?_)
                    · replace h := h.1 hc
                      refine T_aload_n dX11_isImage_174 rfl ?_
                      refine T_getR (r := 223) dX11_isImage_175 fX11_26 rfl SH_218 rfl ?_
                      refine T_aload_n dX11_isImage_178 rfl ?_
                      refine T_getR (r := 219) dX11_isImage_179 fX11_7 rfl SH_218 rfl ?_
                      refine T_iload_n dX11_isImage_182 rfl ?_
                      refine T_iald dX11_isImage_183 SH_219 h.1 ?_
                      replace h := h.2
                      refine T_aload_n dX11_isImage_184 rfl ?_
                      refine T_getR (r := 219) dX11_isImage_185 fX11_7 rfl SH_218 rfl ?_
                      refine T_iload_n dX11_isImage_188 rfl ?_
                      refine T_iconst dX11_isImage_189 (by decide) ?_
                      refine U_iadd dX11_isImage_190 h.1 ?_
                      replace h := h.2
                      refine T_iald dX11_isImage_191 SH_219 h.1 ?_
                      replace h := h.2
                      refine T_iconst dX11_isImage_192 (by decide) ?_
                      refine U_callS (as := [vR 223, vI (v106 219 i2.toNat), vI (v106 219 (i2 + 1).toNat), vI 1]) (st := []) dX11_isImage_193 kX11_adds lX11_173 rfl rfl (Nat.le_of_ble_eq_true rfl) (Nat.le_of_ble_eq_true rfl) (by omega) ?_
                      refine W_X11_adds (by omega) SH_223 h (fun v193 h => ?_)
                      show n_T G d 0 0 mX11_isImage 196 [vR 218, vI x1, vI i2] [] SH v193 Q
                      refine U_iinc dX11_isImage_196 rfl (by decide) rfl h.1 ?_
                      replace h := h.2
                      refine T_goto (tgt := 106) dX11_isImage_199 (by decide) ?_
                      exact T_drop h ⟨Or.inl rfl, Or.inl rfl, Or.inl rfl, trivial⟩
                    · replace h := h.2 hc
                      refine T_iconst dX11_isImage_172 (by decide) ?_
                      exact T_zret dX11_isImage_173 rfl (by decide) (hQ _ _ h)
            · intro h
              refine T_drop (h (fun (i2_1 : Int) (v72 : VT) => n_T G d 0 0 mX11_isImage 72 [vR 218, vI x1, vI i2_1] [] SH v72 Q) (fun i2_1 v72 h => ?_)) ⟨Or.inl rfl, Or.inl rfl, Or.inl rfl, trivial⟩
              refine T_iload_n dX11_isImage_72 rfl ?_
              refine T_sipush dX11_isImage_73 (by decide) ?_
              refine U_icmp_ge (tgt := 92) dX11_isImage_76 (by decide) (fun hc => ?_) (fun hc => ?_)
              · replace h := h.1 hc
                exact T_drop h ⟨Or.inl rfl, Or.inl rfl, Or.inr rfl, trivial⟩
              · replace h := h.2 hc
                refine T_aload_n dX11_isImage_79 rfl ?_
                refine T_getR (r := 223) dX11_isImage_80 fX11_26 rfl SH_218 rfl ?_
                refine T_iload_n dX11_isImage_83 rfl ?_
                refine T_iconst dX11_isImage_84 (by decide) ?_
                refine U_iast dX11_isImage_85 SH_223 h.1 (fun v85 ev85 => ?_)
                replace h := h.2 v85 ev85
                refine U_iinc dX11_isImage_86 rfl (by decide) rfl h.1 ?_
                replace h := h.2
                refine T_goto (tgt := 72) dX11_isImage_89 (by decide) ?_
                exact T_drop h ⟨Or.inl rfl, Or.inl rfl, Or.inl rfl, trivial⟩
          · replace h := h.2 hc
            refine T_iconst dX11_isImage_68 (by decide) ?_
            exact T_zret dX11_isImage_69 rfl (by decide) (hQ _ _ h)

theorem W_X11_on {G : GT} {d : Nat} (hd : 3 ≤ d)    {v : VT} {q : Int → VT → Prop} {Q : Option Vl → List Sh → VT → Prop} (h : P_X11_on  v q) (hQ : ∀ r w, q r w → Q (some (vI r)) SH w) : n_T G d 0 0 mX11_on 0 [vR 218, vS 9] [] SH v Q := by
  unfold P_X11_on at h
  refine T_aload_n dX11_on_0 rfl ?_
  refine T_getI dX11_on_1 fX11_96 rfl SH_218 ?_
  refine T_istore_n dX11_on_4 (by decide) rfl ?_
  refine T_aload_n dX11_on_5 rfl ?_
  refine T_iconst dX11_on_6 (by decide) ?_
  refine U_putI dX11_on_7 fX11_96 rfl rfl SH_218 (fun v7 ev7 => ?_)
  replace h := h v7 ev7
  refine T_aload_n dX11_on_10 rfl ?_
  refine T_iload_n dX11_on_11 rfl ?_
  refine U_callV (as := [vI (v 218 1)]) (st := []) dX11_on_12 kX11_isImage lX11_445 SH_218 rfl rfl rfl rfl (Nat.le_of_ble_eq_true rfl) (Nat.le_of_ble_eq_true rfl) (by omega) ?_
  refine W_X11_isImage (by omega)  h (fun r12 v12 h => ?_)
  show n_T G d 0 0 mX11_on 15 [vR 218, vI (v 218 1)] [vI r12] SH v12 Q
  refine U_if_ne (tgt := 24) dX11_on_15 (by decide) (fun hc => ?_) (fun hc => ?_)
  · replace h := h.1 hc
    refine T_aload_n dX11_on_24 rfl ?_
    refine U_callV (as := []) (st := []) dX11_on_25 kX11_isNext lX11_396 SH_218 rfl rfl rfl rfl (Nat.le_of_ble_eq_true rfl) (Nat.le_of_ble_eq_true rfl) (by omega) ?_
    refine W_X11_isNext (by omega)  h (fun v25 h => ?_)
    show n_T G d 0 0 mX11_on 28 [vR 218, vI (v 218 1)] [] SH v25 Q
    refine T_aload_n dX11_on_28 rfl ?_
    refine T_iconst dX11_on_29 (by decide) ?_
    refine U_putI dX11_on_30 fX11_199 rfl rfl SH_218 (fun v30 ev30 => ?_)
    replace h := h v30 ev30
    refine T_iconst dX11_on_33 (by decide) ?_
    exact T_zret dX11_on_34 rfl (by decide) (hQ _ _ h)
  · replace h := h.2 hc
    refine T_aload_n dX11_on_18 rfl ?_
    refine T_iconst dX11_on_19 (by decide) ?_
    refine U_callV (as := [vI 5]) (st := []) dX11_on_20 kX11_isRefused lX11_103 SH_218 rfl rfl rfl rfl (Nat.le_of_ble_eq_true rfl) (Nat.le_of_ble_eq_true rfl) (by omega) ?_
    refine W_X11_isRefused (by omega)  h (fun r20 v20 h => ?_)
    show n_T G d 0 0 mX11_on 23 [vR 218, vI (v 218 1)] [vI r20] SH v20 Q
    exact T_zret dX11_on_23 rfl h.1 (hQ _ _ h.2)


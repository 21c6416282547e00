abbrev mL_law : MT := (yL_law, cL_law, 4, some .boolean)
theorem W_L_law {G : GT} {d : Nat} (hd : 90 ≤ d) (hL : g_L G < 2147483648) {v : VT} {q : Int → VT → Prop} {Q : Option Vl → List Sh → VT → Prop} (h : P_L_law G v q) (hQ : ∀ r w, q r w → Q (some (vI r)) SH w) : n_T G d 0 0 mL_law 16 [vS 0, vR 0, vR 218, vS 9] [] SH v Q := by
  unfold P_L_law at h
  refine T_iconst dL_law_16 (by decide) ?_
  refine T_istore_n dL_law_17 (by decide) rfl ?_
  refine T_drop (h (fun (i3 : Int) (v18 : VT) => n_T G d 0 0 mL_law 18 [vS 0, vR 0, vR 218, vI i3] [] SH v18 Q) (fun i3 v18 h => ?_)) ⟨Or.inl rfl, Or.inl rfl, Or.inl rfl, Or.inl rfl, trivial⟩
  refine T_iload_n dL_law_18 rfl ?_
  refine T_aload_nS dL_law_19 rfl rfl ?_
  refine T_slen dL_law_20 hL ?_
  refine T_bipush dL_law_21 (by decide) ?_
  refine U_isub dL_law_23 h.1 ?_
  replace h := h.2
  refine U_icmp_gt (tgt := 1598) dL_law_24 (by decide) (fun hc => ?_) (fun hc => ?_)
  · replace h := h.1 hc
    refine T_iconst dL_law_1598 (by decide) ?_
    exact T_zret dL_law_1599 rfl (by decide) (hQ _ _ h)
  · replace h := h.2 hc
    refine T_aload_nS dL_law_27 rfl rfl ?_
    refine T_iload_n dL_law_28 rfl ?_
    refine T_sld dL_law_29 h.1 ?_
    replace h := h.2
    refine T_bipush dL_law_30 (by decide) ?_
    refine T_iand dL_law_32 ?_
    rcases (by omega : (i_and (w32 (g_xs G i3.toNat)) 63) = 0 ∨ (i_and (w32 (g_xs G i3.toNat)) 63) = 1 ∨ (i_and (w32 (g_xs G i3.toNat)) 63) = 2 ∨ (i_and (w32 (g_xs G i3.toNat)) 63) = 3 ∨ (i_and (w32 (g_xs G i3.toNat)) 63) = 4 ∨ (i_and (w32 (g_xs G i3.toNat)) 63) = 5 ∨ (i_and (w32 (g_xs G i3.toNat)) 63) = 6 ∨ (i_and (w32 (g_xs G i3.toNat)) 63) = 7 ∨ (i_and (w32 (g_xs G i3.toNat)) 63) = 8 ∨ (i_and (w32 (g_xs G i3.toNat)) 63) = 9 ∨ (i_and (w32 (g_xs G i3.toNat)) 63) = 10 ∨ (i_and (w32 (g_xs G i3.toNat)) 63) = 11 ∨ (i_and (w32 (g_xs G i3.toNat)) 63) = 12 ∨ (i_and (w32 (g_xs G i3.toNat)) 63) = 13 ∨ (i_and (w32 (g_xs G i3.toNat)) 63) = 14 ∨ (i_and (w32 (g_xs G i3.toNat)) 63) = 15 ∨ (i_and (w32 (g_xs G i3.toNat)) 63) = 16 ∨ (i_and (w32 (g_xs G i3.toNat)) 63) = 17 ∨ (i_and (w32 (g_xs G i3.toNat)) 63) = 18 ∨ (i_and (w32 (g_xs G i3.toNat)) 63) = 19 ∨ (i_and (w32 (g_xs G i3.toNat)) 63) = 20 ∨ (i_and (w32 (g_xs G i3.toNat)) 63) = 21 ∨ (i_and (w32 (g_xs G i3.toNat)) 63) = 22 ∨ (i_and (w32 (g_xs G i3.toNat)) 63) = 23 ∨ (i_and (w32 (g_xs G i3.toNat)) 63) = 24 ∨ (i_and (w32 (g_xs G i3.toNat)) 63) = 25 ∨ (i_and (w32 (g_xs G i3.toNat)) 63) = 26 ∨ (i_and (w32 (g_xs G i3.toNat)) 63) = 27 ∨ (i_and (w32 (g_xs G i3.toNat)) 63) = 28 ∨ (i_and (w32 (g_xs G i3.toNat)) 63) = 29 ∨ (i_and (w32 (g_xs G i3.toNat)) 63) = 30 ∨ (i_and (w32 (g_xs G i3.toNat)) 63) = 31 ∨ (i_and (w32 (g_xs G i3.toNat)) 63) = 32 ∨ (i_and (w32 (g_xs G i3.toNat)) 63) = 33 ∨ (i_and (w32 (g_xs G i3.toNat)) 63) = 34 ∨ (i_and (w32 (g_xs G i3.toNat)) 63) = 35 ∨ (i_and (w32 (g_xs G i3.toNat)) 63) = 36 ∨ (i_and (w32 (g_xs G i3.toNat)) 63) = 37 ∨ (i_and (w32 (g_xs G i3.toNat)) 63) = 38 ∨ (i_and (w32 (g_xs G i3.toNat)) 63) = 39 ∨ (i_and (w32 (g_xs G i3.toNat)) 63) = 40 ∨ (i_and (w32 (g_xs G i3.toNat)) 63) = 41 ∨ (i_and (w32 (g_xs G i3.toNat)) 63) = 42 ∨ (i_and (w32 (g_xs G i3.toNat)) 63) = 43 ∨ (i_and (w32 (g_xs G i3.toNat)) 63) = 44 ∨ (i_and (w32 (g_xs G i3.toNat)) 63) = 45 ∨ (i_and (w32 (g_xs G i3.toNat)) 63) = 46 ∨ (i_and (w32 (g_xs G i3.toNat)) 63) = 47 ∨ (i_and (w32 (g_xs G i3.toNat)) 63) = 48 ∨ (i_and (w32 (g_xs G i3.toNat)) 63) = 49 ∨ (i_and (w32 (g_xs G i3.toNat)) 63) = 50 ∨ (i_and (w32 (g_xs G i3.toNat)) 63) = 51 ∨ ((i_and (w32 (g_xs G i3.toNat)) 63) < 0 ∨ 51 < (i_and (w32 (g_xs G i3.toNat)) 63))) with hc | hc | hc | hc | hc | hc | hc | hc | hc | hc | hc | hc | hc | hc | hc | hc | hc | hc | hc | hc | hc | hc | hc | hc | hc | hc | hc | hc | hc | hc | hc | hc | hc | hc | hc | hc | hc | hc | hc | hc | hc | hc | hc | hc | hc | hc | hc | hc | hc | hc | hc | hc | hc
    · refine U_tab (tgt := 256) dL_law_33 0 hc (by decide) rfl (by decide) ?_
      replace h := h.1 hc
      refine T_aload_n dL_law_256 rfl ?_
      refine T_aload_nS dL_law_257 rfl rfl ?_
      refine T_iload_n dL_law_258 rfl ?_
      refine T_iconst dL_law_259 (by decide) ?_
      refine U_iadd dL_law_260 h.1 ?_
      replace h := h.2
      refine T_sld dL_law_261 h.1 ?_
      replace h := h.2
      refine T_aload_nS dL_law_262 rfl rfl ?_
      refine T_iload_n dL_law_263 rfl ?_
      refine T_iconst dL_law_264 (by decide) ?_
      refine U_iadd dL_law_265 h.1 ?_
      replace h := h.2
      refine T_sld dL_law_266 h.1 ?_
      replace h := h.2
      refine T_aload_nS dL_law_267 rfl rfl ?_
      refine T_iload_n dL_law_268 rfl ?_
      refine T_iconst dL_law_269 (by decide) ?_
      refine U_iadd dL_law_270 h.1 ?_
      replace h := h.2
      refine T_sld dL_law_271 h.1 ?_
      replace h := h.2
      refine T_aload_nS dL_law_272 rfl rfl ?_
      refine T_iload_n dL_law_273 rfl ?_
      refine T_iconst dL_law_274 (by decide) ?_
      refine U_iadd dL_law_275 h.1 ?_
      replace h := h.2
      refine T_sld dL_law_276 h.1 ?_
      replace h := h.2
      refine T_aload_nS dL_law_277 rfl rfl ?_
      refine T_iload_n dL_law_278 rfl ?_
      refine T_iconst dL_law_279 (by decide) ?_
      refine U_iadd dL_law_280 h.1 ?_
      replace h := h.2
      refine T_sld dL_law_281 h.1 ?_
      replace h := h.2
      refine U_callV (as := [vI (w32 (g_xs G (i3 + 1).toNat)), vI (w32 (g_xs G (i3 + 2).toNat)), vI (w32 (g_xs G (i3 + 3).toNat)), vI (w32 (g_xs G (i3 + 4).toNat)), vI (w32 (g_xs G (i3 + 5).toNat))]) (st := []) dL_law_282 kX10_feed lL_13 SH_0 rfl rfl rfl rfl (Nat.le_of_ble_eq_true rfl) (Nat.le_of_ble_eq_true rfl) (by omega) ?_
      refine W_X10_feed (by omega)  h (fun r282 v282 h => ?_)
      show n_T G d 0 0 mL_law 285 [vS 0, vR 0, vR 218, vI i3] [vI r282] SH v282 Q
      refine T_aload_n dL_law_285 rfl ?_
      refine T_aload_nS dL_law_286 rfl rfl ?_
      refine T_iload_n dL_law_287 rfl ?_
      refine T_iconst dL_law_288 (by decide) ?_
      refine U_iadd dL_law_289 h.1 ?_
      replace h := h.2
      refine T_sld dL_law_290 h.1 ?_
      replace h := h.2
      refine T_aload_nS dL_law_291 rfl rfl ?_
      refine T_iload_n dL_law_292 rfl ?_
      refine T_iconst dL_law_293 (by decide) ?_
      refine U_iadd dL_law_294 h.1 ?_
      replace h := h.2
      refine T_sld dL_law_295 h.1 ?_
      replace h := h.2
      refine T_aload_nS dL_law_296 rfl rfl ?_
      refine T_iload_n dL_law_297 rfl ?_
      refine T_iconst dL_law_298 (by decide) ?_
      refine U_iadd dL_law_299 h.1 ?_
      replace h := h.2
      refine T_sld dL_law_300 h.1 ?_
      replace h := h.2
      refine T_aload_nS dL_law_301 rfl rfl ?_
      refine T_iload_n dL_law_302 rfl ?_
      refine T_iconst dL_law_303 (by decide) ?_
      refine U_iadd dL_law_304 h.1 ?_
      replace h := h.2
      refine T_sld dL_law_305 h.1 ?_
      replace h := h.2
      refine T_aload_nS dL_law_306 rfl rfl ?_
      refine T_iload_n dL_law_307 rfl ?_
      refine T_iconst dL_law_308 (by decide) ?_
      refine U_iadd dL_law_309 h.1 ?_
      replace h := h.2
      refine T_sld dL_law_310 h.1 ?_
      replace h := h.2
      refine U_callV (as := [vI (w32 (g_xs G (i3 + 1).toNat)), vI (w32 (g_xs G (i3 + 2).toNat)), vI (w32 (g_xs G (i3 + 3).toNat)), vI (w32 (g_xs G (i3 + 4).toNat)), vI (w32 (g_xs G (i3 + 5).toNat))]) (st := [vI r282]) dL_law_311 kX11_feed lL_17 SH_218 rfl rfl rfl rfl (Nat.le_of_ble_eq_true rfl) (Nat.le_of_ble_eq_true rfl) (by omega) ?_
      refine W_X11_feed (by omega)  h (fun r311 v311 h => ?_)
      show n_T G d 0 0 mL_law 314 [vS 0, vR 0, vR 218, vI i3] [vI r311, vI r282] SH v311 Q
      refine U_icmp_eq (tgt := 1592) dL_law_314 (by decide) (fun hc => ?_) (fun hc => ?_)
      · replace h := h.1 hc
        refine U_iinc dL_law_1592 rfl (by decide) rfl h.1 ?_
        replace h := h.2
        refine T_goto (tgt := 18) dL_law_1595 (by decide) ?_
        exact T_drop h ⟨Or.inl rfl, Or.inl rfl, Or.inl rfl, Or.inl rfl, trivial⟩
      · replace h := h.2 hc
        refine T_iconst dL_law_317 (by decide) ?_
        exact T_zret dL_law_318 rfl (by decide) (hQ _ _ h)
    · refine U_tab (tgt := 319) dL_law_33 1 hc (by decide) rfl (by decide) ?_
      replace h := h.2.1 hc
      refine T_aload_n dL_law_319 rfl ?_
      refine T_aload_nS dL_law_320 rfl rfl ?_
      refine T_iload_n dL_law_321 rfl ?_
      refine T_iconst dL_law_322 (by decide) ?_
      refine U_iadd dL_law_323 h.1 ?_
      replace h := h.2
      refine T_sld dL_law_324 h.1 ?_
      replace h := h.2
      refine U_callV (as := [vI (w32 (g_xs G (i3 + 1).toNat))]) (st := []) dL_law_325 kX10_end lL_18 SH_0 rfl rfl rfl rfl (Nat.le_of_ble_eq_true rfl) (Nat.le_of_ble_eq_true rfl) (by omega) ?_
      refine W_X10_end (by omega)  h (fun r325 v325 h => ?_)
      show n_T G d 0 0 mL_law 328 [vS 0, vR 0, vR 218, vI i3] [vI r325] SH v325 Q
      refine T_aload_n dL_law_328 rfl ?_
      refine T_aload_nS dL_law_329 rfl rfl ?_
      refine T_iload_n dL_law_330 rfl ?_
      refine T_iconst dL_law_331 (by decide) ?_
      refine U_iadd dL_law_332 h.1 ?_
      replace h := h.2
      refine T_sld dL_law_333 h.1 ?_
      replace h := h.2
      refine U_callV (as := [vI (w32 (g_xs G (i3 + 1).toNat))]) (st := [vI r325]) dL_law_334 kX11_end lL_22 SH_218 rfl rfl rfl rfl (Nat.le_of_ble_eq_true rfl) (Nat.le_of_ble_eq_true rfl) (by omega) ?_
      refine W_X11_end (by omega)  h (fun r334 v334 h => ?_)
      show n_T G d 0 0 mL_law 337 [vS 0, vR 0, vR 218, vI i3] [vI r334, vI r325] SH v334 Q
      refine U_icmp_eq (tgt := 1592) dL_law_337 (by decide) (fun hc => ?_) (fun hc => ?_)
      · replace h := h.1 hc
        refine U_iinc dL_law_1592 rfl (by decide) rfl h.1 ?_
        replace h := h.2
        refine T_goto (tgt := 18) dL_law_1595 (by decide) ?_
        exact T_drop h ⟨Or.inl rfl, Or.inl rfl, Or.inl rfl, Or.inl rfl, trivial⟩
      · replace h := h.2 hc
        refine T_iconst dL_law_340 (by decide) ?_
        exact T_zret dL_law_341 rfl (by decide) (hQ _ _ h)
    · refine U_tab (tgt := 342) dL_law_33 2 hc (by decide) rfl (by decide) ?_
      replace h := h.2.2.1 hc
      refine T_aload_n dL_law_342 rfl ?_
      refine U_callV (as := []) (st := []) dL_law_343 kX10_net lL_23 SH_0 rfl rfl rfl rfl (Nat.le_of_ble_eq_true rfl) (Nat.le_of_ble_eq_true rfl) (by omega) ?_
      refine W_X10_net (by omega)  h (fun r343 v343 h => ?_)
      show n_T G d 0 0 mL_law 346 [vS 0, vR 0, vR 218, vI i3] [vI r343] SH v343 Q
      refine T_aload_n dL_law_346 rfl ?_
      refine U_callV (as := []) (st := [vI r343]) dL_law_347 kX11_net lL_27 SH_218 rfl rfl rfl rfl (Nat.le_of_ble_eq_true rfl) (Nat.le_of_ble_eq_true rfl) (by omega) ?_
      refine W_X11_net (by omega)  h (fun r347 v347 h => ?_)
      show n_T G d 0 0 mL_law 350 [vS 0, vR 0, vR 218, vI i3] [vI r347, vI r343] SH v347 Q
      refine U_icmp_eq (tgt := 1592) dL_law_350 (by decide) (fun hc => ?_) (fun hc => ?_)
      · replace h := h.1 hc
        refine U_iinc dL_law_1592 rfl (by decide) rfl h.1 ?_
        replace h := h.2
        refine T_goto (tgt := 18) dL_law_1595 (by decide) ?_
        exact T_drop h ⟨Or.inl rfl, Or.inl rfl, Or.inl rfl, Or.inl rfl, trivial⟩
      · replace h := h.2 hc
        refine T_iconst dL_law_353 (by decide) ?_
        exact T_zret dL_law_354 rfl (by decide) (hQ _ _ h)
    · refine U_tab (tgt := 355) dL_law_33 3 hc (by decide) rfl (by decide) ?_
      replace h := h.2.2.2.1 hc
      refine T_aload_n dL_law_355 rfl ?_
      refine T_aload_nS dL_law_356 rfl rfl ?_
      refine T_iload_n dL_law_357 rfl ?_
      refine T_iconst dL_law_358 (by decide) ?_
      refine U_iadd dL_law_359 h.1 ?_
      replace h := h.2
      refine T_sld dL_law_360 h.1 ?_
      replace h := h.2
      refine U_callV (as := [vI (w32 (g_xs G (i3 + 1).toNat))]) (st := []) dL_law_361 kX10_fault lL_28 SH_0 rfl rfl rfl rfl (Nat.le_of_ble_eq_true rfl) (Nat.le_of_ble_eq_true rfl) (by omega) ?_
      refine W_X10_fault (by omega)  h (fun r361 h => ?_)
      show n_T G d 0 0 mL_law 364 [vS 0, vR 0, vR 218, vI i3] [vI r361] SH v18 Q
      refine T_aload_n dL_law_364 rfl ?_
      refine T_aload_nS dL_law_365 rfl rfl ?_
      refine T_iload_n dL_law_366 rfl ?_
      refine T_iconst dL_law_367 (by decide) ?_
      refine U_iadd dL_law_368 h.1 ?_
      replace h := h.2
      refine T_sld dL_law_369 h.1 ?_
      replace h := h.2
      refine U_callV (as := [vI (w32 (g_xs G (i3 + 1).toNat))]) (st := [vI r361]) dL_law_370 kX11_fault lL_32 SH_218 rfl rfl rfl rfl (Nat.le_of_ble_eq_true rfl) (Nat.le_of_ble_eq_true rfl) (by omega) ?_
      refine W_X11_fault (by omega)  h (fun r370 h => ?_)
      show n_T G d 0 0 mL_law 373 [vS 0, vR 0, vR 218, vI i3] [vI r370, vI r361] SH v18 Q
      refine U_icmp_eq (tgt := 1592) dL_law_373 (by decide) (fun hc => ?_) (fun hc => ?_)
      · replace h := h.1 hc
        refine U_iinc dL_law_1592 rfl (by decide) rfl h.1 ?_
        replace h := h.2
        refine T_goto (tgt := 18) dL_law_1595 (by decide) ?_
        exact T_drop h ⟨Or.inl rfl, Or.inl rfl, Or.inl rfl, Or.inl rfl, trivial⟩
      · replace h := h.2 hc
        refine T_iconst dL_law_376 (by decide) ?_
        exact T_zret dL_law_377 rfl (by decide) (hQ _ _ h)
    · refine U_tab (tgt := 378) dL_law_33 4 hc (by decide) rfl (by decide) ?_
      replace h := h.2.2.2.2.1 hc
      refine T_aload_n dL_law_378 rfl ?_
      refine T_aload_nS dL_law_379 rfl rfl ?_
      refine T_iload_n dL_law_380 rfl ?_
      refine T_iconst dL_law_381 (by decide) ?_
      refine U_iadd dL_law_382 h.1 ?_
      replace h := h.2
      refine T_sld dL_law_383 h.1 ?_
      replace h := h.2
      refine U_callV (as := [vI (w32 (g_xs G (i3 + 1).toNat))]) (st := []) dL_law_384 kX10_has lL_33 SH_0 rfl rfl rfl rfl (Nat.le_of_ble_eq_true rfl) (Nat.le_of_ble_eq_true rfl) (by omega) ?_
      refine W_X10_has (by omega)  h (fun r384 v384 h => ?_)
      show n_T G d 0 0 mL_law 387 [vS 0, vR 0, vR 218, vI i3] [vI r384] SH v384 Q
      refine T_aload_n dL_law_387 rfl ?_
      refine T_aload_nS dL_law_388 rfl rfl ?_
      refine T_iload_n dL_law_389 rfl ?_
      refine T_iconst dL_law_390 (by decide) ?_
      refine U_iadd dL_law_391 h.1 ?_
      replace h := h.2
      refine T_sld dL_law_392 h.1 ?_
      replace h := h.2
      refine U_callV (as := [vI (w32 (g_xs G (i3 + 1).toNat))]) (st := [vI r384]) dL_law_393 kX11_has lL_36 SH_218 rfl rfl rfl rfl (Nat.le_of_ble_eq_true rfl) (Nat.le_of_ble_eq_true rfl) (by omega) ?_
      refine W_X11_has (by omega)  h (fun r393 v393 h => ?_)
      show n_T G d 0 0 mL_law 396 [vS 0, vR 0, vR 218, vI i3] [vI r393, vI r384] SH v393 Q
      refine U_icmp_eq (tgt := 1592) dL_law_396 (by decide) (fun hc => ?_) (fun hc => ?_)
      · replace h := h.1 hc
        refine U_iinc dL_law_1592 rfl (by decide) rfl h.1 ?_
        replace h := h.2
        refine T_goto (tgt := 18) dL_law_1595 (by decide) ?_
        exact T_drop h ⟨Or.inl rfl, Or.inl rfl, Or.inl rfl, Or.inl rfl, trivial⟩
      · replace h := h.2 hc
        refine T_iconst dL_law_399 (by decide) ?_
        exact T_zret dL_law_400 rfl (by decide) (hQ _ _ h)
    · refine U_tab (tgt := 401) dL_law_33 5 hc (by decide) rfl (by decide) ?_
      replace h := h.2.2.2.2.2.1 hc
      refine T_aload_n dL_law_401 rfl ?_
      refine T_aload_nS dL_law_402 rfl rfl ?_
      refine T_iload_n dL_law_403 rfl ?_
      refine T_iconst dL_law_404 (by decide) ?_
      refine U_iadd dL_law_405 h.1 ?_
      replace h := h.2
      refine T_sld dL_law_406 h.1 ?_
      replace h := h.2
      refine T_aload_nS dL_law_407 rfl rfl ?_
      refine T_iload_n dL_law_408 rfl ?_
      refine T_iconst dL_law_409 (by decide) ?_
      refine U_iadd dL_law_410 h.1 ?_
      replace h := h.2
      refine T_sld dL_law_411 h.1 ?_
      replace h := h.2
      refine U_callV (as := [vI (w32 (g_xs G (i3 + 1).toNat)), vI (w32 (g_xs G (i3 + 2).toNat))]) (st := []) dL_law_412 kX10_letter lL_37 SH_0 rfl rfl rfl rfl (Nat.le_of_ble_eq_true rfl) (Nat.le_of_ble_eq_true rfl) (by omega) ?_
      refine W_X10_letter (by omega)  h (fun r412 h => ?_)
      show n_T G d 0 0 mL_law 415 [vS 0, vR 0, vR 218, vI i3] [vI r412] SH v18 Q
      refine T_aload_n dL_law_415 rfl ?_
      refine T_aload_nS dL_law_416 rfl rfl ?_
      refine T_iload_n dL_law_417 rfl ?_
      refine T_iconst dL_law_418 (by decide) ?_
      refine U_iadd dL_law_419 h.1 ?_
      replace h := h.2
      refine T_sld dL_law_420 h.1 ?_
      replace h := h.2
      refine T_aload_nS dL_law_421 rfl rfl ?_
      refine T_iload_n dL_law_422 rfl ?_
      refine T_iconst dL_law_423 (by decide) ?_
      refine U_iadd dL_law_424 h.1 ?_
      replace h := h.2
      refine T_sld dL_law_425 h.1 ?_
      replace h := h.2
      refine U_callV (as := [vI (w32 (g_xs G (i3 + 1).toNat)), vI (w32 (g_xs G (i3 + 2).toNat))]) (st := [vI r412]) dL_law_426 kX11_letter lL_41 SH_218 rfl rfl rfl rfl (Nat.le_of_ble_eq_true rfl) (Nat.le_of_ble_eq_true rfl) (by omega) ?_
      refine W_X11_letter (by omega)  h (fun r426 h => ?_)
      show n_T G d 0 0 mL_law 429 [vS 0, vR 0, vR 218, vI i3] [vI r426, vI r412] SH v18 Q
      refine U_icmp_eq (tgt := 1592) dL_law_429 (by decide) (fun hc => ?_) (fun hc => ?_)
      · replace h := h.1 hc
        refine U_iinc dL_law_1592 rfl (by decide) rfl h.1 ?_
        replace h := h.2
        refine T_goto (tgt := 18) dL_law_1595 (by decide) ?_
        exact T_drop h ⟨Or.inl rfl, Or.inl rfl, Or.inl rfl, Or.inl rfl, trivial⟩
      · replace h := h.2 hc
        refine T_iconst dL_law_432 (by decide) ?_
        exact T_zret dL_law_433 rfl (by decide) (hQ _ _ h)
    · refine U_tab (tgt := 434) dL_law_33 6 hc (by decide) rfl (by decide) ?_
      replace h := h.2.2.2.2.2.2.1 hc
      refine T_aload_n dL_law_434 rfl ?_
      refine U_callV (as := []) (st := []) dL_law_435 kX10_named lL_42 SH_0 rfl rfl rfl rfl (Nat.le_of_ble_eq_true rfl) (Nat.le_of_ble_eq_true rfl) (by omega) ?_
      refine W_X10_named (by omega)  h (fun r435 v435 h => ?_)
      show n_T G d 0 0 mL_law 438 [vS 0, vR 0, vR 218, vI i3] [vI r435] SH v435 Q
      refine T_aload_n dL_law_438 rfl ?_
      refine U_callV (as := []) (st := [vI r435]) dL_law_439 kX11_named lL_45 SH_218 rfl rfl rfl rfl (Nat.le_of_ble_eq_true rfl) (Nat.le_of_ble_eq_true rfl) (by omega) ?_
      refine W_X11_named (by omega)  h (fun r439 v439 h => ?_)
      show n_T G d 0 0 mL_law 442 [vS 0, vR 0, vR 218, vI i3] [vI r439, vI r435] SH v439 Q
      refine U_icmp_eq (tgt := 1592) dL_law_442 (by decide) (fun hc => ?_) (fun hc => ?_)
      · replace h := h.1 hc
        refine U_iinc dL_law_1592 rfl (by decide) rfl h.1 ?_
        replace h := h.2
        refine T_goto (tgt := 18) dL_law_1595 (by decide) ?_
        exact T_drop h ⟨Or.inl rfl, Or.inl rfl, Or.inl rfl, Or.inl rfl, trivial⟩
      · replace h := h.2 hc
        refine T_iconst dL_law_445 (by decide) ?_
        exact T_zret dL_law_446 rfl (by decide) (hQ _ _ h)
    · refine U_tab (tgt := 447) dL_law_33 7 hc (by decide) rfl (by decide) ?_
      replace h := h.2.2.2.2.2.2.2.1 hc
      refine T_aload_n dL_law_447 rfl ?_
      refine T_aload_nS dL_law_448 rfl rfl ?_
      refine T_iload_n dL_law_449 rfl ?_
      refine T_iconst dL_law_450 (by decide) ?_
      refine U_iadd dL_law_451 h.1 ?_
      replace h := h.2
      refine T_sld dL_law_452 h.1 ?_
      replace h := h.2
      refine T_aload_nS dL_law_453 rfl rfl ?_
      refine T_iload_n dL_law_454 rfl ?_
      refine T_iconst dL_law_455 (by decide) ?_
      refine U_iadd dL_law_456 h.1 ?_
      replace h := h.2
      refine T_sld dL_law_457 h.1 ?_
      replace h := h.2
      refine U_callV (as := [vI (w32 (g_xs G (i3 + 1).toNat)), vI (w32 (g_xs G (i3 + 2).toNat))]) (st := []) dL_law_458 kX10_line lL_46 SH_0 rfl rfl rfl rfl (Nat.le_of_ble_eq_true rfl) (Nat.le_of_ble_eq_true rfl) (by omega) ?_
      refine W_X10_line (by omega)  h (fun r458 v458 h => ?_)
      show n_T G d 0 0 mL_law 461 [vS 0, vR 0, vR 218, vI i3] [vI r458] SH v458 Q
      refine T_aload_n dL_law_461 rfl ?_
      refine T_aload_nS dL_law_462 rfl rfl ?_
      refine T_iload_n dL_law_463 rfl ?_
      refine T_iconst dL_law_464 (by decide) ?_
      refine U_iadd dL_law_465 h.1 ?_
      replace h := h.2
      refine T_sld dL_law_466 h.1 ?_
      replace h := h.2
      refine T_aload_nS dL_law_467 rfl rfl ?_
      refine T_iload_n dL_law_468 rfl ?_
      refine T_iconst dL_law_469 (by decide) ?_
      refine U_iadd dL_law_470 h.1 ?_
      replace h := h.2
      refine T_sld dL_law_471 h.1 ?_
      replace h := h.2
      refine U_callV (as := [vI (w32 (g_xs G (i3 + 1).toNat)), vI (w32 (g_xs G (i3 + 2).toNat))]) (st := [vI r458]) dL_law_472 kX11_line lL_49 SH_218 rfl rfl rfl rfl (Nat.le_of_ble_eq_true rfl) (Nat.le_of_ble_eq_true rfl) (by omega) ?_
      refine W_X11_line (by omega)  h (fun r472 v472 h => ?_)
      show n_T G d 0 0 mL_law 475 [vS 0, vR 0, vR 218, vI i3] [vI r472, vI r458] SH v472 Q
      refine U_icmp_eq (tgt := 1592) dL_law_475 (by decide) (fun hc => ?_) (fun hc => ?_)
      · replace h := h.1 hc
        refine U_iinc dL_law_1592 rfl (by decide) rfl h.1 ?_
        replace h := h.2
        refine T_goto (tgt := 18) dL_law_1595 (by decide) ?_
        exact T_drop h ⟨Or.inl rfl, Or.inl rfl, Or.inl rfl, Or.inl rfl, trivial⟩
      · replace h := h.2 hc
        refine T_iconst dL_law_478 (by decide) ?_
        exact T_zret dL_law_479 rfl (by decide) (hQ _ _ h)
    · refine U_tab (tgt := 480) dL_law_33 8 hc (by decide) rfl (by decide) ?_
      replace h := h.2.2.2.2.2.2.2.2.1 hc
      refine T_aload_n dL_law_480 rfl ?_
      refine T_aload_nS dL_law_481 rfl rfl ?_
      refine T_iload_n dL_law_482 rfl ?_
      refine T_iconst dL_law_483 (by decide) ?_
      refine U_iadd dL_law_484 h.1 ?_
      replace h := h.2
      refine T_sld dL_law_485 h.1 ?_
      replace h := h.2
      refine U_callV (as := [vI (w32 (g_xs G (i3 + 1).toNat))]) (st := []) dL_law_486 kX10_degree lL_50 SH_0 rfl rfl rfl rfl (Nat.le_of_ble_eq_true rfl) (Nat.le_of_ble_eq_true rfl) (by omega) ?_
      refine W_X10_degree (by omega)  h (fun r486 v486 h => ?_)
      show n_T G d 0 0 mL_law 489 [vS 0, vR 0, vR 218, vI i3] [vI r486] SH v486 Q
      refine T_aload_n dL_law_489 rfl ?_
      refine T_aload_nS dL_law_490 rfl rfl ?_
      refine T_iload_n dL_law_491 rfl ?_
      refine T_iconst dL_law_492 (by decide) ?_
      refine U_iadd dL_law_493 h.1 ?_
      replace h := h.2
      refine T_sld dL_law_494 h.1 ?_
      replace h := h.2
      refine U_callV (as := [vI (w32 (g_xs G (i3 + 1).toNat))]) (st := [vI r486]) dL_law_495 kX11_degree lL_53 SH_218 rfl rfl rfl rfl (Nat.le_of_ble_eq_true rfl) (Nat.le_of_ble_eq_true rfl) (by omega) ?_
      refine W_X11_degree (by omega)  h (fun r495 h => ?_)
      show n_T G d 0 0 mL_law 498 [vS 0, vR 0, vR 218, vI i3] [vI r495, vI r486] SH v486 Q
      refine U_icmp_eq (tgt := 1592) dL_law_498 (by decide) (fun hc => ?_) (fun hc => ?_)
      · replace h := h.1 hc
        refine U_iinc dL_law_1592 rfl (by decide) rfl h.1 ?_
        replace h := h.2
        refine T_goto (tgt := 18) dL_law_1595 (by decide) ?_
        exact T_drop h ⟨Or.inl rfl, Or.inl rfl, Or.inl rfl, Or.inl rfl, trivial⟩
      · replace h := h.2 hc
        refine T_iconst dL_law_501 (by decide) ?_
        exact T_zret dL_law_502 rfl (by decide) (hQ _ _ h)
    · refine U_tab (tgt := 503) dL_law_33 9 hc (by decide) rfl (by decide) ?_
      replace h := h.2.2.2.2.2.2.2.2.2.1 hc
      refine T_aload_n dL_law_503 rfl ?_
      refine T_aload_nS dL_law_504 rfl rfl ?_
      refine T_iload_n dL_law_505 rfl ?_
      refine T_iconst dL_law_506 (by decide) ?_
      refine U_iadd dL_law_507 h.1 ?_
      replace h := h.2
      refine T_sld dL_law_508 h.1 ?_
      replace h := h.2
      refine T_aload_nS dL_law_509 rfl rfl ?_
      refine T_iload_n dL_law_510 rfl ?_
      refine T_iconst dL_law_511 (by decide) ?_
      refine U_iadd dL_law_512 h.1 ?_
      replace h := h.2
      refine T_sld dL_law_513 h.1 ?_
      replace h := h.2
      refine U_callV (as := [vI (w32 (g_xs G (i3 + 1).toNat)), vI (w32 (g_xs G (i3 + 2).toNat))]) (st := []) dL_law_514 kX10_far lL_54 SH_0 rfl rfl rfl rfl (Nat.le_of_ble_eq_true rfl) (Nat.le_of_ble_eq_true rfl) (by omega) ?_
      refine W_X10_far (by omega)  h (fun r514 v514 h => ?_)
      show n_T G d 0 0 mL_law 517 [vS 0, vR 0, vR 218, vI i3] [vI r514] SH v514 Q
      refine T_aload_n dL_law_517 rfl ?_
      refine T_aload_nS dL_law_518 rfl rfl ?_
      refine T_iload_n dL_law_519 rfl ?_
      refine T_iconst dL_law_520 (by decide) ?_
      refine U_iadd dL_law_521 h.1 ?_
      replace h := h.2
      refine T_sld dL_law_522 h.1 ?_
      replace h := h.2
      refine T_aload_nS dL_law_523 rfl rfl ?_
      refine T_iload_n dL_law_524 rfl ?_
      refine T_iconst dL_law_525 (by decide) ?_
      refine U_iadd dL_law_526 h.1 ?_
      replace h := h.2
      refine T_sld dL_law_527 h.1 ?_
      replace h := h.2
      refine U_callV (as := [vI (w32 (g_xs G (i3 + 1).toNat)), vI (w32 (g_xs G (i3 + 2).toNat))]) (st := [vI r514]) dL_law_528 kX11_far lL_57 SH_218 rfl rfl rfl rfl (Nat.le_of_ble_eq_true rfl) (Nat.le_of_ble_eq_true rfl) (by omega) ?_
      refine W_X11_far (by omega)  h (fun r528 v528 h => ?_)
      show n_T G d 0 0 mL_law 531 [vS 0, vR 0, vR 218, vI i3] [vI r528, vI r514] SH v528 Q
      refine U_icmp_eq (tgt := 1592) dL_law_531 (by decide) (fun hc => ?_) (fun hc => ?_)
      · replace h := h.1 hc
        refine U_iinc dL_law_1592 rfl (by decide) rfl h.1 ?_
        replace h := h.2
        refine T_goto (tgt := 18) dL_law_1595 (by decide) ?_
        exact T_drop h ⟨Or.inl rfl, Or.inl rfl, Or.inl rfl, Or.inl rfl, trivial⟩
      · replace h := h.2 hc
        refine T_iconst dL_law_534 (by decide) ?_
        exact T_zret dL_law_535 rfl (by decide) (hQ _ _ h)
    · refine U_tab (tgt := 536) dL_law_33 10 hc (by decide) rfl (by decide) ?_
      replace h := h.2.2.2.2.2.2.2.2.2.2.1 hc
      refine T_aload_n dL_law_536 rfl ?_
      refine T_aload_nS dL_law_537 rfl rfl ?_
      refine T_iload_n dL_law_538 rfl ?_
      refine T_iconst dL_law_539 (by decide) ?_
      refine U_iadd dL_law_540 h.1 ?_
      replace h := h.2
      refine T_sld dL_law_541 h.1 ?_
      replace h := h.2
      refine T_aload_nS dL_law_542 rfl rfl ?_
      refine T_iload_n dL_law_543 rfl ?_
      refine T_iconst dL_law_544 (by decide) ?_
      refine U_iadd dL_law_545 h.1 ?_
      replace h := h.2
      refine T_sld dL_law_546 h.1 ?_
      replace h := h.2
      refine U_callV (as := [vI (w32 (g_xs G (i3 + 1).toNat)), vI (w32 (g_xs G (i3 + 2).toNat))]) (st := []) dL_law_547 kX10_ways lL_58 SH_0 rfl rfl rfl rfl (Nat.le_of_ble_eq_true rfl) (Nat.le_of_ble_eq_true rfl) (by omega) ?_
      refine W_X10_ways (by omega)  h (fun r547 v547 h => ?_)
      show n_T G d 0 0 mL_law 550 [vS 0, vR 0, vR 218, vI i3] [vI r547] SH v547 Q
      refine T_aload_n dL_law_550 rfl ?_
      refine T_aload_nS dL_law_551 rfl rfl ?_
      refine T_iload_n dL_law_552 rfl ?_
      refine T_iconst dL_law_553 (by decide) ?_
      refine U_iadd dL_law_554 h.1 ?_
      replace h := h.2
      refine T_sld dL_law_555 h.1 ?_
      replace h := h.2
      refine T_aload_nS dL_law_556 rfl rfl ?_
      refine T_iload_n dL_law_557 rfl ?_
      refine T_iconst dL_law_558 (by decide) ?_
      refine U_iadd dL_law_559 h.1 ?_
      replace h := h.2
      refine T_sld dL_law_560 h.1 ?_
      replace h := h.2
      refine U_callV (as := [vI (w32 (g_xs G (i3 + 1).toNat)), vI (w32 (g_xs G (i3 + 2).toNat))]) (st := [vI r547]) dL_law_561 kX11_ways lL_61 SH_218 rfl rfl rfl rfl (Nat.le_of_ble_eq_true rfl) (Nat.le_of_ble_eq_true rfl) (by omega) ?_
      refine W_X11_ways (by omega)  h (fun r561 v561 h => ?_)
      show n_T G d 0 0 mL_law 564 [vS 0, vR 0, vR 218, vI i3] [vI r561, vI r547] SH v561 Q
      refine U_icmp_eq (tgt := 1592) dL_law_564 (by decide) (fun hc => ?_) (fun hc => ?_)
      · replace h := h.1 hc
        refine U_iinc dL_law_1592 rfl (by decide) rfl h.1 ?_
        replace h := h.2
        refine T_goto (tgt := 18) dL_law_1595 (by decide) ?_
        exact T_drop h ⟨Or.inl rfl, Or.inl rfl, Or.inl rfl, Or.inl rfl, trivial⟩
      · replace h := h.2 hc
        refine T_iconst dL_law_567 (by decide) ?_
        exact T_zret dL_law_568 rfl (by decide) (hQ _ _ h)
    · refine U_tab (tgt := 569) dL_law_33 11 hc (by decide) rfl (by decide) ?_
      replace h := h.2.2.2.2.2.2.2.2.2.2.2.1 hc
      refine T_aload_n dL_law_569 rfl ?_
      refine T_aload_nS dL_law_570 rfl rfl ?_
      refine T_iload_n dL_law_571 rfl ?_
      refine T_iconst dL_law_572 (by decide) ?_
      refine U_iadd dL_law_573 h.1 ?_
      replace h := h.2
      refine T_sld dL_law_574 h.1 ?_
      replace h := h.2
      refine T_aload_nS dL_law_575 rfl rfl ?_
      refine T_iload_n dL_law_576 rfl ?_
      refine T_iconst dL_law_577 (by decide) ?_
      refine U_iadd dL_law_578 h.1 ?_
      replace h := h.2
      refine T_sld dL_law_579 h.1 ?_
      replace h := h.2
      refine U_callV (as := [vI (w32 (g_xs G (i3 + 1).toNat)), vI (w32 (g_xs G (i3 + 2).toNat))]) (st := []) dL_law_580 kX10_between lL_62 SH_0 rfl rfl rfl rfl (Nat.le_of_ble_eq_true rfl) (Nat.le_of_ble_eq_true rfl) (by omega) ?_
      refine W_X10_between (by omega)  h (fun r580 v580 h => ?_)
      show n_T G d 0 0 mL_law 583 [vS 0, vR 0, vR 218, vI i3] [vI r580] SH v580 Q
      refine T_aload_n dL_law_583 rfl ?_
      refine T_aload_nS dL_law_584 rfl rfl ?_
      refine T_iload_n dL_law_585 rfl ?_
      refine T_iconst dL_law_586 (by decide) ?_
      refine U_iadd dL_law_587 h.1 ?_
      replace h := h.2
      refine T_sld dL_law_588 h.1 ?_
      replace h := h.2
      refine T_aload_nS dL_law_589 rfl rfl ?_
      refine T_iload_n dL_law_590 rfl ?_
      refine T_iconst dL_law_591 (by decide) ?_
      refine U_iadd dL_law_592 h.1 ?_
      replace h := h.2
      refine T_sld dL_law_593 h.1 ?_
      replace h := h.2
      refine U_callV (as := [vI (w32 (g_xs G (i3 + 1).toNat)), vI (w32 (g_xs G (i3 + 2).toNat))]) (st := [vI r580]) dL_law_594 kX11_between lL_65 SH_218 rfl rfl rfl rfl (Nat.le_of_ble_eq_true rfl) (Nat.le_of_ble_eq_true rfl) (by omega) ?_
      refine W_X11_between (by omega)  h (fun r594 v594 h => ?_)
      show n_T G d 0 0 mL_law 597 [vS 0, vR 0, vR 218, vI i3] [vI r594, vI r580] SH v594 Q
      refine U_icmp_eq (tgt := 1592) dL_law_597 (by decide) (fun hc => ?_) (fun hc => ?_)
      · replace h := h.1 hc
        refine U_iinc dL_law_1592 rfl (by decide) rfl h.1 ?_
        replace h := h.2
        refine T_goto (tgt := 18) dL_law_1595 (by decide) ?_
        exact T_drop h ⟨Or.inl rfl, Or.inl rfl, Or.inl rfl, Or.inl rfl, trivial⟩
      · replace h := h.2 hc
        refine T_iconst dL_law_600 (by decide) ?_
        exact T_zret dL_law_601 rfl (by decide) (hQ _ _ h)
    · refine U_tab (tgt := 602) dL_law_33 12 hc (by decide) rfl (by decide) ?_
      replace h := h.2.2.2.2.2.2.2.2.2.2.2.2.1 hc
      refine T_aload_n dL_law_602 rfl ?_
      refine T_aload_nS dL_law_603 rfl rfl ?_
      refine T_iload_n dL_law_604 rfl ?_
      refine T_iconst dL_law_605 (by decide) ?_
      refine U_iadd dL_law_606 h.1 ?_
      replace h := h.2
      refine T_sld dL_law_607 h.1 ?_
      replace h := h.2
      refine U_callV (as := [vI (w32 (g_xs G (i3 + 1).toNat))]) (st := []) dL_law_608 kX10_reach lL_66 SH_0 rfl rfl rfl rfl (Nat.le_of_ble_eq_true rfl) (Nat.le_of_ble_eq_true rfl) (by omega) ?_
      refine W_X10_reach (by omega)  h (fun r608 v608 h => ?_)
      show n_T G d 0 0 mL_law 611 [vS 0, vR 0, vR 218, vI i3] [vI r608] SH v608 Q
      refine T_aload_n dL_law_611 rfl ?_
      refine T_aload_nS dL_law_612 rfl rfl ?_
      refine T_iload_n dL_law_613 rfl ?_
      refine T_iconst dL_law_614 (by decide) ?_
      refine U_iadd dL_law_615 h.1 ?_
      replace h := h.2
      refine T_sld dL_law_616 h.1 ?_
      replace h := h.2
      refine U_callV (as := [vI (w32 (g_xs G (i3 + 1).toNat))]) (st := [vI r608]) dL_law_617 kX11_reach lL_69 SH_218 rfl rfl rfl rfl (Nat.le_of_ble_eq_true rfl) (Nat.le_of_ble_eq_true rfl) (by omega) ?_
      refine W_X11_reach (by omega)  h (fun r617 v617 h => ?_)
      show n_T G d 0 0 mL_law 620 [vS 0, vR 0, vR 218, vI i3] [vI r617, vI r608] SH v617 Q
      refine U_icmp_eq (tgt := 1592) dL_law_620 (by decide) (fun hc => ?_) (fun hc => ?_)
      · replace h := h.1 hc
        refine U_iinc dL_law_1592 rfl (by decide) rfl h.1 ?_
        replace h := h.2
        refine T_goto (tgt := 18) dL_law_1595 (by decide) ?_
        exact T_drop h ⟨Or.inl rfl, Or.inl rfl, Or.inl rfl, Or.inl rfl, trivial⟩
      · replace h := h.2 hc
        refine T_iconst dL_law_623 (by decide) ?_
        exact T_zret dL_law_624 rfl (by decide) (hQ _ _ h)
    · refine U_tab (tgt := 625) dL_law_33 13 hc (by decide) rfl (by decide) ?_
      replace h := h.2.2.2.2.2.2.2.2.2.2.2.2.2.1 hc
      refine T_aload_n dL_law_625 rfl ?_
      refine T_aload_nS dL_law_626 rfl rfl ?_
      refine T_iload_n dL_law_627 rfl ?_
      refine T_iconst dL_law_628 (by decide) ?_
      refine U_iadd dL_law_629 h.1 ?_
      replace h := h.2
      refine T_sld dL_law_630 h.1 ?_
      replace h := h.2
      refine T_aload_nS dL_law_631 rfl rfl ?_
      refine T_iload_n dL_law_632 rfl ?_
      refine T_iconst dL_law_633 (by decide) ?_
      refine U_iadd dL_law_634 h.1 ?_
      replace h := h.2
      refine T_sld dL_law_635 h.1 ?_
      replace h := h.2
      refine T_aload_nS dL_law_636 rfl rfl ?_
      refine T_iload_n dL_law_637 rfl ?_
      refine T_iconst dL_law_638 (by decide) ?_
      refine U_iadd dL_law_639 h.1 ?_
      replace h := h.2
      refine T_sld dL_law_640 h.1 ?_
      replace h := h.2
      refine U_callV (as := [vI (w32 (g_xs G (i3 + 1).toNat)), vI (w32 (g_xs G (i3 + 2).toNat)), vI (w32 (g_xs G (i3 + 3).toNat))]) (st := []) dL_law_641 kX10_price lL_70 SH_0 rfl rfl rfl rfl (Nat.le_of_ble_eq_true rfl) (Nat.le_of_ble_eq_true rfl) (by omega) ?_
      refine W_X10_price (by omega)  h (fun r641 v641 h => ?_)
      show n_T G d 0 0 mL_law 644 [vS 0, vR 0, vR 218, vI i3] [vI r641] SH v641 Q
      refine T_aload_n dL_law_644 rfl ?_
      refine T_aload_nS dL_law_645 rfl rfl ?_
      refine T_iload_n dL_law_646 rfl ?_
      refine T_iconst dL_law_647 (by decide) ?_
      refine U_iadd dL_law_648 h.1 ?_
      replace h := h.2
      refine T_sld dL_law_649 h.1 ?_
      replace h := h.2
      refine T_aload_nS dL_law_650 rfl rfl ?_
      refine T_iload_n dL_law_651 rfl ?_
      refine T_iconst dL_law_652 (by decide) ?_
      refine U_iadd dL_law_653 h.1 ?_
      replace h := h.2
      refine T_sld dL_law_654 h.1 ?_
      replace h := h.2
      refine T_aload_nS dL_law_655 rfl rfl ?_
      refine T_iload_n dL_law_656 rfl ?_
      refine T_iconst dL_law_657 (by decide) ?_
      refine U_iadd dL_law_658 h.1 ?_
      replace h := h.2
      refine T_sld dL_law_659 h.1 ?_
      replace h := h.2
      refine U_callV (as := [vI (w32 (g_xs G (i3 + 1).toNat)), vI (w32 (g_xs G (i3 + 2).toNat)), vI (w32 (g_xs G (i3 + 3).toNat))]) (st := [vI r641]) dL_law_660 kX11_price lL_74 SH_218 rfl rfl rfl rfl (Nat.le_of_ble_eq_true rfl) (Nat.le_of_ble_eq_true rfl) (by omega) ?_
      refine W_X11_price (by omega)  h (fun r660 v660 h => ?_)
      show n_T G d 0 0 mL_law 663 [vS 0, vR 0, vR 218, vI i3] [vI r660, vI r641] SH v660 Q
      refine U_icmp_eq (tgt := 1592) dL_law_663 (by decide) (fun hc => ?_) (fun hc => ?_)
      · replace h := h.1 hc
        refine U_iinc dL_law_1592 rfl (by decide) rfl h.1 ?_
        replace h := h.2
        refine T_goto (tgt := 18) dL_law_1595 (by decide) ?_
        exact T_drop h ⟨Or.inl rfl, Or.inl rfl, Or.inl rfl, Or.inl rfl, trivial⟩
      · replace h := h.2 hc
        refine T_iconst dL_law_666 (by decide) ?_
        exact T_zret dL_law_667 rfl (by decide) (hQ _ _ h)
    · refine U_tab (tgt := 668) dL_law_33 14 hc (by decide) rfl (by decide) ?_
      replace h := h.2.2.2.2.2.2.2.2.2.2.2.2.2.2.1 hc
      refine T_aload_n dL_law_668 rfl ?_
      refine T_aload_nS dL_law_669 rfl rfl ?_
      refine T_iload_n dL_law_670 rfl ?_
      refine T_iconst dL_law_671 (by decide) ?_
      refine U_iadd dL_law_672 h.1 ?_
      replace h := h.2
      refine T_sld dL_law_673 h.1 ?_
      replace h := h.2
      refine T_aload_nS dL_law_674 rfl rfl ?_
      refine T_iload_n dL_law_675 rfl ?_
      refine T_iconst dL_law_676 (by decide) ?_
      refine U_iadd dL_law_677 h.1 ?_
      replace h := h.2
      refine T_sld dL_law_678 h.1 ?_
      replace h := h.2
      refine T_aload_nS dL_law_679 rfl rfl ?_
      refine T_iload_n dL_law_680 rfl ?_
      refine T_iconst dL_law_681 (by decide) ?_
      refine U_iadd dL_law_682 h.1 ?_
      replace h := h.2
      refine T_sld dL_law_683 h.1 ?_
      replace h := h.2
      refine U_callV (as := [vI (w32 (g_xs G (i3 + 1).toNat)), vI (w32 (g_xs G (i3 + 2).toNat)), vI (w32 (g_xs G (i3 + 3).toNat))]) (st := []) dL_law_684 kX10_road lL_75 SH_0 rfl rfl rfl rfl (Nat.le_of_ble_eq_true rfl) (Nat.le_of_ble_eq_true rfl) (by omega) ?_
      refine W_X10_road (by omega)  h (fun r684 v684 h => ?_)
      show n_T G d 0 0 mL_law 687 [vS 0, vR 0, vR 218, vI i3] [vI r684] SH v684 Q
      refine T_aload_n dL_law_687 rfl ?_
      refine T_aload_nS dL_law_688 rfl rfl ?_
      refine T_iload_n dL_law_689 rfl ?_
      refine T_iconst dL_law_690 (by decide) ?_
      refine U_iadd dL_law_691 h.1 ?_
      replace h := h.2
      refine T_sld dL_law_692 h.1 ?_
      replace h := h.2
      refine T_aload_nS dL_law_693 rfl rfl ?_
      refine T_iload_n dL_law_694 rfl ?_
      refine T_iconst dL_law_695 (by decide) ?_
      refine U_iadd dL_law_696 h.1 ?_
      replace h := h.2
      refine T_sld dL_law_697 h.1 ?_
      replace h := h.2
      refine T_aload_nS dL_law_698 rfl rfl ?_
      refine T_iload_n dL_law_699 rfl ?_
      refine T_iconst dL_law_700 (by decide) ?_
      refine U_iadd dL_law_701 h.1 ?_
      replace h := h.2
      refine T_sld dL_law_702 h.1 ?_
      replace h := h.2
      refine U_callV (as := [vI (w32 (g_xs G (i3 + 1).toNat)), vI (w32 (g_xs G (i3 + 2).toNat)), vI (w32 (g_xs G (i3 + 3).toNat))]) (st := [vI r684]) dL_law_703 kX11_road lL_78 SH_218 rfl rfl rfl rfl (Nat.le_of_ble_eq_true rfl) (Nat.le_of_ble_eq_true rfl) (by omega) ?_
      refine W_X11_road (by omega)  h (fun r703 v703 h => ?_)
      show n_T G d 0 0 mL_law 706 [vS 0, vR 0, vR 218, vI i3] [vI r703, vI r684] SH v703 Q
      refine U_icmp_eq (tgt := 1592) dL_law_706 (by decide) (fun hc => ?_) (fun hc => ?_)
      · replace h := h.1 hc
        refine U_iinc dL_law_1592 rfl (by decide) rfl h.1 ?_
        replace h := h.2
        refine T_goto (tgt := 18) dL_law_1595 (by decide) ?_
        exact T_drop h ⟨Or.inl rfl, Or.inl rfl, Or.inl rfl, Or.inl rfl, trivial⟩
      · replace h := h.2 hc
        refine T_iconst dL_law_709 (by decide) ?_
        exact T_zret dL_law_710 rfl (by decide) (hQ _ _ h)
    · refine U_tab (tgt := 711) dL_law_33 15 hc (by decide) rfl (by decide) ?_
      replace h := h.2.2.2.2.2.2.2.2.2.2.2.2.2.2.2.1 hc
      refine T_aload_n dL_law_711 rfl ?_
      refine U_callV (as := []) (st := []) dL_law_712 kX10_spread lL_79 SH_0 rfl rfl rfl rfl (Nat.le_of_ble_eq_true rfl) (Nat.le_of_ble_eq_true rfl) (by omega) ?_
      refine W_X10_spread (by omega)  h (fun r712 v712 h => ?_)
      show n_T G d 0 0 mL_law 715 [vS 0, vR 0, vR 218, vI i3] [vI r712] SH v712 Q
      refine T_aload_n dL_law_715 rfl ?_
      refine U_callV (as := []) (st := [vI r712]) dL_law_716 kX11_spread lL_82 SH_218 rfl rfl rfl rfl (Nat.le_of_ble_eq_true rfl) (Nat.le_of_ble_eq_true rfl) (by omega) ?_
      refine W_X11_spread (by omega)  h (fun r716 v716 h => ?_)
      show n_T G d 0 0 mL_law 719 [vS 0, vR 0, vR 218, vI i3] [vI r716, vI r712] SH v716 Q
      refine U_icmp_eq (tgt := 1592) dL_law_719 (by decide) (fun hc => ?_) (fun hc => ?_)
      · replace h := h.1 hc
        refine U_iinc dL_law_1592 rfl (by decide) rfl h.1 ?_
        replace h := h.2
        refine T_goto (tgt := 18) dL_law_1595 (by decide) ?_
        exact T_drop h ⟨Or.inl rfl, Or.inl rfl, Or.inl rfl, Or.inl rfl, trivial⟩
      · replace h := h.2 hc
        refine T_iconst dL_law_722 (by decide) ?_
        exact T_zret dL_law_723 rfl (by decide) (hQ _ _ h)
    · refine U_tab (tgt := 724) dL_law_33 16 hc (by decide) rfl (by decide) ?_
      replace h := h.2.2.2.2.2.2.2.2.2.2.2.2.2.2.2.2.1 hc
      refine T_aload_n dL_law_724 rfl ?_
      refine T_aload_nS dL_law_725 rfl rfl ?_
      refine T_iload_n dL_law_726 rfl ?_
      refine T_iconst dL_law_727 (by decide) ?_
      refine U_iadd dL_law_728 h.1 ?_
      replace h := h.2
      refine T_sld dL_law_729 h.1 ?_
      replace h := h.2
      refine T_aload_nS dL_law_730 rfl rfl ?_
      refine T_iload_n dL_law_731 rfl ?_
      refine T_iconst dL_law_732 (by decide) ?_
      refine U_iadd dL_law_733 h.1 ?_
      replace h := h.2
      refine T_sld dL_law_734 h.1 ?_
      replace h := h.2
      refine U_callV (as := [vI (w32 (g_xs G (i3 + 1).toNat)), vI (w32 (g_xs G (i3 + 2).toNat))]) (st := []) dL_law_735 kX10_alike lL_83 SH_0 rfl rfl rfl rfl (Nat.le_of_ble_eq_true rfl) (Nat.le_of_ble_eq_true rfl) (by omega) ?_
      refine W_X10_alike (by omega)  h (fun r735 v735 h => ?_)
      show n_T G d 0 0 mL_law 738 [vS 0, vR 0, vR 218, vI i3] [vI r735] SH v735 Q
      refine T_aload_n dL_law_738 rfl ?_
      refine T_aload_nS dL_law_739 rfl rfl ?_
      refine T_iload_n dL_law_740 rfl ?_
      refine T_iconst dL_law_741 (by decide) ?_
      refine U_iadd dL_law_742 h.1 ?_
      replace h := h.2
      refine T_sld dL_law_743 h.1 ?_
      replace h := h.2
      refine T_aload_nS dL_law_744 rfl rfl ?_
      refine T_iload_n dL_law_745 rfl ?_
      refine T_iconst dL_law_746 (by decide) ?_
      refine U_iadd dL_law_747 h.1 ?_
      replace h := h.2
      refine T_sld dL_law_748 h.1 ?_
      replace h := h.2
      refine U_callV (as := [vI (w32 (g_xs G (i3 + 1).toNat)), vI (w32 (g_xs G (i3 + 2).toNat))]) (st := [vI r735]) dL_law_749 kX11_alike lL_86 SH_218 rfl rfl rfl rfl (Nat.le_of_ble_eq_true rfl) (Nat.le_of_ble_eq_true rfl) (by omega) ?_
      refine W_X11_alike (by omega)  h (fun r749 v749 h => ?_)
      show n_T G d 0 0 mL_law 752 [vS 0, vR 0, vR 218, vI i3] [vI r749, vI r735] SH v749 Q
      refine U_icmp_eq (tgt := 1592) dL_law_752 (by decide) (fun hc => ?_) (fun hc => ?_)
      · replace h := h.1 hc
        refine U_iinc dL_law_1592 rfl (by decide) rfl h.1 ?_
        replace h := h.2
        refine T_goto (tgt := 18) dL_law_1595 (by decide) ?_
        exact T_drop h ⟨Or.inl rfl, Or.inl rfl, Or.inl rfl, Or.inl rfl, trivial⟩
      · replace h := h.2 hc
        refine T_iconst dL_law_755 (by decide) ?_
        exact T_zret dL_law_756 rfl (by decide) (hQ _ _ h)
    · refine U_tab (tgt := 757) dL_law_33 17 hc (by decide) rfl (by decide) ?_
      replace h := h.2.2.2.2.2.2.2.2.2.2.2.2.2.2.2.2.2.1 hc
      refine T_aload_n dL_law_757 rfl ?_
      refine T_aload_nS dL_law_758 rfl rfl ?_
      refine T_iload_n dL_law_759 rfl ?_
      refine T_iconst dL_law_760 (by decide) ?_
      refine U_iadd dL_law_761 h.1 ?_
      replace h := h.2
      refine T_sld dL_law_762 h.1 ?_
      replace h := h.2
      refine T_aload_nS dL_law_763 rfl rfl ?_
      refine T_iload_n dL_law_764 rfl ?_
      refine T_iconst dL_law_765 (by decide) ?_
      refine U_iadd dL_law_766 h.1 ?_
      replace h := h.2
      refine T_sld dL_law_767 h.1 ?_
      replace h := h.2
      refine U_callV (as := [vI (w32 (g_xs G (i3 + 1).toNat)), vI (w32 (g_xs G (i3 + 2).toNat))]) (st := []) dL_law_768 kX10_sort lL_87 SH_0 rfl rfl rfl rfl (Nat.le_of_ble_eq_true rfl) (Nat.le_of_ble_eq_true rfl) (by omega) ?_
      refine W_X10_sort (by omega)  h (fun r768 v768 h => ?_)
      show n_T G d 0 0 mL_law 771 [vS 0, vR 0, vR 218, vI i3] [vI r768] SH v768 Q
      refine T_aload_n dL_law_771 rfl ?_
      refine T_aload_nS dL_law_772 rfl rfl ?_
      refine T_iload_n dL_law_773 rfl ?_
      refine T_iconst dL_law_774 (by decide) ?_
      refine U_iadd dL_law_775 h.1 ?_
      replace h := h.2
      refine T_sld dL_law_776 h.1 ?_
      replace h := h.2
      refine T_aload_nS dL_law_777 rfl rfl ?_
      refine T_iload_n dL_law_778 rfl ?_
      refine T_iconst dL_law_779 (by decide) ?_
      refine U_iadd dL_law_780 h.1 ?_
      replace h := h.2
      refine T_sld dL_law_781 h.1 ?_
      replace h := h.2
      refine U_callV (as := [vI (w32 (g_xs G (i3 + 1).toNat)), vI (w32 (g_xs G (i3 + 2).toNat))]) (st := [vI r768]) dL_law_782 kX11_sort lL_90 SH_218 rfl rfl rfl rfl (Nat.le_of_ble_eq_true rfl) (Nat.le_of_ble_eq_true rfl) (by omega) ?_
      refine W_X11_sort (by omega)  h (fun r782 v782 h => ?_)
      show n_T G d 0 0 mL_law 785 [vS 0, vR 0, vR 218, vI i3] [vI r782, vI r768] SH v782 Q
      refine U_icmp_eq (tgt := 1592) dL_law_785 (by decide) (fun hc => ?_) (fun hc => ?_)
      · replace h := h.1 hc
        refine U_iinc dL_law_1592 rfl (by decide) rfl h.1 ?_
        replace h := h.2
        refine T_goto (tgt := 18) dL_law_1595 (by decide) ?_
        exact T_drop h ⟨Or.inl rfl, Or.inl rfl, Or.inl rfl, Or.inl rfl, trivial⟩
      · replace h := h.2 hc
        refine T_iconst dL_law_788 (by decide) ?_
        exact T_zret dL_law_789 rfl (by decide) (hQ _ _ h)
    · refine U_tab (tgt := 790) dL_law_33 18 hc (by decide) rfl (by decide) ?_
      replace h := h.2.2.2.2.2.2.2.2.2.2.2.2.2.2.2.2.2.2.1 hc
      refine T_aload_n dL_law_790 rfl ?_
      refine T_aload_nS dL_law_791 rfl rfl ?_
      refine T_iload_n dL_law_792 rfl ?_
      refine T_iconst dL_law_793 (by decide) ?_
      refine U_iadd dL_law_794 h.1 ?_
      replace h := h.2
      refine T_sld dL_law_795 h.1 ?_
      replace h := h.2
      refine U_callV (as := [vI (w32 (g_xs G (i3 + 1).toNat))]) (st := []) dL_law_796 kX10_shows lL_91 SH_0 rfl rfl rfl rfl (Nat.le_of_ble_eq_true rfl) (Nat.le_of_ble_eq_true rfl) (by omega) ?_
      refine W_X10_shows (by omega)  h (fun r796 v796 h => ?_)
      show n_T G d 0 0 mL_law 799 [vS 0, vR 0, vR 218, vI i3] [vI r796] SH v796 Q
      refine T_aload_n dL_law_799 rfl ?_
      refine T_aload_nS dL_law_800 rfl rfl ?_
      refine T_iload_n dL_law_801 rfl ?_
      refine T_iconst dL_law_802 (by decide) ?_
      refine U_iadd dL_law_803 h.1 ?_
      replace h := h.2
      refine T_sld dL_law_804 h.1 ?_
      replace h := h.2
      refine U_callV (as := [vI (w32 (g_xs G (i3 + 1).toNat))]) (st := [vI r796]) dL_law_805 kX11_shows lL_94 SH_218 rfl rfl rfl rfl (Nat.le_of_ble_eq_true rfl) (Nat.le_of_ble_eq_true rfl) (by omega) ?_
      refine W_X11_shows (by omega)  h (fun r805 v805 h => ?_)
      show n_T G d 0 0 mL_law 808 [vS 0, vR 0, vR 218, vI i3] [vI r805, vI r796] SH v805 Q
      refine U_icmp_eq (tgt := 1592) dL_law_808 (by decide) (fun hc => ?_) (fun hc => ?_)
      · replace h := h.1 hc
        refine U_iinc dL_law_1592 rfl (by decide) rfl h.1 ?_
        replace h := h.2
        refine T_goto (tgt := 18) dL_law_1595 (by decide) ?_
        exact T_drop h ⟨Or.inl rfl, Or.inl rfl, Or.inl rfl, Or.inl rfl, trivial⟩
      · replace h := h.2 hc
        refine T_iconst dL_law_811 (by decide) ?_
        exact T_zret dL_law_812 rfl (by decide) (hQ _ _ h)
    · refine U_tab (tgt := 813) dL_law_33 19 hc (by decide) rfl (by decide) ?_
      replace h := h.2.2.2.2.2.2.2.2.2.2.2.2.2.2.2.2.2.2.2.1 hc
      refine T_aload_n dL_law_813 rfl ?_
      refine T_aload_nS dL_law_814 rfl rfl ?_
      refine T_iload_n dL_law_815 rfl ?_
      refine T_iconst dL_law_816 (by decide) ?_
      refine U_iadd dL_law_817 h.1 ?_
      replace h := h.2
      refine T_sld dL_law_818 h.1 ?_
      replace h := h.2
      refine U_callV (as := [vI (w32 (g_xs G (i3 + 1).toNat))]) (st := []) dL_law_819 kX10_sides lL_95 SH_0 rfl rfl rfl rfl (Nat.le_of_ble_eq_true rfl) (Nat.le_of_ble_eq_true rfl) (by omega) ?_
      refine W_X10_sides (by omega)  h (fun r819 v819 h => ?_)
      show n_T G d 0 0 mL_law 822 [vS 0, vR 0, vR 218, vI i3] [vI r819] SH v819 Q
      refine T_aload_n dL_law_822 rfl ?_
      refine T_aload_nS dL_law_823 rfl rfl ?_
      refine T_iload_n dL_law_824 rfl ?_
      refine T_iconst dL_law_825 (by decide) ?_
      refine U_iadd dL_law_826 h.1 ?_
      replace h := h.2
      refine T_sld dL_law_827 h.1 ?_
      replace h := h.2
      refine U_callV (as := [vI (w32 (g_xs G (i3 + 1).toNat))]) (st := [vI r819]) dL_law_828 kX11_sides lL_98 SH_218 rfl rfl rfl rfl (Nat.le_of_ble_eq_true rfl) (Nat.le_of_ble_eq_true rfl) (by omega) ?_
      refine W_X11_sides (by omega)  h (fun r828 v828 h => ?_)
      show n_T G d 0 0 mL_law 831 [vS 0, vR 0, vR 218, vI i3] [vI r828, vI r819] SH v828 Q
      refine U_icmp_eq (tgt := 1592) dL_law_831 (by decide) (fun hc => ?_) (fun hc => ?_)
      · replace h := h.1 hc
        refine U_iinc dL_law_1592 rfl (by decide) rfl h.1 ?_
        replace h := h.2
        refine T_goto (tgt := 18) dL_law_1595 (by decide) ?_
        exact T_drop h ⟨Or.inl rfl, Or.inl rfl, Or.inl rfl, Or.inl rfl, trivial⟩
      · replace h := h.2 hc
        refine T_iconst dL_law_834 (by decide) ?_
        exact T_zret dL_law_835 rfl (by decide) (hQ _ _ h)
    · refine U_tab (tgt := 836) dL_law_33 20 hc (by decide) rfl (by decide) ?_
      replace h := h.2.2.2.2.2.2.2.2.2.2.2.2.2.2.2.2.2.2.2.2.1 hc
      refine T_aload_n dL_law_836 rfl ?_
      refine T_aload_nS dL_law_837 rfl rfl ?_
      refine T_iload_n dL_law_838 rfl ?_
      refine T_iconst dL_law_839 (by decide) ?_
      refine U_iadd dL_law_840 h.1 ?_
      replace h := h.2
      refine T_sld dL_law_841 h.1 ?_
      replace h := h.2
      refine U_callV (as := [vI (w32 (g_xs G (i3 + 1).toNat))]) (st := []) dL_law_842 kX10_at lL_99 SH_0 rfl rfl rfl rfl (Nat.le_of_ble_eq_true rfl) (Nat.le_of_ble_eq_true rfl) (by omega) ?_
      refine W_X10_at (by omega)  h (fun r842 v842 h => ?_)
      show n_T G d 0 0 mL_law 845 [vS 0, vR 0, vR 218, vI i3] [vI r842] SH v842 Q
      refine T_aload_n dL_law_845 rfl ?_
      refine T_aload_nS dL_law_846 rfl rfl ?_
      refine T_iload_n dL_law_847 rfl ?_
      refine T_iconst dL_law_848 (by decide) ?_
      refine U_iadd dL_law_849 h.1 ?_
      replace h := h.2
      refine T_sld dL_law_850 h.1 ?_
      replace h := h.2
      refine U_callV (as := [vI (w32 (g_xs G (i3 + 1).toNat))]) (st := [vI r842]) dL_law_851 kX11_at lL_102 SH_218 rfl rfl rfl rfl (Nat.le_of_ble_eq_true rfl) (Nat.le_of_ble_eq_true rfl) (by omega) ?_
      refine W_X11_at (by omega)  h (fun r851 v851 h => ?_)
      show n_T G d 0 0 mL_law 854 [vS 0, vR 0, vR 218, vI i3] [vI r851, vI r842] SH v851 Q
      refine U_icmp_eq (tgt := 1592) dL_law_854 (by decide) (fun hc => ?_) (fun hc => ?_)
      · replace h := h.1 hc
        refine U_iinc dL_law_1592 rfl (by decide) rfl h.1 ?_
        replace h := h.2
        refine T_goto (tgt := 18) dL_law_1595 (by decide) ?_
        exact T_drop h ⟨Or.inl rfl, Or.inl rfl, Or.inl rfl, Or.inl rfl, trivial⟩
      · replace h := h.2 hc
        refine T_iconst dL_law_857 (by decide) ?_
        exact T_zret dL_law_858 rfl (by decide) (hQ _ _ h)
    · refine U_tab (tgt := 859) dL_law_33 21 hc (by decide) rfl (by decide) ?_
      replace h := h.2.2.2.2.2.2.2.2.2.2.2.2.2.2.2.2.2.2.2.2.2.1 hc
      refine T_aload_n dL_law_859 rfl ?_
      refine T_aload_nS dL_law_860 rfl rfl ?_
      refine T_iload_n dL_law_861 rfl ?_
      refine T_iconst dL_law_862 (by decide) ?_
      refine U_iadd dL_law_863 h.1 ?_
      replace h := h.2
      refine T_sld dL_law_864 h.1 ?_
      replace h := h.2
      refine T_aload_nS dL_law_865 rfl rfl ?_
      refine T_iload_n dL_law_866 rfl ?_
      refine T_iconst dL_law_867 (by decide) ?_
      refine U_iadd dL_law_868 h.1 ?_
      replace h := h.2
      refine T_sld dL_law_869 h.1 ?_
      replace h := h.2
      refine U_callV (as := [vI (w32 (g_xs G (i3 + 1).toNat)), vI (w32 (g_xs G (i3 + 2).toNat))]) (st := []) dL_law_870 kX10_cross lL_103 SH_0 rfl rfl rfl rfl (Nat.le_of_ble_eq_true rfl) (Nat.le_of_ble_eq_true rfl) (by omega) ?_
      refine W_X10_cross (by omega)  h (fun r870 v870 h => ?_)
      show n_T G d 0 0 mL_law 873 [vS 0, vR 0, vR 218, vI i3] [vI r870] SH v870 Q
      refine T_aload_n dL_law_873 rfl ?_
      refine T_aload_nS dL_law_874 rfl rfl ?_
      refine T_iload_n dL_law_875 rfl ?_
      refine T_iconst dL_law_876 (by decide) ?_
      refine U_iadd dL_law_877 h.1 ?_
      replace h := h.2
      refine T_sld dL_law_878 h.1 ?_
      replace h := h.2
      refine T_aload_nS dL_law_879 rfl rfl ?_
      refine T_iload_n dL_law_880 rfl ?_
      refine T_iconst dL_law_881 (by decide) ?_
      refine U_iadd dL_law_882 h.1 ?_
      replace h := h.2
      refine T_sld dL_law_883 h.1 ?_
      replace h := h.2
      refine U_callV (as := [vI (w32 (g_xs G (i3 + 1).toNat)), vI (w32 (g_xs G (i3 + 2).toNat))]) (st := [vI r870]) dL_law_884 kX11_cross lL_106 SH_218 rfl rfl rfl rfl (Nat.le_of_ble_eq_true rfl) (Nat.le_of_ble_eq_true rfl) (by omega) ?_
      refine W_X11_cross (by omega)  h (fun r884 v884 h => ?_)
      show n_T G d 0 0 mL_law 887 [vS 0, vR 0, vR 218, vI i3] [vI r884, vI r870] SH v884 Q
      refine U_icmp_eq (tgt := 1592) dL_law_887 (by decide) (fun hc => ?_) (fun hc => ?_)
      · replace h := h.1 hc
        refine U_iinc dL_law_1592 rfl (by decide) rfl h.1 ?_
        replace h := h.2
        refine T_goto (tgt := 18) dL_law_1595 (by decide) ?_
        exact T_drop h ⟨Or.inl rfl, Or.inl rfl, Or.inl rfl, Or.inl rfl, trivial⟩
      · replace h := h.2 hc
        refine T_iconst dL_law_890 (by decide) ?_
        exact T_zret dL_law_891 rfl (by decide) (hQ _ _ h)
    · refine U_tab (tgt := 892) dL_law_33 22 hc (by decide) rfl (by decide) ?_
      replace h := h.2.2.2.2.2.2.2.2.2.2.2.2.2.2.2.2.2.2.2.2.2.2.1 hc
      refine T_aload_n dL_law_892 rfl ?_
      refine T_aload_nS dL_law_893 rfl rfl ?_
      refine T_iload_n dL_law_894 rfl ?_
      refine T_iconst dL_law_895 (by decide) ?_
      refine U_iadd dL_law_896 h.1 ?_
      replace h := h.2
      refine T_sld dL_law_897 h.1 ?_
      replace h := h.2
      refine T_aload_nS dL_law_898 rfl rfl ?_
      refine T_iload_n dL_law_899 rfl ?_
      refine T_iconst dL_law_900 (by decide) ?_
      refine U_iadd dL_law_901 h.1 ?_
      replace h := h.2
      refine T_sld dL_law_902 h.1 ?_
      replace h := h.2
      refine U_callV (as := [vI (w32 (g_xs G (i3 + 1).toNat)), vI (w32 (g_xs G (i3 + 2).toNat))]) (st := []) dL_law_903 kX10_fit lL_107 SH_0 rfl rfl rfl rfl (Nat.le_of_ble_eq_true rfl) (Nat.le_of_ble_eq_true rfl) (by omega) ?_
      refine W_X10_fit (by omega)  h (fun r903 v903 h => ?_)
      show n_T G d 0 0 mL_law 906 [vS 0, vR 0, vR 218, vI i3] [vI r903] SH v903 Q
      refine T_aload_n dL_law_906 rfl ?_
      refine T_aload_nS dL_law_907 rfl rfl ?_
      refine T_iload_n dL_law_908 rfl ?_
      refine T_iconst dL_law_909 (by decide) ?_
      refine U_iadd dL_law_910 h.1 ?_
      replace h := h.2
      refine T_sld dL_law_911 h.1 ?_
      replace h := h.2
      refine T_aload_nS dL_law_912 rfl rfl ?_
      refine T_iload_n dL_law_913 rfl ?_
      refine T_iconst dL_law_914 (by decide) ?_
      refine U_iadd dL_law_915 h.1 ?_
      replace h := h.2
      refine T_sld dL_law_916 h.1 ?_
      replace h := h.2
      refine U_callV (as := [vI (w32 (g_xs G (i3 + 1).toNat)), vI (w32 (g_xs G (i3 + 2).toNat))]) (st := [vI r903]) dL_law_917 kX11_fit lL_110 SH_218 rfl rfl rfl rfl (Nat.le_of_ble_eq_true rfl) (Nat.le_of_ble_eq_true rfl) (by omega) ?_
      refine W_X11_fit (by omega)  h (fun r917 v917 h => ?_)
      show n_T G d 0 0 mL_law 920 [vS 0, vR 0, vR 218, vI i3] [vI r917, vI r903] SH v917 Q
      refine U_icmp_eq (tgt := 1592) dL_law_920 (by decide) (fun hc => ?_) (fun hc => ?_)
      · replace h := h.1 hc
        refine U_iinc dL_law_1592 rfl (by decide) rfl h.1 ?_
        replace h := h.2
        refine T_goto (tgt := 18) dL_law_1595 (by decide) ?_
        exact T_drop h ⟨Or.inl rfl, Or.inl rfl, Or.inl rfl, Or.inl rfl, trivial⟩
      · replace h := h.2 hc
        refine T_iconst dL_law_923 (by decide) ?_
        exact T_zret dL_law_924 rfl (by decide) (hQ _ _ h)
    · refine U_tab (tgt := 925) dL_law_33 23 hc (by decide) rfl (by decide) ?_
      replace h := h.2.2.2.2.2.2.2.2.2.2.2.2.2.2.2.2.2.2.2.2.2.2.2.1 hc
      refine T_aload_n dL_law_925 rfl ?_
      refine T_aload_nS dL_law_926 rfl rfl ?_
      refine T_iload_n dL_law_927 rfl ?_
      refine T_iconst dL_law_928 (by decide) ?_
      refine U_iadd dL_law_929 h.1 ?_
      replace h := h.2
      refine T_sld dL_law_930 h.1 ?_
      replace h := h.2
      refine U_callV (as := [vI (w32 (g_xs G (i3 + 1).toNat))]) (st := []) dL_law_931 kX10_cubes lL_111 SH_0 rfl rfl rfl rfl (Nat.le_of_ble_eq_true rfl) (Nat.le_of_ble_eq_true rfl) (by omega) ?_
      refine W_X10_cubes (by omega)  h (fun r931 v931 h => ?_)
      show n_T G d 0 0 mL_law 934 [vS 0, vR 0, vR 218, vI i3] [vI r931] SH v931 Q
      refine T_aload_n dL_law_934 rfl ?_
      refine T_aload_nS dL_law_935 rfl rfl ?_
      refine T_iload_n dL_law_936 rfl ?_
      refine T_iconst dL_law_937 (by decide) ?_
      refine U_iadd dL_law_938 h.1 ?_
      replace h := h.2
      refine T_sld dL_law_939 h.1 ?_
      replace h := h.2
      refine U_callV (as := [vI (w32 (g_xs G (i3 + 1).toNat))]) (st := [vI r931]) dL_law_940 kX11_cubes lL_114 SH_218 rfl rfl rfl rfl (Nat.le_of_ble_eq_true rfl) (Nat.le_of_ble_eq_true rfl) (by omega) ?_
      refine W_X11_cubes (by omega)  h (fun r940 v940 h => ?_)
      show n_T G d 0 0 mL_law 943 [vS 0, vR 0, vR 218, vI i3] [vI r940, vI r931] SH v940 Q
      refine U_icmp_eq (tgt := 1592) dL_law_943 (by decide) (fun hc => ?_) (fun hc => ?_)
      · replace h := h.1 hc
        refine U_iinc dL_law_1592 rfl (by decide) rfl h.1 ?_
        replace h := h.2
        refine T_goto (tgt := 18) dL_law_1595 (by decide) ?_
        exact T_drop h ⟨Or.inl rfl, Or.inl rfl, Or.inl rfl, Or.inl rfl, trivial⟩
      · replace h := h.2 hc
        refine T_iconst dL_law_946 (by decide) ?_
        exact T_zret dL_law_947 rfl (by decide) (hQ _ _ h)
    · refine U_tab (tgt := 948) dL_law_33 24 hc (by decide) rfl (by decide) ?_
      replace h := h.2.2.2.2.2.2.2.2.2.2.2.2.2.2.2.2.2.2.2.2.2.2.2.2.1 hc
      refine T_aload_n dL_law_948 rfl ?_
      refine T_aload_nS dL_law_949 rfl rfl ?_
      refine T_iload_n dL_law_950 rfl ?_
      refine T_iconst dL_law_951 (by decide) ?_
      refine U_iadd dL_law_952 h.1 ?_
      replace h := h.2
      refine T_sld dL_law_953 h.1 ?_
      replace h := h.2
      refine U_callV (as := [vI (w32 (g_xs G (i3 + 1).toNat))]) (st := []) dL_law_954 kX10_most lL_115 SH_0 rfl rfl rfl rfl (Nat.le_of_ble_eq_true rfl) (Nat.le_of_ble_eq_true rfl) (by omega) ?_
      refine W_X10_most (by omega)  h (fun r954 v954 h => ?_)
      show n_T G d 0 0 mL_law 957 [vS 0, vR 0, vR 218, vI i3] [vI r954] SH v954 Q
      refine T_aload_n dL_law_957 rfl ?_
      refine T_aload_nS dL_law_958 rfl rfl ?_
      refine T_iload_n dL_law_959 rfl ?_
      refine T_iconst dL_law_960 (by decide) ?_
      refine U_iadd dL_law_961 h.1 ?_
      replace h := h.2
      refine T_sld dL_law_962 h.1 ?_
      replace h := h.2
      refine U_callV (as := [vI (w32 (g_xs G (i3 + 1).toNat))]) (st := [vI r954]) dL_law_963 kX11_most lL_118 SH_218 rfl rfl rfl rfl (Nat.le_of_ble_eq_true rfl) (Nat.le_of_ble_eq_true rfl) (by omega) ?_
      refine W_X11_most (by omega)  h (fun r963 v963 h => ?_)
      show n_T G d 0 0 mL_law 966 [vS 0, vR 0, vR 218, vI i3] [vI r963, vI r954] SH v963 Q
      refine U_icmp_eq (tgt := 1592) dL_law_966 (by decide) (fun hc => ?_) (fun hc => ?_)
      · replace h := h.1 hc
        refine U_iinc dL_law_1592 rfl (by decide) rfl h.1 ?_
        replace h := h.2
        refine T_goto (tgt := 18) dL_law_1595 (by decide) ?_
        exact T_drop h ⟨Or.inl rfl, Or.inl rfl, Or.inl rfl, Or.inl rfl, trivial⟩
      · replace h := h.2 hc
        refine T_iconst dL_law_969 (by decide) ?_
        exact T_zret dL_law_970 rfl (by decide) (hQ _ _ h)
    · refine U_tab (tgt := 971) dL_law_33 25 hc (by decide) rfl (by decide) ?_
      replace h := h.2.2.2.2.2.2.2.2.2.2.2.2.2.2.2.2.2.2.2.2.2.2.2.2.2.1 hc
      refine T_aload_n dL_law_971 rfl ?_
      refine T_aload_nS dL_law_972 rfl rfl ?_
      refine T_iload_n dL_law_973 rfl ?_
      refine T_iconst dL_law_974 (by decide) ?_
      refine U_iadd dL_law_975 h.1 ?_
      replace h := h.2
      refine T_sld dL_law_976 h.1 ?_
      replace h := h.2
      refine U_callV (as := [vI (w32 (g_xs G (i3 + 1).toNat))]) (st := []) dL_law_977 kX10_opposite lL_119 SH_0 rfl rfl rfl rfl (Nat.le_of_ble_eq_true rfl) (Nat.le_of_ble_eq_true rfl) (by omega) ?_
      refine W_X10_opposite (by omega)  h (fun r977 v977 h => ?_)
      show n_T G d 0 0 mL_law 980 [vS 0, vR 0, vR 218, vI i3] [vI r977] SH v977 Q
      refine T_aload_n dL_law_980 rfl ?_
      refine T_aload_nS dL_law_981 rfl rfl ?_
      refine T_iload_n dL_law_982 rfl ?_
      refine T_iconst dL_law_983 (by decide) ?_
      refine U_iadd dL_law_984 h.1 ?_
      replace h := h.2
      refine T_sld dL_law_985 h.1 ?_
      replace h := h.2
      refine U_callV (as := [vI (w32 (g_xs G (i3 + 1).toNat))]) (st := [vI r977]) dL_law_986 kX11_opposite lL_122 SH_218 rfl rfl rfl rfl (Nat.le_of_ble_eq_true rfl) (Nat.le_of_ble_eq_true rfl) (by omega) ?_
      refine W_X11_opposite (by omega)  h (fun r986 v986 h => ?_)
      show n_T G d 0 0 mL_law 989 [vS 0, vR 0, vR 218, vI i3] [vI r986, vI r977] SH v986 Q
      refine U_icmp_eq (tgt := 1592) dL_law_989 (by decide) (fun hc => ?_) (fun hc => ?_)
      · replace h := h.1 hc
        refine U_iinc dL_law_1592 rfl (by decide) rfl h.1 ?_
        replace h := h.2
        refine T_goto (tgt := 18) dL_law_1595 (by decide) ?_
        exact T_drop h ⟨Or.inl rfl, Or.inl rfl, Or.inl rfl, Or.inl rfl, trivial⟩
      · replace h := h.2 hc
        refine T_iconst dL_law_992 (by decide) ?_
        exact T_zret dL_law_993 rfl (by decide) (hQ _ _ h)
    · refine U_tab (tgt := 994) dL_law_33 26 hc (by decide) rfl (by decide) ?_
      replace h := h.2.2.2.2.2.2.2.2.2.2.2.2.2.2.2.2.2.2.2.2.2.2.2.2.2.2.1 hc
      refine T_aload_n dL_law_994 rfl ?_
      refine T_aload_nS dL_law_995 rfl rfl ?_
      refine T_iload_n dL_law_996 rfl ?_
      refine T_iconst dL_law_997 (by decide) ?_
      refine U_iadd dL_law_998 h.1 ?_
      replace h := h.2
      refine T_sld dL_law_999 h.1 ?_
      replace h := h.2
      refine U_callV (as := [vI (w32 (g_xs G (i3 + 1).toNat))]) (st := []) dL_law_1000 kX10_even lL_123 SH_0 rfl rfl rfl rfl (Nat.le_of_ble_eq_true rfl) (Nat.le_of_ble_eq_true rfl) (by omega) ?_
      refine W_X10_even (by omega)  h (fun r1000 v1000 h => ?_)
      show n_T G d 0 0 mL_law 1003 [vS 0, vR 0, vR 218, vI i3] [vI r1000] SH v1000 Q
      refine T_aload_n dL_law_1003 rfl ?_
      refine T_aload_nS dL_law_1004 rfl rfl ?_
      refine T_iload_n dL_law_1005 rfl ?_
      refine T_iconst dL_law_1006 (by decide) ?_
      refine U_iadd dL_law_1007 h.1 ?_
      replace h := h.2
      refine T_sld dL_law_1008 h.1 ?_
      replace h := h.2
      refine U_callV (as := [vI (w32 (g_xs G (i3 + 1).toNat))]) (st := [vI r1000]) dL_law_1009 kX11_even lL_126 SH_218 rfl rfl rfl rfl (Nat.le_of_ble_eq_true rfl) (Nat.le_of_ble_eq_true rfl) (by omega) ?_
      refine W_X11_even (by omega)  h (fun r1009 v1009 h => ?_)
      show n_T G d 0 0 mL_law 1012 [vS 0, vR 0, vR 218, vI i3] [vI r1009, vI r1000] SH v1009 Q
      refine U_icmp_eq (tgt := 1592) dL_law_1012 (by decide) (fun hc => ?_) (fun hc => ?_)
      · replace h := h.1 hc
        refine U_iinc dL_law_1592 rfl (by decide) rfl h.1 ?_
        replace h := h.2
        refine T_goto (tgt := 18) dL_law_1595 (by decide) ?_
        exact T_drop h ⟨Or.inl rfl, Or.inl rfl, Or.inl rfl, Or.inl rfl, trivial⟩
      · replace h := h.2 hc
        refine T_iconst dL_law_1015 (by decide) ?_
        exact T_zret dL_law_1016 rfl (by decide) (hQ _ _ h)
    · refine U_tab (tgt := 1017) dL_law_33 27 hc (by decide) rfl (by decide) ?_
      replace h := h.2.2.2.2.2.2.2.2.2.2.2.2.2.2.2.2.2.2.2.2.2.2.2.2.2.2.2.1 hc
      refine T_aload_n dL_law_1017 rfl ?_
      refine U_callV (as := []) (st := []) dL_law_1018 kX10_few lL_127 SH_0 rfl rfl rfl rfl (Nat.le_of_ble_eq_true rfl) (Nat.le_of_ble_eq_true rfl) (by omega) ?_
      refine W_X10_few (by omega)  h (fun r1018 v1018 h => ?_)
      show n_T G d 0 0 mL_law 1021 [vS 0, vR 0, vR 218, vI i3] [vI r1018] SH v1018 Q
      refine T_aload_n dL_law_1021 rfl ?_
      refine U_callV (as := []) (st := [vI r1018]) dL_law_1022 kX11_few lL_130 SH_218 rfl rfl rfl rfl (Nat.le_of_ble_eq_true rfl) (Nat.le_of_ble_eq_true rfl) (by omega) ?_
      refine W_X11_few (by omega)  h (fun r1022 v1022 h => ?_)
      show n_T G d 0 0 mL_law 1025 [vS 0, vR 0, vR 218, vI i3] [vI r1022, vI r1018] SH v1022 Q
      refine U_icmp_eq (tgt := 1592) dL_law_1025 (by decide) (fun hc => ?_) (fun hc => ?_)
      · replace h := h.1 hc
        refine U_iinc dL_law_1592 rfl (by decide) rfl h.1 ?_
        replace h := h.2
        refine T_goto (tgt := 18) dL_law_1595 (by decide) ?_
        exact T_drop h ⟨Or.inl rfl, Or.inl rfl, Or.inl rfl, Or.inl rfl, trivial⟩
      · replace h := h.2 hc
        refine T_iconst dL_law_1028 (by decide) ?_
        exact T_zret dL_law_1029 rfl (by decide) (hQ _ _ h)
    · refine U_tab (tgt := 1030) dL_law_33 28 hc (by decide) rfl (by decide) ?_
      replace h := h.2.2.2.2.2.2.2.2.2.2.2.2.2.2.2.2.2.2.2.2.2.2.2.2.2.2.2.2.1 hc
      refine T_aload_n dL_law_1030 rfl ?_
      refine T_aload_nS dL_law_1031 rfl rfl ?_
      refine T_iload_n dL_law_1032 rfl ?_
      refine T_iconst dL_law_1033 (by decide) ?_
      refine U_iadd dL_law_1034 h.1 ?_
      replace h := h.2
      refine T_sld dL_law_1035 h.1 ?_
      replace h := h.2
      refine T_aload_nS dL_law_1036 rfl rfl ?_
      refine T_iload_n dL_law_1037 rfl ?_
      refine T_iconst dL_law_1038 (by decide) ?_
      refine U_iadd dL_law_1039 h.1 ?_
      replace h := h.2
      refine T_sld dL_law_1040 h.1 ?_
      replace h := h.2
      refine T_aload_nS dL_law_1041 rfl rfl ?_
      refine T_iload_n dL_law_1042 rfl ?_
      refine T_iconst dL_law_1043 (by decide) ?_
      refine U_iadd dL_law_1044 h.1 ?_
      replace h := h.2
      refine T_sld dL_law_1045 h.1 ?_
      replace h := h.2
      refine U_callV (as := [vI (w32 (g_xs G (i3 + 1).toNat)), vI (w32 (g_xs G (i3 + 2).toNat)), vI (w32 (g_xs G (i3 + 3).toNat))]) (st := []) dL_law_1046 kX10_median lL_131 SH_0 rfl rfl rfl rfl (Nat.le_of_ble_eq_true rfl) (Nat.le_of_ble_eq_true rfl) (by omega) ?_
      refine W_X10_median (by omega)  h (fun r1046 v1046 h => ?_)
      show n_T G d 0 0 mL_law 1049 [vS 0, vR 0, vR 218, vI i3] [vI r1046] SH v1046 Q
      refine T_aload_n dL_law_1049 rfl ?_
      refine T_aload_nS dL_law_1050 rfl rfl ?_
      refine T_iload_n dL_law_1051 rfl ?_
      refine T_iconst dL_law_1052 (by decide) ?_
      refine U_iadd dL_law_1053 h.1 ?_
      replace h := h.2
      refine T_sld dL_law_1054 h.1 ?_
      replace h := h.2
      refine T_aload_nS dL_law_1055 rfl rfl ?_
      refine T_iload_n dL_law_1056 rfl ?_
      refine T_iconst dL_law_1057 (by decide) ?_
      refine U_iadd dL_law_1058 h.1 ?_
      replace h := h.2
      refine T_sld dL_law_1059 h.1 ?_
      replace h := h.2
      refine T_aload_nS dL_law_1060 rfl rfl ?_
      refine T_iload_n dL_law_1061 rfl ?_
      refine T_iconst dL_law_1062 (by decide) ?_
      refine U_iadd dL_law_1063 h.1 ?_
      replace h := h.2
      refine T_sld dL_law_1064 h.1 ?_
      replace h := h.2
      refine U_callV (as := [vI (w32 (g_xs G (i3 + 1).toNat)), vI (w32 (g_xs G (i3 + 2).toNat)), vI (w32 (g_xs G (i3 + 3).toNat))]) (st := [vI r1046]) dL_law_1065 kX11_median lL_134 SH_218 rfl rfl rfl rfl (Nat.le_of_ble_eq_true rfl) (Nat.le_of_ble_eq_true rfl) (by omega) ?_
      refine W_X11_median (by omega)  h (fun r1065 v1065 h => ?_)
      show n_T G d 0 0 mL_law 1068 [vS 0, vR 0, vR 218, vI i3] [vI r1065, vI r1046] SH v1065 Q
      refine U_icmp_eq (tgt := 1592) dL_law_1068 (by decide) (fun hc => ?_) (fun hc => ?_)
      · replace h := h.1 hc
        refine U_iinc dL_law_1592 rfl (by decide) rfl h.1 ?_
        replace h := h.2
        refine T_goto (tgt := 18) dL_law_1595 (by decide) ?_
        exact T_drop h ⟨Or.inl rfl, Or.inl rfl, Or.inl rfl, Or.inl rfl, trivial⟩
      · replace h := h.2 hc
        refine T_iconst dL_law_1071 (by decide) ?_
        exact T_zret dL_law_1072 rfl (by decide) (hQ _ _ h)
    · refine U_tab (tgt := 1073) dL_law_33 29 hc (by decide) rfl (by decide) ?_
      replace h := h.2.2.2.2.2.2.2.2.2.2.2.2.2.2.2.2.2.2.2.2.2.2.2.2.2.2.2.2.2.1 hc
      refine T_aload_n dL_law_1073 rfl ?_
      refine T_aload_nS dL_law_1074 rfl rfl ?_
      refine T_iload_n dL_law_1075 rfl ?_
      refine T_iconst dL_law_1076 (by decide) ?_
      refine U_iadd dL_law_1077 h.1 ?_
      replace h := h.2
      refine T_sld dL_law_1078 h.1 ?_
      replace h := h.2
      refine U_callV (as := [vI (w32 (g_xs G (i3 + 1).toNat))]) (st := []) dL_law_1079 kX10_medians lL_135 SH_0 rfl rfl rfl rfl (Nat.le_of_ble_eq_true rfl) (Nat.le_of_ble_eq_true rfl) (by omega) ?_
      refine W_X10_medians (by omega)  h (fun r1079 v1079 h => ?_)
      show n_T G d 0 0 mL_law 1082 [vS 0, vR 0, vR 218, vI i3] [vI r1079] SH v1079 Q
      refine T_aload_n dL_law_1082 rfl ?_
      refine T_aload_nS dL_law_1083 rfl rfl ?_
      refine T_iload_n dL_law_1084 rfl ?_
      refine T_iconst dL_law_1085 (by decide) ?_
      refine U_iadd dL_law_1086 h.1 ?_
      replace h := h.2
      refine T_sld dL_law_1087 h.1 ?_
      replace h := h.2
      refine U_callV (as := [vI (w32 (g_xs G (i3 + 1).toNat))]) (st := [vI r1079]) dL_law_1088 kX11_medians lL_138 SH_218 rfl rfl rfl rfl (Nat.le_of_ble_eq_true rfl) (Nat.le_of_ble_eq_true rfl) (by omega) ?_
      refine W_X11_medians (by omega)  h (fun r1088 v1088 h => ?_)
      show n_T G d 0 0 mL_law 1091 [vS 0, vR 0, vR 218, vI i3] [vI r1088, vI r1079] SH v1088 Q
      refine U_icmp_eq (tgt := 1592) dL_law_1091 (by decide) (fun hc => ?_) (fun hc => ?_)
      · replace h := h.1 hc
        refine U_iinc dL_law_1592 rfl (by decide) rfl h.1 ?_
        replace h := h.2
        refine T_goto (tgt := 18) dL_law_1595 (by decide) ?_
        exact T_drop h ⟨Or.inl rfl, Or.inl rfl, Or.inl rfl, Or.inl rfl, trivial⟩
      · replace h := h.2 hc
        refine T_iconst dL_law_1094 (by decide) ?_
        exact T_zret dL_law_1095 rfl (by decide) (hQ _ _ h)
    · refine U_tab (tgt := 1096) dL_law_33 30 hc (by decide) rfl (by decide) ?_
      replace h := h.2.2.2.2.2.2.2.2.2.2.2.2.2.2.2.2.2.2.2.2.2.2.2.2.2.2.2.2.2.2.1 hc
      refine T_aload_n dL_law_1096 rfl ?_
      refine U_callV (as := []) (st := []) dL_law_1097 kX10_vote lL_139 SH_0 rfl rfl rfl rfl (Nat.le_of_ble_eq_true rfl) (Nat.le_of_ble_eq_true rfl) (by omega) ?_
      refine W_X10_vote (by omega)  h (fun r1097 v1097 h => ?_)
      show n_T G d 0 0 mL_law 1100 [vS 0, vR 0, vR 218, vI i3] [vI r1097] SH v1097 Q
      refine T_aload_n dL_law_1100 rfl ?_
      refine U_callV (as := []) (st := [vI r1097]) dL_law_1101 kX11_vote lL_142 SH_218 rfl rfl rfl rfl (Nat.le_of_ble_eq_true rfl) (Nat.le_of_ble_eq_true rfl) (by omega) ?_
      refine W_X11_vote (by omega)  h (fun r1101 v1101 h => ?_)
      show n_T G d 0 0 mL_law 1104 [vS 0, vR 0, vR 218, vI i3] [vI r1101, vI r1097] SH v1101 Q
      refine U_icmp_eq (tgt := 1592) dL_law_1104 (by decide) (fun hc => ?_) (fun hc => ?_)
      · replace h := h.1 hc
        refine U_iinc dL_law_1592 rfl (by decide) rfl h.1 ?_
        replace h := h.2
        refine T_goto (tgt := 18) dL_law_1595 (by decide) ?_
        exact T_drop h ⟨Or.inl rfl, Or.inl rfl, Or.inl rfl, Or.inl rfl, trivial⟩
      · replace h := h.2 hc
        refine T_iconst dL_law_1107 (by decide) ?_
        exact T_zret dL_law_1108 rfl (by decide) (hQ _ _ h)
    · refine U_tab (tgt := 1109) dL_law_33 31 hc (by decide) rfl (by decide) ?_
      replace h := h.2.2.2.2.2.2.2.2.2.2.2.2.2.2.2.2.2.2.2.2.2.2.2.2.2.2.2.2.2.2.2.1 hc
      refine T_aload_n dL_law_1109 rfl ?_
      refine T_aload_nS dL_law_1110 rfl rfl ?_
      refine T_iload_n dL_law_1111 rfl ?_
      refine T_iconst dL_law_1112 (by decide) ?_
      refine U_iadd dL_law_1113 h.1 ?_
      replace h := h.2
      refine T_sld dL_law_1114 h.1 ?_
      replace h := h.2
      refine U_callV (as := [vI (w32 (g_xs G (i3 + 1).toNat))]) (st := []) dL_law_1115 kX10_winner lL_143 SH_0 rfl rfl rfl rfl (Nat.le_of_ble_eq_true rfl) (Nat.le_of_ble_eq_true rfl) (by omega) ?_
      refine W_X10_winner (by omega)  h (fun r1115 v1115 h => ?_)
      show n_T G d 0 0 mL_law 1118 [vS 0, vR 0, vR 218, vI i3] [vI r1115] SH v1115 Q
      refine T_aload_n dL_law_1118 rfl ?_
      refine T_aload_nS dL_law_1119 rfl rfl ?_
      refine T_iload_n dL_law_1120 rfl ?_
      refine T_iconst dL_law_1121 (by decide) ?_
      refine U_iadd dL_law_1122 h.1 ?_
      replace h := h.2
      refine T_sld dL_law_1123 h.1 ?_
      replace h := h.2
      refine U_callV (as := [vI (w32 (g_xs G (i3 + 1).toNat))]) (st := [vI r1115]) dL_law_1124 kX11_winner lL_146 SH_218 rfl rfl rfl rfl (Nat.le_of_ble_eq_true rfl) (Nat.le_of_ble_eq_true rfl) (by omega) ?_
      refine W_X11_winner (by omega)  h (fun r1124 v1124 h => ?_)
      show n_T G d 0 0 mL_law 1127 [vS 0, vR 0, vR 218, vI i3] [vI r1124, vI r1115] SH v1124 Q
      refine U_icmp_eq (tgt := 1592) dL_law_1127 (by decide) (fun hc => ?_) (fun hc => ?_)
      · replace h := h.1 hc
        refine U_iinc dL_law_1592 rfl (by decide) rfl h.1 ?_
        replace h := h.2
        refine T_goto (tgt := 18) dL_law_1595 (by decide) ?_
        exact T_drop h ⟨Or.inl rfl, Or.inl rfl, Or.inl rfl, Or.inl rfl, trivial⟩
      · replace h := h.2 hc
        refine T_iconst dL_law_1130 (by decide) ?_
        exact T_zret dL_law_1131 rfl (by decide) (hQ _ _ h)
    · refine U_tab (tgt := 1132) dL_law_33 32 hc (by decide) rfl (by decide) ?_
      replace h := h.2.2.2.2.2.2.2.2.2.2.2.2.2.2.2.2.2.2.2.2.2.2.2.2.2.2.2.2.2.2.2.2.1 hc
      refine T_aload_n dL_law_1132 rfl ?_
      refine T_aload_nS dL_law_1133 rfl rfl ?_
      refine T_iload_n dL_law_1134 rfl ?_
      refine T_iconst dL_law_1135 (by decide) ?_
      refine U_iadd dL_law_1136 h.1 ?_
      replace h := h.2
      refine T_sld dL_law_1137 h.1 ?_
      replace h := h.2
      refine T_aload_nS dL_law_1138 rfl rfl ?_
      refine T_iload_n dL_law_1139 rfl ?_
      refine T_iconst dL_law_1140 (by decide) ?_
      refine U_iadd dL_law_1141 h.1 ?_
      replace h := h.2
      refine T_sld dL_law_1142 h.1 ?_
      replace h := h.2
      refine U_callV (as := [vI (w32 (g_xs G (i3 + 1).toNat)), vI (w32 (g_xs G (i3 + 2).toNat))]) (st := []) dL_law_1143 kX10_set lL_147 SH_0 rfl rfl rfl rfl (Nat.le_of_ble_eq_true rfl) (Nat.le_of_ble_eq_true rfl) (by omega) ?_
      refine W_X10_set (by omega)  h (fun r1143 v1143 h => ?_)
      show n_T G d 0 0 mL_law 1146 [vS 0, vR 0, vR 218, vI i3] [vI r1143] SH v1143 Q
      refine T_aload_n dL_law_1146 rfl ?_
      refine T_aload_nS dL_law_1147 rfl rfl ?_
      refine T_iload_n dL_law_1148 rfl ?_
      refine T_iconst dL_law_1149 (by decide) ?_
      refine U_iadd dL_law_1150 h.1 ?_
      replace h := h.2
      refine T_sld dL_law_1151 h.1 ?_
      replace h := h.2
      refine T_aload_nS dL_law_1152 rfl rfl ?_
      refine T_iload_n dL_law_1153 rfl ?_
      refine T_iconst dL_law_1154 (by decide) ?_
      refine U_iadd dL_law_1155 h.1 ?_
      replace h := h.2
      refine T_sld dL_law_1156 h.1 ?_
      replace h := h.2
      refine U_callV (as := [vI (w32 (g_xs G (i3 + 1).toNat)), vI (w32 (g_xs G (i3 + 2).toNat))]) (st := [vI r1143]) dL_law_1157 kX11_set lL_150 SH_218 rfl rfl rfl rfl (Nat.le_of_ble_eq_true rfl) (Nat.le_of_ble_eq_true rfl) (by omega) ?_
      refine W_X11_set (by omega)  h (fun r1157 v1157 h => ?_)
      show n_T G d 0 0 mL_law 1160 [vS 0, vR 0, vR 218, vI i3] [vI r1157, vI r1143] SH v1157 Q
      refine U_icmp_eq (tgt := 1592) dL_law_1160 (by decide) (fun hc => ?_) (fun hc => ?_)
      · replace h := h.1 hc
        refine U_iinc dL_law_1592 rfl (by decide) rfl h.1 ?_
        replace h := h.2
        refine T_goto (tgt := 18) dL_law_1595 (by decide) ?_
        exact T_drop h ⟨Or.inl rfl, Or.inl rfl, Or.inl rfl, Or.inl rfl, trivial⟩
      · replace h := h.2 hc
        refine T_iconst dL_law_1163 (by decide) ?_
        exact T_zret dL_law_1164 rfl (by decide) (hQ _ _ h)
    · refine U_tab (tgt := 1165) dL_law_33 33 hc (by decide) rfl (by decide) ?_
      replace h := h.2.2.2.2.2.2.2.2.2.2.2.2.2.2.2.2.2.2.2.2.2.2.2.2.2.2.2.2.2.2.2.2.2.1 hc
      refine T_aload_n dL_law_1165 rfl ?_
      refine T_aload_nS dL_law_1166 rfl rfl ?_
      refine T_iload_n dL_law_1167 rfl ?_
      refine T_iconst dL_law_1168 (by decide) ?_
      refine U_iadd dL_law_1169 h.1 ?_
      replace h := h.2
      refine T_sld dL_law_1170 h.1 ?_
      replace h := h.2
      refine U_callV (as := [vI (w32 (g_xs G (i3 + 1).toNat))]) (st := []) dL_law_1171 kX10_hull lL_151 SH_0 rfl rfl rfl rfl (Nat.le_of_ble_eq_true rfl) (Nat.le_of_ble_eq_true rfl) (by omega) ?_
      refine W_X10_hull (by omega)  h (fun r1171 v1171 h => ?_)
      show n_T G d 0 0 mL_law 1174 [vS 0, vR 0, vR 218, vI i3] [vI r1171] SH v1171 Q
      refine T_aload_n dL_law_1174 rfl ?_
      refine T_aload_nS dL_law_1175 rfl rfl ?_
      refine T_iload_n dL_law_1176 rfl ?_
      refine T_iconst dL_law_1177 (by decide) ?_
      refine U_iadd dL_law_1178 h.1 ?_
      replace h := h.2
      refine T_sld dL_law_1179 h.1 ?_
      replace h := h.2
      refine U_callV (as := [vI (w32 (g_xs G (i3 + 1).toNat))]) (st := [vI r1171]) dL_law_1180 kX11_hull lL_154 SH_218 rfl rfl rfl rfl (Nat.le_of_ble_eq_true rfl) (Nat.le_of_ble_eq_true rfl) (by omega) ?_
      refine W_X11_hull (by omega)  h (fun r1180 v1180 h => ?_)
      show n_T G d 0 0 mL_law 1183 [vS 0, vR 0, vR 218, vI i3] [vI r1180, vI r1171] SH v1180 Q
      refine U_icmp_eq (tgt := 1592) dL_law_1183 (by decide) (fun hc => ?_) (fun hc => ?_)
      · replace h := h.1 hc
        refine U_iinc dL_law_1592 rfl (by decide) rfl h.1 ?_
        replace h := h.2
        refine T_goto (tgt := 18) dL_law_1595 (by decide) ?_
        exact T_drop h ⟨Or.inl rfl, Or.inl rfl, Or.inl rfl, Or.inl rfl, trivial⟩
      · replace h := h.2 hc
        refine T_iconst dL_law_1186 (by decide) ?_
        exact T_zret dL_law_1187 rfl (by decide) (hQ _ _ h)
    · refine U_tab (tgt := 1188) dL_law_33 34 hc (by decide) rfl (by decide) ?_
      replace h := h.2.2.2.2.2.2.2.2.2.2.2.2.2.2.2.2.2.2.2.2.2.2.2.2.2.2.2.2.2.2.2.2.2.2.1 hc
      refine T_aload_n dL_law_1188 rfl ?_
      refine T_aload_nS dL_law_1189 rfl rfl ?_
      refine T_iload_n dL_law_1190 rfl ?_
      refine T_iconst dL_law_1191 (by decide) ?_
      refine U_iadd dL_law_1192 h.1 ?_
      replace h := h.2
      refine T_sld dL_law_1193 h.1 ?_
      replace h := h.2
      refine T_aload_nS dL_law_1194 rfl rfl ?_
      refine T_iload_n dL_law_1195 rfl ?_
      refine T_iconst dL_law_1196 (by decide) ?_
      refine U_iadd dL_law_1197 h.1 ?_
      replace h := h.2
      refine T_sld dL_law_1198 h.1 ?_
      replace h := h.2
      refine U_callV (as := [vI (w32 (g_xs G (i3 + 1).toNat)), vI (w32 (g_xs G (i3 + 2).toNat))]) (st := []) dL_law_1199 kX10_gate lL_155 SH_0 rfl rfl rfl rfl (Nat.le_of_ble_eq_true rfl) (Nat.le_of_ble_eq_true rfl) (by omega) ?_
      refine W_X10_gate (by omega)  h (fun r1199 v1199 h => ?_)
      show n_T G d 0 0 mL_law 1202 [vS 0, vR 0, vR 218, vI i3] [vI r1199] SH v1199 Q
      refine T_aload_n dL_law_1202 rfl ?_
      refine T_aload_nS dL_law_1203 rfl rfl ?_
      refine T_iload_n dL_law_1204 rfl ?_
      refine T_iconst dL_law_1205 (by decide) ?_
      refine U_iadd dL_law_1206 h.1 ?_
      replace h := h.2
      refine T_sld dL_law_1207 h.1 ?_
      replace h := h.2
      refine T_aload_nS dL_law_1208 rfl rfl ?_
      refine T_iload_n dL_law_1209 rfl ?_
      refine T_iconst dL_law_1210 (by decide) ?_
      refine U_iadd dL_law_1211 h.1 ?_
      replace h := h.2
      refine T_sld dL_law_1212 h.1 ?_
      replace h := h.2
      refine U_callV (as := [vI (w32 (g_xs G (i3 + 1).toNat)), vI (w32 (g_xs G (i3 + 2).toNat))]) (st := [vI r1199]) dL_law_1213 kX11_gate lL_158 SH_218 rfl rfl rfl rfl (Nat.le_of_ble_eq_true rfl) (Nat.le_of_ble_eq_true rfl) (by omega) ?_
      refine W_X11_gate (by omega)  h (fun r1213 v1213 h => ?_)
      show n_T G d 0 0 mL_law 1216 [vS 0, vR 0, vR 218, vI i3] [vI r1213, vI r1199] SH v1213 Q
      refine U_icmp_eq (tgt := 1592) dL_law_1216 (by decide) (fun hc => ?_) (fun hc => ?_)
      · replace h := h.1 hc
        refine U_iinc dL_law_1592 rfl (by decide) rfl h.1 ?_
        replace h := h.2
        refine T_goto (tgt := 18) dL_law_1595 (by decide) ?_
        exact T_drop h ⟨Or.inl rfl, Or.inl rfl, Or.inl rfl, Or.inl rfl, trivial⟩
      · replace h := h.2 hc
        refine T_iconst dL_law_1219 (by decide) ?_
        exact T_zret dL_law_1220 rfl (by decide) (hQ _ _ h)
    · refine U_tab (tgt := 1221) dL_law_33 35 hc (by decide) rfl (by decide) ?_
      replace h := h.2.2.2.2.2.2.2.2.2.2.2.2.2.2.2.2.2.2.2.2.2.2.2.2.2.2.2.2.2.2.2.2.2.2.2.1 hc
      refine T_aload_n dL_law_1221 rfl ?_
      refine U_callV (as := []) (st := []) dL_law_1222 kX10_see lL_159 SH_0 rfl rfl rfl rfl (Nat.le_of_ble_eq_true rfl) (Nat.le_of_ble_eq_true rfl) (by omega) ?_
      refine W_X10_see (by omega)  h (fun r1222 v1222 h => ?_)
      show n_T G d 0 0 mL_law 1225 [vS 0, vR 0, vR 218, vI i3] [vI r1222] SH v1222 Q
      refine T_aload_n dL_law_1225 rfl ?_
      refine U_callV (as := []) (st := [vI r1222]) dL_law_1226 kX11_see lL_162 SH_218 rfl rfl rfl rfl (Nat.le_of_ble_eq_true rfl) (Nat.le_of_ble_eq_true rfl) (by omega) ?_
      refine W_X11_see (by omega)  h (fun r1226 v1226 h => ?_)
      show n_T G d 0 0 mL_law 1229 [vS 0, vR 0, vR 218, vI i3] [vI r1226, vI r1222] SH v1226 Q
      refine U_icmp_eq (tgt := 1592) dL_law_1229 (by decide) (fun hc => ?_) (fun hc => ?_)
      · replace h := h.1 hc
        refine U_iinc dL_law_1592 rfl (by decide) rfl h.1 ?_
        replace h := h.2
        refine T_goto (tgt := 18) dL_law_1595 (by decide) ?_
        exact T_drop h ⟨Or.inl rfl, Or.inl rfl, Or.inl rfl, Or.inl rfl, trivial⟩
      · replace h := h.2 hc
        refine T_iconst dL_law_1232 (by decide) ?_
        exact T_zret dL_law_1233 rfl (by decide) (hQ _ _ h)
    · refine U_tab (tgt := 1234) dL_law_33 36 hc (by decide) rfl (by decide) ?_
      replace h := h.2.2.2.2.2.2.2.2.2.2.2.2.2.2.2.2.2.2.2.2.2.2.2.2.2.2.2.2.2.2.2.2.2.2.2.2.1 hc
      refine T_aload_n dL_law_1234 rfl ?_
      refine U_callV (as := []) (st := []) dL_law_1235 kX10_fits lL_163 SH_0 rfl rfl rfl rfl (Nat.le_of_ble_eq_true rfl) (Nat.le_of_ble_eq_true rfl) (by omega) ?_
      refine W_X10_fits (by omega)  h (fun r1235 v1235 h => ?_)
      show n_T G d 0 0 mL_law 1238 [vS 0, vR 0, vR 218, vI i3] [vI r1235] SH v1235 Q
      refine T_aload_n dL_law_1238 rfl ?_
      refine U_callV (as := []) (st := [vI r1235]) dL_law_1239 kX11_fits lL_166 SH_218 rfl rfl rfl rfl (Nat.le_of_ble_eq_true rfl) (Nat.le_of_ble_eq_true rfl) (by omega) ?_
      refine W_X11_fits (by omega)  h (fun r1239 v1239 h => ?_)
      show n_T G d 0 0 mL_law 1242 [vS 0, vR 0, vR 218, vI i3] [vI r1239, vI r1235] SH v1239 Q
      refine U_icmp_eq (tgt := 1592) dL_law_1242 (by decide) (fun hc => ?_) (fun hc => ?_)
      · replace h := h.1 hc
        refine U_iinc dL_law_1592 rfl (by decide) rfl h.1 ?_
        replace h := h.2
        refine T_goto (tgt := 18) dL_law_1595 (by decide) ?_
        exact T_drop h ⟨Or.inl rfl, Or.inl rfl, Or.inl rfl, Or.inl rfl, trivial⟩
      · replace h := h.2 hc
        refine T_iconst dL_law_1245 (by decide) ?_
        exact T_zret dL_law_1246 rfl (by decide) (hQ _ _ h)
    · refine U_tab (tgt := 1247) dL_law_33 37 hc (by decide) rfl (by decide) ?_
      replace h := h.2.2.2.2.2.2.2.2.2.2.2.2.2.2.2.2.2.2.2.2.2.2.2.2.2.2.2.2.2.2.2.2.2.2.2.2.2.1 hc
      refine T_aload_n dL_law_1247 rfl ?_
      refine T_aload_nS dL_law_1248 rfl rfl ?_
      refine T_iload_n dL_law_1249 rfl ?_
      refine T_iconst dL_law_1250 (by decide) ?_
      refine U_iadd dL_law_1251 h.1 ?_
      replace h := h.2
      refine T_sld dL_law_1252 h.1 ?_
      replace h := h.2
      refine U_callV (as := [vI (w32 (g_xs G (i3 + 1).toNat))]) (st := []) dL_law_1253 kX10_tells lL_167 SH_0 rfl rfl rfl rfl (Nat.le_of_ble_eq_true rfl) (Nat.le_of_ble_eq_true rfl) (by omega) ?_
      refine W_X10_tells (by omega)  h (fun r1253 v1253 h => ?_)
      show n_T G d 0 0 mL_law 1256 [vS 0, vR 0, vR 218, vI i3] [vI r1253] SH v1253 Q
      refine T_aload_n dL_law_1256 rfl ?_
      refine T_aload_nS dL_law_1257 rfl rfl ?_
      refine T_iload_n dL_law_1258 rfl ?_
      refine T_iconst dL_law_1259 (by decide) ?_
      refine U_iadd dL_law_1260 h.1 ?_
      replace h := h.2
      refine T_sld dL_law_1261 h.1 ?_
      replace h := h.2
      refine U_callV (as := [vI (w32 (g_xs G (i3 + 1).toNat))]) (st := [vI r1253]) dL_law_1262 kX11_tells lL_170 SH_218 rfl rfl rfl rfl (Nat.le_of_ble_eq_true rfl) (Nat.le_of_ble_eq_true rfl) (by omega) ?_
      refine W_X11_tells (by omega)  h (fun r1262 v1262 h => ?_)
      show n_T G d 0 0 mL_law 1265 [vS 0, vR 0, vR 218, vI i3] [vI r1262, vI r1253] SH v1262 Q
      refine U_icmp_eq (tgt := 1592) dL_law_1265 (by decide) (fun hc => ?_) (fun hc => ?_)
      · replace h := h.1 hc
        refine U_iinc dL_law_1592 rfl (by decide) rfl h.1 ?_
        replace h := h.2
        refine T_goto (tgt := 18) dL_law_1595 (by decide) ?_
        exact T_drop h ⟨Or.inl rfl, Or.inl rfl, Or.inl rfl, Or.inl rfl, trivial⟩
      · replace h := h.2 hc
        refine T_iconst dL_law_1268 (by decide) ?_
        exact T_zret dL_law_1269 rfl (by decide) (hQ _ _ h)
    · refine U_tab (tgt := 1270) dL_law_33 38 hc (by decide) rfl (by decide) ?_
      replace h := h.2.2.2.2.2.2.2.2.2.2.2.2.2.2.2.2.2.2.2.2.2.2.2.2.2.2.2.2.2.2.2.2.2.2.2.2.2.2.1 hc
      refine T_aload_n dL_law_1270 rfl ?_
      refine T_aload_nS dL_law_1271 rfl rfl ?_
      refine T_iload_n dL_law_1272 rfl ?_
      refine T_iconst dL_law_1273 (by decide) ?_
      refine U_iadd dL_law_1274 h.1 ?_
      replace h := h.2
      refine T_sld dL_law_1275 h.1 ?_
      replace h := h.2
      refine T_aload_nS dL_law_1276 rfl rfl ?_
      refine T_iload_n dL_law_1277 rfl ?_
      refine T_iconst dL_law_1278 (by decide) ?_
      refine U_iadd dL_law_1279 h.1 ?_
      replace h := h.2
      refine T_sld dL_law_1280 h.1 ?_
      replace h := h.2
      refine U_callV (as := [vI (w32 (g_xs G (i3 + 1).toNat)), vI (w32 (g_xs G (i3 + 2).toNat))]) (st := []) dL_law_1281 kX10_join lL_171 SH_0 rfl rfl rfl rfl (Nat.le_of_ble_eq_true rfl) (Nat.le_of_ble_eq_true rfl) (by omega) ?_
      refine W_X10_join (by omega)  h (fun r1281 v1281 h => ?_)
      show n_T G d 0 0 mL_law 1284 [vS 0, vR 0, vR 218, vI i3] [vI r1281] SH v1281 Q
      refine T_aload_n dL_law_1284 rfl ?_
      refine T_aload_nS dL_law_1285 rfl rfl ?_
      refine T_iload_n dL_law_1286 rfl ?_
      refine T_iconst dL_law_1287 (by decide) ?_
      refine U_iadd dL_law_1288 h.1 ?_
      replace h := h.2
      refine T_sld dL_law_1289 h.1 ?_
      replace h := h.2
      refine T_aload_nS dL_law_1290 rfl rfl ?_
      refine T_iload_n dL_law_1291 rfl ?_
      refine T_iconst dL_law_1292 (by decide) ?_
      refine U_iadd dL_law_1293 h.1 ?_
      replace h := h.2
      refine T_sld dL_law_1294 h.1 ?_
      replace h := h.2
      refine U_callV (as := [vI (w32 (g_xs G (i3 + 1).toNat)), vI (w32 (g_xs G (i3 + 2).toNat))]) (st := [vI r1281]) dL_law_1295 kX11_join lL_174 SH_218 rfl rfl rfl rfl (Nat.le_of_ble_eq_true rfl) (Nat.le_of_ble_eq_true rfl) (by omega) ?_
      refine W_X11_join (by omega)  h (fun r1295 v1295 h => ?_)
      show n_T G d 0 0 mL_law 1298 [vS 0, vR 0, vR 218, vI i3] [vI r1295, vI r1281] SH v1295 Q
      refine U_icmp_eq (tgt := 1592) dL_law_1298 (by decide) (fun hc => ?_) (fun hc => ?_)
      · replace h := h.1 hc
        refine U_iinc dL_law_1592 rfl (by decide) rfl h.1 ?_
        replace h := h.2
        refine T_goto (tgt := 18) dL_law_1595 (by decide) ?_
        exact T_drop h ⟨Or.inl rfl, Or.inl rfl, Or.inl rfl, Or.inl rfl, trivial⟩
      · replace h := h.2 hc
        refine T_iconst dL_law_1301 (by decide) ?_
        exact T_zret dL_law_1302 rfl (by decide) (hQ _ _ h)
    · refine U_tab (tgt := 1303) dL_law_33 39 hc (by decide) rfl (by decide) ?_
      replace h := h.2.2.2.2.2.2.2.2.2.2.2.2.2.2.2.2.2.2.2.2.2.2.2.2.2.2.2.2.2.2.2.2.2.2.2.2.2.2.2.1 hc
      refine T_aload_n dL_law_1303 rfl ?_
      refine T_aload_nS dL_law_1304 rfl rfl ?_
      refine T_iload_n dL_law_1305 rfl ?_
      refine T_iconst dL_law_1306 (by decide) ?_
      refine U_iadd dL_law_1307 h.1 ?_
      replace h := h.2
      refine T_sld dL_law_1308 h.1 ?_
      replace h := h.2
      refine U_callV (as := [vI (w32 (g_xs G (i3 + 1).toNat))]) (st := []) dL_law_1309 kX10_cut lL_175 SH_0 rfl rfl rfl rfl (Nat.le_of_ble_eq_true rfl) (Nat.le_of_ble_eq_true rfl) (by omega) ?_
      refine W_X10_cut (by omega)  h (fun r1309 v1309 h => ?_)
      show n_T G d 0 0 mL_law 1312 [vS 0, vR 0, vR 218, vI i3] [vI r1309] SH v1309 Q
      refine T_aload_n dL_law_1312 rfl ?_
      refine T_aload_nS dL_law_1313 rfl rfl ?_
      refine T_iload_n dL_law_1314 rfl ?_
      refine T_iconst dL_law_1315 (by decide) ?_
      refine U_iadd dL_law_1316 h.1 ?_
      replace h := h.2
      refine T_sld dL_law_1317 h.1 ?_
      replace h := h.2
      refine U_callV (as := [vI (w32 (g_xs G (i3 + 1).toNat))]) (st := [vI r1309]) dL_law_1318 kX11_cut lL_178 SH_218 rfl rfl rfl rfl (Nat.le_of_ble_eq_true rfl) (Nat.le_of_ble_eq_true rfl) (by omega) ?_
      refine W_X11_cut (by omega)  h (fun r1318 v1318 h => ?_)
      show n_T G d 0 0 mL_law 1321 [vS 0, vR 0, vR 218, vI i3] [vI r1318, vI r1309] SH v1318 Q
      refine U_icmp_eq (tgt := 1592) dL_law_1321 (by decide) (fun hc => ?_) (fun hc => ?_)
      · replace h := h.1 hc
        refine U_iinc dL_law_1592 rfl (by decide) rfl h.1 ?_
        replace h := h.2
        refine T_goto (tgt := 18) dL_law_1595 (by decide) ?_
        exact T_drop h ⟨Or.inl rfl, Or.inl rfl, Or.inl rfl, Or.inl rfl, trivial⟩
      · replace h := h.2 hc
        refine T_iconst dL_law_1324 (by decide) ?_
        exact T_zret dL_law_1325 rfl (by decide) (hQ _ _ h)
    · refine U_tab (tgt := 1326) dL_law_33 40 hc (by decide) rfl (by decide) ?_
      replace h := h.2.2.2.2.2.2.2.2.2.2.2.2.2.2.2.2.2.2.2.2.2.2.2.2.2.2.2.2.2.2.2.2.2.2.2.2.2.2.2.2.1 hc
      refine T_aload_n dL_law_1326 rfl ?_
      refine T_aload_nS dL_law_1327 rfl rfl ?_
      refine T_iload_n dL_law_1328 rfl ?_
      refine T_iconst dL_law_1329 (by decide) ?_
      refine U_iadd dL_law_1330 h.1 ?_
      replace h := h.2
      refine T_sld dL_law_1331 h.1 ?_
      replace h := h.2
      refine T_aload_nS dL_law_1332 rfl rfl ?_
      refine T_iload_n dL_law_1333 rfl ?_
      refine T_iconst dL_law_1334 (by decide) ?_
      refine U_iadd dL_law_1335 h.1 ?_
      replace h := h.2
      refine T_sld dL_law_1336 h.1 ?_
      replace h := h.2
      refine U_callV (as := [vI (w32 (g_xs G (i3 + 1).toNat)), vI (w32 (g_xs G (i3 + 2).toNat))]) (st := []) dL_law_1337 kX10_toll lL_179 SH_0 rfl rfl rfl rfl (Nat.le_of_ble_eq_true rfl) (Nat.le_of_ble_eq_true rfl) (by omega) ?_
      refine W_X10_toll (by omega)  h (fun r1337 v1337 h => ?_)
      show n_T G d 0 0 mL_law 1340 [vS 0, vR 0, vR 218, vI i3] [vI r1337] SH v1337 Q
      refine T_aload_n dL_law_1340 rfl ?_
      refine T_aload_nS dL_law_1341 rfl rfl ?_
      refine T_iload_n dL_law_1342 rfl ?_
      refine T_iconst dL_law_1343 (by decide) ?_
      refine U_iadd dL_law_1344 h.1 ?_
      replace h := h.2
      refine T_sld dL_law_1345 h.1 ?_
      replace h := h.2
      refine T_aload_nS dL_law_1346 rfl rfl ?_
      refine T_iload_n dL_law_1347 rfl ?_
      refine T_iconst dL_law_1348 (by decide) ?_
      refine U_iadd dL_law_1349 h.1 ?_
      replace h := h.2
      refine T_sld dL_law_1350 h.1 ?_
      replace h := h.2
      refine U_callV (as := [vI (w32 (g_xs G (i3 + 1).toNat)), vI (w32 (g_xs G (i3 + 2).toNat))]) (st := [vI r1337]) dL_law_1351 kX11_toll lL_183 SH_218 rfl rfl rfl rfl (Nat.le_of_ble_eq_true rfl) (Nat.le_of_ble_eq_true rfl) (by omega) ?_
      refine W_X11_toll (by omega)  h (fun r1351 v1351 h => ?_)
      show n_T G d 0 0 mL_law 1354 [vS 0, vR 0, vR 218, vI i3] [vI r1351, vI r1337] SH v1351 Q
      refine U_icmp_eq (tgt := 1592) dL_law_1354 (by decide) (fun hc => ?_) (fun hc => ?_)
      · replace h := h.1 hc
        refine U_iinc dL_law_1592 rfl (by decide) rfl h.1 ?_
        replace h := h.2
        refine T_goto (tgt := 18) dL_law_1595 (by decide) ?_
        exact T_drop h ⟨Or.inl rfl, Or.inl rfl, Or.inl rfl, Or.inl rfl, trivial⟩
      · replace h := h.2 hc
        refine T_iconst dL_law_1357 (by decide) ?_
        exact T_zret dL_law_1358 rfl (by decide) (hQ _ _ h)
    · refine U_tab (tgt := 1359) dL_law_33 41 hc (by decide) rfl (by decide) ?_
      replace h := h.2.2.2.2.2.2.2.2.2.2.2.2.2.2.2.2.2.2.2.2.2.2.2.2.2.2.2.2.2.2.2.2.2.2.2.2.2.2.2.2.2.1 hc
      refine T_aload_n dL_law_1359 rfl ?_
      refine T_aload_nS dL_law_1360 rfl rfl ?_
      refine T_iload_n dL_law_1361 rfl ?_
      refine T_iconst dL_law_1362 (by decide) ?_
      refine U_iadd dL_law_1363 h.1 ?_
      replace h := h.2
      refine T_sld dL_law_1364 h.1 ?_
      replace h := h.2
      refine U_callV (as := [vI (w32 (g_xs G (i3 + 1).toNat))]) (st := []) dL_law_1365 kX10_grow lL_184 SH_0 rfl rfl rfl rfl (Nat.le_of_ble_eq_true rfl) (Nat.le_of_ble_eq_true rfl) (by omega) ?_
      refine W_X10_grow (by omega)  h (fun r1365 v1365 h => ?_)
      show n_T G d 0 0 mL_law 1368 [vS 0, vR 0, vR 218, vI i3] [vI r1365] SH v1365 Q
      refine T_aload_n dL_law_1368 rfl ?_
      refine T_aload_nS dL_law_1369 rfl rfl ?_
      refine T_iload_n dL_law_1370 rfl ?_
      refine T_iconst dL_law_1371 (by decide) ?_
      refine U_iadd dL_law_1372 h.1 ?_
      replace h := h.2
      refine T_sld dL_law_1373 h.1 ?_
      replace h := h.2
      refine U_callV (as := [vI (w32 (g_xs G (i3 + 1).toNat))]) (st := [vI r1365]) dL_law_1374 kX11_grow lL_187 SH_218 rfl rfl rfl rfl (Nat.le_of_ble_eq_true rfl) (Nat.le_of_ble_eq_true rfl) (by omega) ?_
      refine W_X11_grow (by omega)  h (fun r1374 v1374 h => ?_)
      show n_T G d 0 0 mL_law 1377 [vS 0, vR 0, vR 218, vI i3] [vI r1374, vI r1365] SH v1374 Q
      refine U_icmp_eq (tgt := 1592) dL_law_1377 (by decide) (fun hc => ?_) (fun hc => ?_)
      · replace h := h.1 hc
        refine U_iinc dL_law_1592 rfl (by decide) rfl h.1 ?_
        replace h := h.2
        refine T_goto (tgt := 18) dL_law_1595 (by decide) ?_
        exact T_drop h ⟨Or.inl rfl, Or.inl rfl, Or.inl rfl, Or.inl rfl, trivial⟩
      · replace h := h.2 hc
        refine T_iconst dL_law_1380 (by decide) ?_
        exact T_zret dL_law_1381 rfl (by decide) (hQ _ _ h)
    · refine U_tab (tgt := 1382) dL_law_33 42 hc (by decide) rfl (by decide) ?_
      replace h := h.2.2.2.2.2.2.2.2.2.2.2.2.2.2.2.2.2.2.2.2.2.2.2.2.2.2.2.2.2.2.2.2.2.2.2.2.2.2.2.2.2.2.1 hc
      refine T_aload_n dL_law_1382 rfl ?_
      refine T_aload_nS dL_law_1383 rfl rfl ?_
      refine T_iload_n dL_law_1384 rfl ?_
      refine T_iconst dL_law_1385 (by decide) ?_
      refine U_iadd dL_law_1386 h.1 ?_
      replace h := h.2
      refine T_sld dL_law_1387 h.1 ?_
      replace h := h.2
      refine U_callV (as := [vI (w32 (g_xs G (i3 + 1).toNat))]) (st := []) dL_law_1388 kX10_drop lL_188 SH_0 rfl rfl rfl rfl (Nat.le_of_ble_eq_true rfl) (Nat.le_of_ble_eq_true rfl) (by omega) ?_
      refine W_X10_drop (by omega)  h (fun r1388 v1388 h => ?_)
      show n_T G d 0 0 mL_law 1391 [vS 0, vR 0, vR 218, vI i3] [vI r1388] SH v1388 Q
      refine T_aload_n dL_law_1391 rfl ?_
      refine T_aload_nS dL_law_1392 rfl rfl ?_
      refine T_iload_n dL_law_1393 rfl ?_
      refine T_iconst dL_law_1394 (by decide) ?_
      refine U_iadd dL_law_1395 h.1 ?_
      replace h := h.2
      refine T_sld dL_law_1396 h.1 ?_
      replace h := h.2
      refine U_callV (as := [vI (w32 (g_xs G (i3 + 1).toNat))]) (st := [vI r1388]) dL_law_1397 kX11_drop lL_191 SH_218 rfl rfl rfl rfl (Nat.le_of_ble_eq_true rfl) (Nat.le_of_ble_eq_true rfl) (by omega) ?_
      refine W_X11_drop (by omega)  h (fun r1397 v1397 h => ?_)
      show n_T G d 0 0 mL_law 1400 [vS 0, vR 0, vR 218, vI i3] [vI r1397, vI r1388] SH v1397 Q
      refine U_icmp_eq (tgt := 1592) dL_law_1400 (by decide) (fun hc => ?_) (fun hc => ?_)
      · replace h := h.1 hc
        refine U_iinc dL_law_1592 rfl (by decide) rfl h.1 ?_
        replace h := h.2
        refine T_goto (tgt := 18) dL_law_1595 (by decide) ?_
        exact T_drop h ⟨Or.inl rfl, Or.inl rfl, Or.inl rfl, Or.inl rfl, trivial⟩
      · replace h := h.2 hc
        refine T_iconst dL_law_1403 (by decide) ?_
        exact T_zret dL_law_1404 rfl (by decide) (hQ _ _ h)
    · refine U_tab (tgt := 1405) dL_law_33 43 hc (by decide) rfl (by decide) ?_
      replace h := h.2.2.2.2.2.2.2.2.2.2.2.2.2.2.2.2.2.2.2.2.2.2.2.2.2.2.2.2.2.2.2.2.2.2.2.2.2.2.2.2.2.2.2.1 hc
      refine T_aload_n dL_law_1405 rfl ?_
      refine T_aload_nS dL_law_1406 rfl rfl ?_
      refine T_iload_n dL_law_1407 rfl ?_
      refine T_iconst dL_law_1408 (by decide) ?_
      refine U_iadd dL_law_1409 h.1 ?_
      replace h := h.2
      refine T_sld dL_law_1410 h.1 ?_
      replace h := h.2
      refine U_callV (as := [vI (w32 (g_xs G (i3 + 1).toNat))]) (st := []) dL_law_1411 kX10_press lL_192 SH_0 rfl rfl rfl rfl (Nat.le_of_ble_eq_true rfl) (Nat.le_of_ble_eq_true rfl) (by omega) ?_
      refine W_X10_press (by omega)  h (fun r1411 v1411 h => ?_)
      show n_T G d 0 0 mL_law 1414 [vS 0, vR 0, vR 218, vI i3] [vI r1411] SH v1411 Q
      refine T_aload_n dL_law_1414 rfl ?_
      refine T_aload_nS dL_law_1415 rfl rfl ?_
      refine T_iload_n dL_law_1416 rfl ?_
      refine T_iconst dL_law_1417 (by decide) ?_
      refine U_iadd dL_law_1418 h.1 ?_
      replace h := h.2
      refine T_sld dL_law_1419 h.1 ?_
      replace h := h.2
      refine U_callV (as := [vI (w32 (g_xs G (i3 + 1).toNat))]) (st := [vI r1411]) dL_law_1420 kX11_press lL_195 SH_218 rfl rfl rfl rfl (Nat.le_of_ble_eq_true rfl) (Nat.le_of_ble_eq_true rfl) (by omega) ?_
      refine W_X11_press (by omega)  h (fun r1420 v1420 h => ?_)
      show n_T G d 0 0 mL_law 1423 [vS 0, vR 0, vR 218, vI i3] [vI r1420, vI r1411] SH v1420 Q
      refine U_icmp_eq (tgt := 1592) dL_law_1423 (by decide) (fun hc => ?_) (fun hc => ?_)
      · replace h := h.1 hc
        refine U_iinc dL_law_1592 rfl (by decide) rfl h.1 ?_
        replace h := h.2
        refine T_goto (tgt := 18) dL_law_1595 (by decide) ?_
        exact T_drop h ⟨Or.inl rfl, Or.inl rfl, Or.inl rfl, Or.inl rfl, trivial⟩
      · replace h := h.2 hc
        refine T_iconst dL_law_1426 (by decide) ?_
        exact T_zret dL_law_1427 rfl (by decide) (hQ _ _ h)
    · refine U_tab (tgt := 1428) dL_law_33 44 hc (by decide) rfl (by decide) ?_
      replace h := h.2.2.2.2.2.2.2.2.2.2.2.2.2.2.2.2.2.2.2.2.2.2.2.2.2.2.2.2.2.2.2.2.2.2.2.2.2.2.2.2.2.2.2.2.1 hc
      refine T_aload_n dL_law_1428 rfl ?_
      refine T_aload_nS dL_law_1429 rfl rfl ?_
      refine T_iload_n dL_law_1430 rfl ?_
      refine T_iconst dL_law_1431 (by decide) ?_
      refine U_iadd dL_law_1432 h.1 ?_
      replace h := h.2
      refine T_sld dL_law_1433 h.1 ?_
      replace h := h.2
      refine T_aload_nS dL_law_1434 rfl rfl ?_
      refine T_iload_n dL_law_1435 rfl ?_
      refine T_iconst dL_law_1436 (by decide) ?_
      refine U_iadd dL_law_1437 h.1 ?_
      replace h := h.2
      refine T_sld dL_law_1438 h.1 ?_
      replace h := h.2
      refine U_callV (as := [vI (w32 (g_xs G (i3 + 1).toNat)), vI (w32 (g_xs G (i3 + 2).toNat))]) (st := []) dL_law_1439 kX10_open lL_196 SH_0 rfl rfl rfl rfl (Nat.le_of_ble_eq_true rfl) (Nat.le_of_ble_eq_true rfl) (by omega) ?_
      refine W_X10_open (by omega)  h (fun r1439 v1439 h => ?_)
      show n_T G d 0 0 mL_law 1442 [vS 0, vR 0, vR 218, vI i3] [vI r1439] SH v1439 Q
      refine T_aload_n dL_law_1442 rfl ?_
      refine T_aload_nS dL_law_1443 rfl rfl ?_
      refine T_iload_n dL_law_1444 rfl ?_
      refine T_iconst dL_law_1445 (by decide) ?_
      refine U_iadd dL_law_1446 h.1 ?_
      replace h := h.2
      refine T_sld dL_law_1447 h.1 ?_
      replace h := h.2
      refine T_aload_nS dL_law_1448 rfl rfl ?_
      refine T_iload_n dL_law_1449 rfl ?_
      refine T_iconst dL_law_1450 (by decide) ?_
      refine U_iadd dL_law_1451 h.1 ?_
      replace h := h.2
      refine T_sld dL_law_1452 h.1 ?_
      replace h := h.2
      refine U_callV (as := [vI (w32 (g_xs G (i3 + 1).toNat)), vI (w32 (g_xs G (i3 + 2).toNat))]) (st := [vI r1439]) dL_law_1453 kX11_open lL_199 SH_218 rfl rfl rfl rfl (Nat.le_of_ble_eq_true rfl) (Nat.le_of_ble_eq_true rfl) (by omega) ?_
      refine W_X11_open (by omega)  h (fun r1453 v1453 h => ?_)
      show n_T G d 0 0 mL_law 1456 [vS 0, vR 0, vR 218, vI i3] [vI r1453, vI r1439] SH v1453 Q
      refine U_icmp_eq (tgt := 1592) dL_law_1456 (by decide) (fun hc => ?_) (fun hc => ?_)
      · replace h := h.1 hc
        refine U_iinc dL_law_1592 rfl (by decide) rfl h.1 ?_
        replace h := h.2
        refine T_goto (tgt := 18) dL_law_1595 (by decide) ?_
        exact T_drop h ⟨Or.inl rfl, Or.inl rfl, Or.inl rfl, Or.inl rfl, trivial⟩
      · replace h := h.2 hc
        refine T_iconst dL_law_1459 (by decide) ?_
        exact T_zret dL_law_1460 rfl (by decide) (hQ _ _ h)
    · refine U_tab (tgt := 1461) dL_law_33 45 hc (by decide) rfl (by decide) ?_
      replace h := h.2.2.2.2.2.2.2.2.2.2.2.2.2.2.2.2.2.2.2.2.2.2.2.2.2.2.2.2.2.2.2.2.2.2.2.2.2.2.2.2.2.2.2.2.2.1 hc
      refine T_aload_n dL_law_1461 rfl ?_
      refine T_aload_nS dL_law_1462 rfl rfl ?_
      refine T_iload_n dL_law_1463 rfl ?_
      refine T_iconst dL_law_1464 (by decide) ?_
      refine U_iadd dL_law_1465 h.1 ?_
      replace h := h.2
      refine T_sld dL_law_1466 h.1 ?_
      replace h := h.2
      refine U_callV (as := [vI (w32 (g_xs G (i3 + 1).toNat))]) (st := []) dL_law_1467 kX10_chance lL_200 SH_0 rfl rfl rfl rfl (Nat.le_of_ble_eq_true rfl) (Nat.le_of_ble_eq_true rfl) (by omega) ?_
      refine W_X10_chance (by omega)  h (fun r1467 v1467 h => ?_)
      show n_T G d 0 0 mL_law 1470 [vS 0, vR 0, vR 218, vI i3] [vI r1467] SH v1467 Q
      refine T_aload_n dL_law_1470 rfl ?_
      refine T_aload_nS dL_law_1471 rfl rfl ?_
      refine T_iload_n dL_law_1472 rfl ?_
      refine T_iconst dL_law_1473 (by decide) ?_
      refine U_iadd dL_law_1474 h.1 ?_
      replace h := h.2
      refine T_sld dL_law_1475 h.1 ?_
      replace h := h.2
      refine U_callV (as := [vI (w32 (g_xs G (i3 + 1).toNat))]) (st := [vI r1467]) dL_law_1476 kX11_chance lL_203 SH_218 rfl rfl rfl rfl (Nat.le_of_ble_eq_true rfl) (Nat.le_of_ble_eq_true rfl) (by omega) ?_
      refine W_X11_chance (by omega)  h (fun r1476 v1476 h => ?_)
      show n_T G d 0 0 mL_law 1479 [vS 0, vR 0, vR 218, vI i3] [vI r1476, vI r1467] SH v1476 Q
      refine U_icmp_eq (tgt := 1592) dL_law_1479 (by decide) (fun hc => ?_) (fun hc => ?_)
      · replace h := h.1 hc
        refine U_iinc dL_law_1592 rfl (by decide) rfl h.1 ?_
        replace h := h.2
        refine T_goto (tgt := 18) dL_law_1595 (by decide) ?_
        exact T_drop h ⟨Or.inl rfl, Or.inl rfl, Or.inl rfl, Or.inl rfl, trivial⟩
      · replace h := h.2 hc
        refine T_iconst dL_law_1482 (by decide) ?_
        exact T_zret dL_law_1483 rfl (by decide) (hQ _ _ h)
    · refine U_tab (tgt := 1484) dL_law_33 46 hc (by decide) rfl (by decide) ?_
      replace h := h.2.2.2.2.2.2.2.2.2.2.2.2.2.2.2.2.2.2.2.2.2.2.2.2.2.2.2.2.2.2.2.2.2.2.2.2.2.2.2.2.2.2.2.2.2.2.1 hc
      refine T_aload_n dL_law_1484 rfl ?_
      refine U_callV (as := []) (st := []) dL_law_1485 kX10_undo lL_204 SH_0 rfl rfl rfl rfl (Nat.le_of_ble_eq_true rfl) (Nat.le_of_ble_eq_true rfl) (by omega) ?_
      refine W_X10_undo (by omega)  h (fun r1485 v1485 h => ?_)
      show n_T G d 0 0 mL_law 1488 [vS 0, vR 0, vR 218, vI i3] [vI r1485] SH v1485 Q
      refine T_aload_n dL_law_1488 rfl ?_
      refine U_callV (as := []) (st := [vI r1485]) dL_law_1489 kX11_undo lL_208 SH_218 rfl rfl rfl rfl (Nat.le_of_ble_eq_true rfl) (Nat.le_of_ble_eq_true rfl) (by omega) ?_
      refine W_X11_undo (by omega)  h (fun r1489 v1489 h => ?_)
      show n_T G d 0 0 mL_law 1492 [vS 0, vR 0, vR 218, vI i3] [vI r1489, vI r1485] SH v1489 Q
      refine U_icmp_eq (tgt := 1592) dL_law_1492 (by decide) (fun hc => ?_) (fun hc => ?_)
      · replace h := h.1 hc
        refine U_iinc dL_law_1592 rfl (by decide) rfl h.1 ?_
        replace h := h.2
        refine T_goto (tgt := 18) dL_law_1595 (by decide) ?_
        exact T_drop h ⟨Or.inl rfl, Or.inl rfl, Or.inl rfl, Or.inl rfl, trivial⟩
      · replace h := h.2 hc
        refine T_iconst dL_law_1495 (by decide) ?_
        exact T_zret dL_law_1496 rfl (by decide) (hQ _ _ h)
    · refine U_tab (tgt := 1497) dL_law_33 47 hc (by decide) rfl (by decide) ?_
      replace h := h.2.2.2.2.2.2.2.2.2.2.2.2.2.2.2.2.2.2.2.2.2.2.2.2.2.2.2.2.2.2.2.2.2.2.2.2.2.2.2.2.2.2.2.2.2.2.2.1 hc
      refine T_aload_n dL_law_1497 rfl ?_
      refine T_aload_nS dL_law_1498 rfl rfl ?_
      refine T_iload_n dL_law_1499 rfl ?_
      refine T_iconst dL_law_1500 (by decide) ?_
      refine U_iadd dL_law_1501 h.1 ?_
      replace h := h.2
      refine T_sld dL_law_1502 h.1 ?_
      replace h := h.2
      refine U_callV (as := [vI (w32 (g_xs G (i3 + 1).toNat))]) (st := []) dL_law_1503 kX10_seed lL_209 SH_0 rfl rfl rfl rfl (Nat.le_of_ble_eq_true rfl) (Nat.le_of_ble_eq_true rfl) (by omega) ?_
      refine W_X10_seed (by omega)  h (fun r1503 v1503 h => ?_)
      show n_T G d 0 0 mL_law 1506 [vS 0, vR 0, vR 218, vI i3] [vI r1503] SH v1503 Q
      refine T_aload_n dL_law_1506 rfl ?_
      refine T_aload_nS dL_law_1507 rfl rfl ?_
      refine T_iload_n dL_law_1508 rfl ?_
      refine T_iconst dL_law_1509 (by decide) ?_
      refine U_iadd dL_law_1510 h.1 ?_
      replace h := h.2
      refine T_sld dL_law_1511 h.1 ?_
      replace h := h.2
      refine U_callV (as := [vI (w32 (g_xs G (i3 + 1).toNat))]) (st := [vI r1503]) dL_law_1512 kX11_seed lL_212 SH_218 rfl rfl rfl rfl (Nat.le_of_ble_eq_true rfl) (Nat.le_of_ble_eq_true rfl) (by omega) ?_
      refine W_X11_seed (by omega)  h (fun r1512 v1512 h => ?_)
      show n_T G d 0 0 mL_law 1515 [vS 0, vR 0, vR 218, vI i3] [vI r1512, vI r1503] SH v1512 Q
      refine U_icmp_eq (tgt := 1592) dL_law_1515 (by decide) (fun hc => ?_) (fun hc => ?_)
      · replace h := h.1 hc
        refine U_iinc dL_law_1592 rfl (by decide) rfl h.1 ?_
        replace h := h.2
        refine T_goto (tgt := 18) dL_law_1595 (by decide) ?_
        exact T_drop h ⟨Or.inl rfl, Or.inl rfl, Or.inl rfl, Or.inl rfl, trivial⟩
      · replace h := h.2 hc
        refine T_iconst dL_law_1518 (by decide) ?_
        exact T_zret dL_law_1519 rfl (by decide) (hQ _ _ h)
    · refine U_tab (tgt := 1520) dL_law_33 48 hc (by decide) rfl (by decide) ?_
      replace h := h.2.2.2.2.2.2.2.2.2.2.2.2.2.2.2.2.2.2.2.2.2.2.2.2.2.2.2.2.2.2.2.2.2.2.2.2.2.2.2.2.2.2.2.2.2.2.2.2.1 hc
      refine T_aload_n dL_law_1520 rfl ?_
      refine U_callV (as := []) (st := []) dL_law_1521 kX10_image lL_213 SH_0 rfl rfl rfl rfl (Nat.le_of_ble_eq_true rfl) (Nat.le_of_ble_eq_true rfl) (by omega) ?_
      refine W_X10_image (by omega)  h (fun r1521 v1521 h => ?_)
      show n_T G d 0 0 mL_law 1524 [vS 0, vR 0, vR 218, vI i3] [vI r1521] SH v1521 Q
      refine T_aload_n dL_law_1524 rfl ?_
      refine U_callV (as := []) (st := [vI r1521]) dL_law_1525 kX11_image lL_216 SH_218 rfl rfl rfl rfl (Nat.le_of_ble_eq_true rfl) (Nat.le_of_ble_eq_true rfl) (by omega) ?_
      refine W_X11_image (by omega)  h (fun r1525 v1525 h => ?_)
      show n_T G d 0 0 mL_law 1528 [vS 0, vR 0, vR 218, vI i3] [vI r1525, vI r1521] SH v1525 Q
      refine U_icmp_eq (tgt := 1592) dL_law_1528 (by decide) (fun hc => ?_) (fun hc => ?_)
      · replace h := h.1 hc
        refine U_iinc dL_law_1592 rfl (by decide) rfl h.1 ?_
        replace h := h.2
        refine T_goto (tgt := 18) dL_law_1595 (by decide) ?_
        exact T_drop h ⟨Or.inl rfl, Or.inl rfl, Or.inl rfl, Or.inl rfl, trivial⟩
      · replace h := h.2 hc
        refine T_iconst dL_law_1531 (by decide) ?_
        exact T_zret dL_law_1532 rfl (by decide) (hQ _ _ h)
    · refine U_tab (tgt := 1533) dL_law_33 49 hc (by decide) rfl (by decide) ?_
      replace h := h.2.2.2.2.2.2.2.2.2.2.2.2.2.2.2.2.2.2.2.2.2.2.2.2.2.2.2.2.2.2.2.2.2.2.2.2.2.2.2.2.2.2.2.2.2.2.2.2.2.1 hc
      refine T_aload_n dL_law_1533 rfl ?_
      refine T_aload_nS dL_law_1534 rfl rfl ?_
      refine T_iload_n dL_law_1535 rfl ?_
      refine T_iconst dL_law_1536 (by decide) ?_
      refine U_iadd dL_law_1537 h.1 ?_
      replace h := h.2
      refine T_sld dL_law_1538 h.1 ?_
      replace h := h.2
      refine U_callV (as := [vI (w32 (g_xs G (i3 + 1).toNat))]) (st := []) dL_law_1539 kX10_octet lL_217 SH_0 rfl rfl rfl rfl (Nat.le_of_ble_eq_true rfl) (Nat.le_of_ble_eq_true rfl) (by omega) ?_
      refine W_X10_octet (by omega)  h (fun r1539 h => ?_)
      show n_T G d 0 0 mL_law 1542 [vS 0, vR 0, vR 218, vI i3] [vI r1539] SH v18 Q
      refine T_aload_n dL_law_1542 rfl ?_
      refine T_aload_nS dL_law_1543 rfl rfl ?_
      refine T_iload_n dL_law_1544 rfl ?_
      refine T_iconst dL_law_1545 (by decide) ?_
      refine U_iadd dL_law_1546 h.1 ?_
      replace h := h.2
      refine T_sld dL_law_1547 h.1 ?_
      replace h := h.2
      refine U_callV (as := [vI (w32 (g_xs G (i3 + 1).toNat))]) (st := [vI r1539]) dL_law_1548 kX11_octet lL_220 SH_218 rfl rfl rfl rfl (Nat.le_of_ble_eq_true rfl) (Nat.le_of_ble_eq_true rfl) (by omega) ?_
      refine W_X11_octet (by omega)  h (fun r1548 h => ?_)
      show n_T G d 0 0 mL_law 1551 [vS 0, vR 0, vR 218, vI i3] [vI r1548, vI r1539] SH v18 Q
      refine U_icmp_eq (tgt := 1592) dL_law_1551 (by decide) (fun hc => ?_) (fun hc => ?_)
      · replace h := h.1 hc
        refine U_iinc dL_law_1592 rfl (by decide) rfl h.1 ?_
        replace h := h.2
        refine T_goto (tgt := 18) dL_law_1595 (by decide) ?_
        exact T_drop h ⟨Or.inl rfl, Or.inl rfl, Or.inl rfl, Or.inl rfl, trivial⟩
      · replace h := h.2 hc
        refine T_iconst dL_law_1554 (by decide) ?_
        exact T_zret dL_law_1555 rfl (by decide) (hQ _ _ h)
    · refine U_tab (tgt := 1556) dL_law_33 50 hc (by decide) rfl (by decide) ?_
      replace h := h.2.2.2.2.2.2.2.2.2.2.2.2.2.2.2.2.2.2.2.2.2.2.2.2.2.2.2.2.2.2.2.2.2.2.2.2.2.2.2.2.2.2.2.2.2.2.2.2.2.2.1 hc
      refine T_aload_n dL_law_1556 rfl ?_
      refine U_callV (as := []) (st := []) dL_law_1557 kX10_on lL_221 SH_0 rfl rfl rfl rfl (Nat.le_of_ble_eq_true rfl) (Nat.le_of_ble_eq_true rfl) (by omega) ?_
      refine W_X10_on (by omega)  h (fun r1557 v1557 h => ?_)
      show n_T G d 0 0 mL_law 1560 [vS 0, vR 0, vR 218, vI i3] [vI r1557] SH v1557 Q
      refine T_aload_n dL_law_1560 rfl ?_
      refine U_callV (as := []) (st := [vI r1557]) dL_law_1561 kX11_on lL_224 SH_218 rfl rfl rfl rfl (Nat.le_of_ble_eq_true rfl) (Nat.le_of_ble_eq_true rfl) (by omega) ?_
      refine W_X11_on (by omega)  h (fun r1561 v1561 h => ?_)
      show n_T G d 0 0 mL_law 1564 [vS 0, vR 0, vR 218, vI i3] [vI r1561, vI r1557] SH v1561 Q
      refine U_icmp_eq (tgt := 1592) dL_law_1564 (by decide) (fun hc => ?_) (fun hc => ?_)
      · replace h := h.1 hc
        refine U_iinc dL_law_1592 rfl (by decide) rfl h.1 ?_
        replace h := h.2
        refine T_goto (tgt := 18) dL_law_1595 (by decide) ?_
        exact T_drop h ⟨Or.inl rfl, Or.inl rfl, Or.inl rfl, Or.inl rfl, trivial⟩
      · replace h := h.2 hc
        refine T_iconst dL_law_1567 (by decide) ?_
        exact T_zret dL_law_1568 rfl (by decide) (hQ _ _ h)
    · refine U_tab (tgt := 1569) dL_law_33 51 hc (by decide) rfl (by decide) ?_
      replace h := h.2.2.2.2.2.2.2.2.2.2.2.2.2.2.2.2.2.2.2.2.2.2.2.2.2.2.2.2.2.2.2.2.2.2.2.2.2.2.2.2.2.2.2.2.2.2.2.2.2.2.2.1 hc
      refine T_aload_n dL_law_1569 rfl ?_
      refine T_aload_nS dL_law_1570 rfl rfl ?_
      refine T_iload_n dL_law_1571 rfl ?_
      refine T_iconst dL_law_1572 (by decide) ?_
      refine U_iadd dL_law_1573 h.1 ?_
      replace h := h.2
      refine T_sld dL_law_1574 h.1 ?_
      replace h := h.2
      refine U_callV (as := [vI (w32 (g_xs G (i3 + 1).toNat))]) (st := []) dL_law_1575 kX10_status lL_225 SH_0 rfl rfl rfl rfl (Nat.le_of_ble_eq_true rfl) (Nat.le_of_ble_eq_true rfl) (by omega) ?_
      refine W_X10_status (by omega)  h (fun r1575 h => ?_)
      show n_T G d 0 0 mL_law 1578 [vS 0, vR 0, vR 218, vI i3] [vI r1575] SH v18 Q
      refine T_aload_n dL_law_1578 rfl ?_
      refine T_aload_nS dL_law_1579 rfl rfl ?_
      refine T_iload_n dL_law_1580 rfl ?_
      refine T_iconst dL_law_1581 (by decide) ?_
      refine U_iadd dL_law_1582 h.1 ?_
      replace h := h.2
      refine T_sld dL_law_1583 h.1 ?_
      replace h := h.2
      refine U_callV (as := [vI (w32 (g_xs G (i3 + 1).toNat))]) (st := [vI r1575]) dL_law_1584 kX11_status lL_228 SH_218 rfl rfl rfl rfl (Nat.le_of_ble_eq_true rfl) (Nat.le_of_ble_eq_true rfl) (by omega) ?_
      refine W_X11_status (by omega)  h (fun r1584 h => ?_)
      show n_T G d 0 0 mL_law 1587 [vS 0, vR 0, vR 218, vI i3] [vI r1584, vI r1575] SH v18 Q
      refine U_icmp_eq (tgt := 1592) dL_law_1587 (by decide) (fun hc => ?_) (fun hc => ?_)
      · replace h := h.1 hc
        refine U_iinc dL_law_1592 rfl (by decide) rfl h.1 ?_
        replace h := h.2
        refine T_goto (tgt := 18) dL_law_1595 (by decide) ?_
        exact T_drop h ⟨Or.inl rfl, Or.inl rfl, Or.inl rfl, Or.inl rfl, trivial⟩
      · replace h := h.2 hc
        refine T_iconst dL_law_1590 (by decide) ?_
        exact T_zret dL_law_1591 rfl (by decide) (hQ _ _ h)
    · refine T_tabOut (tgt := 1592) dL_law_33 hc (by decide) ?_
      replace h := h.2.2.2.2.2.2.2.2.2.2.2.2.2.2.2.2.2.2.2.2.2.2.2.2.2.2.2.2.2.2.2.2.2.2.2.2.2.2.2.2.2.2.2.2.2.2.2.2.2.2.2.2 hc
      refine U_iinc dL_law_1592 rfl (by decide) rfl h.1 ?_
      replace h := h.2
      refine T_goto (tgt := 18) dL_law_1595 (by decide) ?_
      exact T_drop h ⟨Or.inl rfl, Or.inl rfl, Or.inl rfl, Or.inl rfl, trivial⟩


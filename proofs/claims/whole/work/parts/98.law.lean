/-! ===== the start; the law ===== -/
theorem inv_ini {w : VT} (h : ini w 244 []) : Inv 0 w := by
  have z : ∀ a j, a < 244 → w a j = I0 a j := fun a j ha => h a ha j List.not_mem_nil
  have z6 : ∀ a, a = 217 ∨ a = 220 → ∀ k, k < 6 → w a k = 0 := by
    intro a ha k hk
    rw [z a k (by omega)]
    rcases ha with e | e <;> rcases (show k = 0 ∨ k = 1 ∨ k = 2 ∨ k = 3 ∨ k = 4 ∨ k = 5 by omega) with e2 | e2 | e2 | e2 | e2 | e2 <;> rw [e, e2] <;> decide
  refine ⟨nil0, (0, fun _ => 0), (0, -1), (0, fun _ => 0), (0, fun _ => 0, fun _ => 0), 1, (0, fun _ => 0), fun _ => 0, (0, []), okNet_nil, ⟨by decide, by decide, fun i i0 i1 => ?_, by decide, by decide, fun k hk => ⟨Int.le_refl _, Int.le_refl _⟩, by decide, fun A hA => by cases hA⟩, ⟨XC_new ⟨?_, ?_, fun k k0 k1 => ?_⟩ ?_ ?_ ?_, fun i i0 i1 => ?_, ⟨?_, by decide, fun i i0 i1 => ?_⟩, ⟨?_, ?_⟩, ⟨?_, ?_, ?_, fun i i0 i1 => ?_, fun i i0 i1 => ?_⟩, ⟨?_, fun i i0 i1 => ?_⟩, z6 217 (Or.inl rfl), ⟨?_, ?_, fun j hj => ?_⟩⟩, ⟨⟨⟨?_, ?_, fun k k0 k1 => ?_⟩, Or.inl ?_⟩, fun i i0 i1 => ?_, ⟨?_, by decide, fun i i0 i1 => ?_⟩, ⟨?_, ?_⟩, ⟨?_, ?_, ?_, fun i i0 i1 => ?_, fun i i0 i1 => ?_⟩, ⟨?_, fun i i0 i1 => ?_⟩, z6 220 (Or.inr rfl), ⟨?_, ?_, fun j hj => ?_⟩⟩⟩
  all_goals first
    | (rw [z _ _ (by decide)]; decide)
    | (have hh : i < 0 := i1; omega)
    | (have hh : k < 0 := k1; omega)
    | (have hh : j < 0 := hj; omega)
theorem Inv_up {t t' : Int} {v : VT} (h : Inv t v) (ht : t ≤ t') : Inv t' v := by
  obtain ⟨A, T, F, V, S, c, P, R, H, hA, hT, hX, hM⟩ := h
  exact ⟨A, T, F, V, S, c, P, R, H, hA, okT_up hT ht, hX, hM⟩
theorem w32_ok (x : Int) : r32 (w32 x) := w32_r x
set_option maxHeartbeats 4000000 in
theorem main_law (G : GT) (w : VT) (hw : ini w 244 []) (hL : g_L G ≤ 3072) : P_L_law G w (fun r _ => r = 1) := by
  unfold P_L_law
  intro X18 hX18
  refine wh2 (X := X18) (fun i v => (0 ≤ i ∧ i ≤ 3072 + 6) ∧ Inv i v) (fun i _ => (4000 - i).toNat) ?_ ⟨by omega, inv_ini hw⟩
  intro i v ⟨hi0, hI⟩ hnext
  apply hX18
  refine ⟨by omega, fun _ => rfl, fun hle => ?_⟩
  have ht : i < 1000000 := by omega
  have go : ∀ v2 : VT, Inv (i + 1) v2 → (-2147483648 ≤ i + 6 ∧ i + 6 ≤ 2147483647) ∧ X18 (i + 6) v2 := fun v2 h2 => ⟨by omega, hnext _ _ ⟨by omega, Inv_up h2 (by omega)⟩ (by omega)⟩
  refine ⟨by omega, fun _ => ⟨by omega, by omega, by omega, by omega, by omega, by omega, by omega, by omega, by omega, by omega, N_X10_feed (Q_feed ht hI) (fun r1 v1 h1 => ⟨by omega, by omega, by omega, by omega, by omega, by omega, by omega, by omega, by omega, by omega, N_X11_feed h1 (fun r2 v2 h2 => ⟨fun _ => go _ h2.2, fun g => absurd h2.1 g⟩)⟩)⟩,
    fun _ => ⟨by omega, by omega, N_X10_end (Q_end ht hI) (fun r1 v1 h1 => ⟨by omega, by omega, N_X11_end h1 (fun r2 v2 h2 => ⟨fun _ => go _ h2.2, fun g => absurd h2.1 g⟩)⟩)⟩,
    fun _ => N_X10_net (Q_net ht hI) (fun r1 v1 h1 => N_X11_net h1 (fun r2 v2 h2 => ⟨fun _ => go _ h2.2, fun g => absurd h2.1 g⟩)),
    fun _ => ⟨by omega, by omega, N_X10_fault (Q_fault hI) (fun r1 h1 => ⟨by omega, by omega, N_X11_fault h1 (fun r2 h2 => ⟨fun _ => go _ h2.2, fun g => absurd h2.1 g⟩)⟩)⟩,
    fun _ => ⟨by omega, by omega, N_X10_has (Q_has hI) (fun r1 v1 h1 => ⟨by omega, by omega, N_X11_has h1 (fun r2 v2 h2 => ⟨fun _ => go _ h2.2, fun g => absurd h2.1 g⟩)⟩)⟩,
    fun _ => ⟨by omega, by omega, by omega, by omega, N_X10_letter (Q_letter hI) (fun r1 h1 => ⟨by omega, by omega, by omega, by omega, N_X11_letter h1 (fun r2 h2 => ⟨fun _ => go _ h2.2, fun g => absurd h2.1 g⟩)⟩)⟩,
    fun _ => N_X10_named (Q_named hI) (fun r1 v1 h1 => N_X11_named h1 (fun r2 v2 h2 => ⟨fun _ => go _ h2.2, fun g => absurd h2.1 g⟩)),
    fun _ => ⟨by omega, by omega, by omega, by omega, N_X10_line (Q_line hI) (fun r1 v1 h1 => ⟨by omega, by omega, by omega, by omega, N_X11_line h1 (fun r2 v2 h2 => ⟨fun _ => go _ h2.2, fun g => absurd h2.1 g⟩)⟩)⟩,
    fun _ => ⟨by omega, by omega, N_X10_degree (Q_degree hI) (fun r1 v1 h1 => ⟨by omega, by omega, N_X11_degree h1 (fun r2 h2 => ⟨fun _ => go _ h2.2, fun g => absurd h2.1 g⟩)⟩)⟩,
    fun _ => ⟨by omega, by omega, by omega, by omega, N_X10_far (Q_far hI) (fun r1 v1 h1 => ⟨by omega, by omega, by omega, by omega, N_X11_far h1 (fun r2 v2 h2 => ⟨fun _ => go _ h2.2, fun g => absurd h2.1 g⟩)⟩)⟩,
    fun _ => ⟨by omega, by omega, by omega, by omega, N_X10_ways (Q_ways hI) (fun r1 v1 h1 => ⟨by omega, by omega, by omega, by omega, N_X11_ways h1 (fun r2 v2 h2 => ⟨fun _ => go _ h2.2, fun g => absurd h2.1 g⟩)⟩)⟩,
    fun _ => ⟨by omega, by omega, by omega, by omega, N_X10_between (Q_between hI) (fun r1 v1 h1 => ⟨by omega, by omega, by omega, by omega, N_X11_between h1 (fun r2 v2 h2 => ⟨fun _ => go _ h2.2, fun g => absurd h2.1 g⟩)⟩)⟩,
    fun _ => ⟨by omega, by omega, N_X10_reach (Q_reach hI) (fun r1 v1 h1 => ⟨by omega, by omega, N_X11_reach h1 (fun r2 v2 h2 => ⟨fun _ => go _ h2.2, fun g => absurd h2.1 g⟩)⟩)⟩,
    fun _ => ⟨by omega, by omega, by omega, by omega, by omega, by omega, N_X10_price (Q_price hI) (fun r1 v1 h1 => ⟨by omega, by omega, by omega, by omega, by omega, by omega, N_X11_price h1 (fun r2 v2 h2 => ⟨fun _ => go _ h2.2, fun g => absurd h2.1 g⟩)⟩)⟩,
    fun _ => ⟨by omega, by omega, by omega, by omega, by omega, by omega, N_X10_road (Q_road hI) (fun r1 v1 h1 => ⟨by omega, by omega, by omega, by omega, by omega, by omega, N_X11_road h1 (fun r2 v2 h2 => ⟨fun _ => go _ h2.2, fun g => absurd h2.1 g⟩)⟩)⟩,
    fun _ => N_X10_spread (Q_spread hI) (fun r1 v1 h1 => N_X11_spread h1 (fun r2 v2 h2 => ⟨fun _ => go _ h2.2, fun g => absurd h2.1 g⟩)),
    fun _ => ⟨by omega, by omega, by omega, by omega, N_X10_alike (Q_alike hI) (fun r1 v1 h1 => ⟨by omega, by omega, by omega, by omega, N_X11_alike h1 (fun r2 v2 h2 => ⟨fun _ => go _ h2.2, fun g => absurd h2.1 g⟩)⟩)⟩,
    fun _ => ⟨by omega, by omega, by omega, by omega, N_X10_sort (Q_sort hI) (fun r1 v1 h1 => ⟨by omega, by omega, by omega, by omega, N_X11_sort h1 (fun r2 v2 h2 => ⟨fun _ => go _ h2.2, fun g => absurd h2.1 g⟩)⟩)⟩,
    fun _ => ⟨by omega, by omega, N_X10_shows (Q_shows hI) (fun r1 v1 h1 => ⟨by omega, by omega, N_X11_shows h1 (fun r2 v2 h2 => ⟨fun _ => go _ h2.2, fun g => absurd h2.1 g⟩)⟩)⟩,
    fun _ => ⟨by omega, by omega, N_X10_sides (Q_sides hI) (fun r1 v1 h1 => ⟨by omega, by omega, N_X11_sides h1 (fun r2 v2 h2 => ⟨fun _ => go _ h2.2, fun g => absurd h2.1 g⟩)⟩)⟩,
    fun _ => ⟨by omega, by omega, N_X10_at (Q_at hI) (fun r1 v1 h1 => ⟨by omega, by omega, N_X11_at h1 (fun r2 v2 h2 => ⟨fun _ => go _ h2.2, fun g => absurd h2.1 g⟩)⟩)⟩,
    fun _ => ⟨by omega, by omega, by omega, by omega, N_X10_cross (Q_cross hI) (fun r1 v1 h1 => ⟨by omega, by omega, by omega, by omega, N_X11_cross h1 (fun r2 v2 h2 => ⟨fun _ => go _ h2.2, fun g => absurd h2.1 g⟩)⟩)⟩,
    fun _ => ⟨by omega, by omega, by omega, by omega, N_X10_fit (Q_fit hI) (fun r1 v1 h1 => ⟨by omega, by omega, by omega, by omega, N_X11_fit h1 (fun r2 v2 h2 => ⟨fun _ => go _ h2.2, fun g => absurd h2.1 g⟩)⟩)⟩,
    fun _ => ⟨by omega, by omega, N_X10_cubes (Q_cubes hI) (fun r1 v1 h1 => ⟨by omega, by omega, N_X11_cubes h1 (fun r2 v2 h2 => ⟨fun _ => go _ h2.2, fun g => absurd h2.1 g⟩)⟩)⟩,
    fun _ => ⟨by omega, by omega, N_X10_most (Q_most hI) (fun r1 v1 h1 => ⟨by omega, by omega, N_X11_most h1 (fun r2 v2 h2 => ⟨fun _ => go _ h2.2, fun g => absurd h2.1 g⟩)⟩)⟩,
    fun _ => ⟨by omega, by omega, N_X10_opposite (Q_opposite hI) (fun r1 v1 h1 => ⟨by omega, by omega, N_X11_opposite h1 (fun r2 v2 h2 => ⟨fun _ => go _ h2.2, fun g => absurd h2.1 g⟩)⟩)⟩,
    fun _ => ⟨by omega, by omega, N_X10_even (Q_even hI) (fun r1 v1 h1 => ⟨by omega, by omega, N_X11_even h1 (fun r2 v2 h2 => ⟨fun _ => go _ h2.2, fun g => absurd h2.1 g⟩)⟩)⟩,
    fun _ => N_X10_few (Q_few hI) (fun r1 v1 h1 => N_X11_few h1 (fun r2 v2 h2 => ⟨fun _ => go _ h2.2, fun g => absurd h2.1 g⟩)),
    fun _ => ⟨by omega, by omega, by omega, by omega, by omega, by omega, N_X10_median (Q_median hI) (fun r1 v1 h1 => ⟨by omega, by omega, by omega, by omega, by omega, by omega, N_X11_median h1 (fun r2 v2 h2 => ⟨fun _ => go _ h2.2, fun g => absurd h2.1 g⟩)⟩)⟩,
    fun _ => ⟨by omega, by omega, N_X10_medians (Q_medians hI) (fun r1 v1 h1 => ⟨by omega, by omega, N_X11_medians h1 (fun r2 v2 h2 => ⟨fun _ => go _ h2.2, fun g => absurd h2.1 g⟩)⟩)⟩,
    fun _ => N_X10_vote (Q_vote ht hI) (fun r1 v1 h1 => N_X11_vote h1 (fun r2 v2 h2 => ⟨fun _ => go _ h2.2, fun g => absurd h2.1 g⟩)),
    fun _ => ⟨by omega, by omega, N_X10_winner (Q_winner hI) (fun r1 v1 h1 => ⟨by omega, by omega, N_X11_winner h1 (fun r2 v2 h2 => ⟨fun _ => go _ h2.2, fun g => absurd h2.1 g⟩)⟩)⟩,
    fun _ => ⟨by omega, by omega, by omega, by omega, N_X10_set (Q_set (w32_ok _) hI) (fun r1 v1 h1 => ⟨by omega, by omega, by omega, by omega, N_X11_set h1 (fun r2 v2 h2 => ⟨fun _ => go _ h2.2, fun g => absurd h2.1 g⟩)⟩)⟩,
    fun _ => ⟨by omega, by omega, N_X10_hull (Q_hull (w32_ok _) hI) (fun r1 v1 h1 => ⟨by omega, by omega, N_X11_hull h1 (fun r2 v2 h2 => ⟨fun _ => go _ h2.2, fun g => absurd h2.1 g⟩)⟩)⟩,
    fun _ => ⟨by omega, by omega, by omega, by omega, N_X10_gate (Q_gate (w32_ok _) hI) (fun r1 v1 h1 => ⟨by omega, by omega, by omega, by omega, N_X11_gate h1 (fun r2 v2 h2 => ⟨fun _ => go _ h2.2, fun g => absurd h2.1 g⟩)⟩)⟩,
    fun _ => N_X10_see (Q_see ht hI) (fun r1 v1 h1 => N_X11_see h1 (fun r2 v2 h2 => ⟨fun _ => go _ h2.2, fun g => absurd h2.1 g⟩)),
    fun _ => N_X10_fits (Q_fits hI) (fun r1 v1 h1 => N_X11_fits h1 (fun r2 v2 h2 => ⟨fun _ => go _ h2.2, fun g => absurd h2.1 g⟩)),
    fun _ => ⟨by omega, by omega, N_X10_tells (Q_tells hI) (fun r1 v1 h1 => ⟨by omega, by omega, N_X11_tells h1 (fun r2 v2 h2 => ⟨fun _ => go _ h2.2, fun g => absurd h2.1 g⟩)⟩)⟩,
    fun _ => ⟨by omega, by omega, by omega, by omega, N_X10_join (Q_join ht hI) (fun r1 v1 h1 => ⟨by omega, by omega, by omega, by omega, N_X11_join h1 (fun r2 v2 h2 => ⟨fun _ => go _ h2.2, fun g => absurd h2.1 g⟩)⟩)⟩,
    fun _ => ⟨by omega, by omega, N_X10_cut (Q_cut ht hI) (fun r1 v1 h1 => ⟨by omega, by omega, N_X11_cut h1 (fun r2 v2 h2 => ⟨fun _ => go _ h2.2, fun g => absurd h2.1 g⟩)⟩)⟩,
    fun _ => ⟨by omega, by omega, by omega, by omega, N_X10_toll (Q_toll ht hI) (fun r1 v1 h1 => ⟨by omega, by omega, by omega, by omega, N_X11_toll h1 (fun r2 v2 h2 => ⟨fun _ => go _ h2.2, fun g => absurd h2.1 g⟩)⟩)⟩,
    fun _ => ⟨by omega, by omega, N_X10_grow (Q_grow ht hI) (fun r1 v1 h1 => ⟨by omega, by omega, N_X11_grow h1 (fun r2 v2 h2 => ⟨fun _ => go _ h2.2, fun g => absurd h2.1 g⟩)⟩)⟩,
    fun _ => ⟨by omega, by omega, N_X10_drop (Q_drop ht hI) (fun r1 v1 h1 => ⟨by omega, by omega, N_X11_drop h1 (fun r2 v2 h2 => ⟨fun _ => go _ h2.2, fun g => absurd h2.1 g⟩)⟩)⟩,
    fun _ => ⟨by omega, by omega, N_X10_press (Q_press ht hI) (fun r1 v1 h1 => ⟨by omega, by omega, N_X11_press h1 (fun r2 v2 h2 => ⟨fun _ => go _ h2.2, fun g => absurd h2.1 g⟩)⟩)⟩,
    fun _ => ⟨by omega, by omega, by omega, by omega, N_X10_open (Q_open (w32_ok _) (w32_ok _) ht hI) (fun r1 v1 h1 => ⟨by omega, by omega, by omega, by omega, N_X11_open h1 (fun r2 v2 h2 => ⟨fun _ => go _ h2.2, fun g => absurd h2.1 g⟩)⟩)⟩,
    fun _ => ⟨by omega, by omega, N_X10_chance (Q_chance ht hI) (fun r1 v1 h1 => ⟨by omega, by omega, N_X11_chance h1 (fun r2 v2 h2 => ⟨fun _ => go _ h2.2, fun g => absurd h2.1 g⟩)⟩)⟩,
    fun _ => N_X10_undo (Q_undo ht hI) (fun r1 v1 h1 => N_X11_undo h1 (fun r2 v2 h2 => ⟨fun _ => go _ h2.2, fun g => absurd h2.1 g⟩)),
    fun _ => ⟨by omega, by omega, N_X10_seed (Q_seed (w32_ok _) ht hI) (fun r1 v1 h1 => ⟨by omega, by omega, N_X11_seed h1 (fun r2 v2 h2 => ⟨fun _ => go _ h2.2, fun g => absurd h2.1 g⟩)⟩)⟩,
    fun _ => N_X10_image (Q_image hI) (fun r1 v1 h1 => N_X11_image h1 (fun r2 v2 h2 => ⟨fun _ => go _ h2.2, fun g => absurd h2.1 g⟩)),
    fun _ => ⟨by omega, by omega, N_X10_octet (Q_octet hI) (fun r1 h1 => ⟨by omega, by omega, N_X11_octet h1 (fun r2 h2 => ⟨fun _ => go _ h2.2, fun g => absurd h2.1 g⟩)⟩)⟩,
    fun _ => N_X10_on (Q_on ht hI) (fun r1 v1 h1 => N_X11_on h1 (fun r2 v2 h2 => ⟨fun _ => go _ h2.2, fun g => absurd h2.1 g⟩)),
    fun _ => ⟨by omega, by omega, N_X10_status (Q_status hI) (fun r1 h1 => ⟨by omega, by omega, N_X11_status h1 (fun r2 h2 => ⟨fun _ => go _ h2.2, fun g => absurd h2.1 g⟩)⟩)⟩,
    fun _ => go v (Inv_up hI (by omega))⟩

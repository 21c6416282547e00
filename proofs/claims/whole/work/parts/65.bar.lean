/-! ===== the lowest bar: by lines of at most a price ===== -/
def lv (L : List Ln) (c : Int) : List Ln := L.filter (fun l => decide (l.2.2 ≤ c))
section Bar
variable {n t a c : Int} {L : List Ln}
theorem nbp_mem {b p : Int} : nbp L b a p ↔ ∃ l ∈ L, ((l.1 = b ∧ l.2.1 = a) ∨ (l.1 = a ∧ l.2.1 = b)) ∧ l.2.2 = p := by
  constructor
  · rintro ⟨k, k0, k1, h, h2⟩
    have hk : k.toNat < L.length := by omega
    obtain ⟨e1, e2, e3⟩ := lo_at hk
    rw [Int.toNat_of_nonneg k0] at e1 e2 e3
    rw [e1, e2] at h
    rw [e3] at h2
    exact ⟨_, List.getElem_mem hk, h, h2⟩
  · rintro ⟨l, hl, h, h2⟩
    obtain ⟨k, hk, e⟩ := List.getElem_of_mem hl
    obtain ⟨e1, e2, e3⟩ := lo_at hk
    refine ⟨(k : Int), by omega, by omega, ?_, ?_⟩
    · rw [e1, e2, e]; exact h
    · rw [e3, e]; exact h2
theorem lv_adj {b : Int} : adj (lv L c) b a ↔ ∃ p, p ≤ c ∧ nbp L b a p := by
  rw [adj_mem]
  unfold lv
  constructor
  · rintro ⟨l, hl, h⟩
    obtain ⟨h1, h2⟩ := List.mem_filter.mp hl
    rw [decide_eq_true_eq] at h2
    exact ⟨l.2.2, h2, nbp_mem.mpr ⟨l, h1, h, rfl⟩⟩
  · rintro ⟨p, hp, h⟩
    obtain ⟨l, hl, h1, h2⟩ := nbp_mem.mp h
    exact ⟨l, List.mem_filter.mpr ⟨hl, by rw [decide_eq_true_eq]; omega⟩, h1⟩
theorem fop1 (c p : Int) : fop 1 c p = max c p := by unfold fop; rw [if_neg (by decide)]
theorem wk_mono {c' : Int} (h : c ≤ c') : ∀ {k : Nat} {b : Int}, wk (lv L c) k t b → wk (lv L c') k t b
  | 0, b, g => g
  | k + 1, b, ⟨d, g1, g2⟩ => ⟨d, wk_mono h g1, by
    obtain ⟨p, p1, p2⟩ := lv_adj.mp g2
    exact lv_adj.mpr ⟨p, by omega, p2⟩⟩
theorem cwk_lv : ∀ {k : Nat} {a c : Int}, cwk (fop 1) L t k a c → wk (lv L c) k t a
  | 0, a, c, h => h.1.symm
  | k + 1, a, c, ⟨b, c', p, h1, h2, h3⟩ => by
    rw [fop1] at h3
    exact ⟨b, wk_mono (by omega) (cwk_lv h2), lv_adj.mpr ⟨p, by omega, h1⟩⟩
theorem lv_cwk (hc : 0 ≤ c) : ∀ {k : Nat} {a : Int}, wk (lv L c) k t a → ∃ c', c' ≤ c ∧ cwk (fop 1) L t k a c'
  | 0, a, h => ⟨0, hc, h.symm, rfl⟩
  | k + 1, a, ⟨b, g1, g2⟩ => by
    obtain ⟨c', h1, h2⟩ := lv_cwk hc g1
    obtain ⟨p, p1, p2⟩ := lv_adj.mp g2
    exact ⟨max c' p, by omega, b, c', p, p2, h2, (fop1 _ _).symm⟩
/-- the least bar, told by distances over the lines of at most a price -/
theorem bar_is (w : wfL n L) (hc : 0 ≤ c) (h : 0 ≤ dd (lv L c) t a) (h2 : ∀ c', 0 ≤ c' → c' < c → dd (lv L c') t a = -1) : isL (fop 1) L t a c := by
  have key : ∀ k c', cwk (fop 1) L t k a c' → c ≤ c' := by
    intro k c' hk
    have r := cwk_r w (okf_op 1) hk
    refine Classical.byContradiction fun hlt => ?_
    have h3 := h2 c' r.1 (by omega)
    have h4 := dd_le (cwk_lv hk)
    omega
  refine ⟨?_, key⟩
  obtain ⟨c', g1, g2⟩ := lv_cwk hc (dd_wk h)
  have := key _ c' g2
  exact ⟨_, by rw [show c = c' by omega]; exact g2⟩
end Bar

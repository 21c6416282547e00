/-! ===== the reference reads rows ===== -/
def mPre (v0 v : VT) (m : Int) (b : Int → Int) (s : Int) (r : Flt ⊕ (Int × Net)) : Prop :=
  (∃ e : Flt, e.1 ≠ 0 ∧ mBd v0 v e s ∧ r = .inl e) ∨ (∃ (p : Int) (A : Net), mSt v0 v m b p A s ∧ sk m b p = p ∧ (0 ≤ p ∧ p ≤ m) ∧ ((sgn m b p = 59 ∧ r = .inr (p + 1, A)) ∨ (¬ sgn m b p = 59 ∧ r = .inl (1, p))))
def mPost (v0 v : VT) (m : Int) (b : Int → Int) (s : Int) : Flt ⊕ (Int × Net) → Prop
  | .inl e => mBd v0 v e (s + 1) ∧ e.1 ≠ 0
  | .inr (p, A) => mSt v0 v m b p A (s + 1)
theorem nz1 : (1 : Int) ≠ 0 := by decide
theorem nz3 : (3 : Int) ≠ 0 := by decide
theorem nz4 : (4 : Int) ≠ 0 := by decide
theorem nz5 : (5 : Int) ≠ 0 := by decide
section RowsM
variable {v0 v : VT} {m p s : Int} {b : Int → Int} {A : Net}
theorem S_room {j : Int} {q : VT → Prop} (ht : mTp v0 m b) (h : mSt v0 v m b p A s) (hp : 0 ≤ p ∧ p ≤ m) (h1 : ¬ j = 24 → ∀ v', mSt v0 v' m b (sk m b p) A s → q v') (h2 : j = 24 → ∀ v', mBd v0 v' (if sk m b p < m then 5 else 1, sk m b p) s → q v') : P_X11_room j v q := by
  have s1 := sk_r (b := b) hp.2
  unfold P_X11_room
  refine S_look ht h hp (fun v' h' => ⟨fun g => h1 g v' h', fun g => ?_⟩)
  rw [h'.2.2.2.2.1, (mTp_at ht h'.1).1]
  refine ⟨fun k => S_failM h' (fun v2 h2' => h2 g v2 ?_), fun k => S_failM h' (fun v2 h2' => h2 g v2 ?_)⟩
  · rw [if_pos (by omega)]; exact h2'
  · rw [if_neg (by omega)]; exact h2'
theorem mRow_nm {f : Nat → Int} (hA : okNet A) (h : mRow f A) : ∀ i : Int, 0 ≤ i → i < A.1 → okN (A.2.2 i) ∧ f (2 + i).toNat = cm (A.2.2 i) := fun i i0 i1 => ⟨hA.2.2 i i0 i1, h.2 i i0 i1⟩
theorem S_nodesTold {q : VT → Prop} (ht : mTp v0 m b) (h : mSt v0 v m b p A s) (hp : 0 ≤ p ∧ p ≤ m) (hA : okNet A) (h0 : A.1 = 0) (hq : ∀ v', mPre v0 v' m b s (rowF m b false 25 p A (-1) 0) → q v') : P_X11_nodesTold v q := by
  have hm := ht.2.1
  unfold P_X11_nodesTold
  intro K12 hK12
  refine ⟨fun k => absurd h.2.1 k, fun _ => hK12 _ (fun X13 hX13 => ?_)⟩
  have done : ∀ v', q v' → X13 0 v' := fun v' hv => hX13 _ _ ⟨fun _ => hv, fun k => absurd rfl k⟩
  have loop : ∀ (f : Nat) (p1 : Int) (A1 : Net) (last j : Int) (v1 : VT), (f : Int) = 25 - j → mSt v0 v1 m b p1 A1 s → 0 ≤ p1 ∧ p1 ≤ m → okJ false A1 last j → (∀ v', mPre v0 v' m b s (rowF m b false f p1 A1 last j) → q v') → X13 1 v1 := by
    intro f
    induction f with
    | zero => intro p1 A1 last j v1 hf _ _ hJ _; have := hJ.2.1; omega
    | succ f ih =>
      intro p1 A1 last j v1 hf h1 hp1 hJ hq1
      have sp := sk_r (b := b) hp1.2
      have ss := sk_sk (b := b) hp1.2
      have rp := rn_spec (b := b) sp.2
      obtain ⟨hA1, hj2, hj1, -⟩ := id hJ
      have hj1' := hj1 rfl
      have hA24 := hA1.1
      have e0 : v1 221 0 = j := by rw [← hj1']; exact h1.2.2.2.2.2.1.1.1
      have badf : ∀ (e : Flt) (v' : VT), ndS m b false (sk m b p1) A1 last j = .inl e → mBd v0 v' e s → q v' := fun e v' he hx => hq1 v' (Or.inl ⟨e, ndS_bad he, hx, rowF_i he⟩)
      apply hX13
      refine ⟨fun k => absurd k (by decide), fun _ => ?_⟩
      rw [e0]
      refine S_room ht h1 hp1 (fun hj v2 h2 => ?_) (fun hj v2 h2 => ?_)
      · have en : ∀ {c : Prop}, (¬ j = 24 → c) → c := fun k => k hj
        refine S_name ht h2 (by omega) (fun c v3 h3 => ?_) (fun c1 c2 v3 h3 => ?_) (fun c1 c2 v3 h3 e10 => ?_)
        · rw [ss] at c h3
          have he : ndS m b false (sk m b p1) A1 last j = .inl (1, sk m b p1) := by unfold ndS; rw [if_neg hj, if_pos c]
          have hne : ¬ v3 218 5 = 0 := by rw [h3.2.1]; (first | exact nz1 | exact nz3 | exact nz4 | exact nz5)
          intro K60 hK60
          exact ⟨fun _ => hK60 _ ⟨fun _ => S_signB h3 (by (first | exact nz1 | exact nz3 | exact nz4 | exact nz5)) (done v3 (badf _ v3 he h3)), fun k => absurd k hne⟩, fun k => absurd k hne⟩
        · rw [ss] at c1 c2 h3
          have he : ndS m b false (sk m b p1) A1 last j = .inl (1, sk m b p1 + 4) := by unfold ndS; rw [if_neg hj, if_neg c1, if_pos c2]
          have hne : ¬ v3 218 5 = 0 := by rw [h3.2.1]; (first | exact nz1 | exact nz3 | exact nz4 | exact nz5)
          intro K60 hK60
          exact ⟨fun _ => hK60 _ ⟨fun _ => S_signB h3 (by (first | exact nz1 | exact nz3 | exact nz4 | exact nz5)) (done v3 (badf _ v3 he h3)), fun k => absurd k hne⟩, fun k => absurd k hne⟩
        · rw [ss] at c1 c2 h3 e10 ⊢
          have hwo : okN (wrd b (sk m b p1) (rn m b (sk m b p1))) := wrd_ok (by omega) rp.2.1
          intro K60 hK60
          refine ⟨fun k => absurd h3.2.1 k, fun _ => S_nodeNamed (n := A1.1) (N := A1.2.2) hA1.1 h3.2.2.2.2.2.1.1.1 (mRow_nm hA1 h3.2.2.2.2.2.1) hwo ⟨fun g => hK60 _ ⟨fun k => absurd h3.2.1 k, fun _ => ?_⟩, fun g => ?_⟩⟩
          · have he : ndS m b false (sk m b p1) A1 last j = .inr (addN A1 (wrd b (sk m b p1) (rn m b (sk m b p1))), -1) := by unfold ndS; rw [if_neg hj, if_neg c1, if_neg c2, if_pos rfl, if_neg (fun k => k g)]
            obtain ⟨hJ', -, -⟩ := ndS_ok sp.2 hJ he
            have n0 : v3 221 0 = A1.1 := h3.2.2.2.2.2.1.1.1
            have hlen := hA1.2.1.2.2
            rw [n0]
            refine ⟨by omega, by omega, fun v80 e80 => ?_⟩
            have n80 : v80 221 0 = A1.1 := by rw [e80, upd2_j, if_neg (by omega)]; exact n0
            rw [n80]
            refine ⟨by omega, fun v90 e90 => ?_⟩
            have f90 : ∀ a, a ≠ 221 → v90 a = v3 a := fun a ha => by rw [e90, upd2_off _ _ _ ha, e80, upd2_off _ _ _ ha]
            have j90 : ∀ k, k ≠ 0 → k ≠ (2 + A1.1).toNat → v90 221 k = v3 221 k := fun k k0 k1 => by rw [e90, upd2_j, if_neg k0, e80, upd2_j, if_neg k1]
            have h90 : mSt v0 v90 m b (sk m b p1 + (rn m b (sk m b p1) : Int)) (addN A1 (wrd b (sk m b p1) (rn m b (sk m b p1)))) s := by
              refine ⟨⟨fun a a1 a2 => by rw [f90 a a2]; exact h3.1.1 a a1 a2, fun k k2 k4 k5 k6 k10 k14 => by rw [f90 218 (by omega)]; exact h3.1.2 k k2 k4 k5 k6 k10 k14⟩, by rw [f90 218 (by omega)]; exact h3.2.1, by rw [f90 218 (by omega)]; exact h3.2.2.1, by rw [f90 218 (by omega)]; exact h3.2.2.2.1, by rw [f90 218 (by omega)]; exact h3.2.2.2.2.1, ⟨⟨by rw [e90, upd2_same]; rfl, by rw [j90 1 (by decide) (by omega)]; exact h3.2.2.2.2.2.1.1.2.1, fun k k0 k1 => ?_⟩, fun i i0 i1 => ?_⟩, ?_⟩
              · have k1' : k < (A1.2.1.length : Int) := k1
                rw [j90 _ (by omega) (by omega), j90 _ (by omega) (by omega), j90 _ (by omega) (by omega)]
                exact h3.2.2.2.2.2.1.1.2.2 k k0 k1
              · have i1' : i < A1.1 + 1 := i1
                show v90 221 (2 + i).toNat = cm (if i = A1.1 then _ else A1.2.2 i)
                by_cases e : i = A1.1
                · rw [if_pos e, e90, upd2_j, if_neg (by omega), e80, upd2_j, if_pos (by omega)]
                · rw [if_neg e, j90 _ (by omega) (by omega)]; exact h3.2.2.2.2.2.1.2 i i0 (by show i < A1.1; omega)
              · unfold mEd; rw [f90 218 (by omega)]; exact h3.2.2.2.2.2.2
            refine S_sign ht h90 ⟨by omega, rp.1⟩ (by decide) (fun hc v4 h4 => ?_) (fun hc v4 h4 => done v4 (hq1 v4 ?_))
            · have hlt := sgn_lt (m := m) (b := b) (p := sk m b (sk m b p1 + (rn m b (sk m b p1) : Int))) (by rw [hc]; decide)
              have sp2 := sk_r (b := b) rp.1
              refine ih _ _ (-1) (j + 1) v4 (by omega) h4 (by omega) hJ' ?_
              rw [rowF_c he hc] at hq1
              exact hq1
            · have sp2 := sk_r (b := b) rp.1
              refine Or.inr ⟨_, _, h4, sk_sk rp.1, by omega, ?_⟩
              by_cases h59 : sgn m b (sk m b (sk m b p1 + (rn m b (sk m b p1) : Int))) = 59
              · exact Or.inl ⟨h59, rowF_s he ⟨h59, fun k => by cases k⟩⟩
              · exact Or.inr ⟨h59, rowF_b he hc (fun k => h59 k.1)⟩
          · have he : ndS m b false (sk m b p1) A1 last j = .inl (3, sk m b p1) := by unfold ndS; rw [if_neg hj, if_neg c1, if_neg c2, if_pos rfl, if_pos g]
            rw [e10]
            refine S_failM h3 (fun v4 h4 => ?_)
            have hne : ¬ v4 218 5 = 0 := by rw [h4.2.1]; (first | exact nz1 | exact nz3 | exact nz4 | exact nz5)
            exact hK60 _ ⟨fun _ => S_signB h4 (by (first | exact nz1 | exact nz3 | exact nz4 | exact nz5)) (done v4 (badf _ v4 he h4)), fun k => absurd k hne⟩
      · have he : ndS m b false (sk m b p1) A1 last j = .inl (if sk m b p1 < m then 5 else 1, sk m b p1) := by unfold ndS; rw [if_pos hj]
        have hne : ¬ v2 218 5 = 0 := fun k => ndS_bad he (by rw [← h2.2.1]; exact k)
        unfold P_X11_name
        refine ⟨fun k => absurd k hne, fun _ => ?_⟩
        intro K60 hK60
        exact ⟨fun _ => hK60 _ ⟨fun _ => S_signB h2 (ndS_bad he) (done v2 (badf _ v2 he h2)), fun k => absurd k hne⟩, fun k => absurd k hne⟩
  exact loop 25 p A (-1) 0 v (by omega) h hp ⟨hA, by omega, fun _ => h0, fun k => by cases k⟩ hq
theorem S_wayTold {q : VT → Prop} (ht : mTp v0 m b) (h : mSt v0 v m b p A s) (hp : 0 ≤ p ∧ p ≤ m) (hA : okNet A) (hq : ∀ v', mPre v0 v' m b s (rowF m b true 25 p A (-1) 0) → q v') : P_X11_wayTold v q := by
  have hm := ht.2.1
  unfold P_X11_wayTold
  intro K16 hK16
  refine ⟨fun k => absurd h.2.1 k, fun _ => hK16 _ (fun X17 hX17 => ?_)⟩
  have done : ∀ (v' : VT) (i1 i2 : Int), q v' → X17 i1 i2 0 v' := fun v' i1 i2 hv => hX17 _ _ _ _ ⟨fun _ => hv, fun k => absurd rfl k⟩
  have loop : ∀ (f : Nat) (p1 : Int) (A1 : Net) (last j : Int) (v1 : VT), (f : Int) = 25 - j → mSt v0 v1 m b p1 A1 s → 0 ≤ p1 ∧ p1 ≤ m → okJ true A1 last j → (∀ v', mPre v0 v' m b s (rowF m b true f p1 A1 last j) → q v') → X17 j last 1 v1 := by
    intro f
    induction f with
    | zero => intro p1 A1 last j v1 hf _ _ hJ _; have := hJ.2.1; omega
    | succ f ih =>
      intro p1 A1 last j v1 hf h1 hp1 hJ hq1
      have sp := sk_r (b := b) hp1.2
      have ss := sk_sk (b := b) hp1.2
      have rp := rn_spec (b := b) sp.2
      have sp2 := sk_r (b := b) rp.1
      obtain ⟨hA1, hj2, -, hj1⟩ := id hJ
      have hA24 := hA1.1
      have hlen := hA1.2.1.2.2
      have badf : ∀ (e : Flt) (v' : VT), ndS m b true (sk m b p1) A1 last j = .inl e → mBd v0 v' e s → q v' := fun e v' he hx => hq1 v' (Or.inl ⟨e, ndS_bad he, hx, rowF_i he⟩)
      apply hX17
      refine ⟨fun k => absurd k (by decide), fun _ => ?_⟩
      -- with a fault nothing more is done
      have B186 : ∀ (v' : VT) (x : Int), ¬ v' 218 5 = 0 → q v' → (((¬ (v' 218 5) = 0) → X17 (j + 1) x 0 v') ∧ (((v' 218 5) = 0) → (((j + 1) = 1) → X17 (j + 1) x 1 v') ∧ ((¬ (j + 1) = 1) → P_X11_takesSign 44 v' (fun r201 v201 => ((r201 = 0) → X17 (j + 1) x 0 v201) ∧ ((¬ r201 = 0) → X17 (j + 1) x 1 v201))))) := fun v' x hne hv => ⟨fun _ => done v' _ _ hv, fun k => absurd k hne⟩
      refine S_room ht h1 hp1 (fun hj v2 h2 => ?_) (fun hj v2 h2 => ?_)
      · refine S_name ht h2 (by omega) (fun c v3 h3 => ?_) (fun c1 c2 v3 h3 => ?_) (fun c1 c2 v3 h3 e10 => ?_)
        · rw [ss] at c h3
          have he : ndS m b true (sk m b p1) A1 last j = .inl (1, sk m b p1) := by unfold ndS; rw [if_neg hj, if_pos c]
          have hne : ¬ v3 218 5 = 0 := by rw [h3.2.1]; (first | exact nz1 | exact nz3 | exact nz4 | exact nz5)
          have hv := badf _ v3 he h3
          intro K52 hK52
          refine ⟨fun _ => hK52 _ (fun K76 hK76 => ⟨fun _ => hK76 _ (fun K116 hK116 => ⟨fun _ => hK116 _ (fun K147 hK147 => ⟨fun _ => hK147 _ (fun K169 hK169 => ⟨fun _ => hK169 _ ⟨by omega, fun K186 hK186 => ⟨fun _ => hK186 _ (B186 v3 _ hne hv), fun _ => S_asksB h3 (by (first | exact nz1 | exact nz3 | exact nz4 | exact nz5)) (hK186 _ (B186 v3 _ hne hv))⟩⟩, fun k => absurd k hne⟩), fun k => absurd k hne⟩), fun k => absurd k hne⟩), fun k => absurd k hne⟩), fun k => absurd k hne⟩
        · rw [ss] at c1 c2 h3
          have he : ndS m b true (sk m b p1) A1 last j = .inl (1, sk m b p1 + 4) := by unfold ndS; rw [if_neg hj, if_neg c1, if_pos c2]
          have hne : ¬ v3 218 5 = 0 := by rw [h3.2.1]; (first | exact nz1 | exact nz3 | exact nz4 | exact nz5)
          have hv := badf _ v3 he h3
          intro K52 hK52
          refine ⟨fun _ => hK52 _ (fun K76 hK76 => ⟨fun _ => hK76 _ (fun K116 hK116 => ⟨fun _ => hK116 _ (fun K147 hK147 => ⟨fun _ => hK147 _ (fun K169 hK169 => ⟨fun _ => hK169 _ ⟨by omega, fun K186 hK186 => ⟨fun _ => hK186 _ (B186 v3 _ hne hv), fun _ => S_asksB h3 (by (first | exact nz1 | exact nz3 | exact nz4 | exact nz5)) (hK186 _ (B186 v3 _ hne hv))⟩⟩, fun k => absurd k hne⟩), fun k => absurd k hne⟩), fun k => absurd k hne⟩), fun k => absurd k hne⟩), fun k => absurd k hne⟩
        · rw [ss] at c1 c2 h3 e10 ⊢
          have hwo : okN (wrd b (sk m b p1) (rn m b (sk m b p1))) := wrd_ok (by omega) rp.2.1
          intro K52 hK52
          refine ⟨fun k => absurd h3.2.1 k, fun _ => S_nodeNamed (n := A1.1) (N := A1.2.2) hA1.1 h3.2.2.2.2.2.1.1.1 (mRow_nm hA1 h3.2.2.2.2.2.1) hwo (hK52 _ ?_)⟩
          have hfn := fN_r A1.1 A1.2.2 (wrd b (sk m b p1) (rn m b (sk m b p1)))
          have en0 : ndS m b true (sk m b p1) A1 last j = (if fN A1.1 A1.2.2 (wrd b (sk m b p1) (rn m b (sk m b p1))) = -1 then .inl (3, sk m b p1)
            else @ite _ (0 < j ∧ (fN A1.1 A1.2.2 (wrd b (sk m b p1) (rn m b (sk m b p1))) = last ∨ adj A1.2.1 last (fN A1.1 A1.2.2 (wrd b (sk m b p1) (rn m b (sk m b p1)))))) (Classical.propDecidable _) (.inl (4, sk m b p1))
            (if 0 < j ∧ A1.2.1.length = 60 then .inl (5, sk m b p1) else .inr (if 0 < j then netJ A1 last (fN A1.1 A1.2.2 (wrd b (sk m b p1) (rn m b (sk m b p1)))) else A1, fN A1.1 A1.2.2 (wrd b (sk m b p1) (rn m b (sk m b p1)))))) := by
            unfold ndS; rw [if_neg hj, if_neg c1, if_neg c2, if_neg (by decide)]
          generalize fN A1.1 A1.2.2 (wrd b (sk m b p1) (rn m b (sk m b p1))) = x at *
          -- what is done behind a fault
          have bad169 : ∀ (e : Flt) (v' : VT), e.1 ≠ 0 → mBd v0 v' e s → q v' → ((-2147483648 ≤ j + 1 ∧ j + 1 ≤ 2147483647) ∧ ∀ K186 : VT → Prop, (∀ (v186 : VT), (((¬ (v186 218 5) = 0) → X17 (j + 1) x 0 v186) ∧ (((v186 218 5) = 0) → (((j + 1) = 1) → X17 (j + 1) x 1 v186) ∧ ((¬ (j + 1) = 1) → P_X11_takesSign 44 v186 (fun r201 v201 => ((r201 = 0) → X17 (j + 1) x 0 v201) ∧ ((¬ r201 = 0) → X17 (j + 1) x 1 v201))))) → K186 v186) → ((¬ (j + 1) = 1) → K186 v') ∧ (((j + 1) = 1) → P_X11_asksSign 44 v' (fun v183 => K186 v183))) := by
            intro e v' he hx hv
            have hne : ¬ v' 218 5 = 0 := fun k => he (by rw [← hx.2.1]; exact k)
            exact ⟨by omega, fun K186 hK186 => ⟨fun _ => hK186 _ (B186 v' _ hne hv), fun _ => S_asksB hx he (hK186 _ (B186 v' _ hne hv))⟩⟩
          -- what is done behind a name that is good
          have ok169 : ∀ (A' : Net) (v' : VT), ndS m b true (sk m b p1) A1 last j = .inr (A', x) → mSt v0 v' m b (sk m b p1 + (rn m b (sk m b p1) : Int)) A' s → ((-2147483648 ≤ j + 1 ∧ j + 1 ≤ 2147483647) ∧ ∀ K186 : VT → Prop, (∀ (v186 : VT), (((¬ (v186 218 5) = 0) → X17 (j + 1) x 0 v186) ∧ (((v186 218 5) = 0) → (((j + 1) = 1) → X17 (j + 1) x 1 v186) ∧ ((¬ (j + 1) = 1) → P_X11_takesSign 44 v186 (fun r201 v201 => ((r201 = 0) → X17 (j + 1) x 0 v201) ∧ ((¬ r201 = 0) → X17 (j + 1) x 1 v201))))) → K186 v186) → ((¬ (j + 1) = 1) → K186 v') ∧ (((j + 1) = 1) → P_X11_asksSign 44 v' (fun v183 => K186 v183))) := by
            intro A' v' he hx
            obtain ⟨hJ', -, -⟩ := ndS_ok sp.2 hJ he
            have next : sgn m b (sk m b (sk m b p1 + (rn m b (sk m b p1) : Int))) = 44 → ∀ v4, mSt v0 v4 m b (sk m b (sk m b p1 + (rn m b (sk m b p1) : Int)) + 1) A' s → X17 (j + 1) x 1 v4 := fun hc v4 h4 => by
              have hlt := sgn_lt (m := m) (b := b) (p := sk m b (sk m b p1 + (rn m b (sk m b p1) : Int))) (by rw [hc]; decide)
              refine ih _ A' x (j + 1) v4 (by omega) h4 (by omega) hJ' ?_
              rw [rowF_c he hc] at hq1
              exact hq1
            refine ⟨by omega, fun K186 hK186 => ⟨fun hj1' => hK186 _ ⟨fun k => absurd hx.2.1 k, fun _ => ⟨fun k => absurd k hj1', fun _ => ?_⟩⟩, fun hj1' => ?_⟩⟩
            · refine S_sign ht hx ⟨by omega, rp.1⟩ (by decide) (fun hc v4 h4 => ⟨fun k => absurd k (by decide), fun _ => next hc v4 h4⟩) (fun hc v4 h4 => ⟨fun _ => done v4 _ _ (hq1 v4 ?_), fun k => absurd rfl k⟩)
              refine Or.inr ⟨_, _, h4, sk_sk rp.1, by omega, ?_⟩
              by_cases h59 : sgn m b (sk m b (sk m b p1 + (rn m b (sk m b p1) : Int))) = 59
              · exact Or.inl ⟨h59, rowF_s he ⟨h59, fun _ => by omega⟩⟩
              · exact Or.inr ⟨h59, rowF_b he hc (fun k => h59 k.1)⟩
            · refine S_asks ht hx ⟨by omega, rp.1⟩ (by decide) (fun hc v4 h4 => hK186 _ ⟨fun k => absurd h4.2.1 k, fun _ => ⟨fun _ => next hc v4 h4, fun k => absurd hj1' k⟩⟩) (fun hc v4 h4 => ?_)
              have hne : ¬ v4 218 5 = 0 := by rw [h4.2.1]; (first | exact nz1 | exact nz3 | exact nz4 | exact nz5)
              exact hK186 _ (B186 v4 _ hne (hq1 v4 (Or.inl ⟨_, (by (first | exact nz1 | exact nz3 | exact nz4 | exact nz5)), h4, rowF_b he hc (fun k => by have := k.2 rfl; omega)⟩)))
          rw [e10]
          intro K76 hK76
          refine ⟨fun k => absurd h3.2.1 k, fun _ => ⟨fun g => hK76 _ (fun K116 hK116 => ⟨fun k => absurd h3.2.1 k, fun _ => ?_⟩), fun g => ?_⟩⟩
          · rw [if_neg g] at en0
            have hxr : 0 ≤ x ∧ x < A1.1 := by
              rcases hfn with k | k
              · exact absurd k.1 g
              · exact k.1
            refine ⟨fun hj0 => hK116 _ (fun K147 hK147 => ⟨fun k => absurd h3.2.1 k, fun _ => ⟨fun _ => hK147 _ (fun K169 hK169 => ⟨fun k => absurd h3.2.1 k, fun _ => ⟨fun _ => hK169 _ ?_, fun k => by omega⟩⟩), fun k => by omega⟩⟩), fun hj0 => ?_⟩
            · rw [if_neg (fun k => by have := k.1; omega), if_neg (fun k => by have := k.1; omega), if_neg (by omega)] at en0
              exact ok169 A1 v3 en0 h3
            · have hlr := hj1 rfl hj0
              intro K107 hK107
              have four : (x = last ∨ adj A1.2.1 last x) → K107 := fun k => by
                rw [if_pos ⟨hj0, k⟩] at en0
                apply hK107
                rw [e10]
                refine S_failM h3 (fun v4 h4 => ?_)
                have hne : ¬ v4 218 5 = 0 := by rw [h4.2.1]; (first | exact nz1 | exact nz3 | exact nz4 | exact nz5)
                have hb := bad169 _ v4 (by (first | exact nz1 | exact nz3 | exact nz4 | exact nz5)) h4 (badf _ v4 en0 h4)
                exact hK116 _ (fun K147 hK147 => ⟨fun _ => hK147 _ (fun K169 hK169 => ⟨fun _ => hK169 _ hb, fun k => absurd k hne⟩), fun k => absurd k hne⟩)
              refine ⟨fun k => four (Or.inl k), fun k => S_lineOf hA1.2.1 (mRow_mG h3.2.2.2.2.2.1) (fun hna => ⟨fun _ => ?_, fun k2 => absurd rfl k2⟩) (fun l l0 l1 l2 => ⟨fun k2 => by omega, fun _ => four (Or.inr ⟨l, l0, l1, l2⟩)⟩)⟩
              rw [if_neg (fun k2 => by rcases k2.2 with k3 | k3; exact k k3; exact hna k3)] at en0
              have n1 : v3 221 1 = (A1.2.1.length : Int) := h3.2.2.2.2.2.1.1.2.1
              refine hK116 _ (fun K147 hK147 => ⟨fun k2 => absurd h3.2.1 k2, fun _ => ⟨fun k2 => by omega, fun _ => ?_⟩⟩)
              rw [n1, e10]
              refine ⟨fun h60 => hK147 _ (fun K169 hK169 => ⟨fun k2 => absurd h3.2.1 k2, fun _ => ⟨fun k2 => by omega, fun _ => ?_⟩⟩), fun h60 => S_failM h3 (fun v4 h4 => ?_)⟩
              · rw [if_neg (fun k2 => h60 (by rw [k2.2]; rfl)), if_pos hj0] at en0
                refine S_adds (mRow_mG h3.2.2.2.2.2.1) (by omega) (fun v4 f4 j4 g4 => hK169 _ (ok169 _ v4 en0 ?_))
                refine ⟨⟨fun a a1 a2 => by rw [f4 a a2]; exact h3.1.1 a a1 a2, fun k k2 k4 k5 k6 k10 k14 => by rw [f4 218 (by omega)]; exact h3.1.2 k k2 k4 k5 k6 k10 k14⟩, by rw [f4 218 (by omega)]; exact h3.2.1, by rw [f4 218 (by omega)]; exact h3.2.2.1, by rw [f4 218 (by omega)]; exact h3.2.2.2.1, by rw [f4 218 (by omega)]; exact h3.2.2.2.2.1, ⟨g4, fun i i0 i1 => ?_⟩, ?_⟩
                · have i1' : i < A1.1 := i1
                  rw [j4 _ (by omega) (by omega)]; exact h3.2.2.2.2.2.1.2 i i0 i1
                · unfold mEd; rw [f4 218 (by omega)]; exact h3.2.2.2.2.2.2
              · rw [if_pos ⟨hj0, by omega⟩] at en0
                have hne : ¬ v4 218 5 = 0 := by rw [h4.2.1]; (first | exact nz1 | exact nz3 | exact nz4 | exact nz5)
                have hb := bad169 _ v4 (by (first | exact nz1 | exact nz3 | exact nz4 | exact nz5)) h4 (badf _ v4 en0 h4)
                exact hK147 _ (fun K169 hK169 => ⟨fun _ => hK169 _ hb, fun k2 => absurd k2 hne⟩)
          · rw [if_pos g] at en0
            refine S_failM h3 (fun v4 h4 => ?_)
            have hne : ¬ v4 218 5 = 0 := by rw [h4.2.1]; (first | exact nz1 | exact nz3 | exact nz4 | exact nz5)
            have hb := bad169 _ v4 (by (first | exact nz1 | exact nz3 | exact nz4 | exact nz5)) h4 (badf _ v4 en0 h4)
            exact hK76 _ (fun K116 hK116 => ⟨fun _ => hK116 _ (fun K147 hK147 => ⟨fun _ => hK147 _ (fun K169 hK169 => ⟨fun _ => hK169 _ hb, fun k => absurd k hne⟩), fun k => absurd k hne⟩), fun k => absurd k hne⟩)
      · have he : ndS m b true (sk m b p1) A1 last j = .inl (if sk m b p1 < m then 5 else 1, sk m b p1) := by unfold ndS; rw [if_pos hj]
        have hne : ¬ v2 218 5 = 0 := fun k => ndS_bad he (by rw [← h2.2.1]; exact k)
        have hv := badf _ v2 he h2
        unfold P_X11_name
        refine ⟨fun k => absurd k hne, fun _ => ?_⟩
        intro K52 hK52
        refine ⟨fun _ => hK52 _ (fun K76 hK76 => ⟨fun _ => hK76 _ (fun K116 hK116 => ⟨fun _ => hK116 _ (fun K147 hK147 => ⟨fun _ => hK147 _ (fun K169 hK169 => ⟨fun _ => hK169 _ ⟨by omega, fun K186 hK186 => ⟨fun _ => hK186 _ (B186 v2 _ hne hv), fun _ => S_asksB h2 (ndS_bad he) (hK186 _ (B186 v2 _ hne hv))⟩⟩, fun k => absurd k hne⟩), fun k => absurd k hne⟩), fun k => absurd k hne⟩), fun k => absurd k hne⟩), fun k => absurd k hne⟩
  exact loop 25 p A (-1) 0 v (by omega) h hp ⟨hA, by omega, fun k => (by cases k), fun _ k => by omega⟩ hq
end RowsM

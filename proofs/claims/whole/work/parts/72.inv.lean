/-! ===== what both hold between calls ===== -/
abbrev Net : Type := Int × List Ln × (Int → List Int)
def okNet (A : Net) : Prop := (0 ≤ A.1 ∧ A.1 ≤ 24) ∧ wfL A.1 A.2.1 ∧ ∀ i : Int, 0 ≤ i → i < A.1 → okN (A.2.2 i)
def nmX (v : VT) (g : Nat) (A : Net) : Prop := ∀ i : Int, 0 ≤ i → i < A.1 → v (g + 1) i.toNat = cx (A.2.2 i)
def xNet (v : VT) (g : Nat) (A : Net) : Prop := xG v g A.1 A.2.1 ∧ nmX v g A
def nmM (f : Nat → Int) (A : Net) : Prop := ∀ i : Int, 0 ≤ i → i < A.1 → f (2 + i).toNat = cm (A.2.2 i)
def mRow (f : Nat → Int) (A : Net) : Prop := (f 0 = A.1 ∧ f 1 = A.2.1.length ∧ ∀ k : Int, 0 ≤ k → k < A.2.1.length → f (26 + (2 * k)).toNat = lo A.2.1 k ∧ f ((26 + (2 * k)) + 1).toNat = hi A.2.1 k ∧ f (146 + k).toNat = pr A.2.1 k) ∧ nmM f A
theorem mRow_mG {v : VT} {g : Nat} {A : Net} (h : mRow (v g) A) : mG v g A.1 A.2.1 := h.1
abbrev Vt : Type := Int × (Int → Int)
abbrev Se : Type := Int × (Int → Int) × (Int → Int)
abbrev Hs : Type := Int × List Net
/-- the class -/
def xD (v : VT) (V : Vt) (S : Se) (c : Int) : Prop := v 0 15 = V.1 ∧ v 0 16 = S.1 ∧ v 0 17 = c ∧ (∀ i : Int, 0 ≤ i → i < V.1 → v 213 i.toNat = V.2 i) ∧ ∀ i : Int, 0 ≤ i → i < S.1 → v 214 i.toNat = S.2.1 i ∧ v 215 i.toNat = S.2.2 i
def xP (v : VT) (P : Vt) : Prop := v 205 1 = P.1 ∧ ∀ i : Int, 0 ≤ i → i < P.1 → v 206 i.toNat = P.2 i
def xR (v : VT) (R : Nat → Int) : Prop := ∀ k, k < 6 → v 217 k = R k
def xH (v : VT) (H : Hs) : Prop := v 16 0 = H.2.length ∧ v 16 1 = H.1 ∧ ∀ j : Nat, j < H.2.length → xNet v (18 + 6 * ((H.1 - 1 - (j : Int)) % 20).toNat) (H.2.getD j (0, [], fun _ => []))
def xF (v : VT) (F : Int × Int) : Prop := v 3 1 = F.1 ∧ v 3 2 = F.2
def OX (v : VT) (T : Vt) (F : Int × Int) (V : Vt) (S : Se) (c : Int) (P : Vt) (R : Nat → Int) (H : Hs) : Prop := isTp v T.1 T.2 ∧ xF v F ∧ xD v V S c ∧ xP v P ∧ xR v R ∧ xH v H
/-- the reference -/
def mT (v : VT) (T : Vt) : Prop := v 218 1 = T.1 ∧ (0 ≤ T.1 ∧ T.1 ≤ 800) ∧ ∀ i : Int, 0 ≤ i → i < T.1 → v 219 i.toNat = T.2 i ∧ 0 ≤ T.2 i ∧ T.2 i ≤ 255
def mFt (v : VT) (F : Int × Int) : Prop := v 218 7 = F.1 ∧ v 218 8 = F.2
def mD (v : VT) (V : Vt) (S : Se) (c : Int) : Prop := v 218 30 = V.1 ∧ v 218 33 = S.1 ∧ v 218 41 = c ∧ (∀ i : Int, 0 ≤ i → i < V.1 → v 236 i.toNat = V.2 i) ∧ ∀ i : Int, 0 ≤ i → i < S.1 → v 238 (2 * i).toNat = S.2.1 i ∧ v 238 ((2 * i) + 1).toNat = S.2.2 i
def mP (v : VT) (P : Vt) : Prop := v 218 43 = P.1 ∧ ∀ i : Int, 0 ≤ i → i < P.1 → v 243 i.toNat = P.2 i
def mR (v : VT) (R : Nat → Int) : Prop := ∀ k, k < 6 → v 220 k = R k
def mH (v : VT) (H : Hs) : Prop := v 218 36 = H.2.length ∧ v 218 37 = H.1 ∧ ∀ j : Nat, j < H.2.length → mRow (fun k => v 239 (206 * ((H.1 - (j : Int)) % 20).toNat + k)) (H.2.getD j (0, [], fun _ => []))
def OM (v : VT) (T : Vt) (F : Int × Int) (V : Vt) (S : Se) (c : Int) (P : Vt) (R : Nat → Int) (H : Hs) : Prop := mT v T ∧ mFt v F ∧ mD v V S c ∧ mP v P ∧ mR v R ∧ mH v H
def okT (t : Int) (V : Vt) (S : Se) (c : Int) (P : Vt) (R : Nat → Int) (H : Hs) : Prop := (0 ≤ V.1 ∧ V.1 ≤ 15) ∧ (0 ≤ S.1 ∧ S.1 ≤ 12) ∧ (∀ i : Int, 0 ≤ i → i < S.1 → 0 ≤ S.2.2 i ∧ S.2.2 i ≤ 23) ∧ (0 ≤ c ∧ c ≤ 2147483647) ∧ (0 ≤ P.1 ∧ P.1 ≤ 123) ∧ (∀ k, k < 6 → 0 ≤ R k ∧ R k ≤ t) ∧ (H.2.length ≤ 20 ∧ 0 ≤ H.1 ∧ H.1 < 20) ∧ ∀ A ∈ H.2, okNet A
def IX (v : VT) (A : Net) (T : Vt) (F : Int × Int) (V : Vt) (S : Se) (c : Int) (P : Vt) (R : Nat → Int) (H : Hs) : Prop := XC v A.1 A.2.1 ∧ nmX v 10 A ∧ OX v T F V S c P R H
def IM (v : VT) (A : Net) (T : Vt) (F : Int × Int) (V : Vt) (S : Se) (c : Int) (P : Vt) (R : Nat → Int) (H : Hs) : Prop := MC v A.1 A.2.1 ∧ nmM (v 222) A ∧ OM v T F V S c P R H
def Inv (t : Int) (v : VT) : Prop := ∃ A T F V S c P R H, okNet A ∧ okT t V S c P R H ∧ IX v A T F V S c P R H ∧ IM v A T F V S c P R H
section InvF
variable {v v' : VT} {A : Net} {T : Vt} {F : Int × Int} {V : Vt} {S : Se} {c : Int} {P : Vt} {R : Nat → Int} {H : Hs} {t : Int}
theorem xF_fr (h : xF v F) (h1 : v' 3 1 = v 3 1) (h2 : v' 3 2 = v 3 2) : xF v' F := by unfold xF; rw [h1, h2]; exact h
theorem xD_fr (h : xD v V S c) (h0 : v' 0 = v 0) (h1 : v' 213 = v 213) (h2 : v' 214 = v 214) (h3 : v' 215 = v 215) : xD v' V S c := by unfold xD; rw [h0, h1, h2, h3]; exact h
theorem xP_fr (h : xP v P) (h0 : v' 205 = v 205) (h1 : v' 206 = v 206) : xP v' P := by unfold xP; rw [h0, h1]; exact h
theorem xR_fr (h : xR v R) (h0 : v' 217 = v 217) : xR v' R := by unfold xR; rw [h0]; exact h
theorem xNet_fr {g : Nat} (h : xNet v g A) (hf : ∀ a, g ≤ a ∧ a ≤ g + 4 → v' a = v a) : xNet v' g A := by
  refine ⟨xG_frame h.1 (hf g (by omega)) (hf (g + 2) (by omega)) (hf (g + 3) (by omega)) (hf (g + 4) (by omega)), ?_⟩
  unfold nmX; rw [hf (g + 1) (by omega)]; exact h.2
theorem xH_fr (h : xH v H) (h0 : v' 16 = v 16) (hf : ∀ a, 18 ≤ a ∧ a ≤ 137 → v' a = v a) : xH v' H := by
  unfold xH
  rw [h0]
  exact ⟨h.1, h.2.1, fun j hj => xNet_fr (h.2.2 j hj) (fun a ha => hf a (by omega))⟩
theorem OX_fr (h : OX v T F V S c P R H) (hf : ∀ a, a ≤ 3 ∨ (16 ≤ a ∧ a ≤ 137) ∨ (205 ≤ a ∧ a ≤ 206) ∨ (213 ≤ a ∧ a ≤ 215) ∨ a = 217 → v' a = v a) : OX v' T F V S c P R H :=
  ⟨isTp_frame h.1 (hf 1 (by omega)) (hf 2 (by omega)), xF_fr h.2.1 (by rw [hf 3 (by omega)]) (by rw [hf 3 (by omega)]), xD_fr h.2.2.1 (hf 0 (by omega)) (hf 213 (by omega)) (hf 214 (by omega)) (hf 215 (by omega)), xP_fr h.2.2.2.1 (hf 205 (by omega)) (hf 206 (by omega)), xR_fr h.2.2.2.2.1 (hf 217 (by omega)), xH_fr h.2.2.2.2.2 (hf 16 (by omega)) (fun a ha => hf a (by omega))⟩
theorem mT_fr (h : mT v T) (h1 : v' 218 1 = v 218 1) (h2 : v' 219 = v 219) : mT v' T := by unfold mT; rw [h1, h2]; exact h
theorem mFt_fr (h : mFt v F) (h1 : v' 218 7 = v 218 7) (h2 : v' 218 8 = v 218 8) : mFt v' F := by unfold mFt; rw [h1, h2]; exact h
theorem mD_fr (h : mD v V S c) (h0 : v' 218 30 = v 218 30) (h1 : v' 218 33 = v 218 33) (h2 : v' 218 41 = v 218 41) (h3 : v' 236 = v 236) (h4 : v' 238 = v 238) : mD v' V S c := by unfold mD; rw [h0, h1, h2, h3, h4]; exact h
theorem mP_fr (h : mP v P) (h0 : v' 218 43 = v 218 43) (h1 : v' 243 = v 243) : mP v' P := by unfold mP; rw [h0, h1]; exact h
theorem mR_fr (h : mR v R) (h0 : v' 220 = v 220) : mR v' R := by unfold mR; rw [h0]; exact h
theorem mH_fr (h : mH v H) (h0 : v' 218 36 = v 218 36) (h1 : v' 218 37 = v 218 37) (h2 : v' 239 = v 239) : mH v' H := by unfold mH; rw [h0, h1, h2]; exact h
theorem OM_fr (h : OM v T F V S c P R H) (hf : ∀ a, a = 219 ∨ a = 220 ∨ a = 236 ∨ a = 238 ∨ a = 239 ∨ a = 243 → v' a = v a) (hj : ∀ j, j = 1 ∨ j = 7 ∨ j = 8 ∨ j = 30 ∨ j = 33 ∨ j = 36 ∨ j = 37 ∨ j = 41 ∨ j = 43 → v' 218 j = v 218 j) : OM v' T F V S c P R H :=
  ⟨mT_fr h.1 (hj 1 (by omega)) (hf 219 (by omega)), mFt_fr h.2.1 (hj 7 (by omega)) (hj 8 (by omega)), mD_fr h.2.2.1 (hj 30 (by omega)) (hj 33 (by omega)) (hj 41 (by omega)) (hf 236 (by omega)) (hf 238 (by omega)), mP_fr h.2.2.2.1 (hj 43 (by omega)) (hf 243 (by omega)), mR_fr h.2.2.2.2.1 (hf 220 (by omega)), mH_fr h.2.2.2.2.2 (hj 36 (by omega)) (hj 37 (by omega)) (hf 239 (by omega))⟩
theorem IX_low (hA : okNet A) (h : IX v A T F V S c P R H) (hf : ∀ a, a < 218 → v' a = v a) : IX v' A T F V S c P R H := by
  refine ⟨XC_frame hA.1.2 h.1 (fun a ha => hf a (by omega)), ?_, OX_fr h.2.2 (fun a ha => hf a (by omega))⟩
  unfold nmX; rw [hf 11 (by omega)]; exact h.2.1
theorem IM_high (h : IM v A T F V S c P R H) (hf : ∀ a, 218 ≤ a → v' a = v a) : IM v' A T F V S c P R H := by
  refine ⟨MC_frame h.1 (hf 222 (by omega)) (fun a ha => hf a (by omega)) (fun j _ => by rw [hf 218 (by omega)]), ?_, OM_fr h.2.2 (fun a ha => hf a (by omega)) (fun j _ => by rw [hf 218 (by omega)])⟩
  rw [hf 222 (by omega)]; exact h.2.1
theorem IX_XF (h : IX v A T F V S c P R H) (hf : XF v v') (hc : XC v' A.1 A.2.1) : IX v' A T F V S c P R H := by
  refine ⟨hc, ?_, OX_fr h.2.2 (fun a ha => hf a (by omega))⟩
  unfold nmX; rw [hf 11 (by omega)]; exact h.2.1
theorem IM_MF (h : IM v A T F V S c P R H) (hf : MF v v') (hc : MC v' A.1 A.2.1) : IM v' A T F V S c P R H := by
  refine ⟨hc, ?_, OM_fr h.2.2 (fun a ha => hf.1 a (by omega)) (fun j _ => hf.2 j (by omega) (by omega) (by omega))⟩
  rw [hf.1 222 (by omega)]; exact h.2.1
theorem okT_up {t' : Int} (h : okT t V S c P R H) (ht : t ≤ t') : okT t' V S c P R H :=
  ⟨h.1, h.2.1, h.2.2.1, h.2.2.2.1, h.2.2.2.2.1, fun k hk => by have := h.2.2.2.2.2.1 k hk; omega, h.2.2.2.2.2.2⟩
/-- a query: both sides come to the same, and keep all else -/
theorem q_two {fX fM : VT → (Int → VT → Prop) → Prop} {sp : Int} (hA : okNet A) (hT : okT t V S c P R H) (hX : IX v A T F V S c P R H) (hM : IM v A T F V S c P R H)
    (h1 : ∀ q : Int → VT → Prop, (∀ v', XF v v' → XC v' A.1 A.2.1 → q sp v') → fX v q) (h2 : ∀ (v1 : VT) (q : Int → VT → Prop), IM v1 A T F V S c P R H → (∀ v', MF v1 v' → MC v' A.1 A.2.1 → q sp v') → fM v1 q) :
    fX v (fun r v1 => fM v1 (fun r' v2 => r = r' ∧ Inv (t + 1) v2)) := by
  refine h1 _ (fun v1 f1 c1 => ?_)
  have m1 : IM v1 A T F V S c P R H := IM_high hM (fun a ha => f1 a (by omega))
  refine h2 v1 _ m1 (fun v2 f2 c2 => ⟨rfl, A, T, F, V, S, c, P, R, H, hA, okT_up hT (by omega), IX_low hA (IX_XF hX f1 c1) (fun a ha => f2.1 a (by omega)), IM_MF m1 f2 c2⟩)
end InvF

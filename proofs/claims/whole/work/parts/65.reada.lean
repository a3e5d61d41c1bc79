/-- one state of a loop leads to another -/
def xG {S R : Type} (body : S → Option (S ⊕ R)) (s s' : S) : Prop := ∀ r, xL body s' = some r → xL body s = some r
theorem xG_rf {S R : Type} {body : S → Option (S ⊕ R)} (s : S) : xG body s s := fun _ h => h
theorem xG_tr {S R : Type} {body : S → Option (S ⊕ R)} {s t u : S} (h1 : xG body s t) (h2 : xG body t u) : xG body s u := fun r h => h1 r (h2 r h)
theorem xG_1 {S R : Type} {body : S → Option (S ⊕ R)} {s t : S} (h : body s = some (.inl t)) : xG body s t := fun _ h2 => xL_l h h2
abbrev rd_S : Type := Int32 × Int32 × Int32 × Int32 × Int32 × Int32 × Int32 × Int32 × Int32 × (Nat → Int32) × Int32
abbrev rd_R : Type := (Int32 × Int32 × Int32 × Int32 × Int32 × Int32 × Int32 × Int32 × Int32 × (Nat → Int32)) ⊕ rd_S
/-- the text as both sides hold it -/
def rd_T (L : Nat) (tb tx : Nat → Int32) : Prop := L ≤ 80 ∧ ∀ i, i < L → tb i = tx i ∧ ∃ b, b < 128 ∧ tx i = nI b
/-- a reading that ends with a fault -/
def rd_F (L : Nat) (R : rd_R) (x : Int32) : Prop := (∃ z1 z2 z3 z4 z5 z6 z7 z8 z9 z10, R = .inr (z1, z2, z3, z4, z5, z6, z7, z8, z9, z10, x)) ∨ (x = nI L ∧ ∃ z1 z2 z3 z4 z5 z6 z7 z8 z9 z10, z3 ≠ (0 : Int32) ∧ R = .inl (z1, z2, z3, z4, z5, z6, z7, z8, z9, z10))
section READA
variable {L : Nat} {tb tx : Nat → Int32}
theorem rd_end (hT : rd_T L tb tx) (z1 z2 z3 z4 z5 z6 z7 z8 z9 : Int32) (z10 : Nat → Int32) : xL (f_X3_read_L1 (nI L) tb) (z1, z2, z3, z4, z5, z6, z7, z8, z9, z10, nI L) = some (.inl (z1, z2, z3, z4, z5, z6, z7, z8, z9, z10)) := xL_r (xb_t (Int32.le_refl _))
theorem rd_at (hT : rd_T L tb tx) {i : Nat} (hi : i < L) : f_X6_at (nI L) tb (nI i) = some (tx i) := by
  have h80 := hT.1
  refine (xb_f (n_lt0 (by omega))).trans ((xb_f (by rw [n_le (by omega) (by omega)]; omega)).trans ((xk_t (vp_in_nI (by omega) (by omega))).trans ?_))
  rw [n_cl (by omega), (hT.2 i hi).1]
theorem rd_nle (hT : rd_T L tb tx) {i : Nat} (hi : i < L) : ¬ nI L ≤ nI i := by
  have h80 := hT.1
  rw [n_le (by omega) (by omega)]; omega
theorem rd_blank (hT : rd_T L tb tx) {i : Nat} (hi : i < L) (hb : tx i = (32 : Int32)) (z1 z2 z3 z4 z5 z6 z7 z8 z9 : Int32) (z10 : Nat → Int32) : xG (f_X3_read_L1 (nI L) tb) (z1, z2, z3, z4, z5, z6, z7, z8, z9, z10, nI i) (z1, z2, z3, z4, z5, z6, z7, z8, z9, z10, nI (i + 1)) := by
  refine xG_1 ((xb_f (rd_nle hT hi)).trans ((xn_s (rd_at hT hi)).trans ((xb_t hb).trans ?_)))
  rw [n_add1]
theorem rd_skip (hT : rd_T L tb tx) (z1 z2 z3 z4 z5 z6 z7 z8 z9 : Int32) (z10 : Nat → Int32) : ∀ (d i : Nat), i + d ≤ L → (∀ k, i ≤ k → k < i + d → tx k = (32 : Int32)) → xG (f_X3_read_L1 (nI L) tb) (z1, z2, z3, z4, z5, z6, z7, z8, z9, z10, nI i) (z1, z2, z3, z4, z5, z6, z7, z8, z9, z10, nI (i + d))
  | 0, i, _, _ => xG_rf _
  | d + 1, i, h, hb => by
    have h2 := rd_skip hT z1 z2 z3 z4 z5 z6 z7 z8 z9 z10 d (i + 1) (by omega) (fun k h1 h2 => hb k (by omega) (by omega))
    rw [show i + 1 + d = i + (d + 1) by omega] at h2
    exact xG_tr (rd_blank hT (by omega) (hb i (by omega) (by omega)) z1 z2 z3 z4 z5 z6 z7 z8 z9 z10) h2
theorem rd_no (hT : rd_T L tb tx) {i : Nat} (hi : i < L) (hb : tx i ≠ (32 : Int32)) {z1 z2 z3 z4 z5 z6 z7 z8 z9 y1 y2 y3 y4 y5 y6 y7 y8 y9 : Int32} {z10 y10 : Nat → Int32} (e : f_X3_takes z1 z2 z3 z4 z5 z6 z7 z8 z9 z10 (tx i) = some (y1, y2, y3, y4, y5, y6, y7, y8, y9, y10, (0 : Int32))) :
    xL (f_X3_read_L1 (nI L) tb) (z1, z2, z3, z4, z5, z6, z7, z8, z9, z10, nI i) = some (.inr (y1, y2, y3, y4, y5, y6, y7, y8, y9, y10, nI i)) :=
  xL_r ((xb_f (rd_nle hT hi)).trans ((xn_s (rd_at hT hi)).trans ((xb_f hb).trans ((xn_s e).trans (xb_t rfl)))))
theorem rd_yes (hT : rd_T L tb tx) {i : Nat} (hi : i < L) (hb : tx i ≠ (32 : Int32)) {z1 z2 z3 z4 z5 z6 z7 z8 z9 y1 y2 y3 y4 y5 y6 y7 y8 y9 : Int32} {z10 y10 : Nat → Int32} (e : f_X3_takes z1 z2 z3 z4 z5 z6 z7 z8 z9 z10 (tx i) = some (y1, y2, y3, y4, y5, y6, y7, y8, y9, y10, (1 : Int32))) :
    xG (f_X3_read_L1 (nI L) tb) (z1, z2, z3, z4, z5, z6, z7, z8, z9, z10, nI i) (y1, y2, y3, y4, y5, y6, y7, y8, y9, y10, nI (i + 1)) := by
  refine xG_1 ((xb_f (rd_nle hT hi)).trans ((xn_s (rd_at hT hi)).trans ((xb_f hb).trans ((xn_s e).trans ((xb_f (by decide)).trans ?_)))))
  rw [n_add1]
theorem rd_hereL (hT : rd_T L tb tx) : ∀ (d i : Nat), i + d = L → ∃ j, i ≤ j ∧ j ≤ L ∧ (∀ k, i ≤ k → k < j → tx k = (32 : Int32)) ∧ (j < L → tx j ≠ (32 : Int32)) ∧ xL (f_X8_here_L1 (nI L) tx) (nI i) = some (nI j)
  | 0, i, h => by
    refine ⟨i, Nat.le_refl _, by omega, fun k h1 h2 => by omega, fun w => by omega, ?_⟩
    rw [show i = L by omega]
    exact xL_r (xb_t (Int32.le_refl _))
  | d + 1, i, h => by
    have h80 := hT.1
    have hvp : vp_in (nI i) 80 := vp_in_nI (by omega) (by omega)
    have hcl : (nI i).toNatClampNeg = i := n_cl (by omega)
    by_cases hb : tx i = (32 : Int32)
    · obtain ⟨j, j1, j2, j3, j4, j5⟩ := rd_hereL hT d (i + 1) (by omega)
      refine ⟨j, by omega, j2, fun k h1 h2 => ?_, j4, xL_l ?_ j5⟩
      · by_cases e : k = i
        · rw [e]; exact hb
        · exact j3 k (by omega) h2
      · refine (xb_f (rd_nle hT (by omega))).trans ((xk_t hvp).trans ((xb_t (by rw [hcl]; exact hb)).trans ?_))
        rw [n_add1]
    · exact ⟨i, Nat.le_refl _, by omega, fun k h1 h2 => by omega, fun _ => hb, xL_r ((xb_f (rd_nle hT (by omega))).trans ((xk_t hvp).trans (xb_f (by rw [hcl]; exact hb))))⟩
/-- the next byte that is no blank, on both sides -/
theorem rd_nx (hT : rd_T L tb tx) {i : Nat} (hi : i ≤ L) : ∃ j, i ≤ j ∧ j ≤ L ∧ (∀ z1 z2 z3 z4 z5 z6 z7 z8 z9 z10, xG (f_X3_read_L1 (nI L) tb) (z1, z2, z3, z4, z5, z6, z7, z8, z9, z10, nI i) (z1, z2, z3, z4, z5, z6, z7, z8, z9, z10, nI j)) ∧ ((j < L ∧ tx j ≠ (32 : Int32) ∧ f_X8_here tx (nI L) (nI i) = some (nI j, tx j)) ∨ (j = L ∧ f_X8_here tx (nI L) (nI i) = some (nI L, (-1 : Int32)))) := by
  have h80 := hT.1
  obtain ⟨j, j1, j2, j3, j4, j5⟩ := rd_hereL hT (L - i) i (by omega)
  refine ⟨j, j1, j2, fun z1 z2 z3 z4 z5 z6 z7 z8 z9 z10 => ?_, ?_⟩
  · have h := rd_skip hT z1 z2 z3 z4 z5 z6 z7 z8 z9 z10 (j - i) i (by omega) (fun k h1 h2 => j3 k h1 (by omega))
    rw [show i + (j - i) = j by omega] at h
    exact h
  · by_cases w : j < L
    · refine Or.inl ⟨w, j4 w, (xn_s j5).trans ((xb_f (rd_nle hT w)).trans ((xk_t (vp_in_nI (by omega) (by omega))).trans ?_))⟩
      rw [n_cl (by omega)]
    · have e : j = L := by omega
      subst e
      exact Or.inr ⟨rfl, (xn_s j5).trans (xb_t (Int32.le_refl _))⟩
theorem rd_m0 (a : Int32) : f_X8_must a (-1 : Int32) (0 : Int32) = some (a, a) := (xb_t rfl).trans (xb_t rfl)
theorem rd_m1 (j : Nat) : f_X8_must (nI j) (-1 : Int32) (1 : Int32) = some (nI (j + 1), (-1 : Int32)) := by
  refine (xb_t rfl).trans ((xb_f (by decide)).trans ?_)
  rw [n_add1]
theorem rd_fne {f : Nat} (hf : f < 2 ^ 31) : ¬ nI f = (-1 : Int32) := fun w => n_lt0 hf (by rw [w]; decide)
theorem rd_mf (a t : Int32) {f : Nat} (hf : f < 2 ^ 31) : f_X8_must a (nI f) t = some (a, nI f) := xb_f (rd_fne hf)
theorem rd_in (v : Int32) {lo hi : Nat} (hlo : lo < 2 ^ 31) (hhi : hi < 2 ^ 31) : (∃ d, lo ≤ d ∧ d ≤ hi ∧ v = nI d ∧ f_X8_in v (nI lo) (nI hi) = some (1 : Int32)) ∨ f_X8_in v (nI lo) (nI hi) = some (0 : Int32) := by
  by_cases h0 : v < 0
  · exact Or.inr (xb_t (Int32.lt_of_lt_of_le h0 (Int32.not_lt.mp (n_lt0 hlo))))
  · obtain ⟨d, hd, rfl⟩ := nI_of h0
    by_cases h1 : d < lo
    · exact Or.inr (xb_t (by rw [n_lt hd hlo]; exact h1))
    · by_cases h2 : hi < d
      · exact Or.inr ((xb_f (by rw [n_lt hd hlo]; exact h1)).trans (xb_t (by rw [n_lt hhi hd]; exact h2)))
      · exact Or.inl ⟨d, by omega, by omega, rfl, (xb_f (by rw [n_lt hd hlo]; exact h1)).trans (xb_f (by rw [n_lt hhi hd]; exact h2))⟩
/-- a figure taken by the class -/
theorem rd_tf {z1 z2 z4 z5 z6 z7 z8 z9 : Int32} {z10 : Nat → Int32} {c y3 y5 y6 y7 r : Int32} (e : f_X3_takesFigure (1 : Int32) z4 z5 z6 z7 z8 (c - (48 : Int32)) = some (y3, y5, y6, y7, r)) (hr : r = 0 ∨ r = 1) : f_X3_takes z1 z2 (1 : Int32) z4 z5 z6 z7 z8 z9 z10 c = some (z1, z2, y3, z4, y5, y6, y7, z8, z9, z10, r) := (xb_f (by decide)).trans ((xb_t rfl).trans ((xn_s e).trans (xk_t hr)))
end READA

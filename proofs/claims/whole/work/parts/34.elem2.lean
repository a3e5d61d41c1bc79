section ET2
variable {N K : Nat} {g : Nat → Nat → Nat}
/-- a's step, then b's, is made of steps, if a's point isn't greater -/
def e_dn (tb : Nat → Nat → Option (Nat → Nat)) (fp fq : Nat → Nat) (a b : Nat) : Prop := ∀ t t', tb (fp a) (fq a) = some t → tb (fp b) (fq b) = some t' → fp a ≤ fp b → gp_S tb 8 (gp_th t t')
theorem e_dn_mono {tb tb' : Nat → Nat → Option (Nat → Nat)} {fp fq fp' fq' : Nat → Nat} {a b : Nat} (hs : ∀ a b t, tb a b = some t → tb' a b = some t) (ha : fp' a = fp a ∧ fq' a = fq a) (hb : fp' b = fp b ∧ fq' b = fq b) (ea : ∃ t, tb (fp a) (fq a) = some t) (eb : ∃ t, tb (fp b) (fq b) = some t) (h : e_dn tb fp fq a b) : e_dn tb' fp' fq' a b := by
  intro t t' h1 h2 h3
  rw [ha.1, ha.2] at h1
  rw [hb.1, hb.2] at h2
  rw [ha.1, hb.1] at h3
  obtain ⟨u, hu⟩ := ea
  obtain ⟨v, hv⟩ := eb
  rw [hs _ _ _ hu] at h1
  rw [hs _ _ _ hv] at h2
  obtain rfl := Option.some.inj h1
  obtain rfl := Option.some.inj h2
  exact gp_S_mono hs 8 _ (h u v hu hv h3)
abbrev eArr : Type := (Nat → Int32) × (Nat → Int32) × (Nat → Int32) × (Nat → Int32) × (Nat → Int32)
theorem e_then (hN : N ≤ 8) (hg : ∀ i, i < K → gp_ok N (g i)) {tb : Nat → Nat → Option (Nat → Nat)} {fp fq : Nat → Nat} {M : Nat} {steps undoing chains found foundAt : Nat → Int32} (h : eT N K g tb fp fq M steps undoing chains found foundAt) {a b : Nat} (ha : a < M) (hb : b < M) : ∃ t t', tb (fp a) (fq a) = some t ∧ tb (fp b) (fq b) = some t' ∧ gp_in K g (gp_th t t') ∧ f_X2_then (found a) (found b) = some (pv (gp_th t t')) ∧ foundAt a = nI (fp a) ∧ foundAt b = nI (fp b) ∧ fp a < 8 ∧ fp b < 8 := by
  obtain ⟨-, t, t1, t2, t3⟩ := h.2.2.2.1 a ha
  obtain ⟨-, u, u1, u2, u3⟩ := h.2.2.2.1 b hb
  obtain ⟨p1, p2, -⟩ := h.1.2 _ _ _ t1
  obtain ⟨q1, q2, -⟩ := h.1.2 _ _ _ u1
  refine ⟨t, u, t1, u1, gp_in_th p2.1 q2.1, ?_, t3, u3, p1, q1⟩
  rw [t2, u2]
  exact mv_then (at_ok hN hg p2).1 (at_ok hN hg q2).1
theorem e_in (hN : N ≤ 8) (hg : ∀ i, i < K → gp_ok N (g i)) {tb : Nat → Nat → Option (Nat → Nat)} {fp fq : Nat → Nat} {M : Nat} {steps undoing chains found foundAt : Nat → Int32} (h : eT N K g tb fp fq M steps undoing chains found foundAt) {a : Nat} (ha : a < M) : ∃ t, tb (fp a) (fq a) = some t := by
  obtain ⟨-, t, t1, -⟩ := h.2.2.2.1 a ha
  exact ⟨t, t1⟩
theorem e_close1 (hN : N ≤ 8) (hg : ∀ i, i < K → gp_ok N (g i)) {tb : Nat → Nat → Option (Nat → Nat)} {fp fq : Nat → Nat} {M : Nat} {steps undoing chains found foundAt : Nat → Int32} (h : eT N K g tb fp fq M steps undoing chains found foundAt) {k : Nat} (hk : k < M) (hd : ∀ a b, a < k → b < k → e_dn tb fp fq a b) :
    ∃ tb' fp' fq' M' steps' undoing' chains' found' foundAt', xL (f_X1_closeSteps_L2 (nI k)) (steps, undoing, chains, found, foundAt, nI M, (0 : Int32)) = some (steps', undoing', chains', found', foundAt', nI M') ∧ eT N K g tb' fp' fq' M' steps' undoing' chains' found' foundAt' ∧ (∀ a b t, tb a b = some t → tb' a b = some t) ∧ M ≤ M' ∧ ∀ a b, a < k + 1 → b < k + 1 → e_dn tb' fp' fq' a b := by
  have hM28 := (e_room hN hg h).1
  let I : Nat → (Nat → Int32) × (Nat → Int32) × (Nat → Int32) × (Nat → Int32) × (Nat → Int32) × Int32 × Int32 → Prop := fun j z => ∃ tb' fp' fq' M' steps' undoing' chains' found' foundAt', z = (steps', undoing', chains', found', foundAt', nI M', nI j) ∧ eT N K g tb' fp' fq' M' steps' undoing' chains' found' foundAt' ∧ (∀ a b t, tb a b = some t → tb' a b = some t) ∧ M ≤ M' ∧ (∀ a b, a < k → b < k → e_dn tb' fp' fq' a b) ∧ ∀ a, a < j → e_dn tb' fp' fq' a k ∧ e_dn tb' fp' fq' k a
  let P : (Nat → Int32) × (Nat → Int32) × (Nat → Int32) × (Nat → Int32) × (Nat → Int32) × Int32 → Prop := fun z => ∃ tb' fp' fq' M' steps' undoing' chains' found' foundAt', z = (steps', undoing', chains', found', foundAt', nI M') ∧ eT N K g tb' fp' fq' M' steps' undoing' chains' found' foundAt' ∧ (∀ a b t, tb a b = some t → tb' a b = some t) ∧ M ≤ M' ∧ ∀ a b, a < k + 1 → b < k + 1 → e_dn tb' fp' fq' a b
  have hh := xL_for (body := f_X1_closeSteps_L2 (nI k)) (P := P) I (k + 1) (fun j z hj hz => Or.inl ?_) (fun z hz => ?_) (k + 1) 0 (Nat.zero_add _) (steps, undoing, chains, found, foundAt, nI M, (0 : Int32)) ⟨tb, fp, fq, M, steps, undoing, chains, found, foundAt, rfl, h, fun _ _ _ w => w, Nat.le_refl _, hd, fun a ha => absurd ha (Nat.not_lt_zero _)⟩
  · obtain ⟨r, h1, tb', fp', fq', M', a1, a2, a3, a4, a5, rfl, h2⟩ := hh
    exact ⟨tb', fp', fq', M', a1, a2, a3, a4, a5, h1, h2⟩
  · obtain ⟨tb1, fp1, fq1, M1, a1, a2, a3, a4, a5, rfl, h1, s1, m1, d1, e1⟩ := hz
    have hM1 := (e_room hN hg h1).1
    have hin1 : ∀ a, a < M1 → ∃ t, tb1 (fp1 a) (fq1 a) = some t := fun a ha => e_in hN hg h1 ha
    -- the first product: j, then k
    obtain ⟨tb2, fp2, fq2, M2, b1, b2, b3, b4, b5, hx2, h2, s2, m2, f2, dn2⟩ : ∃ tb2 fp2 fq2 M2 b1 b2 b3 b4 b5, (xb (a5 k < a5 j) (some (a1, a2, a3, a4, a5, nI M1)) (xn (f_X2_then (a4 j) (a4 k)) (fun (r_33 : Int32) => xn (f_X1_take a1 a2 a3 a4 a5 (nI M1) r_33) (fun (z : (Nat → Int32) × (Nat → Int32) × (Nat → Int32) × (Nat → Int32) × (Nat → Int32) × Int32) => match z with | (e_steps_34, e_undoing_35, e_chains_36, e_found_37, e_foundAt_38, e_foundCount_39) => some (e_steps_34, e_undoing_35, e_chains_36, e_found_37, e_foundAt_38, e_foundCount_39))))) = some (b1, b2, b3, b4, b5, nI M2) ∧ eT N K g tb2 fp2 fq2 M2 b1 b2 b3 b4 b5 ∧ (∀ a b t, tb1 a b = some t → tb2 a b = some t) ∧ M1 ≤ M2 ∧ (∀ i, i < M1 → fp2 i = fp1 i ∧ fq2 i = fq1 i) ∧ e_dn tb2 fp2 fq2 j k := by
      obtain ⟨t, t', t1, t2, t3, t4, t5, t6, t7, t8⟩ := e_then hN hg h1 (a := j) (b := k) (by omega) (by omega)
      by_cases w : fp1 k < fp1 j
      · exact ⟨tb1, fp1, fq1, M1, a1, a2, a3, a4, a5, xb_t (by rw [t5, t6, n_lt (by omega) (by omega)]; exact w), h1, fun _ _ _ z => z, Nat.le_refl _, fun _ _ => ⟨rfl, rfl⟩, fun u u' _ _ z => absurd z (by omega)⟩
      · obtain ⟨tb2, fp2, fq2, M2, b1, b2, b3, b4, b5, g1, g2, g3, g4, g5, g6⟩ := e_take hN hg h1 t3
        refine ⟨tb2, fp2, fq2, M2, b1, b2, b3, b4, b5, (xb_f (by rw [t5, t6, n_lt (by omega) (by omega)]; exact w)).trans ((xn_s t4).trans (xn_s g1)), g2, g3, g4, g5, fun u u' k1 k2 _ => ?_⟩
        rw [(g5 j (by omega)).1, (g5 j (by omega)).2, g3 _ _ _ t1] at k1
        rw [(g5 k (by omega)).1, (g5 k (by omega)).2, g3 _ _ _ t2] at k2
        obtain rfl := Option.some.inj k1
        obtain rfl := Option.some.inj k2
        exact g6
    have hM2 := (e_room hN hg h2).1
    -- the second: k, then j
    obtain ⟨tb3, fp3, fq3, M3, c1, c2, c3, c4, c5, hx3, h3, s3, m3, f3, dn3⟩ : ∃ tb3 fp3 fq3 M3 c1 c2 c3 c4 c5, (xb (b5 j < b5 k) (some (.inl (b1, b2, b3, b4, b5, nI M2, (nI j + (1 : Int32))))) (xn (f_X2_then (b4 k) (b4 j)) (fun (r_40 : Int32) => xn (f_X1_take b1 b2 b3 b4 b5 (nI M2) r_40) (fun (z : (Nat → Int32) × (Nat → Int32) × (Nat → Int32) × (Nat → Int32) × (Nat → Int32) × Int32) => match z with | (e_steps_41, e_undoing_42, e_chains_43, e_found_44, e_foundAt_45, e_foundCount_46) => some (.inl (e_steps_41, e_undoing_42, e_chains_43, e_found_44, e_foundAt_45, e_foundCount_46, (nI j + (1 : Int32))))))) : Option (((Nat → Int32) × (Nat → Int32) × (Nat → Int32) × (Nat → Int32) × (Nat → Int32) × Int32 × Int32) ⊕ ((Nat → Int32) × (Nat → Int32) × (Nat → Int32) × (Nat → Int32) × (Nat → Int32) × Int32))) = some (.inl (c1, c2, c3, c4, c5, nI M3, (nI j + (1 : Int32)))) ∧ eT N K g tb3 fp3 fq3 M3 c1 c2 c3 c4 c5 ∧ (∀ a b t, tb2 a b = some t → tb3 a b = some t) ∧ M2 ≤ M3 ∧ (∀ i, i < M2 → fp3 i = fp2 i ∧ fq3 i = fq2 i) ∧ e_dn tb3 fp3 fq3 k j := by
      obtain ⟨t, t', t1, t2, t3, t4, t5, t6, t7, t8⟩ := e_then hN hg h2 (a := k) (b := j) (by omega) (by omega)
      by_cases w : fp2 j < fp2 k
      · exact ⟨tb2, fp2, fq2, M2, b1, b2, b3, b4, b5, xb_t (by rw [t5, t6, n_lt (by omega) (by omega)]; exact w), h2, fun _ _ _ z => z, Nat.le_refl _, fun _ _ => ⟨rfl, rfl⟩, fun u u' _ _ z => absurd z (by omega)⟩
      · obtain ⟨tb3, fp3, fq3, M3, c1, c2, c3, c4, c5, g1, g2, g3, g4, g5, g6⟩ := e_take hN hg h2 t3
        refine ⟨tb3, fp3, fq3, M3, c1, c2, c3, c4, c5, (xb_f (by rw [t5, t6, n_lt (by omega) (by omega)]; exact w)).trans ((xn_s t4).trans (xn_s g1)), g2, g3, g4, g5, fun u u' k1 k2 _ => ?_⟩
        rw [(g5 k (by omega)).1, (g5 k (by omega)).2, g3 _ _ _ t1] at k1
        rw [(g5 j (by omega)).1, (g5 j (by omega)).2, g3 _ _ _ t2] at k2
        obtain rfl := Option.some.inj k1
        obtain rfl := Option.some.inj k2
        exact g6
    have hin2 : ∀ a, a < M2 → ∃ t, tb2 (fp2 a) (fq2 a) = some t := fun a ha => e_in hN hg h2 ha
    have up12 : ∀ a b, a < M1 → b < M1 → e_dn tb1 fp1 fq1 a b → e_dn tb2 fp2 fq2 a b := fun a b ha hb w => e_dn_mono s2 (f2 a ha) (f2 b hb) (hin1 a ha) (hin1 b hb) w
    have up23 : ∀ a b, a < M2 → b < M2 → e_dn tb2 fp2 fq2 a b → e_dn tb3 fp3 fq3 a b := fun a b ha hb w => e_dn_mono s3 (f3 a ha) (f3 b hb) (hin2 a ha) (hin2 b hb) w
    refine ⟨(c1, c2, c3, c4, c5, nI M3, nI j + (1 : Int32)), ?_, tb3, fp3, fq3, M3, c1, c2, c3, c4, c5, by rw [n_add1], h3, fun a b t w => s3 _ _ _ (s2 _ _ _ (s1 _ _ _ w)), by omega, fun a b ha hb => up23 a b (by omega) (by omega) (up12 a b (by omega) (by omega) (d1 a b ha hb)), fun a ha => ?_⟩
    · refine (xb_f (by rw [n_lt (by omega) (by omega)]; omega)).trans ((xk_t (vp_in_nI (by omega) (by omega))).trans ((xk_t (vp_in_nI (by omega) (by omega))).trans ?_))
      rw [n_cl (by omega), n_cl (by omega)]
      exact (xn_s hx2).trans hx3
    · rcases Nat.lt_or_ge a j with w | w
      · exact ⟨up23 a k (by omega) (by omega) (up12 a k (by omega) (by omega) (e1 a w).1), up23 k a (by omega) (by omega) (up12 k a (by omega) (by omega) (e1 a w).2)⟩
      · rw [show a = j by omega]
        exact ⟨up23 j k (by omega) (by omega) dn2, dn3⟩
  · obtain ⟨tb', fp', fq', M', a1, a2, a3, a4, a5, rfl, h1, s1, m1, d1, e1⟩ := hz
    refine ⟨(a1, a2, a3, a4, a5, nI M'), xb_t (by rw [n_lt (by omega) (by omega)]; omega), tb', fp', fq', M', a1, a2, a3, a4, a5, rfl, h1, s1, m1, fun a b ha hb => ?_⟩
    rcases Nat.lt_or_ge a k with w | w
    · rcases Nat.lt_or_ge b k with v | v
      · exact d1 a b w v
      · rw [show b = k by omega]; exact (e1 a (by omega)).1
    · rw [show a = k by omega]; exact (e1 b hb).2
theorem gp_S_up {tb : Nat → Nat → Option (Nat → Nat)} (h : gp_tb N K g tb) {k : Nat} {s : Nat → Nat} (hs : gp_S tb k s) : gp_S tb (k + 1) s := ⟨7 - k, gp_id, s, h.1 _ (by omega), hs, rfl⟩
theorem gp_S_ups {tb : Nat → Nat → Option (Nat → Nat)} (h : gp_tb N K g tb) {k : Nat} {s : Nat → Nat} (hs : gp_S tb k s) : ∀ d, gp_S tb (k + d) s
  | 0 => hs
  | d + 1 => gp_S_up h (gp_S_ups h hs d)
theorem gp_S_entry {tb : Nat → Nat → Option (Nat → Nat)} (h : gp_tb N K g tb) {p q : Nat} {t : Nat → Nat} (e : tb p q = some t) : gp_S tb 8 t := by
  have hp := (h.2 _ _ _ e).1
  have h1 : gp_S tb (7 - p + 1) t := ⟨q, t, gp_id, by rw [show 7 - (7 - p) = p by omega]; exact e, gp_S_id h _, rfl⟩
  have h2 := gp_S_ups h h1 p
  rw [show 7 - p + 1 + p = 8 by omega] at h2
  exact h2
theorem e_close (hN : N ≤ 8) (hg : ∀ i, i < K → gp_ok N (g i)) {tb : Nat → Nat → Option (Nat → Nat)} {fp fq : Nat → Nat} {M : Nat} {steps undoing chains found foundAt : Nat → Int32} (h : eT N K g tb fp fq M steps undoing chains found foundAt) :
    ∃ tb' fp' fq' M' steps' undoing' chains' found' foundAt', f_X1_closeSteps steps undoing chains found foundAt (nI M) = some (steps', undoing', chains', found', foundAt', nI M') ∧ eT N K g tb' fp' fq' M' steps' undoing' chains' found' foundAt' ∧ (∀ a b t, tb a b = some t → tb' a b = some t) ∧ gp_cl tb' := by
  let I : (Nat → Int32) × (Nat → Int32) × (Nat → Int32) × (Nat → Int32) × (Nat → Int32) × Int32 × Int32 → Prop := fun z => ∃ tb' fp' fq' M' steps' undoing' chains' found' foundAt' k, z = (steps', undoing', chains', found', foundAt', nI M', nI k) ∧ eT N K g tb' fp' fq' M' steps' undoing' chains' found' foundAt' ∧ (∀ a b t, tb a b = some t → tb' a b = some t) ∧ k ≤ M' ∧ ∀ a b, a < k → b < k → e_dn tb' fp' fq' a b
  let P : (Nat → Int32) × (Nat → Int32) × (Nat → Int32) × (Nat → Int32) × (Nat → Int32) × Int32 → Prop := fun z => ∃ tb' fp' fq' M' steps' undoing' chains' found' foundAt', z = (steps', undoing', chains', found', foundAt', nI M') ∧ eT N K g tb' fp' fq' M' steps' undoing' chains' found' foundAt' ∧ (∀ a b t, tb a b = some t → tb' a b = some t) ∧ gp_cl tb'
  have fin : ∀ tb' fp' fq' M' a1 a2 a3 a4 a5, eT N K g tb' fp' fq' M' a1 a2 a3 a4 a5 → (∀ a b, a < M' → b < M' → e_dn tb' fp' fq' a b) → gp_cl tb' := by
    intro tb' fp' fq' M' a1 a2 a3 a4 a5 h1 d1 p q t p' q' t' e e' hpp
    by_cases w : p = q
    · rw [← w, h1.1.1 p (h1.1.2 _ _ _ e).1] at e
      obtain rfl := Option.some.inj e
      exact gp_S_entry h1.1 e'
    · by_cases w' : p' = q'
      · rw [← w', h1.1.1 p' (h1.1.2 _ _ _ e').1] at e'
        obtain rfl := Option.some.inj e'
        exact gp_S_entry h1.1 e
      · obtain ⟨i, i1, i2, i3⟩ := h1.2.2.2.2.2 p q t e w
        obtain ⟨j, j1, j2, j3⟩ := h1.2.2.2.2.2 p' q' t' e' w'
        exact d1 i j i1 j1 t t' (by rw [i2, i3]; exact e) (by rw [j2, j3]; exact e') (by rw [i2, j2]; exact hpp)
  have hh := xL_inv (body := f_X1_closeSteps_L1) (P := P) I (fun z => 28 - z.2.2.2.2.2.2.toNatClampNeg) (fun z hz => ?_) (s := (steps, undoing, chains, found, foundAt, nI M, (0 : Int32))) ⟨tb, fp, fq, M, steps, undoing, chains, found, foundAt, 0, rfl, h, fun _ _ _ w => w, Nat.zero_le _, fun a b ha => absurd ha (Nat.not_lt_zero _)⟩
  · obtain ⟨r, h1, tb', fp', fq', M', a1, a2, a3, a4, a5, rfl, h2⟩ := hh
    exact ⟨tb', fp', fq', M', a1, a2, a3, a4, a5, xn_s h1, h2⟩
  · obtain ⟨tb1, fp1, fq1, M1, a1, a2, a3, a4, a5, k, rfl, h1, s1, hk, d1⟩ := hz
    have hM1 := (e_room hN hg h1).1
    rcases Nat.lt_or_ge k M1 with hlt | hge
    · obtain ⟨tb2, fp2, fq2, M2, b1, b2, b3, b4, b5, g1, g2, g3, g4, g5⟩ := e_close1 hN hg h1 hlt d1
      refine Or.inl ⟨(b1, b2, b3, b4, b5, nI M2, nI k + (1 : Int32)), (xb_f (by rw [n_le (by omega) (by omega)]; omega)).trans ((xb_f (by rw [show (28 : Int32) = nI 28 from rfl, n_le (by omega) (by omega)]; omega)).trans (xn_s g1)), ⟨tb2, fp2, fq2, M2, b1, b2, b3, b4, b5, k + 1, by rw [n_add1], g2, fun a b t w => g3 _ _ _ (s1 _ _ _ w), by omega, g5⟩, ?_⟩
      show 28 - (nI k + (1 : Int32)).toNatClampNeg < 28 - (nI k).toNatClampNeg
      rw [n_add1, n_cl (by omega), n_cl (by omega)]; omega
    · have e : k = M1 := by omega
      subst e
      exact Or.inr ⟨(a1, a2, a3, a4, a5, nI k), xb_t (Int32.le_refl _), tb1, fp1, fq1, k, a1, a2, a3, a4, a5, rfl, h1, s1, fin _ _ _ _ _ _ _ _ _ h1 d1⟩
/-- what the class has of the elements -/
def eOK (N K : Nat) (g : Nat → Nat → Nat) (e_n : Int32) (steps chains leaving : Nat → Int32) : Prop :=
  e_n = nI N ∧ (∀ p, p < 8 → bitsOf (chains p) (ct_ch K g p)) ∧ (∀ p q, p < 8 → ct_ch K g p q → ∃ t, gp_at K g p t ∧ t p = q ∧ steps (8 * p + q) = pv t) ∧ ∀ p, p ≤ 8 → leaving p = nI (ct_lv K g (8 - p))
theorem ct_lv_le (hN : N ≤ 8) (hg : ∀ i, i < K → gp_ok N (g i)) {k : Nat} (hk : k ≤ 8) : ct_lv K g k ≤ 40320 := by
  rw [← ct_lv_ok hN hg k hk gp_id (gp_in_id K g)]
  exact Nat.le_trans (fb_ct_le _ _) (le_fac8 hN)
/-- N and generators as the class has them -/
def cN (N K : Nat) (g : Nat → Nat → Nat) (n_n n_count : Int32) (gens : Nat → Int32) : Prop := 1 ≤ N ∧ N ≤ 8 ∧ K ≤ 3 ∧ n_n = nI N ∧ n_count = nI K ∧ (∀ i, i < K → gp_ok N (g i)) ∧ ∀ i, i < K → gens i = pv (g i)
theorem e_make {n_n n_count : Int32} {gens : Nat → Int32} (hC : cN N K g n_n n_count gens) (e_n : Int32) (steps undoing chains leaving found foundAt : Nat → Int32) (foundCount : Int32) :
    ∃ steps' undoing' chains' leaving' found' foundAt' foundCount', f_X1_make e_n steps undoing chains leaving found foundAt foundCount n_n n_count gens = some (n_n, steps', undoing', chains', leaving', found', foundAt', foundCount') ∧ eOK N K g n_n steps' chains' leaving' := by
  obtain ⟨n1, n8, k3, rfl, rfl, hg, hgs⟩ := hC
  have h1 := xL_up (body := f_X1_make_L1) (fun k => ((fun i => if i % 9 = 0 ∧ i < 9 * k then (16434824 : Int32) else steps i), (fun i => if i < k then ((1 : Int32) <<< (nI i &&& 31)) else chains i), nI k)) 8 (r := ((fun i => if i % 9 = 0 ∧ i < 9 * 8 then (16434824 : Int32) else steps i), (fun i => if i < 8 then ((1 : Int32) <<< (nI i &&& 31)) else chains i))) (fun k hk => ?_) (xb_t (Int32.le_refl _))
  · have e0 : ((fun i => if i % 9 = 0 ∧ i < 9 * 0 then (16434824 : Int32) else steps i), (fun i => if i < 0 then ((1 : Int32) <<< (nI i &&& 31)) else chains i), nI 0) = (steps, chains, (0 : Int32)) := by
      have a : (fun i => if i % 9 = 0 ∧ i < 9 * 0 then (16434824 : Int32) else steps i) = steps := funext fun i => if_neg (by omega)
      have b : (fun i => if i < 0 then ((1 : Int32) <<< (nI i &&& 31)) else chains i) = chains := funext fun i => if_neg (by omega)
      rw [a, b]; rfl
    rw [e0] at h1
    -- the empty table
    have hT0 : eT N K g (fun p q => if p < 8 ∧ q = p then some gp_id else none) (fun _ => 0) (fun _ => 0) 0 (fun i => if i % 9 = 0 ∧ i < 9 * 8 then (16434824 : Int32) else steps i) undoing (fun i => if i < 8 then ((1 : Int32) <<< (nI i &&& 31)) else chains i) found foundAt := by
      have inv : ∀ p q t, (if p < 8 ∧ q = p then some gp_id else none) = some t → p < 8 ∧ q = p ∧ t = gp_id := fun p q t e => by
        by_cases w : p < 8 ∧ q = p
        · rw [if_pos w] at e; exact ⟨w.1, w.2, (Option.some.inj e).symm⟩
        · rw [if_neg w] at e; cases e
      refine ⟨⟨fun p hp => if_pos ⟨hp, rfl⟩, fun p q t e => ?_⟩, fun p hp => ?_, fun p q t e => ?_, fun i hi => absurd hi (Nat.not_lt_zero _), fun i j _ hj => absurd hj (Nat.not_lt_zero _), fun p q t e ne => ?_⟩
      · obtain ⟨a, b, c⟩ := inv p q t e
        rw [c, b]; exact ⟨a, gp_at_id K g p, rfl⟩
      · show bitsOf (if p < 8 then _ else _) _
        rw [if_pos hp]
        have hp2 : 2 ^ p < 2 ^ 8 := Nat.pow_lt_pow_right (by decide) hp
        refine ⟨2 ^ p, by rw [show (1 : Int32) = nI 1 from rfl, n_shl (by omega), Nat.one_mul], hp2, fun q => ?_⟩
        rw [Nat.testBit_two_pow, decide_eq_true_eq]
        exact ⟨fun w => ⟨gp_id, if_pos ⟨hp, w.symm⟩⟩, fun ⟨t, w⟩ => (inv p q t w).2.1.symm⟩
      · obtain ⟨a, b, c⟩ := inv p q t e
        rw [c, b]
        refine ⟨?_, fun w => absurd rfl w⟩
        show (if (8 * p + p) % 9 = 0 ∧ 8 * p + p < 9 * 8 then (16434824 : Int32) else _) = _
        rw [if_pos (by omega), pv_stay]
      · exact absurd (inv p q t e).2.1.symm ne
    let I : Nat → (Nat → Int32) × (Nat → Int32) × (Nat → Int32) × (Nat → Int32) × (Nat → Int32) × Int32 × Int32 → Prop := fun k z => ∃ tb fp fq M a1 a2 a3 a4 a5, z = (a1, a2, a3, a4, a5, nI M, nI k) ∧ eT N K g tb fp fq M a1 a2 a3 a4 a5 ∧ ∀ i, i < k → gp_S tb 8 (g i)
    let P : (Nat → Int32) × (Nat → Int32) × (Nat → Int32) × (Nat → Int32) × (Nat → Int32) × Int32 → Prop := fun z => ∃ tb fp fq M a1 a2 a3 a4 a5, z = (a1, a2, a3, a4, a5, nI M) ∧ eT N K g tb fp fq M a1 a2 a3 a4 a5 ∧ ∀ i, i < K → gp_S tb 8 (g i)
    have h2 := xL_for (body := f_X1_make_L2 (nI K) gens) (P := P) I K (fun k z hk hz => Or.inl ?_) (fun z hz => ?_) K 0 (Nat.zero_add _) ((fun i => if i % 9 = 0 ∧ i < 9 * 8 then (16434824 : Int32) else steps i), undoing, (fun i => if i < 8 then ((1 : Int32) <<< (nI i &&& 31)) else chains i), found, foundAt, (0 : Int32), (0 : Int32)) ⟨_, _, _, 0, _, _, _, _, _, rfl, hT0, fun i hi => absurd hi (Nat.not_lt_zero _)⟩
    · obtain ⟨r, h3, tb, fp, fq, M, a1, a2, a3, a4, a5, rfl, h4, h5⟩ := h2
      obtain ⟨tb', fp', fq', M', b1, b2, b3, b4, b5, g1, g2, g3, g4⟩ := e_close n8 hg h4
      have hgen : ∀ i, i < K → gp_S tb' 8 (g i) := fun i hi => gp_S_mono g3 8 _ (h5 i hi)
      have hch : ∀ p, p < 8 → bitsOf (b3 p) (ct_ch K g p) := fun p hp => bitsOf_cong (g2.2.1 p hp) (fun q => (gp_chain g2.1 g4 hgen hp).symm)
      have h6 := xL_dn (body := f_X1_make_L3 b3) (fun k => ((fun i => if k ≤ i ∧ i ≤ 8 then nI (ct_lv K g (8 - i)) else leaving i), n_left k)) (r := (fun i => if 0 ≤ i ∧ i ≤ 8 then nI (ct_lv K g (8 - i)) else leaving i)) (xb_t n_left_lt) 8 (fun k hk => ?_)
      · have e6 : ((fun i => if 8 ≤ i ∧ i ≤ 8 then nI (ct_lv K g (8 - i)) else leaving i), n_left 8) = (upd leaving 8 (1 : Int32), (7 : Int32)) := by
          have a : upd leaving 8 (1 : Int32) = (fun i => if 8 ≤ i ∧ i ≤ 8 then nI (ct_lv K g (8 - i)) else leaving i) := up_fun (by
            show (if 8 ≤ 8 ∧ 8 ≤ 8 then nI (ct_lv K g (8 - 8)) else _) = _
            rw [if_pos (by omega)]; rfl) (fun i hi => if_neg (by omega))
          rw [a, n_left_s]; rfl
        rw [e6] at h6
        refine ⟨b1, b2, b3, _, b4, b5, nI M', (xn_s h1).trans ((xn_s h3).trans ((xn_s g1).trans (xn_s h6))), rfl, hch, fun p q hp hq => ?_, fun p hp => if_pos ⟨by omega, hp⟩⟩
        obtain ⟨t, ht⟩ := (gp_chain g2.1 g4 hgen hp).mp hq
        exact ⟨t, (g2.1.2 _ _ _ ht).2.1, (g2.1.2 _ _ _ ht).2.2, (g2.2.2.1 _ _ _ ht).1⟩
      · have hbc := bc_bits (hch k hk)
        refine (xb_f (n_left_nlt (by omega))).trans ?_
        rw [n_left_s, n_add1]
        refine (xk_t (vp_in_nI (by omega) (by omega))).trans ((xk_t (vp_in_nI (by omega) (by omega))).trans ?_)
        rw [n_cl (by omega), n_cl (by omega)]
        refine (xn_s hbc).trans ((xk_t (vp_in_nI (by omega) (by omega))).trans ?_)
        have e7 : (fun i => if k + 1 ≤ i ∧ i ≤ 8 then nI (ct_lv K g (8 - i)) else leaving i) (k + 1) = nI (ct_lv K g (8 - (k + 1))) := if_pos ⟨Nat.le_refl _, by omega⟩
        rw [e7, n_mul]
        have e8 : upd (fun i => if k + 1 ≤ i ∧ i ≤ 8 then nI (ct_lv K g (8 - i)) else leaving i) k (nI (ct_lv K g (8 - (k + 1)) * fb_ct (fun q => ct_b (ct_ch K g k q)) 8)) = (fun i => if k ≤ i ∧ i ≤ 8 then nI (ct_lv K g (8 - i)) else leaving i) := up_fun (by
          show (if k ≤ k ∧ k ≤ 8 then _ else _) = _
          rw [if_pos ⟨Nat.le_refl _, by omega⟩, show 8 - k = (8 - (k + 1)) + 1 by omega, ct_lv, show 7 - (8 - (k + 1)) = k by omega]
          rfl) (fun i hi => by
          show (if k ≤ i ∧ i ≤ 8 then _ else _) = (if k + 1 ≤ i ∧ i ≤ 8 then _ else _)
          by_cases z : k + 1 ≤ i ∧ i ≤ 8
          · rw [if_pos z, if_pos (by omega)]
          · rw [if_neg z, if_neg (by omega)])
        rw [e8]; rfl
    · obtain ⟨tb, fp, fq, M, a1, a2, a3, a4, a5, rfl, h4, h5⟩ := hz
      obtain ⟨tb', fp', fq', M', b1, b2, b3, b4, b5, g1, g2, g3, g4, g5, g6⟩ := e_take n8 hg h4 (gp_in_gen g hk)
      have hgen : f_X4_generator (nI K) gens (nI k) = some (pv (g k)) := by
        refine (xb_f (nI_pos (by omega))).trans ((xb_f (by rw [n_le (by omega) (by omega)]; omega)).trans ((xk_t (vp_in_nI (by omega) (by omega))).trans ?_))
        rw [n_cl (by omega), hgs k hk]
      refine ⟨(b1, b2, b3, b4, b5, nI M', nI k + (1 : Int32)), (xb_f (by rw [n_le (by omega) (by omega)]; omega)).trans ((xn_s hgen).trans (xn_s g1)), tb', fp', fq', M', b1, b2, b3, b4, b5, by rw [n_add1], g2, fun i hi => ?_⟩
      rcases Nat.lt_or_ge i k with w | w
      · exact gp_S_mono g3 8 _ (h5 i w)
      · rw [show i = k by omega]; exact g6
    · obtain ⟨tb, fp, fq, M, a1, a2, a3, a4, a5, rfl, h4, h5⟩ := hz
      exact ⟨(a1, a2, a3, a4, a5, nI M), xb_t (Int32.le_refl _), tb, fp, fq, M, a1, a2, a3, a4, a5, rfl, h4, h5⟩
  · refine (xb_f (by rw [show (8 : Int32) = nI 8 from rfl, n_le (by omega) (by omega)]; omega)).trans ((xk_t (vp_in_nI (by omega) (by omega))).trans ?_)
    rw [n_mul8]
    refine (xk_t (vp_in_nI (by omega) (by omega))).trans ?_
    rw [n_cl (by omega), n_cl (by omega), n_add1]
    have e1 : upd (fun i => if i % 9 = 0 ∧ i < 9 * k then (16434824 : Int32) else steps i) (8 * k + k) (16434824 : Int32) = (fun i => if i % 9 = 0 ∧ i < 9 * (k + 1) then (16434824 : Int32) else steps i) := up_fun (if_pos (by omega)) (fun i hi => by
      show (if i % 9 = 0 ∧ i < 9 * (k + 1) then _ else _) = (if i % 9 = 0 ∧ i < 9 * k then _ else _)
      by_cases z : i % 9 = 0 ∧ i < 9 * k
      · rw [if_pos z, if_pos (by omega)]
      · rw [if_neg z, if_neg (by omega)])
    have e2 : upd (fun i => if i < k then ((1 : Int32) <<< (nI i &&& 31)) else chains i) k ((1 : Int32) <<< (nI k &&& 31)) = (fun i => if i < k + 1 then ((1 : Int32) <<< (nI i &&& 31)) else chains i) := up_fun (if_pos (by omega)) (fun i hi => by
      show (if i < k + 1 then _ else _) = (if i < k then _ else _)
      by_cases z : i < k
      · rw [if_pos z, if_pos (by omega)]
      · rw [if_neg z, if_neg (by omega)])
    rw [e1, e2]
end ET2

-- the reference: all elements are marked, and laid in a row
def mN (N K : Nat) (g : Nat → Nat → Nat) (now : Nat → Int32) : Prop := 1 ≤ N ∧ N ≤ 8 ∧ K ≤ 3 ∧ now 0 = nI N ∧ now 1 = nI K ∧ (∀ i, i < K → gp_ok N (g i)) ∧ ∀ i, i < K → now (2 + i) = nI (cd_n (g i) N)
noncomputable def gam (N K : Nat) (g : Nat → Nat → Nat) (j : Nat) : Bool := ct_b (j < le_fac N ∧ gp_in K g (pm_mv N j))
theorem gam_iff {N K : Nat} {g : Nat → Nat → Nat} {j : Nat} : gam N K g j = true ↔ j < le_fac N ∧ gp_in K g (pm_mv N j) := ct_bt
theorem gam_ct {N K : Nat} {g : Nat → Nat → Nat} (hN : N ≤ 8) : fb_ct (gam N K g) 40320 = ct_n N (gp_in K g) := by
  have h8 := le_fac8 hN
  rw [show 40320 = le_fac N + (40320 - le_fac N) by omega, fb_ct_split]
  have h0 : fb_ct (fun k => gam N K g (le_fac N + k)) (40320 - le_fac N) = 0 := fb_ct_zero.mpr (fun k _ => ct_bf.mpr (fun w => by have := w.1; omega))
  rw [h0, Nat.add_zero]
  refine fb_ct_cong (fun k hk => ?_)
  rcases Classical.em (gp_in K g (pm_mv N k)) with w | w
  · rw [ct_bt.mpr w]; exact gam_iff.mpr ⟨hk, w⟩
  · rw [ct_bf.mpr w]; exact ct_bf.mpr (fun z => w z.2)
def b01 (b : Bool) : Int32 := if b then 1 else 0
theorem b01_0 {b : Bool} : b01 b = 0 ↔ b = false := by cases b <;> decide
/-- marks: m of them, as they came -/
def mB (N K : Nat) (g : Nat → Nat → Nat) (m : Nat) (isMade made : Nat → Int32) (mk : Nat → Bool) (md : Nat → Nat) : Prop :=
  fb_ct mk 40320 = m ∧ (∀ j, j < 40320 → isMade j = b01 (mk j)) ∧ (∀ i, i < m → made i = nI (md i) ∧ md i < 40320 ∧ mk (md i) = true) ∧ ∀ j, j < 40320 → mk j = true → j < le_fac N ∧ gp_in K g (pm_mv N j) ∧ ∃ i, i < m ∧ md i = j
theorem mB_mark {N K : Nat} {g : Nat → Nat → Nat} {m : Nat} {isMade made : Nat → Int32} {mk : Nat → Bool} {md : Nat → Nat} (hN : N ≤ 8) (h : mB N K g m isMade made mk md) {j : Nat} (hj : j < le_fac N) (hg : gp_in K g (pm_mv N j)) :
    ∃ m' isMade' made' mk' md', f_X8_mark (nI m) isMade made (nI j) = some (nI m', isMade', made') ∧ mB N K g m' isMade' made' mk' md' ∧ mk' j = true ∧ (∀ i, mk i = true → mk' i = true) ∧ m ≤ m' ∧ ∀ i, i < m → md' i = md i := by
  have h8 := le_fac8 hN
  obtain ⟨h1, h2, h3, h4⟩ := h
  have hm : m ≤ 40320 := by rw [← h1]; exact fb_ct_le _ _
  have hU : f_X8_mark (nI m) isMade made (nI j) = xb (b01 (mk j) = 0) (xk (vp_in (nI m) 40320) (some (nI m + (1 : Int32), upd isMade j (1 : Int32), upd made (nI m).toNatClampNeg (nI j)))) (some (nI m, isMade, made)) := by
    refine (xk_t (vp_in_nI (by omega) (by omega))).trans ?_
    rw [n_cl (by omega), h2 j (by omega)]
  cases hmk : mk j with
  | true =>
    refine ⟨m, isMade, made, mk, md, ?_, ⟨h1, h2, h3, h4⟩, hmk, fun _ z => z, Nat.le_refl _, fun _ _ => rfl⟩
    rw [hU, hmk]
    exact xb_f (by decide)
  | false =>
    have hlt : m < 40320 := by
      rcases Nat.lt_or_ge m 40320 with w | w
      · exact w
      · have : fb_ct mk 40320 = 40320 := by omega
        have := fb_ct_all.mp this j (by omega)
        rw [hmk] at this; cases this
    refine ⟨m + 1, upd isMade j (1 : Int32), upd made m (nI j), fun k => if k = j then true else mk k, fun i => if i = m then j else md i, ?_, ⟨?_, fun k hk => ?_, fun i hi => ?_, fun k hk hk2 => ?_⟩, if_pos rfl, fun i hi => ?_, by omega, fun i hi => if_neg (by omega)⟩
    · rw [hU, hmk]
      refine (xb_t (by decide)).trans ((xk_t (vp_in_nI hlt (by omega))).trans ?_)
      rw [n_cl (by omega), n_add1]
    · have := fb_ct_upd mk true (i := j) (n := 40320) (by omega)
      rw [h1, hmk] at this
      simpa using this
    · by_cases e : k = j
      · rw [e, up_s]; show _ = b01 (if j = j then true else mk j); rw [if_pos rfl]; rfl
      · rw [up_n e, h2 k hk]; show _ = b01 (if k = j then true else mk k); rw [if_neg e]
    · show upd made m (nI j) i = nI (if i = m then j else md i) ∧ (if i = m then j else md i) < 40320 ∧ (if (if i = m then j else md i) = j then true else mk (if i = m then j else md i)) = true
      by_cases e : i = m
      · rw [if_pos e, e, up_s]; exact ⟨rfl, by omega, if_pos rfl⟩
      · rw [if_neg e, up_n e]
        obtain ⟨a, b, c⟩ := h3 i (by omega)
        refine ⟨a, b, ?_⟩
        by_cases z : md i = j
        · exact if_pos z
        · rw [if_neg z]; exact c
    · by_cases e : k = j
      · subst e
        exact ⟨hj, hg, m, by omega, if_pos rfl⟩
      · have hk2 : (if k = j then true else mk k) = true := hk2
        rw [if_neg e] at hk2
        obtain ⟨a, b, i, c, d⟩ := h4 k hk hk2
        exact ⟨a, b, i, by omega, by show (if i = m then j else md i) = k; rw [if_neg (by omega)]; exact d⟩
    · show (if i = j then true else mk i) = true
      by_cases e : i = j
      · exact if_pos e
      · rw [if_neg e]; exact hi
/-- by generator a, the element of the i-th mark goes on to a mark -/
def mDone (N : Nat) (g : Nat → Nat → Nat) (mk : Nat → Bool) (md : Nat → Nat) (i a : Nat) : Prop := mk (pm_pl N (gp_th (pm_mv N (md i)) (g a))) = true
/-- images of the generators -/
def mI (N K : Nat) (g : Nat → Nat → Nat) (images : Nat → Int32) : Prop := ∀ a p, a < K → p < N → images (8 * a + p) = nI (g a p)
theorem n_mul8 (a b : Nat) : ((8 : Int32) * nI a) + nI b = nI (8 * a + b) := by rw [show (8 : Int32) = nI 8 from rfl, n_mul, n_addn]
theorem lay_figs {N K : Nat} {g : Nat → Nat → Nat} {now images figs : Nat → Int32} (hM : mN N K g now) (hI : mI N K g images) {s : Nat → Nat} (hs : gp_ok N s) (hf : figOf N figs s) {a : Nat} (ha : a < K) : ∃ figs', xL (f_X8_lay_L6 now (nI a) images) (figs, (0 : Int32)) = some figs' ∧ figOf N figs' (gp_th s (g a)) := by
  obtain ⟨n1, n8, k3, w0, w1, -, -⟩ := hM
  have h := xL_up (body := f_X8_lay_L6 now (nI a) images) (fun k => ((fun i => if i < k then nI (g a (s i)) else figs i), nI k)) N (r := (fun i => if i < N then nI (g a (s i)) else figs i)) (fun k hk => ?_) ?_
  · refine ⟨(fun i => if i < N then nI (g a (s i)) else figs i), ?_, fun p hp => if_pos hp⟩
    have e0 : ((fun i => if i < 0 then nI (g a (s i)) else figs i), nI 0) = (figs, (0 : Int32)) := by
      have : (fun i => if i < 0 then nI (g a (s i)) else figs i) = figs := funext fun i => if_neg (Nat.not_lt_zero _)
      rw [this]; rfl
    rw [e0] at h
    exact h
  · have hsk := hs.1 k hk
    have hk0 : (fun i => if i < k then nI (g a (s i)) else figs i) k = nI (s k) := by
      show (if k < k then _ else _) = _
      rw [if_neg (Nat.lt_irrefl _), hf k hk]
    refine (xb_f (by rw [w0, n_le (by omega) (by omega)]; omega)).trans ((xk_t (vp_in_nI (by omega) (by omega))).trans ?_)
    rw [n_cl (by omega)]
    rw [hk0, n_mul8]
    refine (xk_t (vp_in_nI (by omega) (by omega))).trans ?_
    rw [n_cl (by omega), hI a (s k) ha hsk, n_add1]
    have e : upd (fun i => if i < k then nI (g a (s i)) else figs i) k (nI (g a (s k))) = (fun i => if i < k + 1 then nI (g a (s i)) else figs i) := up_fun (if_pos (by omega)) (fun i hi => by
      show (if i < k + 1 then _ else _) = (if i < k then _ else _)
      by_cases z : i < k
      · rw [if_pos z, if_pos (by omega)]
      · rw [if_neg z, if_neg (by omega)])
    rw [e]
  · exact xb_t (by rw [w0]; exact Int32.le_refl _)
theorem lay_gens {N K : Nat} {g : Nat → Nat → Nat} {now images : Nat → Int32} (hM : mN N K g now) (hI : mI N K g images) {k m : Nat} {figs isMade made : Nat → Int32} {mk : Nat → Bool} {md : Nat → Nat} (hB : mB N K g m isMade made mk md) (hk : k < m) :
    ∃ figs' m' isMade' made' mk' md', xL (f_X8_lay_L5 now (nI k) images) (figs, nI m, isMade, made, (0 : Int32)) = some (figs', nI m', isMade', made') ∧ mB N K g m' isMade' made' mk' md' ∧ (∀ i, mk i = true → mk' i = true) ∧ m ≤ m' ∧ (∀ i, i < m → md' i = md i) ∧ ∀ a, a < K → mDone N g mk' md' k a := by
  have hM' := hM
  obtain ⟨n1, n8, k3, w0, w1, hg, -⟩ := hM
  have h8 := le_fac8 n8
  let I : Nat → (Nat → Int32) × Int32 × (Nat → Int32) × (Nat → Int32) × Int32 → Prop := fun a z => ∃ figs' m' isMade' made' mk' md', z = (figs', nI m', isMade', made', nI a) ∧ mB N K g m' isMade' made' mk' md' ∧ (∀ i, mk i = true → mk' i = true) ∧ m ≤ m' ∧ (∀ i, i < m → md' i = md i) ∧ ∀ b, b < a → mDone N g mk' md' k b
  let P : (Nat → Int32) × Int32 × (Nat → Int32) × (Nat → Int32) → Prop := fun z => ∃ figs' m' isMade' made' mk' md', z = (figs', nI m', isMade', made') ∧ mB N K g m' isMade' made' mk' md' ∧ (∀ i, mk i = true → mk' i = true) ∧ m ≤ m' ∧ (∀ i, i < m → md' i = md i) ∧ ∀ b, b < K → mDone N g mk' md' k b
  have hh := xL_for (body := f_X8_lay_L5 now (nI k) images) (P := P) I K (fun a z ha hz => Or.inl ?_) (fun z hz => ?_) K 0 (by omega) (figs, nI m, isMade, made, (0 : Int32)) ⟨figs, m, isMade, made, mk, md, rfl, hB, fun _ z => z, Nat.le_refl _, fun _ _ => rfl, fun b hb => absurd hb (Nat.not_lt_zero _)⟩
  · obtain ⟨r, h1, figs', m', isMade', made', mk', md', rfl, h2⟩ := hh
    exact ⟨figs', m', isMade', made', mk', md', h1, h2⟩
  · obtain ⟨figs', m', isMade', made', mk', md', rfl, hB', hmono, hmm, hmd, hdone⟩ := hz
    have hm' : m' ≤ 40320 := by rw [← hB'.1]; exact fb_ct_le _ _
    obtain ⟨e1, e2, e3⟩ := hB'.2.2.1 k (by omega)
    obtain ⟨f1, f2, -⟩ := hB'.2.2.2 (md' k) e2 e3
    obtain ⟨fg, hc1, hc2⟩ := mo_codeAt (now := now) (figs := figs') n1 n8 w0 (j := md' k) (by omega)
    obtain ⟨fg2, hl1, hl2⟩ := lay_figs hM' hI (pm_mv_ok N (md' k)) hc2 ha
    have ok2 : gp_ok N (gp_th (pm_mv N (md' k)) (g a)) := gp_ok_th (pm_mv_ok N _) (hg a ha)
    have hp := mo_place n8 w0 ok2 hl2
    obtain ⟨m2, i2, d2, mk2, md2, g1, g2, g3, g4, g5, g6⟩ := mB_mark n8 hB' (j := pm_pl N (gp_th (pm_mv N (md' k)) (g a))) (pm_pl_lt ok2) (by rw [pm_mv_pl ok2]; exact gp_in_th f2 (gp_in_gen g ha))
    refine ⟨(fg2, nI m2, i2, d2, nI a + (1 : Int32)), ?_, fg2, m2, i2, d2, mk2, md2, by rw [n_add1], g2, fun i hi => g4 i (hmono i hi), by omega, fun i hi => by rw [g6 i (by omega), hmd i hi], fun b hb => ?_⟩
    · refine (xb_f (by rw [w1, n_le (by omega) (by omega)]; omega)).trans ((xk_t (vp_in_nI (by omega) (by omega))).trans ?_)
      rw [n_cl (by omega), e1]
      exact (xn_s hc1).trans ((xn_s hl1).trans ((xn_s hp).trans (xn_s g1)))
    · unfold mDone
      rw [g6 k (by omega)]
      rcases Nat.lt_or_ge b a with z | z
      · exact g4 _ (hdone b z)
      · rw [show b = a by omega]; exact g3
  · obtain ⟨figs', m', isMade', made', mk', md', rfl, h2⟩ := hz
    exact ⟨(figs', nI m', isMade', made'), xb_t (by rw [w1]; exact Int32.le_refl _), figs', m', isMade', made', mk', md', rfl, h2⟩
theorem lay_all {N K : Nat} {g : Nat → Nat → Nat} {now images : Nat → Int32} (hM : mN N K g now) (hI : mI N K g images) {figs isMade made : Nat → Int32} {mk : Nat → Bool} {md : Nat → Nat} {m : Nat} (hB : mB N K g m isMade made mk md) (h0 : mk 0 = true) :
    ∃ figs' isMade' made', xL (f_X8_lay_L4 now images) (figs, nI m, isMade, made, (0 : Int32)) = some (figs', nI (ct_n N (gp_in K g)), isMade', made') ∧ ∀ j, j < 40320 → isMade' j = b01 (gam N K g j) := by
  have hM' := hM
  obtain ⟨n1, n8, k3, w0, w1, hg, -⟩ := hM
  have h8 := le_fac8 n8
  let I : (Nat → Int32) × Int32 × (Nat → Int32) × (Nat → Int32) × Int32 → Prop := fun z => ∃ figs' m' isMade' made' mk' md' k, z = (figs', nI m', isMade', made', nI k) ∧ mB N K g m' isMade' made' mk' md' ∧ mk' 0 = true ∧ k ≤ m' ∧ ∀ i, i < k → ∀ a, a < K → mDone N g mk' md' i a
  let P : (Nat → Int32) × Int32 × (Nat → Int32) × (Nat → Int32) → Prop := fun z => ∃ figs' isMade' made', z = (figs', nI (ct_n N (gp_in K g)), isMade', made') ∧ ∀ j, j < 40320 → isMade' j = b01 (gam N K g j)
  have hh := xL_inv (body := f_X8_lay_L4 now images) (P := P) I (fun z => 40320 - z.2.2.2.2.toNatClampNeg) (fun z hz => ?_) (s := (figs, nI m, isMade, made, (0 : Int32))) ⟨figs, m, isMade, made, mk, md, 0, rfl, hB, h0, Nat.zero_le _, fun i hi => absurd hi (Nat.not_lt_zero _)⟩
  · obtain ⟨r, h1, f', i', d', rfl, h2⟩ := hh
    exact ⟨f', i', d', h1, h2⟩
  · obtain ⟨figs', m', isMade', made', mk', md', k, rfl, hB', h0', hk, hdone⟩ := hz
    have hm' : m' ≤ 40320 := by rw [← hB'.1]; exact fb_ct_le _ _
    rcases Nat.lt_or_ge k m' with hlt | hge
    · obtain ⟨fg, m2, i2, d2, mk2, md2, g1, g2, g3, g4, g5, g6⟩ := lay_gens hM' hI (figs := figs') hB' hlt
      refine Or.inl ⟨(fg, nI m2, i2, d2, nI k + (1 : Int32)), (xb_f (by rw [n_le (by omega) (by omega)]; omega)).trans (xn_s g1), ⟨fg, m2, i2, d2, mk2, md2, k + 1, by rw [n_add1], g2, g3 0 h0', by omega, fun i hi a ha => ?_⟩, ?_⟩
      · rcases Nat.lt_or_ge i k with z | z
        · have := hdone i z a ha
          unfold mDone at this ⊢
          rw [g5 i (by omega)]
          exact g3 _ this
        · rw [show i = k by omega]; exact g6 a ha
      · show 40320 - (nI k + (1 : Int32)).toNatClampNeg < 40320 - (nI k).toNatClampNeg
        rw [n_add1, n_cl (by omega), n_cl (by omega)]; omega
    · have hkm : k = m' := by omega
      subst hkm
      have hall : ∀ s, gp_in K g s → gp_ok N s ∧ mk' (pm_pl N s) = true := fun s hs => gp_in_ind (P := fun s => gp_ok N s ∧ mk' (pm_pl N s) = true) ⟨gp_ok_id N, by rw [pm_id]; exact h0'⟩ (fun s hs a ha => by
        have ok := gp_ok_th hs.1 (hg a ha)
        refine ⟨ok, ?_⟩
        obtain ⟨-, -, i, hi, e⟩ := hB'.2.2.2 (pm_pl N s) (by have := pm_pl_lt hs.1; omega) hs.2
        have := hdone i hi a ha
        unfold mDone at this
        rw [e, pm_mv_pl hs.1] at this
        exact this) hs
      have hgam : ∀ j, j < 40320 → mk' j = gam N K g j := fun j hj => by
        cases hmk : mk' j with
        | true => exact (gam_iff.mpr ⟨(hB'.2.2.2 j hj hmk).1, (hB'.2.2.2 j hj hmk).2.1⟩).symm
        | false =>
          symm
          refine ct_bf.mpr (fun w => ?_)
          have := (hall _ w.2).2
          rw [pm_pl_mv w.1, hmk] at this
          cases this
      have hct : k = ct_n N (gp_in K g) := by rw [← gam_ct n8, ← hB'.1]; exact fb_ct_cong hgam
      refine Or.inr ⟨(figs', nI k, isMade', made'), xb_t (Int32.le_refl _), figs', isMade', made', by rw [← hct], fun j hj => by rw [hB'.2.1 j hj, hgam j hj]⟩

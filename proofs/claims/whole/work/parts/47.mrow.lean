theorem n_div2 {c : Nat} (h : c < 2 ^ 31) : nI c / (2 : Int32) = nI (c / 2) := pk_div (d := 2) h (by decide) (by decide)
section ROW
variable {N K : Nat} {g : Nat → Nat → Nat} {now : Nat → Int32}
theorem gam_rk (hN : N ≤ 8) (hg : ∀ i, i < K → gp_ok N (g i)) {s : Nat → Nat} (hs : gp_in K g s) : fb_ct (gam N K g) (pm_pl N s) = rk_s K g s N := by
  have ok := gp_in_ok hg hs
  have hl := pm_pl_lt ok
  rw [← rk_ok hN hg hs, ← rk_places hg ok]
  refine fb_ct_cong (fun k hk => ?_)
  rcases Classical.em (gp_in K g (pm_mv N k)) with w | w
  · rw [ct_bt.mpr w]; exact gam_iff.mpr ⟨by omega, w⟩
  · rw [ct_bf.mpr w]; exact ct_bf.mpr (fun z => w z.2)
theorem row_lt (hN : N ≤ 8) (hg : ∀ i, i < K → gp_ok N (g i)) {made : Nat → Int32} (h : mRow N K g made) {s : Nat → Nat} (hs : gp_in K g s) {i : Nat} (hi : i < ct_n N (gp_in K g)) : (nI (pm_pl N s) ≤ made i) ↔ fb_ct (gam N K g) (pm_pl N s) ≤ i := by
  have ok := gp_in_ok hg hs
  have hl := pm_pl_lt ok
  have h8 := le_fac8 hN
  obtain ⟨j, j1, j2, j3, j4, j5⟩ := mRow_at hN h hi
  rw [j2, n_le (by omega) (by omega)]
  constructor
  · intro w
    rw [← j4]; exact fb_ct_mono _ w
  · intro w
    rcases Nat.lt_or_ge j (pm_pl N s) with y | y
    · have h2 := fb_ct_mono (gam N K g) (m := j + 1) (n := pm_pl N s) y
      rw [fb_ct_succ, gam_iff.mpr ⟨j5, j3⟩] at h2
      simp only [if_true] at h2
      omega
    · exact y
theorem m_search (hN : N ≤ 8) (hg : ∀ i, i < K → gp_ok N (g i)) {made : Nat → Int32} (h : mRow N K g made) {s : Nat → Nat} (hs : gp_in K g s) : ∀ (d lo hi : Nat), hi - lo ≤ d → lo ≤ fb_ct (gam N K g) (pm_pl N s) → fb_ct (gam N K g) (pm_pl N s) ≤ hi → hi < ct_n N (gp_in K g) → xL (f_X8_number_L1 (nI (pm_pl N s)) made) (nI lo, nI hi) = some (nI (fb_ct (gam N K g) (pm_pl N s)))
  | d, lo, hi, hd, h1, h2, h3 => by
    have h4 := ct_le40 (K := K) (g := g) hN
    by_cases e : hi ≤ lo
    · have : lo = fb_ct (gam N K g) (pm_pl N s) := by omega
      refine xL_r ((xb_t (by rw [n_le (by omega) (by omega)]; exact e)).trans ?_)
      rw [this]
    · have hm : (nI lo + nI hi) / (2 : Int32) = nI ((lo + hi) / 2) := by
        rw [n_addn]
        exact n_div2 (by omega)
      have hb : f_X8_number_L1 (nI (pm_pl N s)) made (nI lo, nI hi) = xb (nI (pm_pl N s) ≤ made ((lo + hi) / 2)) (some (.inl (nI lo, nI ((lo + hi) / 2)))) (some (.inl (nI ((lo + hi) / 2) + (1 : Int32), nI hi))) := by
        refine (xb_f (by rw [n_le (by omega) (by omega)]; exact e)).trans ?_
        rw [hm]
        refine (xk_t (vp_in_nI (by omega) (by omega))).trans ?_
        rw [n_cl (by omega)]
      have hr := row_lt hN hg h hs (i := (lo + hi) / 2) (by omega)
      match d with
      | 0 => omega
      | d + 1 =>
        by_cases w : nI (pm_pl N s) ≤ made ((lo + hi) / 2)
        · exact xL_l (hb.trans (xb_t w)) (m_search hN hg h hs d lo ((lo + hi) / 2) (by omega) h1 (hr.mp w) (by omega))
        · have h5 : ¬ fb_ct (gam N K g) (pm_pl N s) ≤ (lo + hi) / 2 := fun z => w (hr.mpr z)
          refine xL_l (hb.trans (xb_f w)) ?_
          rw [n_add1]
          exact m_search hN hg h hs d ((lo + hi) / 2 + 1) hi (by omega) (by omega) h2 h3
/-- the least carrier -/
def lst (N K : Nat) (g : Nat → Nat → Nat) (a t : Nat) (b : Nat → Nat) : Prop := gp_in K g b ∧ im b a = t ∧ ∀ s, gp_in K g s → im s a = t → ¬ pm_lx N s b
theorem lst_one (hg : ∀ i, i < K → gp_ok N (g i)) {a t : Nat} {b c : Nat → Nat} (hb : lst N K g a t b) (hc : lst N K g a t c) : b = c := by
  have ob := gp_in_ok hg hb.1
  have oc := gp_in_ok hg hc.1
  have h1 := hb.2.2 c hc.1 hc.2.1
  have h2 := hc.2.2 b hb.1 hb.2.1
  rw [← pm_pl_lx oc ob] at h1
  rw [← pm_pl_lx ob oc] at h2
  exact pm_pl_inj ob oc (by omega)
theorem m_carrier_row (hM : mN N K g now) {made : Nat → Int32} (h : mRow N K g made) {a t : Nat} (ha : a < 2 ^ N) (ht : t < 2 ^ N) (figs refused : Nat → Int32) (isLaid : Int32) (isMade images orbits chains : Nat → Int32) :
    ∃ figs' : Nat → Int32, ((¬ orb K g a t) ∧ xL (f_X8_carrier_L1 (nI (ct_n N (gp_in K g))) now made (nI a) (nI t) refused isLaid isMade images orbits chains) (figs, (0 : Int32)) = some (.inl figs')) ∨ ∃ b, lst N K g a t b ∧ xL (f_X8_carrier_L1 (nI (ct_n N (gp_in K g))) now made (nI a) (nI t) refused isLaid isMade images orbits chains) (figs, (0 : Int32)) = some (.inr (refused, figs', isLaid, nI (ct_n N (gp_in K g)), isMade, made, images, orbits, chains, nI (cd_n b N))) := by
  have hM' := hM
  obtain ⟨n1, n8, k3, w0, w1, hg, hgs⟩ := hM'
  have hp := p2_8 n8
  have h4 := ct_le40 (K := K) (g := g) n8
  let I : Nat → (Nat → Int32) × Int32 → Prop := fun k z => ∃ f, z = (f, nI k) ∧ ∀ s, gp_in K g s → fb_ct (gam N K g) (pm_pl N s) < k → im s a ≠ t
  let P : ((Nat → Int32)) ⊕ ((Nat → Int32) × (Nat → Int32) × Int32 × Int32 × (Nat → Int32) × (Nat → Int32) × (Nat → Int32) × (Nat → Int32) × (Nat → Int32) × Int32) → Prop := fun x => ∃ f, (¬ orb K g a t ∧ x = .inl f) ∨ ∃ b, lst N K g a t b ∧ x = .inr (refused, f, isLaid, nI (ct_n N (gp_in K g)), isMade, made, images, orbits, chains, nI (cd_n b N))
  have hh := xL_for (body := f_X8_carrier_L1 (nI (ct_n N (gp_in K g))) now made (nI a) (nI t) refused isLaid isMade images orbits chains) (P := P) I (ct_n N (gp_in K g)) (fun k z hk hz => ?_) (fun z hz => ?_) (ct_n N (gp_in K g)) 0 (Nat.zero_add _) (figs, (0 : Int32)) ⟨figs, rfl, fun s _ h => absurd h (Nat.not_lt_zero _)⟩
  · obtain ⟨x, x1, f, x2⟩ := hh
    refine ⟨f, ?_⟩
    rcases x2 with ⟨y1, rfl⟩ | ⟨b, y1, rfl⟩
    · exact Or.inl ⟨y1, x1⟩
    · exact Or.inr ⟨b, y1, x1⟩
  · obtain ⟨f, rfl, hf⟩ := hz
    obtain ⟨j, j1, j2, j3, j4, j5⟩ := mRow_at n8 h hk
    obtain ⟨f2, e1, hf2⟩ := mo_codeAt (now := now) (figs := f) n1 n8 w0 (j := j) (by omega)
    have ok := pm_mv_ok N j
    have e2 := m_imageOf (now := now) n8 w0 ok hf2 ha
    have hlt := im_ltN n8 ok ha
    have hd : f_X8_carrier_L1 (nI (ct_n N (gp_in K g))) now made (nI a) (nI t) refused isLaid isMade images orbits chains (f, nI k) = xb (nI (im (pm_mv N j) a) = nI t) (some (.inr (.inr (refused, f2, isLaid, nI (ct_n N (gp_in K g)), isMade, made, images, orbits, chains, nI (cd_n (pm_mv N j) N))))) (some (.inl (f2, nI k + (1 : Int32)))) := by
      refine (xb_f (by rw [n_le (by omega) (by omega)]; omega)).trans ((xk_t (vp_in_nI (by omega) (by omega))).trans ?_)
      rw [n_cl (by omega), j2]
      exact (xn_s e1).trans ((xn_s e2).trans rfl)
    by_cases w : im (pm_mv N j) a = t
    · refine Or.inr ⟨_, hd.trans (xb_t (by rw [w])), f2, Or.inr ⟨pm_mv N j, ⟨j3, w, fun s s1 s2 s3 => ?_⟩, rfl⟩⟩
      have os := gp_in_ok hg s1
      rw [← pm_pl_lx os ok, pm_pl_mv j5] at s3
      refine hf s s1 ?_ s2
      have h2 := fb_ct_mono (gam N K g) (m := pm_pl N s + 1) (n := j) s3
      rw [fb_ct_succ, gam_iff.mpr ⟨pm_pl_lt os, by rw [pm_mv_pl os]; exact s1⟩] at h2
      simp only [if_true] at h2
      omega
    · refine Or.inl ⟨_, hd.trans (xb_f (by rw [n_ieq (by omega) (by omega)]; exact w)), f2, by rw [n_add1], fun s s1 s2 => ?_⟩
      rcases Nat.lt_or_ge (fb_ct (gam N K g) (pm_pl N s)) k with y | y
      · exact hf s s1 y
      · have os := gp_in_ok hg s1
        have : pm_pl N s = j := fb_ct_kth_one (p := gam N K g) (gam_iff.mpr ⟨pm_pl_lt os, by rw [pm_mv_pl os]; exact s1⟩) (gam_iff.mpr ⟨j5, j3⟩) (by omega)
        rw [← pm_mv_pl os, this]; exact w
  · obtain ⟨f, rfl, hf⟩ := hz
    refine ⟨.inl f, xb_t (Int32.le_refl _), f, Or.inl ⟨?_, rfl⟩⟩
    rintro ⟨s, s1, s2⟩
    obtain ⟨i, i1, i2, i3⟩ := mRow_of n8 hg h s1
    exact hf s s1 (by omega) s2
end ROW

theorem set_both {N : Nat} {now : Nat → Int32} (hN : N ≤ 8) (hw : now 0 = nI N) (v : Int32) : (∃ a, a < 2 ^ N ∧ v = nI a ∧ f_X7_isSet (nI N) v = some (1 : Int32) ∧ f_X8_isSet now v = some (1 : Int32)) ∨ (f_X7_isSet (nI N) v = some (0 : Int32) ∧ f_X8_isSet now v = some (0 : Int32)) := by
  have p256 := p2_8 hN
  have e1 : (1 : Int32) <<< (nI N &&& 31) = nI (2 ^ N) := by
    rw [show (1 : Int32) = nI 1 from rfl, n_shl (by omega), Nat.one_mul]
  rcases m_isSet hN hw v with ⟨a, ha, rfl, e⟩ | ⟨h, e⟩
  · refine Or.inl ⟨a, ha, rfl, (xb_f (n_lt0 (by omega))).trans (xb_f ?_), e⟩
    rw [e1, n_le (by omega) (by omega)]; omega
  · refine Or.inr ⟨?_, e⟩
    by_cases h0 : v < 0
    · exact xb_t h0
    · obtain ⟨a, ha, rfl⟩ := nI_of h0
      refine (xb_f h0).trans (xb_t ?_)
      rw [e1, n_le (by omega) ha]
      exact Nat.le_of_not_lt (fun w => h a w rfl)
theorem tp_ok {N K : Nat} {g : Nat → Nat → Nat} (hN : N ≤ 8) (hg : ∀ i, i < K → gp_ok N (g i)) {e_n : Int32} {steps chains leaving : Nat → Int32} {k_n : Int32} {io st fi : Nat → Int32} (hF : engF N K g e_n steps chains leaving k_n io st fi) {now figs isMade made images orbits mch : Nat → Int32} {isLaid many : Int32} {f1 f3 f4 f5 f6 f7 : Nat → Int32} {f2 : Int32}
    (em : f_X8_lay now figs isLaid many isMade made images orbits mch = some (f1, 1, f2, f3, f4, f5, f6, f7)) (hL : mLaid N K g f2 f3 f4 f6 f7) {p w : Nat} (hp : p < N) (hw : w ≤ 2) :
    ∃ r, f_X7_tellPoint chains k_n fi (nI p) (nI w) = some r ∧ f_X8_ofPoint now figs isLaid many isMade made images orbits mch (nI p) (nI w) = some (f1, 1, f2, f3, f4, f5, f6, f7, r) := by
  obtain ⟨hE, rfl, hA, hFi⟩ := hF
  have hO := hL.2.2.2 p hp
  have hvp : vp_in (nI p) 8 := vp_in_nI (by omega) (by omega)
  have hcl : (nI p).toNatClampNeg = p := n_cl (by omega)
  match w, hw with
  | 0, _ =>
    obtain ⟨r, e, hr⟩ := c_orbit hN hg hFi hp
    refine ⟨r, (xb_t rfl).trans ((xn_s e).trans rfl), (xn_s em).trans ((xb_t rfl).trans ((xk_t hvp).trans ?_))⟩
    rw [hcl, bitsOf_one hO.1 hr]
  | 1, _ =>
    have e := c_chain hE (p := p) (by omega)
    refine ⟨chains p, (xb_f (by decide)).trans ((xb_t rfl).trans ((xn_s e).trans rfl)), (xn_s em).trans ((xb_f (by decide)).trans ((xb_t rfl).trans ((xk_t hvp).trans ?_)))⟩
    rw [hcl, bitsOf_one hO.2 (hE.2.1 p (by omega))]
  | 2, _ =>
    obtain ⟨q, e, hq, h1, h2⟩ := c_leastPoint hN hg hFi hp
    have el : f_X8_lowest (f6 (nI p).toNatClampNeg) = some (nI q) := by rw [hcl]; exact m_lowest hO.1 (by omega) h1 h2
    exact ⟨nI q, (xb_f (by decide)).trans ((xb_f (by decide)).trans ((xn_s e).trans rfl)), (xn_s em).trans ((xb_f (by decide)).trans ((xb_f (by decide)).trans ((xk_t hvp).trans ((xn_s el).trans rfl))))⟩
  | n + 3, h => omega
theorem r_of : xS_of xRel := by
  rintro ⟨⟨c_fits, c_refusedBad, c_refusedNo, c_refusedFull⟩, ⟨n_n, n_count, n_generators⟩, ⟨z_count, z_ra, z_rb, z_rn, z_rc, z_rg⟩, ⟨t_length, t_bytes⟩, ⟨r_done, r_stopped, r_due, r_letter, r_value, r_figures, r_seen⟩, ⟨rt_n, rt_count, rt_generators⟩, ⟨e_n, e_steps, e_undoing, e_chains, e_leaving, e_found, e_foundAt, e_foundCount⟩, ⟨k_n, k_inOrder, k_starts, k_firsts, k_reached, k_reachedAt, k_reachedCount⟩⟩ ⟨m_now, m_held, m_past, m_pasts, m_refused, m_figures, m_isLaid, m_many, m_isMade, m_made, m_images, m_orbits, m_chains, m_isCarried, m_carried, m_carriedMany, m_isSorted, m_leasts, m_heads, m_headFrom, m_text, m_typed, m_at, m_fault, m_orders, m_pointsThen, m_letters, m_numbers, m_h⟩ v1 v2 ⟨N, K, g, hC, hM, hE, hL, hS, hR, hP, hT⟩
  have n8 := hM.2.1
  have n1 := hM.1
  have hg := hM.2.2.2.2.2.1
  have p256 := p2_8 n8
  have hn : n_n = nI N := hC.2.2.2.1
  have hm0 : m_now 0 = nI N := hM.2.2.2.1
  obtain ⟨b1, b2, b3, b4, e1, e2, h3⟩ := rf_2 hR
  have hm1 : m_now 0 - (1 : Int32) = nI (N - 1) := by rw [hm0, n_sub1 n1]
  by_cases h0 : v1 < 0
  · have hin : f_X8_in v1 (0 : Int32) (m_now 0 - (1 : Int32)) = some (0 : Int32) := xb_t h0
    exact ⟨_, _, (xb_t h0).trans ((xn_s e1).trans rfl), (xn_s hin).trans ((xb_t rfl).trans ((xn_s e2).trans rfl)), rfl, N, K, g, hC, hM, hE, hL, hS, h3, hP, hT⟩
  · obtain ⟨p, hp31, rfl⟩ := nI_of h0
    by_cases hp : p < N
    · have hin : f_X8_in (nI p) (0 : Int32) (m_now 0 - (1 : Int32)) = some (1 : Int32) := (xb_f h0).trans (xb_f (by rw [hm1, n_lt (by omega) hp31]; omega))
      have hnp : ¬ n_n ≤ nI p := by rw [hn, n_le (by omega) hp31]; omega
      by_cases h2 : v2 < 0
      · have hin2 : f_X8_in v2 (0 : Int32) (2 : Int32) = some (0 : Int32) := xb_t h2
        exact ⟨_, _, (xb_f h0).trans ((xb_f hnp).trans ((xb_t h2).trans ((xn_s e1).trans rfl))), (xn_s hin).trans ((xb_f (by decide)).trans ((xn_s hin2).trans ((xb_t rfl).trans ((xn_s e2).trans rfl)))), rfl, N, K, g, hC, hM, hE, hL, hS, h3, hP, hT⟩
      · by_cases h4 : v2 ≤ (2 : Int32)
        · obtain ⟨w, hw31, rfl⟩ := nI_of h2
          have hw : w ≤ 2 := by rw [show (2 : Int32) = nI 2 from rfl, n_le hw31 (by omega)] at h4; exact h4
          have hin2 : f_X8_in (nI w) (0 : Int32) (2 : Int32) = some (1 : Int32) := (xb_f h2).trans (xb_f (by rw [show (2 : Int32) = nI 2 from rfl, n_lt (by omega) hw31]; omega))
          obtain ⟨d1, d2, d3, d4, d5, d6, d7, d8, d9, d10, d11, d12, d13, d14, d15, ec, hF, hK⟩ := c_fit (undoing := e_undoing) (found := e_found) (foundAt := e_foundAt) (foundCount := e_foundCount) hC hE
          obtain ⟨f1, f2, f3, f4, f5, f6, f7, em, hLd⟩ := m_lay (figs := m_figures) (images := m_images) hM hL
          obtain ⟨r, et, eo⟩ := tp_ok n8 hg hF em hLd hp hw
          exact ⟨_, _, (xb_f h0).trans ((xb_f hnp).trans ((xb_f h2).trans ((xb_t h4).trans ((xn_s ec).trans ((xn_s et).trans rfl))))), (xn_s hin).trans ((xb_f (by decide)).trans ((xn_s hin2).trans ((xb_f (by decide)).trans ((xn_s eo).trans rfl)))), rfl, N, K, g, hC, hM, engF_eng n1 n8 hF hK, Or.inr ⟨rfl, hLd⟩, hS, hR, hP, hT⟩
        · have hin2 : f_X8_in v2 (0 : Int32) (2 : Int32) = some (0 : Int32) := (xb_f h2).trans (xb_t (Int32.not_le.mp h4))
          exact ⟨_, _, (xb_f h0).trans ((xb_f hnp).trans ((xb_f h2).trans ((xb_f h4).trans ((xn_s e1).trans rfl)))), (xn_s hin).trans ((xb_f (by decide)).trans ((xn_s hin2).trans ((xb_t rfl).trans ((xn_s e2).trans rfl)))), rfl, N, K, g, hC, hM, hE, hL, hS, h3, hP, hT⟩
    · have hin : f_X8_in (nI p) (0 : Int32) (m_now 0 - (1 : Int32)) = some (0 : Int32) := (xb_f h0).trans (xb_t (by rw [hm1, n_lt (by omega) hp31]; omega))
      have hnp : n_n ≤ nI p := by rw [hn, n_le (by omega) hp31]; omega
      exact ⟨_, _, (xb_f h0).trans ((xb_t hnp).trans ((xn_s e1).trans rfl)), (xn_s hin).trans ((xb_t rfl).trans ((xn_s e2).trans rfl)), rfl, N, K, g, hC, hM, hE, hL, hS, h3, hP, hT⟩
theorem r_number : xS_number xRel := by
  rintro ⟨⟨c_fits, c_refusedBad, c_refusedNo, c_refusedFull⟩, ⟨n_n, n_count, n_generators⟩, ⟨z_count, z_ra, z_rb, z_rn, z_rc, z_rg⟩, ⟨t_length, t_bytes⟩, ⟨r_done, r_stopped, r_due, r_letter, r_value, r_figures, r_seen⟩, ⟨rt_n, rt_count, rt_generators⟩, ⟨e_n, e_steps, e_undoing, e_chains, e_leaving, e_found, e_foundAt, e_foundCount⟩, ⟨k_n, k_inOrder, k_starts, k_firsts, k_reached, k_reachedAt, k_reachedCount⟩⟩ ⟨m_now, m_held, m_past, m_pasts, m_refused, m_figures, m_isLaid, m_many, m_isMade, m_made, m_images, m_orbits, m_chains, m_isCarried, m_carried, m_carriedMany, m_isSorted, m_leasts, m_heads, m_headFrom, m_text, m_typed, m_at, m_fault, m_orders, m_pointsThen, m_letters, m_numbers, m_h⟩ v1 ⟨N, K, g, hC, hM, hE, hL, hS, hR, hP, hT⟩
  have n8 := hM.2.1
  have n1 := hM.1
  have hg := hM.2.2.2.2.2.1
  have p256 := p2_8 n8
  have hn : n_n = nI N := hC.2.2.2.1
  have hm0 : m_now 0 = nI N := hM.2.2.2.1
  obtain ⟨b1, b2, b3, b4, e1, e2, h3⟩ := rf_2 hR
  subst hn
  obtain ⟨figs, r, ei, hr⟩ := mo_isMove (now := m_now) (figs := m_figures) n8 hm0 v1
  rcases hr with ⟨s, hs, rfl⟩ | ⟨hs, rfl⟩
  · have er : f_X2_read v1 (nI N) = some (pv s) := rd_s n1 n8 hs
    have hne : pv s ≠ (-1 : Int32) := pv_ne (gp_ok_8 n8 hs.1).1
    obtain ⟨d1, d2, d3, d4, d5, d6, d7, d8, d9, d10, d11, d12, d13, d14, d15, ec, hF, hK⟩ := c_fit (undoing := e_undoing) (found := e_found) (foundAt := e_foundAt) (foundCount := e_foundCount) hC hE
    obtain ⟨f1, f2, f3, f4, f5, f6, f7, em, hLd⟩ := m_lay (figs := figs) (images := m_images) hM hL
    obtain ⟨r, ek, hk⟩ := c_rank n8 hg hF.1 hs.1
    obtain ⟨figs', eo, ho⟩ := mo_open_mv (figs := f1) n8 hm0 hs
    have ep := mo_place n8 hm0 hs.1 ho
    have hpf := pm_pl_lt hs.1
    have hpl : pm_pl N s < 40320 := Nat.lt_of_lt_of_le hpf (le_fac8 n8)
    have hvp : vp_in (nI (pm_pl N s)) 40320 := vp_in_nI hpl (by omega)
    have hmd : f3 (nI (pm_pl N s)).toNatClampNeg = b01 (gam N K g (pm_pl N s)) := by rw [n_cl (by omega)]; exact hLd.2.1 _ hpl
    rcases hk with ⟨hin, rfl⟩ | ⟨hin, rfl⟩
    · have hgm : gam N K g (pm_pl N s) = true := gam_iff.mpr ⟨hpf, by rw [pm_mv_pl hs.1]; exact hin⟩
      have hm : ¬ f3 (nI (pm_pl N s)).toNatClampNeg = 0 := by rw [hmd, b01_0, hgm]; decide
      obtain ⟨i, i1, i2, i3⟩ := mRow_of n8 hg hLd.2.2.1 hin
      have c40 := ct_le40 (K := K) (g := g) n8
      have hf2 : f2 - (1 : Int32) = nI (ct_n N (gp_in K g) - 1) := by rw [hLd.1, n_sub1 (by omega)]
      have es : xL (f_X8_number_L1 (nI (pm_pl N s)) f4) ((0 : Int32), f2 - (1 : Int32)) = some (nI (fb_ct (gam N K g) (pm_pl N s))) := by
        rw [hf2]
        exact m_search n8 hg hLd.2.2.1 hin (ct_n N (gp_in K g)) 0 (ct_n N (gp_in K g) - 1) (by omega) (by omega) (by omega) (by omega)
      refine ⟨_, _, (xn_s er).trans ((xb_f hne).trans ((xn_s ec).trans ((xn_s ek).trans rfl))), (xn_s ei).trans ((xb_f (by decide)).trans ((xn_s em).trans ((xn_s eo).trans ((xn_s ep).trans ((xk_t hvp).trans ((xb_f hm).trans ((xn_s es).trans rfl))))))), ?_, N, K, g, hC, hM, engF_eng n1 n8 hF hK, Or.inr ⟨rfl, hLd⟩, hS, hR, hP, hT⟩
      show nI (rk_s K g s N) = nI (fb_ct (gam N K g) (pm_pl N s))
      rw [gam_rk n8 hg hin]
    · have hgm : gam N K g (pm_pl N s) = false := by
        cases q : gam N K g (pm_pl N s) with
        | false => rfl
        | true => exact absurd (by have := (gam_iff.mp q).2; rw [pm_mv_pl hs.1] at this; exact this) hin
      have hm : f3 (nI (pm_pl N s)).toNatClampNeg = 0 := by rw [hmd, hgm]; rfl
      exact ⟨_, _, (xn_s er).trans ((xb_f hne).trans ((xn_s ec).trans ((xn_s ek).trans rfl))), (xn_s ei).trans ((xb_f (by decide)).trans ((xn_s em).trans ((xn_s eo).trans ((xn_s ep).trans ((xk_t hvp).trans ((xb_t hm).trans rfl)))))), rfl, N, K, g, hC, hM, engF_eng n1 n8 hF hK, Or.inr ⟨rfl, hLd⟩, hS, hR, hP, hT⟩
  · have er : f_X2_read v1 (nI N) = some (-1 : Int32) := rd_n n1 n8 hs
    exact ⟨_, _, (xn_s er).trans ((xb_t rfl).trans ((xn_s e1).trans rfl)), (xn_s ei).trans ((xb_t rfl).trans ((xn_s e2).trans rfl)), rfl, N, K, g, hC, hM, hE, hL, hS, h3, hP, hT⟩
theorem r_element : xS_element xRel := by
  rintro ⟨⟨c_fits, c_refusedBad, c_refusedNo, c_refusedFull⟩, ⟨n_n, n_count, n_generators⟩, ⟨z_count, z_ra, z_rb, z_rn, z_rc, z_rg⟩, ⟨t_length, t_bytes⟩, ⟨r_done, r_stopped, r_due, r_letter, r_value, r_figures, r_seen⟩, ⟨rt_n, rt_count, rt_generators⟩, ⟨e_n, e_steps, e_undoing, e_chains, e_leaving, e_found, e_foundAt, e_foundCount⟩, ⟨k_n, k_inOrder, k_starts, k_firsts, k_reached, k_reachedAt, k_reachedCount⟩⟩ ⟨m_now, m_held, m_past, m_pasts, m_refused, m_figures, m_isLaid, m_many, m_isMade, m_made, m_images, m_orbits, m_chains, m_isCarried, m_carried, m_carriedMany, m_isSorted, m_leasts, m_heads, m_headFrom, m_text, m_typed, m_at, m_fault, m_orders, m_pointsThen, m_letters, m_numbers, m_h⟩ v1 ⟨N, K, g, hC, hM, hE, hL, hS, hR, hP, hT⟩
  have n8 := hM.2.1
  have n1 := hM.1
  have hg := hM.2.2.2.2.2.1
  have p256 := p2_8 n8
  have hn : n_n = nI N := hC.2.2.2.1
  have hm0 : m_now 0 = nI N := hM.2.2.2.1
  obtain ⟨b1, b2, b3, b4, e1, e2, h3⟩ := rf_2 hR
  subst hn
  by_cases h0 : v1 < 0
  · have h0' : ¬ (0 : Int32) ≤ v1 := Int32.not_le.mpr h0
    exact ⟨_, _, (xb_f h0').trans ((xn_s e1).trans rfl), (xb_f h0').trans ((xn_s e2).trans rfl), rfl, N, K, g, hC, hM, hE, hL, hS, h3, hP, hT⟩
  · have h0' : (0 : Int32) ≤ v1 := Int32.not_lt.mp h0
    obtain ⟨j, hj, rfl⟩ := nI_of h0
    obtain ⟨d1, d2, d3, d4, d5, d6, d7, d8, d9, d10, d11, d12, d13, d14, d15, ec, hF, hK⟩ := c_fit (undoing := e_undoing) (found := e_found) (foundAt := e_foundAt) (foundCount := e_foundCount) hC hE
    obtain ⟨f1, f2, f3, f4, f5, f6, f7, em, hLd⟩ := m_lay (figs := m_figures) (images := m_images) hM hL
    have hlv : d5 0 = nI (ct_lv K g 8) := hF.1.2.2.2 0 (by omega)
    have hmn : f2 = nI (ct_lv K g 8) := by rw [hLd.1, ct_order n8 hg]
    have l40 := ct_lv_le n8 hg (k := 8) (Nat.le_refl _)
    have ehm : f_X1_howMany d5 = some (nI (ct_lv K g 8)) := by rw [← hlv]; rfl
    by_cases hlt : j < ct_lv K g 8
    · obtain ⟨t, et, ht, hrk⟩ := c_withRank n8 hg hF.1 hlt
      have ok := gp_in_ok hg ht
      have ew := mv_write (gp_ok_8 n8 ok).1 n8
      obtain ⟨i, i1, i2, i3⟩ := mRow_of n8 hg hLd.2.2.1 ht
      have hij : i = j := by rw [i3, gam_rk n8 hg ht, hrk]
      subst hij
      have hpf := Nat.lt_of_lt_of_le (pm_pl_lt ok) (le_fac8 n8)
      obtain ⟨figs', ecd, hfg⟩ := mo_codeAt (figs := f1) n1 n8 hm0 (j := pm_pl N t) (by omega)
      have ecd' : f_X8_codeAt m_now f1 (f4 (nI i).toNatClampNeg) = some (figs', nI (cd_n t N)) := by
        rw [n_cl (by omega), i2, ecd, pm_mv_pl ok]
      have hmn' : ¬ f2 ≤ nI i := by rw [hmn, n_le (by omega) (by omega)]; omega
      exact ⟨_, _, (xb_t h0').trans ((xn_s ec).trans ((xn_s ehm).trans ((xb_t (by rw [n_lt (by omega) (by omega)]; exact hlt)).trans ((xn_s et).trans ((xn_s ew).trans rfl))))), (xb_t h0').trans ((xn_s em).trans ((xb_f hmn').trans ((xk_t (vp_in_nI (by omega) (by omega))).trans ((xn_s ecd').trans rfl)))), rfl, N, K, g, hC, hM, engF_eng n1 n8 hF hK, Or.inr ⟨rfl, hLd⟩, hS, hR, hP, hT⟩
    · obtain ⟨a1, a2, a3, a4, q1, q2, q3⟩ := rf_3 hR
      have hmn' : f2 ≤ nI j := by rw [hmn, n_le (by omega) (by omega)]; omega
      exact ⟨_, _, (xb_t h0').trans ((xn_s ec).trans ((xn_s ehm).trans ((xb_f (by rw [n_lt (by omega) (by omega)]; exact hlt)).trans ((xn_s q1).trans rfl)))), (xb_t h0').trans ((xn_s em).trans ((xb_t hmn').trans ((xn_s q2).trans rfl))), rfl, N, K, g, hC, hM, engF_eng n1 n8 hF hK, Or.inr ⟨rfl, hLd⟩, hS, q3, hP, hT⟩

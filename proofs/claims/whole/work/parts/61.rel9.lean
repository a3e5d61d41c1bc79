theorem m1_or {v : Int32} (hv : (-1 : Int32) ≤ v) (e1 : v ≠ (-1 : Int32)) : ¬ v < 0 := fun w => e1 (Int32.toInt_inj.mp (by
  have h1 := Int32.le_iff_toInt_le.mp hv
  have h2 := Int32.lt_iff_toInt_lt.mp w
  rw [n_m1] at h1 ⊢
  rw [show (0 : Int32).toInt = 0 by decide +kernel] at h2
  omega))
theorem r_image : xS_image xRel := by
  rintro ⟨⟨c_fits, c_refusedBad, c_refusedNo, c_refusedFull⟩, ⟨n_n, n_count, n_generators⟩, ⟨z_count, z_ra, z_rb, z_rn, z_rc, z_rg⟩, ⟨t_length, t_bytes⟩, ⟨r_done, r_stopped, r_due, r_letter, r_value, r_figures, r_seen⟩, ⟨rt_n, rt_count, rt_generators⟩, ⟨e_n, e_steps, e_undoing, e_chains, e_leaving, e_found, e_foundAt, e_foundCount⟩, ⟨k_n, k_inOrder, k_starts, k_firsts, k_reached, k_reachedAt, k_reachedCount⟩⟩ ⟨m_now, m_held, m_past, m_pasts, m_refused, m_figures, m_isLaid, m_many, m_isMade, m_made, m_images, m_orbits, m_chains, m_isCarried, m_carried, m_carriedMany, m_isSorted, m_leasts, m_heads, m_headFrom, m_text, m_typed, m_at, m_fault, m_orders, m_pointsThen, m_letters, m_numbers, m_h⟩ v1 v2 ⟨N, K, g, hC, hM, hE, hL, hS, hR, hP, hT⟩
  have n8 := hM.2.1
  have n1 := hM.1
  have hg := hM.2.2.2.2.2.1
  have p256 := p2_8 n8
  have hn : n_n = nI N := hC.2.2.2.1
  have hm0 : m_now 0 = nI N := hM.2.2.2.1
  obtain ⟨b1, b2, b3, b4, e1, e2, h3⟩ := rf_2 hR
  subst hn
  rcases set_both n8 hm0 v1 with ⟨a, ha, rfl, s1, s2⟩ | ⟨s1, s2⟩
  · obtain ⟨figs, r, ei, hr⟩ := mo_isMove (now := m_now) (figs := m_figures) n8 hm0 v2
    rcases hr with ⟨s, hs, rfl⟩ | ⟨hs, rfl⟩
    · have er : f_X2_read v2 (nI N) = some (pv s) := rd_s n1 n8 hs
      have hne : pv s ≠ (-1 : Int32) := pv_ne (gp_ok_8 n8 hs.1).1
      have ek := mv_carry (gp_ok_8 n8 hs.1).1 (a := a) (by omega)
      obtain ⟨figs', eo, ho⟩ := mo_open_mv (figs := figs) n8 hm0 hs
      have em := m_imageOf n8 hm0 hs.1 ho ha
      exact ⟨_, _, (xn_s er).trans ((xn_s s1).trans ((xb_f (by decide)).trans ((xb_f hne).trans ((xn_s ek).trans rfl)))), (xn_s s2).trans ((xb_f (by decide)).trans ((xn_s ei).trans ((xb_f (by decide)).trans ((xn_s eo).trans ((xn_s em).trans rfl))))), rfl, N, K, g, hC, hM, hE, hL, hS, hR, hP, hT⟩
    · have er : f_X2_read v2 (nI N) = some (-1 : Int32) := rd_n n1 n8 hs
      exact ⟨_, _, (xn_s er).trans ((xn_s s1).trans ((xb_f (by decide)).trans ((xb_t rfl).trans ((xn_s e1).trans rfl)))), (xn_s s2).trans ((xb_f (by decide)).trans ((xn_s ei).trans ((xb_t rfl).trans ((xn_s e2).trans rfl)))), rfl, N, K, g, hC, hM, hE, hL, hS, h3, hP, hT⟩
  · obtain ⟨r, er, -⟩ := f_read n1 n8 v2
    exact ⟨_, _, (xn_s er).trans ((xn_s s1).trans ((xb_t rfl).trans ((xn_s e1).trans rfl))), (xn_s s2).trans ((xb_t rfl).trans ((xn_s e2).trans rfl)), rfl, N, K, g, hC, hM, hE, hL, hS, h3, hP, hT⟩
theorem r_least : xS_least xRel := by
  rintro ⟨⟨c_fits, c_refusedBad, c_refusedNo, c_refusedFull⟩, ⟨n_n, n_count, n_generators⟩, ⟨z_count, z_ra, z_rb, z_rn, z_rc, z_rg⟩, ⟨t_length, t_bytes⟩, ⟨r_done, r_stopped, r_due, r_letter, r_value, r_figures, r_seen⟩, ⟨rt_n, rt_count, rt_generators⟩, ⟨e_n, e_steps, e_undoing, e_chains, e_leaving, e_found, e_foundAt, e_foundCount⟩, ⟨k_n, k_inOrder, k_starts, k_firsts, k_reached, k_reachedAt, k_reachedCount⟩⟩ ⟨m_now, m_held, m_past, m_pasts, m_refused, m_figures, m_isLaid, m_many, m_isMade, m_made, m_images, m_orbits, m_chains, m_isCarried, m_carried, m_carriedMany, m_isSorted, m_leasts, m_heads, m_headFrom, m_text, m_typed, m_at, m_fault, m_orders, m_pointsThen, m_letters, m_numbers, m_h⟩ v1 ⟨N, K, g, hC, hM, hE, hL, hS, hR, hP, hT⟩
  have n8 := hM.2.1
  have n1 := hM.1
  have hg := hM.2.2.2.2.2.1
  have p256 := p2_8 n8
  have hn : n_n = nI N := hC.2.2.2.1
  have hm0 : m_now 0 = nI N := hM.2.2.2.1
  obtain ⟨b1, b2, b3, b4, e1, e2, h3⟩ := rf_2 hR
  subst hn
  rcases set_both n8 hm0 v1 with ⟨a, ha, rfl, s1, s2⟩ | ⟨s1, s2⟩
  · obtain ⟨d1, d2, d3, d4, d5, d6, d7, d8, d9, d10, d11, d12, d13, d14, d15, ec, hF, hK⟩ := c_fit (undoing := e_undoing) (found := e_found) (foundAt := e_foundAt) (foundCount := e_foundCount) hC hE
    obtain ⟨g1, g2, g3, g4, g5, g6, g7, em, hSd⟩ := m_leastOf hM m_figures m_isCarried m_carried m_carriedMany hS ha
    have ek := c_first hF.2.2.2 (x := a) (by omega)
    exact ⟨_, _, (xn_s s1).trans ((xb_f (by decide)).trans ((xn_s ec).trans ((xn_s ek).trans rfl))), (xn_s s2).trans ((xb_f (by decide)).trans ((xn_s em).trans rfl)), rfl, N, K, g, hC, hM, engF_eng n1 n8 hF hK, hL, Or.inr ⟨rfl, hSd⟩, hR, hP, hT⟩
  · exact ⟨_, _, (xn_s s1).trans ((xb_t rfl).trans ((xn_s e1).trans rfl)), (xn_s s2).trans ((xb_t rfl).trans ((xn_s e2).trans rfl)), rfl, N, K, g, hC, hM, hE, hL, hS, h3, hP, hT⟩
theorem r_images : xS_images xRel := by
  rintro ⟨⟨c_fits, c_refusedBad, c_refusedNo, c_refusedFull⟩, ⟨n_n, n_count, n_generators⟩, ⟨z_count, z_ra, z_rb, z_rn, z_rc, z_rg⟩, ⟨t_length, t_bytes⟩, ⟨r_done, r_stopped, r_due, r_letter, r_value, r_figures, r_seen⟩, ⟨rt_n, rt_count, rt_generators⟩, ⟨e_n, e_steps, e_undoing, e_chains, e_leaving, e_found, e_foundAt, e_foundCount⟩, ⟨k_n, k_inOrder, k_starts, k_firsts, k_reached, k_reachedAt, k_reachedCount⟩⟩ ⟨m_now, m_held, m_past, m_pasts, m_refused, m_figures, m_isLaid, m_many, m_isMade, m_made, m_images, m_orbits, m_chains, m_isCarried, m_carried, m_carriedMany, m_isSorted, m_leasts, m_heads, m_headFrom, m_text, m_typed, m_at, m_fault, m_orders, m_pointsThen, m_letters, m_numbers, m_h⟩ v1 v2 ⟨N, K, g, hC, hM, hE, hL, hS, hR, hP, hT⟩
  have n8 := hM.2.1
  have n1 := hM.1
  have hg := hM.2.2.2.2.2.1
  have p256 := p2_8 n8
  have hn : n_n = nI N := hC.2.2.2.1
  have hm0 : m_now 0 = nI N := hM.2.2.2.1
  obtain ⟨b1, b2, b3, b4, e1, e2, h3⟩ := rf_2 hR
  subst hn
  rcases set_both n8 hm0 v1 with ⟨a, ha, rfl, s1, s2⟩ | ⟨s1, s2⟩
  · by_cases h2 : (-1 : Int32) ≤ v2
    · obtain ⟨d1, d2, d3, d4, d5, d6, d7, d8, d9, d10, d11, d12, d13, d14, d15, ec, hF, hK⟩ := c_fit (undoing := e_undoing) (found := e_found) (foundAt := e_foundAt) (foundCount := e_foundCount) hC hE
      obtain ⟨hE', rfl, hA, hFi⟩ := hF
      have hF : engF N K g d1 d2 d4 d5 (nI N) d10 d11 d12 := ⟨hE', rfl, hA, hFi⟩
      obtain ⟨g1, g2, g3, em, hrow⟩ := m_findImages hM ha m_figures m_isCarried m_carried m_carriedMany
      have il := imL_le (K := K) (g := g) n8 a
      by_cases h4 : v2 = (-1 : Int32)
      · have ek := c_countWith n8 hg hA hFi ha
        exact ⟨_, _, (xn_s s1).trans ((xb_f (by decide)).trans ((xb_t h2).trans ((xn_s ec).trans ((xb_t h4).trans ((xn_s ek).trans rfl))))), (xn_s s2).trans ((xb_f (by decide)).trans ((xb_t h2).trans ((xn_s em).trans ((xb_t h4).trans rfl)))), rfl, N, K, g, hC, hM, engF_eng n1 n8 hF hK, hL, hS, hR, hP, hT⟩
      · obtain ⟨j, hj, rfl⟩ := nI_of (m1_or h2 h4)
        have ek := c_nthWith n8 hg hA hFi ha hj
        by_cases w : (imL N K g a).length ≤ j
        · rw [nth5_n w] at ek
          exact ⟨_, _, (xn_s s1).trans ((xb_f (by decide)).trans ((xb_t h2).trans ((xn_s ec).trans ((xb_f h4).trans ((xn_s ek).trans rfl))))), (xn_s s2).trans ((xb_f (by decide)).trans ((xb_t h2).trans ((xn_s em).trans ((xb_f h4).trans ((xb_t (by rw [n_le (by omega) hj]; exact w)).trans rfl))))), rfl, N, K, g, hC, hM, engF_eng n1 n8 hF hK, hL, hS, hR, hP, hT⟩
        · have hget : (imL N K g a)[j]? = some (imL N K g a)[j] := List.getElem?_eq_getElem (by omega)
          rw [nth5_s hget] at ek
          have hc : g3 (nI j).toNatClampNeg = nI (imL N K g a)[j] := by rw [n_cl hj]; exact hrow j _ hget
          exact ⟨_, _, (xn_s s1).trans ((xb_f (by decide)).trans ((xb_t h2).trans ((xn_s ec).trans ((xb_f h4).trans ((xn_s ek).trans rfl))))), (xn_s s2).trans ((xb_f (by decide)).trans ((xb_t h2).trans ((xn_s em).trans ((xb_f h4).trans ((xb_f (by rw [n_le (by omega) hj]; exact w)).trans ((xk_t (vp_in_nI (by omega) (by omega))).trans rfl)))))), hc.symm, N, K, g, hC, hM, engF_eng n1 n8 hF hK, hL, hS, hR, hP, hT⟩
    · exact ⟨_, _, (xn_s s1).trans ((xb_f (by decide)).trans ((xb_f h2).trans ((xn_s e1).trans rfl))), (xn_s s2).trans ((xb_f (by decide)).trans ((xb_f h2).trans ((xn_s e2).trans rfl))), rfl, N, K, g, hC, hM, hE, hL, hS, h3, hP, hT⟩
  · exact ⟨_, _, (xn_s s1).trans ((xb_t rfl).trans ((xn_s e1).trans rfl)), (xn_s s2).trans ((xb_t rfl).trans ((xn_s e2).trans rfl)), rfl, N, K, g, hC, hM, hE, hL, hS, h3, hP, hT⟩

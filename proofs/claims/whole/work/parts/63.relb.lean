theorem r_heads : xS_heads xRel := by
  rintro ⟨⟨c_fits, c_refusedBad, c_refusedNo, c_refusedFull⟩, ⟨n_n, n_count, n_generators⟩, ⟨z_count, z_ra, z_rb, z_rn, z_rc, z_rg⟩, ⟨t_length, t_bytes⟩, ⟨r_done, r_stopped, r_due, r_letter, r_value, r_figures, r_seen⟩, ⟨rt_n, rt_count, rt_generators⟩, ⟨e_n, e_steps, e_undoing, e_chains, e_leaving, e_found, e_foundAt, e_foundCount⟩, ⟨k_n, k_inOrder, k_starts, k_firsts, k_reached, k_reachedAt, k_reachedCount⟩⟩ ⟨m_now, m_held, m_past, m_pasts, m_refused, m_figures, m_isLaid, m_many, m_isMade, m_made, m_images, m_orbits, m_chains, m_isCarried, m_carried, m_carriedMany, m_isSorted, m_leasts, m_heads, m_headFrom, m_text, m_typed, m_at, m_fault, m_orders, m_pointsThen, m_letters, m_numbers, m_h⟩ v1 v2 ⟨N, K, g, hC, hM, hE, hL, hS, hR, hP, hT⟩
  have n8 := hM.2.1
  have n1 := hM.1
  have hg := hM.2.2.2.2.2.1
  have p256 := p2_8 n8
  have hn : n_n = nI N := hC.2.2.2.1
  have hm0 : m_now 0 = nI N := hM.2.2.2.1
  obtain ⟨b1, b2, b3, b4, e1, e2, h3⟩ := rf_2 hR
  by_cases h0 : v1 < 0
  · have hin : f_X8_in v1 (0 : Int32) (m_now 0) = some (0 : Int32) := xb_t h0
    exact ⟨_, _, (xb_t h0).trans ((xn_s e1).trans rfl), (xn_s hin).trans ((xb_t rfl).trans ((xn_s e2).trans rfl)), rfl, N, K, g, hC, hM, hE, hL, hS, h3, hP, hT⟩
  · obtain ⟨z, hz31, rfl⟩ := nI_of h0
    by_cases hz : z ≤ N
    · have hin : f_X8_in (nI z) (0 : Int32) (m_now 0) = some (1 : Int32) := (xb_f h0).trans (xb_f (by rw [hm0, n_lt (by omega) hz31]; omega))
      have hnz : ¬ n_n < nI z := by rw [hn, n_lt (by omega) hz31]; omega
      by_cases h2 : (-1 : Int32) ≤ v2
      · have h2' : ¬ v2 < (-1 : Int32) := Int32.not_lt.mpr h2
        obtain ⟨d1, d2, d3, d4, d5, d6, d7, d8, d9, d10, d11, d12, d13, d14, d15, ec, hF, hK⟩ := c_fit (undoing := e_undoing) (found := e_found) (foundAt := e_foundAt) (foundCount := e_foundCount) hC hE
        obtain ⟨hE', rfl, hA, hFi⟩ := hF
        have hF : engF N K g d1 d2 d4 d5 (nI N) d10 d11 d12 := ⟨hE', rfl, hA, hFi⟩
        obtain ⟨g1, g2, g3, g4, g5, g6, g7, r, em, hSd, r1, r2⟩ := m_headsOf hM m_figures m_isCarried m_carried m_carriedMany hS hz v2 h2
        by_cases h4 : v2 = (-1 : Int32)
        · have ek := c_countFirsts n8 hA hFi hz
          have hr := r1 h4
          exact ⟨_, _, (xb_f h0).trans ((xb_f hnz).trans ((xb_t h2).trans ((xn_s ec).trans ((xb_t h4).trans ((xn_s ek).trans rfl))))), (xn_s hin).trans ((xb_f (by decide)).trans ((xb_f h2').trans ((xn_s em).trans rfl))), hr.symm, N, K, g, hC, hM, engF_eng n1 n8 hF hK, hL, Or.inr ⟨rfl, hSd⟩, hR, hP, hT⟩
        · obtain ⟨j, hj, rfl⟩ := nI_of (m1_or h2 h4)
          have ek := c_nthFirst n8 hA hFi hz hj
          have hr := r2 j hj rfl
          exact ⟨_, _, (xb_f h0).trans ((xb_f hnz).trans ((xb_t h2).trans ((xn_s ec).trans ((xb_f h4).trans ((xn_s ek).trans rfl))))), (xn_s hin).trans ((xb_f (by decide)).trans ((xb_f h2').trans ((xn_s em).trans rfl))), hr.symm, N, K, g, hC, hM, engF_eng n1 n8 hF hK, hL, Or.inr ⟨rfl, hSd⟩, hR, hP, hT⟩
      · have h2' : v2 < (-1 : Int32) := Int32.not_le.mp h2
        exact ⟨_, _, (xb_f h0).trans ((xb_f hnz).trans ((xb_f h2).trans ((xn_s e1).trans rfl))), (xn_s hin).trans ((xb_f (by decide)).trans ((xb_t h2').trans ((xn_s e2).trans rfl))), rfl, N, K, g, hC, hM, hE, hL, hS, h3, hP, hT⟩
    · have hin : f_X8_in (nI z) (0 : Int32) (m_now 0) = some (0 : Int32) := (xb_f h0).trans (xb_t (by rw [hm0, n_lt (by omega) hz31]; omega))
      have hnz : n_n < nI z := by rw [hn, n_lt (by omega) hz31]; omega
      exact ⟨_, _, (xb_f h0).trans ((xb_t hnz).trans ((xn_s e1).trans rfl)), (xn_s hin).trans ((xb_t rfl).trans ((xn_s e2).trans rfl)), rfl, N, K, g, hC, hM, hE, hL, hS, h3, hP, hT⟩
theorem r_head : xS_head xRel := by
  rintro ⟨⟨c_fits, c_refusedBad, c_refusedNo, c_refusedFull⟩, ⟨n_n, n_count, n_generators⟩, ⟨z_count, z_ra, z_rb, z_rn, z_rc, z_rg⟩, ⟨t_length, t_bytes⟩, ⟨r_done, r_stopped, r_due, r_letter, r_value, r_figures, r_seen⟩, ⟨rt_n, rt_count, rt_generators⟩, ⟨e_n, e_steps, e_undoing, e_chains, e_leaving, e_found, e_foundAt, e_foundCount⟩, ⟨k_n, k_inOrder, k_starts, k_firsts, k_reached, k_reachedAt, k_reachedCount⟩⟩ ⟨m_now, m_held, m_past, m_pasts, m_refused, m_figures, m_isLaid, m_many, m_isMade, m_made, m_images, m_orbits, m_chains, m_isCarried, m_carried, m_carriedMany, m_isSorted, m_leasts, m_heads, m_headFrom, m_text, m_typed, m_at, m_fault, m_orders, m_pointsThen, m_letters, m_numbers, m_h⟩ v1 ⟨N, K, g, hC, hM, hE, hL, hS, hR, hP, hT⟩
  have n8 := hM.2.1
  have n1 := hM.1
  have hg := hM.2.2.2.2.2.1
  have p256 := p2_8 n8
  have hn : n_n = nI N := hC.2.2.2.1
  have hm0 : m_now 0 = nI N := hM.2.2.2.1
  obtain ⟨b1, b2, b3, b4, e1, e2, h3⟩ := rf_2 hR
  subst hn
  rcases set_both n8 hm0 v1 with ⟨a, ha, rfl, s1, s2⟩ | ⟨s1, s2⟩
  · obtain ⟨d1, d2, d3, d4, d5, d6, d7, d8, d9, d10, d11, d12, d13, d14, d15, ec, hF, hK⟩ := c_fit (undoing := e_undoing) (found := e_found) (foundAt := e_foundAt) (foundCount := e_foundCount) hC hE
    obtain ⟨hE', rfl, hA, hFi⟩ := hF
    have hF : engF N K g d1 d2 d4 d5 (nI N) d10 d11 d12 := ⟨hE', rfl, hA, hFi⟩
    obtain ⟨g1, g2, g3, g4, g5, g6, g7, em, hSd⟩ := m_leastOf hM m_figures m_isCarried m_carried m_carriedMany hS ha
    obtain ⟨h, hh, -, hh2, hh3⟩ := FI_ok n8 hg ha
    obtain ⟨i, ek, hi⟩ := c_placeOfFirst n8 hg hA hFi ha hh
    have hz : popc a ≤ N := popc_N N (by omega) a ha
    have q1 := m_size (a := a) (by omega)
    have hvp : vp_in (nI (popc a)) 10 := vp_in_nI (by omega) (by omega)
    have hle := hd_le (K := K) (g := g) n8 (popc a)
    have hle2 := hdL_le (K := K) (g := g) n8 (popc a)
    have hil : i < (hdL N K g (popc a)).length := (List.getElem?_eq_some_iff.mp hi).1
    have hfr : g7 (nI (popc a)).toNatClampNeg = nI ((ordA N (popc a)).filter (hdB N K g)).length := by rw [n_cl (by omega)]; exact hSd.2 _ (by omega)
    have ex : xL (f_X8_head_L1 g6 (opI (FI N K g a))) (g7 (nI (popc a)).toNatClampNeg) = some (nI (((ordA N (popc a)).filter (hdB N K g)).length + i)) := by
      rw [hfr, hh]
      exact m_head_ix n8 hSd.1.2 hz hi
    refine ⟨_, _, (xn_s s1).trans ((xb_f (by decide)).trans ((xn_s ec).trans ((xn_s ek).trans rfl))), (xn_s s2).trans ((xb_f (by decide)).trans ((xn_s em).trans ((xn_s q1).trans ((xk_t hvp).trans ((xn_s ex).trans ((xn_s q1).trans ((xk_t hvp).trans rfl))))))), ?_, N, K, g, hC, hM, engF_eng n1 n8 hF hK, hL, Or.inr ⟨rfl, hSd⟩, hR, hP, hT⟩
    show nI i = nI (((ordA N (popc a)).filter (hdB N K g)).length + i) - g7 (nI (popc a)).toNatClampNeg
    rw [hfr, n_subn]
  · exact ⟨_, _, (xn_s s1).trans ((xb_t rfl).trans ((xn_s e1).trans rfl)), (xn_s s2).trans ((xb_t rfl).trans ((xn_s e2).trans rfl)), rfl, N, K, g, hC, hM, hE, hL, hS, h3, hP, hT⟩

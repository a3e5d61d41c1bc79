theorem r_clear : xS_clear xRel := by
  rintro ⟨⟨c_fits, c_refusedBad, c_refusedNo, c_refusedFull⟩, ⟨n_n, n_count, n_generators⟩, ⟨z_count, z_ra, z_rb, z_rn, z_rc, z_rg⟩, ⟨t_length, t_bytes⟩, ⟨r_done, r_stopped, r_due, r_letter, r_value, r_figures, r_seen⟩, ⟨rt_n, rt_count, rt_generators⟩, ⟨e_n, e_steps, e_undoing, e_chains, e_leaving, e_found, e_foundAt, e_foundCount⟩, ⟨k_n, k_inOrder, k_starts, k_firsts, k_reached, k_reachedAt, k_reachedCount⟩⟩ ⟨m_now, m_held, m_past, m_pasts, m_refused, m_figures, m_isLaid, m_many, m_isMade, m_made, m_images, m_orbits, m_chains, m_isCarried, m_carried, m_carriedMany, m_isSorted, m_leasts, m_heads, m_headFrom, m_text, m_typed, m_at, m_fault, m_orders, m_pointsThen, m_letters, m_numbers, m_h⟩  ⟨N, K, g, hC, hM, hE, hL, hS, hR, hP, hT⟩
  obtain ⟨L, l1, rfl, rfl, l4⟩ := hT
  exact ⟨_, _, rfl, rfl, rfl, N, K, g, hC, hM, hE, hL, hS, hR, hP, 0, by omega, rfl, rfl, fun i hi => absurd hi (Nat.not_lt_zero _)⟩
theorem r_back : xS_back xRel := by
  rintro ⟨⟨c_fits, c_refusedBad, c_refusedNo, c_refusedFull⟩, ⟨n_n, n_count, n_generators⟩, ⟨z_count, z_ra, z_rb, z_rn, z_rc, z_rg⟩, ⟨t_length, t_bytes⟩, ⟨r_done, r_stopped, r_due, r_letter, r_value, r_figures, r_seen⟩, ⟨rt_n, rt_count, rt_generators⟩, ⟨e_n, e_steps, e_undoing, e_chains, e_leaving, e_found, e_foundAt, e_foundCount⟩, ⟨k_n, k_inOrder, k_starts, k_firsts, k_reached, k_reachedAt, k_reachedCount⟩⟩ ⟨m_now, m_held, m_past, m_pasts, m_refused, m_figures, m_isLaid, m_many, m_isMade, m_made, m_images, m_orbits, m_chains, m_isCarried, m_carried, m_carriedMany, m_isSorted, m_leasts, m_heads, m_headFrom, m_text, m_typed, m_at, m_fault, m_orders, m_pointsThen, m_letters, m_numbers, m_h⟩  ⟨N, K, g, hC, hM, hE, hL, hS, hR, hP, hT⟩
  obtain ⟨P, hP⟩ := hP
  match P, hP with
  | 0, hP =>
    obtain ⟨b1, b2, b3, b4, e1, e2, h3⟩ := rf_3 hR
    have hp := hP
    obtain ⟨p1, rfl, rfl, p4⟩ := hp
    exact ⟨_, _, (xb_f (show ¬ (0 : Int32) < nI 0 by decide)).trans ((xn_s e1).trans rfl), (xb_t rfl).trans ((xn_s e2).trans rfl), rfl, N, K, g, hC, hM, hE, hL, hS, h3, ⟨0, hP⟩, hT⟩
  | P + 1, hP =>
    obtain ⟨n', c', f', now', N', K', g', e1, e2, hC', hM', hP'⟩ := p_pop (ra := z_ra) (rb := z_rb) hP n_n n_count n_generators m_now
    obtain ⟨p1, rfl, rfl, p4⟩ := hP
    have e3 : nI (P + 1) - (1 : Int32) = nI P := n_sub1 (by omega)
    refine ⟨_, _, (xb_t (by rw [show (0 : Int32) = nI 0 from rfl, n_lt (by omega) (by omega)]; omega)).trans ((xn_s e1).trans rfl), (xb_f (by rw [show (0 : Int32) = nI 0 from rfl, n_ieq (by omega) (by omega)]; omega)).trans ((xn_s e2).trans rfl), e3.symm, N', K', g', hC', hM', eng_0 hE, Or.inl rfl, Or.inl rfl, hR, ⟨P, ?_⟩, hT⟩
    show pst P (nI P) z_rn z_rc z_rg m_past (nI (P + 1) - (1 : Int32))
    rw [e3]; exact hP'

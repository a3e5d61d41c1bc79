theorem r_drops : xS_drops xRel := by
  rintro ⟨⟨c_fits, c_refusedBad, c_refusedNo, c_refusedFull⟩, ⟨n_n, n_count, n_generators⟩, ⟨z_count, z_ra, z_rb, z_rn, z_rc, z_rg⟩, ⟨t_length, t_bytes⟩, ⟨r_done, r_stopped, r_due, r_letter, r_value, r_figures, r_seen⟩, ⟨rt_n, rt_count, rt_generators⟩, ⟨e_n, e_steps, e_undoing, e_chains, e_leaving, e_found, e_foundAt, e_foundCount⟩, ⟨k_n, k_inOrder, k_starts, k_firsts, k_reached, k_reachedAt, k_reachedCount⟩⟩ ⟨m_now, m_held, m_past, m_pasts, m_refused, m_figures, m_isLaid, m_many, m_isMade, m_made, m_images, m_orbits, m_chains, m_isCarried, m_carried, m_carriedMany, m_isSorted, m_leasts, m_heads, m_headFrom, m_text, m_typed, m_at, m_fault, m_orders, m_pointsThen, m_letters, m_numbers, m_h⟩ v1 ⟨N, K, g, hC, hM, hE, hL, hS, hR, hP, hT⟩
  obtain ⟨held, eh, hh⟩ := m_hold m_now m_held
  have hMh := mN_cong hM hh
  obtain ⟨P, hP⟩ := hP
  have hK : n_count = nI K := hC.2.2.2.2.1
  have hm1 : m_now 1 = nI K := hM.2.2.2.2.1
  have k3 := hM.2.2.1
  have hsub : m_now 1 - (1 : Int32) = n_left K := by rw [hm1, n_left_sub]
  obtain ⟨b1, b2, b3, b4, e1, e2, h3⟩ := rf_2 hR
  have he2 : f_X8_ends held m_past m_pasts m_refused (-2 : Int32) = some (m_past, m_pasts, b4, (-2 : Int32)) := (xb_f (by decide)).trans ((xn_s e2).trans rfl)
  by_cases h0 : v1 < 0
  · have hin : f_X8_in v1 (0 : Int32) (m_now 1 - (1 : Int32)) = some (0 : Int32) := xb_t h0
    have hd : f_X8_doDrops m_now m_isLaid m_isSorted v1 = some (m_now, m_isLaid, m_isSorted, (-2 : Int32)) := (xn_s hin).trans (xb_t rfl)
    exact ⟨_, _, (xb_t h0).trans ((xn_s e1).trans rfl), (xn_s eh).trans ((xn_s hd).trans ((xn_s he2).trans rfl)), rfl, N, K, g, hC, hM, hE, hL, hS, h3, ⟨P, hP⟩, hT⟩
  · obtain ⟨d, hd31, rfl⟩ := nI_of h0
    by_cases hd : d < K
    · have hin : f_X8_in (nI d) (0 : Int32) (m_now 1 - (1 : Int32)) = some (1 : Int32) := (xb_f h0).trans (xb_f (by rw [hm1, n_sub1 (by omega), n_lt (by omega) hd31]; omega))
      obtain ⟨now', em, hM'⟩ := m_drops hM hd
      obtain ⟨f', ec, hC'⟩ := c_loses hC hd
      have hdd : f_X8_doDrops m_now m_isLaid m_isSorted (nI d) = some (now', (0 : Int32), (0 : Int32), now' 1) := (xn_s hin).trans ((xb_f (by decide)).trans ((xn_s em).trans rfl))
      obtain ⟨P', z', ra', rb', rn', rc', rg', past', pasts', p1, p2, hP'⟩ := p_push (ra := z_ra) (rb := z_rb) hP hC hMh
      have hn1 : now' 1 = nI (K - 1) := hM'.2.2.2.2.1
      have he : f_X8_ends held m_past m_pasts m_refused (now' 1) = some (past', pasts', m_refused, now' 1) := (xb_t (by rw [hn1, show (0 : Int32) = nI 0 from rfl, n_le (by omega) (by omega)]; omega)).trans ((xn_s p2).trans rfl)
      have hkp : f_X7_keepState c_fits n_n n_count n_generators z_count z_ra z_rb z_rn z_rc z_rg = some ((0 : Int32), z', ra', rb', rn', rc', rg') := (xn_s p1).trans rfl
      exact ⟨_, _, (xb_f h0).trans ((xb_t (show nI d < n_count by rw [hK, n_lt hd31 (by omega)]; exact hd)).trans ((xn_s hkp).trans ((xn_s ec).trans rfl))), (xn_s eh).trans ((xn_s hdd).trans ((xn_s he).trans rfl)), hn1.symm, N, K - 1, gDrop g d, hC', hM', eng_0 hE, Or.inl rfl, Or.inl rfl, hR, ⟨P', hP'⟩, hT⟩
    · have hin : f_X8_in (nI d) (0 : Int32) (m_now 1 - (1 : Int32)) = some (0 : Int32) := by
        refine (xb_f h0).trans (xb_t ?_)
        rw [hsub]
        cases K with
        | zero => rw [n_left_0]; exact Int32.lt_of_lt_of_le (by decide) (Int32.not_lt.mp h0)
        | succ k => rw [n_left_s, n_lt (by omega) hd31]; omega
      have hdd : f_X8_doDrops m_now m_isLaid m_isSorted (nI d) = some (m_now, m_isLaid, m_isSorted, (-2 : Int32)) := (xn_s hin).trans (xb_t rfl)
      exact ⟨_, _, (xb_f h0).trans ((xb_f (show ¬ nI d < n_count by rw [hK, n_lt hd31 (by omega)]; exact hd)).trans ((xn_s e1).trans rfl)), (xn_s eh).trans ((xn_s hdd).trans ((xn_s he2).trans rfl)), rfl, N, K, g, hC, hM, hE, hL, hS, h3, ⟨P, hP⟩, hT⟩

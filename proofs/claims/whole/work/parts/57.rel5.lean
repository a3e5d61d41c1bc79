theorem r_points : xS_points xRel := by
  rintro ⟨⟨c_fits, c_refusedBad, c_refusedNo, c_refusedFull⟩, ⟨n_n, n_count, n_generators⟩, ⟨z_count, z_ra, z_rb, z_rn, z_rc, z_rg⟩, ⟨t_length, t_bytes⟩, ⟨r_done, r_stopped, r_due, r_letter, r_value, r_figures, r_seen⟩, ⟨rt_n, rt_count, rt_generators⟩, ⟨e_n, e_steps, e_undoing, e_chains, e_leaving, e_found, e_foundAt, e_foundCount⟩, ⟨k_n, k_inOrder, k_starts, k_firsts, k_reached, k_reachedAt, k_reachedCount⟩⟩ ⟨m_now, m_held, m_past, m_pasts, m_refused, m_figures, m_isLaid, m_many, m_isMade, m_made, m_images, m_orbits, m_chains, m_isCarried, m_carried, m_carriedMany, m_isSorted, m_leasts, m_heads, m_headFrom, m_text, m_typed, m_at, m_fault, m_orders, m_pointsThen, m_letters, m_numbers, m_h⟩ v1 ⟨N, K, g, hC, hM, hE, hL, hS, hR, hP, hT⟩
  obtain ⟨held, eh, hh⟩ := m_hold m_now m_held
  have hMh := mN_cong hM hh
  obtain ⟨P, hP⟩ := hP
  by_cases h0 : v1 < (1 : Int32)
  · obtain ⟨b1, b2, b3, b4, e1, e2, h3⟩ := rf_2 hR
    have hin : f_X8_in v1 (1 : Int32) (8 : Int32) = some (0 : Int32) := xb_t h0
    have hd : f_X8_doPoints m_now m_isLaid m_isSorted v1 = some (m_now, m_isLaid, m_isSorted, (-2 : Int32)) := (xn_s hin).trans (xb_t rfl)
    have he : f_X8_ends held m_past m_pasts m_refused (-2 : Int32) = some (m_past, m_pasts, b4, (-2 : Int32)) := (xb_f (by decide)).trans ((xn_s e2).trans rfl)
    exact ⟨_, _, (xb_t h0).trans ((xn_s e1).trans rfl), (xn_s eh).trans ((xn_s hd).trans ((xn_s he).trans rfl)), rfl, N, K, g, hC, hM, hE, hL, hS, h3, ⟨P, hP⟩, hT⟩
  · by_cases h1 : v1 ≤ (8 : Int32)
    · have hv0 : ¬ v1 < 0 := fun w => h0 (Int32.lt_trans w (by decide))
      obtain ⟨b, hb, rfl⟩ := nI_of hv0
      have hb1 : ¬ b < 1 := by rw [show (1 : Int32) = nI 1 from rfl, n_lt hb (by omega)] at h0; exact h0
      have hb2 : b ≤ 8 := by rw [show (8 : Int32) = nI 8 from rfl, n_le hb (by omega)] at h1; exact h1
      have hin : f_X8_in (nI b) (1 : Int32) (8 : Int32) = some (1 : Int32) := (xb_f h0).trans (xb_f (by rw [show (8 : Int32) = nI 8 from rfl, n_lt (by omega) hb]; omega))
      have hd : f_X8_doPoints m_now m_isLaid m_isSorted (nI b) = some (upd (upd m_now 0 (nI b)) 1 (0 : Int32), (0 : Int32), (0 : Int32), m_now 0) := (xn_s hin).trans (xb_f (by decide))
      obtain ⟨P', z', ra', rb', rn', rc', rg', past', pasts', e1, e2, hP'⟩ := p_push (ra := z_ra) (rb := z_rb) hP hC hMh
      have he : f_X8_ends held m_past m_pasts m_refused (m_now 0) = some (past', pasts', m_refused, m_now 0) := (xb_t (by rw [hM.2.2.2.1, show (0 : Int32) = nI 0 from rfl, n_le (by omega) (by have := hM.2.1; omega)]; omega)).trans ((xn_s e2).trans rfl)
      have hk : f_X7_keepState c_fits n_n n_count n_generators z_count z_ra z_rb z_rn z_rc z_rg = some ((0 : Int32), z', ra', rb', rn', rc', rg') := (xn_s e1).trans rfl
      obtain ⟨s1, s2⟩ := s_points (N := b) (by omega) hb2 n_generators m_now g
      exact ⟨_, _, (xb_f h0).trans ((xb_t h1).trans ((xn_s hk).trans rfl)), (xn_s eh).trans ((xn_s hd).trans ((xn_s he).trans rfl)), hC.2.2.2.1.trans hM.2.2.2.1.symm, b, 0, g, s1, s2, eng_0 hE, Or.inl rfl, Or.inl rfl, hR, ⟨P', hP'⟩, hT⟩
    · obtain ⟨b1, b2, b3, b4, e1, e2, h3⟩ := rf_2 hR
      have hin : f_X8_in v1 (1 : Int32) (8 : Int32) = some (0 : Int32) := (xb_f h0).trans (xb_t (Int32.not_le.mp h1))
      have hd : f_X8_doPoints m_now m_isLaid m_isSorted v1 = some (m_now, m_isLaid, m_isSorted, (-2 : Int32)) := (xn_s hin).trans (xb_t rfl)
      have he : f_X8_ends held m_past m_pasts m_refused (-2 : Int32) = some (m_past, m_pasts, b4, (-2 : Int32)) := (xb_f (by decide)).trans ((xn_s e2).trans rfl)
      exact ⟨_, _, (xb_f h0).trans ((xb_f h1).trans ((xn_s e1).trans rfl)), (xn_s eh).trans ((xn_s hd).trans ((xn_s he).trans rfl)), rfl, N, K, g, hC, hM, hE, hL, hS, h3, ⟨P, hP⟩, hT⟩

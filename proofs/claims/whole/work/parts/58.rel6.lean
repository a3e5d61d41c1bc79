theorem rd_s {n : Nat} (hn1 : 1 ≤ n) (hn : n ≤ 8) {v : Int32} {s : Nat → Nat} (hs : isMv n v s) : f_X2_read v (nI n) = some (pv s) := by
  obtain ⟨r, e, h⟩ := f_read hn1 hn v
  rcases h with ⟨t, ht, rfl⟩ | ⟨h, -⟩
  · rw [e, isMv_one hn hs ht]
  · exact absurd hs (h s)
theorem rd_n {n : Nat} (hn1 : 1 ≤ n) (hn : n ≤ 8) {v : Int32} (hs : ∀ s, ¬ isMv n v s) : f_X2_read v (nI n) = some (-1 : Int32) := by
  obtain ⟨r, e, h⟩ := f_read hn1 hn v
  rcases h with ⟨t, ht, -⟩ | ⟨-, rfl⟩
  · exact absurd ht (hs t)
  · exact e
theorem r_moves : xS_moves xRel := by
  rintro ⟨⟨c_fits, c_refusedBad, c_refusedNo, c_refusedFull⟩, ⟨n_n, n_count, n_generators⟩, ⟨z_count, z_ra, z_rb, z_rn, z_rc, z_rg⟩, ⟨t_length, t_bytes⟩, ⟨r_done, r_stopped, r_due, r_letter, r_value, r_figures, r_seen⟩, ⟨rt_n, rt_count, rt_generators⟩, ⟨e_n, e_steps, e_undoing, e_chains, e_leaving, e_found, e_foundAt, e_foundCount⟩, ⟨k_n, k_inOrder, k_starts, k_firsts, k_reached, k_reachedAt, k_reachedCount⟩⟩ ⟨m_now, m_held, m_past, m_pasts, m_refused, m_figures, m_isLaid, m_many, m_isMade, m_made, m_images, m_orbits, m_chains, m_isCarried, m_carried, m_carriedMany, m_isSorted, m_leasts, m_heads, m_headFrom, m_text, m_typed, m_at, m_fault, m_orders, m_pointsThen, m_letters, m_numbers, m_h⟩ v1 ⟨N, K, g, hC, hM, hE, hL, hS, hR, hP, hT⟩
  obtain ⟨held, eh, hh⟩ := m_hold m_now m_held
  have hMh := mN_cong hM hh
  obtain ⟨P, hP⟩ := hP
  have hn : n_n = nI N := hC.2.2.2.1
  subst hn
  have n8 := hM.2.1
  obtain ⟨figs, r, em, hr⟩ := mo_isMove (now := m_now) (figs := m_figures) n8 hM.2.2.2.1 v1
  rcases hr with ⟨s, hs, rfl⟩ | ⟨hs, rfl⟩
  · have er : f_X2_read v1 (nI N) = some (pv s) := rd_s hM.1 n8 hs
    have hne : pv s ≠ (-1 : Int32) := pv_ne (gp_ok_8 n8 hs.1).1
    have hK : n_count = nI K := hC.2.2.2.2.1
    have hm1 : m_now 1 = nI K := hM.2.2.2.2.1
    have k3 := hM.2.2.1
    by_cases hk : K = 3
    · obtain ⟨b1, b2, b3, b4, e1, e2, h3⟩ := rf_4 hR
      have hd : f_X8_doMoves m_now m_figures m_isLaid m_isSorted v1 = some (m_now, figs, m_isLaid, m_isSorted, (-4 : Int32)) := (xn_s em).trans ((xb_f (by decide)).trans (xb_t (by rw [hm1, hk]; rfl)))
      have he : f_X8_ends held m_past m_pasts m_refused (-4 : Int32) = some (m_past, m_pasts, b4, (-4 : Int32)) := (xb_f (by decide)).trans ((xn_s e2).trans rfl)
      exact ⟨_, _, (xn_s er).trans ((xb_f hne).trans ((xb_f (show ¬ n_count < (3 : Int32) by rw [hK, hk]; decide)).trans ((xn_s e1).trans rfl))), (xn_s eh).trans ((xn_s hd).trans ((xn_s he).trans rfl)), rfl, N, K, g, hC, hM, hE, hL, hS, h3, ⟨P, hP⟩, hT⟩
    · have e2k : (2 : Int32) + m_now 1 = nI (2 + K) := by rw [hm1]; exact n_addn 2 K
      have hu1 : upd m_now (2 + K) v1 1 = nI K := by rw [up_n (by omega)]; exact hm1
      have hd : f_X8_doMoves m_now m_figures m_isLaid m_isSorted v1 = some (upd (upd m_now (2 + K) v1) 1 (nI (K + 1)), figs, (0 : Int32), (0 : Int32), nI K) := by
        refine (xn_s em).trans ((xb_f (by decide)).trans ((xb_f (by rw [hm1, show (3 : Int32) = nI 3 from rfl, n_ieq (by omega) (by omega)]; exact hk)).trans ?_))
        rw [e2k]
        refine (xk_t (vp_in_nI (by omega) (by omega))).trans ?_
        rw [n_cl (by omega), hu1, n_add1, up_s, n_sub1 (by omega), Nat.add_sub_cancel]
      obtain ⟨P', z', ra', rb', rn', rc', rg', past', pasts', e1, e2, hP'⟩ := p_push (ra := z_ra) (rb := z_rb) hP hC hMh
      have he : f_X8_ends held m_past m_pasts m_refused (nI K) = some (past', pasts', m_refused, nI K) := (xb_t (by rw [show (0 : Int32) = nI 0 from rfl, n_le (by omega) (by omega)]; omega)).trans ((xn_s e2).trans rfl)
      have hkp : f_X7_keepState c_fits (nI N) n_count n_generators z_count z_ra z_rb z_rn z_rc z_rg = some ((0 : Int32), z', ra', rb', rn', rc', rg') := (xn_s e1).trans rfl
      have hl3 : n_count < (3 : Int32) := by rw [hK, show (3 : Int32) = nI 3 from rfl, n_lt (by omega) (by omega)]; omega
      have ha : f_X4_adds n_count n_generators (pv s) = some (nI (K + 1), upd n_generators K (pv s), (1 : Int32)) := by
        refine (xb_t hl3).trans ?_
        rw [hK]
        refine (xk_t (vp_in_nI (by omega) (by omega))).trans ?_
        rw [n_cl (by omega), n_add1]
      obtain ⟨s1, s2⟩ := s_adds hC hM (by omega) hs.1
      have hv : v1 = nI (cd_n s N) := hs.2
      refine ⟨_, _, (xn_s er).trans ((xb_f hne).trans ((xb_t hl3).trans ((xn_s hkp).trans ((xn_s ha).trans rfl)))), (xn_s eh).trans ((xn_s hd).trans ((xn_s he).trans rfl)), ?_, N, K + 1, gAdd g K s, s1, ?_, eng_0 hE, Or.inl rfl, Or.inl rfl, hR, ⟨P', hP'⟩, hT⟩
      · show nI (K + 1) - (1 : Int32) = nI K
        rw [n_sub1 (by omega), Nat.add_sub_cancel]
      · show mN N (K + 1) (gAdd g K s) (upd (upd m_now (2 + K) v1) 1 (nI (K + 1)))
        rw [hv]; exact s2
  · have er : f_X2_read v1 (nI N) = some (-1 : Int32) := rd_n hM.1 n8 hs
    obtain ⟨b1, b2, b3, b4, e1, e2, h3⟩ := rf_2 hR
    have hd : f_X8_doMoves m_now m_figures m_isLaid m_isSorted v1 = some (m_now, figs, m_isLaid, m_isSorted, (-2 : Int32)) := (xn_s em).trans (xb_t rfl)
    have he : f_X8_ends held m_past m_pasts m_refused (-2 : Int32) = some (m_past, m_pasts, b4, (-2 : Int32)) := (xb_f (by decide)).trans ((xn_s e2).trans rfl)
    exact ⟨_, _, (xn_s er).trans ((xb_t rfl).trans ((xn_s e1).trans rfl)), (xn_s eh).trans ((xn_s hd).trans ((xn_s he).trans rfl)), rfl, N, K, g, hC, hM, hE, hL, hS, h3, ⟨P, hP⟩, hT⟩

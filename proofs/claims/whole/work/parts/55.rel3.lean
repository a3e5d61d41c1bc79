theorem b8_ok : ∀ b, b < 128 → (nI b).toInt8.toInt32 = nI b := by decide +kernel
theorem r_type : xS_type xRel := by
  rintro ⟨⟨c_fits, c_refusedBad, c_refusedNo, c_refusedFull⟩, ⟨n_n, n_count, n_generators⟩, ⟨z_count, z_ra, z_rb, z_rn, z_rc, z_rg⟩, ⟨t_length, t_bytes⟩, ⟨r_done, r_stopped, r_due, r_letter, r_value, r_figures, r_seen⟩, ⟨rt_n, rt_count, rt_generators⟩, ⟨e_n, e_steps, e_undoing, e_chains, e_leaving, e_found, e_foundAt, e_foundCount⟩, ⟨k_n, k_inOrder, k_starts, k_firsts, k_reached, k_reachedAt, k_reachedCount⟩⟩ ⟨m_now, m_held, m_past, m_pasts, m_refused, m_figures, m_isLaid, m_many, m_isMade, m_made, m_images, m_orbits, m_chains, m_isCarried, m_carried, m_carriedMany, m_isSorted, m_leasts, m_heads, m_headFrom, m_text, m_typed, m_at, m_fault, m_orders, m_pointsThen, m_letters, m_numbers, m_h⟩ v1 ⟨N, K, g, hC, hM, hE, hL, hS, hR, hP, hT⟩
  by_cases h0 : v1 < 0
  · obtain ⟨b1, b2, b3, b4, e1, e2, h3⟩ := rf_2 hR
    exact ⟨_, _, (xb_t h0).trans ((xn_s e1).trans rfl), (xn_s (xb_t h0)).trans ((xb_t rfl).trans ((xn_s e2).trans rfl)), rfl, N, K, g, hC, hM, hE, hL, hS, h3, hP, hT⟩
  · by_cases h1 : v1 ≤ (127 : Int32)
    · obtain ⟨b, hb, rfl⟩ := nI_of h0
      have hb2 : b ≤ 127 := by rw [show (127 : Int32) = nI 127 from rfl, n_le hb (by omega)] at h1; exact h1
      have hin : f_X8_in (nI b) (0 : Int32) (127 : Int32) = some (1 : Int32) := (xb_f h0).trans (xb_f (by rw [show (127 : Int32) = nI 127 from rfl, n_lt (by omega) hb]; omega))
      obtain ⟨L, l1, rfl, rfl, l4⟩ := hT
      by_cases hl : L = 80
      · subst hl
        obtain ⟨b1, b2, b3, b4, e1, e2, h3⟩ := rf_4 hR
        exact ⟨_, _, (xb_f h0).trans ((xb_t h1).trans ((xb_f (show ¬ nI 80 < (80 : Int32) by decide)).trans ((xn_s e1).trans rfl))), (xn_s hin).trans ((xb_f (by decide)).trans ((xb_t rfl).trans ((xn_s e2).trans rfl))), rfl, N, K, g, hC, hM, hE, hL, hS, h3, hP, 80, l1, rfl, rfl, l4⟩
      · have ea : f_X6_add (nI L) t_bytes (nI b) = some (nI L + (1 : Int32), upd t_bytes L (nI b)) := by
          refine (xb_f (by rw [show (80 : Int32) = nI 80 from rfl, n_le (by omega) (by omega)]; omega)).trans ((xk_t (vp_in_nI (by omega) (by omega))).trans ?_)
          rw [n_cl (by omega), b8_ok b (by omega)]
        have er : xk (vp_in (nI L) 80) (some (m_refused, (upd m_text (nI L).toNatClampNeg (nI b)), (nI L + (1 : Int32)), (nI L + (1 : Int32)))) = some (m_refused, upd m_text L (nI b), nI L + (1 : Int32), nI L + (1 : Int32)) := by
          rw [xk_t (vp_in_nI (by omega) (by omega)), n_cl (by omega)]
        refine ⟨_, _, (xb_f h0).trans ((xb_t h1).trans ((xb_t (show nI L < (80 : Int32) by rw [show (80 : Int32) = nI 80 from rfl, n_lt (by omega) (by omega)]; omega)).trans ((xn_s ea).trans rfl))), (xn_s hin).trans ((xb_f (by decide)).trans ((xb_f (show ¬ nI L = (80 : Int32) by rw [show (80 : Int32) = nI 80 from rfl, n_ieq (by omega) (by omega)]; exact hl)).trans er)), rfl, N, K, g, hC, hM, hE, hL, hS, hR, hP, L + 1, by omega, n_add1 L, n_add1 L, fun i hi => ?_⟩
        show upd t_bytes L (nI b) i = upd m_text L (nI b) i ∧ ∃ c, c < 128 ∧ upd m_text L (nI b) i = nI c
        by_cases e : i = L
        · rw [e, up_s, up_s]; exact ⟨rfl, b, by omega, rfl⟩
        · rw [up_n e, up_n e]; exact l4 i (by omega)
    · obtain ⟨b1, b2, b3, b4, e1, e2, h3⟩ := rf_2 hR
      have hin : f_X8_in v1 (0 : Int32) (127 : Int32) = some (0 : Int32) := (xb_f h0).trans (xb_t (Int32.not_le.mp h1))
      exact ⟨_, _, (xb_f h0).trans ((xb_f h1).trans ((xn_s e1).trans rfl)), (xn_s hin).trans ((xb_t rfl).trans ((xn_s e2).trans rfl)), rfl, N, K, g, hC, hM, hE, hL, hS, h3, hP, hT⟩

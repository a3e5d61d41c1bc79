theorem r_carrier : xS_carrier xRel := by
  rintro ⟨⟨c_fits, c_refusedBad, c_refusedNo, c_refusedFull⟩, ⟨n_n, n_count, n_generators⟩, ⟨z_count, z_ra, z_rb, z_rn, z_rc, z_rg⟩, ⟨t_length, t_bytes⟩, ⟨r_done, r_stopped, r_due, r_letter, r_value, r_figures, r_seen⟩, ⟨rt_n, rt_count, rt_generators⟩, ⟨e_n, e_steps, e_undoing, e_chains, e_leaving, e_found, e_foundAt, e_foundCount⟩, ⟨k_n, k_inOrder, k_starts, k_firsts, k_reached, k_reachedAt, k_reachedCount⟩⟩ ⟨m_now, m_held, m_past, m_pasts, m_refused, m_figures, m_isLaid, m_many, m_isMade, m_made, m_images, m_orbits, m_chains, m_isCarried, m_carried, m_carriedMany, m_isSorted, m_leasts, m_heads, m_headFrom, m_text, m_typed, m_at, m_fault, m_orders, m_pointsThen, m_letters, m_numbers, m_h⟩ v1 v2 ⟨N, K, g, hC, hM, hE, hL, hS, hR, hP, hT⟩
  have n8 := hM.2.1
  have n1 := hM.1
  have hg := hM.2.2.2.2.2.1
  have p256 := p2_8 n8
  have hn : n_n = nI N := hC.2.2.2.1
  have hm0 : m_now 0 = nI N := hM.2.2.2.1
  obtain ⟨b1, b2, b3, b4, e1, e2, h3⟩ := rf_2 hR
  subst hn
  rcases set_both n8 hm0 v1 with ⟨a, ha, rfl, s1, s2⟩ | ⟨s1, s2⟩
  · rcases set_both n8 hm0 v2 with ⟨t, ht, rfl, t1, t2⟩ | ⟨t1, t2⟩
    · have p1 := bc_pop (a := a) (by omega)
      have p2 := bc_pop (a := t) (by omega)
      have q1 := m_size (a := a) (by omega)
      have q2 := m_size (a := t) (by omega)
      by_cases hpp : nI (popc a) = nI (popc t)
      · obtain ⟨d1, d2, d3, d4, d5, d6, d7, d8, d9, d10, d11, d12, d13, d14, d15, ec, hF, hK⟩ := c_fit (undoing := e_undoing) (found := e_found) (foundAt := e_foundAt) (foundCount := e_foundCount) hC hE
        obtain ⟨hE', rfl, hA, hFi⟩ := hF
        have hF : engF N K g d1 d2 d4 d5 (nI N) d10 d11 d12 := ⟨hE', rfl, hA, hFi⟩
        obtain ⟨f1, f2, f3, f4, f5, f6, f7, em, hLd⟩ := m_lay (figs := m_figures) (images := m_images) hM hL
        obtain ⟨l1, l2, l3, l4⟩ := hLd
        subst l1
        have hLd : mLaid N K g (nI (ct_n N (gp_in K g))) f3 f4 f6 f7 := ⟨rfl, l2, l3, l4⟩
        obtain ⟨rl, hrl⟩ := hK
        obtain ⟨x1, x2, x3, x4, r, ef, hk', hr⟩ := c_firstMove n8 hg hE' (a := a) (t := t) (by omega) (by omega) hrl
        have hK : ∃ rl, kR x1 x2 x3 rl := ⟨x4, hk'⟩
        obtain ⟨y1, hy⟩ := m_carrier_row hM l3 ha ht f1 m_refused (1 : Int32) f3 f5 f6 f7
        rcases hr with ⟨hno, rfl⟩ | ⟨b, hb1, hb2, hb3, rfl⟩
        · rcases hy with ⟨-, ey⟩ | ⟨c, hc, -⟩
          · exact ⟨_, _, (xn_s s1).trans ((xb_f (by decide)).trans ((xn_s t1).trans ((xb_f (by decide)).trans ((xn_s p1).trans ((xn_s p2).trans ((xb_t hpp).trans ((xn_s ec).trans ((xn_s ef).trans ((xb_t rfl).trans rfl))))))))), (xn_s s2).trans ((xb_f (by decide)).trans ((xn_s t2).trans ((xb_f (by decide)).trans ((xn_s q1).trans ((xn_s q2).trans ((xb_t hpp).trans ((xn_s em).trans ((xn_s ey).trans rfl)))))))), rfl, N, K, g, hC, hM, engF_eng n1 n8 hF hK, Or.inr ⟨rfl, hLd⟩, hS, hR, hP, hT⟩
          · exact absurd ⟨c, hc.1, hc.2.1⟩ hno
        · have ok := gp_in_ok hg hb1
          have ew := mv_write (gp_ok_8 n8 ok).1 n8
          rcases hy with ⟨hno, -⟩ | ⟨c, hc, ey⟩
          · exact absurd ⟨b, hb1, hb2⟩ hno
          · have hbc : b = c := lst_one hg ⟨hb1, hb2, hb3⟩ hc
            subst hbc
            exact ⟨_, _, (xn_s s1).trans ((xb_f (by decide)).trans ((xn_s t1).trans ((xb_f (by decide)).trans ((xn_s p1).trans ((xn_s p2).trans ((xb_t hpp).trans ((xn_s ec).trans ((xn_s ef).trans ((xb_f (pv_ne (gp_ok_8 n8 ok).1)).trans ((xn_s ew).trans rfl)))))))))), (xn_s s2).trans ((xb_f (by decide)).trans ((xn_s t2).trans ((xb_f (by decide)).trans ((xn_s q1).trans ((xn_s q2).trans ((xb_t hpp).trans ((xn_s em).trans ((xn_s ey).trans rfl)))))))), rfl, N, K, g, hC, hM, engF_eng n1 n8 hF hK, Or.inr ⟨rfl, hLd⟩, hS, hR, hP, hT⟩
      · exact ⟨_, _, (xn_s s1).trans ((xb_f (by decide)).trans ((xn_s t1).trans ((xb_f (by decide)).trans ((xn_s p1).trans ((xn_s p2).trans ((xb_f hpp).trans ((xn_s e1).trans rfl))))))), (xn_s s2).trans ((xb_f (by decide)).trans ((xn_s t2).trans ((xb_f (by decide)).trans ((xn_s q1).trans ((xn_s q2).trans ((xb_f hpp).trans ((xn_s e2).trans rfl))))))), rfl, N, K, g, hC, hM, hE, hL, hS, h3, hP, hT⟩
    · exact ⟨_, _, (xn_s s1).trans ((xb_f (by decide)).trans ((xn_s t1).trans ((xb_t rfl).trans ((xn_s e1).trans rfl)))), (xn_s s2).trans ((xb_f (by decide)).trans ((xn_s t2).trans ((xb_t rfl).trans ((xn_s e2).trans rfl)))), rfl, N, K, g, hC, hM, hE, hL, hS, h3, hP, hT⟩
  · exact ⟨_, _, (xn_s s1).trans ((xb_t rfl).trans ((xn_s e1).trans rfl)), (xn_s s2).trans ((xb_t rfl).trans ((xn_s e2).trans rfl)), rfl, N, K, g, hC, hM, hE, hL, hS, h3, hP, hT⟩
theorem r_holds : xS_holds xRel := by
  rintro ⟨⟨c_fits, c_refusedBad, c_refusedNo, c_refusedFull⟩, ⟨n_n, n_count, n_generators⟩, ⟨z_count, z_ra, z_rb, z_rn, z_rc, z_rg⟩, ⟨t_length, t_bytes⟩, ⟨r_done, r_stopped, r_due, r_letter, r_value, r_figures, r_seen⟩, ⟨rt_n, rt_count, rt_generators⟩, ⟨e_n, e_steps, e_undoing, e_chains, e_leaving, e_found, e_foundAt, e_foundCount⟩, ⟨k_n, k_inOrder, k_starts, k_firsts, k_reached, k_reachedAt, k_reachedCount⟩⟩ ⟨m_now, m_held, m_past, m_pasts, m_refused, m_figures, m_isLaid, m_many, m_isMade, m_made, m_images, m_orbits, m_chains, m_isCarried, m_carried, m_carriedMany, m_isSorted, m_leasts, m_heads, m_headFrom, m_text, m_typed, m_at, m_fault, m_orders, m_pointsThen, m_letters, m_numbers, m_h⟩ v1 ⟨N, K, g, hC, hM, hE, hL, hS, hR, hP, hT⟩
  have n8 := hM.2.1
  have n1 := hM.1
  have hg := hM.2.2.2.2.2.1
  have p256 := p2_8 n8
  have hn : n_n = nI N := hC.2.2.2.1
  have hm0 : m_now 0 = nI N := hM.2.2.2.1
  obtain ⟨b1, b2, b3, b4, e1, e2, h3⟩ := rf_2 hR
  subst hn
  rcases set_both n8 hm0 v1 with ⟨a, ha, rfl, s1, s2⟩ | ⟨s1, s2⟩
  · obtain ⟨d1, d2, d3, d4, d5, d6, d7, d8, d9, d10, d11, d12, d13, d14, d15, ec, hF, hK⟩ := c_fit (undoing := e_undoing) (found := e_found) (foundAt := e_foundAt) (foundCount := e_foundCount) hC hE
    obtain ⟨hE', rfl, hA, hFi⟩ := hF
    have hF : engF N K g d1 d2 d4 d5 (nI N) d10 d11 d12 := ⟨hE', rfl, hA, hFi⟩
    obtain ⟨f1, f2, f3, f4, f5, f6, f7, em, hLd⟩ := m_lay (figs := m_figures) (images := m_images) hM hL
    obtain ⟨l1, l2, l3, l4⟩ := hLd
    subst l1
    have hLd : mLaid N K g (nI (ct_n N (gp_in K g))) f3 f4 f6 f7 := ⟨rfl, l2, l3, l4⟩
    have ek := c_countWith n8 hg hA hFi ha
    obtain ⟨y1, ey⟩ := m_holds_row hM l3 ha f1
    have il := imL_le (K := K) (g := g) n8 a
    have ip := imL_pos n8 hg ha
    have so := stb_order n8 hg ha
    have l40 := ct_lv_le n8 hg (k := 8) (Nat.le_refl _)
    have ehm : f_X1_howMany d5 = some (nI (ct_lv K g 8)) := by rw [← show d5 0 = nI (ct_lv K g 8) from hE'.2.2.2 0 (by omega)]; rfl
    have hnl : ¬ nI (imL N K g a).length ≤ (0 : Int32) := by rw [show (0 : Int32) = nI 0 from rfl, n_le (by omega) (by omega)]; omega
    have hne : ¬ nI (imL N K g a).length = (0 : Int32) := by rw [show (0 : Int32) = nI 0 from rfl, n_ieq (by omega) (by omega)]; omega
    refine ⟨_, _, (xn_s s1).trans ((xb_f (by decide)).trans ((xn_s ec).trans ((xn_s ek).trans ((xb_f hnl).trans ((xn_s ehm).trans ((xk_t hne).trans rfl)))))), (xn_s s2).trans ((xb_f (by decide)).trans ((xn_s em).trans ((xn_s ey).trans rfl))), ?_, N, K, g, hC, hM, engF_eng n1 n8 hF hK, Or.inr ⟨rfl, hLd⟩, hS, hR, hP, hT⟩
    show nI (ct_lv K g 8) / nI (imL N K g a).length = nI (stb N K g a a)
    rw [pk_div (by omega) ip (by omega), ← ct_order n8 hg, so, Nat.mul_div_cancel_left _ ip]
  · exact ⟨_, _, (xn_s s1).trans ((xb_t rfl).trans ((xn_s e1).trans rfl)), (xn_s s2).trans ((xb_t rfl).trans ((xn_s e2).trans rfl)), rfl, N, K, g, hC, hM, hE, hL, hS, h3, hP, hT⟩

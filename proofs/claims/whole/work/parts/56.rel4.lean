theorem tell_ok {N K : Nat} {g : Nat → Nat → Nat} {n_n n_count bad no full z_count t_length typed pasts : Int32} {gens now refused : Nat → Int32} (hC : cN N K g n_n n_count gens) (hM : mN N K g now) (hR : rfs bad no full refused) (hz : z_count = pasts) (ht : t_length = typed) {b : Nat} (hb : b ≤ 6) : ∃ r, f_X7_tell bad no full n_n n_count z_count t_length (nI b) = some r ∧ f_X8_toldOf now pasts refused typed (nI b) = some r := by
  have v4 : vp_in ((4 : Int32) - (4 : Int32)) 5 := vp_in_nI (n := 0) (by decide) (by decide)
  have v5 : vp_in ((5 : Int32) - (4 : Int32)) 5 := vp_in_nI (n := 1) (by decide) (by decide)
  match b, hb with
  | 0, _ => exact ⟨bad, xb_t rfl, (xb_f (by decide)).trans ((xk_t (vp_in_nI (by decide) (by decide))).trans (congrArg some hR.1))⟩
  | 1, _ => exact ⟨no, (xb_f (by decide)).trans (xb_t rfl), (xb_f (by decide)).trans ((xk_t (vp_in_nI (by decide) (by decide))).trans (congrArg some hR.2.1))⟩
  | 2, _ => exact ⟨full, (xb_f (by decide)).trans ((xb_f (by decide)).trans (xb_t rfl)), (xb_f (by decide)).trans ((xk_t (vp_in_nI (by decide) (by decide))).trans (congrArg some hR.2.2))⟩
  | 3, _ => exact ⟨typed, (xb_f (by decide)).trans ((xb_f (by decide)).trans ((xb_f (by decide)).trans ((xb_t rfl).trans (congrArg some ht)))), (xb_t (by decide)).trans (xb_t rfl)⟩
  | 4, _ => exact ⟨n_n, (xb_f (by decide)).trans ((xb_f (by decide)).trans ((xb_f (by decide)).trans ((xb_f (by decide)).trans (xb_t rfl)))), (xb_t (by decide)).trans ((xb_f (by decide)).trans ((xb_f (by decide)).trans ((xk_t v4).trans (congrArg some (hM.2.2.2.1.trans hC.2.2.2.1.symm)))))⟩
  | 5, _ => exact ⟨n_count, (xb_f (by decide)).trans ((xb_f (by decide)).trans ((xb_f (by decide)).trans ((xb_f (by decide)).trans ((xb_f (by decide)).trans (xb_t rfl))))), (xb_t (by decide)).trans ((xb_f (by decide)).trans ((xb_f (by decide)).trans ((xk_t v5).trans (congrArg some (hM.2.2.2.2.1.trans hC.2.2.2.2.1.symm)))))⟩
  | 6, _ => exact ⟨pasts, (xb_f (by decide)).trans ((xb_f (by decide)).trans ((xb_f (by decide)).trans ((xb_f (by decide)).trans ((xb_f (by decide)).trans ((xb_f (by decide)).trans (congrArg some hz)))))), (xb_t (by decide)).trans ((xb_f (by decide)).trans (xb_t (by decide)))⟩
  | n + 7, h => omega
theorem r_told : xS_told xRel := by
  rintro ⟨⟨c_fits, c_refusedBad, c_refusedNo, c_refusedFull⟩, ⟨n_n, n_count, n_generators⟩, ⟨z_count, z_ra, z_rb, z_rn, z_rc, z_rg⟩, ⟨t_length, t_bytes⟩, ⟨r_done, r_stopped, r_due, r_letter, r_value, r_figures, r_seen⟩, ⟨rt_n, rt_count, rt_generators⟩, ⟨e_n, e_steps, e_undoing, e_chains, e_leaving, e_found, e_foundAt, e_foundCount⟩, ⟨k_n, k_inOrder, k_starts, k_firsts, k_reached, k_reachedAt, k_reachedCount⟩⟩ ⟨m_now, m_held, m_past, m_pasts, m_refused, m_figures, m_isLaid, m_many, m_isMade, m_made, m_images, m_orbits, m_chains, m_isCarried, m_carried, m_carriedMany, m_isSorted, m_leasts, m_heads, m_headFrom, m_text, m_typed, m_at, m_fault, m_orders, m_pointsThen, m_letters, m_numbers, m_h⟩ v1 ⟨N, K, g, hC, hM, hE, hL, hS, hR, hP, hT⟩
  obtain ⟨P, p1, p2, p3, p4⟩ := hP
  obtain ⟨L, l1, l2, l3, l4⟩ := hT
  by_cases h0 : v1 < 0
  · obtain ⟨b1, b2, b3, b4, e1, e2, h3⟩ := rf_2 hR
    exact ⟨_, _, (xb_t h0).trans ((xn_s e1).trans rfl), (xn_s (xb_t h0)).trans ((xb_t rfl).trans ((xn_s e2).trans rfl)), rfl, N, K, g, hC, hM, hE, hL, hS, h3, ⟨P, p1, p2, p3, p4⟩, L, l1, l2, l3, l4⟩
  · by_cases h1 : v1 ≤ (6 : Int32)
    · obtain ⟨b, hb, rfl⟩ := nI_of h0
      have hb2 : b ≤ 6 := by rw [show (6 : Int32) = nI 6 from rfl, n_le hb (by omega)] at h1; exact h1
      have hin : f_X8_in (nI b) (0 : Int32) (6 : Int32) = some (1 : Int32) := (xb_f h0).trans (xb_f (by rw [show (6 : Int32) = nI 6 from rfl, n_lt (by omega) hb]; omega))
      obtain ⟨r, e1, e2⟩ := tell_ok hC hM hR (p2.trans p3.symm) (l2.trans l3.symm) hb2
      exact ⟨_, _, (xb_f h0).trans ((xb_t h1).trans ((xn_s e1).trans rfl)), (xn_s hin).trans ((xb_f (by decide)).trans ((xn_s e2).trans rfl)), rfl, N, K, g, hC, hM, hE, hL, hS, hR, ⟨P, p1, p2, p3, p4⟩, L, l1, l2, l3, l4⟩
    · obtain ⟨b1, b2, b3, b4, e1, e2, h3⟩ := rf_2 hR
      have hin : f_X8_in v1 (0 : Int32) (6 : Int32) = some (0 : Int32) := (xb_f h0).trans (xb_t (Int32.not_le.mp h1))
      exact ⟨_, _, (xb_f h0).trans ((xb_f h1).trans ((xn_s e1).trans rfl)), (xn_s hin).trans ((xb_t rfl).trans ((xn_s e2).trans rfl)), rfl, N, K, g, hC, hM, hE, hL, hS, h3, ⟨P, p1, p2, p3, p4⟩, L, l1, l2, l3, l4⟩

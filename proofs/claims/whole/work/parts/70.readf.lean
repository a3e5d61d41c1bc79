set_option maxHeartbeats 4000000 in
theorem r_reads : xS_reads xRel := by
  rintro ⟨⟨c_fits, c_refusedBad, c_refusedNo, c_refusedFull⟩, ⟨n_n, n_count, n_generators⟩, ⟨z_count, z_ra, z_rb, z_rn, z_rc, z_rg⟩, ⟨t_length, t_bytes⟩, ⟨r_done, r_stopped, r_due, r_letter, r_value, r_figures, r_seen⟩, ⟨rt_n, rt_count, rt_generators⟩, ⟨e_n, e_steps, e_undoing, e_chains, e_leaving, e_found, e_foundAt, e_foundCount⟩, ⟨k_n, k_inOrder, k_starts, k_firsts, k_reached, k_reachedAt, k_reachedCount⟩⟩ ⟨m_now, m_held, m_past, m_pasts, m_refused, m_figures, m_isLaid, m_many, m_isMade, m_made, m_images, m_orbits, m_chains, m_isCarried, m_carried, m_carriedMany, m_isSorted, m_leasts, m_heads, m_headFrom, m_text, m_typed, m_at, m_fault, m_orders, m_pointsThen, m_letters, m_numbers, m_h⟩  ⟨N, K, g, hC, hM, hE, hL, hS, hR', hP, hT⟩
  have n8 := hM.2.1
  have n1 := hM.1
  have hn : n_n = nI N := hC.2.2.2.1
  have hm0 : m_now 0 = nI N := hM.2.2.2.1
  obtain ⟨L, l1, rfl, rfl, l4⟩ := hT
  have hT' : rd_T L t_bytes m_text := ⟨l1, l4⟩
  have hT : txt (nI L) t_bytes m_text (nI L) := ⟨L, l1, rfl, rfl, l4⟩
  have hCc : cN N K g n_n n_count (va_cpy n_generators rt_generators 0 0 3) := cN_cong hC (fun i hi => cpy3 hi)
  have e1 : f_X4_copy rt_n rt_count rt_generators n_n n_count n_generators = some (n_n, n_count, va_cpy n_generators rt_generators 0 0 3) := rfl
  obtain ⟨j, j1, j2, jG, hj⟩ := rd_nx hT' (Nat.zero_le L)
  have hG := jG (0 : Int32) (-1 : Int32) (0 : Int32) r_letter r_value r_figures r_seen n_n n_count (va_cpy n_generators rt_generators 0 0 3)
  rcases hj with ⟨jl, jb, jh⟩ | ⟨hjL, jh⟩
  · have jh0 : f_X8_here m_text (nI L) (0 : Int32) = some (nI j, m_text j) := jh
    have hne := rd_txne hT' jl
    obtain ⟨at', f', o', p', l', v', ex, hx⟩ := rd_parse hT' (N := N) (K := K) (g := g) L j 0 N m_letters m_numbers (-1 : Int32) r_letter r_value r_figures r_seen n_n n_count (va_cpy n_generators rt_generators 0 0 3) (by omega) (by omega) (by omega) (Or.inl ⟨rfl, K, g, ⟨rfl, rfl, rfl⟩, hCc⟩)
    have ex : xL (f_X8_reads_L1 m_text (nI L)) (nI j, (-1 : Int32), (0 : Int32), m_now 0, m_letters, m_numbers) = some (at', f', o', p', l', v') := by rw [hm0]; exact ex
    rcases hx with ⟨f, f1, rfl, R, hR, hF⟩ | ⟨rfl, k', n', st, rn', rc', rg', y4, y5, y6, y7, q1, q2, rfl, hJ, hR, q6⟩
    · obtain ⟨w1, w2, w3, w4, w5, w6, w7, w8, w9, w10, er⟩ := rd_rdF (z1 := r_done) (z2 := r_stopped) (z3 := r_due) (z8 := rt_n) (z9 := rt_count) l1 (hG _ hR) hF
      have hfn : ¬ nI f = (-1 : Int32) := rd_fne (by omega)
      exact ⟨_, _, (xn_s er).trans ((xb_f hfn).trans rfl), (xn_s jh0).trans ((xb_f hne).trans ((xn_s ex).trans ((xb_f hfn).trans rfl))), rfl, N, K, g, hC, hM, hE, hL, hS, hR', hP, hT⟩
    · have hk1 : 1 ≤ k' := by
        rcases Nat.eq_zero_or_pos k' with w | w
        · have e := q6 w
          rw [rd_hereat hT' jl jb] at e
          injection e with e
          injection e with e2 e3
          exact absurd e3 hne
        · exact w
      have hkn : ¬ nI k' ≤ (0 : Int32) := by rw [show (0 : Int32) = nI 0 from rfl, n_le (by omega) (by omega)]; omega
      have er : f_X3_read r_done r_stopped r_due r_letter r_value r_figures r_seen rt_n rt_count rt_generators (nI L) t_bytes n_n n_count n_generators = some (nI k', st, (0 : Int32), y4, y5, y6, y7, rn', rc', rg', (-1 : Int32)) := (xn_s e1).trans ((xn_s (hG _ hR)).trans ((xb_f hkn).trans (xb_t rfl)))
      obtain ⟨held, eh, hh⟩ := m_hold m_now m_held
      have hMh := mN_cong hM hh
      rcases hJ with ⟨rfl, K', g', hrun, hC'⟩ | ⟨s, s1, s2, s3, hs, rfl, hrun, her, -⟩
      · obtain ⟨now', figs', il', is', hG2, hM', hz⟩ := rd_runs hM (o := k') (by omega) held m_past m_figures m_pasts at' (-1 : Int32) p' m_isLaid m_isSorted k' n' K' g' hrun (Nat.le_refl _)
        have hzz : il' = (0 : Int32) ∧ is' = (0 : Int32) := by
          rcases hz with w | w
          · omega
          · exact w
        obtain ⟨rfl, rfl⟩ := hzz
        have eL2 := hG2 _ (xL_r (xb_t (Int32.le_refl _)))
        obtain ⟨P, hP⟩ := hP
        obtain ⟨P', z', ra', rb', rn2, rc2, rg2, past', pasts', p1, p2, hP'⟩ := p_push (ra := z_ra) (rb := z_rb) hP hC hMh
        have hkp : f_X7_keepState c_fits n_n n_count n_generators z_count z_ra z_rb z_rn z_rc z_rg = some ((0 : Int32), z', ra', rb', rn2, rc2, rg2) := (xn_s p1).trans rfl
        have e2 : f_X4_copy n_n n_count n_generators rn' rc' rg' = some (rn', rc', va_cpy rg' n_generators 0 0 3) := rfl
        exact ⟨_, _, (xn_s er).trans ((xb_t rfl).trans ((xb_t rfl).trans ((xn_s hkp).trans ((xn_s e2).trans rfl)))), (xn_s jh0).trans ((xb_f hne).trans ((xn_s ex).trans ((xb_t rfl).trans ((xn_s eh).trans ((xn_s eL2).trans ((xn_s p2).trans rfl)))))), rfl, n', K', g', cN_cong hC' (fun i hi => cpy3 hi), hM', eng_0 hE, Or.inl rfl, Or.inl rfl, hR', ⟨P', hP'⟩, hT⟩
      · obtain ⟨now', figs', il', is', hG2, hM', -⟩ := rd_runs hM (o := k') (by omega) held m_past m_figures m_pasts at' (-1 : Int32) p' m_isLaid m_isSorted s s1 s2 s3 hrun (by omega)
        obtain ⟨figs2, r, ed, hr⟩ := rd_dn hM' her (k := s) (by omega) rfl rfl figs' il' is'
        obtain ⟨now2, e3, hn2⟩ := rd_back5 held now'
        have hsk : ¬ nI k' ≤ nI s := by rw [n_le (by omega) (by omega)]; omega
        have eL2 := hG2 _ (xL_r ((xb_f hsk).trans ((xn_s ed).trans ((xb_f hr).trans ((xn_s e3).trans rfl)))))
        have hsn : ¬ nI s = (-1 : Int32) := rd_fne (by omega)
        exact ⟨_, _, (xn_s er).trans ((xb_t rfl).trans ((xb_f hsn).trans rfl)), (xn_s jh0).trans ((xb_f hne).trans ((xn_s ex).trans ((xb_t rfl).trans ((xn_s eh).trans ((xn_s eL2).trans rfl))))), rfl, N, K, g, hC, mN_cong hMh hn2, hE, Or.inl rfl, Or.inl rfl, hR', hP, hT⟩
  · have jh0 : f_X8_here m_text (nI L) (0 : Int32) = some (nI L, (-1 : Int32)) := jh
    rw [hjL] at hG
    have er : f_X3_read r_done r_stopped r_due r_letter r_value r_figures r_seen rt_n rt_count rt_generators (nI L) t_bytes n_n n_count n_generators = some ((0 : Int32), (-1 : Int32), (0 : Int32), r_letter, r_value, r_figures, r_seen, n_n, n_count, va_cpy n_generators rt_generators 0 0 3, nI L) := (xn_s e1).trans ((xn_s (hG _ (rd_end hT' _ _ _ _ _ _ _ _ _ _))).trans (xb_t (Int32.le_refl _)))
    have hLn : ¬ nI L = (-1 : Int32) := rd_fne (by omega)
    exact ⟨_, _, (xn_s er).trans ((xb_f hLn).trans rfl), (xn_s jh0).trans ((xb_t rfl).trans rfl), rfl, N, K, g, hC, hM, hE, hL, hS, hR', hP, hT⟩

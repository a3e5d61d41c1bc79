/-- the texts, on both sides -/
def txt (t_length : Int32) (t_bytes text : Nat → Int32) (typed : Int32) : Prop := ∃ L, L ≤ 80 ∧ t_length = nI L ∧ typed = nI L ∧ ∀ i, i < L → t_bytes i = text i ∧ ∃ b, b < 128 ∧ text i = nI b
/-- class and reference stand alike -/
def xRel (ct : xCT) (mt : xMT) : Prop := match ct, mt with
  | ((fits, bad, no, full), (n_n, n_count, gens), (z_count, _, _, z_rn, z_rc, z_rg), (t_length, t_bytes), _, _, (e_n, steps, _, chains, leaving, _, _, _), (k_n, io, st, fi, rd, ra, cnt)), (now, _, past, pasts, refused, _, isLaid, many, isMade, made, _, orbits, mchains, _, _, _, isSorted, leasts, heads, headFrom, text, typed, _) => ∃ N K g, cN N K g n_n n_count gens ∧ mN N K g now ∧ eng N K g fits e_n steps chains leaving k_n io st fi rd ra cnt ∧ mLay N K g isLaid many isMade made orbits mchains ∧ mSort N K g isSorted leasts heads headFrom ∧ rfs bad no full refused ∧ (∃ P, pst P z_count z_rn z_rc z_rg past pasts) ∧ txt t_length t_bytes text typed
theorem r_order : xS_order xRel := by
  rintro ⟨⟨c_fits, c_refusedBad, c_refusedNo, c_refusedFull⟩, ⟨n_n, n_count, n_generators⟩, ⟨z_count, z_ra, z_rb, z_rn, z_rc, z_rg⟩, ⟨t_length, t_bytes⟩, ⟨r_done, r_stopped, r_due, r_letter, r_value, r_figures, r_seen⟩, ⟨rt_n, rt_count, rt_generators⟩, ⟨e_n, e_steps, e_undoing, e_chains, e_leaving, e_found, e_foundAt, e_foundCount⟩, ⟨k_n, k_inOrder, k_starts, k_firsts, k_reached, k_reachedAt, k_reachedCount⟩⟩ ⟨m_now, m_held, m_past, m_pasts, m_refused, m_figures, m_isLaid, m_many, m_isMade, m_made, m_images, m_orbits, m_chains, m_isCarried, m_carried, m_carriedMany, m_isSorted, m_leasts, m_heads, m_headFrom, m_text, m_typed, m_at, m_fault, m_orders, m_pointsThen, m_letters, m_numbers, m_h⟩ ⟨N, K, g, hC, hM, hE, hL, hS, hR, hP, hT⟩
  obtain ⟨d1, d2, d3, d4, d5, d6, d7, d8, d9, d10, d11, d12, d13, d14, d15, ec, hF, hK⟩ := c_fit (undoing := e_undoing) (found := e_found) (foundAt := e_foundAt) (foundCount := e_foundCount) hC hE
  obtain ⟨f1, f2, f3, f4, f5, f6, f7, em, hLd⟩ := m_lay (figs := m_figures) (images := m_images) hM hL
  refine ⟨_, _, (xn_s ec).trans rfl, (xn_s em).trans rfl, ?_, N, K, g, hC, hM, engF_eng hM.1 hM.2.1 hF hK, Or.inr ⟨rfl, hLd⟩, hS, hR, hP, hT⟩
  show d5 0 = f2
  rw [hF.1.2.2.2 0 (by omega), hLd.1, ct_order hM.2.1 hM.2.2.2.2.2.1]

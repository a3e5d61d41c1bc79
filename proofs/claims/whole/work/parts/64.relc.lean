theorem ch_le {P : Nat → Int32 → Prop} {m : Nat} (H : ∀ b, b < m → ∃ r, P b r) : ∃ rr : Nat → Int32, ∀ b, b < m → P b (rr b) := by
  have H2 : ∀ b : Nat, ∃ r : Int32, b < m → P b r := fun b => by
    by_cases hb : b < m
    · obtain ⟨r, hr⟩ := H b hb
      exact ⟨r, fun _ => hr⟩
    · exact ⟨0, fun w => absurd w hb⟩
  exact Classical.axiomOfChoice H2
/-- the digest of a row of answers -/
def dgs (rr : Nat → Int32) (h : Int64) : Nat → Int64
  | 0 => h
  | k + 1 => (31 : Int64) * dgs rr h k + (rr k).toInt64
theorem dg_tell {N K : Nat} {g : Nat → Nat → Nat} {n_n n_count bad no full z_count t_length typed pasts : Int32} {gens now refused : Nat → Int32} (hC : cN N K g n_n n_count gens) (hM : mN N K g now) (hR : rfs bad no full refused) (hz : z_count = pasts) (ht : t_length = typed) (h : Int64) :
    ∃ r, xL (f_X7_digest_L1 bad no full n_n n_count z_count t_length) (h, (0 : Int32)) = some r ∧ xL (f_X8_digest_L1 now pasts refused typed) (h, (0 : Int32)) = some r := by
  obtain ⟨rr, hrr⟩ := ch_le (m := 7) (P := fun b r => f_X7_tell bad no full n_n n_count z_count t_length (nI b) = some r ∧ f_X8_toldOf now pasts refused typed (nI b) = some r) (fun b hb => tell_ok hC hM hR hz ht (by omega))
  refine ⟨dgs rr h 7, ?_, ?_⟩
  · refine xL_up (fun k => (dgs rr h k, nI k)) 7 (fun k hk => ?_) (xb_t (by decide))
    have h6 : ¬ (6 : Int32) < nI k := by rw [show (6 : Int32) = nI 6 from rfl, n_lt (by omega) (by omega)]; omega
    refine (xb_f h6).trans ((xn_s (hrr k hk).1).trans ?_)
    show some (Sum.inl ((31 : Int64) * dgs rr h k + (rr k).toInt64, nI k + (1 : Int32))) = _
    rw [n_add1]; rfl
  · refine xL_up (fun k => (dgs rr h k, nI k)) 7 (fun k hk => ?_) (xb_t (by decide))
    have h6 : ¬ (7 : Int32) ≤ nI k := by rw [show (7 : Int32) = nI 7 from rfl, n_le (by omega) (by omega)]; omega
    refine (xb_f h6).trans ((xn_s (hrr k hk).2).trans ?_)
    show some (Sum.inl ((31 : Int64) * dgs rr h k + (rr k).toInt64, nI k + (1 : Int32))) = _
    rw [n_add1]; rfl
theorem dg_gens {N K : Nat} {g : Nat → Nat → Nat} {n_n n_count : Int32} {gens now : Nat → Int32} (hC : cN N K g n_n n_count gens) (hM : mN N K g now) (h : Int64) :
    ∃ r, xL (f_X7_digest_L2 n_count gens n_n) (h, (0 : Int32)) = some r ∧ xL (f_X8_digest_L2 now) (h, (0 : Int32)) = some r := by
  obtain ⟨c1, c2, c3, rfl, rfl, c6, c7⟩ := hC
  have m1 : now 1 = nI K := hM.2.2.2.2.1
  refine ⟨dgs (fun k => nI (cd_n (g k) N)) h K, ?_, ?_⟩
  · refine xL_up (fun k => (dgs (fun k => nI (cd_n (g k) N)) h k, nI k)) K (fun k hk => ?_) (xb_t (by rw [n_le (by omega) (by omega)]; omega))
    have hk2 : ¬ nI K ≤ nI k := by rw [n_le (by omega) (by omega)]; omega
    have eg : f_X4_generator (nI K) gens (nI k) = some (pv (g k)) := by
      refine (xb_f (n_lt0 (by omega))).trans ((xb_f hk2).trans ((xk_t (vp_in_nI (by omega) (by omega))).trans ?_))
      rw [n_cl (by omega), c7 k hk]
    have ew := mv_write (gp_ok_8 c2 (c6 k hk)).1 c2
    refine (xb_f hk2).trans ((xn_s eg).trans ((xn_s ew).trans ?_))
    show some (Sum.inl ((31 : Int64) * dgs (fun k => nI (cd_n (g k) N)) h k + (nI (cd_n (g k) N)).toInt64, nI k + (1 : Int32))) = _
    rw [n_add1]; rfl
  · refine xL_up (fun k => (dgs (fun k => nI (cd_n (g k) N)) h k, nI k)) K (fun k hk => ?_) (xb_t (by rw [m1, n_le (by omega) (by omega)]; omega))
    have hk2 : ¬ now 1 ≤ nI k := by rw [m1, n_le (by omega) (by omega)]; omega
    have e2k : (2 : Int32) + nI k = nI (2 + k) := n_addn 2 k
    have hnk : now ((2 : Int32) + nI k).toNatClampNeg = nI (cd_n (g k) N) := by rw [e2k, n_cl (by omega)]; exact hM.2.2.2.2.2.2 k hk
    have hvp : vp_in ((2 : Int32) + nI k) 5 := by rw [e2k]; exact vp_in_nI (by omega) (by omega)
    have emx : f_X8_mix (dgs (fun k => nI (cd_n (g k) N)) h k) (now ((2 : Int32) + nI k).toNatClampNeg) = some ((31 : Int64) * dgs (fun k => nI (cd_n (g k) N)) h k + (nI (cd_n (g k) N)).toInt64) := by rw [hnk]; rfl
    refine (xb_f hk2).trans ((xk_t hvp).trans ((xn_s emx).trans ?_))
    show some (Sum.inl ((31 : Int64) * dgs (fun k => nI (cd_n (g k) N)) h k + (nI (cd_n (g k) N)).toInt64, nI k + (1 : Int32))) = _
    rw [n_add1]; rfl
theorem dg_pts {N K : Nat} {g : Nat → Nat → Nat} {e_n : Int32} {steps chains leaving : Nat → Int32} {k_n : Int32} {io st fi : Nat → Int32} (hF : engF N K g e_n steps chains leaving k_n io st fi) {now : Nat → Int32} (hM : mN N K g now) {figs isMade made images orbits mch : Nat → Int32} {many : Int32} (hLd : mLaid N K g many isMade made orbits mch) (h : Int64) :
    ∃ r figs' many' isMade' made' images' orbits' mch', xL (f_X7_digest_L3 (nI N) chains k_n fi) (h, (0 : Int32)) = some r ∧ xL (f_X8_digest_L3 now) (figs, (1 : Int32), many, isMade, made, images, orbits, mch, h, (0 : Int32)) = some (figs', (1 : Int32), many', isMade', made', images', orbits', mch', r) ∧ mLaid N K g many' isMade' made' orbits' mch' := by
  have n8 := hM.2.1
  have hg := hM.2.2.2.2.2.1
  have m0 : now 0 = nI N := hM.2.2.2.1
  obtain ⟨x1, x2, x3, x4, x5, x6, x7, em0, hl0⟩ := m_lay (figs := figs) (images := images) hM (Or.inr ⟨rfl, hLd⟩)
  obtain ⟨rr, hrr⟩ := ch_le (m := 3 * N) (P := fun k r => f_X7_tellPoint chains k_n fi (nI (k / 3)) (nI (k % 3)) = some r) (fun k hk => by
    obtain ⟨r, h1, -⟩ := tp_ok n8 hg hF em0 hl0 (p := k / 3) (w := k % 3) (by omega) (by omega)
    exact ⟨r, h1⟩)
  have hc : xL (f_X7_digest_L3 (nI N) chains k_n fi) (h, (0 : Int32)) = some (dgs rr h (3 * N)) := by
    refine xL_up (fun p => (dgs rr h (3 * p), nI p)) N (fun p hp => ?_) (xb_t (by rw [n_le (by omega) (by omega)]; omega))
    have hi : xL (f_X7_digest_L4 chains k_n fi (nI p)) (dgs rr h (3 * p), (0 : Int32)) = some (dgs rr h (3 * p + 3)) := by
      refine xL_up (fun w => (dgs rr h (3 * p + w), nI w)) 3 (fun w hw => ?_) (xb_t (by decide))
      have hr : f_X7_tellPoint chains k_n fi (nI ((3 * p + w) / 3)) (nI ((3 * p + w) % 3)) = some (rr (3 * p + w)) := hrr (3 * p + w) (by omega)
      rw [show (3 * p + w) / 3 = p by omega, show (3 * p + w) % 3 = w by omega] at hr
      have h2 : ¬ (2 : Int32) < nI w := by rw [show (2 : Int32) = nI 2 from rfl, n_lt (by omega) (by omega)]; omega
      refine (xb_f h2).trans ((xn_s hr).trans ?_)
      show some (Sum.inl ((31 : Int64) * dgs rr h (3 * p + w) + (rr (3 * p + w)).toInt64, nI w + (1 : Int32))) = _
      rw [n_add1]; rfl
    have hp2 : ¬ nI N ≤ nI p := by rw [n_le (by omega) (by omega)]; omega
    refine (xb_f hp2).trans ((xn_s hi).trans ?_)
    show some (Sum.inl (dgs rr h (3 * p + 3), nI p + (1 : Int32))) = some (Sum.inl (dgs rr h (3 * (p + 1)), nI (p + 1)))
    rw [n_add1, show 3 * (p + 1) = 3 * p + 3 by omega]
  have hm := xL_for (body := f_X8_digest_L3 now) (P := fun r => ∃ figs' many' isMade' made' images' orbits' mch', r = (figs', (1 : Int32), many', isMade', made', images', orbits', mch', dgs rr h (3 * N)) ∧ mLaid N K g many' isMade' made' orbits' mch')
    (fun k s => ∃ figs' many' isMade' made' images' orbits' mch', s = (figs', (1 : Int32), many', isMade', made', images', orbits', mch', dgs rr h k, nI k) ∧ mLaid N K g many' isMade' made' orbits' mch') (3 * N) (fun k s hk hI => ?_) (fun s hI => ?_) (3 * N) 0 (by omega) (figs, (1 : Int32), many, isMade, made, images, orbits, mch, h, (0 : Int32)) ⟨figs, many, isMade, made, images, orbits, mch, rfl, hLd⟩
  · obtain ⟨r, er, a1, a2, a3, a4, a5, a6, a7, rfl, hl⟩ := hm
    exact ⟨_, a1, a2, a3, a4, a5, a6, a7, hc, er, hl⟩
  · obtain ⟨a1, a2, a3, a4, a5, a6, a7, rfl, hl⟩ := hI
    obtain ⟨y1, y2, y3, y4, y5, y6, y7, em, hl2⟩ := m_lay (figs := a1) (images := a5) hM (Or.inr ⟨rfl, hl⟩)
    obtain ⟨r, h1, h2⟩ := tp_ok n8 hg hF em hl2 (p := k / 3) (w := k % 3) (by omega) (by omega)
    have hrk : r = rr k := Option.some.inj (h1.symm.trans (hrr k hk))
    subst hrk
    have e3 : nI k / (3 : Int32) = nI (k / 3) := pk_div (d := 3) (by omega) (by decide) (by decide)
    have e4 : nI k - nI k / (3 : Int32) * (3 : Int32) = nI (k % 3) := pk_rem (d := 3) (by omega) (by decide) (by decide)
    have h2' : f_X8_ofPoint now a1 (1 : Int32) a2 a3 a4 a5 a6 a7 (nI k / (3 : Int32)) (nI k - nI k / (3 : Int32) * (3 : Int32)) = some (y1, 1, y2, y3, y4, y5, y6, y7, rr k) := by rw [e4, e3]; exact h2
    have hk2 : ¬ (3 : Int32) * now 0 ≤ nI k := by rw [m0, show (3 : Int32) = nI 3 from rfl, n_mul, n_le (by omega) (by omega)]; omega
    refine Or.inl ⟨(y1, (1 : Int32), y2, y3, y4, y5, y6, y7, dgs rr h (k + 1), nI (k + 1)), (xb_f hk2).trans ((xn_s h2').trans ?_), y1, y2, y3, y4, y5, y6, y7, rfl, hl2⟩
    show some (Sum.inl (y1, (1 : Int32), y2, y3, y4, y5, y6, y7, (31 : Int64) * dgs rr h k + (rr k).toInt64, nI k + (1 : Int32))) = _
    rw [n_add1]; rfl
  · obtain ⟨a1, a2, a3, a4, a5, a6, a7, rfl, hl⟩ := hI
    have hk2 : (3 : Int32) * now 0 ≤ nI (3 * N) := by rw [m0, show (3 : Int32) = nI 3 from rfl, n_mul, n_le (by omega) (by omega)]; omega
    exact ⟨_, xb_t hk2, a1, a2, a3, a4, a5, a6, a7, rfl, hl⟩
theorem dg_inner {N K : Nat} {g : Nat → Nat → Nat} {now : Nat → Int32} (hM : mN N K g now) {z : Nat} (hz : z ≤ N) {figs isC carried leasts heads headFrom : Nat → Int32} {cnt is : Int32} (hS : mSort N K g is leasts heads headFrom) (h : Int64) :
    ∃ figs' isC' carried' cnt' is' leasts' heads' headFrom', xL (f_X8_digest_L5 (nI (hdL N K g z).length) now (nI z)) (figs, isC, carried, cnt, is, leasts, heads, headFrom, h, (0 : Int32)) = some (figs', isC', carried', cnt', is', leasts', heads', headFrom', dgL (hdL N K g z) h) ∧ mSort N K g is' leasts' heads' headFrom' := by
  have n8 := hM.2.1
  have hle := hdL_le (K := K) (g := g) n8 z
  have hm := xL_for (body := f_X8_digest_L5 (nI (hdL N K g z).length) now (nI z)) (P := fun r => ∃ figs' isC' carried' cnt' is' leasts' heads' headFrom', r = (figs', isC', carried', cnt', is', leasts', heads', headFrom', dgL (hdL N K g z) h) ∧ mSort N K g is' leasts' heads' headFrom')
    (fun k s => ∃ figs' isC' carried' cnt' is' leasts' heads' headFrom', s = (figs', isC', carried', cnt', is', leasts', heads', headFrom', dgL ((hdL N K g z).take k) h, nI k) ∧ mSort N K g is' leasts' heads' headFrom') (hdL N K g z).length (fun k s hk hI => ?_) (fun s hI => ?_) (hdL N K g z).length 0 (by omega) (figs, isC, carried, cnt, is, leasts, heads, headFrom, h, (0 : Int32)) ⟨figs, isC, carried, cnt, is, leasts, heads, headFrom, rfl, hS⟩
  · obtain ⟨r, er, a1, a2, a3, a4, a5, a6, a7, a8, rfl, hl⟩ := hm
    exact ⟨a1, a2, a3, a4, a5, a6, a7, a8, er, hl⟩
  · obtain ⟨a1, a2, a3, a4, a5, a6, a7, a8, rfl, hl⟩ := hI
    obtain ⟨y1, y2, y3, y4, y5, y6, y7, r, em, hs, -, hr⟩ := m_headsOf hM a1 a2 a3 a4 hl hz (nI k) (Int32.le_trans (by decide) (Int32.not_lt.mp (n_lt0 (a := k) (by omega))))
    have hrk := hr k (by omega) rfl
    rw [nth5_s (List.getElem?_eq_getElem hk)] at hrk
    subst hrk
    have hk2 : ¬ nI (hdL N K g z).length ≤ nI k := by rw [n_le (by omega) (by omega)]; omega
    refine Or.inl ⟨(y1, y2, y3, y4, (1 : Int32), y5, y6, y7, dgL ((hdL N K g z).take (k + 1)) h, nI (k + 1)), (xb_f hk2).trans ((xn_s em).trans ?_), y1, y2, y3, y4, 1, y5, y6, y7, rfl, Or.inr ⟨rfl, hs⟩⟩
    show some (Sum.inl (y1, y2, y3, y4, (1 : Int32), y5, y6, y7, (31 : Int64) * dgL ((hdL N K g z).take k) h + (nI (hdL N K g z)[k]).toInt64, nI k + (1 : Int32))) = _
    rw [n_add1, List.take_succ_eq_append_getElem hk]
    unfold dgL
    rw [List.foldl_append]
    rfl
  · obtain ⟨a1, a2, a3, a4, a5, a6, a7, a8, rfl, hl⟩ := hI
    refine ⟨_, xb_t (by rw [n_le (by omega) (by omega)]; omega), a1, a2, a3, a4, a5, a6, a7, a8, ?_, hl⟩
    rw [List.take_length]
noncomputable def dgh (N K : Nat) (g : Nat → Nat → Nat) (h : Int64) : Nat → Int64
  | 0 => h
  | z + 1 => dgL (hdL N K g z) ((31 : Int64) * dgh N K g h z + (nI (hdL N K g z).length).toInt64)
theorem dg_heads {N K : Nat} {g : Nat → Nat → Nat} {now : Nat → Int32} (hM : mN N K g now) {io st fi : Nat → Int32} (hA : kA N io st) (hFi : kF N K g fi) {figs isC carried leasts heads headFrom : Nat → Int32} {cnt is : Int32} (hS : mSort N K g is leasts heads headFrom) (h : Int64) :
    ∃ r figs' isC' carried' cnt' is' leasts' heads' headFrom', xL (f_X7_digest_L5 (nI N) (nI N) io st fi) (h, (0 : Int32)) = some r ∧ xL (f_X8_digest_L4 now) (figs, isC, carried, cnt, is, leasts, heads, headFrom, h, (0 : Int32)) = some (figs', isC', carried', cnt', is', leasts', heads', headFrom', r) ∧ mSort N K g is' leasts' heads' headFrom' := by
  have n8 := hM.2.1
  have m0 : now 0 = nI N := hM.2.2.2.1
  have hc : xL (f_X7_digest_L5 (nI N) (nI N) io st fi) (h, (0 : Int32)) = some (dgh N K g h (N + 1)) := by
    refine xL_up (fun z => (dgh N K g h z, nI z)) (N + 1) (fun z hz => ?_) (xb_t (by rw [n_lt (by omega) (by omega)]; omega))
    have hz2 : ¬ nI N < nI z := by rw [n_lt (by omega) (by omega)]; omega
    refine (xb_f hz2).trans ((xn_s (c_digestFirsts n8 hA hFi (by omega) (dgh N K g h z))).trans ?_)
    show some (Sum.inl (dgh N K g h (z + 1), nI z + (1 : Int32))) = _
    rw [n_add1]
  have hm := xL_for (body := f_X8_digest_L4 now) (P := fun r => ∃ figs' isC' carried' cnt' is' leasts' heads' headFrom', r = (figs', isC', carried', cnt', is', leasts', heads', headFrom', dgh N K g h (N + 1)) ∧ mSort N K g is' leasts' heads' headFrom')
    (fun k s => ∃ figs' isC' carried' cnt' is' leasts' heads' headFrom', s = (figs', isC', carried', cnt', is', leasts', heads', headFrom', dgh N K g h k, nI k) ∧ mSort N K g is' leasts' heads' headFrom') (N + 1) (fun k s hk hI => ?_) (fun s hI => ?_) (N + 1) 0 (by omega) (figs, isC, carried, cnt, is, leasts, heads, headFrom, h, (0 : Int32)) ⟨figs, isC, carried, cnt, is, leasts, heads, headFrom, rfl, hS⟩
  · obtain ⟨r, er, a1, a2, a3, a4, a5, a6, a7, a8, rfl, hl⟩ := hm
    exact ⟨_, a1, a2, a3, a4, a5, a6, a7, a8, hc, er, hl⟩
  · obtain ⟨a1, a2, a3, a4, a5, a6, a7, a8, rfl, hl⟩ := hI
    obtain ⟨y1, y2, y3, y4, y5, y6, y7, r, em, hs, hr, -⟩ := m_headsOf hM a1 a2 a3 a4 hl (z := k) (by omega) (-1 : Int32) (by decide)
    have hrk := hr rfl
    subst hrk
    obtain ⟨w1, w2, w3, w4, w5, w6, w7, w8, ew, hw⟩ := dg_inner hM (z := k) (by omega) (figs := y1) (isC := y2) (carried := y3) (cnt := y4) (Or.inr ⟨rfl, hs⟩) ((31 : Int64) * dgh N K g h k + (nI (hdL N K g k).length).toInt64)
    have hk2 : ¬ now 0 < nI k := by rw [m0, n_lt (by omega) (by omega)]; omega
    have emx : f_X8_mix (dgh N K g h k) (nI (hdL N K g k).length) = some ((31 : Int64) * dgh N K g h k + (nI (hdL N K g k).length).toInt64) := rfl
    refine Or.inl ⟨(w1, w2, w3, w4, w5, w6, w7, w8, dgh N K g h (k + 1), nI (k + 1)), (xb_f hk2).trans ((xn_s em).trans ((xn_s emx).trans ((xn_s ew).trans ?_))), w1, w2, w3, w4, w5, w6, w7, w8, rfl, hw⟩
    show some (Sum.inl (w1, w2, w3, w4, w5, w6, w7, w8, dgh N K g h (k + 1), nI k + (1 : Int32))) = _
    rw [n_add1]
  · obtain ⟨a1, a2, a3, a4, a5, a6, a7, a8, rfl, hl⟩ := hI
    have hk2 : now 0 < nI (N + 1) := by rw [m0, n_lt (by omega) (by omega)]; omega
    exact ⟨_, xb_t hk2, a1, a2, a3, a4, a5, a6, a7, a8, rfl, hl⟩
theorem r_digest : xS_digest xRel := by
  rintro ⟨⟨c_fits, c_refusedBad, c_refusedNo, c_refusedFull⟩, ⟨n_n, n_count, n_generators⟩, ⟨z_count, z_ra, z_rb, z_rn, z_rc, z_rg⟩, ⟨t_length, t_bytes⟩, ⟨r_done, r_stopped, r_due, r_letter, r_value, r_figures, r_seen⟩, ⟨rt_n, rt_count, rt_generators⟩, ⟨e_n, e_steps, e_undoing, e_chains, e_leaving, e_found, e_foundAt, e_foundCount⟩, ⟨k_n, k_inOrder, k_starts, k_firsts, k_reached, k_reachedAt, k_reachedCount⟩⟩ ⟨m_now, m_held, m_past, m_pasts, m_refused, m_figures, m_isLaid, m_many, m_isMade, m_made, m_images, m_orbits, m_chains, m_isCarried, m_carried, m_carriedMany, m_isSorted, m_leasts, m_heads, m_headFrom, m_text, m_typed, m_at, m_fault, m_orders, m_pointsThen, m_letters, m_numbers, m_h⟩  ⟨N, K, g, hC, hM, hE, hL, hS, hR, hP, hT⟩
  have n8 := hM.2.1
  have n1 := hM.1
  have hg := hM.2.2.2.2.2.1
  have hn : n_n = nI N := hC.2.2.2.1
  subst hn
  obtain ⟨d1, d2, d3, d4, d5, d6, d7, d8, d9, d10, d11, d12, d13, d14, d15, ec, hF, hK⟩ := c_fit (undoing := e_undoing) (found := e_found) (foundAt := e_foundAt) (foundCount := e_foundCount) hC hE
  obtain ⟨hE', rfl, hA, hFi⟩ := hF
  have hF : engF N K g d1 d2 d4 d5 (nI N) d10 d11 d12 := ⟨hE', rfl, hA, hFi⟩
  obtain ⟨f1, f2, f3, f4, f5, f6, f7, em, hLd⟩ := m_lay (figs := m_figures) (images := m_images) hM hL
  have eor : f_X8_order m_now m_figures m_isLaid m_many m_isMade m_made m_images m_orbits m_chains = some (f1, 1, f2, f3, f4, f5, f6, f7, f2) := (xn_s em).trans rfl
  have hf2 : d5 0 = f2 := by rw [hE'.2.2.2 0 (by omega), hLd.1, ct_order n8 hg]
  have ehm : f_X1_howMany d5 = some f2 := by rw [← hf2]; rfl
  have hzc : z_count = m_pasts := by obtain ⟨P, p1, p2, p3, p4⟩ := hP; exact p2.trans p3.symm
  have htl : t_length = m_typed := by obtain ⟨L, l1, l2, l3, l4⟩ := hT; exact l2.trans l3.symm
  obtain ⟨r1, c1, q1⟩ := dg_tell hC hM hR hzc htl (2477 : Int64)
  obtain ⟨r2, c2, q2⟩ := dg_gens hC hM r1
  have emx : f_X8_mix r2 f2 = some ((31 : Int64) * r2 + f2.toInt64) := rfl
  obtain ⟨r3, x1, x2, x3, x4, x5, x6, x7, c3, q3, hL3⟩ := dg_pts (figs := f1) (images := f5) hF hM hLd ((31 : Int64) * r2 + f2.toInt64)
  obtain ⟨r4, y1, y2, y3, y4, y5, y6, y7, y8, c4, q4, hS4⟩ := dg_heads (figs := x1) (isC := m_isCarried) (carried := m_carried) (cnt := m_carriedMany) hM hA hFi hS r3
  exact ⟨_, _, (xn_s ec).trans ((xn_s c1).trans ((xn_s c2).trans ((xn_s ehm).trans ((xn_s c3).trans ((xn_s c4).trans rfl))))), (xn_s q1).trans ((xn_s q2).trans ((xn_s eor).trans ((xn_s emx).trans ((xn_s q3).trans ((xn_s q4).trans rfl))))), rfl, N, K, g, hC, hM, engF_eng n1 n8 hF hK, Or.inr ⟨rfl, hL3⟩, hS4, hR, hP, hT⟩

theorem fb_ct_len (p : Nat → Bool) : ∀ n, fb_ct p n = ((List.range n).filter p).length
  | 0 => rfl
  | n + 1 => by
    rw [fb_ct_succ, fb_ct_len p n, List.range_succ, List.filter_append, List.length_append]
    congr 1
    cases e : p n <;> simp [e]
section HOLDS
variable {N K : Nat} {g : Nat → Nat → Nat} {now : Nat → Int32}
/-- those carried to t from a -/
noncomputable def stb (N K : Nat) (g : Nat → Nat → Nat) (a t : Nat) : Nat := ct_n N (fun s => gp_in K g s ∧ im s a = t)
theorem ct_n_right {u : Nat → Nat} (hN : N ≤ 8) (hu : gp_ok N u) (P : (Nat → Nat) → Prop) : ct_n N (fun s => P (gp_th s u)) = ct_n N P := by
  have ok : ∀ j, gp_ok N (gp_th (pm_mv N j) u) := fun j => gp_ok_th (pm_mv_ok N j) hu
  unfold ct_n
  rw [← ct_perm (le_fac N) (s := fun j => pm_pl N (gp_th (pm_mv N j) u)) (fun j _ => pm_pl_lt (ok j)) (fun i j hi hj e => ?_) (fun j => ct_b (P (pm_mv N j)))]
  · refine fb_ct_cong (fun k _ => ?_)
    show ct_b _ = ct_b _
    rw [pm_mv_pl (ok k)]
  · have e1 := pm_pl_inj (ok i) (ok j) e
    have e2 : pm_mv N i = pm_mv N j := funext fun p => gp_ok_inj hu (congrFun e1 p)
    rw [← pm_pl_mv hi, ← pm_pl_mv hj, e2]
theorem stb_eq (hN : N ≤ 8) (hg : ∀ i, i < K → gp_ok N (g i)) {a b : Nat} (ha : a < 256) (h : orb K g a b) : stb N K g a b = stb N K g a a := by
  obtain ⟨u, u1, u2⟩ := h
  have ou := gp_in_ok hg u1
  have ou8 := gp_ok_8 hN ou
  unfold stb
  rw [← ct_n_right hN ou]
  refine ct_n_cong (fun s hs => ?_)
  have os8 := gp_ok_8 hN hs
  rw [im_th os8 ou8]
  constructor
  · rintro ⟨h1, h2⟩
    refine ⟨?_, ?_⟩
    · have := gp_in_th h1 (gp_in_inv u1)
      rw [gp_as, gp_th_inv hN ou, gp_th_id] at this
      exact this
    · have h3 := im_inv ou8 (im_lt256 os8 a) h2
      have h4 := im_inv ou8 ha u2
      rw [← h3, h4]
  · rintro ⟨h1, h2⟩
    exact ⟨gp_in_th h1 u1, by rw [h2, u2]⟩
theorem imL_ct (hN : N ≤ 8) (hg : ∀ i, i < K → gp_ok N (g i)) {a : Nat} (ha : a < 2 ^ N) : (imL N K g a).length = fb_ct (fun b => ct_b (orb K g a b)) 256 := by
  rw [fb_ct_len, imL_all hN hg ha]
  have h1 : allL.Perm (List.range 256) := (List.perm_ext_iff_of_nodup allL_nd List.nodup_range).mpr (fun x => by rw [allL_mem, List.mem_range])
  exact (h1.filter _).length_eq
theorem stb_order (hN : N ≤ 8) (hg : ∀ i, i < K → gp_ok N (g i)) {a : Nat} (ha : a < 2 ^ N) : ct_n N (gp_in K g) = (imL N K g a).length * stb N K g a a := by
  have hp := p2_8 hN
  have h1 : ct_n N (gp_in K g) = ct_n N (fun s => gp_in K g s ∧ im s a < 256) := ct_n_cong (fun s hs => ⟨fun w => ⟨w, im_lt256 (gp_ok_8 hN hs) a⟩, fun w => w.1⟩)
  rw [h1, ct_n_sum (fun s => im s a) 256, imL_ct hN hg ha, ← ct_sm_if]
  refine fb_sm_cong (fun b hb => ?_)
  by_cases w : ct_b (orb K g a b) = true
  · rw [if_pos w]; exact stb_eq hN hg (by omega) (ct_bt.mp w)
  · rw [if_neg w]
    exact ct_n_zero (fun s _ z => w (ct_bt.mpr ⟨s, z.1, z.2⟩))
theorem imL_pos (hN : N ≤ 8) (hg : ∀ i, i < K → gp_ok N (g i)) {a : Nat} (ha : a < 2 ^ N) : 0 < (imL N K g a).length := by
  have hp := p2_8 hN
  exact List.length_pos_of_mem ((imL_mem hN hg ha).mpr (orb_rf K g (by omega)))
/-- those of the row before i that hold a -/
noncomputable def hlC (N K : Nat) (g : Nat → Nat → Nat) (a i : Nat) : Nat := fb_ct (fun j => ct_b ((gam N K g j = true ∧ im (pm_mv N j) a = a) ∧ fb_ct (gam N K g) j < i)) 40320
theorem hlC_0 (a : Nat) : hlC N K g a 0 = 0 := fb_ct_zero.mpr (fun k _ => ct_bf.mpr (fun w => absurd w.2 (Nat.not_lt_zero _)))
theorem hlC_s {a i j : Nat} (hj : j < 40320) (hgm : gam N K g j = true) (hi : fb_ct (gam N K g) j = i) : hlC N K g a (i + 1) = hlC N K g a i + (if im (pm_mv N j) a = a then 1 else 0) := by
  unfold hlC
  have h1 := fb_ct_upd (fun j => ct_b ((gam N K g j = true ∧ im (pm_mv N j) a = a) ∧ fb_ct (gam N K g) j < i)) (ct_b (im (pm_mv N j) a = a)) hj
  have h2 : ct_b ((gam N K g j = true ∧ im (pm_mv N j) a = a) ∧ fb_ct (gam N K g) j < i) = false := ct_bf.mpr (fun w => by have := w.2; omega)
  rw [h2] at h1
  have h3 : fb_ct (fun k => if k = j then ct_b (im (pm_mv N j) a = a) else ct_b ((gam N K g k = true ∧ im (pm_mv N k) a = a) ∧ fb_ct (gam N K g) k < i)) 40320 = fb_ct (fun k => ct_b ((gam N K g k = true ∧ im (pm_mv N k) a = a) ∧ fb_ct (gam N K g) k < i + 1)) 40320 := by
    refine fb_ct_cong (fun k hk => ?_)
    by_cases e : k = j
    · subst e
      show (if k = k then _ else _) = _
      rw [if_pos rfl]
      congr 1
      exact propext ⟨fun w => ⟨⟨hgm, w⟩, by omega⟩, fun w => w.1.2⟩
    · show (if k = j then _ else _) = _
      rw [if_neg e]
      congr 1
      refine propext ⟨fun w => ⟨w.1, by have := w.2; omega⟩, fun w => ⟨w.1, ?_⟩⟩
      rcases Nat.lt_or_ge (fb_ct (gam N K g) k) i with y | y
      · exact y
      · have := w.2
        exact absurd (fb_ct_kth_one w.1.1 hgm (by omega)) e
  rw [h3] at h1
  simp only [Bool.false_eq_true, if_false, Nat.add_zero] at h1
  rw [h1]
  congr 1
  by_cases w : im (pm_mv N j) a = a
  · rw [if_pos (ct_bt.mpr w), if_pos w]
  · rw [if_neg (fun z => w (ct_bt.mp z)), if_neg w]
theorem hlC_all (hN : N ≤ 8) (a : Nat) : hlC N K g a (ct_n N (gp_in K g)) = stb N K g a a := by
  unfold hlC stb ct_n
  have h8 := le_fac8 hN
  rw [show 40320 = le_fac N + (40320 - le_fac N) by omega, fb_ct_split]
  have h0 : fb_ct (fun k => ct_b ((gam N K g (le_fac N + k) = true ∧ im (pm_mv N (le_fac N + k)) a = a) ∧ fb_ct (gam N K g) (le_fac N + k) < fb_ct (fun j => ct_b (gp_in K g (pm_mv N j))) (le_fac N))) (40320 - le_fac N) = 0 := fb_ct_zero.mpr (fun k _ => ct_bf.mpr (fun w => by
    have := (gam_iff.mp w.1.1).1
    omega))
  rw [h0, Nat.add_zero]
  refine fb_ct_cong (fun k hk => ?_)
  congr 1
  refine propext ⟨fun w => ⟨(gam_iff.mp w.1.1).2, w.1.2⟩, fun w => ⟨⟨gam_iff.mpr ⟨hk, w.1⟩, w.2⟩, ?_⟩⟩
  have h2 := fb_ct_mono (gam N K g) (m := k + 1) (n := 40320) (by omega)
  rw [fb_ct_succ, gam_iff.mpr ⟨hk, w.1⟩, gam_ct hN] at h2
  simp only [if_true] at h2
  have h3 : ct_n N (gp_in K g) = fb_ct (fun j => ct_b (gp_in K g (pm_mv N j))) (le_fac N) := rfl
  omega
theorem m_holds_row (hM : mN N K g now) {made : Nat → Int32} (h : mRow N K g made) {a : Nat} (ha : a < 2 ^ N) (figs : Nat → Int32) :
    ∃ figs', xL (f_X8_holds_L1 (nI (ct_n N (gp_in K g))) now made (nI a)) (figs, (0 : Int32), (0 : Int32)) = some (figs', nI (stb N K g a a)) := by
  have hM' := hM
  obtain ⟨n1, n8, k3, w0, w1, hg, hgs⟩ := hM'
  have hp := p2_8 n8
  have h4 := ct_le40 (K := K) (g := g) n8
  let I : Nat → (Nat → Int32) × Int32 × Int32 → Prop := fun k z => ∃ f, z = (f, nI (hlC N K g a k), nI k)
  let P : (Nat → Int32) × Int32 → Prop := fun z => ∃ f, z = (f, nI (stb N K g a a))
  have hh := xL_for (body := f_X8_holds_L1 (nI (ct_n N (gp_in K g))) now made (nI a)) (P := P) I (ct_n N (gp_in K g)) (fun k z hk hz => Or.inl ?_) (fun z hz => ?_) (ct_n N (gp_in K g)) 0 (Nat.zero_add _) (figs, (0 : Int32), (0 : Int32)) ⟨figs, by rw [hlC_0]; rfl⟩
  · obtain ⟨z, z1, f, rfl⟩ := hh
    exact ⟨f, z1⟩
  · obtain ⟨f, rfl⟩ := hz
    obtain ⟨j, j1, j2, j3, j4, j5⟩ := mRow_at n8 h hk
    obtain ⟨f2, e1, hf2⟩ := mo_codeAt (now := now) (figs := f) n1 n8 w0 (j := j) (by omega)
    have ok := pm_mv_ok N j
    have e2 := m_imageOf (now := now) n8 w0 ok hf2 ha
    have hlt := im_ltN n8 ok ha
    have hs := hlC_s (N := N) (K := K) (g := g) (a := a) j1 (gam_iff.mpr ⟨j5, j3⟩) j4
    have hd : f_X8_holds_L1 (nI (ct_n N (gp_in K g))) now made (nI a) (f, nI (hlC N K g a k), nI k) = xb (nI (im (pm_mv N j) a) = nI a) (some (.inl (f2, nI (hlC N K g a k) + (1 : Int32), nI k + (1 : Int32)))) (some (.inl (f2, nI (hlC N K g a k) + (0 : Int32), nI k + (1 : Int32)))) := by
      refine (xb_f (by rw [n_le (by omega) (by omega)]; omega)).trans ((xk_t (vp_in_nI (by omega) (by omega))).trans ?_)
      rw [n_cl (by omega), j2]
      exact (xn_s e1).trans ((xn_s e2).trans rfl)
    by_cases w : im (pm_mv N j) a = a
    · rw [if_pos w] at hs
      exact ⟨_, hd.trans (xb_t (by rw [w])), f2, by rw [n_add1, n_add1, hs]⟩
    · rw [if_neg w] at hs
      exact ⟨_, hd.trans (xb_f (by rw [n_ieq (by omega) (by omega)]; exact w)), f2, by rw [n_add1, hs, show (0 : Int32) = nI 0 from rfl, n_addn]⟩
  · obtain ⟨f, rfl⟩ := hz
    exact ⟨_, xb_t (Int32.le_refl _), f, by rw [hlC_all n8]⟩
end HOLDS

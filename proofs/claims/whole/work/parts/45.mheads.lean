theorem n_subn (a b : Nat) : nI (a + b) - nI a = nI b := by rw [Nat.add_comm, ← n_addn, Int32.add_sub_cancel]
section MH
variable {N K : Nat} {g : Nat → Nat → Nat} {now : Nat → Int32}
theorem ordA_9 (hN : N ≤ 8) : ordA N 9 = ordA N (N + 1) := by
  have := ordA_all hN (8 - N)
  rw [show N + 1 + (8 - N) = 9 by omega] at this
  exact this
theorem hd_len (N K : Nat) (g : Nat → Nat → Nat) (z : Nat) : ((ordA N (z + 1)).filter (hdB N K g)).length = ((ordA N z).filter (hdB N K g)).length + (hdL N K g z).length := by
  rw [ordA, List.filter_append, List.length_append]; rfl
theorem hd_le (hN : N ≤ 8) (z : Nat) : ((ordA N z).filter (hdB N K g)).length ≤ 256 := Nat.le_trans (List.length_filter_le _ _) (ordA_le hN)
theorem hd_at (hN : N ≤ 8) {heads : Nat → Int32} (h : rowL heads ((ordA N 9).filter (hdB N K g))) {z j b : Nat} (hz : z ≤ N) (hj : (hdL N K g z)[j]? = some b) : heads (((ordA N z).filter (hdB N K g)).length + j) = nI b := by
  refine h _ _ ?_
  have h1 : ((ordA N (z + 1)).filter (hdB N K g))[((ordA N z).filter (hdB N K g)).length + j]? = some b := by
    rw [ordA, List.filter_append, List.getElem?_append_right (by omega), Nat.add_sub_cancel_left]
    exact hj
  have key : ∀ d, ((ordA N (z + 1 + d)).filter (hdB N K g))[((ordA N z).filter (hdB N K g)).length + j]? = some b := by
    intro d
    induction d with
    | zero => exact h1
    | succ d ih =>
      rw [← Nat.add_assoc, ordA, List.filter_append, List.getElem?_append_left (List.getElem?_eq_some_iff.mp ih).1]
      exact ih
  have := key (8 - z)
  rw [show z + 1 + (8 - z) = 9 by omega] at this
  exact this
/-- all that the reference keeps of sets -/
theorem m_leastOf (hM : mN N K g now) (figs isC carried : Nat → Int32) (cnt : Int32) {isSorted : Int32} {leasts heads headFrom : Nat → Int32} (h : mSort N K g isSorted leasts heads headFrom) {a : Nat} (ha : a < 2 ^ N) :
    ∃ figs' isC' carried' cnt' leasts' heads' headFrom', f_X8_leastOf now figs isC carried cnt isSorted leasts heads headFrom (nI a) = some (figs', isC', carried', cnt', 1, leasts', heads', headFrom', opI (FI N K g a)) ∧ mSorted N K g leasts' heads' headFrom' := by
  obtain ⟨f1, f2, f3, f4, f5, f6, f7, e, hs⟩ := m_sortSets hM figs isC carried cnt h
  have n8 := hM.2.1
  have hp := p2_8 n8
  refine ⟨f1, f2, f3, f4, f5, f6, f7, (xn_s e).trans ((xk_t (vp_in_nI (by omega) (by omega))).trans ?_), hs⟩
  rw [n_cl (by omega), hs.1.1 a (by omega), ordA_9 n8]
  rfl
theorem m_headsOf (hM : mN N K g now) (figs isC carried : Nat → Int32) (cnt : Int32) {isSorted : Int32} {leasts heads headFrom : Nat → Int32} (h : mSort N K g isSorted leasts heads headFrom) {z : Nat} (hz : z ≤ N) (v : Int32) (hv : (-1 : Int32) ≤ v) :
    ∃ figs' isC' carried' cnt' leasts' heads' headFrom' r, f_X8_headsOf now figs isC carried cnt isSorted leasts heads headFrom (nI z) v = some (figs', isC', carried', cnt', 1, leasts', heads', headFrom', r) ∧ mSorted N K g leasts' heads' headFrom' ∧ (v = (-1 : Int32) → r = nI (hdL N K g z).length) ∧ ∀ j, j < 2 ^ 31 → v = nI j → r = nth5 (hdL N K g z) j := by
  obtain ⟨f1, f2, f3, f4, f5, f6, f7, e, hs⟩ := m_sortSets hM figs isC carried cnt h
  have n8 := hM.2.1
  have hhl := hd_len N K g z
  have hhe := hd_le (K := K) (g := g) n8 (z + 1)
  have hU : ∀ r, xb (v = (-1 : Int32)) (some (f1, f2, f3, f4, (1 : Int32), f5, f6, f7, nI (hdL N K g z).length)) (xb (nI (hdL N K g z).length ≤ v) (some (f1, f2, f3, f4, (1 : Int32), f5, f6, f7, (-5 : Int32))) (xk (vp_in (nI ((ordA N z).filter (hdB N K g)).length + v) 256) (some (f1, f2, f3, f4, (1 : Int32), f5, f6, f7, f6 (nI ((ordA N z).filter (hdB N K g)).length + v).toNatClampNeg)))) = some (f1, f2, f3, f4, (1 : Int32), f5, f6, f7, r) → f_X8_headsOf now figs isC carried cnt isSorted leasts heads headFrom (nI z) v = some (f1, f2, f3, f4, 1, f5, f6, f7, r) := fun r hr => by
    refine (xn_s e).trans ?_
    show xk (vp_in (nI z + (1 : Int32)) 10) _ = _
    rw [n_add1]
    refine (xk_t (vp_in_nI (by omega) (by omega))).trans ((xk_t (vp_in_nI (by omega) (by omega))).trans ?_)
    rw [n_cl (by omega), n_cl (by omega), hs.2 (z + 1) (by omega), hs.2 z (by omega), hhl, n_subn]
    exact hr
  by_cases e1 : v = (-1 : Int32)
  · refine ⟨f1, f2, f3, f4, f5, f6, f7, nI (hdL N K g z).length, hU _ (xb_t e1), hs, fun _ => rfl, fun j hj w => ?_⟩
    rw [e1] at w
    exact absurd (show nI j < 0 by rw [← w]; decide) (nI_pos hj)
  · have hv0 : ¬ v < 0 := fun w => e1 (Int32.toInt_inj.mp (by
      have h1 := Int32.le_iff_toInt_le.mp hv
      have h2 := Int32.lt_iff_toInt_lt.mp w
      rw [n_m1] at h1 ⊢
      rw [show (0 : Int32).toInt = 0 by decide +kernel] at h2
      omega))
    obtain ⟨j, hj, rfl⟩ := nI_of hv0
    refine ⟨f1, f2, f3, f4, f5, f6, f7, nth5 (hdL N K g z) j, hU _ ((xb_f e1).trans ?_), hs, fun w => absurd w e1, fun j' hj' w => ?_⟩
    · by_cases w : (hdL N K g z).length ≤ j
      · refine (xb_t (by rw [n_le (by omega) hj]; exact w)).trans ?_
        rw [nth5_n w]
      · have hget : (hdL N K g z)[j]? = some (hdL N K g z)[j] := List.getElem?_eq_getElem (by omega)
        refine (xb_f (by rw [n_le (by omega) hj]; exact w)).trans ?_
        rw [n_addn]
        refine (xk_t (vp_in_nI (by omega) (by omega))).trans ?_
        rw [n_cl (by omega), hd_at n8 hs.1.2 hz hget, nth5_s hget]
    · rw [n_ieq hj hj'] at w
      rw [w]
theorem m_head_ix (hN : N ≤ 8) {heads : Nat → Int32} (h : rowL heads ((ordA N 9).filter (hdB N K g))) {z i b : Nat} (hz : z ≤ N) (hi : (hdL N K g z)[i]? = some b) : xL (f_X8_head_L1 heads (nI b)) (nI ((ordA N z).filter (hdB N K g)).length) = some (nI (((ordA N z).filter (hdB N K g)).length + i)) := by
  have hil := (List.getElem?_eq_some_iff.mp hi).1
  have hhl := hd_len N K g z
  have hhe := hd_le (K := K) (g := g) hN (z + 1)
  have hp := p2_8 hN
  have hlt : ∀ x ∈ hdL N K g z, x < 256 := fun x hx => by
    have := ((ordL_mem hN).mp (List.mem_filter.mp hx).1).1
    omega
  have hnd : (hdL N K g z).Nodup := (ordL_nd N z).filter _
  have hb := hlt b (List.mem_of_getElem? hi)
  have hh := xL_up (body := f_X8_head_L1 heads (nI b)) (fun k => nI (((ordA N z).filter (hdB N K g)).length + k)) i (r := nI (((ordA N z).filter (hdB N K g)).length + i)) (fun k hk => ?_) ?_
  · exact hh
  · have hkl : k < (hdL N K g z).length := by omega
    have hget : (hdL N K g z)[k]? = some (hdL N K g z)[k] := List.getElem?_eq_getElem hkl
    refine (xk_t (vp_in_nI (by omega) (by omega))).trans ?_
    rw [n_cl (by omega), hd_at hN h hz hget]
    refine (xb_f ?_).trans (by rw [n_add1]; rfl)
    have h1 := hlt _ (List.getElem_mem hkl)
    rw [n_ieq (by omega) (by omega)]
    intro e
    have := List.pairwise_iff_getElem.mp hnd k i hkl hil hk
    rw [e] at this
    exact this (Option.some.inj (hi.symm.trans (List.getElem?_eq_getElem hil)))
  · refine (xk_t (vp_in_nI (by omega) (by omega))).trans ?_
    rw [n_cl (by omega), hd_at hN h hz hi]
    exact xb_t rfl
end MH

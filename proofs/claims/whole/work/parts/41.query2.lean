section QUERY2
variable {N K : Nat} {g : Nat → Nat → Nat} {io st fi : Nat → Int32}
theorem c_countFirsts (hN : N ≤ 8) (hA : kA N io st) (hF : kF N K g fi) {z : Nat} (hz : z ≤ N) : f_X0_countFirsts (nI N) io st fi (nI z) = some (nI (hdL N K g z).length) := by
  have hp := p2_8 hN
  have hlen := seg_len N z
  have hle := ordA_le (N := N) (z := z + 1) hN
  have e1 : nI z + (1 : Int32) = nI (z + 1) := n_add1 _
  have hh := xL_up (body := f_X0_countFirsts_L1 (nI N) st (nI z) fi io) (fun k => (nI (((ordL N z).take k).filter (fun b => ct_b (FI N K g b = some b))).length, nI ((ordA N z).length + k))) (ordL N z).length (r := nI (hdL N K g z).length) (fun k hk => ?_) ?_
  · exact (xn_s (c_start hN hA (by omega))).trans ((xn_s hh).trans rfl)
  · have hb := ordL_lt hN hk
    show xn (f_X0_start (nI N) st (nI z + (1 : Int32))) _ = _
    rw [e1]
    refine (xn_s (c_start hN hA (by omega))).trans ((xb_f (by rw [n_le (by omega) (by omega)]; omega)).trans ((xk_t (vp_in_nI (by omega) (by omega))).trans ?_))
    rw [n_cl (by omega), seg_at hN hA (by omega) hk]
    refine (xn_s (c_isFirst hN hF (by omega))).trans ?_
    have hc := tk_c (fun b => ct_b (FI N K g b = some b)) hk
    by_cases w : ct_b (FI N K g (ordL N z)[k] = some (ordL N z)[k]) = true
    · rw [if_pos w] at hc
      refine (xb_f (by rw [b01_0, w]; decide)).trans ?_
      rw [n_add1, n_add1, hc, Nat.add_assoc]
    · rw [if_neg w] at hc
      refine (xb_t (by rw [b01_0]; simpa using w)).trans ?_
      rw [n_add1, hc, Nat.add_assoc]; rfl
  · show xn (f_X0_start (nI N) st (nI z + (1 : Int32))) _ = _
    rw [e1]
    refine (xn_s (c_start hN hA (by omega))).trans ((xb_t (by rw [n_le (by omega) (by omega)]; omega)).trans ?_)
    rw [List.take_length]; rfl
theorem c_nthFirst (hN : N ≤ 8) (hA : kA N io st) (hF : kF N K g fi) {z j : Nat} (hz : z ≤ N) (hj : j < 2 ^ 31) : f_X0_nthFirst (nI N) io st fi (nI z) (nI j) = some (nth5 (hdL N K g z) j) := by
  have hp := p2_8 hN
  have hlen := seg_len N z
  have hle := ordA_le (N := N) (z := z + 1) hN
  let c : Nat → Nat := fun k => (((ordL N z).take k).filter (fun b => ct_b (FI N K g b = some b))).length
  let I : Nat → Int32 × Int32 → Prop := fun k y => y = (nI (j - c k), nI ((ordA N z).length + k)) ∧ c k ≤ j
  let P : Unit ⊕ Int32 → Prop := fun x => (match x with | .inl z => (fun (_ : Unit) => some (-5 : Int32)) z | .inr z => some z) = some (nth5 (hdL N K g z) j)
  have e1 : nI z + (1 : Int32) = nI (z + 1) := n_add1 _
  have hh := xL_for (body := f_X0_nthFirst_L1 (nI N) st (nI z) fi io) (P := P) I (ordL N z).length (fun k y hk hy => ?_) (fun y hy => ?_) (ordL N z).length 0 (Nat.zero_add _) (nI j, nI (ordA N z).length) ⟨by show _ = (nI (j - 0), _); rw [Nat.sub_zero, Nat.add_zero], Nat.zero_le _⟩
  · obtain ⟨x, x1, x2⟩ := hh
    exact (xn_s (c_start hN hA (by omega))).trans ((xn_s x1).trans x2)
  · obtain ⟨rfl, hc⟩ := hy
    have hb := ordL_lt hN hk
    have hd : f_X0_nthFirst_L1 (nI N) st (nI z) fi io (nI (j - c k), nI ((ordA N z).length + k)) = xb (b01 (ct_b (FI N K g (ordL N z)[k] = some (ordL N z)[k])) = 0) (some (.inl (nI (j - c k), nI ((ordA N z).length + k) + (1 : Int32)))) (xb (nI (j - c k) = 0) (some (.inr (.inr (nI (ordL N z)[k])))) (some (.inl (nI (j - c k) + (-1 : Int32), nI ((ordA N z).length + k) + (1 : Int32))))) := by
      show xn (f_X0_start (nI N) st (nI z + (1 : Int32))) _ = _
      rw [e1]
      refine (xn_s (c_start hN hA (by omega))).trans ((xb_f (by rw [n_le (by omega) (by omega)]; omega)).trans ((xk_t (vp_in_nI (by omega) (by omega))).trans ?_))
      rw [n_cl (by omega), seg_at hN hA (by omega) hk]
      exact (xn_s (c_isFirst hN hF (by omega))).trans rfl
    have hcc : c (k + 1) = c k + (if ct_b (FI N K g (ordL N z)[k] = some (ordL N z)[k]) then 1 else 0) := tk_c (fun b => ct_b (FI N K g b = some b)) hk
    by_cases w : ct_b (FI N K g (ordL N z)[k] = some (ordL N z)[k]) = true
    · rw [if_pos w] at hcc
      have hd2 := hd.trans (xb_f (by rw [b01_0, w]; decide))
      by_cases e : j = c k
      · right
        refine ⟨_, hd2.trans (xb_t (by rw [e, Nat.sub_self]; rfl)), ?_⟩
        show some _ = some _
        rw [nth5_s (b := (ordL N z)[k])]
        rw [e]
        exact tk_at (fun b => ct_b (FI N K g b = some b)) hk w
      · left
        refine ⟨_, hd2.trans (xb_f (by rw [show (0 : Int32) = nI 0 from rfl, n_ieq (by omega) (by omega)]; omega)), ?_, by omega⟩
        rw [hcc, show j - c k = (j - (c k + 1)) + 1 by omega, n_pred, n_add1, Nat.add_assoc]
    · rw [if_neg w] at hcc
      left
      refine ⟨_, hd.trans (xb_t (by rw [b01_0]; simpa using w)), ?_, by omega⟩
      rw [hcc, n_add1, Nat.add_assoc]; rfl
  · obtain ⟨rfl, hc⟩ := hy
    refine ⟨.inl (), ?_, ?_⟩
    · show xn (f_X0_start (nI N) st (nI z + (1 : Int32))) _ = _
      rw [e1]
      exact (xn_s (c_start hN hA (by omega))).trans (xb_t (by rw [n_le (by omega) (by omega)]; omega))
    · show some _ = some _
      rw [nth5_n]
      have : c (ordL N z).length = (hdL N K g z).length := by show (((ordL N z).take _).filter _).length = _; rw [List.take_length]; rfl
      omega
/-- where the head of a's images stands among the heads of its size -/
theorem c_placeOfFirst (hN : N ≤ 8) (hg : ∀ i, i < K → gp_ok N (g i)) (hA : kA N io st) (hF : kF N K g fi) {a h : Nat} (ha : a < 2 ^ N) (hh : FI N K g a = some h) : ∃ i, f_X0_placeOfFirst (nI N) io st fi (nI a) = some (nI i) ∧ (hdL N K g (popc a))[i]? = some h := by
  have hp := p2_8 hN
  have hz := popc_N N (by omega) a ha
  have hlen := seg_len N (popc a)
  have hle := ordA_le (N := N) (z := popc a + 1) hN
  obtain ⟨h', e', ho, hlt, hpop⟩ := FI_ok hN hg ha
  rw [hh] at e'; cases e'
  have hmem : h ∈ ordL N (popc a) := (ordL_mem hN).mpr ⟨hlt, hpop⟩
  have hfst : FI N K g h = some h := by rw [(FI_eq hN hg hlt ha).mpr ho, hh]
  obtain ⟨m, hm, hm2⟩ := List.getElem_of_mem hmem
  let c : Nat → Nat := fun k => (((ordL N (popc a)).take k).filter (fun b => ct_b (FI N K g b = some b))).length
  have e1 : nI (popc a) + (1 : Int32) = nI (popc a + 1) := n_add1 _
  have hd : ∀ k (hk : k < (ordL N (popc a)).length), f_X0_placeOfFirst_L1 (nI N) st (nI (popc a)) fi (nI a) io (nI (c k), nI ((ordA N (popc a)).length + k)) = xb (nI (ordL N (popc a))[k] = nI h) (some (.inr (nI (c k)))) (xb (b01 (ct_b (FI N K g (ordL N (popc a))[k] = some (ordL N (popc a))[k])) = 0) (some (.inl (nI (c k), nI ((ordA N (popc a)).length + k) + (1 : Int32)))) (some (.inl (nI (c k) + (1 : Int32), nI ((ordA N (popc a)).length + k) + (1 : Int32))))) := by
    intro k hk
    have hb := ordL_lt hN hk
    show xn (f_X0_start (nI N) st (nI (popc a) + (1 : Int32))) _ = _
    rw [e1]
    refine (xn_s (c_start hN hA (by omega))).trans ((xb_f (by rw [n_le (by omega) (by omega)]; omega)).trans ((xk_t (vp_in_nI (by omega) (by omega))).trans ?_))
    rw [n_cl (by omega), seg_at hN hA (by omega) hk]
    refine (xn_s (c_first hF (by omega))).trans ?_
    rw [hh]
    show xb (nI _ = nI h) _ _ = _
    rw [show (f_X0_isFirst fi (nI (ordL N (popc a))[k])) = some (b01 (ct_b (FI N K g (ordL N (popc a))[k] = some (ordL N (popc a))[k]))) from c_isFirst hN hF (by omega)]
    rfl
  have hL := xL_up (body := f_X0_placeOfFirst_L1 (nI N) st (nI (popc a)) fi (nI a) io) (fun k => (nI (c k), nI ((ordA N (popc a)).length + k))) m (r := nI (c m)) (fun k hk => ?_) ?_
  · refine ⟨c m, (xn_s (bc_pop (a := a) (by omega))).trans ((xn_s (c_start hN hA (by omega))).trans ((xn_s hL).trans rfl)), ?_⟩
    have := tk_at (fun b => ct_b (FI N K g b = some b)) hm (by rw [hm2]; exact ct_bt.mpr hfst)
    rw [hm2] at this
    exact this
  · have hk' : k < (ordL N (popc a)).length := by omega
    have hb := ordL_lt hN hk'
    have hne : (ordL N (popc a))[k] ≠ h := fun e => by
      have := List.pairwise_iff_getElem.mp (ordL_nd N (popc a)) k m hk' hm hk
      rw [hm2] at this
      exact this e
    have hcc : c (k + 1) = c k + (if ct_b (FI N K g (ordL N (popc a))[k] = some (ordL N (popc a))[k]) then 1 else 0) := tk_c (fun b => ct_b (FI N K g b = some b)) hk'
    refine (hd k hk').trans ((xb_f (by rw [n_ieq (by omega) (by omega)]; exact hne)).trans ?_)
    by_cases w : ct_b (FI N K g (ordL N (popc a))[k] = some (ordL N (popc a))[k]) = true
    · rw [if_pos w] at hcc
      refine (xb_f (by rw [b01_0, w]; decide)).trans ?_
      rw [n_add1, n_add1, hcc, Nat.add_assoc]
    · rw [if_neg w] at hcc
      refine (xb_t (by rw [b01_0]; simpa using w)).trans ?_
      rw [n_add1, hcc, Nat.add_assoc]; rfl
  · exact (hd m hm).trans (xb_t (by rw [hm2]))
/-- the heads told into a digest -/
def dgL (l : List Nat) (h : Int64) : Int64 := l.foldl (fun h b => (31 : Int64) * h + (nI b).toInt64) h
theorem c_digestFirsts (hN : N ≤ 8) (hA : kA N io st) (hF : kF N K g fi) {z : Nat} (hz : z ≤ N) (h : Int64) : f_X0_digestFirsts (nI N) io st fi (nI z) h = some (dgL (hdL N K g z) ((31 : Int64) * h + (nI (hdL N K g z).length).toInt64)) := by
  have hp := p2_8 hN
  have hlen := seg_len N z
  have hle := ordA_le (N := N) (z := z + 1) hN
  have e1 : nI z + (1 : Int32) = nI (z + 1) := n_add1 _
  have hh := xL_up (body := f_X0_digestFirsts_L1 (nI N) st (nI z) fi io) (fun k => (dgL (((ordL N z).take k).filter (fun b => ct_b (FI N K g b = some b))) ((31 : Int64) * h + (nI (hdL N K g z).length).toInt64), nI ((ordA N z).length + k))) (ordL N z).length (r := dgL (hdL N K g z) ((31 : Int64) * h + (nI (hdL N K g z).length).toInt64)) (fun k hk => ?_) ?_
  · exact (xn_s (c_countFirsts hN hA hF hz)).trans ((xn_s (c_start hN hA (by omega))).trans ((xn_s hh).trans rfl))
  · have hb := ordL_lt hN hk
    show xn (f_X0_start (nI N) st (nI z + (1 : Int32))) _ = _
    rw [e1]
    refine (xn_s (c_start hN hA (by omega))).trans ((xb_f (by rw [n_le (by omega) (by omega)]; omega)).trans ((xk_t (vp_in_nI (by omega) (by omega))).trans ?_))
    rw [n_cl (by omega), seg_at hN hA (by omega) hk]
    refine (xn_s (c_isFirst hN hF (by omega))).trans ?_
    rw [tk_f (fun b => ct_b (FI N K g b = some b)) hk]
    by_cases w : ct_b (FI N K g (ordL N z)[k] = some (ordL N z)[k]) = true
    · rw [if_pos w]
      refine (xb_f (by rw [b01_0, w]; decide)).trans ?_
      rw [n_add1, Nat.add_assoc]
      unfold dgL
      rw [List.foldl_append]
      rfl
    · rw [if_neg w, List.append_nil]
      refine (xb_t (by rw [b01_0]; simpa using w)).trans ?_
      rw [n_add1, Nat.add_assoc]
  · show xn (f_X0_start (nI N) st (nI z + (1 : Int32))) _ = _
    rw [e1]
    refine (xn_s (c_start hN hA (by omega))).trans ((xb_t (by rw [n_le (by omega) (by omega)]; omega)).trans ?_)
    rw [List.take_length]; rfl
-- points
theorem p2_inj {a b : Nat} (h : 2 ^ a = 2 ^ b) : a = b := by
  rcases Nat.lt_trichotomy a b with w | w | w
  · have := Nat.pow_lt_pow_right (a := 2) (by decide) w; omega
  · exact w
  · have := Nat.pow_lt_pow_right (a := 2) (by decide) w; omega
theorem im_pt {s : Nat → Nat} (hs : gp_ok 8 s) {p : Nat} (hp : p < 8) : im s (2 ^ p) = 2 ^ (s p) := by
  have h1 : 2 ^ (s p) < 2 ^ 8 := Nat.pow_lt_pow_right (by decide) (hs.1 p hp)
  refine tb_ext (im_lt256 hs _) (by omega) (fun i hi => ?_)
  rw [im_bit, Nat.testBit_two_pow]
  constructor
  · rintro ⟨c, h1, h2, h3⟩
    rw [Nat.testBit_two_pow, decide_eq_true_eq] at h2
    rw [decide_eq_true_eq, ← h3, h2]
  · intro e
    rw [decide_eq_true_eq] at e
    exact ⟨p, hp, by rw [Nat.testBit_two_pow, decide_eq_true_eq], e⟩
theorem orb_pt (hN : N ≤ 8) (hg : ∀ i, i < K → gp_ok N (g i)) {p q : Nat} (hp : p < N) (hq : q < N) : orb K g (2 ^ p) (2 ^ q) ↔ ∃ s, gp_in K g s ∧ s p = q := by
  constructor
  · rintro ⟨s, h1, h2⟩
    rw [im_pt (gp_ok_8 hN (gp_in_ok hg h1)) (by omega)] at h2
    exact ⟨s, h1, p2_inj h2⟩
  · rintro ⟨s, h1, h2⟩
    exact ⟨s, h1, by rw [im_pt (gp_ok_8 hN (gp_in_ok hg h1)) (by omega), h2]⟩
theorem fi_pt (hN : N ≤ 8) (hg : ∀ i, i < K → gp_ok N (g i)) {p q : Nat} (hp : p < N) (hq : q < N) : opI (FI N K g (2 ^ q)) = opI (FI N K g (2 ^ p)) ↔ ∃ s, gp_in K g s ∧ s p = q := by
  rw [opI_inj (fun _ h => FI_lt hN h) (fun _ h => FI_lt hN h), eq_comm, FI_eq hN hg (Nat.pow_lt_pow_right (by decide) hp) (Nat.pow_lt_pow_right (by decide) hq), orb_pt hN hg hp hq]
theorem c_firstPt (hN : N ≤ 8) (hF : kF N K g fi) {p : Nat} (hp : p < N) : f_X0_first fi ((1 : Int32) <<< (nI p &&& 31)) = some (opI (FI N K g (2 ^ p))) := by
  have h1 : 2 ^ p < 2 ^ 8 := Nat.pow_lt_pow_right (by decide) (by omega)
  rw [show (1 : Int32) <<< (nI p &&& 31) = nI (1 * 2 ^ p) from n_shl (a := 1) (by omega), Nat.one_mul]
  exact c_first hF (by omega)
theorem c_orbit (hN : N ≤ 8) (hg : ∀ i, i < K → gp_ok N (g i)) (hF : kF N K g fi) {p : Nat} (hp : p < N) : ∃ r, f_X0_orbit (nI N) fi (nI p) = some r ∧ bitsOf r (fun q => ∃ s, gp_in K g s ∧ s p = q) := by
  let I : Nat → Int32 × Int32 → Prop := fun k z => ∃ r, z = (r, nI k) ∧ bitsOf r (fun q => q < k ∧ ∃ s, gp_in K g s ∧ s p = q)
  have hh := xL_for (body := f_X0_orbit_L1 (nI N) fi (nI p)) (P := fun r => bitsOf r (fun q => ∃ s, gp_in K g s ∧ s p = q)) I N (fun k z hk hz => Or.inl ?_) (fun z hz => ?_) N 0 (Nat.zero_add _) ((0 : Int32), (0 : Int32)) ⟨0, rfl, bitsOf_cong bitsOf_0 (fun q => ⟨False.elim, fun w => absurd w.1 (Nat.not_lt_zero _)⟩)⟩
  · obtain ⟨r, h1, h2⟩ := hh
    exact ⟨r, (xn_s h1).trans rfl, h2⟩
  · obtain ⟨r, rfl, hr⟩ := hz
    have hd : f_X0_orbit_L1 (nI N) fi (nI p) (r, nI k) = xb (opI (FI N K g (2 ^ k)) = opI (FI N K g (2 ^ p))) (some (.inl (r ||| ((1 : Int32) <<< (nI k &&& 31)), nI k + (1 : Int32)))) (some (.inl (r, nI k + (1 : Int32)))) := (xb_f (by rw [n_le (by omega) (by omega)]; omega)).trans ((xn_s (c_firstPt hN hF hk)).trans ((xn_s (c_firstPt hN hF hp)).trans rfl))
    by_cases w : ∃ s, gp_in K g s ∧ s p = k
    · refine ⟨_, hd.trans (xb_t ((fi_pt hN hg hp hk).mpr w)), _, by rw [n_add1], bitsOf_cong (bitsOf_or hr (by omega)) (fun q => ⟨?_, ?_⟩)⟩
      · rintro (z | z)
        · exact ⟨by omega, z.2⟩
        · rw [z]; exact ⟨by omega, w⟩
      · rintro ⟨z1, z2⟩
        rcases Nat.lt_or_ge q k with y | y
        · exact Or.inl ⟨y, z2⟩
        · exact Or.inr (by omega)
    · refine ⟨_, hd.trans (xb_f (fun z => w ((fi_pt hN hg hp hk).mp z))), _, by rw [n_add1], bitsOf_cong hr (fun q => ⟨fun z => ⟨by omega, z.2⟩, fun z => ⟨?_, z.2⟩⟩)⟩
      rcases Nat.lt_or_ge q k with y | y
      · exact y
      · have := z.1
        rw [show q = k by omega] at z
        exact absurd z.2 w
  · obtain ⟨r, rfl, hr⟩ := hz
    refine ⟨r, xb_t (Int32.le_refl _), bitsOf_cong hr (fun q => ⟨fun z => z.2, fun ⟨s, z1, z2⟩ => ⟨?_, s, z1, z2⟩⟩)⟩
    rw [← z2]; exact (gp_in_ok hg z1).1 p hp
theorem c_leastPoint (hN : N ≤ 8) (hg : ∀ i, i < K → gp_ok N (g i)) (hF : kF N K g fi) {p : Nat} (hp : p < N) : ∃ q, f_X0_leastPoint fi (nI p) = some (nI q) ∧ q ≤ p ∧ (∃ s, gp_in K g s ∧ s p = q) ∧ ∀ c, c < q → ¬ ∃ s, gp_in K g s ∧ s p = c := by
  let I : Nat → Int32 → Prop := fun k z => z = nI k ∧ ∀ c, c < k → ¬ ∃ s, gp_in K g s ∧ s p = c
  let P : Int32 → Prop := fun z => ∃ q, z = nI q ∧ q ≤ p ∧ (∃ s, gp_in K g s ∧ s p = q) ∧ ∀ c, c < q → ¬ ∃ s, gp_in K g s ∧ s p = c
  have hh := xL_for (body := f_X0_leastPoint_L1 (nI p) fi) (P := P) I p (fun k z hk hz => ?_) (fun z hz => ?_) p 0 (Nat.zero_add _) (0 : Int32) ⟨rfl, fun c hc => absurd hc (Nat.not_lt_zero _)⟩
  · obtain ⟨r, h1, q, rfl, h2⟩ := hh
    exact ⟨q, (xn_s h1).trans rfl, h2⟩
  · obtain ⟨rfl, hr⟩ := hz
    have hd : f_X0_leastPoint_L1 (nI p) fi (nI k) = xb (opI (FI N K g (2 ^ k)) = opI (FI N K g (2 ^ p))) (some (.inr (nI k))) (some (.inl (nI k + (1 : Int32)))) := (xb_f (by rw [n_le (by omega) (by omega)]; omega)).trans ((xn_s (c_firstPt hN hF (by omega))).trans ((xn_s (c_firstPt hN hF hp)).trans rfl))
    by_cases w : ∃ s, gp_in K g s ∧ s p = k
    · exact Or.inr ⟨_, hd.trans (xb_t ((fi_pt hN hg hp (by omega)).mpr w)), k, rfl, by omega, w, hr⟩
    · refine Or.inl ⟨_, hd.trans (xb_f (fun z => w ((fi_pt hN hg hp (by omega)).mp z))), by rw [n_add1], fun c hc => ?_⟩
      rcases Nat.lt_or_ge c k with y | y
      · exact hr c y
      · rw [show c = k by omega]; exact w
  · obtain ⟨rfl, hr⟩ := hz
    exact ⟨nI p, xb_t (Int32.le_refl _), p, rfl, Nat.le_refl _, ⟨gp_id, gp_in_id K g, rfl⟩, hr⟩
end QUERY2

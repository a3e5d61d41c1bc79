-- sets, as the reference has them
theorem m_has {a k : Nat} (ha : a < 2 ^ 31) (hk : k < 32) : f_X8_has (nI a) (nI k) = some (b01 (a.testBit k)) := by
  by_cases w : a.testBit k = true
  · exact (xb_t ((n_bit1 ha hk).mpr w)).trans (by rw [w]; rfl)
  · refine (xb_f (fun z => w ((n_bit1 ha hk).mp z))).trans ?_
    rw [Bool.not_eq_true] at w
    rw [w]; rfl
theorem m_size {a : Nat} (ha : a < 2 ^ 31) : f_X8_size (nI a) = some (nI (popc a)) := by
  have h := xL_up (body := f_X8_size_L1 (nI a)) (fun k => (nI (fb_ct (fun q => a.testBit q) k), nI k)) 8 (r := nI (popc a)) (fun k hk => ?_) (xb_t (Int32.le_refl _))
  · exact (xn_s h).trans rfl
  · refine (xb_f (by rw [show (8 : Int32) = nI 8 from rfl, n_le (by omega) (by omega)]; omega)).trans ((xn_s (m_has ha (by omega))).trans ?_)
    rw [fb_ct_succ]
    by_cases w : a.testBit k = true
    · refine (xb_f (by rw [b01_0, w]; decide)).trans ?_
      rw [n_add1, n_add1, if_pos w]
    · refine (xb_t (by rw [b01_0]; simpa using w)).trans ?_
      rw [n_add1, if_neg w, show (0 : Int32) = nI 0 from rfl, n_addn]
def tt (v : Nat) : Nat → Nat
  | 0 => 0
  | k + 1 => tt v k ||| (if v.testBit k then 128 / 2 ^ k else 0)
theorem tt_ok : ∀ v, v < 256 → tt v 8 = tr8 v := by decide +kernel
theorem m_turned {v : Nat} (hv : v < 256) : f_X8_turned (nI v) = some (nI (tr8 v)) := by
  have h := xL_up (body := f_X8_turned_L1 (nI v)) (fun k => (nI (tt v k), nI k)) 8 (r := nI (tt v 8)) (fun k hk => ?_) (xb_t (Int32.le_refl _))
  · rw [tt_ok v hv] at h
    exact (xn_s h).trans rfl
  · refine (xb_f (by rw [show (8 : Int32) = nI 8 from rfl, n_le (by omega) (by omega)]; omega)).trans ((xn_s (m_has (by omega) (by omega))).trans ?_)
    rw [tt]
    by_cases w : v.testBit k = true
    · refine (xb_f (by rw [b01_0, w]; decide)).trans ?_
      rw [n_add1, if_pos w, show (128 : Int32) = nI 128 from rfl, n_shr (by omega) (by omega), n_or]
    · refine (xb_t (by rw [b01_0]; simpa using w)).trans ?_
      rw [n_add1, if_neg w, show (0 : Int32) = nI 0 from rfl, n_or]
theorem m_isSet {N : Nat} {now : Nat → Int32} (hN : N ≤ 8) (hw : now 0 = nI N) (v : Int32) : (∃ a, a < 2 ^ N ∧ v = nI a ∧ f_X8_isSet now v = some (1 : Int32)) ∨ ((∀ a, a < 2 ^ N → v ≠ nI a) ∧ f_X8_isSet now v = some (0 : Int32)) := by
  have hp := p2_8 hN
  have h1 := p2_1 N
  have e3 : ((1 : Int32) <<< ((now 0) &&& 31)) - (1 : Int32) = nI (2 ^ N - 1) := by rw [hw, show (1 : Int32) <<< (nI N &&& 31) = nI (1 * 2 ^ N) from n_shl (a := 1) (by omega), Nat.one_mul, n_sub1 h1]
  have hU : ∀ r : Int32, (r = 0 ∨ r = 1) → f_X8_in v (0 : Int32) (nI (2 ^ N - 1)) = some r → f_X8_isSet now v = some r := fun r hr e => by
    show xn (f_X8_in v (0 : Int32) (((1 : Int32) <<< ((now 0) &&& 31)) - (1 : Int32))) _ = _
    rw [e3]
    exact (xn_s e).trans (xk_t hr)
  by_cases hv : v < 0
  · exact Or.inr ⟨fun a ha e => by rw [e] at hv; exact nI_pos (n := a) (by omega) hv, hU 0 (Or.inl rfl) (xb_t hv)⟩
  · obtain ⟨c, hc, rfl⟩ := nI_of hv
    by_cases w : c < 2 ^ N
    · exact Or.inl ⟨c, w, rfl, hU 1 (Or.inr rfl) ((xb_f hv).trans (xb_f (by rw [n_lt (by omega) hc]; omega)))⟩
    · refine Or.inr ⟨fun a ha e => ?_, hU 0 (Or.inl rfl) ((xb_f hv).trans (xb_t (by rw [n_lt (by omega) hc]; omega)))⟩
      rw [n_ieq hc (by omega)] at e
      omega
theorem m_imageOf {N : Nat} {now figs : Nat → Int32} (hN : N ≤ 8) (hw : now 0 = nI N) {s : Nat → Nat} (hs : gp_ok N s) (hf : figOf N figs s) {a : Nat} (ha : a < 2 ^ N) : f_X8_imageOf now figs (nI a) = some (nI (im s a)) := by
  have hp := p2_8 hN
  have h := xL_up (body := f_X8_imageOf_L1 now (nI a) figs) (fun k => (nI (im_n s a k), nI k)) N (r := nI (im_n s a N)) (fun k hk => ?_) (xb_t (by rw [hw]; exact Int32.le_refl _))
  · have e : im_n s a 8 = im_n s a N := by
      have := im_zero (s := s) (a := a) (k := N) (Nat.div_eq_of_lt ha) (8 - N)
      rw [show N + (8 - N) = 8 by omega] at this
      exact this
    show xn (xL _ _) _ = some (nI (im_n s a 8))
    rw [e]
    exact (xn_s h).trans rfl
  · refine (xb_f (by rw [hw, n_le (by omega) (by omega)]; omega)).trans ((xn_s (m_has (by omega) (by omega))).trans ?_)
    have hsk := hs.1 k hk
    rw [im_n, n_tb]
    by_cases w : a.testBit k = true
    · refine (xb_f (by rw [b01_0, w]; decide)).trans ((xk_t (vp_in_nI (by omega) (by omega))).trans ?_)
      rw [n_add1, if_pos w, n_cl (by omega), hf k hk, show (1 : Int32) <<< (nI (s k) &&& 31) = nI (1 * 2 ^ (s k)) from n_shl (a := 1) (by omega), n_or]
    · refine (xb_t (by rw [b01_0]; simpa using w)).trans ?_
      rw [n_add1, if_neg w, show (0 : Int32) = nI 0 from rfl, n_or, Nat.zero_mul]
theorem m_lowest {x : Int32} {P : Nat → Prop} (h : bitsOf x P) {q : Nat} (hq : q < 8) (h1 : P q) (h2 : ∀ c, c < q → ¬ P c) : f_X8_lowest x = some (nI q) := by
  obtain ⟨a, rfl, ha, hb⟩ := h
  have hh := xL_up (body := f_X8_lowest_L1 (nI a)) (fun k => nI k) q (r := nI q) (fun k hk => ?_) ?_
  · exact (xn_s hh).trans rfl
  · refine (xn_s (m_has (by omega) (by omega))).trans ((xb_t ?_).trans (by rw [n_add1]))
    rw [b01_0]
    cases e : a.testBit k with
    | false => rfl
    | true => exact absurd ((hb k).mp e) (h2 k hk)
  · refine (xn_s (m_has (by omega) (by omega))).trans (xb_f ?_)
    rw [b01_0, (hb q).mpr h1]; decide
/-- those carried so far -/
def mC (isC carried : Nat → Int32) (cnt : Int32) (l : List Nat) : Prop := l.Nodup ∧ (∀ x ∈ l, x < 256) ∧ rowL carried l ∧ cnt = nI l.length ∧ ∀ x, x < 256 → isC x = b01 (ct_b (x ∈ l))
theorem m_carry {isC carried : Nat → Int32} {cnt : Int32} {l : List Nat} (h : mC isC carried cnt l) {x : Nat} (hx : x < 256) : ∃ isC' carried' cnt' l', f_X8_carry isC carried cnt (nI x) = some (isC', carried', cnt') ∧ mC isC' carried' cnt' l' ∧ (∃ r, l' = l ++ r) ∧ ∀ y, y ∈ l' ↔ y ∈ l ∨ y = x := by
  obtain ⟨h1, h2, h3, rfl, h5⟩ := h
  have hU : ∀ z, xb (isC x = 0) (xk (vp_in (nI l.length) 256) (some ((upd isC x (1 : Int32)), (upd carried (nI l.length).toNatClampNeg (nI x)), (nI l.length + (1 : Int32))))) (some (isC, carried, nI l.length)) = z → f_X8_carry isC carried (nI l.length) (nI x) = z := fun z hz => by
    refine (xk_t (vp_in_nI hx (by omega))).trans ?_
    rw [n_cl (by omega)]
    exact hz
  by_cases w : x ∈ l
  · refine ⟨isC, carried, nI l.length, l, hU _ (xb_f ?_), ⟨h1, h2, h3, rfl, h5⟩, ⟨[], by simp⟩, fun y => ⟨Or.inl, fun z => z.elim id (fun e => by rw [e]; exact w)⟩⟩
    rw [h5 x hx, b01_0, ct_bt.mpr w]; decide
  · have hnd : (l ++ [x]).Nodup := List.nodup_append.mpr ⟨h1, (by simp), fun a ha b hb e => by rw [List.mem_singleton.mp hb] at e; rw [e] at ha; exact w ha⟩
    have hmem : ∀ y ∈ l ++ [x], y < 256 := fun y hy => (List.mem_append.mp hy).elim (h2 y) (fun z => by rw [List.mem_singleton.mp z]; exact hx)
    have hlt := nd_len hnd hmem
    rw [List.length_append, List.length_singleton] at hlt
    refine ⟨upd isC x (1 : Int32), upd carried l.length (nI x), nI (l ++ [x]).length, l ++ [x], hU _ ((xb_t ?_).trans ((xk_t (vp_in_nI (by omega) (by omega))).trans ?_)), ⟨hnd, hmem, rowL_add h3 x, rfl, fun y hy => ?_⟩, ⟨[x], rfl⟩, fun y => by rw [List.mem_append, List.mem_singleton]⟩
    · rw [h5 x hx, b01_0]; exact ct_bf.mpr w
    · rw [n_cl (by omega), n_add1, List.length_append, List.length_singleton]
    · by_cases e : y = x
      · rw [e, up_s, ct_bt.mpr (List.mem_append.mpr (Or.inr (List.mem_singleton.mpr rfl)))]; rfl
      · rw [up_n e, h5 y hy]
        congr 2
        exact propext ⟨fun z => List.mem_append.mpr (Or.inl z), fun z => (List.mem_append.mp z).elim id (fun q => absurd (List.mem_singleton.mp q) e)⟩
section FIND
variable {N K : Nat} {g : Nat → Nat → Nat} {now : Nat → Int32}
theorem orb_gen (hN : N ≤ 8) (hg : ∀ i, i < K → gp_ok N (g i)) {a x i : Nat} (h : orb K g a x) (hi : i < K) : orb K g a (im (g i) x) := by
  obtain ⟨s, h1, rfl⟩ := h
  exact ⟨gp_th s (g i), gp_in_th h1 (gp_in_gen g hi), im_th (gp_ok_8 hN (gp_in_ok hg h1)) (gp_ok_8 hN (hg i hi)) a⟩
/-- the generators are put to one of those carried -/
theorem find_L3 (hM : mN N K g now) {a : Nat} (ha : a < 2 ^ N) {figs isC carried : Nat → Int32} {cnt : Int32} {l : List Nat} (h : mC isC carried cnt l) (ho : ∀ x ∈ l, orb K g a x) {k : Nat} (hk : k < l.length) :
    ∃ figs' isC' carried' cnt' l', xL (f_X8_findImages_L3 now (nI k)) (figs, isC, carried, cnt, (0 : Int32)) = some (figs', isC', carried', cnt') ∧ mC isC' carried' cnt' l' ∧ (∃ r, l' = l ++ r) ∧ (∀ x ∈ l', orb K g a x) ∧ ∀ j, j < K → im (g j) l[k] ∈ l' := by
  obtain ⟨n1, n8, k3, w0, w1, hg, hgs⟩ := hM
  have hp := p2_8 n8
  let I : Nat → (Nat → Int32) × (Nat → Int32) × (Nat → Int32) × Int32 × Int32 → Prop := fun j z => ∃ figs isC carried cnt l', z = (figs, isC, carried, cnt, nI j) ∧ mC isC carried cnt l' ∧ (∃ r, l' = l ++ r) ∧ (∀ x ∈ l', orb K g a x) ∧ ∀ i, i < j → im (g i) l[k] ∈ l'
  let P : (Nat → Int32) × (Nat → Int32) × (Nat → Int32) × Int32 → Prop := fun z => ∃ figs isC carried cnt l', z = (figs, isC, carried, cnt) ∧ mC isC carried cnt l' ∧ (∃ r, l' = l ++ r) ∧ (∀ x ∈ l', orb K g a x) ∧ ∀ i, i < K → im (g i) l[k] ∈ l'
  have hh := xL_for (body := f_X8_findImages_L3 now (nI k)) (P := P) I K (fun j z hj hz => Or.inl ?_) (fun z hz => ?_) K 0 (Nat.zero_add _) (figs, isC, carried, cnt, (0 : Int32)) ⟨figs, isC, carried, cnt, l, rfl, h, ⟨[], by simp⟩, ho, fun i hi => absurd hi (Nat.not_lt_zero _)⟩
  · obtain ⟨z, z1, figs', isC', carried', cnt', l', rfl, z2⟩ := hh
    exact ⟨figs', isC', carried', cnt', l', z1, z2⟩
  · obtain ⟨figs, isC, carried, cnt, l', rfl, hc, ⟨r, hr⟩, hor, him⟩ := hz
    obtain ⟨figs2, e1, hf2⟩ := mo_open_mv (now := now) (figs := figs) n8 w0 (v := now (2 + j)) (s := g j) ⟨hg j hj, hgs j hj⟩
    have hget : l'[k]? = some l[k] := by rw [hr, List.getElem?_append_left hk, List.getElem?_eq_getElem hk]
    have hlen : l'.length ≤ 256 := nd_len hc.1 hc.2.1
    have hkl : k < l'.length := (List.getElem?_eq_some_iff.mp hget).1
    have hmem : l[k] ∈ l' := List.mem_of_getElem? hget
    have hlt : l[k] < 2 ^ N := orb_lt n8 hg ha (hor _ hmem)
    have e2 := m_imageOf (now := now) n8 w0 (hg j hj) hf2 hlt
    have hx : im (g j) l[k] < 2 ^ N := im_ltN n8 (hg j hj) hlt
    obtain ⟨isC', carried', cnt', l2, e3, hc2, ⟨r2, hr2⟩, hm2⟩ := m_carry hc (x := im (g j) l[k]) (by omega)
    refine ⟨(figs2, isC', carried', cnt', nI j + (1 : Int32)), ?_, figs2, isC', carried', cnt', l2, by rw [n_add1], hc2, ⟨r ++ r2, by rw [hr2, hr, List.append_assoc]⟩, fun x hx => ?_, fun i hi => ?_⟩
    · refine (xb_f (by rw [w1, n_le (by omega) (by omega)]; omega)).trans ?_
      rw [show (2 : Int32) + nI j = nI (2 + j) from n_addn 2 j]
      refine (xk_t (vp_in_nI (by omega) (by omega))).trans ?_
      rw [n_cl (by omega)]
      refine (xn_s e1).trans ((xk_t (vp_in_nI (by omega) (by omega))).trans ?_)
      rw [n_cl (by omega), hc.2.2.1 k _ hget]
      exact (xn_s e2).trans ((xn_s e3).trans rfl)
    · rcases (hm2 x).mp hx with w | w
      · exact hor x w
      · rw [w]; exact orb_gen n8 hg (hor _ hmem) hj
    · rcases Nat.lt_or_ge i j with w | w
      · exact (hm2 _).mpr (Or.inl (him i w))
      · rw [show i = j by omega]; exact (hm2 _).mpr (Or.inr rfl)
  · obtain ⟨figs, isC, carried, cnt, l', rfl, hz⟩ := hz
    exact ⟨(figs, isC, carried, cnt), xb_t (by rw [w1]; exact Int32.le_refl _), figs, isC, carried, cnt, l', rfl, hz⟩
end FIND

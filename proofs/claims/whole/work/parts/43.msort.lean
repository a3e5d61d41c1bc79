/-- those of the first k turned ones, from above, for which p -/
def fr (p : Nat → Bool) : Nat → List Nat
  | 0 => []
  | k + 1 => (if p (tr8 k) then [tr8 k] else []) ++ fr p k
theorem fr_ok (p : Nat → Bool) : ∀ k, fr p k = ((List.range k).reverse.map tr8).filter p
  | 0 => rfl
  | k + 1 => by
    rw [fr, fr_ok p k, List.range_succ, List.reverse_append, List.reverse_singleton, List.singleton_append, List.map_cons, List.filter_cons]
    cases p (tr8 k) <;> rfl
theorem fr_256 (p : Nat → Bool) : fr p 256 = allL.filter p := fr_ok p 256
section FIND2
variable {N K : Nat} {g : Nat → Nat → Nat} {now : Nat → Int32}
theorem imL_all (hN : N ≤ 8) (hg : ∀ i, i < K → gp_ok N (g i)) {a : Nat} (ha : a < 2 ^ N) : imL N K g a = allL.filter (fun b => ct_b (orb K g a b)) := by
  unfold imL ordL
  rw [List.filter_filter]
  refine List.filter_congr (fun x hx => ?_)
  by_cases w : orb K g a x
  · rw [ct_bt.mpr w, Bool.true_and, Bool.and_eq_true, decide_eq_true_eq, beq_iff_eq]
    exact ⟨orb_lt hN hg ha w, orb_pop hN hg w⟩
  · rw [ct_bf.mpr w, Bool.false_and]
theorem imL_mem (hN : N ≤ 8) (hg : ∀ i, i < K → gp_ok N (g i)) {a : Nat} (ha : a < 2 ^ N) {x : Nat} : x ∈ imL N K g a ↔ orb K g a x := by
  have hp := p2_8 hN
  rw [imL_all hN hg ha, List.mem_filter, allL_mem, ct_bt]
  exact ⟨fun h => h.2, fun h => ⟨by have := orb_lt hN hg ha h; omega, h⟩⟩
theorem m_findImages (hM : mN N K g now) {a : Nat} (ha : a < 2 ^ N) (figs isC carried : Nat → Int32) (cnt : Int32) :
    ∃ figs' isC' carried', f_X8_findImages now figs isC carried cnt (nI a) = some (figs', isC', carried', nI (imL N K g a).length) ∧ rowL carried' (imL N K g a) := by
  have hM' := hM
  obtain ⟨n1, n8, k3, w0, w1, hg, hgs⟩ := hM'
  have hp := p2_8 n8
  have hcl := xL_up (body := f_X8_findImages_L1) (fun k => ((fun i => if i < k then (0 : Int32) else isC i), nI k)) 256 (r := fun i => if i < 256 then (0 : Int32) else isC i) (fun k hk => ?_) (xb_t (Int32.le_refl _))
  · have e0 : ((fun i => if i < 0 then (0 : Int32) else isC i), nI 0) = (isC, (0 : Int32)) := by
      have : (fun i => if i < 0 then (0 : Int32) else isC i) = isC := funext fun i => if_neg (by omega)
      rw [this]; rfl
    have hcl2 : xL f_X8_findImages_L1 (isC, (0 : Int32)) = some (fun i => if i < 256 then (0 : Int32) else isC i) := by rw [← e0]; exact hcl
    have hc0 : mC (fun i => if i < 256 then (0 : Int32) else isC i) carried (nI ([] : List Nat).length) [] := ⟨List.nodup_nil, fun x hx => by simp at hx, rowL_nil _, rfl, fun x hx => by
      rw [ct_bf.mpr (by simp)]; exact if_pos hx⟩
    obtain ⟨isC1, carried1, cnt1, l1, e1, hc1, -, hm1⟩ := m_carry hc0 (x := a) (by omega)
    -- all images
    let I : Nat → (Nat → Int32) × (Nat → Int32) × (Nat → Int32) × Int32 × Int32 → Prop := fun k z => ∃ figs isC carried cnt l, z = (figs, isC, carried, cnt, nI k) ∧ mC isC carried cnt l ∧ (∀ x ∈ l, orb K g a x) ∧ a ∈ l ∧ k ≤ l.length ∧ ∀ i (hi : i < l.length), i < k → ∀ j, j < K → im (g j) l[i] ∈ l
    let P : (Nat → Int32) × (Nat → Int32) × (Nat → Int32) × Int32 → Prop := fun z => ∃ figs isC carried cnt l, z = (figs, isC, carried, cnt) ∧ mC isC carried cnt l ∧ ∀ x, x ∈ l ↔ orb K g a x
    have hend : ∀ k figs isC carried cnt l, mC isC carried cnt l → (∀ x ∈ l, orb K g a x) → a ∈ l → (∀ i (hi : i < l.length), i < k → ∀ j, j < K → im (g j) l[i] ∈ l) → l.length ≤ k → P (figs, isC, carried, cnt) := by
      intro k figs isC carried cnt l hc ho hal hcl hk
      refine ⟨figs, isC, carried, cnt, l, rfl, hc, fun x => ⟨ho x, ?_⟩⟩
      rintro ⟨s, hs, rfl⟩
      refine gp_in_ind (P := fun s => gp_ok N s ∧ im s a ∈ l) ⟨gp_ok_id N, by rw [im_id (by omega)]; exact hal⟩ (fun s hs i hi => ⟨gp_ok_th hs.1 (hg i hi), ?_⟩) hs |>.2
      rw [im_th (gp_ok_8 n8 hs.1) (gp_ok_8 n8 (hg i hi))]
      obtain ⟨m, hm, hm2⟩ := List.getElem_of_mem hs.2
      rw [← hm2]
      exact hcl m hm (by omega) i hi
    have hh := xL_for (body := f_X8_findImages_L2 now) (P := P) I 256 (fun k z hk hz => ?_) (fun z hz => ?_) 256 0 (Nat.zero_add _) (figs, isC1, carried1, cnt1, (0 : Int32)) ⟨figs, isC1, carried1, cnt1, l1, rfl, hc1, fun x hx => by
      rcases (hm1 x).mp hx with w | w
      · simp at w
      · rw [w]; exact orb_rf K g (by omega), (hm1 a).mpr (Or.inr rfl), Nat.zero_le _, fun i _ hi => absurd hi (Nat.not_lt_zero _)⟩
    · obtain ⟨z, z1, figs2, isC2, carried2, cnt2, l2, rfl, hc2, hm2⟩ := hh
      have hp2 : ∀ k, k < 256 → isC2 (tr8 k) = b01 (ct_b (orb K g a (tr8 k))) := fun k hk => by
        rw [hc2.2.2.2.2 _ (tr8_ok k hk).1]
        congr 2
        exact propext (hm2 _)
      have hnd : (imL N K g a).Nodup := (ordL_nd N _).filter _
      have hml : ∀ x, x ∈ l2 ↔ x ∈ imL N K g a := fun x => (hm2 x).trans (imL_mem n8 hg ha).symm
      have hll : l2.length = (imL N K g a).length := by
        have h1 : l2.Perm (imL N K g a) := (List.perm_ext_iff_of_nodup hc2.1 hnd).mpr hml
        exact h1.length_eq
      have htot := imL_le (K := K) (g := g) n8 a
      -- in their order
      let J : Nat → (Nat → Int32) × Int32 × Int32 → Prop := fun k y => ∃ f l, y = (f, nI l.length, n_left k) ∧ rowL f l ∧ l ++ fr (fun b => ct_b (orb K g a b)) k = imL N K g a
      have h4 := xL_dnI (body := f_X8_findImages_L4 isC2) (P := fun f => rowL f (imL N K g a)) J (fun y hy => ?_) 256 (fun k y hk hy => Or.inl ?_) (carried2, (0 : Int32), (255 : Int32)) ⟨carried2, [], rfl, rowL_nil _, by rw [List.nil_append, fr_256, imL_all n8 hg ha]⟩
      · obtain ⟨f, f1, f2⟩ := h4
        refine ⟨figs2, isC2, f, ?_, f2⟩
        have e5 : cnt2 = nI (imL N K g a).length := by rw [hc2.2.2.2.1, hll]
        refine (xn_s hcl2).trans ((xn_s e1).trans ((xn_s z1).trans ((xn_s f1).trans ?_)))
        rw [e5]
      · obtain ⟨f, l, rfl, h1, h2⟩ := hy
        rw [fr, List.append_nil] at h2
        exact ⟨f, xb_t n_left_lt, by rw [← h2]; exact h1⟩
      · obtain ⟨f, l, rfl, h1, h2⟩ := hy
        have ht := tr8_ok k hk
        have hlen : l.length + (fr (fun b => ct_b (orb K g a b)) (k + 1)).length ≤ 256 := by rw [← List.length_append, h2]; exact htot
        have hd : f_X8_findImages_L4 isC2 (f, nI l.length, n_left (k + 1)) = xb (b01 (ct_b (orb K g a (tr8 k))) = 0) (some (.inl (f, nI l.length, nI k + (-1 : Int32)))) (xk (vp_in (nI l.length) 256) (some (.inl ((upd f (nI l.length).toNatClampNeg (nI (tr8 k))), (nI l.length + (1 : Int32)), (nI k + (-1 : Int32)))))) := by
          refine (xb_f (n_left_nlt (by omega))).trans ?_
          rw [n_left_s]
          refine (xn_s (m_turned hk)).trans ((xk_t (vp_in_nI ht.1 (by omega))).trans ?_)
          rw [n_cl (by omega), hp2 k hk, xn_s (m_turned hk)]
        rw [fr] at h2 hlen
        by_cases w : ct_b (orb K g a (tr8 k)) = true
        · rw [if_pos w] at h2 hlen
          simp only [List.length_append, List.length_singleton] at hlen
          refine ⟨(upd f l.length (nI (tr8 k)), nI (l ++ [tr8 k]).length, n_left k), ?_, _, l ++ [tr8 k], rfl, rowL_add h1 _, by rw [List.append_assoc]; exact h2⟩
          refine hd.trans ((xb_f (by rw [b01_0, w]; decide)).trans ((xk_t (vp_in_nI (by omega) (by omega))).trans ?_))
          rw [n_cl (by omega), n_add1, List.length_append, List.length_singleton]
          rfl
        · rw [if_neg w, List.nil_append] at h2
          exact ⟨(f, nI l.length, n_left k), hd.trans ((xb_t (by rw [b01_0]; simpa using w)).trans rfl), f, l, rfl, h1, h2⟩
    · obtain ⟨figs, isC, carried, cnt, l, rfl, hc, ho, hal, hkl, hcl⟩ := hz
      have hlen := nd_len hc.1 hc.2.1
      have hcnt := hc.2.2.2.1
      by_cases w : k < l.length
      · obtain ⟨figs3, isC3, carried3, cnt3, l3, e3, hc3, ⟨r, hr⟩, ho3, hi3⟩ := find_L3 hM ha (figs := figs) hc ho w
        have hll : l.length ≤ l3.length := by rw [hr, List.length_append]; omega
        refine Or.inl ⟨(figs3, isC3, carried3, cnt3, nI k + (1 : Int32)), (xb_f (by rw [hcnt, n_le (by omega) (by omega)]; omega)).trans ((xn_s e3).trans rfl), figs3, isC3, carried3, cnt3, l3, by rw [n_add1], hc3, ho3, by rw [hr]; exact List.mem_append.mpr (Or.inl hal), by omega, fun i hi hik j hj => ?_⟩
        have hil : i < l.length := by omega
        have hget : l3[i] = l[i] := by
          have : l3[i]? = some l[i] := by rw [hr, List.getElem?_append_left hil, List.getElem?_eq_getElem hil]
          exact Option.some.inj ((List.getElem?_eq_getElem hi).symm.trans this)
        rw [hget]
        rcases Nat.lt_or_ge i k with y | y
        · rw [hr]; exact List.mem_append.mpr (Or.inl (hcl i hil y j hj))
        · have : i = k := by omega
          subst this
          exact hi3 j hj
      · exact Or.inr ⟨_, xb_t (by rw [hcnt, n_le (by omega) (by omega)]; omega), hend k figs isC carried cnt l hc ho hal hcl (by omega)⟩
    · obtain ⟨figs, isC, carried, cnt, l, rfl, hc, ho, hal, hkl, hcl⟩ := hz
      have hlen := nd_len hc.1 hc.2.1
      have hcnt := hc.2.2.2.1
      exact ⟨_, xb_t (by rw [hcnt, n_le (by omega) (by omega)]; omega), hend 256 figs isC carried cnt l hc ho hal hcl hlen⟩
  · refine (xb_f (by rw [show (256 : Int32) = nI 256 from rfl, n_le (by omega) (by omega)]; omega)).trans ((xk_t (vp_in_nI hk (by omega))).trans ?_)
    rw [n_cl (by omega), n_add1]
    have : upd (fun i => if i < k then (0 : Int32) else isC i) k (0 : Int32) = fun i => if i < k + 1 then (0 : Int32) else isC i := funext fun i => by
      by_cases e : i = k
      · rw [e, up_s, if_pos (by omega)]
      · rw [up_n e]
        by_cases w : i < k
        · rw [if_pos w, if_pos (by omega)]
        · rw [if_neg w, if_neg (by omega)]
    rw [this]
end FIND2

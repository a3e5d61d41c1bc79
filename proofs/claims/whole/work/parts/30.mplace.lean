-- the reference: figures, moves, places
theorem xL_fr {S R : Type} {body : S → Option (S ⊕ R)} (st : Nat → S) (a b : Nat) {r : R} (hab : a ≤ b) (hstep : ∀ k, a ≤ k → k < b → body (st k) = some (.inl (st (k + 1)))) (hend : body (st b) = some (.inr r)) : xL body (st a) = some r := by
  have h := xL_det (body := body) (fun i => st (a + i)) (b - a) (r := r) (fun k hk => hstep (a + k) (by omega) (by omega)) (by rw [show a + (b - a) = b by omega]; exact hend) (b - a) 0 (by omega)
  exact h
theorem up_s {f : Nat → Int32} {k : Nat} {x : Int32} : upd f k x k = x := pk_us
theorem up_n {f : Nat → Int32} {k j : Nat} {x : Int32} (h : j ≠ k) : upd f k x j = f j := pk_un h
theorem up_fun {f g : Nat → Int32} {k : Nat} {x : Int32} (h1 : g k = x) (h2 : ∀ i, i ≠ k → g i = f i) : upd f k x = g := funext fun i => by
  by_cases e : i = k
  · rw [e, up_s, h1]
  · rw [up_n e, h2 i e]
def mo_f (figs : Nat → Int32) (n c k : Nat) : Nat → Int32 := fun i => if k ≤ i ∧ i < n then nI (cf n c i) else figs i
theorem mo_open {now figs : Nat → Int32} {n c : Nat} (hn : n ≤ 8) (hw : now 0 = nI n) (hc : c < 2 ^ 31) : f_X8_open now figs (nI c) = some (mo_f figs n c 0) := by
  have hlt : ∀ k, c / 10 ^ k < 2 ^ 31 := fun k => Nat.lt_of_le_of_lt (Nat.div_le_self _ _) hc
  have h := xL_dn (body := f_X8_open_L1) (fun k => (mo_f figs n c k, nI (c / 10 ^ (n - k)), n_left k)) (r := mo_f figs n c 0) (xb_t n_left_lt) n (fun k hk => ?_)
  · show xn (xL _ _) _ = _
    have e0 : (mo_f figs n c n, nI (c / 10 ^ (n - n)), n_left n) = (figs, nI c, now 0 - (1 : Int32)) := by
      have a : mo_f figs n c n = figs := funext fun i => if_neg (by omega)
      rw [Nat.sub_self, Nat.pow_zero, Nat.div_one, a, hw, n_left_sub]
    rw [← e0, xn_s h]
  · obtain ⟨c1, c2⟩ := cf_left (n := n) (c := c) hk
    refine (xb_f (n_left_nlt (by omega))).trans ?_
    rw [n_left_s, n_rem10 (hlt _), n_div10 (hlt _), c1, c2]
    refine (xk_t (vp_in_nI (by omega) (by omega))).trans ?_
    rw [n_cl (by omega)]
    have e : upd (mo_f figs n c (k + 1)) k (nI (cf n c k)) = mo_f figs n c k := up_fun (if_pos ⟨Nat.le_refl _, hk⟩) (fun i hi => by
      unfold mo_f
      by_cases z : k + 1 ≤ i ∧ i < n
      · rw [if_pos z, if_pos ⟨by omega, z.2⟩]
      · rw [if_neg z, if_neg (fun y => z ⟨by omega, y.2⟩)])
    rw [e]; rfl
/-- the figures of a move lie open -/
def figOf (n : Nat) (figs : Nat → Int32) (s : Nat → Nat) : Prop := ∀ p, p < n → figs p = nI (s p)
theorem mo_open_mv {now figs : Nat → Int32} {n : Nat} (hn : n ≤ 8) (hw : now 0 = nI n) {v : Int32} {s : Nat → Nat} (hs : isMv n v s) : ∃ figs', f_X8_open now figs v = some figs' ∧ figOf n figs' s := by
  have b : ∀ i, i < n → s i < 10 := fun i hi => by have := hs.1.1 i hi; omega
  rw [hs.2]
  exact ⟨_, mo_open hn hw (by have := cd_8 hn b; omega), fun p hp => by
    unfold mo_f
    rw [if_pos ⟨by omega, hp⟩, cd_fig b p hp]⟩
theorem n_pow10 {n : Nat} (hn : n ≤ 8) : 10 ^ n < 2 ^ 30 := by
  have h2 : 10 ^ n ≤ 10 ^ 8 := Nat.pow_le_pow_right (by decide) hn
  have e : (10 : Nat) ^ 8 = 100000000 := by decide +kernel
  omega
theorem mo_isMove {now figs : Nat → Int32} {n : Nat} (hn : n ≤ 8) (hw : now 0 = nI n) (v : Int32) : ∃ figs' r, f_X8_isMove now figs v = some (figs', r) ∧ ((∃ s, isMv n v s ∧ r = (1 : Int32)) ∨ ((∀ s, ¬ isMv n v s) ∧ r = (0 : Int32))) := by
  have h10 := n_pow10 hn
  have hp10 : 0 < 10 ^ n := Nat.pow_pos (by decide)
  have h1 := xL_up (body := f_X8_isMove_L1 now) (fun k => (nI (10 ^ k), nI k)) n (r := nI (10 ^ n)) (fun k hk => ?_) ?_
  · have e0 : (nI (10 ^ 0), nI 0) = ((1 : Int32), (0 : Int32)) := rfl
    rw [e0] at h1
    have hU : f_X8_isMove now figs v = xn (f_X8_in v (0 : Int32) (nI (10 ^ n) - (1 : Int32))) (fun (r_4 : Int32) => xb (r_4 = 0) (some (figs, (0 : Int32))) (xn (f_X8_open now figs v) (fun (f5 : (Nat → Int32)) => xn (xL (f_X8_isMove_L2 now f5) ((0 : Int32), (0 : Int32))) (fun (v3_8 : Int32) => xb (v3_8 = (((1 : Int32) <<< ((now 0) &&& 31)) - (1 : Int32))) (some (f5, (1 : Int32))) (some (f5, (0 : Int32))))))) := by
      show xn (xL _ _) _ = _
      rw [xn_s h1]
    rw [hU, n_sub1 (by omega)]
    by_cases hv : v < 0
    · have : f_X8_in v (0 : Int32) (nI (10 ^ n - 1)) = some (0 : Int32) := xb_t hv
      rw [xn_s this]
      exact ⟨_, _, xb_t rfl, Or.inr ⟨isMv_neg hn hv, rfl⟩⟩
    · obtain ⟨c, hc, rfl⟩ := nI_of hv
      by_cases hc2 : 10 ^ n - 1 < c
      · have : f_X8_in (nI c) (0 : Int32) (nI (10 ^ n - 1)) = some (0 : Int32) := (xb_f hv).trans (xb_t (by rw [n_lt (by omega) (by omega)]; exact hc2))
        rw [xn_s this]
        exact ⟨_, _, xb_t rfl, Or.inr ⟨fun s hs => by have := ((isMv_iff hn hc).mp ⟨s, hs⟩).1; omega, rfl⟩⟩
      · have : f_X8_in (nI c) (0 : Int32) (nI (10 ^ n - 1)) = some (1 : Int32) := (xb_f hv).trans (xb_f (by rw [n_lt (by omega) (by omega)]; exact hc2))
        rw [xn_s this]
        have hc10 : c < 10 ^ n := by omega
        have hL : xL (f_X8_isMove_L2 now (mo_f figs n c 0)) ((0 : Int32), (0 : Int32)) = some (nI (mk_n (cf n c) n)) := by
          have h2 := xL_up (body := f_X8_isMove_L2 now (mo_f figs n c 0)) (fun k => (nI (mk_n (cf n c) k), nI k)) n (r := nI (mk_n (cf n c) n)) (fun k hk => ?_) ?_
          · exact h2
          · have hf : cf n c k < 10 := Nat.mod_lt _ (by decide)
            refine (xb_f (by rw [hw, n_le (by omega) (by omega)]; omega)).trans ((xk_t (vp_in_nI (by omega) (by omega))).trans ?_)
            rw [n_cl (by omega), n_add1]
            have e : mo_f figs n c 0 k = nI (cf n c k) := if_pos ⟨by omega, hk⟩
            rw [e, show (1 : Int32) = nI 1 from rfl, n_shl (by omega), n_or, Nat.one_mul]; rfl
          · exact xb_t (by rw [hw]; exact Int32.le_refl _)
        have ho := mo_open (figs := figs) hn hw hc
        have hml : mk_n (cf n c) n < 2 ^ 10 := mk_lt (fun i _ => Nat.mod_lt _ (by decide))
        have hp2 : 0 < 2 ^ n := Nat.pow_pos (by decide)
        have hp3 : 2 ^ n ≤ 2 ^ 8 := Nat.pow_le_pow_right (by decide) hn
        have em : ((1 : Int32) <<< (now 0 &&& 31)) - (1 : Int32) = nI (2 ^ n - 1) := by
          rw [hw, show (1 : Int32) = nI 1 from rfl, n_shl (by omega), Nat.one_mul]
          exact n_sub1 (by omega)
        by_cases hm : mk_n (cf n c) n = 2 ^ n - 1
        · refine ⟨mo_f figs n c 0, (1 : Int32), (xb_f (by decide)).trans ?_, Or.inl ⟨cfm n c, isMv_cfm hc10 ?_, rfl⟩⟩
          · exact (xn_s ho).trans ((xn_s hL).trans (xb_t (by rw [em, hm])))
          · obtain ⟨m1, m2⟩ := mk_full.mp hm
            refine ⟨fun p hp => ?_, fun p q hp hq e => ?_, fun p hp => if_neg (by omega)⟩
            · unfold cfm; rw [if_pos hp]; exact m1 p hp
            · unfold cfm at e; rw [if_pos hp, if_pos hq] at e; exact m2 p q hp hq e
        · refine ⟨mo_f figs n c 0, (0 : Int32), (xb_f (by decide)).trans ?_, Or.inr ⟨fun s hs => ?_, rfl⟩⟩
          · exact (xn_s ho).trans ((xn_s hL).trans (xb_f (by rw [em, n_ieq (by omega) (by omega)]; exact hm)))
          · have hok := ((isMv_iff hn hc).mp ⟨s, hs⟩).2
            refine hm (mk_full.mpr ⟨fun p hp => ?_, fun p q hp hq e => ?_⟩)
            · have := hok.1 p hp
              unfold cfm at this
              rw [if_pos hp] at this
              exact this
            · exact hok.2.1 p q hp hq (by unfold cfm; rw [if_pos hp, if_pos hq]; exact e)
  · refine (xb_f (by rw [hw, n_le (by omega) (by omega)]; omega)).trans ?_
    rw [show (10 : Int32) = nI 10 from rfl, n_mul, n_add1, ← Nat.pow_succ]
  · exact xb_t (by rw [hw]; exact Int32.le_refl _)
/-- places -/
theorem mo_place {now figs : Nat → Int32} {n : Nat} (hn : n ≤ 8) (hw : now 0 = nI n) {s : Nat → Nat} (hs : gp_ok n s) (hf : figOf n figs s) : f_X8_placeOf now figs = some (nI (pm_pl n s)) := by
  have hin : ∀ p, p < n → xL (f_X8_placeOf_L2 now (nI p) figs) ((0 : Int32), (nI p + (1 : Int32))) = some (nI (le_bh s n p)) := by
    intro p hp
    have h := xL_fr (body := f_X8_placeOf_L2 now (nI p) figs) (fun q => (nI (fb_ct (fun q => decide (p < q ∧ s q < s p)) q), nI q)) (p + 1) n (r := nI (le_bh s n p)) (by omega) (fun q hq1 hq => ?_) ?_
    · have e0 : (nI (fb_ct (fun q => decide (p < q ∧ s q < s p)) (p + 1)), nI (p + 1)) = ((0 : Int32), (nI p + (1 : Int32))) := by
        have : fb_ct (fun q => decide (p < q ∧ s q < s p)) (p + 1) = 0 := fb_ct_zero.mpr (fun k hk => decide_eq_false (fun w => by have := w.1; omega))
        rw [this, n_add1]; rfl
      rw [e0] at h
      exact h
    · refine (xb_f (by rw [hw, n_le (by omega) (by omega)]; omega)).trans ((xk_t (vp_in_nI (by omega) (by omega))).trans ((xk_t (vp_in_nI (by omega) (by omega))).trans ?_))
      rw [n_cl (by omega), n_cl (by omega), hf p hp, hf q hq, n_add1]
      have hsp := hs.1 p hp
      have hsq := hs.1 q hq
      rw [fb_ct_succ]
      by_cases w : s p ≤ s q
      · have e : decide (p < q ∧ s q < s p) = false := decide_eq_false (fun z => by have := z.2; omega)
        rw [e]
        refine (xb_t (by rw [n_le (by omega) (by omega)]; exact w)).trans ?_
        rw [show (0 : Int32) = nI 0 from rfl, n_addn]; rfl
      · have e : decide (p < q ∧ s q < s p) = true := decide_eq_true ⟨by omega, by omega⟩
        rw [e]
        refine (xb_f (by rw [n_le (by omega) (by omega)]; exact w)).trans ?_
        rw [show (1 : Int32) = nI 1 from rfl, n_addn]; rfl
    · exact xb_t (by rw [hw]; exact Int32.le_refl _)
  have h := xL_up (body := f_X8_placeOf_L1 now figs) (fun k => (nI (le_hp n (le_bh s n) k), nI k)) n (r := nI (pm_pl n s)) (fun k hk => ?_) ?_
  · show xn (xL _ _) _ = _
    have e0 : (nI (le_hp n (le_bh s n) 0), nI 0) = ((0 : Int32), (0 : Int32)) := rfl
    rw [← e0, xn_s h]
  · refine (xb_f (by rw [hw, n_le (by omega) (by omega)]; omega)).trans ((xn_s (hin k hk)).trans ?_)
    rw [hw, pk_sub (by omega), n_mul, n_addn, n_add1]; rfl
  · exact xb_t (by rw [hw]; exact Int32.le_refl _)

/-- the digits, from k on -/
def mo_d (figs : Nat → Int32) (n j k : Nat) : Nat → Int32 := fun i => if k ≤ i ∧ i < n then nI (le_dg n j i) else figs i
/-- behind the rounds for the points from k on -/
def mo_v (figs : Nat → Int32) (n j k : Nat) : Nat → Int32 := fun i => if i < n then nI (if i < k then le_dg n j i else le_val (fun a => le_dg n j (k + a)) (i - k)) else figs i
theorem mo_v_lo {figs : Nat → Int32} {n j k i : Nat} (h : i < k) (hi : i < n) : mo_v figs n j k i = nI (le_dg n j i) := by
  unfold mo_v
  rw [if_pos hi]
  congr 1
  exact if_pos h
theorem mo_v_hi {figs : Nat → Int32} {n j k i : Nat} (h : k ≤ i) (hi : i < n) : mo_v figs n j k i = nI (le_val (fun a => le_dg n j (k + a)) (i - k)) := by
  unfold mo_v
  rw [if_pos hi]
  congr 1
  exact if_neg (by omega)
theorem mo_v_out {figs : Nat → Int32} {n j k i : Nat} (hi : ¬ i < n) : mo_v figs n j k i = figs i := if_neg hi
theorem le_lf_lt {j : Nat} (hj : j < 2 ^ 31) (k : Nat) : le_lf j k < 2 ^ 31 := by rw [le_lf_fac]; exact Nat.lt_of_le_of_lt (Nat.div_le_self _ _) hj
theorem mo_digits {now figs : Nat → Int32} {n j : Nat} (hn : n ≤ 8) (hw : now 0 = nI n) (hj : j < 2 ^ 31) : xL (f_X8_codeAt_L1 now) (figs, nI j, (now 0 - (1 : Int32))) = some (mo_d figs n j 0) := by
  have h := xL_dn (body := f_X8_codeAt_L1 now) (fun k => (mo_d figs n j k, nI (le_lf j (n - k)), n_left k)) (r := mo_d figs n j 0) (xb_t n_left_lt) n (fun k hk => ?_)
  · have e0 : (mo_d figs n j n, nI (le_lf j (n - n)), n_left n) = (figs, nI j, now 0 - (1 : Int32)) := by
      have a : mo_d figs n j n = figs := funext fun i => if_neg (by omega)
      rw [Nat.sub_self, a, hw, n_left_sub]; rfl
    rw [e0] at h
    exact h
  · have hl := le_lf_lt hj (n - (k + 1))
    refine (xb_f (n_left_nlt (by omega))).trans ?_
    rw [n_left_s, hw, pk_sub (by omega)]
    refine (xk_t (nI_ne0 (by omega) (by omega))).trans ((xk_t (vp_in_nI (by omega) (by omega))).trans ?_)
    rw [n_cl (by omega), pk_rem hl (by omega) (by omega), pk_div hl (by omega) (by omega)]
    have e : upd (mo_d figs n j (k + 1)) k (nI (le_lf j (n - (k + 1)) % (n - k))) = mo_d figs n j k := up_fun (by
      unfold mo_d le_dg
      rw [if_pos ⟨Nat.le_refl _, hk⟩, show n - 1 - k = n - (k + 1) by omega]) (fun i hi => by
      unfold mo_d
      by_cases z : k + 1 ≤ i ∧ i < n
      · rw [if_pos z, if_pos ⟨by omega, z.2⟩]
      · rw [if_neg z, if_neg (fun y => z ⟨by omega, y.2⟩)])
    have e2 : le_lf j (n - (k + 1)) / (n - k) = le_lf j (n - k) := by
      rw [show n - k = (n - (k + 1)) + 1 by omega]; rfl
    rw [e, e2]; rfl
theorem le_dg_lt {n j p : Nat} (hp : p < n) : le_dg n j p < n := by have := le_dg_ok n j p hp; omega
theorem le_val_k {n j k : Nat} (hk : k ≤ n) {i : Nat} (hi : i < n - k) : le_val (fun a => le_dg n j (k + a)) i < n - k :=
  le_val_lt (n - k) _ (fun p hp => by have := le_dg_ok n j (k + p) (by omega); show le_dg n j (k + p) + p < n - k; omega) i hi
theorem mo_shift {now figs : Nat → Int32} {n j k : Nat} (hn : n ≤ 8) (hw : now 0 = nI n) (hk : k + 1 < n) : xL (f_X8_codeAt_L3 now (nI k)) (mo_v figs n j (k + 1), (nI k + (1 : Int32))) = some (mo_v figs n j k) := by
  let st : Nat → (Nat → Int32) × Int32 := fun q => ((fun i => if i < q then mo_v figs n j k i else mo_v figs n j (k + 1) i), nI q)
  have hh := xL_fr (body := f_X8_codeAt_L3 now (nI k)) st (k + 1) n (r := mo_v figs n j k) (by omega) (fun q hq1 hq => ?_) ?_
  · have e0 : st (k + 1) = (mo_v figs n j (k + 1), (nI k + (1 : Int32))) := by
      show ((fun i => if i < k + 1 then mo_v figs n j k i else mo_v figs n j (k + 1) i), nI (k + 1)) = _
      have : (fun i => if i < k + 1 then mo_v figs n j k i else mo_v figs n j (k + 1) i) = mo_v figs n j (k + 1) := funext fun i => by
        by_cases z : i < k + 1
        · rw [if_pos z, mo_v_lo z (by omega)]
          by_cases y : i < k
          · rw [mo_v_lo y (by omega)]
          · rw [mo_v_hi (by omega) (by omega), show i = k by omega, Nat.sub_self]; rfl
        · rw [if_neg z]
      rw [this, n_add1]
    rw [e0] at hh
    exact hh
  · have hq0 : (fun i => if i < q then mo_v figs n j k i else mo_v figs n j (k + 1) i) q = nI (le_val (fun a => le_dg n j (k + 1 + a)) (q - (k + 1))) := by
      show (if q < q then _ else _) = _
      rw [if_neg (Nat.lt_irrefl _), mo_v_hi hq1 hq]
    have hk0 : (fun i => if i < q then mo_v figs n j k i else mo_v figs n j (k + 1) i) k = nI (le_dg n j k) := by
      show (if k < q then _ else _) = _
      rw [if_pos (by omega), mo_v_hi (Nat.le_refl _) (by omega), Nat.sub_self]; rfl
    have b1 := le_val_k (n := n) (j := j) (k := k + 1) (by omega) (i := q - (k + 1)) (by omega)
    have b2 := le_dg_lt (n := n) (j := j) (p := k) (by omega)
    refine (xb_f (by rw [hw, n_le (by omega) (by omega)]; omega)).trans ((xk_t (vp_in_nI (by omega) (by omega))).trans ((xk_t (vp_in_nI (by omega) (by omega))).trans ?_))
    rw [n_cl (by omega), n_cl (by omega)]
    rw [hq0, hk0, n_add1]
    have hv : mo_v figs n j k q = nI (le_sh (le_dg n j k) (le_val (fun a => le_dg n j (k + 1 + a)) (q - (k + 1)))) := by
      rw [mo_v_hi (by omega) hq]
      obtain ⟨i, hi⟩ : ∃ i, q - k = i + 1 := ⟨q - k - 1, by omega⟩
      rw [hi, show q - (k + 1) = i by omega]
      show nI (le_sh (le_dg n j (k + 0)) (le_val (fun a => le_dg n j (k + (a + 1))) i)) = _
      have : (fun a => le_dg n j (k + (a + 1))) = (fun a => le_dg n j (k + 1 + a)) := funext fun a => by rw [show k + (a + 1) = k + 1 + a by omega]
      rw [this, Nat.add_zero]
    have hu : ∀ x : Int32, x = mo_v figs n j k q → upd (fun i => if i < q then mo_v figs n j k i else mo_v figs n j (k + 1) i) q x = (fun i => if i < q + 1 then mo_v figs n j k i else mo_v figs n j (k + 1) i) := fun x hx => up_fun (by
        show (if q < q + 1 then _ else _) = _
        rw [if_pos (by omega), hx]) (fun i hi => by
        show (if i < q + 1 then _ else _) = (if i < q then _ else _)
        by_cases z : i < q
        · rw [if_pos z, if_pos (by omega)]
        · rw [if_neg z, if_neg (by omega)])
    by_cases w : le_val (fun a => le_dg n j (k + 1 + a)) (q - (k + 1)) < le_dg n j k
    · refine (xb_t (by rw [n_lt (by omega) (by omega)]; exact w)).trans ?_
      rw [hu _ (by rw [hv, show (0 : Int32) = nI 0 from rfl, n_addn, Nat.add_zero]; unfold le_sh; rw [if_neg (by omega)])]
    · refine (xb_f (by rw [n_lt (by omega) (by omega)]; exact w)).trans ?_
      rw [hu _ (by rw [hv, show (1 : Int32) = nI 1 from rfl, n_addn]; unfold le_sh; rw [if_pos (by omega)])]
  · refine (xb_t (by rw [hw]; exact Int32.le_refl _)).trans ?_
    have : (fun i => if i < n then mo_v figs n j k i else mo_v figs n j (k + 1) i) = mo_v figs n j k := funext fun i => by
      by_cases z : i < n
      · rw [if_pos z]
      · rw [if_neg z, mo_v_out z, mo_v_out z]
    rw [this]
theorem mo_codeAt {now figs : Nat → Int32} {n j : Nat} (hn1 : 1 ≤ n) (hn : n ≤ 8) (hw : now 0 = nI n) (hj : j < 2 ^ 31) : ∃ figs', f_X8_codeAt now figs (nI j) = some (figs', nI (cd_n (pm_mv n j) n)) ∧ figOf n figs' (pm_mv n j) := by
  have h2 := xL_dn (body := f_X8_codeAt_L2 now) (fun k => (mo_v figs n j k, n_left k)) (r := mo_v figs n j 0) (xb_t n_left_lt) (n - 1) (fun k hk => ?_)
  · have e0 : (mo_v figs n j (n - 1), n_left (n - 1)) = (mo_d figs n j 0, now 0 - (2 : Int32)) := by
      have a : mo_v figs n j (n - 1) = mo_d figs n j 0 := funext fun i => by
        unfold mo_d
        by_cases z : i < n
        · rw [if_pos ⟨by omega, z⟩]
          by_cases y : i < n - 1
          · rw [mo_v_lo y z]
          · rw [mo_v_hi (by omega) z, show i = n - 1 by omega, Nat.sub_self]; rfl
        · rw [mo_v_out z, if_neg (fun y => z y.2)]
      have b : n_left (n - 1) = now 0 - (2 : Int32) := by
        rw [hw, ← n_left_sub, ← n_sub1 hn1]
        apply Int32.toInt_inj.mp
        have : nI n - (1 : Int32) - (1 : Int32) = nI n - (2 : Int32) := by
          have h : n = 1 ∨ n = 2 ∨ n = 3 ∨ n = 4 ∨ n = 5 ∨ n = 6 ∨ n = 7 ∨ n = 8 := by omega
          rcases h with rfl | rfl | rfl | rfl | rfl | rfl | rfl | rfl <;> decide +kernel
        rw [this]
      rw [a, b]
    rw [e0] at h2
    have hf : ∀ p, p < n → mo_v figs n j 0 p = nI (pm_mv n j p) := fun p hp => by
      rw [mo_v_hi (by omega) hp, Nat.sub_zero]
      unfold pm_mv
      rw [if_pos hp]
      congr 2
      funext a
      rw [Nat.zero_add]
    have h4 := xL_up (body := f_X8_codeAt_L4 now (mo_v figs n j 0)) (fun k => (nI (cd_n (pm_mv n j) k), nI k)) n (r := nI (cd_n (pm_mv n j) n)) (fun k hk => ?_) ?_
    · refine ⟨mo_v figs n j 0, ?_, hf⟩
      have e4 : (nI (cd_n (pm_mv n j) 0), nI 0) = ((0 : Int32), (0 : Int32)) := rfl
      rw [e4] at h4
      exact (xn_s (mo_digits hn hw hj)).trans ((xn_s h2).trans (xn_s h4))
    · refine (xb_f (by rw [hw, n_le (by omega) (by omega)]; omega)).trans ((xk_t (vp_in_nI (by omega) (by omega))).trans ?_)
      rw [n_cl (by omega), hf k hk, show (10 : Int32) = nI 10 from rfl, n_mul, n_addn, n_add1]; rfl
    · exact xb_t (by rw [hw]; exact Int32.le_refl _)
  · refine (xb_f (n_left_nlt (by omega))).trans ?_
    rw [n_left_s]
    refine (xn_s (mo_shift hn hw (by omega))).trans rfl

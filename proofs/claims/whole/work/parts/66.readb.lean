theorem mk_cong {f h : Nat → Nat} : ∀ {k : Nat}, (∀ i, i < k → f i = h i) → mk_n f k = mk_n h k
  | 0, _ => rfl
  | k + 1, e => by
    show mk_n f k ||| 2 ^ (f k) = mk_n h k ||| 2 ^ (h k)
    rw [mk_cong (k := k) (fun i hi => e i (by omega)), e k (by omega)]
section READB
variable {L : Nat} {tb tx : Nat → Int32}
/-- the one figure of an order n or x -/
theorem rd_fig1 (hT : rd_T L tb tx) {i lo hi : Nat} (hi' : i ≤ L) (hlo : lo < 2 ^ 31) (hhi : hi < 2 ^ 31) {lt rn : Int32} (h109 : ¬ lt = (109 : Int32)) (hd : ∀ v, f_X3_isDue lt (0 : Int32) rn v = f_X8_in v (nI lo) (nI hi)) :
    ∃ at' fault' v', f_X8_figure tx (nI L) (nI i) (-1 : Int32) (nI lo) (nI hi) = some (at', fault', v') ∧
      ((∃ f, f ≤ L ∧ at' = nI f ∧ fault' = nI f ∧ ∀ z1 z2 z9 z10, ∃ R, xL (f_X3_read_L1 (nI L) tb) (z1, z2, (1 : Int32), lt, (0 : Int32), (0 : Int32), (0 : Int32), rn, z9, z10, nI i) = some R ∧ rd_F L R (nI f)) ∨
       (fault' = (-1 : Int32) ∧ ∃ i' d, i < i' ∧ i' ≤ L ∧ lo ≤ d ∧ d ≤ hi ∧ at' = nI i' ∧ v' = nI d ∧ ∃ y6 y7, ∀ z1 z2 z9 z10, xG (f_X3_read_L1 (nI L) tb) (z1, z2, (1 : Int32), lt, (0 : Int32), (0 : Int32), (0 : Int32), rn, z9, z10, nI i) (z1, z2, (2 : Int32), lt, nI d, y6, y7, rn, z9, z10, nI i'))) := by
  have h80 := hT.1
  obtain ⟨j, j1, j2, jG, hj⟩ := rd_nx hT hi'
  rcases hj with ⟨jl, jb, jh⟩ | ⟨rfl, jh⟩
  · rcases rd_in (tx j - (48 : Int32)) hlo hhi with ⟨d, d1, d2, hv, e⟩ | e
    · have ed := (hd (tx j - (48 : Int32))).trans e
      have et : f_X3_takesFigure (1 : Int32) lt (0 : Int32) (0 : Int32) (0 : Int32) rn (tx j - (48 : Int32)) = some ((2 : Int32), (10 : Int32) * (0 : Int32) + (tx j - (48 : Int32)), (0 : Int32) + (1 : Int32), (0 : Int32) ||| ((1 : Int32) <<< ((tx j - (48 : Int32)) &&& 31)), (1 : Int32)) := (xn_s ed).trans ((xb_f (by decide)).trans ((xb_f h109).trans (xb_f (by decide))))
      refine ⟨_, _, _, (xn_s jh).trans ((xn_s e).trans ((xn_s (rd_m1 j)).trans rfl)), Or.inr ⟨rfl, j + 1, d, by omega, by omega, d1, d2, rfl, hv, (0 : Int32) + (1 : Int32), (0 : Int32) ||| ((1 : Int32) <<< ((tx j - (48 : Int32)) &&& 31)), fun z1 z2 z9 z10 => ?_⟩⟩
      have h := xG_tr (jG z1 z2 (1 : Int32) lt (0 : Int32) (0 : Int32) (0 : Int32) rn z9 z10) (rd_yes hT jl jb (rd_tf et (Or.inr rfl)))
      rw [show (10 : Int32) * (0 : Int32) + (tx j - (48 : Int32)) = nI d by rw [Int32.mul_zero, Int32.zero_add]; exact hv] at h
      exact h
    · have ed := (hd (tx j - (48 : Int32))).trans e
      have et : f_X3_takesFigure (1 : Int32) lt (0 : Int32) (0 : Int32) (0 : Int32) rn (tx j - (48 : Int32)) = some ((1 : Int32), (0 : Int32), (0 : Int32), (0 : Int32), (0 : Int32)) := (xn_s ed).trans (xb_t rfl)
      refine ⟨_, _, _, (xn_s jh).trans ((xn_s e).trans ((xn_s (rd_m0 (nI j))).trans rfl)), Or.inl ⟨j, by omega, rfl, rfl, fun z1 z2 z9 z10 => ?_⟩⟩
      exact ⟨_, jG _ _ _ _ _ _ _ _ _ _ _ (rd_no hT jl jb (rd_tf et (Or.inl rfl))), Or.inl ⟨_, _, _, _, _, _, _, _, _, _, rfl⟩⟩
  · rcases rd_in ((-1 : Int32) - (48 : Int32)) hlo hhi with ⟨d, d1, d2, hv, e⟩ | e
    · exact absurd (show nI d < 0 by rw [← hv]; decide) (n_lt0 (by omega))
    · refine ⟨_, _, _, (xn_s jh).trans ((xn_s e).trans ((xn_s (rd_m0 (nI j))).trans rfl)), Or.inl ⟨j, by omega, rfl, rfl, fun z1 z2 z9 z10 => ?_⟩⟩
      exact ⟨_, jG _ _ _ _ _ _ _ _ _ _ _ (rd_end hT _ _ _ _ _ _ _ _ _ _), Or.inr ⟨rfl, _, _, _, _, _, _, _, _, _, _, (by decide : (1 : Int32) ≠ 0), rfl⟩⟩
/-- whether a figure of m may stand, on both sides -/
theorem rd_test {n : Nat} (hn1 : 1 ≤ n) (hn : n ≤ 8) {a : Nat} (ha : a < 2 ^ 31) (v : Int32) : ∃ r t, f_X8_in v (0 : Int32) (nI n - (1 : Int32)) = some r ∧
    xb (r = 0) (some (0 : Int32)) (xn (f_X8_has (nI a) v) (fun (r_13 : Int32) => xb (r_13 = 0) (some (1 : Int32)) (some (0 : Int32)))) = some t ∧ f_X3_isDue (109 : Int32) (nI a) (nI n) v = some t ∧
    (t = (0 : Int32) ∨ (t = (1 : Int32) ∧ ∃ q, q < n ∧ v = nI q ∧ a.testBit q = false)) := by
  have en : nI n - (1 : Int32) = nI (n - 1) := n_sub1 hn1
  rw [en]
  by_cases h0 : v < 0
  · exact ⟨0, 0, xb_t h0, xb_t rfl, (xb_t rfl).trans (xb_t h0), Or.inl rfl⟩
  · obtain ⟨q, hq31, rfl⟩ := nI_of h0
    by_cases hq : q < n
    · have e1 : f_X8_in (nI q) (0 : Int32) (nI (n - 1)) = some (1 : Int32) := (xb_f h0).trans (xb_f (by rw [n_lt (by omega) hq31]; omega))
      have hnq : ¬ nI n ≤ nI q := by rw [n_le (by omega) hq31]; omega
      have eh := m_has ha (k := q) (by omega)
      cases hb : a.testBit q with
      | false =>
        rw [hb] at eh
        exact ⟨1, 1, e1, (xb_f (by decide)).trans ((xn_s eh).trans (xb_t rfl)), (xb_t rfl).trans ((xb_f h0).trans ((xb_f hnq).trans (xb_t ((n_bit0 ha (by omega)).mpr hb)))), Or.inr ⟨rfl, q, hq, rfl, hb⟩⟩
      | true =>
        rw [hb] at eh
        exact ⟨1, 0, e1, (xb_f (by decide)).trans ((xn_s eh).trans (xb_f (by decide))), (xb_t rfl).trans ((xb_f h0).trans ((xb_f hnq).trans (xb_f (fun w => by have := (n_bit0 ha (by omega)).mp w; rw [hb] at this; cases this)))), Or.inl rfl⟩
    · have e1 : f_X8_in (nI q) (0 : Int32) (nI (n - 1)) = some (0 : Int32) := (xb_f h0).trans (xb_t (by rw [n_lt (by omega) hq31]; omega))
      exact ⟨0, 0, e1, xb_t rfl, (xb_t rfl).trans ((xb_f h0).trans (xb_t (by rw [n_le (by omega) hq31]; omega))), Or.inl rfl⟩
def rd_du (n p : Nat) : Int32 := if p < n then 1 else 2
theorem rd_mvF {n : Nat} {f : Nat} (hf : f < 2 ^ 31) (at' s c p : Int32) : xL (f_X8_readMove_L1 (nI n) tx (nI L)) (at', nI f, s, c, p) = some (at', nI f, c) := by
  by_cases h : nI n ≤ p
  · exact xL_r (xb_t h)
  · exact xL_r ((xb_f h).trans (xb_f (rd_fne hf)))
/-- the figures of an order m -/
theorem rd_mv8 (hT : rd_T L tb tx) {n : Nat} (hn1 : 1 ≤ n) (hn : n ≤ 8) : ∀ (m p i : Nat) (fs : Nat → Nat), p + m = n → i ≤ L → (∀ q, q < p → fs q < n) → (∀ a b, a < p → b < p → fs a = fs b → a = b) →
    ∃ at' fault' v', xL (f_X8_readMove_L1 (nI n) tx (nI L)) (nI i, (-1 : Int32), nI (mk_n fs p), nI (cd_n fs p), nI p) = some (at', fault', v') ∧
      ((∃ f, f ≤ L ∧ at' = nI f ∧ fault' = nI f ∧ ∀ z1 z2 z9 z10, ∃ R, xL (f_X3_read_L1 (nI L) tb) (z1, z2, rd_du n p, (109 : Int32), nI (cd_n fs p), nI p, nI (mk_n fs p), nI n, z9, z10, nI i) = some R ∧ rd_F L R (nI f)) ∨
       (fault' = (-1 : Int32) ∧ ∃ i' fs', i + m ≤ i' ∧ i' ≤ L ∧ at' = nI i' ∧ v' = nI (cd_n fs' n) ∧ (∀ q, q < n → fs' q < n) ∧ (∀ a b, a < n → b < n → fs' a = fs' b → a = b) ∧ ∃ y6 y7, ∀ z1 z2 z9 z10, xG (f_X3_read_L1 (nI L) tb) (z1, z2, rd_du n p, (109 : Int32), nI (cd_n fs p), nI p, nI (mk_n fs p), nI n, z9, z10, nI i) (z1, z2, (2 : Int32), (109 : Int32), nI (cd_n fs' n), y6, y7, nI n, z9, z10, nI i')))
  | 0, p, i, fs, hp, hi, h1, h2 => by
    have e : p = n := by omega
    subst e
    refine ⟨_, _, _, xL_r (xb_t (Int32.le_refl _)), Or.inr ⟨rfl, i, fs, by omega, hi, rfl, rfl, h1, h2, nI p, nI (mk_n fs p), fun z1 z2 z9 z10 => ?_⟩⟩
    rw [show rd_du p p = (2 : Int32) by unfold rd_du; rw [if_neg (Nat.lt_irrefl _)]]
    exact xG_rf _
  | m + 1, p, i, fs, hp, hi, h1, h2 => by
    have h80 := hT.1
    have hm : mk_n fs p < 2 ^ 31 := Nat.lt_of_lt_of_le (mk_lt h1) (Nat.pow_le_pow_right (by omega) (by omega))
    have hpn : ¬ nI n ≤ nI p := by rw [n_le (by omega) (by omega)]; omega
    have hdu : rd_du n p = (1 : Int32) := by unfold rd_du; rw [if_pos (by omega)]
    rw [hdu]
    obtain ⟨j, j1, j2, jG, hj⟩ := rd_nx hT hi
    rcases hj with ⟨jl, jb, jh⟩ | ⟨rfl, jh⟩
    · obtain ⟨r, t, er, et, ed, ht⟩ := rd_test hn1 hn hm (tx j - (48 : Int32))
      rcases ht with rfl | ⟨rfl, q, hq, hv, hbit⟩
      · have e1 : f_X3_takesFigure (1 : Int32) (109 : Int32) (nI (cd_n fs p)) (nI p) (nI (mk_n fs p)) (nI n) (tx j - (48 : Int32)) = some ((1 : Int32), nI (cd_n fs p), nI p, nI (mk_n fs p), (0 : Int32)) := (xn_s ed).trans (xb_t rfl)
        have e0 : xb (nI j = (-1 : Int32)) (some ((1 : Int32) <<< ((tx j - (48 : Int32)) &&& 31))) (some (0 : Int32)) = some (0 : Int32) := xb_f (rd_fne (by omega))
        have eb : f_X8_readMove_L1 (nI n) tx (nI L) (nI i, (-1 : Int32), nI (mk_n fs p), nI (cd_n fs p), nI p) = some (.inl (nI j, nI j, nI (mk_n fs p) ||| (0 : Int32), (10 : Int32) * nI (cd_n fs p) + (tx j - (48 : Int32)), nI p + (1 : Int32))) := (xb_f hpn).trans ((xb_t rfl).trans ((xn_s jh).trans ((xn_s er).trans ((xn_s et).trans ((xn_s (rd_m0 (nI j))).trans (xn_s e0))))))
        refine ⟨_, _, _, xL_l eb (rd_mvF (f := j) (by omega) _ _ _ _), Or.inl ⟨j, by omega, rfl, rfl, fun z1 z2 z9 z10 => ?_⟩⟩
        exact ⟨_, jG _ _ _ _ _ _ _ _ _ _ _ (rd_no hT jl jb (rd_tf e1 (Or.inl rfl))), Or.inl ⟨_, _, _, _, _, _, _, _, _, _, rfl⟩⟩
      · have esh : (1 : Int32) <<< ((tx j - (48 : Int32)) &&& 31) = nI (2 ^ q) := by rw [hv, show (1 : Int32) = nI 1 from rfl, n_shl (by omega), Nat.one_mul]
        have hfs : ∀ x, x < p → fs x ≠ q := fun x hx w => by
          have := (mk_tb fs q p).mpr ⟨x, hx, w⟩
          rw [hbit] at this; cases this
        have hcg : ∀ x, x < p → (fun x => if x = p then q else fs x) x = fs x := fun x hx => if_neg (by omega)
        have hat : (fun x => if x = p then q else fs x) p = q := if_pos rfl
        have emk : mk_n (fun x => if x = p then q else fs x) (p + 1) = mk_n fs p ||| 2 ^ q := by
          show mk_n (fun x => if x = p then q else fs x) p ||| 2 ^ ((fun x => if x = p then q else fs x) p) = _
          rw [mk_cong hcg, hat]
        have ecd : cd_n (fun x => if x = p then q else fs x) (p + 1) = 10 * cd_n fs p + q := by
          show 10 * cd_n (fun x => if x = p then q else fs x) p + (fun x => if x = p then q else fs x) p = _
          rw [cd_cong hcg, hat]
        have es : nI (mk_n fs p) ||| ((1 : Int32) <<< ((tx j - (48 : Int32)) &&& 31)) = nI (mk_n (fun x => if x = p then q else fs x) (p + 1)) := by rw [esh, n_or, emk]
        have ev : (10 : Int32) * nI (cd_n fs p) + (tx j - (48 : Int32)) = nI (cd_n (fun x => if x = p then q else fs x) (p + 1)) := by rw [hv, show (10 : Int32) = nI 10 from rfl, n_mul, n_addn, ecd]
        obtain ⟨at', fault', v', ex, hx⟩ := rd_mv8 hT hn1 hn m (p + 1) (j + 1) (fun x => if x = p then q else fs x) (by omega) (by omega) (fun x hx => by
            show (if x = p then q else fs x) < n
            by_cases e : x = p
            · rw [if_pos e]; exact hq
            · rw [if_neg e]; exact h1 x (by omega)) (fun a b ha hb w => by
            have w : (if a = p then q else fs a) = (if b = p then q else fs b) := w
            by_cases e : a = p
            · by_cases e' : b = p
              · rw [e, e']
              · rw [if_pos e, if_neg e'] at w; exact absurd w.symm (hfs b (by omega))
            · by_cases e' : b = p
              · rw [if_neg e, if_pos e'] at w; exact absurd w (hfs a (by omega))
              · rw [if_neg e, if_neg e'] at w; exact h2 a b (by omega) (by omega) w)
        have e0 : xb ((-1 : Int32) = (-1 : Int32)) (some ((1 : Int32) <<< ((tx j - (48 : Int32)) &&& 31))) (some (0 : Int32)) = some ((1 : Int32) <<< ((tx j - (48 : Int32)) &&& 31)) := xb_t rfl
        have eb : f_X8_readMove_L1 (nI n) tx (nI L) (nI i, (-1 : Int32), nI (mk_n fs p), nI (cd_n fs p), nI p) = some (.inl (nI (j + 1), (-1 : Int32), nI (mk_n (fun x => if x = p then q else fs x) (p + 1)), nI (cd_n (fun x => if x = p then q else fs x) (p + 1)), nI (p + 1))) := by
          rw [← es, ← ev, ← n_add1 p]
          exact (xb_f hpn).trans ((xb_t rfl).trans ((xn_s jh).trans ((xn_s er).trans ((xn_s et).trans ((xn_s (rd_m1 j)).trans (xn_s e0))))))
        have e1 : f_X3_takesFigure (1 : Int32) (109 : Int32) (nI (cd_n fs p)) (nI p) (nI (mk_n fs p)) (nI n) (tx j - (48 : Int32)) = some (rd_du n (p + 1), nI (cd_n (fun x => if x = p then q else fs x) (p + 1)), nI (p + 1), nI (mk_n (fun x => if x = p then q else fs x) (p + 1)), (1 : Int32)) := by
          rw [← es, ← ev, ← n_add1 p]
          refine (xn_s ed).trans ((xb_f (by decide)).trans ((xb_t rfl).trans ?_))
          unfold rd_du
          by_cases w : p + 1 < n
          · rw [if_pos w]
            exact xb_t (by rw [n_add1, n_lt (by omega) (by omega)]; exact w)
          · rw [if_neg w]
            exact xb_f (by rw [n_add1, n_lt (by omega) (by omega)]; exact w)
        have hG : ∀ z1 z2 z9 z10, xG (f_X3_read_L1 (nI L) tb) (z1, z2, (1 : Int32), (109 : Int32), nI (cd_n fs p), nI p, nI (mk_n fs p), nI n, z9, z10, nI i) (z1, z2, rd_du n (p + 1), (109 : Int32), nI (cd_n (fun x => if x = p then q else fs x) (p + 1)), nI (p + 1), nI (mk_n (fun x => if x = p then q else fs x) (p + 1)), nI n, z9, z10, nI (j + 1)) := fun z1 z2 z9 z10 => xG_tr (jG _ _ _ _ _ _ _ _ _ _) (rd_yes hT jl jb (rd_tf e1 (Or.inr rfl)))
        refine ⟨at', fault', v', xL_l eb ex, ?_⟩
        rcases hx with ⟨f, f1, f2, f3, f4⟩ | ⟨f1, i', fs', g1, g2, g3, g4, g5, g6, y6, y7, g7⟩
        · refine Or.inl ⟨f, f1, f2, f3, fun z1 z2 z9 z10 => ?_⟩
          obtain ⟨R, hR, hF⟩ := f4 z1 z2 z9 z10
          exact ⟨R, hG z1 z2 z9 z10 _ hR, hF⟩
        · exact Or.inr ⟨f1, i', fs', by omega, g2, g3, g4, g5, g6, y6, y7, fun z1 z2 z9 z10 => xG_tr (hG z1 z2 z9 z10) (g7 z1 z2 z9 z10)⟩
    · obtain ⟨r, t, er, et, ed, ht⟩ := rd_test hn1 hn hm ((-1 : Int32) - (48 : Int32))
      rcases ht with rfl | ⟨rfl, q, hq, hv, hbit⟩
      · have e0 : xb (nI j = (-1 : Int32)) (some ((1 : Int32) <<< (((-1 : Int32) - (48 : Int32)) &&& 31))) (some (0 : Int32)) = some (0 : Int32) := xb_f (rd_fne (by omega))
        have eb : f_X8_readMove_L1 (nI n) tx (nI j) (nI i, (-1 : Int32), nI (mk_n fs p), nI (cd_n fs p), nI p) = some (.inl (nI j, nI j, nI (mk_n fs p) ||| (0 : Int32), (10 : Int32) * nI (cd_n fs p) + ((-1 : Int32) - (48 : Int32)), nI p + (1 : Int32))) := (xb_f hpn).trans ((xb_t rfl).trans ((xn_s jh).trans ((xn_s er).trans ((xn_s et).trans ((xn_s (rd_m0 (nI j))).trans (xn_s e0))))))
        refine ⟨_, _, _, xL_l eb (rd_mvF (f := j) (by omega) _ _ _ _), Or.inl ⟨j, by omega, rfl, rfl, fun z1 z2 z9 z10 => ?_⟩⟩
        exact ⟨_, jG _ _ _ _ _ _ _ _ _ _ _ (rd_end hT _ _ _ _ _ _ _ _ _ _), Or.inr ⟨rfl, _, _, _, _, _, _, _, _, _, _, (by decide : (1 : Int32) ≠ 0), rfl⟩⟩
      · exact absurd (show nI q < 0 by rw [← hv]; decide) (n_lt0 (by omega))
end READB

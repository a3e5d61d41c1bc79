noncomputable def rd_inner (tx : Nat → Int32) (typed at4 f5 pt c ord : Int32) (numbers : Nat → Int32) : Option (Int32 × Int32 × Int32 × (Nat → Int32)) := xb (c = (109 : Int32)) (xn (f_X8_readMove tx typed at4 f5 pt) (fun (z : Int32 × Int32 × Int32) => match z with | (m_at_19, m_fault_20, r_21) => some (m_at_19, m_fault_20, pt, (upd numbers ord.toNatClampNeg r_21)))) (xn (xb (c = (110 : Int32)) (xn (f_X8_figure tx typed at4 f5 (1 : Int32) (8 : Int32)) (fun (z : Int32 × Int32 × Int32) => match z with | (m_at_16, m_fault_17, r_18) => some (m_at_16, m_fault_17, r_18))) (xn (f_X8_figure tx typed at4 f5 (0 : Int32) (9 : Int32)) (fun (z : Int32 × Int32 × Int32) => match z with | (m_at_13, m_fault_14, r_15) => some (m_at_13, m_fault_14, r_15)))) (fun (z : Int32 × Int32 × Int32) => match z with | (m_at_10, m_fault_11, t_12) => xb (c = (110 : Int32)) (some (m_at_10, m_fault_11, ((upd numbers ord.toNatClampNeg t_12) ord.toNatClampNeg), (upd numbers ord.toNatClampNeg t_12))) (some (m_at_10, m_fault_11, pt, (upd numbers ord.toNatClampNeg t_12)))))
section READC
variable {L : Nat} {tb tx : Nat → Int32}
theorem rd_ordT {i j k n : Nat} {c : Int32} {letters numbers : Nat → Int32} (jh : f_X8_here tx (nI L) (nI i) = some (nI j, c)) (et : xb (c = (110 : Int32)) (some ((1 : Int32))) (xb (c = (109 : Int32)) (some ((1 : Int32))) (xb (c = (120 : Int32)) (some ((1 : Int32))) (some ((0 : Int32))))) = some (1 : Int32)) (hk : k < 40) {at6 f7 p8 a c' b f' : Int32} {n9 : Nat → Int32} (hI : rd_inner tx (nI L) (nI (j + 1)) (-1 : Int32) (nI n) c (nI k) numbers = some (at6, f7, p8, n9)) (hh : f_X8_here tx (nI L) at6 = some (a, c')) (hm : (c' = (59 : Int32) ∧ f_X8_must a f7 (1 : Int32) = some (b, f')) ∨ (¬ c' = (59 : Int32) ∧ f_X8_must a f7 (0 : Int32) = some (b, f'))) :
    f_X8_readOrder tx (nI L) (nI i) (-1 : Int32) (nI k) (nI n) letters numbers = some (b, f', nI (k + 1), p8, upd letters k c, n9) := by
  have hcl : (nI k).toNatClampNeg = k := n_cl (by omega)
  have hvp : vp_in (nI k) 40 := vp_in_nI hk (by omega)
  have key : f_X8_readOrder tx (nI L) (nI i) (-1 : Int32) (nI k) (nI n) letters numbers = some (b, f', nI k + (1 : Int32), p8, upd letters (nI k).toNatClampNeg c, n9) := by
    rcases hm with ⟨h, e⟩ | ⟨h, e⟩
    · exact (xn_s jh).trans ((xn_s et).trans ((xn_s (rd_m1 j)).trans ((xb_t rfl).trans ((xk_t hvp).trans ((xn_s hI).trans ((xn_s hh).trans ((xb_t h).trans ((xn_s e).trans rfl))))))))
    · exact (xn_s jh).trans ((xn_s et).trans ((xn_s (rd_m1 j)).trans ((xb_t rfl).trans ((xk_t hvp).trans ((xn_s hI).trans ((xn_s hh).trans ((xb_f h).trans ((xn_s e).trans rfl))))))))
  rw [key, hcl, n_add1]
theorem rd_let1 {c : Int32} (h : c = (110 : Int32) ∨ c = (109 : Int32) ∨ c = (120 : Int32)) (z1 z2 z4 z5 z6 z7 z8 z9 : Int32) (z10 : Nat → Int32) : f_X3_takes z1 z2 (0 : Int32) z4 z5 z6 z7 z8 z9 z10 c = some (z1, z2, (1 : Int32), c, (0 : Int32), (0 : Int32), (0 : Int32), z8, z9, z10, (1 : Int32)) ∧ xb (c = (110 : Int32)) (some ((1 : Int32))) (xb (c = (109 : Int32)) (some ((1 : Int32))) (xb (c = (120 : Int32)) (some ((1 : Int32))) (some ((0 : Int32))))) = some (1 : Int32) := by
  have e : f_X3_takesLetter (0 : Int32) z4 z5 z6 z7 c = some ((1 : Int32), c, (0 : Int32), (0 : Int32), (0 : Int32), (1 : Int32)) := by
    rcases h with rfl | rfl | rfl
    · exact xb_t rfl
    · exact (xb_f (by decide)).trans (xb_t rfl)
    · exact (xb_f (by decide)).trans ((xb_f (by decide)).trans (xb_t rfl))
  refine ⟨(xb_t rfl).trans ((xn_s e).trans (xk_t (Or.inr rfl))), ?_⟩
  rcases h with rfl | rfl | rfl
  · exact xb_t rfl
  · exact (xb_f (by decide)).trans (xb_t rfl)
  · exact (xb_f (by decide)).trans ((xb_f (by decide)).trans (xb_t rfl))
theorem rd_let0 {c : Int32} (h1 : ¬ c = (110 : Int32)) (h2 : ¬ c = (109 : Int32)) (h3 : ¬ c = (120 : Int32)) (z1 z2 z4 z5 z6 z7 z8 z9 : Int32) (z10 : Nat → Int32) : f_X3_takes z1 z2 (0 : Int32) z4 z5 z6 z7 z8 z9 z10 c = some (z1, z2, (1 : Int32), c, (0 : Int32), (0 : Int32), (0 : Int32), z8, z9, z10, (0 : Int32)) ∧ xb (c = (110 : Int32)) (some ((1 : Int32))) (xb (c = (109 : Int32)) (some ((1 : Int32))) (xb (c = (120 : Int32)) (some ((1 : Int32))) (some ((0 : Int32))))) = some (0 : Int32) := by
  have e : f_X3_takesLetter (0 : Int32) z4 z5 z6 z7 c = some ((1 : Int32), c, (0 : Int32), (0 : Int32), (0 : Int32), (0 : Int32)) := (xb_f h1).trans ((xb_f h2).trans (xb_f h3))
  exact ⟨(xb_t rfl).trans ((xn_s e).trans (xk_t (Or.inl rfl))), (xb_f h1).trans ((xb_f h2).trans (xb_f h3))⟩
/-- the number of an order -/
theorem rd_mid (hT : rd_T L tb tx) {j n : Nat} (hj : j + 1 ≤ L) (hn1 : 1 ≤ n) (hn : n ≤ 8) {c : Int32} (hc : c = (110 : Int32) ∨ c = (109 : Int32) ∨ c = (120 : Int32)) (k : Nat) (numbers : Nat → Int32) :
    ∃ at6 f7 p8 v, rd_inner tx (nI L) (nI (j + 1)) (-1 : Int32) (nI n) c (nI k) numbers = some (at6, f7, p8, upd numbers (nI k).toNatClampNeg v) ∧
      ((∃ f, f ≤ L ∧ at6 = nI f ∧ f7 = nI f ∧ ∀ z1 z2 z9 z10, ∃ R, xL (f_X3_read_L1 (nI L) tb) (z1, z2, (1 : Int32), c, (0 : Int32), (0 : Int32), (0 : Int32), nI n, z9, z10, nI (j + 1)) = some R ∧ rd_F L R (nI f)) ∨
       (f7 = (-1 : Int32) ∧ ∃ i' n', j + 1 < i' ∧ i' ≤ L ∧ at6 = nI i' ∧ p8 = nI n' ∧ rd_ok n c v n' ∧ ∃ y6 y7, ∀ z1 z2 z9 z10, xG (f_X3_read_L1 (nI L) tb) (z1, z2, (1 : Int32), c, (0 : Int32), (0 : Int32), (0 : Int32), nI n, z9, z10, nI (j + 1)) (z1, z2, (2 : Int32), c, v, y6, y7, nI n, z9, z10, nI i'))) := by
  rcases hc with rfl | rfl | rfl
  · obtain ⟨at', fault', v', ef, hx⟩ := rd_fig1 hT (i := j + 1) (lo := 1) (hi := 8) hj (by omega) (by omega) (lt := (110 : Int32)) (rn := nI n) (by decide) (fun v => (xb_f (by decide)).trans (xb_t rfl))
    have hI : rd_inner tx (nI L) (nI (j + 1)) (-1 : Int32) (nI n) (110 : Int32) (nI k) numbers = some (at', fault', upd numbers (nI k).toNatClampNeg v' (nI k).toNatClampNeg, upd numbers (nI k).toNatClampNeg v') := by
      refine (xb_f (by decide)).trans ((xn_s (a := (at', fault', v')) ?_).trans ?_)
      · exact (xb_t rfl).trans ((xn_s ef).trans rfl)
      · exact xb_t rfl
    refine ⟨_, _, _, v', hI, ?_⟩
    rcases hx with ⟨f, f1, f2, f3, f4⟩ | ⟨f1, i', d, g1, g2, g3, g4, g5, g6, y6, y7, g7⟩
    · exact Or.inl ⟨f, f1, f2, f3, f4⟩
    · refine Or.inr ⟨f1, i', d, g1, g2, g5, by rw [up_s]; exact g6, Or.inl ⟨rfl, g6, g3, g4⟩, y6, y7, ?_⟩
      rw [g6]; exact g7
  · have hdu : rd_du n 0 = (1 : Int32) := by unfold rd_du; rw [if_pos (by omega)]
    obtain ⟨at', fault', v', ex, hx⟩ := rd_mv8 hT hn1 hn n 0 (j + 1) (fun _ => 0) (by omega) hj (fun q hq => absurd hq (Nat.not_lt_zero _)) (fun a b ha => absurd ha (Nat.not_lt_zero _))
    rw [hdu] at hx
    have erm : f_X8_readMove tx (nI L) (nI (j + 1)) (-1 : Int32) (nI n) = some (at', fault', v') := (xn_s ex).trans rfl
    have hI : rd_inner tx (nI L) (nI (j + 1)) (-1 : Int32) (nI n) (109 : Int32) (nI k) numbers = some (at', fault', nI n, upd numbers (nI k).toNatClampNeg v') := (xb_t rfl).trans ((xn_s erm).trans rfl)
    refine ⟨_, _, _, v', hI, ?_⟩
    rcases hx with ⟨f, f1, f2, f3, f4⟩ | ⟨f1, i', fs', g1, g2, g3, g4, g5, g6, y6, y7, g7⟩
    · exact Or.inl ⟨f, f1, f2, f3, f4⟩
    · have hok : gp_ok n (fun p => if p < n then fs' p else p) := by
        refine ⟨fun p hp => ?_, fun p q hp hq w => ?_, fun p hp => if_neg (by omega)⟩
        · show (if p < n then fs' p else p) < n
          rw [if_pos hp]; exact g5 p hp
        · have w : (if p < n then fs' p else p) = (if q < n then fs' q else q) := w
          rw [if_pos hp, if_pos hq] at w
          exact g6 p q hp hq w
      have hcd : cd_n (fun p => if p < n then fs' p else p) n = cd_n fs' n := cd_cong (fun p hp => if_pos hp)
      refine Or.inr ⟨f1, i', n, by omega, g2, g3, rfl, Or.inr (Or.inl ⟨rfl, ⟨_, hok, by rw [hcd]; exact g4⟩, rfl⟩), y6, y7, ?_⟩
      rw [g4]; exact g7
  · obtain ⟨at', fault', v', ef, hx⟩ := rd_fig1 hT (i := j + 1) (lo := 0) (hi := 9) hj (by omega) (by omega) (lt := (120 : Int32)) (rn := nI n) (by decide) (fun v => (xb_f (by decide)).trans (xb_f (by decide)))
    have hI : rd_inner tx (nI L) (nI (j + 1)) (-1 : Int32) (nI n) (120 : Int32) (nI k) numbers = some (at', fault', nI n, upd numbers (nI k).toNatClampNeg v') := by
      refine (xb_f (by decide)).trans ((xn_s (a := (at', fault', v')) ?_).trans ?_)
      · exact (xb_f (by decide)).trans ((xn_s ef).trans rfl)
      · exact xb_f (by decide)
    refine ⟨_, _, _, v', hI, ?_⟩
    rcases hx with ⟨f, f1, f2, f3, f4⟩ | ⟨f1, i', d, g1, g2, g3, g4, g5, g6, y6, y7, g7⟩
    · exact Or.inl ⟨f, f1, f2, f3, f4⟩
    · refine Or.inr ⟨f1, i', n, g1, g2, g5, rfl, Or.inr (Or.inr ⟨rfl, ⟨d, g4, g6⟩, rfl⟩), y6, y7, ?_⟩
      rw [g6]; exact g7
/-- an order of the text, on both sides -/
theorem rd_order (hT : rd_T L tb tx) {i j k n : Nat} (hi : i ≤ L) (hk : k < 40) (hn1 : 1 ≤ n) (hn : n ≤ 8) (letters numbers : Nat → Int32) (j1 : i ≤ j) (jG : ∀ z1 z2 z3 z4 z5 z6 z7 z8 z9 z10, xG (f_X3_read_L1 (nI L) tb) (z1, z2, z3, z4, z5, z6, z7, z8, z9, z10, nI i) (z1, z2, z3, z4, z5, z6, z7, z8, z9, z10, nI j)) (jl : j < L) (jb : tx j ≠ (32 : Int32)) (jh : f_X8_here tx (nI L) (nI i) = some (nI j, tx j)) :
    ∃ at' fault' o' pt' letters' numbers', f_X8_readOrder tx (nI L) (nI i) (-1 : Int32) (nI k) (nI n) letters numbers = some (at', fault', o', pt', letters', numbers') ∧
      ((∃ f, f ≤ L ∧ fault' = nI f ∧ ∀ z1 z2 z4 z5 z6 z7 z9 z10, ∃ R, xL (f_X3_read_L1 (nI L) tb) (z1, z2, (0 : Int32), z4, z5, z6, z7, nI n, z9, z10, nI i) = some R ∧ rd_F L R (nI f)) ∨
       (fault' = (-1 : Int32) ∧ ∃ i' lt v n', i + 3 ≤ i' ∧ i' ≤ L ∧ at' = nI i' ∧ o' = nI (k + 1) ∧ pt' = nI n' ∧ letters' = upd letters k lt ∧ numbers' = upd numbers k v ∧ rd_ok n lt v n' ∧
         ∀ z1 z2 z4 z5 z6 z7 z9 z10 rn' rc' rg' r st', f_X3_obeys lt v (nI n) z9 z10 = some (rn', rc', rg', r) → xb (r = (0 : Int32)) (xb (z2 = (-1 : Int32)) (some z1) (some z2)) (some z2) = some st' →
           ∃ y4 y5 y6 y7, xG (f_X3_read_L1 (nI L) tb) (z1, z2, (0 : Int32), z4, z5, z6, z7, nI n, z9, z10, nI i) (z1 + (1 : Int32), st', (0 : Int32), y4, y5, y6, y7, rn', rc', rg', nI i'))) := by
  have h80 := hT.1
  have hcl : (nI k).toNatClampNeg = k := n_cl (by omega)
  by_cases hc : tx j = (110 : Int32) ∨ tx j = (109 : Int32) ∨ tx j = (120 : Int32)
  · obtain ⟨at6, f7, p8, v, hI, hx⟩ := rd_mid hT (j := j) (by omega) hn1 hn hc k numbers
    have et := (rd_let1 hc 0 0 0 0 0 0 0 0 (fun _ => 0)).2
    have hG : ∀ z1 z2 z4 z5 z6 z7 z9 z10, xG (f_X3_read_L1 (nI L) tb) (z1, z2, (0 : Int32), z4, z5, z6, z7, nI n, z9, z10, nI i) (z1, z2, (1 : Int32), tx j, (0 : Int32), (0 : Int32), (0 : Int32), nI n, z9, z10, nI (j + 1)) := fun z1 z2 z4 z5 z6 z7 z9 z10 => xG_tr (jG _ _ _ _ _ _ _ _ _ _) (rd_yes hT jl jb (rd_let1 hc _ _ _ _ _ _ _ _ _).1)
    rcases hx with ⟨f, f1, rfl, rfl, f4⟩ | ⟨rfl, i6, n', g1, g2, rfl, rfl, hok, y6, y7, g7⟩
    · obtain ⟨j', q1, q2, -, hq⟩ := rd_nx hT f1
      have hF : ∀ z1 z2 z4 z5 z6 z7 z9 z10, ∃ R, xL (f_X3_read_L1 (nI L) tb) (z1, z2, (0 : Int32), z4, z5, z6, z7, nI n, z9, z10, nI i) = some R ∧ rd_F L R (nI f) := fun z1 z2 z4 z5 z6 z7 z9 z10 => by
        obtain ⟨R, hR, hF⟩ := f4 z1 z2 z9 z10
        exact ⟨R, hG z1 z2 z4 z5 z6 z7 z9 z10 _ hR, hF⟩
      rcases hq with ⟨-, -, hh⟩ | ⟨-, hh⟩
      · by_cases w : tx j' = (59 : Int32)
        · exact ⟨_, _, _, _, _, _, rd_ordT jh et hk hI hh (Or.inl ⟨w, rd_mf _ _ (by omega)⟩), Or.inl ⟨f, f1, rfl, hF⟩⟩
        · exact ⟨_, _, _, _, _, _, rd_ordT jh et hk hI hh (Or.inr ⟨w, rd_mf _ _ (by omega)⟩), Or.inl ⟨f, f1, rfl, hF⟩⟩
      · exact ⟨_, _, _, _, _, _, rd_ordT jh et hk hI hh (Or.inr ⟨by decide, rd_mf _ _ (by omega)⟩), Or.inl ⟨f, f1, rfl, hF⟩⟩
    · obtain ⟨j', q1, q2, qG, hq⟩ := rd_nx hT g2
      rcases hq with ⟨ql, qb, hh⟩ | ⟨hqL, hh⟩
      · by_cases w : tx j' = (59 : Int32)
        · refine ⟨_, _, _, _, _, _, rd_ordT jh et hk hI hh (Or.inl ⟨w, rd_m1 j'⟩), Or.inr ⟨rfl, j' + 1, tx j, v, n', by omega, by omega, rfl, rfl, rfl, rfl, by rw [hcl], hok, fun z1 z2 z4 z5 z6 z7 z9 z10 rn' rc' rg' r st' hob hst => ?_⟩⟩
          have ee : f_X3_takesEnd z1 z2 (2 : Int32) (tx j) v (nI n) z9 z10 (tx j') = some (z1 + (1 : Int32), st', (0 : Int32), rn', rc', rg', (1 : Int32)) := (xb_t w).trans ((xn_s hob).trans ((xn_s hst).trans rfl))
          have ek : f_X3_takes z1 z2 (2 : Int32) (tx j) v y6 y7 (nI n) z9 z10 (tx j') = some (z1 + (1 : Int32), st', (0 : Int32), tx j, v, y6, y7, rn', rc', rg', (1 : Int32)) := (xb_f (by decide)).trans ((xb_f (by decide)).trans ((xn_s ee).trans (xk_t (Or.inr rfl))))
          exact ⟨tx j, v, y6, y7, xG_tr (hG z1 z2 z4 z5 z6 z7 z9 z10) (xG_tr (g7 z1 z2 z9 z10) (xG_tr (qG _ _ _ _ _ _ _ _ _ _) (rd_yes hT ql qb ek)))⟩
        · refine ⟨_, _, _, _, _, _, rd_ordT jh et hk hI hh (Or.inr ⟨w, rd_m0 (nI j')⟩), Or.inl ⟨j', q2, rfl, fun z1 z2 z4 z5 z6 z7 z9 z10 => ?_⟩⟩
          have ee : f_X3_takesEnd z1 z2 (2 : Int32) (tx j) v (nI n) z9 z10 (tx j') = some (z1, z2, (2 : Int32), nI n, z9, z10, (0 : Int32)) := xb_f w
          have ek : f_X3_takes z1 z2 (2 : Int32) (tx j) v y6 y7 (nI n) z9 z10 (tx j') = some (z1, z2, (2 : Int32), tx j, v, y6, y7, nI n, z9, z10, (0 : Int32)) := (xb_f (by decide)).trans ((xb_f (by decide)).trans ((xn_s ee).trans (xk_t (Or.inl rfl))))
          exact ⟨_, hG z1 z2 z4 z5 z6 z7 z9 z10 _ (g7 z1 z2 z9 z10 _ (qG _ _ _ _ _ _ _ _ _ _ _ (rd_no hT ql qb ek))), Or.inl ⟨_, _, _, _, _, _, _, _, _, _, rfl⟩⟩
      · refine ⟨_, _, _, _, _, _, rd_ordT jh et hk hI hh (Or.inr ⟨by decide, rd_m0 _⟩), Or.inl ⟨_, Nat.le_refl _, rfl, fun z1 z2 z4 z5 z6 z7 z9 z10 => ?_⟩⟩
        have hG2 := qG z1 z2 (2 : Int32) (tx j) v y6 y7 (nI n) z9 z10
        rw [hqL] at hG2
        exact ⟨_, hG z1 z2 z4 z5 z6 z7 z9 z10 _ (g7 z1 z2 z9 z10 _ (hG2 _ (rd_end hT _ _ _ _ _ _ _ _ _ _))), Or.inr ⟨rfl, _, _, _, _, _, _, _, _, _, _, (by decide : (2 : Int32) ≠ 0), rfl⟩⟩
  · have h1 : ¬ tx j = (110 : Int32) := fun w => hc (Or.inl w)
    have h2 : ¬ tx j = (109 : Int32) := fun w => hc (Or.inr (Or.inl w))
    have h3 : ¬ tx j = (120 : Int32) := fun w => hc (Or.inr (Or.inr w))
    have et := (rd_let0 h1 h2 h3 0 0 0 0 0 0 0 0 (fun _ => 0)).2
    refine ⟨_, _, _, _, _, _, (xn_s jh).trans ((xn_s et).trans ((xn_s (rd_m0 (nI j))).trans ((xb_f (rd_fne (by omega))).trans rfl))), Or.inl ⟨j, by omega, rfl, fun z1 z2 z4 z5 z6 z7 z9 z10 => ?_⟩⟩
    exact ⟨_, jG _ _ _ _ _ _ _ _ _ _ _ (rd_no hT jl jb (rd_let0 h1 h2 h3 _ _ _ _ _ _ _ _ _).1), Or.inl ⟨_, _, _, _, _, _, _, _, _, _, rfl⟩⟩
end READC

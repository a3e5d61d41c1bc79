/-- what an order of the text may be: letter, number, and how many points there are behind it -/
def rd_ok (n : Nat) (lt v : Int32) (n' : Nat) : Prop := (lt = (110 : Int32) ∧ v = nI n' ∧ 1 ≤ n' ∧ n' ≤ 8) ∨ (lt = (109 : Int32) ∧ (∃ s, isMv n v s) ∧ n' = n) ∨ (lt = (120 : Int32) ∧ (∃ d, d ≤ 9 ∧ v = nI d) ∧ n' = n)
def rd_eo (n K : Nat) (g : Nat → Nat → Nat) (lt v : Int32) (n' K' : Nat) (g' : Nat → Nat → Nat) : Prop := (lt = (110 : Int32) ∧ v = nI n' ∧ 1 ≤ n' ∧ n' ≤ 8 ∧ K' = 0 ∧ g' = g) ∨ (lt = (109 : Int32) ∧ K < 3 ∧ n' = n ∧ K' = K + 1 ∧ ∃ s, isMv n v s ∧ g' = gAdd g K s) ∨ (lt = (120 : Int32) ∧ n' = n ∧ ∃ d, d < K ∧ v = nI d ∧ K' = K - 1 ∧ g' = gDrop g d)
def rd_er (n K : Nat) (lt v : Int32) : Prop := (lt = (109 : Int32) ∧ K = 3 ∧ ∃ s, isMv n v s) ∨ (lt = (120 : Int32) ∧ ∃ d, d ≤ 9 ∧ K ≤ d ∧ v = nI d)
theorem rd_mN {n K : Nat} {g : Nat → Nat → Nat} {a b : Int32} {f : Nat → Int32} (h : cN n K g a b f) : ∃ now, mN n K g now := by
  refine ⟨fun i => if i = 0 then nI n else if i = 1 then nI K else nI (cd_n (g (i - 2)) n), h.1, h.2.1, h.2.2.1, rfl, rfl, h.2.2.2.2.2.1, fun i hi => ?_⟩
  show (if 2 + i = 0 then nI n else if 2 + i = 1 then nI K else nI (cd_n (g (2 + i - 2)) n)) = _
  rw [if_neg (by omega), if_neg (by omega), show 2 + i - 2 = i by omega]
theorem rd_cN {n K : Nat} {g : Nat → Nat → Nat} {now : Nat → Int32} (h : mN n K g now) : cN n K g (nI n) (nI K) (fun i => pv (g i)) := ⟨h.1, h.2.1, h.2.2.1, rfl, rfl, h.2.2.2.2.2.1, fun _ _ => rfl⟩
/-- an order on the class's trial -/
theorem rd_ob {n K : Nat} {g : Nat → Nat → Nat} {rn rc : Int32} {rg : Nat → Int32} (hC : cN n K g rn rc rg) {lt v : Int32} {n' : Nat} (h : rd_ok n lt v n') :
    ∃ rn' rc' rg' r, f_X3_obeys lt v rn rc rg = some (rn', rc', rg', r) ∧ ((r = (1 : Int32) ∧ ∃ K' g', rd_eo n K g lt v n' K' g' ∧ cN n' K' g' rn' rc' rg') ∨ (r = (0 : Int32) ∧ rd_er n K lt v ∧ n' = n ∧ cN n K g rn' rc' rg')) := by
  have n8 := hC.2.1
  have k3 := hC.2.2.1
  have hn : rn = nI n := hC.2.2.2.1
  have hk : rc = nI K := hC.2.2.2.2.1
  subst hn
  subst hk
  rcases h with ⟨rfl, rfl, h1, h8⟩ | ⟨rfl, ⟨s, hs⟩, rfl⟩ | ⟨rfl, ⟨d, hd, rfl⟩, rfl⟩
  · have es : f_X4_start (nI n) (nI K) (nI n') = some (nI n', (0 : Int32)) := rfl
    exact ⟨_, _, _, _, (xb_f (by decide)).trans ((xb_t rfl).trans ((xn_s es).trans rfl)), Or.inl ⟨rfl, 0, g, Or.inl ⟨rfl, rfl, h1, h8, rfl, rfl⟩, (s_points h1 h8 rg rg g).1⟩⟩
  · have er := rd_s hC.1 n8 hs
    by_cases hk : K = 3
    · subst hk
      have ea : f_X4_adds (nI 3) rg (pv s) = some (nI 3, rg, (0 : Int32)) := xb_f (by decide)
      exact ⟨_, _, _, _, (xb_t rfl).trans ((xn_s er).trans ((xn_s ea).trans ((xk_t (Or.inl rfl)).trans rfl))), Or.inr ⟨rfl, Or.inl ⟨rfl, rfl, s, hs⟩, rfl, hC⟩⟩
    · obtain ⟨now, hM⟩ := rd_mN hC
      have ea : f_X4_adds (nI K) rg (pv s) = some (nI (K + 1), upd rg K (pv s), (1 : Int32)) := by
        refine (xb_t (by rw [show (3 : Int32) = nI 3 from rfl, n_lt (by omega) (by omega)]; omega)).trans ((xk_t (vp_in_nI (by omega) (by omega))).trans ?_)
        rw [n_cl (by omega), n_add1]
      exact ⟨_, _, _, _, (xb_t rfl).trans ((xn_s er).trans ((xn_s ea).trans ((xk_t (Or.inr rfl)).trans rfl))), Or.inl ⟨rfl, K + 1, gAdd g K s, Or.inr (Or.inl ⟨rfl, by omega, rfl, rfl, s, hs, rfl⟩), (s_adds hC hM (by omega) hs.1).1⟩⟩
  · by_cases hk : d < K
    · obtain ⟨f', ec, hC'⟩ := c_loses hC hk
      exact ⟨_, _, _, _, (xb_f (by decide)).trans ((xb_f (by decide)).trans ((xn_s ec).trans ((xk_t (Or.inr rfl)).trans rfl))), Or.inl ⟨rfl, K - 1, gDrop g d, Or.inr (Or.inr ⟨rfl, rfl, d, hk, rfl, rfl, rfl⟩), hC'⟩⟩
    · have ec : f_X4_loses (nI K) rg (nI d) = some (nI K, rg, (0 : Int32)) := (xb_f (n_lt0 (by omega))).trans (xb_f (by rw [n_lt (by omega) (by omega)]; exact hk))
      exact ⟨_, _, _, _, (xb_f (by decide)).trans ((xb_f (by decide)).trans ((xn_s ec).trans ((xk_t (Or.inl rfl)).trans rfl))), Or.inr ⟨rfl, Or.inr ⟨rfl, d, hd, by omega, rfl⟩, rfl, hC⟩⟩
/-- an order that is done, on the reference's setup -/
theorem rd_do {n K : Nat} {g : Nat → Nat → Nat} {now : Nat → Int32} (hM : mN n K g now) {lt v : Int32} {n' K' : Nat} {g' : Nat → Nat → Nat} (h : rd_eo n K g lt v n' K' g') {k : Nat} (hk : k < 40) {letters numbers : Nat → Int32} (hl : letters k = lt) (hv : numbers k = v) (figs : Nat → Int32) (il is : Int32) :
    ∃ now' figs' r, f_X8_doOrder now figs il is letters numbers (nI k) = some (now', figs', (0 : Int32), (0 : Int32), r) ∧ (0 : Int32) ≤ r ∧ mN n' K' g' now' := by
  have n8 := hM.2.1
  have n1 := hM.1
  have k3 := hM.2.2.1
  have m0 : now 0 = nI n := hM.2.2.2.1
  have m1 : now 1 = nI K := hM.2.2.2.2.1
  have hvp : vp_in (nI k) 40 := vp_in_nI hk (by omega)
  have el : letters (nI k).toNatClampNeg = lt := by rw [n_cl (by omega)]; exact hl
  have ev : numbers (nI k).toNatClampNeg = v := by rw [n_cl (by omega)]; exact hv
  have pos : ∀ a, a < 2 ^ 31 → (0 : Int32) ≤ nI a := fun a ha => Int32.not_lt.mp (n_lt0 ha)
  unfold f_X8_doOrder
  rw [el, ev]
  rcases h with ⟨rfl, rfl, h1, h8, rfl, rfl⟩ | ⟨rfl, hK, rfl, rfl, s, hs, rfl⟩ | ⟨rfl, rfl, d, hd, rfl, rfl, rfl⟩
  · have hin : f_X8_in (nI n') (1 : Int32) (8 : Int32) = some (1 : Int32) := (xb_f (by rw [show (1 : Int32) = nI 1 from rfl, n_lt (by omega) (by omega)]; omega)).trans (xb_f (by rw [show (8 : Int32) = nI 8 from rfl, n_lt (by omega) (by omega)]; omega))
    have hd : f_X8_doPoints now il is (nI n') = some (upd (upd now 0 (nI n')) 1 (0 : Int32), (0 : Int32), (0 : Int32), now 0) := (xn_s hin).trans (xb_f (by decide))
    exact ⟨_, _, _, (xk_t hvp).trans ((xb_t rfl).trans ((xn_s hd).trans rfl)), by rw [m0]; exact pos _ (by omega), (s_points h1 h8 now now _).2⟩
  · obtain ⟨figs', r, em, hr⟩ := mo_isMove (now := now) (figs := figs) n8 m0 v
    rcases hr with ⟨s', hs', rfl⟩ | ⟨hno, rfl⟩
    · have e2k : (2 : Int32) + now 1 = nI (2 + K) := by rw [m1]; exact n_addn 2 K
      have hu1 : upd now (2 + K) v 1 = nI K := by rw [up_n (by omega)]; exact m1
      have hd : f_X8_doMoves now figs il is v = some (upd (upd now (2 + K) v) 1 (nI (K + 1)), figs', (0 : Int32), (0 : Int32), nI K) := by
        refine (xn_s em).trans ((xb_f (by decide)).trans ((xb_f (by rw [m1, show (3 : Int32) = nI 3 from rfl, n_ieq (by omega) (by omega)]; omega)).trans ?_))
        rw [e2k]
        refine (xk_t (vp_in_nI (by omega) (by omega))).trans ?_
        rw [n_cl (by omega), hu1, n_add1, up_s, n_sub1 (by omega), Nat.add_sub_cancel]
      have hvs := hs.2
      refine ⟨_, _, _, (xk_t hvp).trans ((xb_f (by decide)).trans ((xb_t rfl).trans ((xn_s hd).trans rfl))), pos K (by omega), ?_⟩
      rw [hvs]
      exact (s_adds (rd_cN hM) hM hK hs.1).2
    · exact absurd hs (hno s)
  · obtain ⟨now', em, hM'⟩ := m_drops hM hd
    have hin : f_X8_in (nI d) (0 : Int32) (now 1 - (1 : Int32)) = some (1 : Int32) := (xb_f (n_lt0 (by omega))).trans (xb_f (by rw [m1, n_sub1 (by omega), n_lt (by omega) (by omega)]; omega))
    have hdd : f_X8_doDrops now il is (nI d) = some (now', (0 : Int32), (0 : Int32), now' 1) := (xn_s hin).trans ((xb_f (by decide)).trans ((xn_s em).trans rfl))
    exact ⟨_, _, _, (xk_t hvp).trans ((xb_f (by decide)).trans ((xb_f (by decide)).trans ((xn_s hdd).trans rfl))), by rw [hM'.2.2.2.2.1]; exact pos _ (by omega), hM'⟩
/-- an order that is refused, on the reference's setup -/
theorem rd_dn {n K : Nat} {g : Nat → Nat → Nat} {now : Nat → Int32} (hM : mN n K g now) {lt v : Int32} (h : rd_er n K lt v) {k : Nat} (hk : k < 40) {letters numbers : Nat → Int32} (hl : letters k = lt) (hv : numbers k = v) (figs : Nat → Int32) (il is : Int32) :
    ∃ figs' r, f_X8_doOrder now figs il is letters numbers (nI k) = some (now, figs', il, is, r) ∧ ¬ (0 : Int32) ≤ r := by
  have n8 := hM.2.1
  have k3 := hM.2.2.1
  have m0 : now 0 = nI n := hM.2.2.2.1
  have m1 : now 1 = nI K := hM.2.2.2.2.1
  have hvp : vp_in (nI k) 40 := vp_in_nI hk (by omega)
  have el : letters (nI k).toNatClampNeg = lt := by rw [n_cl (by omega)]; exact hl
  have ev : numbers (nI k).toNatClampNeg = v := by rw [n_cl (by omega)]; exact hv
  unfold f_X8_doOrder
  rw [el, ev]
  rcases h with ⟨rfl, rfl, s, hs⟩ | ⟨rfl, d, hd9, hd, rfl⟩
  · obtain ⟨figs', r, em, hr⟩ := mo_isMove (now := now) (figs := figs) n8 m0 v
    rcases hr with ⟨s', hs', rfl⟩ | ⟨hno, rfl⟩
    · have hd : f_X8_doMoves now figs il is v = some (now, figs', il, is, (-4 : Int32)) := (xn_s em).trans ((xb_f (by decide)).trans (xb_t (by rw [m1]; rfl)))
      exact ⟨_, _, (xk_t hvp).trans ((xb_f (by decide)).trans ((xb_t rfl).trans ((xn_s hd).trans rfl))), by decide⟩
    · exact absurd hs (hno s)
  · have hin : f_X8_in (nI d) (0 : Int32) (now 1 - (1 : Int32)) = some (0 : Int32) := by
      refine (xb_f (n_lt0 (by omega))).trans (xb_t ?_)
      rw [m1, n_left_sub]
      cases K with
      | zero => rw [n_left_0]; exact Int32.lt_of_lt_of_le (by decide) (Int32.not_lt.mp (n_lt0 (a := d) (by omega)))
      | succ k => rw [n_left_s, n_lt (by omega) (by omega)]; omega
    have hdd : f_X8_doDrops now il is (nI d) = some (now, il, is, (-2 : Int32)) := (xn_s hin).trans (xb_t rfl)
    exact ⟨_, _, (xk_t hvp).trans ((xb_f (by decide)).trans ((xb_f (by decide)).trans ((xn_s hdd).trans rfl))), by decide⟩

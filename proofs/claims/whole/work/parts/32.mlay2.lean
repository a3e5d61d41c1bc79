theorem sort_made {N K : Nat} {g : Nat → Nat → Nat} {isMade made : Nat → Int32} (hm : ∀ j, j < 40320 → isMade j = b01 (gam N K g j)) : ∃ made', f_X8_sortMade isMade made = some made' ∧ ∀ j, j < 40320 → gam N K g j = true → made' (fb_ct (gam N K g) j) = nI j := by
  let I : Nat → (Nat → Int32) × Int32 × Int32 → Prop := fun k z => ∃ made', z = (made', nI (fb_ct (gam N K g) k), nI k) ∧ ∀ j, j < k → gam N K g j = true → made' (fb_ct (gam N K g) j) = nI j
  have hh := xL_for (body := f_X8_sortMade_L1 isMade) (P := fun made' => ∀ j, j < 40320 → gam N K g j = true → made' (fb_ct (gam N K g) j) = nI j) I 40320 (fun k z hk hz => Or.inl ?_) (fun z hz => ?_) 40320 0 (Nat.zero_add _) (made, (0 : Int32), (0 : Int32)) ⟨made, rfl, fun j hj => absurd hj (Nat.not_lt_zero _)⟩
  · obtain ⟨r, h1, h2⟩ := hh
    exact ⟨r, xn_s h1, h2⟩
  · obtain ⟨made', rfl, h1⟩ := hz
    have hle := fb_ct_le (gam N K g) k
    have hU : f_X8_sortMade_L1 isMade (made', nI (fb_ct (gam N K g) k), nI k) = xb (b01 (gam N K g k) = 0) (some (.inl (made', nI (fb_ct (gam N K g) k), nI k + (1 : Int32)))) (xk (vp_in (nI (fb_ct (gam N K g) k)) 40320) (some (.inl (upd made' (nI (fb_ct (gam N K g) k)).toNatClampNeg (nI k), nI (fb_ct (gam N K g) k) + (1 : Int32), nI k + (1 : Int32))))) := by
      refine (xb_f (by rw [show (40320 : Int32) = nI 40320 from rfl, n_le (by omega) (by omega)]; omega)).trans ((xk_t (vp_in_nI hk (by omega))).trans ?_)
      rw [n_cl (by omega), hm k hk]
    cases hg : gam N K g k with
    | false =>
      refine ⟨(made', nI (fb_ct (gam N K g) k), nI k + (1 : Int32)), by rw [hU, hg]; exact xb_t (by decide), made', ?_, fun j hj hj2 => ?_⟩
      · rw [fb_ct_succ, hg, n_add1]; rfl
      · rcases Nat.lt_or_ge j k with w | w
        · exact h1 j w hj2
        · rw [show j = k by omega, hg] at hj2; cases hj2
    | true =>
      refine ⟨(upd made' (fb_ct (gam N K g) k) (nI k), nI (fb_ct (gam N K g) k + 1), nI k + (1 : Int32)), ?_, upd made' (fb_ct (gam N K g) k) (nI k), ?_, fun j hj hj2 => ?_⟩
      · rw [hU, hg]
        refine (xb_f (by decide)).trans ((xk_t (vp_in_nI (by omega) (by omega))).trans ?_)
        rw [n_cl (by omega), n_add1 (fb_ct (gam N K g) k)]
      · rw [fb_ct_succ, hg, n_add1]; rfl
      · rcases Nat.lt_or_ge j k with w | w
        · have hne : fb_ct (gam N K g) j ≠ fb_ct (gam N K g) k := by
            have h2 := fb_ct_mono (gam N K g) (m := j + 1) (n := k) (by omega)
            rw [fb_ct_succ, hj2] at h2
            simp only [if_true] at h2
            omega
          rw [up_n hne]; exact h1 j w hj2
        · rw [show j = k by omega, up_s]
  · obtain ⟨made', rfl, h1⟩ := hz
    exact ⟨made', xb_t (Int32.le_refl _), h1⟩
/-- the row of elements, each once, by places -/
def mRow (N K : Nat) (g : Nat → Nat → Nat) (made : Nat → Int32) : Prop := ∀ j, j < 40320 → gam N K g j = true → made (fb_ct (gam N K g) j) = nI j
theorem mRow_at {N K : Nat} {g : Nat → Nat → Nat} {made : Nat → Int32} (hN : N ≤ 8) (h : mRow N K g made) {i : Nat} (hi : i < ct_n N (gp_in K g)) : ∃ j, j < 40320 ∧ made i = nI j ∧ gp_in K g (pm_mv N j) ∧ fb_ct (gam N K g) j = i ∧ j < le_fac N := by
  rw [← gam_ct hN] at hi
  obtain ⟨j, h1, h2, h3⟩ := fb_ct_kth hi
  exact ⟨j, h1, by rw [← h3]; exact h j h1 h2, (gam_iff.mp h2).2, h3, (gam_iff.mp h2).1⟩
theorem mRow_of {N K : Nat} {g : Nat → Nat → Nat} {made : Nat → Int32} (hN : N ≤ 8) (hg : ∀ i, i < K → gp_ok N (g i)) (h : mRow N K g made) {s : Nat → Nat} (hs : gp_in K g s) : ∃ i, i < ct_n N (gp_in K g) ∧ made i = nI (pm_pl N s) ∧ i = fb_ct (gam N K g) (pm_pl N s) := by
  have ok := gp_in_ok hg hs
  have hl := pm_pl_lt ok
  have h8 := le_fac8 hN
  have hgm : gam N K g (pm_pl N s) = true := gam_iff.mpr ⟨hl, by rw [pm_mv_pl ok]; exact hs⟩
  refine ⟨fb_ct (gam N K g) (pm_pl N s), ?_, h _ (by omega) hgm, rfl⟩
  rw [← gam_ct hN]
  have h2 := fb_ct_mono (gam N K g) (m := pm_pl N s + 1) (n := 40320) (by omega)
  rw [fb_ct_succ, hgm] at h2
  simp only [if_true] at h2
  omega
theorem ct_le40 {N K : Nat} {g : Nat → Nat → Nat} (hN : N ≤ 8) : ct_n N (gp_in K g) ≤ 40320 := by rw [← gam_ct hN]; exact fb_ct_le _ _
-- orbits and chains as bits
/-- x tells, as bits below 8, the points with a property -/
def bitsOf (x : Int32) (P : Nat → Prop) : Prop := ∃ a, x = nI a ∧ a < 256 ∧ ∀ q, a.testBit q = true ↔ P q
theorem bitsOf_cong {x : Int32} {P Q : Nat → Prop} (h : bitsOf x P) (e : ∀ q, P q ↔ Q q) : bitsOf x Q := by
  obtain ⟨a, h1, h2, h3⟩ := h
  exact ⟨a, h1, h2, fun q => (h3 q).trans (e q)⟩
theorem bitsOf_or {x : Int32} {P : Nat → Prop} (h : bitsOf x P) {q0 : Nat} (hq : q0 < 8) : bitsOf (x ||| ((1 : Int32) <<< (nI q0 &&& 31))) (fun q => P q ∨ q = q0) := by
  obtain ⟨a, rfl, h2, h3⟩ := h
  have hp : 2 ^ q0 < 2 ^ 8 := Nat.pow_lt_pow_right (by decide) hq
  refine ⟨a ||| 2 ^ q0, by rw [show (1 : Int32) = nI 1 from rfl, n_shl (by omega), n_or, Nat.one_mul], Nat.or_lt_two_pow (n := 8) h2 hp, fun q => ?_⟩
  rw [Nat.testBit_or, Bool.or_eq_true, h3 q, Nat.testBit_two_pow, decide_eq_true_eq]
  exact ⟨fun w => w.elim Or.inl (fun z => Or.inr z.symm), fun w => w.elim Or.inl (fun z => Or.inr z.symm)⟩
theorem bitsOf_0 : bitsOf (0 : Int32) (fun _ => False) := ⟨0, rfl, by decide, fun q => by rw [Nat.zero_testBit]; simp⟩
theorem bitsOf_one {x y : Int32} {P : Nat → Prop} (hx : bitsOf x P) (hy : bitsOf y P) : x = y := by
  obtain ⟨a, rfl, -, h1⟩ := hx
  obtain ⟨b, rfl, -, h2⟩ := hy
  have : a = b := Nat.eq_of_testBit_eq (fun i => by
    cases e : b.testBit i with
    | true => exact (h1 i).mpr ((h2 i).mp e)
    | false =>
      cases e2 : a.testBit i with
      | true => rw [(h2 i).mpr ((h1 i).mp e2)] at e; cases e
      | false => rfl)
  rw [this]
def mOrb (N K : Nat) (g : Nat → Nat → Nat) (orbits chains : Nat → Int32) : Prop := ∀ p, p < N → bitsOf (orbits p) (fun q => ∃ s, gp_in K g s ∧ s p = q) ∧ bitsOf (chains p) (fun q => ct_ch K g p q)
/-- one element's figures come into orbits and chains -/
theorem chains_one {N : Nat} {now figs orbits chains : Nat → Int32} (n8 : N ≤ 8) (w0 : now 0 = nI N) {s : Nat → Nat} (hs : gp_ok N s) (hf : figOf N figs s) {O C : Nat → Nat → Prop} (hO : ∀ p, p < N → bitsOf (orbits p) (O p)) (hC : ∀ p, p < N → bitsOf (chains p) (C p)) :
    ∃ orbits' chains', xL (f_X8_findChains_L3 now figs) (orbits, chains, (1 : Int32), (0 : Int32)) = some (orbits', chains') ∧ (∀ p, p < N → bitsOf (orbits' p) (fun q => O p q ∨ q = s p)) ∧ ∀ p, p < N → bitsOf (chains' p) (fun q => C p q ∨ ((∀ i, i < p → s i = i) ∧ q = s p)) := by
  let I : Nat → (Nat → Int32) × (Nat → Int32) × Int32 × Int32 → Prop := fun k z => ∃ o c st, z = (o, c, st, nI k) ∧ ((st = 1 ∧ ∀ i, i < k → s i = i) ∨ (st = 0 ∧ ¬ ∀ i, i < k → s i = i)) ∧ (∀ p, p < N → bitsOf (o p) (fun q => O p q ∨ (p < k ∧ q = s p))) ∧ ∀ p, p < N → bitsOf (c p) (fun q => C p q ∨ (p < k ∧ (∀ i, i < p → s i = i) ∧ q = s p))
  let P : (Nat → Int32) × (Nat → Int32) → Prop := fun z => (∀ p, p < N → bitsOf (z.1 p) (fun q => O p q ∨ q = s p)) ∧ ∀ p, p < N → bitsOf (z.2 p) (fun q => C p q ∨ ((∀ i, i < p → s i = i) ∧ q = s p))
  have hh := xL_for (body := f_X8_findChains_L3 now figs) (P := P) I N (fun k z hk hz => Or.inl ?_) (fun z hz => ?_) N 0 (Nat.zero_add _) (orbits, chains, (1 : Int32), (0 : Int32)) ⟨orbits, chains, 1, rfl, Or.inl ⟨rfl, fun i hi => absurd hi (Nat.not_lt_zero _)⟩, fun p hp => bitsOf_cong (hO p hp) (fun q => ⟨Or.inl, fun w => w.elim id (fun z => absurd z.1 (Nat.not_lt_zero _))⟩), fun p hp => bitsOf_cong (hC p hp) (fun q => ⟨Or.inl, fun w => w.elim id (fun z => absurd z.1 (Nat.not_lt_zero _))⟩)⟩
  · obtain ⟨⟨o, c⟩, h1, h2, h3⟩ := hh
    exact ⟨o, c, h1, h2, h3⟩
  · obtain ⟨o, c, st, rfl, hst, ho, hc⟩ := hz
    have hsk := hs.1 k hk
    have ho2 : ∀ p, p < N → bitsOf (upd o k (o k ||| ((1 : Int32) <<< (nI (s k) &&& 31))) p) (fun q => O p q ∨ (p < k + 1 ∧ q = s p)) := fun p hp => by
      by_cases e : p = k
      · rw [e, up_s]
        exact bitsOf_cong (bitsOf_or (ho k hk) (q0 := s k) (by omega)) (fun q => ⟨fun w => w.elim (fun w => w.elim Or.inl (fun z => absurd z.1 (Nat.lt_irrefl _))) (fun z => Or.inr ⟨by omega, z⟩), fun w => w.elim (fun z => Or.inl (Or.inl z)) (fun z => Or.inr z.2)⟩)
      · rw [up_n e]
        exact bitsOf_cong (ho p hp) (fun q => ⟨fun w => w.elim Or.inl (fun z => Or.inr ⟨by have := z.1; omega, z.2⟩), fun w => w.elim Or.inl (fun z => Or.inr ⟨by have := z.1; omega, z.2⟩)⟩)
    have hc2 : ∀ t : Int32, ((∀ i, i < k → s i = i) → t = ((1 : Int32) <<< (nI (s k) &&& 31))) → ((¬ ∀ i, i < k → s i = i) → t = 0) → ∀ p, p < N → bitsOf (upd c k (c k ||| t) p) (fun q => C p q ∨ (p < k + 1 ∧ (∀ i, i < p → s i = i) ∧ q = s p)) := fun t t1 t2 p hp => by
      by_cases e : p = k
      · rw [e, up_s]
        rcases Classical.em (∀ i, i < k → s i = i) with w | w
        · rw [t1 w]
          exact bitsOf_cong (bitsOf_or (hc k hk) (q0 := s k) (by omega)) (fun q => ⟨fun z => z.elim (fun z => z.elim Or.inl (fun y => absurd y.1 (Nat.lt_irrefl _))) (fun y => Or.inr ⟨by omega, w, y⟩), fun z => z.elim (fun y => Or.inl (Or.inl y)) (fun y => Or.inr y.2.2)⟩)
        · rw [t2 w]
          have e0 : c k ||| (0 : Int32) = c k := by
            obtain ⟨a, ha, -⟩ := hc k hk
            rw [ha, show (0 : Int32) = nI 0 from rfl, n_or, Nat.or_zero]
          rw [e0]
          exact bitsOf_cong (hc k hk) (fun q => ⟨fun z => z.elim Or.inl (fun y => absurd y.1 (Nat.lt_irrefl _)), fun z => z.elim Or.inl (fun y => absurd y.2.1 w)⟩)
      · rw [up_n e]
        exact bitsOf_cong (hc p hp) (fun q => ⟨fun w => w.elim Or.inl (fun z => Or.inr ⟨by have := z.1; omega, z.2⟩), fun w => w.elim Or.inl (fun z => Or.inr ⟨by have := z.1; omega, z.2⟩)⟩)
    have hU : ∀ z, (xn (xb (st = 0) (some ((0 : Int32))) (some (((1 : Int32) <<< (nI (s k) &&& 31))))) (fun (t_21 : Int32) => xb (st = 0) (some (.inl ((upd o k (o k ||| ((1 : Int32) <<< (nI (s k) &&& 31)))), (upd c k (c k ||| t_21)), (0 : Int32), (nI k + (1 : Int32))))) (xb (nI (s k) = nI k) (some (.inl ((upd o k (o k ||| ((1 : Int32) <<< (nI (s k) &&& 31)))), (upd c k (c k ||| t_21)), (1 : Int32), (nI k + (1 : Int32))))) (some (.inl ((upd o k (o k ||| ((1 : Int32) <<< (nI (s k) &&& 31)))), (upd c k (c k ||| t_21)), (0 : Int32), (nI k + (1 : Int32)))))))) = z → f_X8_findChains_L3 now figs (o, c, st, nI k) = z := fun z hz => by
      refine (xb_f (by rw [w0, n_le (by omega) (by omega)]; omega)).trans ((xk_t (vp_in_nI (by omega) (by omega))).trans ?_)
      rw [n_cl (by omega), hf k hk]
      exact hz
    rcases hst with ⟨rfl, hst⟩ | ⟨rfl, hst⟩
    · have t0 : xb ((1 : Int32) = 0) (some ((0 : Int32))) (some (((1 : Int32) <<< (nI (s k) &&& 31)))) = some (((1 : Int32) <<< (nI (s k) &&& 31))) := xb_f (by decide)
      by_cases w : s k = k
      · refine ⟨_, hU _ ((xn_s t0).trans ((xb_f (by decide)).trans (xb_t (by rw [w])))), _, _, 1, by rw [n_add1], Or.inl ⟨rfl, fun i hi => ?_⟩, ho2, hc2 _ (fun _ => rfl) (fun z => absurd hst z)⟩
        rcases Nat.lt_or_ge i k with z | z
        · exact hst i z
        · rw [show i = k by omega]; exact w
      · refine ⟨_, hU _ ((xn_s t0).trans ((xb_f (by decide)).trans (xb_f (by rw [n_ieq (by omega) (by omega)]; exact w)))), _, _, 0, by rw [n_add1], Or.inr ⟨rfl, fun z => w (z k (by omega))⟩, ho2, hc2 _ (fun _ => rfl) (fun z => absurd hst z)⟩
    · have t0 : xb ((0 : Int32) = 0) (some ((0 : Int32))) (some (((1 : Int32) <<< (nI (s k) &&& 31)))) = some ((0 : Int32)) := xb_t rfl
      refine ⟨_, hU _ ((xn_s t0).trans (xb_t rfl)), _, _, 0, by rw [n_add1], Or.inr ⟨rfl, fun z => hst (fun i hi => z i (by omega))⟩, ho2, hc2 _ (fun z => absurd z hst) (fun _ => rfl)⟩
  · obtain ⟨o, c, st, rfl, hst, ho, hc⟩ := hz
    refine ⟨(o, c), xb_t (by rw [w0]; exact Int32.le_refl _), fun p hp => bitsOf_cong (ho p hp) (fun q => ⟨fun w => w.elim Or.inl (fun z => Or.inr z.2), fun w => w.elim Or.inl (fun z => Or.inr ⟨hp, z⟩)⟩), fun p hp => bitsOf_cong (hc p hp) (fun q => ⟨fun w => w.elim Or.inl (fun z => Or.inr z.2), fun w => w.elim Or.inl (fun z => Or.inr ⟨hp, z⟩)⟩)⟩
theorem find_chains {N K : Nat} {g : Nat → Nat → Nat} {now figs made orbits chains : Nat → Int32} (hM : mN N K g now) (hR : mRow N K g made) : ∃ figs' orbits' chains', f_X8_findChains now figs (nI (ct_n N (gp_in K g))) made orbits chains = some (figs', orbits', chains') ∧ mOrb N K g orbits' chains' := by
  obtain ⟨n1, n8, k3, w0, w1, hg, -⟩ := hM
  have h40 := ct_le40 (K := K) (g := g) n8
  have h1 := xL_up (body := f_X8_findChains_L1) (fun k => ((fun i => if i < k then 0 else orbits i), (fun i => if i < k then 0 else chains i), nI k)) 8 (r := ((fun i => if i < 8 then 0 else orbits i), (fun i => if i < 8 then 0 else chains i))) (fun k hk => ?_) (xb_t (Int32.le_refl _))
  · have e0 : ((fun i => if i < 0 then 0 else orbits i), (fun i => if i < 0 then 0 else chains i), nI 0) = (orbits, chains, (0 : Int32)) := by
      have a : ∀ f : Nat → Int32, (fun i => if i < 0 then 0 else f i) = f := fun f => funext fun i => if_neg (Nat.not_lt_zero _)
      rw [a, a]; rfl
    rw [e0] at h1
    let I : Nat → (Nat → Int32) × (Nat → Int32) × (Nat → Int32) × Int32 → Prop := fun k z => ∃ fg o c, z = (fg, o, c, nI k) ∧ (∀ p, p < N → bitsOf (o p) (fun q => ∃ j, j < le_fac N ∧ gp_in K g (pm_mv N j) ∧ fb_ct (gam N K g) j < k ∧ pm_mv N j p = q)) ∧ ∀ p, p < N → bitsOf (c p) (fun q => ∃ j, j < le_fac N ∧ gp_in K g (pm_mv N j) ∧ fb_ct (gam N K g) j < k ∧ (∀ i, i < p → pm_mv N j i = i) ∧ pm_mv N j p = q)
    let P : (Nat → Int32) × (Nat → Int32) × (Nat → Int32) → Prop := fun z => mOrb N K g z.2.1 z.2.2
    have hh := xL_for (body := f_X8_findChains_L2 (nI (ct_n N (gp_in K g))) now made) (P := P) I (ct_n N (gp_in K g)) (fun k z hk hz => Or.inl ?_) (fun z hz => ?_) (ct_n N (gp_in K g)) 0 (Nat.zero_add _) (figs, (fun i => if i < 8 then 0 else orbits i), (fun i => if i < 8 then 0 else chains i), (0 : Int32)) ⟨figs, _, _, rfl, fun p hp => ?_, fun p hp => ?_⟩
    · obtain ⟨⟨fg, o, c⟩, h2, h3⟩ := hh
      exact ⟨fg, o, c, (xn_s h1).trans (xn_s h2), h3⟩
    · obtain ⟨fg, o, c, rfl, ho, hc⟩ := hz
      obtain ⟨j, j1, j2, j3, j4, j5⟩ := mRow_at n8 hR hk
      obtain ⟨fg2, hc1, hc2⟩ := mo_codeAt (now := now) (figs := fg) n1 n8 w0 (j := j) (by omega)
      obtain ⟨o2, c2, g1, g2, g3⟩ := chains_one n8 w0 (pm_mv_ok N j) hc2 ho hc
      have huniq : ∀ j', j' < le_fac N → gp_in K g (pm_mv N j') → fb_ct (gam N K g) j' < k + 1 → fb_ct (gam N K g) j' < k ∨ j' = j := fun j' a b d => by
        rcases Nat.lt_or_ge (fb_ct (gam N K g) j') k with w | w
        · exact Or.inl w
        · exact Or.inr (fb_ct_kth_one (gam_iff.mpr ⟨a, b⟩) (gam_iff.mpr ⟨j5, j3⟩) (by omega))
      refine ⟨(fg2, o2, c2, nI k + (1 : Int32)), ?_, fg2, o2, c2, by rw [n_add1], fun p hp => bitsOf_cong (g2 p hp) (fun q => ⟨fun w => ?_, fun w => ?_⟩), fun p hp => bitsOf_cong (g3 p hp) (fun q => ⟨fun w => ?_, fun w => ?_⟩)⟩
      · refine (xb_f (by rw [n_le (by omega) (by omega)]; omega)).trans ((xk_t (vp_in_nI (by omega) (by omega))).trans ?_)
        rw [n_cl (by omega), j2]
        exact (xn_s hc1).trans (xn_s g1)
      · rcases w with ⟨j', a, b, d, f⟩ | w
        · exact ⟨j', a, b, by omega, f⟩
        · exact ⟨j, j5, j3, by omega, w.symm⟩
      · obtain ⟨j', a, b, d, f⟩ := w
        rcases huniq j' a b d with z | z
        · exact Or.inl ⟨j', a, b, z, f⟩
        · right; rw [← f, z]
      · rcases w with ⟨j', a, b, d, f⟩ | w
        · exact ⟨j', a, b, by omega, f⟩
        · exact ⟨j, j5, j3, by omega, w.1, w.2.symm⟩
      · obtain ⟨j', a, b, d, f, f2⟩ := w
        rcases huniq j' a b d with z | z
        · exact Or.inl ⟨j', a, b, z, f, f2⟩
        · right; rw [z] at f f2; exact ⟨f, f2.symm⟩
    · obtain ⟨fg, o, c, rfl, ho, hc⟩ := hz
      refine ⟨(fg, o, c), xb_t (Int32.le_refl _), fun p hp => ⟨bitsOf_cong (ho p hp) (fun q => ⟨fun w => ?_, fun w => ?_⟩), bitsOf_cong (hc p hp) (fun q => ⟨fun w => ?_, fun w => ?_⟩)⟩⟩
      · obtain ⟨j, a, b, d, f⟩ := w; exact ⟨_, b, f⟩
      · obtain ⟨s, a, b⟩ := w
        obtain ⟨i, i1, i2, i3⟩ := mRow_of n8 hg hR a
        have ok := gp_in_ok hg a
        exact ⟨pm_pl N s, pm_pl_lt ok, by rw [pm_mv_pl ok]; exact a, by omega, by rw [pm_mv_pl ok]; exact b⟩
      · obtain ⟨j, a, b, d, f, f2⟩ := w; exact ⟨_, ⟨b, f⟩, f2⟩
      · obtain ⟨s, ⟨a, a2⟩, b⟩ := w
        obtain ⟨i, i1, i2, i3⟩ := mRow_of n8 hg hR a
        have ok := gp_in_ok hg a
        exact ⟨pm_pl N s, pm_pl_lt ok, by rw [pm_mv_pl ok]; exact a, by omega, by rw [pm_mv_pl ok]; exact a2, by rw [pm_mv_pl ok]; exact b⟩
    · rw [if_pos (show p < 8 by omega)]
      exact bitsOf_cong bitsOf_0 (fun q => ⟨fun w => w.elim, fun ⟨j, a, b, d, f⟩ => absurd d (Nat.not_lt_zero _)⟩)
    · rw [if_pos (show p < 8 by omega)]
      exact bitsOf_cong bitsOf_0 (fun q => ⟨fun w => w.elim, fun ⟨j, a, b, d, f⟩ => absurd d (Nat.not_lt_zero _)⟩)
  · refine (xb_f (by rw [show (8 : Int32) = nI 8 from rfl, n_le (by omega) (by omega)]; omega)).trans ((xk_t (vp_in_nI (by omega) (by omega))).trans ?_)
    rw [n_cl (by omega), n_add1]
    have e : ∀ f : Nat → Int32, upd (fun i => if i < k then 0 else f i) k (0 : Int32) = (fun i => if i < k + 1 then 0 else f i) := fun f => up_fun (if_pos (by omega)) (fun i hi => by
      show (if i < k + 1 then _ else _) = (if i < k then _ else _)
      by_cases z : i < k
      · rw [if_pos z, if_pos (by omega)]
      · rw [if_neg z, if_neg (by omega)])
    rw [e, e]
theorem lay_imgs {N K : Nat} {g : Nat → Nat → Nat} {now figs images : Nat → Int32} (hM : mN N K g now) : ∃ figs' images', xL (f_X8_lay_L2 now) (figs, images, (0 : Int32)) = some (figs', images') ∧ mI N K g images' := by
  obtain ⟨n1, n8, k3, w0, w1, hg, hc⟩ := hM
  let I : Nat → (Nat → Int32) × (Nat → Int32) × Int32 → Prop := fun k z => ∃ fg im', z = (fg, im', nI k) ∧ ∀ a p, a < k → p < N → im' (8 * a + p) = nI (g a p)
  have hh := xL_for (body := f_X8_lay_L2 now) (P := fun z => mI N K g z.2) I K (fun k z hk hz => Or.inl ?_) (fun z hz => ?_) K 0 (Nat.zero_add _) (figs, images, (0 : Int32)) ⟨figs, images, rfl, fun a p ha => absurd ha (Nat.not_lt_zero _)⟩
  · obtain ⟨⟨a, b⟩, h1, h2⟩ := hh
    exact ⟨a, b, h1, h2⟩
  · obtain ⟨fg, im', rfl, h1⟩ := hz
    obtain ⟨fg2, o1, o2⟩ := mo_open_mv (now := now) (figs := fg) n8 w0 (v := nI (cd_n (g k) N)) (s := g k) ⟨hg k hk, rfl⟩
    have h3 := xL_up (body := f_X8_lay_L3 now (nI k) fg2) (fun q => ((fun i => if 8 * k ≤ i ∧ i < 8 * k + q then nI (g k (i - 8 * k)) else im' i), nI q)) N (r := (fun i => if 8 * k ≤ i ∧ i < 8 * k + N then nI (g k (i - 8 * k)) else im' i)) (fun q hq => ?_) (xb_t (by rw [w0]; exact Int32.le_refl _))
    · have e0 : ((fun i => if 8 * k ≤ i ∧ i < 8 * k + 0 then nI (g k (i - 8 * k)) else im' i), nI 0) = (im', (0 : Int32)) := by
        have : (fun i => if 8 * k ≤ i ∧ i < 8 * k + 0 then nI (g k (i - 8 * k)) else im' i) = im' := funext fun i => if_neg (by omega)
        rw [this]; rfl
      rw [e0] at h3
      refine ⟨(fg2, (fun i => if 8 * k ≤ i ∧ i < 8 * k + N then nI (g k (i - 8 * k)) else im' i), nI k + (1 : Int32)), ?_, fg2, (fun i => if 8 * k ≤ i ∧ i < 8 * k + N then nI (g k (i - 8 * k)) else im' i), by rw [n_add1], fun a p ha hp => ?_⟩
      · refine (xb_f (by rw [w1, n_le (by omega) (by omega)]; omega)).trans ?_
        rw [show (2 : Int32) + nI k = nI (2 + k) from nI_add 2 k]
        refine (xk_t (vp_in_nI (by omega) (by omega))).trans ?_
        rw [n_cl (by omega), hc k hk]
        exact (xn_s o1).trans (xn_s h3)
      · show (if 8 * k ≤ 8 * a + p ∧ 8 * a + p < 8 * k + N then nI (g k (8 * a + p - 8 * k)) else im' (8 * a + p)) = _
        rcases Nat.lt_or_ge a k with z | z
        · rw [if_neg (by omega)]; exact h1 a p z hp
        · have e : a = k := by omega
          subst e
          rw [if_pos (by omega), show 8 * a + p - 8 * a = p by omega]
    · refine (xb_f (by rw [w0, n_le (by omega) (by omega)]; omega)).trans ((xk_t (vp_in_nI (by omega) (by omega))).trans ?_)
      rw [n_mul8]
      refine (xk_t (vp_in_nI (by omega) (by omega))).trans ?_
      rw [n_cl (by omega), n_cl (by omega), o2 q hq, n_add1]
      have e : upd (fun i => if 8 * k ≤ i ∧ i < 8 * k + q then nI (g k (i - 8 * k)) else im' i) (8 * k + q) (nI (g k q)) = (fun i => if 8 * k ≤ i ∧ i < 8 * k + (q + 1) then nI (g k (i - 8 * k)) else im' i) := up_fun (by
        show (if 8 * k ≤ 8 * k + q ∧ 8 * k + q < 8 * k + (q + 1) then _ else _) = _
        rw [if_pos (by omega), show 8 * k + q - 8 * k = q by omega]) (fun i hi => by
        show (if 8 * k ≤ i ∧ i < 8 * k + (q + 1) then _ else _) = (if 8 * k ≤ i ∧ i < 8 * k + q then _ else _)
        by_cases z : 8 * k ≤ i ∧ i < 8 * k + q
        · rw [if_pos z, if_pos (by omega)]
        · rw [if_neg z, if_neg (by omega)])
      rw [e]
  · obtain ⟨fg, im', rfl, h1⟩ := hz
    exact ⟨(fg, im'), xb_t (by rw [w1]; exact Int32.le_refl _), h1⟩
/-- what stands once all is laid -/
def mLaid (N K : Nat) (g : Nat → Nat → Nat) (many : Int32) (isMade made orbits chains : Nat → Int32) : Prop := many = nI (ct_n N (gp_in K g)) ∧ (∀ j, j < 40320 → isMade j = b01 (gam N K g j)) ∧ mRow N K g made ∧ mOrb N K g orbits chains
/-- laid, or yet to be laid -/
def mLay (N K : Nat) (g : Nat → Nat → Nat) (isLaid many : Int32) (isMade made orbits chains : Nat → Int32) : Prop := isLaid = 0 ∨ (isLaid = 1 ∧ mLaid N K g many isMade made orbits chains)
theorem m_lay {N K : Nat} {g : Nat → Nat → Nat} {now figs isMade made images orbits chains : Nat → Int32} {isLaid many : Int32} (hM : mN N K g now) (h : mLay N K g isLaid many isMade made orbits chains) :
    ∃ figs' many' isMade' made' images' orbits' chains', f_X8_lay now figs isLaid many isMade made images orbits chains = some (figs', 1, many', isMade', made', images', orbits', chains') ∧ mLaid N K g many' isMade' made' orbits' chains' := by
  have hM' := hM
  obtain ⟨n1, n8, k3, w0, w1, hg, hc⟩ := hM
  rcases h with rfl | ⟨rfl, h⟩
  · have h1 := xL_up (body := f_X8_lay_L1) (fun k => ((fun i => if i < k then 0 else isMade i), nI k)) 40320 (r := (fun i => if i < 40320 then 0 else isMade i)) (fun k hk => ?_) (xb_t (Int32.le_refl _))
    · have e0 : ((fun i => if i < 0 then 0 else isMade i), nI 0) = (isMade, (0 : Int32)) := by
        have a : (fun i => if i < 0 then 0 else isMade i) = isMade := funext fun i => if_neg (Nat.not_lt_zero _)
        rw [a]; rfl
      rw [e0] at h1
      obtain ⟨fg, im', i1, i2⟩ := lay_imgs (figs := figs) (images := images) hM'
      have hB0 : mB N K g 0 (fun i => if i < 40320 then 0 else isMade i) made (fun _ => false) (fun _ => 0) := ⟨fb_ct_zero.mpr (fun _ _ => rfl), fun j hj => if_pos hj, fun i hi => absurd hi (Nat.not_lt_zero _), fun j _ hj => by cases hj⟩
      obtain ⟨m1, a1, d1, mk1, md1, b1, b2, b3, -⟩ := mB_mark n8 hB0 (j := 0) (le_fac_pos N) (by
        have : pm_mv N 0 = gp_id := by
          have := pm_mv_pl (gp_ok_id N)
          rw [pm_id] at this
          exact this
        rw [this]; exact gp_in_id K g)
      obtain ⟨fg2, a2, d2, c1, c2⟩ := lay_all (figs := fg) hM' i2 b2 b3
      obtain ⟨d3, s1, s2⟩ := sort_made (made := d2) c2
      obtain ⟨fg3, o3, ch3, t1, t2⟩ := find_chains (figs := fg2) (orbits := orbits) (chains := chains) hM' s2
      refine ⟨fg3, _, a2, d3, im', o3, ch3, ?_, rfl, c2, s2, t2⟩
      exact (xb_t rfl).trans ((xn_s h1).trans ((xn_s i1).trans ((xn_s b1).trans ((xn_s c1).trans ((xn_s s1).trans (xn_s t1))))))
    · refine (xb_f (by rw [show (40320 : Int32) = nI 40320 from rfl, n_le (by omega) (by omega)]; omega)).trans ((xk_t (vp_in_nI hk (by omega))).trans ?_)
      rw [n_cl (by omega), n_add1]
      have e : upd (fun i => if i < k then 0 else isMade i) k (0 : Int32) = (fun i => if i < k + 1 then 0 else isMade i) := up_fun (if_pos (by omega)) (fun i hi => by
        show (if i < k + 1 then _ else _) = (if i < k then _ else _)
        by_cases z : i < k
        · rw [if_pos z, if_pos (by omega)]
        · rw [if_neg z, if_neg (by omega)])
      rw [e]
  · exact ⟨figs, many, isMade, made, images, orbits, chains, xb_f (by decide), h⟩

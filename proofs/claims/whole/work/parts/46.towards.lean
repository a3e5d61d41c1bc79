section TOW
variable {N K : Nat} {g : Nat → Nat → Nat} {e_n : Int32} {steps chains leaving : Nat → Int32}
/-- one that goes as b below p carries a to t -/
def twd (K : Nat) (g : Nat → Nat → Nat) (a t p : Nat) (b : Nat → Nat) : Prop := ∃ s, ct_ag K g p b s ∧ im s a = t
theorem twd_orbp (hN : N ≤ 8) (hg : ∀ i, i < K → gp_ok N (g i)) {a t p : Nat} (ht : t < 256) {b : Nat → Nat} (hb : gp_in K g b) : twd K g a t p b ↔ orbp K g p a (im (gp_inv b) t) := by
  have ob := gp_ok_8 hN (gp_in_ok hg hb)
  have oi := gp_ok_inv ob
  constructor
  · rintro ⟨s, h1, rfl⟩
    obtain ⟨u, u1, rfl⟩ := (ct_ag_iff hN hg hb).mp h1
    have ou := at_ok hN hg u1
    refine ⟨u, u1, ?_⟩
    rw [← im_th (gp_ok_th ou ob) oi, gp_as, gp_th_inv (Nat.le_refl 8) ob]; rfl
  · rintro ⟨u, u1, u2⟩
    have ou := at_ok hN hg u1
    refine ⟨gp_th u b, (ct_ag_iff hN hg hb).mpr ⟨u, u1, rfl⟩, ?_⟩
    rw [im_th ou ob, u2, ← im_th oi ob, gp_inv_th (Nat.le_refl 8) ob, im_id ht]
theorem c_towards (hN : N ≤ 8) (hg : ∀ i, i < K → gp_ok N (g i)) (hE : eOK N K g e_n steps chains leaving) {a t : Nat} (ht : t < 256) {rd ra : Nat → Int32} {cnt : Int32} {rl : List Nat} (hS : kS N K g a rd ra cnt rl) {p : Nat} (hp : p < N) {b : Nat → Nat} (hb : gp_in K g b) (hw : twd K g a t p b) :
    ∃ b', f_X0_goOnTowards (nI N) ra steps chains (pv b) (nI p) (nI t) = some (pv b') ∧ ct_ag K g p b b' ∧ twd K g a t (p + 1) b' ∧ ∀ s, ct_ag K g p b s → im s a = t → ¬ s p < b' p := by
  obtain ⟨r, e1, hr⟩ := c_choices hN hg hE (p := p) (by omega) hb
  let I : Nat → Int32 → Prop := fun q z => z = nI q ∧ ∀ s, ct_ag K g p b s → im s a = t → ¬ s p < q
  let P : Unit ⊕ Int32 → Prop := fun x => ∃ b', x = .inr (pv b') ∧ ct_ag K g p b b' ∧ twd K g a t (p + 1) b' ∧ ∀ s, ct_ag K g p b s → im s a = t → ¬ s p < b' p
  have hh := xL_for (body := f_X0_goOnTowards_L1 (nI N) r steps (pv b) (nI p) (nI t) ra) (P := P) I N (fun q z hq hz => ?_) (fun z hz => ?_) N 0 (Nat.zero_add _) (0 : Int32) ⟨rfl, fun s _ _ h => absurd h (Nat.not_lt_zero _)⟩
  · obtain ⟨x, x1, b', rfl, x2⟩ := hh
    exact ⟨b', (xn_s e1).trans ((xn_s x1).trans rfl), x2⟩
  · obtain ⟨rfl, hz⟩ := hz
    have hnle : ¬ nI N ≤ nI q := by rw [n_le (by omega) (by omega)]; omega
    obtain ⟨b1, b2⟩ := bits_test hr (q := q) (by omega)
    have next : (∀ s, ct_ag K g p b s → im s a = t → s p ≠ q) → I (q + 1) (nI q + (1 : Int32)) := fun w => ⟨by rw [n_add1], fun s s1 s2 s3 => by
      have := hz s s1 s2
      exact w s s1 s2 (by omega)⟩
    by_cases hc : ∃ s, ct_ag K g p b s ∧ s p = q
    · obtain ⟨b', f1, f2, f3⟩ := c_goOn hN hg hE (p := p) (q := q) (by omega) hb hc (by omega)
      have ob := gp_ok_8 hN (gp_in_ok hg f2.1)
      have oi := gp_ok_inv ob
      have hy := im_lt256 oi t
      have hd : f_X0_goOnTowards_L1 (nI N) r steps (pv b) (nI p) (nI t) ra (nI q) = xb (ra (im (gp_inv b') t) ≤ nI p) (some (.inl (nI q + (1 : Int32)))) (some (.inr (.inr (pv b')))) := by
        refine (xb_f hnle).trans ((xb_f (fun w => (b1.mp w) hc)).trans ((xn_s f1).trans ((xn_s (mv_inv ob)).trans ((xn_s (mv_carry oi.1 ht)).trans ((xk_t (vp_in_nI hy (by omega))).trans ?_)))))
        rw [n_cl (by omega)]
      have key : twd K g a t (p + 1) b' ↔ ¬ ra (im (gp_inv b') t) ≤ nI p := by
        rw [twd_orbp hN hg ht f2.1]
        rcases Classical.em (im (gp_inv b') t ∈ rl) with w | w
        · obtain ⟨v, v1, v2, v3, v4⟩ := hS.2.2 _ w
          rw [v1, n_le (by omega) (by omega), ← v4 (p + 1) (by omega) (by omega)]
          omega
        · rw [hS.1.2.2.2.2 _ hy w]
          refine ⟨fun z => absurd ((hS.2.1 _).mpr (orbp_0.mp (orbp_le (Nat.zero_le _) z))) w, fun z => absurd ?_ z⟩
          have h1 : ¬ nI p < 0 := nI_pos (by omega)
          refine Int32.le_iff_toInt_le.mpr ?_
          have h2 : ¬ (nI p).toInt < (0 : Int32).toInt := fun w => h1 (Int32.lt_iff_toInt_lt.mpr w)
          rw [show (0 : Int32).toInt = 0 by decide +kernel] at h2
          rw [n_m1]
          omega
      have hag : ∀ s, (ct_ag K g p b s ∧ s p = q) ↔ ct_ag K g (p + 1) b' s := ct_ag_next f2 f3
      by_cases w : ra (im (gp_inv b') t) ≤ nI p
      · refine Or.inl ⟨_, hd.trans (xb_t w), next (fun s s1 s2 s3 => ?_)⟩
        exact key.mp ⟨s, (hag s).mp ⟨s1, s3⟩, s2⟩ w
      · exact Or.inr ⟨_, hd.trans (xb_f w), b', rfl, f2, key.mpr w, fun s s1 s2 s3 => by rw [f3] at s3; exact hz s s1 s2 s3⟩
    · exact Or.inl ⟨_, (xb_f hnle).trans (xb_t (b1.mpr hc)), next (fun s s1 _ s3 => hc ⟨s, s1, s3⟩)⟩
  · obtain ⟨rfl, hz⟩ := hz
    obtain ⟨s, s1, s2⟩ := hw
    exact absurd ((gp_in_ok hg s1.1).1 p hp) (hz s s1 s2)
theorem c_firstMove (hN : N ≤ 8) (hg : ∀ i, i < K → gp_ok N (g i)) (hE : eOK N K g e_n steps chains leaving) {a t : Nat} (ha : a < 256) (ht : t < 256) {rd ra : Nat → Int32} {cnt : Int32} {rl : List Nat} (hR : kR rd ra cnt rl) :
    ∃ rd' ra' cnt' rl' r, f_X0_firstMove (nI N) rd ra cnt steps chains (nI a) (nI t) = some (rd', ra', cnt', r) ∧ kR rd' ra' cnt' rl' ∧ ((¬ orb K g a t ∧ r = (-1 : Int32)) ∨ ∃ b, gp_in K g b ∧ im b a = t ∧ (∀ s, gp_in K g s → im s a = t → ¬ pm_lx N s b) ∧ r = pv b) := by
  obtain ⟨rd', ra', cnt', rl', e1, hS⟩ := sp_spread hN hg hE ha hR
  by_cases w : t ∈ rl'
  · obtain ⟨v, v1, v2, v3, v4⟩ := hS.2.2 _ w
    have hne : ra' t ≠ (-1 : Int32) := fun e => by rw [v1] at e; exact nI_pos (n := v) (by omega) (by rw [e]; decide)
    obtain ⟨s0, s1, s2⟩ := (hS.2.1 t).mp w
    let I : Nat → Int32 × Int32 → Prop := fun p z => ∃ b, z = (pv b, nI p) ∧ gp_in K g b ∧ twd K g a t p b ∧ ∀ s, gp_in K g s → im s a = t → ¬ ∃ i, i < p ∧ (∀ j, j < i → s j = b j) ∧ s i < b i
    let P : Int32 → Prop := fun z => ∃ b, z = pv b ∧ gp_in K g b ∧ twd K g a t N b ∧ ∀ s, gp_in K g s → im s a = t → ¬ pm_lx N s b
    have hh := xL_for (body := f_X0_firstMove_L1 (nI N) ra' steps chains (nI t)) (P := P) I N (fun p z hp hz => Or.inl ?_) (fun z hz => ?_) N 0 (Nat.zero_add _) ((16434824 : Int32), (0 : Int32)) ⟨gp_id, by decide +kernel, gp_in_id K g, ⟨s0, ⟨s1, fun i hi => absurd hi (Nat.not_lt_zero _)⟩, s2⟩, fun s _ _ h => by obtain ⟨i, hi, _⟩ := h; exact absurd hi (Nat.not_lt_zero _)⟩
    · obtain ⟨z, z1, b, rfl, z2, ⟨s, z3, z4⟩, z5⟩ := hh
      refine ⟨rd', ra', cnt', rl', pv b, (xn_s e1).trans ((xk_t (vp_in_nI ht (by omega))).trans ?_), hS.1, Or.inr ⟨b, z2, ?_, z5, rfl⟩⟩
      · rw [n_cl (by omega)]
        exact (xb_f hne).trans ((xn_s z1).trans rfl)
      · have : s = b := funext fun i => by
          rcases Nat.lt_or_ge i N with y | y
          · exact z3.2 i y
          · rw [(gp_in_ok hg z3.1).2.2 i y, (gp_in_ok hg z2).2.2 i y]
        rw [← this]; exact z4
    · obtain ⟨b, rfl, hb, htw, hmin⟩ := hz
      obtain ⟨b', f1, f2, f3, f4⟩ := c_towards hN hg hE ht hS hp hb htw
      refine ⟨_, (xb_f (by rw [n_le (by omega) (by omega)]; omega)).trans ((xn_s f1).trans rfl), b', by rw [n_add1], f2.1, f3, fun s s1 s2 h => ?_⟩
      obtain ⟨i, i1, i2, i3⟩ := h
      rcases Nat.lt_or_ge i p with y | y
      · exact hmin s s1 s2 ⟨i, y, fun j hj => by rw [i2 j hj, f2.2 j (by omega)], by rw [← f2.2 i y]; exact i3⟩
      · have : i = p := by omega
        subst this
        exact f4 s ⟨s1, fun j hj => by rw [i2 j hj, f2.2 j hj]⟩ s2 i3
    · obtain ⟨b, rfl, hb, htw, hmin⟩ := hz
      exact ⟨_, xb_t (Int32.le_refl _), b, rfl, hb, htw, fun s s1 s2 h => hmin s s1 s2 h⟩
  · refine ⟨rd', ra', cnt', rl', (-1 : Int32), (xn_s e1).trans ((xk_t (vp_in_nI ht (by omega))).trans ?_), hS.1, Or.inl ⟨fun h => w ((hS.2.1 t).mpr h), rfl⟩⟩
    rw [n_cl (by omega)]
    exact xb_t (hS.1.2.2.2.2 t ht w)
end TOW

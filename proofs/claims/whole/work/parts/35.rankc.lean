section RC
variable {N K : Nat} {g : Nat → Nat → Nat} {e_n : Int32} {steps chains leaving : Nat → Int32}
theorem c_chain (hE : eOK N K g e_n steps chains leaving) {p : Nat} (hp : p < 8) : f_X1_chain chains (nI p) = some (chains p) := by
  refine (xb_f (nI_pos (by omega))).trans ((xb_f (by rw [show (8 : Int32) = nI 8 from rfl, n_le (by omega) (by omega)]; omega)).trans ((xk_t (vp_in_nI hp (by omega))).trans ?_))
  rw [n_cl (by omega)]
theorem c_choices (hN : N ≤ 8) (hg : ∀ i, i < K → gp_ok N (g i)) (hE : eOK N K g e_n steps chains leaving) {p : Nat} (hp : p < 8) {b : Nat → Nat} (hb : gp_in K g b) : ∃ r, f_X1_choices chains (pv b) (nI p) = some r ∧ bitsOf r (fun q => ∃ s, ct_ag K g p b s ∧ s p = q) := by
  have ob := gp_ok_8 hN (gp_in_ok hg hb)
  obtain ⟨ca, ce, cl, cb⟩ := hE.2.1 p hp
  refine ⟨nI (im b ca), (xn_s (c_chain hE hp)).trans (by rw [ce]; exact (xn_s (mv_carry ob.1 cl)).trans rfl), im b ca, rfl, im_lt ob.1 ca 8 (Nat.le_refl _), fun q => ?_⟩
  show (im_n b ca 8).testBit q = true ↔ _
  rw [im_tb]
  constructor
  · rintro ⟨c, h1, h2, h3⟩
    rw [ct_choice hN hg hb]
    have : gp_inv b q = c := (gp_inv_eq (Nat.le_refl 8) ob).mpr h3
    rw [this]; exact (cb c).mp h2
  · intro h
    obtain ⟨s, h1, h2⟩ := (ct_choice hN hg hb).mp h
    have hc : gp_inv b q < 8 := by rw [← h2]; exact (gp_ok_8 hN (gp_in_ok hg h1.1)).1 p hp
    exact ⟨gp_inv b q, hc, (cb _).mpr ⟨s, h1, h2⟩, gp_inv_r (Nat.le_refl 8) ob q⟩
theorem n_and7' {a : Nat} (h : a < 8) : nI a &&& (7 : Int32) = nI a := by rw [n_and7, Nat.mod_eq_of_lt h]
theorem c_step (hE : eOK N K g e_n steps chains leaving) {p q : Nat} (hp : p < 8) (hq : q < 8) : f_X1_step steps (nI p) (nI q) = some (steps (8 * p + q)) := by
  show xk _ _ = _
  rw [n_and7' hp, n_and7' hq, n_mul8]
  refine (xk_t (vp_in_nI (by omega) (by omega))).trans ?_
  rw [n_cl (by omega)]
theorem c_goOn (hN : N ≤ 8) (hg : ∀ i, i < K → gp_ok N (g i)) (hE : eOK N K g e_n steps chains leaving) {p q : Nat} (hp : p < 8) {b : Nat → Nat} (hb : gp_in K g b) (hq : ∃ s, ct_ag K g p b s ∧ s p = q) (hq8 : q < 8) : ∃ b', f_X1_goOn steps (pv b) (nI p) (nI q) = some (pv b') ∧ ct_ag K g p b b' ∧ b' p = q := by
  have ob := gp_ok_8 hN (gp_in_ok hg hb)
  have oi := gp_ok_inv ob
  have hc := oi.1 q hq8
  obtain ⟨t, t1, t2, t3⟩ := hE.2.2.1 p _ hp ((ct_choice hN hg hb).mp hq)
  have ot := gp_ok_8 hN (gp_in_ok hg t1.1)
  refine ⟨gp_th t b, ?_, (ct_ag_iff hN hg hb).mpr ⟨t, t1, rfl⟩, ?_⟩
  · refine (xn_s (mv_inv ob)).trans ((xn_s (mv_at oi.1 hq8)).trans ((xn_s (c_step hE hp hc)).trans ?_))
    rw [t3]
    exact (xn_s (mv_then ot.1 ob.1)).trans rfl
  · show b (t p) = q
    rw [t2]; exact gp_inv_r (Nat.le_refl 8) ob q
theorem ct_below (P : Nat → Prop) {q : Nat} (hq : q ≤ 8) : fb_ct (fun c => ct_b (P c ∧ c < q)) 8 = fb_ct (fun c => ct_b (P c)) q := by
  rw [show 8 = q + (8 - q) by omega, fb_ct_split]
  have h0 : fb_ct (fun k => ct_b (P (q + k) ∧ q + k < q)) (8 - q) = 0 := fb_ct_zero.mpr (fun k _ => ct_bf.mpr (fun w => by have := w.2; omega))
  rw [h0, Nat.add_zero]
  refine fb_ct_cong (fun k hk => ?_)
  rcases Classical.em (P k) with w | w
  · rw [ct_bt.mpr w]; exact ct_bt.mpr ⟨w, hk⟩
  · rw [ct_bf.mpr w]; exact ct_bf.mpr (fun z => w z.1)
theorem bits_mask {x : Int32} {P : Nat → Prop} (h : bitsOf x P) {q : Nat} (hq : q < 8) : bitsOf (x &&& (((1 : Int32) <<< (nI q &&& 31)) - (1 : Int32))) (fun c => P c ∧ c < q) := by
  obtain ⟨a, rfl, h1, h2⟩ := h
  have hp : 0 < 2 ^ q := Nat.pow_pos (by decide)
  refine ⟨a % 2 ^ q, ?_, Nat.lt_of_le_of_lt (Nat.mod_le _ _) h1, fun c => ?_⟩
  · rw [show (1 : Int32) = nI 1 from rfl, n_shl (by omega), Nat.one_mul, show nI 1 = (1 : Int32) from rfl, n_sub1 (by omega), fa_mask]
  · rw [Nat.testBit_mod_two_pow, Bool.and_eq_true, decide_eq_true_eq, h2 c]
    exact ⟨fun w => ⟨w.2, w.1⟩, fun w => ⟨w.2, w.1⟩⟩
theorem bits_test {x : Int32} {P : Nat → Prop} (h : bitsOf x P) {q : Nat} (hq : q < 8) : (((x >>> (nI q &&& 31)) &&& (1 : Int32)) = 0 ↔ ¬ P q) ∧ (P q → ((x >>> (nI q &&& 31)) &&& (1 : Int32)) = 1) := by
  obtain ⟨a, rfl, h1, h2⟩ := h
  constructor
  · rw [n_bit0 (by omega) (by omega)]
    constructor
    · intro e w; rw [(h2 q).mpr w] at e; cases e
    · intro w
      cases e : a.testBit q with
      | true => exact absurd ((h2 q).mp e) w
      | false => rfl
  · intro w
    exact (n_bit1 (by omega) (by omega)).mpr ((h2 q).mpr w)
theorem c_rank (hN : N ≤ 8) (hg : ∀ i, i < K → gp_ok N (g i)) (hE : eOK N K g e_n steps chains leaving) {s : Nat → Nat} (hs : gp_ok N s) : ∃ r, f_X1_rank e_n steps chains leaving (pv s) = some r ∧ ((gp_in K g s ∧ r = nI (rk_s K g s N)) ∨ (¬ gp_in K g s ∧ r = (-1 : Int32))) := by
  have os := gp_ok_8 hN hs
  let I : Nat → Int32 × Int32 × Int32 → Prop := fun p z => ∃ b, z = (pv b, nI (rk_s K g s p), nI p) ∧ gp_in K g b ∧ ∀ i, i < p → b i = s i
  let P : Int32 ⊕ Int32 → Prop := fun o => match o with
    | .inl r => gp_in K g s ∧ r = nI (rk_s K g s N)
    | .inr r => ¬ gp_in K g s ∧ r = (-1 : Int32)
  have hh := xL_for (body := f_X1_rank_L1 e_n (pv s) chains steps leaving) (P := P) I N (fun p z hp hz => ?_) (fun z hz => ?_) N 0 (Nat.zero_add _) ((16434824 : Int32), (0 : Int32), (0 : Int32)) ⟨gp_id, by rw [pv_stay]; rfl, gp_in_id K g, fun i hi => absurd hi (Nat.not_lt_zero _)⟩
  · obtain ⟨o, h1, h2⟩ := hh
    cases o with
    | inl r => exact ⟨r, (xn_s h1).trans rfl, Or.inl h2⟩
    | inr r => exact ⟨r, (xn_s h1).trans rfl, Or.inr h2⟩
  · obtain ⟨b, rfl, hb, ha⟩ := hz
    have hsp := hs.1 p hp
    obtain ⟨r, hr1, hr2⟩ := c_choices hN hg hE (p := p) (by omega) hb
    obtain ⟨ht1, ht2⟩ := bits_test hr2 (q := s p) (by omega)
    have c0 : ¬ e_n ≤ nI p := by rw [hE.1, n_le (by omega) (by omega)]; omega
    have c1 : ¬ (8 : Int32) ≤ nI p := by rw [show (8 : Int32) = nI 8 from rfl, n_le (by omega) (by omega)]; omega
    rcases Classical.em (∃ t, ct_ag K g p b t ∧ t p = s p) with w | w
    · obtain ⟨b', g1, g2, g3⟩ := c_goOn hN hg hE (p := p) (by omega) hb w (by omega)
      have hbc := bc_bits (bits_mask hr2 (q := s p) (by omega))
      rw [ct_below _ (by omega)] at hbc
      have e1 : fb_ct (fun c => ct_b (∃ t, ct_ag K g p b t ∧ t p = c)) (s p) = rk_c K g p s (s p) := rk_c_cong ha (s p)
      rw [e1] at hbc
      refine Or.inl ⟨(pv b', nI (rk_s K g s (p + 1)), nI p + (1 : Int32)), ?_, b', by rw [n_add1], g2.1, fun i hi => ?_⟩
      · refine (xb_f c0).trans ((xb_f c1).trans ((xn_s (mv_at os.1 (by omega))).trans ((xn_s hr1).trans ((xb_f (fun z => (ht1.mp z) w)).trans ((xn_s hbc).trans ?_)))))
        rw [n_add1]
        refine (xk_t (vp_in_nI (by omega) (by omega))).trans ((xn_s g1).trans ?_)
        rw [n_cl (by omega), hE.2.2.2 (p + 1) (by omega), n_mul, n_addn, rk_s_succ, show 8 - (p + 1) = 7 - p by omega]
      · rcases Nat.lt_or_ge i p with z | z
        · rw [g2.2 i z, ha i z]
        · rw [show i = p by omega]; exact g3
    · refine Or.inr ⟨.inr (-1 : Int32), (xb_f c0).trans ((xb_f c1).trans ((xn_s (mv_at os.1 (by omega))).trans ((xn_s hr1).trans (xb_t (ht1.mpr w))))), fun hin => w ⟨s, ⟨hin, fun i hi => (ha i hi).symm⟩, rfl⟩, rfl⟩
  · obtain ⟨b, rfl, hb, ha⟩ := hz
    have e : b = s := funext fun i => by
      rcases Nat.lt_or_ge i N with w | w
      · exact ha i w
      · rw [(gp_in_ok hg hb).2.2 i w, hs.2.2 i w]
    exact ⟨.inl (nI (rk_s K g s N)), xb_t (by rw [hE.1]; exact Int32.le_refl _), by rw [← e]; exact hb, rfl⟩
theorem ct_lv_1 (hg : ∀ i, i < K → gp_ok N (g i)) : ∀ k, k ≤ 8 - N → ct_lv K g k = 1
  | 0, _ => rfl
  | k + 1, h => by rw [ct_lv, ct_lv_1 hg k (by omega), ct_cn_out hg (by omega) (by omega)]
theorem rk_c_succ {p : Nat} {b : Nat → Nat} (q : Nat) : rk_c K g p b (q + 1) = rk_c K g p b q + (if ct_b (∃ s, ct_ag K g p b s ∧ s p = q) then 1 else 0) := fb_ct_succ _ q
theorem c_inner (hN : N ≤ 8) (hg : ∀ i, i < K → gp_ok N (g i)) (hE : eOK N K g e_n steps chains leaving) {p : Nat} (hp : p < N) {b : Nat → Nat} (hb : gp_in K g b) {r : Int32} (hr : bitsOf r (fun q => ∃ s, ct_ag K g p b s ∧ s p = q)) {left : Nat} (hl : left < ct_lv K g (8 - p)) :
    ∃ left' q, xL (f_X1_withRank_L2 r (nI p) leaving) (nI left, (0 : Int32)) = some (nI left', nI q) ∧ q < 8 ∧ (∃ s, ct_ag K g p b s ∧ s p = q) ∧ left' < ct_lv K g (7 - p) ∧ left = rk_c K g p b q * ct_lv K g (7 - p) + left' := by
  have hlv := ct_lv_le hN hg (k := 8 - p) (by omega)
  have hlv7 := ct_lv_le hN hg (k := 7 - p) (by omega)
  have htot : ct_lv K g (8 - p) = ct_lv K g (7 - p) * ct_cn K g p := by
    rw [show 8 - p = (7 - p) + 1 by omega, ct_lv, show 7 - (7 - p) = p by omega]
  have hcn : rk_c K g p b 8 = ct_cn K g p := by
    have h1 := ct_ag_p hN hg hp hb
    show fb_ct _ 8 = _
    rw [show 8 = N + (8 - N) by omega, fb_ct_split, h1]
    have h0 : fb_ct (fun k => ct_b (∃ s, ct_ag K g p b s ∧ s p = N + k)) (8 - N) = 0 := fb_ct_zero.mpr (fun k _ => ct_bf.mpr (fun ⟨s, a, e⟩ => by have := (gp_in_ok hg a.1).1 p hp; omega))
    omega
  let I : Nat → Int32 × Int32 → Prop := fun q z => ∃ l, z = (nI l, nI q) ∧ left = rk_c K g p b q * ct_lv K g (7 - p) + l
  let P : Int32 × Int32 → Prop := fun z => ∃ l q, z = (nI l, nI q) ∧ q < 8 ∧ (∃ s, ct_ag K g p b s ∧ s p = q) ∧ l < ct_lv K g (7 - p) ∧ left = rk_c K g p b q * ct_lv K g (7 - p) + l
  have lv : leaving (p + 1) = nI (ct_lv K g (7 - p)) := by rw [hE.2.2.2 (p + 1) (by omega), show 8 - (p + 1) = 7 - p by omega]
  have hh := xL_for (body := f_X1_withRank_L2 r (nI p) leaving) (P := P) I 7 (fun q z hq hz => ?_) (fun z hz => ?_) 7 0 (Nat.zero_add _) (nI left, (0 : Int32)) ⟨left, rfl, by show left = 0 * _ + left; omega⟩
  · obtain ⟨o, h1, l, q, rfl, h2⟩ := hh
    exact ⟨l, q, h1, h2⟩
  · obtain ⟨l, rfl, hl2⟩ := hz
    obtain ⟨ht1, ht2⟩ := bits_test hr (q := q) (by omega)
    have c0 : ¬ (7 : Int32) ≤ nI q := by rw [show (7 : Int32) = nI 7 from rfl, n_le (by omega) (by omega)]; omega
    have hll : l ≤ 40320 := by omega
    rcases Classical.em (∃ s, ct_ag K g p b s ∧ s p = q) with w | w
    · have hU : f_X1_withRank_L2 r (nI p) leaving (nI l, nI q) = xb (nI l < nI (ct_lv K g (7 - p))) (some (.inr (nI l, nI q))) (some (.inl (nI l - (1 : Int32) * nI (ct_lv K g (7 - p)), nI q + (1 : Int32)))) := by
        refine (xb_f c0).trans ((xb_f (fun z => ht1.mp z w)).trans ?_)
        rw [ht2 w, n_add1]
        refine (xk_t (vp_in_nI (by omega) (by omega))).trans ?_
        rw [n_cl (by omega), lv]
      by_cases v : l < ct_lv K g (7 - p)
      · exact Or.inr ⟨(nI l, nI q), hU.trans (xb_t (by rw [n_lt (by omega) (by omega)]; exact v)), l, q, rfl, by omega, w, v, hl2⟩
      · refine Or.inl ⟨(nI (l - ct_lv K g (7 - p)), nI q + (1 : Int32)), hU.trans ((xb_f (by rw [n_lt (by omega) (by omega)]; exact v)).trans ?_), l - ct_lv K g (7 - p), by rw [n_add1], ?_⟩
        · rw [show (1 : Int32) = nI 1 from rfl, n_mul, Nat.one_mul, pk_sub (by omega)]
        · rw [rk_c_succ, ct_bt.mpr w]
          simp only [if_true]
          rw [Nat.add_mul, Nat.one_mul]
          omega
    · refine Or.inl ⟨(nI l, nI q + (1 : Int32)), (xb_f c0).trans ((xb_t (ht1.mpr w)).trans ?_), l, by rw [n_add1], ?_⟩
      · rw [ht1.mpr w, n_add1]
        refine (xk_t (vp_in_nI (by omega) (by omega))).trans ?_
        rw [show (0 : Int32) = nI 0 from rfl, n_cl (by omega), lv, n_mul, Nat.zero_mul, pk_sub (Nat.zero_le _)]; rfl
      · rw [rk_c_succ, ct_bf.mpr w]
        simpa using hl2
  · obtain ⟨l, rfl, hl2⟩ := hz
    have h78 := rk_c_succ (K := K) (g := g) (p := p) (b := b) 7
    rw [hcn] at h78
    have hw : ∃ s, ct_ag K g p b s ∧ s p = 7 := by
      rcases Classical.em (∃ s, ct_ag K g p b s ∧ s p = 7) with w | w
      · exact w
      · rw [ct_bf.mpr w] at h78
        simp at h78
        rw [htot, h78, Nat.mul_comm] at hl
        omega
    rw [ct_bt.mpr hw] at h78
    simp only [if_true] at h78
    refine ⟨(nI l, nI 7), xb_t (Int32.le_refl _), l, 7, rfl, by omega, hw, ?_, hl2⟩
    rw [htot, h78, Nat.mul_add, Nat.mul_one, Nat.mul_comm] at hl
    omega
theorem c_withRank (hN : N ≤ 8) (hg : ∀ i, i < K → gp_ok N (g i)) (hE : eOK N K g e_n steps chains leaving) {r : Nat} (hr : r < ct_lv K g 8) : ∃ t, f_X1_withRank e_n steps chains leaving (nI r) = some (pv t) ∧ gp_in K g t ∧ rk_s K g t N = r := by
  let I : Nat → Int32 × Int32 × Int32 → Prop := fun p z => ∃ b left, z = (pv b, nI left, nI p) ∧ gp_in K g b ∧ left < ct_lv K g (8 - p) ∧ r = rk_s K g b p + left
  let P : Int32 → Prop := fun z => ∃ t, z = pv t ∧ gp_in K g t ∧ rk_s K g t N = r
  have hh := xL_for (body := f_X1_withRank_L1 e_n chains leaving steps) (P := P) I N (fun p z hp hz => Or.inl ?_) (fun z hz => ?_) N 0 (Nat.zero_add _) ((16434824 : Int32), nI r, (0 : Int32)) ⟨gp_id, r, by rw [pv_stay]; rfl, gp_in_id K g, hr, by show r = 0 + r; omega⟩
  · obtain ⟨o, h1, t, rfl, h2⟩ := hh
    exact ⟨t, (xn_s h1).trans rfl, h2⟩
  · obtain ⟨b, left, rfl, hb, hl, hr2⟩ := hz
    obtain ⟨x, hx1, hx2⟩ := c_choices hN hg hE (p := p) (by omega) hb
    obtain ⟨left', q, i1, i2, i3, i4, i5⟩ := c_inner hN hg hE hp hb hx2 hl
    obtain ⟨b', g1, g2, g3⟩ := c_goOn hN hg hE (p := p) (by omega) hb i3 i2
    refine ⟨(pv b', nI left', nI p + (1 : Int32)), ?_, b', left', by rw [n_add1], g2.1, by rw [show 8 - (p + 1) = 7 - p by omega]; exact i4, ?_⟩
    · exact (xb_f (by rw [hE.1, n_le (by omega) (by omega)]; omega)).trans ((xb_f (by rw [show (8 : Int32) = nI 8 from rfl, n_le (by omega) (by omega)]; omega)).trans ((xn_s hx1).trans ((xn_s i1).trans (xn_s g1))))
    · rw [rk_s_succ, rk_s_cong (t := b') (t' := b) g2.2, g3, rk_c_cong (b := b') (b' := b) g2.2]
      omega
  · obtain ⟨b, left, rfl, hb, hl, hr2⟩ := hz
    rw [ct_lv_1 hg (8 - N) (Nat.le_refl _)] at hl
    exact ⟨pv b, xb_t (by rw [hE.1]; exact Int32.le_refl _), b, rfl, hb, by omega⟩
end RC

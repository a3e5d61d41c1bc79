-- the class's table of steps
theorem gp_ok_8 {N : Nat} (hN : N ≤ 8) {s : Nat → Nat} (h : gp_ok N s) : gp_ok 8 s := by
  refine ⟨fun p hp => ?_, fun p q _ _ e => gp_ok_inj h e, fun p hp => h.2.2 p (by omega)⟩
  rcases Nat.lt_or_ge p N with w | w
  · have := h.1 p w; omega
  · rw [h.2.2 p w]; exact hp
theorem pv_eq {s t : Nat → Nat} (hs : gp_ok 8 s) (ht : gp_ok 8 t) (h : pv s = pv t) : s = t := funext fun i => by
  rcases Nat.lt_or_ge i 8 with w | w
  · exact pv_inj hs.1 ht.1 h i w
  · rw [hs.2.2 i w, ht.2.2 i w]
theorem bc_ok : ∀ a, a < 256 → f_J6_bitCount_0f7a4 (nI a) = some (nI (fb_ct (fun q => a.testBit q) 8)) := by decide +kernel
theorem bc_bits {x : Int32} {P : Nat → Prop} (h : bitsOf x P) : f_J6_bitCount_0f7a4 x = some (nI (fb_ct (fun q => ct_b (P q)) 8)) := by
  obtain ⟨a, rfl, h1, h2⟩ := h
  rw [bc_ok a h1]
  congr 2
  refine fb_ct_cong (fun k _ => ?_)
  rcases Classical.em (P k) with w | w
  · rw [ct_bt.mpr w]; exact (h2 k).mpr w
  · rw [ct_bf.mpr w]
    cases e : a.testBit k with
    | true => exact absurd ((h2 k).mp e) w
    | false => rfl
def eT (N K : Nat) (g : Nat → Nat → Nat) (tb : Nat → Nat → Option (Nat → Nat)) (fp fq : Nat → Nat) (M : Nat) (steps undoing chains found foundAt : Nat → Int32) : Prop :=
  gp_tb N K g tb ∧ (∀ p, p < 8 → bitsOf (chains p) (fun q => ∃ t, tb p q = some t)) ∧ (∀ p q t, tb p q = some t → steps (8 * p + q) = pv t ∧ (q ≠ p → undoing (8 * p + q) = pv (gp_inv t))) ∧
  (∀ i, i < M → fp i ≠ fq i ∧ ∃ t, tb (fp i) (fq i) = some t ∧ found i = pv t ∧ foundAt i = nI (fp i)) ∧ (∀ i j, i < j → j < M → ¬ (fp i = fp j ∧ fq i = fq j)) ∧ ∀ p q t, tb p q = some t → p ≠ q → ∃ i, i < M ∧ fp i = p ∧ fq i = q
theorem tri_lt : ∀ p, p < 8 → ∀ q, q < 8 → p < q → q * (q - 1) / 2 + p < 28 := by decide +kernel
theorem tri_inj (q : Nat) (hq : q < 8) (q' : Nat) (hq' : q' < 8) (p : Nat) (hp : p < q) (p' : Nat) (hp' : p' < q') (e : q * (q - 1) / 2 + p = q' * (q' - 1) / 2 + p') : p = p' ∧ q = q' := by
  have h1 : q = 0 ∨ q = 1 ∨ q = 2 ∨ q = 3 ∨ q = 4 ∨ q = 5 ∨ q = 6 ∨ q = 7 := by omega
  have h2 : q' = 0 ∨ q' = 1 ∨ q' = 2 ∨ q' = 3 ∨ q' = 4 ∨ q' = 5 ∨ q' = 6 ∨ q' = 7 := by omega
  rcases h1 with rfl | rfl | rfl | rfl | rfl | rfl | rfl | rfl <;> rcases h2 with rfl | rfl | rfl | rfl | rfl | rfl | rfl | rfl <;> omega
section ET
variable {N K : Nat} {g : Nat → Nat → Nat}
theorem at_ok (hN : N ≤ 8) (hg : ∀ i, i < K → gp_ok N (g i)) {p : Nat} {t : Nat → Nat} (h : gp_at K g p t) : gp_ok 8 t := gp_ok_8 hN (gp_in_ok hg h.1)
theorem tb_lt (hN : N ≤ 8) (hg : ∀ i, i < K → gp_ok N (g i)) {tb : Nat → Nat → Option (Nat → Nat)} (h : gp_tb N K g tb) {p q : Nat} {t : Nat → Nat} (e : tb p q = some t) : p < 8 ∧ q < 8 ∧ p ≤ q := by
  obtain ⟨h1, h2, h3⟩ := h.2 p q t e
  have := (at_ok hN hg h2).1 p h1
  have := gp_at_ge hg h2
  omega
theorem e_room (hN : N ≤ 8) (hg : ∀ i, i < K → gp_ok N (g i)) {tb : Nat → Nat → Option (Nat → Nat)} {fp fq : Nat → Nat} {M : Nat} {steps undoing chains found foundAt : Nat → Int32} (h : eT N K g tb fp fq M steps undoing chains found foundAt) : M ≤ 28 ∧ ∀ p q, p < q → q < 8 → tb p q = none → M < 28 := by
  obtain ⟨h1, -, -, h4, h5, -⟩ := h
  have hb : ∀ i, i < M → fp i < fq i ∧ fq i < 8 := fun i hi => by
    obtain ⟨a, t, b, -⟩ := h4 i hi
    have := tb_lt hN hg h1 b
    omega
  have hinj : ∀ i j, i < j → j < M → fq i * (fq i - 1) / 2 + fp i ≠ fq j * (fq j - 1) / 2 + fp j := fun i j hij hj e => by
    have a := hb i (by omega)
    have b := hb j hj
    exact h5 i j hij hj (tri_inj _ a.2 _ b.2 _ a.1 _ b.1 e)
  constructor
  · exact fb_holes 28 M (fun i => fq i * (fq i - 1) / 2 + fp i) (fun i hi => by have := hb i hi; exact tri_lt _ (by omega) _ this.2 this.1) hinj
  · intro p q hpq hq hn
    have := fb_holes 28 (M + 1) (fun i => if i < M then fq i * (fq i - 1) / 2 + fp i else q * (q - 1) / 2 + p) (fun i hi => ?_) (fun i j hij hj => ?_)
    · omega
    · show (if i < M then _ else _) < 28
      split
      · have := hb i (by omega); exact tri_lt _ (by omega) _ this.2 this.1
      · exact tri_lt _ (by omega) _ hq hpq
    · show (if i < M then _ else _) ≠ (if j < M then _ else _)
      rw [if_pos (by omega)]
      by_cases w : j < M
      · rw [if_pos w]; exact hinj i j hij w
      · rw [if_neg w]
        intro e
        have a := hb i (by omega)
        obtain ⟨e1, e2⟩ := tri_inj _ a.2 _ hq _ a.1 _ hpq e
        obtain ⟨-, t, b, -⟩ := h4 i (by omega)
        rw [e1, e2, hn] at b
        cases b
def tb_up (tb : Nat → Nat → Option (Nat → Nat)) (p q : Nat) (t : Nat → Nat) : Nat → Nat → Option (Nat → Nat) := fun a b => if a = p ∧ b = q then some t else tb a b
theorem tb_up_sub {tb : Nat → Nat → Option (Nat → Nat)} {p q : Nat} {t : Nat → Nat} (hn : tb p q = none) (a b : Nat) (u : Nat → Nat) (h : tb a b = some u) : tb_up tb p q t a b = some u := by
  unfold tb_up
  by_cases w : a = p ∧ b = q
  · rw [w.1, w.2, hn] at h; cases h
  · rw [if_neg w]; exact h
theorem e_add (hN : N ≤ 8) (hg : ∀ i, i < K → gp_ok N (g i)) {tb : Nat → Nat → Option (Nat → Nat)} {fp fq : Nat → Nat} {M : Nat} {steps undoing chains found foundAt : Nat → Int32} (h : eT N K g tb fp fq M steps undoing chains found foundAt) {p : Nat} (hp : p < 8) {u : Nat → Nat} (hu : gp_at K g p u) (hn : tb p (u p) = none) :
    ∃ steps' undoing' chains' found' foundAt', f_X1_addStep steps undoing chains found foundAt (nI M) (nI p) (nI (u p)) (pv u) = some (steps', undoing', chains', found', foundAt', nI (M + 1)) ∧ eT N K g (tb_up tb p (u p) u) (fun i => if i = M then p else fp i) (fun i => if i = M then u p else fq i) (M + 1) steps' undoing' chains' found' foundAt' := by
  have ok := at_ok hN hg hu
  have hq := ok.1 p hp
  have hge := gp_at_ge hg hu
  have hpq : p < u p := by
    rcases Nat.lt_or_ge p (u p) with w | w
    · exact w
    · have e : u p = p := by omega
      rw [e, h.1.1 p hp] at hn; cases hn
  have hM := (e_room hN hg h).2 p (u p) hpq hq hn
  obtain ⟨h1, h2, h3, h4, h5, h6⟩ := h
  have sub := tb_up_sub (t := u) hn
  have at_ : tb_up tb p (u p) u p (u p) = some u := if_pos ⟨rfl, rfl⟩
  have ne_ : ∀ a b t, tb_up tb p (u p) u a b = some t → ¬ (a = p ∧ b = u p) → tb a b = some t := fun a b t e w => by
    have e : (if a = p ∧ b = u p then some u else tb a b) = some t := e
    rw [if_neg w] at e; exact e
  refine ⟨upd steps (8 * p + u p) (pv u), upd undoing (8 * p + u p) (pv (gp_inv u)), upd chains p (chains p ||| ((1 : Int32) <<< (nI (u p) &&& 31))), upd found M (pv u), upd foundAt M (nI p), ?_, ⟨fun a ha => sub a a _ (h1.1 a ha), fun a b t e => ?_⟩, fun a ha => ?_, fun a b t e => ?_, fun i hi => ?_, fun i j hij hj => ?_, fun a b t e hab => ?_⟩
  · refine (xb_f (by rw [show (28 : Int32) = nI 28 from rfl, n_le (by omega) (by omega)]; omega)).trans ((xk_t (vp_in_nI hp (by omega))).trans ?_)
    rw [n_mul8]
    refine (xk_t (vp_in_nI (by omega) (by omega))).trans ((xn_s (mv_inv ok)).trans ((xk_t (vp_in_nI hM (by omega))).trans ?_))
    rw [n_cl (by omega), n_cl (by omega), n_cl (by omega), n_add1]
  · by_cases w : a = p ∧ b = u p
    · obtain ⟨rfl, rfl⟩ := w
      rw [at_] at e
      obtain rfl := Option.some.inj e
      exact ⟨hp, hu, rfl⟩
    · exact h1.2 a b t (ne_ a b t e w)
  · by_cases w : a = p
    · subst w
      rw [up_s]
      refine bitsOf_cong (bitsOf_or (h2 a ha) hq) (fun q => ⟨fun z => ?_, fun z => ?_⟩)
      · rcases z with ⟨t, z⟩ | rfl
        · exact ⟨t, sub _ _ _ z⟩
        · exact ⟨u, at_⟩
      · obtain ⟨t, z⟩ := z
        by_cases y : q = u a
        · exact Or.inr y
        · exact Or.inl ⟨t, ne_ a q t z (fun k => y k.2)⟩
    · rw [up_n w]
      exact bitsOf_cong (h2 a ha) (fun q => ⟨fun ⟨t, z⟩ => ⟨t, sub _ _ _ z⟩, fun ⟨t, z⟩ => ⟨t, ne_ a q t z (fun k => w k.1)⟩⟩)
  · by_cases w : a = p ∧ b = u p
    · obtain ⟨rfl, rfl⟩ := w
      rw [at_] at e
      obtain rfl := Option.some.inj e
      rw [up_s, up_s]
      exact ⟨rfl, fun _ => rfl⟩
    · have e' := ne_ a b t e w
      have := tb_lt hN hg h1 e'
      have hne : 8 * a + b ≠ 8 * p + u p := fun z => w ⟨by omega, by omega⟩
      rw [up_n hne, up_n hne]
      exact h3 a b t e'
  · by_cases w : i = M
    · subst w
      dsimp only
      simp only [if_true]
      rw [up_s, up_s]
      exact ⟨by omega, u, at_, rfl, rfl⟩
    · dsimp only
      simp only [if_neg w]
      rw [up_n w, up_n w]
      obtain ⟨a, t, b, c, d⟩ := h4 i (by omega)
      exact ⟨a, t, sub _ _ _ b, c, d⟩
  · show ¬ ((if i = M then p else fp i) = (if j = M then p else fp j) ∧ (if i = M then u p else fq i) = (if j = M then u p else fq j))
    simp only [if_neg (show ¬ i = M by omega)]
    by_cases w : j = M
    · simp only [if_pos w]
      rintro ⟨a, b⟩
      obtain ⟨-, t, c, -⟩ := h4 i (by omega)
      rw [a, b, hn] at c; cases c
    · simp only [if_neg w]; exact h5 i j hij (by omega)
  · by_cases w : a = p ∧ b = u p
    · exact ⟨M, by omega, (if_pos rfl).trans w.1.symm, (if_pos rfl).trans w.2.symm⟩
    · obtain ⟨i, i1, i2, i3⟩ := h6 a b t (ne_ a b t e w) hab
      exact ⟨i, by omega, (if_neg (show ¬ i = M by omega)).trans i2, (if_neg (show ¬ i = M by omega)).trans i3⟩
/-- taking an element: the table grows at most, and the element is made of its steps -/
theorem e_take (hN : N ≤ 8) (hg : ∀ i, i < K → gp_ok N (g i)) {tb : Nat → Nat → Option (Nat → Nat)} {fp fq : Nat → Nat} {M : Nat} {steps undoing chains found foundAt : Nat → Int32} (h : eT N K g tb fp fq M steps undoing chains found foundAt) {s : Nat → Nat} (hs : gp_in K g s) :
    ∃ tb' fp' fq' M' steps' undoing' chains' found' foundAt', f_X1_take steps undoing chains found foundAt (nI M) (pv s) = some (steps', undoing', chains', found', foundAt', nI M') ∧ eT N K g tb' fp' fq' M' steps' undoing' chains' found' foundAt' ∧ (∀ a b t, tb a b = some t → tb' a b = some t) ∧ M ≤ M' ∧ (∀ i, i < M → fp' i = fp i ∧ fq' i = fq i) ∧ gp_S tb' 8 s := by
  let G : (Nat → Int32) × (Nat → Int32) × (Nat → Int32) × (Nat → Int32) × (Nat → Int32) × Int32 → Prop := fun z => ∃ tb' fp' fq' M' steps' undoing' chains' found' foundAt', z = (steps', undoing', chains', found', foundAt', nI M') ∧ eT N K g tb' fp' fq' M' steps' undoing' chains' found' foundAt' ∧ (∀ a b t, tb a b = some t → tb' a b = some t) ∧ M ≤ M' ∧ (∀ i, i < M → fp' i = fp i ∧ fq' i = fq i) ∧ gp_S tb' 8 s
  let I : Nat → (Nat → Int32) × (Nat → Int32) × (Nat → Int32) × (Nat → Int32) × (Nat → Int32) × Int32 × Int32 × Int32 → Prop := fun p z => ∃ u, z = (steps, undoing, chains, found, foundAt, nI M, pv u, nI p) ∧ gp_at K g p u ∧ ∀ tb', gp_tb N K g tb' → (∀ a b t, tb a b = some t → tb' a b = some t) → gp_S tb' (8 - p) u → gp_S tb' 8 s
  let P : ((Nat → Int32) × (Nat → Int32) × (Nat → Int32) × (Nat → Int32) × (Nat → Int32) × Int32) ⊕ ((Nat → Int32) × (Nat → Int32) × (Nat → Int32) × (Nat → Int32) × (Nat → Int32) × Int32) → Prop := fun o => match o with
    | .inl z => G z
    | .inr z => G z
  have hh := xL_for (body := f_X1_take_L1) (P := P) I 8 (fun p z hp hz => ?_) (fun z hz => ?_) 8 0 (Nat.zero_add _) (steps, undoing, chains, found, foundAt, nI M, pv s, (0 : Int32)) ⟨s, rfl, gp_at_0 hs, fun tb' _ _ w => w⟩
  · obtain ⟨o, h1, h2⟩ := hh
    have hU : f_X1_take steps undoing chains found foundAt (nI M) (pv s) = (match o with | .inl z => some z | .inr z => some z) := by
      refine (xn_s h1).trans ?_
      cases o with
      | inl z => rfl
      | inr z => rfl
    cases o with
    | inl z =>
      obtain ⟨tb', fp', fq', M', a1, a2, a3, a4, a5, rfl, h3⟩ := h2
      exact ⟨tb', fp', fq', M', a1, a2, a3, a4, a5, hU, h3⟩
    | inr z =>
      obtain ⟨tb', fp', fq', M', a1, a2, a3, a4, a5, rfl, h3⟩ := h2
      exact ⟨tb', fp', fq', M', a1, a2, a3, a4, a5, hU, h3⟩
  · obtain ⟨u, rfl, hu, hS⟩ := hz
    have ok := at_ok hN hg hu
    have hq := ok.1 p hp
    have c0 : ¬ (8 : Int32) ≤ nI p := by rw [show (8 : Int32) = nI 8 from rfl, n_le (by omega) (by omega)]; omega
    by_cases hid : u = gp_id
    · refine Or.inr ⟨.inl (steps, undoing, chains, found, foundAt, nI M), (xb_f c0).trans (xb_t (by rw [hid, pv_stay])), tb, fp, fq, M, steps, undoing, chains, found, foundAt, rfl, h, fun _ _ _ w => w, Nat.le_refl _, fun _ _ => ⟨rfl, rfl⟩, hS tb h.1 (fun _ _ _ w => w) (by rw [hid]; exact gp_S_id h.1 _)⟩
    · have c1 : ¬ pv u = (16434824 : Int32) := fun w => hid (pv_eq ok (gp_ok_id 8) (by rw [pv_stay]; exact w))
      obtain ⟨ca, ce, cl, cb⟩ := h.2.1 p hp
      have hbit : ((chains p >>> (nI (u p) &&& 31)) &&& (1 : Int32)) = 0 ↔ ca.testBit (u p) = false := by rw [ce]; exact n_bit0 (by omega) (by omega)
      have hU : ∀ z, xb (((chains p >>> (nI (u p) &&& 31)) &&& (1 : Int32)) = 0) (xn (f_X1_addStep steps undoing chains found foundAt (nI M) (nI p) (nI (u p)) (pv u)) (fun (z : (Nat → Int32) × (Nat → Int32) × (Nat → Int32) × (Nat → Int32) × (Nat → Int32) × Int32) => match z with | (e_steps_17, e_undoing_18, e_chains_19, e_found_20, e_foundAt_21, e_foundCount_22) => some (.inr (.inr (e_steps_17, e_undoing_18, e_chains_19, e_found_20, e_foundAt_21, e_foundCount_22))))) (xb (nI (u p) = nI p) (some (.inl (steps, undoing, chains, found, foundAt, nI M, pv u, (nI p + (1 : Int32))))) (xk (vp_in (((8 : Int32) * nI p) + nI (u p)) 64) (xn (f_X2_then (pv u) (undoing (((8 : Int32) * nI p) + nI (u p)).toNatClampNeg)) (fun (r_16 : Int32) => some (.inl (steps, undoing, chains, found, foundAt, nI M, r_16, (nI p + (1 : Int32)))))))) = z → f_X1_take_L1 (steps, undoing, chains, found, foundAt, nI M, pv u, nI p) = z := fun z hz => by
        refine (xb_f c0).trans ((xb_f c1).trans ((xn_s (mv_at ok.1 hp)).trans ((xk_t (vp_in_nI hp (by omega))).trans ?_)))
        rw [n_cl (by omega)]
        exact hz
      cases htb : tb p (u p) with
      | none =>
        have c2 : ca.testBit (u p) = false := by
          cases e : ca.testBit (u p) with
          | false => rfl
          | true => obtain ⟨t, ht⟩ := (cb (u p)).mp e; rw [htb] at ht; cases ht
        obtain ⟨a1, a2, a3, a4, a5, g1, g2⟩ := e_add hN hg h hp hu htb
        refine Or.inr ⟨.inr (a1, a2, a3, a4, a5, nI (M + 1)), hU _ ((xb_t (hbit.mpr c2)).trans (xn_s g1)), _, _, _, M + 1, a1, a2, a3, a4, a5, rfl, g2, tb_up_sub htb, by omega, fun i hi => ⟨if_neg (by omega), if_neg (by omega)⟩, hS _ g2.1 (tb_up_sub htb) ?_⟩
        rw [show 8 - p = (7 - p) + 1 by omega]
        exact ⟨u p, u, gp_id, by rw [show 7 - (7 - p) = p by omega]; exact if_pos ⟨rfl, rfl⟩, gp_S_id g2.1 _, rfl⟩
      | some t =>
        have c2 : ¬ ca.testBit (u p) = false := by rw [(cb (u p)).mpr ⟨t, htb⟩]; decide
        by_cases hpp : u p = p
        · refine Or.inl ⟨_, hU _ ((xb_f (fun w => c2 (hbit.mp w))).trans (xb_t (by rw [hpp]))), u, by rw [n_add1], ⟨hu.1, fun i hi => ?_⟩, fun tb' h1 h2 h3 => hS tb' h1 h2 ?_⟩
          · rcases Nat.lt_or_ge i p with w | w
            · exact hu.2 i w
            · rw [show i = p by omega]; exact hpp
          · rw [show 8 - p = (7 - p) + 1 by omega]
            exact ⟨p, gp_id, u, by rw [show 7 - (7 - p) = p by omega]; exact h1.1 p hp, by rw [show 7 - p = 8 - (p + 1) by omega]; exact h3, rfl⟩
        · obtain ⟨-, ht1, ht2⟩ := h.1.2 p (u p) t htb
          have okt := at_ok hN hg ht1
          have e1 := (h.2.2.1 p (u p) t htb).2 hpp
          have oki := gp_ok_inv okt
          refine Or.inl ⟨(steps, undoing, chains, found, foundAt, nI M, pv (gp_th u (gp_inv t)), nI p + (1 : Int32)), hU _ ((xb_f (fun w => c2 (hbit.mp w))).trans ((xb_f (by rw [n_ieq (by omega) (by omega)]; exact hpp)).trans ?_)), gp_th u (gp_inv t), by rw [n_add1], ⟨gp_in_th hu.1 (gp_in_inv ht1.1), fun i hi => ?_⟩, fun tb' h1 h2 h3 => hS tb' h1 h2 ?_⟩
          · rw [n_mul8]
            refine (xk_t (vp_in_nI (by omega) (by omega))).trans ?_
            rw [n_cl (by omega), e1]
            exact xn_s (mv_then ok.1 oki.1)
          · show gp_inv t (u i) = i
            rcases Nat.lt_or_ge i p with w | w
            · rw [hu.2 i w]; exact (gp_inv_eq (Nat.le_refl _) okt).mpr (ht1.2 i w)
            · rw [show i = p by omega]; exact (gp_inv_eq (Nat.le_refl _) okt).mpr ht2
          · rw [show 8 - p = (7 - p) + 1 by omega]
            refine ⟨u p, t, gp_th u (gp_inv t), by rw [show 7 - (7 - p) = p by omega]; exact h2 _ _ _ htb, by rw [show 7 - p = 8 - (p + 1) by omega]; exact h3, ?_⟩
            rw [gp_as, gp_inv_th (Nat.le_refl _) okt]; rfl
  · obtain ⟨u, rfl, hu, hS⟩ := hz
    have hid : u = gp_id := gp_at_all (N := N) hg (p := 8) hN hu
    exact ⟨.inl (steps, undoing, chains, found, foundAt, nI M), xb_t (Int32.le_refl _), tb, fp, fq, M, steps, undoing, chains, found, foundAt, rfl, h, fun _ _ _ w => w, Nat.le_refl _, fun _ _ => ⟨rfl, rfl⟩, hS tb h.1 (fun _ _ _ w => w) (by rw [hid]; exact gp_S_id h.1 _)⟩
end ET

section SP2
variable {N K : Nat} {g : Nat → Nat → Nat} {e_n : Int32} {steps chains leaving : Nat → Int32}
theorem spI_cong {a p : Nat} {X Y : Nat → Prop} {ra : Nat → Int32} {rl : List Nat} (h : spI N K g a p X ra rl) (e : ∀ x, X x ↔ Y x) : spI N K g a p Y ra rl := ⟨fun x => (h.1 x).trans (e x), h.2⟩
theorem ch_ge (hg : ∀ i, i < K → gp_ok N (g i)) {p q : Nat} (h : ct_ch K g p q) : p ≤ q := by
  obtain ⟨s, h1, h2⟩ := h
  rcases Nat.lt_or_ge q p with w | w
  · have := h1.2 q w
    have := gp_ok_inj (gp_in_ok hg h1.1) (h2.trans this.symm)
    omega
  · exact w
/-- one stage further -/
def spX (K : Nat) (g : Nat → Nat → Nat) (steps : Nat → Int32) (a p : Nat) (rl : List Nat) (q x : Nat) : Prop := orbp K g (p + 1) a x ∨ ∃ (q' : Nat) (t : Nat → Nat) (y : Nat), p < q' ∧ q' < q ∧ ct_ch K g p q' ∧ gp_at K g p t ∧ t p = q' ∧ steps (8 * p + q') = pv t ∧ y ∈ rl ∧ im t y = x
theorem orbp_th (hN : N ≤ 8) (hg : ∀ i, i < K → gp_ok N (g i)) {a p y : Nat} {t : Nat → Nat} (h : orbp K g p a y) (ht : gp_at K g p t) : orbp K g p a (im t y) := by
  obtain ⟨s, h1, h2⟩ := h
  exact ⟨gp_th s t, gp_at_th h1 ht, by rw [im_th (at_ok hN hg h1) (at_ok hN hg ht), h2]⟩
theorem spX_sub (hN : N ≤ 8) (hg : ∀ i, i < K → gp_ok N (g i)) {a p q x : Nat} {rl : List Nat} (hrl : ∀ x, x ∈ rl ↔ orbp K g (p + 1) a x) (h : spX K g steps a p rl q x) : orbp K g p a x := by
  rcases h with h | ⟨q', t, y, -, -, -, h4, -, -, h7, rfl⟩
  · exact orbp_le (by omega) h
  · exact orbp_th hN hg (orbp_le (by omega) ((hrl y).mp h7)) h4
theorem spX_sup (hN : N ≤ 8) (hg : ∀ i, i < K → gp_ok N (g i)) (hE : eOK N K g e_n steps chains leaving) {a p q x : Nat} (hp : p < N) {rl : List Nat} (hrl : ∀ x, x ∈ rl ↔ orbp K g (p + 1) a x) (hq : ∀ q', ct_ch K g p q' → q' ≠ p → q' < q) (h : orbp K g p a x) : spX K g steps a p rl q x := by
  obtain ⟨s, h1, rfl⟩ := h
  have hch : ct_ch K g p (s p) := ⟨s, h1, rfl⟩
  by_cases e : s p = p
  · refine Or.inl ⟨s, ⟨h1.1, fun i hi => ?_⟩, rfl⟩
    rcases Nat.lt_or_ge i p with w | w
    · exact h1.2 i w
    · rw [show i = p by omega]; exact e
  · obtain ⟨t, t1, t2, t3⟩ := hE.2.2.1 p (s p) (by omega) hch
    have ot := at_ok hN hg t1
    have os := at_ok hN hg h1
    have hs' : gp_at K g (p + 1) (gp_th s (gp_inv t)) := by
      have hi := gp_at_th h1 (gp_at_inv hN hg t1)
      refine ⟨hi.1, fun i hi2 => ?_⟩
      rcases Nat.lt_or_ge i p with w | w
      · exact hi.2 i w
      · rw [show i = p by omega]
        exact (gp_inv_eq (Nat.le_refl 8) ot).mpr t2
    have oi : gp_ok 8 (gp_inv t) := gp_ok_inv ot
    have hge := ch_ge hg hch
    refine Or.inr ⟨s p, t, im (gp_th s (gp_inv t)) a, by omega, hq _ hch e, hch, t1, t2, t3, (hrl _).mpr ⟨_, hs', rfl⟩, ?_⟩
    rw [← im_th (gp_ok_th os oi) ot, gp_as, gp_inv_th (Nat.le_refl 8) ot, gp_th_id]
theorem bits_0 {x : Int32} {P : Nat → Prop} (h : bitsOf x P) : x = 0 ↔ ∀ q, ¬ P q := by
  obtain ⟨a, rfl, h1, h2⟩ := h
  rw [show (0 : Int32) = nI 0 from rfl, n_ieq (by omega) (by omega)]
  constructor
  · intro e q hq
    have := (h2 q).mpr hq
    rw [e, Nat.zero_testBit] at this; cases this
  · intro h
    refine Nat.eq_of_testBit_eq (fun i => ?_)
    rw [Nat.zero_testBit]
    cases e : a.testBit i with
    | false => rfl
    | true => exact absurd ((h2 i).mp e) (h i)
theorem sp_stage (hN : N ≤ 8) (hg : ∀ i, i < K → gp_ok N (g i)) (hE : eOK N K g e_n steps chains leaving) {a p : Nat} (hp : p < N) {reached reachedAt : Nat → Int32} {rl : List Nat} (h : kR reached reachedAt (nI rl.length) rl) (hI : spI N K g a (p + 1) (orbp K g (p + 1) a) reachedAt rl) :
    ∃ rd ra rl', xL (f_X0_spread_L3 (nI N) (chains p) (nI p) steps (nI rl.length)) (reached, reachedAt, nI rl.length, nI p + (1 : Int32)) = some (rd, ra, nI rl'.length) ∧ kR rd ra (nI rl'.length) rl' ∧ spI N K g a p (orbp K g p a) ra rl' := by
  have hbits := hE.2.1 p (by omega)
  have hclr := bits_clr hbits (q := p) (by omega)
  let I : Nat → (Nat → Int32) × (Nat → Int32) × Int32 × Int32 → Prop := fun q z => p < q ∧ ∃ rd ra rl', z = (rd, ra, nI rl'.length, nI q) ∧ (∃ r, rl' = rl ++ r) ∧ kR rd ra (nI rl'.length) rl' ∧ spI N K g a p (spX K g steps a p rl q) ra rl'
  let P : (Nat → Int32) × (Nat → Int32) × Int32 → Prop := fun z => ∃ rd ra rl', z = (rd, ra, nI rl'.length) ∧ kR rd ra (nI rl'.length) rl' ∧ spI N K g a p (orbp K g p a) ra rl'
  have hh := xL_for (body := f_X0_spread_L3 (nI N) (chains p) (nI p) steps (nI rl.length)) (P := P) I N (fun q z hq hz => ?_) (fun z hz => ?_) (N - (p + 1)) (p + 1) (by omega) (reached, reachedAt, nI rl.length, nI p + (1 : Int32)) ⟨by omega, reached, reachedAt, rl, by rw [n_add1], ⟨[], by simp⟩, h, fun x => ?_, fun x hx => ?_⟩
  · obtain ⟨z, h1, rd, ra, rl', rfl, h2⟩ := hh
    exact ⟨rd, ra, rl', h1, h2⟩
  · obtain ⟨hpq, rd, ra, rl', rfl, hr, hk1, hi1⟩ := hz
    have hdone : (∀ q', ct_ch K g p q' → q' ≠ p → q' < q) → spI N K g a p (orbp K g p a) ra rl' := fun w => spI_cong hi1 (fun x => ⟨spX_sub hN hg hI.1, spX_sup hN hg hE hp hI.1 w⟩)
    have hnle : ¬ nI N ≤ nI q := by rw [n_le (by omega) (by omega)]; omega
    by_cases h0 : (chains p &&& (((1 : Int32) <<< (nI p &&& 31)) ^^^ (-1 : Int32))) = 0
    · exact Or.inr ⟨(rd, ra, nI rl'.length), (xb_f hnle).trans (xb_t h0), rd, ra, rl', rfl, hk1, hdone (fun q' w1 w2 => absurd ⟨w1, w2⟩ ((bits_0 hclr).mp h0 q'))⟩
    · left
      obtain ⟨b1, b2⟩ := bits_test hclr (q := q) (by omega)
      by_cases hc : ct_ch K g p q
      · have hb1 : ((((chains p &&& (((1 : Int32) <<< (nI p &&& 31)) ^^^ (-1 : Int32))) >>> (nI q &&& 31)) &&& (1 : Int32))) ≠ 0 := fun w => (b1.mp w) ⟨hc, by omega⟩
        obtain ⟨t, t1, t2, t3⟩ := hE.2.2.1 p q (by omega) hc
        have ot := at_ok hN hg t1
        obtain ⟨rd2, ra2, rl2, e2, hr2, hk2, hi2⟩ := sp_by (K := K) (g := g) hN hp ot (before := rl) hr hk1 hi1 (fun x hx p' hp1 hp2 w => hx (Or.inl (orbp_le (by omega) w))) (fun y hy => orbp_th hN hg (orbp_le (by omega) ((hI.1 y).mp hy)) t1)
        refine ⟨(rd2, ra2, nI rl2.length, nI q + (1 : Int32)), (xb_f hnle).trans ((xb_f h0).trans ((xb_f hb1).trans ((xn_s (c_step hE (by omega) (by omega))).trans ?_))), by omega, rd2, ra2, rl2, by rw [n_add1], hr2, hk2, spI_cong hi2 (fun x => ⟨?_, ?_⟩)⟩
        · rw [t3]
          exact (xn_s e2).trans rfl
        · rintro (w | ⟨y, y1, y2⟩)
          · rcases w with w | ⟨q', t', y, w1, w2, w3, w4⟩
            · exact Or.inl w
            · exact Or.inr ⟨q', t', y, w1, by omega, w3, w4⟩
          · exact Or.inr ⟨q, t, y, hpq, by omega, hc, t1, t2, t3, y1, y2⟩
        · rintro (w | ⟨q', t', y, w1, w2, w3, w4, w5, w6, w7, w8⟩)
          · exact Or.inl (Or.inl w)
          · by_cases eq : q' = q
            · subst eq
              right
              have : t' = t := pv_eq (at_ok hN hg w4) ot (w6.symm.trans t3)
              subst this
              exact ⟨y, w7, w8⟩
            · exact Or.inl (Or.inr ⟨q', t', y, w1, by omega, w3, w4, w5, w6, w7, w8⟩)
      · refine ⟨(rd, ra, nI rl'.length, nI q + (1 : Int32)), (xb_f hnle).trans ((xb_f h0).trans (xb_t (b1.mpr (fun w => hc w.1)))), by omega, rd, ra, rl', by rw [n_add1], hr, hk1, spI_cong hi1 (fun x => ⟨?_, ?_⟩)⟩
        · rintro (w | ⟨q', t', y, w1, w2, w3, w4⟩)
          · exact Or.inl w
          · exact Or.inr ⟨q', t', y, w1, by omega, w3, w4⟩
        · rintro (w | ⟨q', t', y, w1, w2, w3, w4⟩)
          · exact Or.inl w
          · refine Or.inr ⟨q', t', y, w1, ?_, w3, w4⟩
            rcases Nat.lt_or_ge q' q with z | z
            · exact z
            · rw [show q' = q by omega] at w3; exact absurd w3 hc
  · obtain ⟨hpq, rd, ra, rl', rfl, hr, hk1, hi1⟩ := hz
    exact ⟨(rd, ra, nI rl'.length), xb_t (Int32.le_refl _), rd, ra, rl', rfl, hk1, spI_cong hi1 (fun x => ⟨spX_sub hN hg hI.1, spX_sup hN hg hE hp hI.1 (fun q' w _ => ct_ch_lt hg hp w)⟩)⟩
  · rw [hI.1 x]
    refine ⟨Or.inl, fun w => w.elim id (fun ⟨q', t, y, w1, w2, _⟩ => absurd w2 (by omega))⟩
  · obtain ⟨v, v1, v2, v3, v4⟩ := hI.2 x hx
    refine ⟨v, v1, by omega, v3, fun p' hp1 hp2 => ?_⟩
    rcases Nat.lt_or_ge p p' with w | w
    · exact v4 p' (by omega) hp2
    · rw [show p' = p by omega]
      exact ⟨fun _ => orbp_le (by omega) ((hI.1 x).mp hx), fun _ => by omega⟩
/-- what is reached from a -/
def kS (N K : Nat) (g : Nat → Nat → Nat) (a : Nat) (reached reachedAt : Nat → Int32) (cnt : Int32) (rl : List Nat) : Prop := kR reached reachedAt cnt rl ∧ spI N K g a 0 (orb K g a) reachedAt rl
theorem sp_spread (hN : N ≤ 8) (hg : ∀ i, i < K → gp_ok N (g i)) (hE : eOK N K g e_n steps chains leaving) {a : Nat} (ha : a < 256) {reached reachedAt : Nat → Int32} {cnt : Int32} {rl : List Nat} (h : kR reached reachedAt cnt rl) :
    ∃ rd ra cnt' rl', f_X0_spread (nI N) reached reachedAt cnt steps chains (nI a) = some (rd, ra, cnt') ∧ kS N K g a rd ra cnt' rl' := by
  obtain ⟨ra0, h1, h2⟩ := k_clear h
  have hk0 : kR reached ra0 (nI ([] : List Nat).length) [] := ⟨List.nodup_nil, fun x hx => by simp at hx, rowL_nil _, rfl, fun x hx _ => h2 x hx⟩
  rcases k_reach hk0 (fun x hx => by simp at hx) (x := a) (p := N) ha (by omega) with ⟨w, -⟩ | ⟨-, rd1, e1, hk1, -⟩
  · simp at w
  · have hup : ∀ {s : Nat → Nat}, gp_at K g N s → s = gp_id := fun hs => gp_at_all hg (Nat.le_refl _) hs
    have hi1 : spI N K g a N (orbp K g N a) (upd ra0 a (nI N)) ([] ++ [a]) := by
      refine ⟨fun x => ?_, fun x hx => ?_⟩
      · rw [List.nil_append, List.mem_singleton]
        constructor
        · rintro rfl
          exact ⟨gp_id, gp_at_id K g N, im_id ha⟩
        · rintro ⟨s, s1, s2⟩
          rw [hup s1, im_id ha] at s2
          exact s2.symm
      · rw [List.nil_append, List.mem_singleton] at hx
        subst hx
        refine ⟨N, up_s, Nat.le_refl _, Nat.le_refl _, fun p' w1 w2 => ⟨fun _ => ⟨gp_id, gp_at_id K g p', im_id ha⟩, fun _ => w2⟩⟩
    let I : Nat → (Nat → Int32) × (Nat → Int32) × Int32 × Int32 → Prop := fun p z => ∃ rd ra rl', z = (rd, ra, nI rl'.length, n_left p) ∧ kR rd ra (nI rl'.length) rl' ∧ spI N K g a p (orbp K g p a) ra rl'
    let P : (Nat → Int32) × (Nat → Int32) × Int32 → Prop := fun z => ∃ rd ra rl', z = (rd, ra, nI rl'.length) ∧ kR rd ra (nI rl'.length) rl' ∧ spI N K g a 0 (orbp K g 0 a) ra rl'
    have hh := xL_dnI (body := f_X0_spread_L2 chains (nI N) steps) (P := P) I (fun z hz => ?_) N (fun p z hp hz => Or.inl ?_) (rd1, upd ra0 a (nI N), nI ([] ++ [a]).length, nI N - (1 : Int32)) ⟨rd1, _, [] ++ [a], by rw [n_left_sub], hk1, hi1⟩
    · obtain ⟨z, z1, rd, ra, rl', rfl, z2, z3⟩ := hh
      refine ⟨rd, ra, nI rl'.length, rl', ?_, z2, spI_cong z3 (fun x => orbp_0)⟩
      exact (xn_s h1).trans ((xn_s e1).trans ((xn_s z1).trans rfl))
    · obtain ⟨rd, ra, rl', rfl, z2, z3⟩ := hz
      exact ⟨(rd, ra, nI rl'.length), xb_t n_left_lt, rd, ra, rl', rfl, z2, z3⟩
    · obtain ⟨rd, ra, rl', rfl, z2, z3⟩ := hz
      obtain ⟨rd2, ra2, rl2, y1, y2, y3⟩ := sp_stage hN hg hE hp z2 z3
      refine ⟨(rd2, ra2, nI rl2.length, nI p + (-1 : Int32)), ?_, rd2, ra2, rl2, rfl, y2, y3⟩
      refine (xb_f (n_left_nlt (by omega))).trans ?_
      rw [n_left_s]
      exact (xn_s (c_chain hE (by omega))).trans ((xn_s y1).trans rfl)
end SP2

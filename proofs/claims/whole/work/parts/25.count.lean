-- counting elements by what they do to the first points
noncomputable def ct_b (P : Prop) : Bool := @decide P (Classical.propDecidable P)
theorem ct_bt {P : Prop} : ct_b P = true ↔ P := by unfold ct_b; exact @decide_eq_true_iff P (Classical.propDecidable P)
theorem ct_bf {P : Prop} : ct_b P = false ↔ ¬ P := by
  rcases Classical.em P with h | h
  · have : ct_b P = true := ct_bt.mpr h
    rw [this]; simp [h]
  · have : ct_b P ≠ true := fun q => h (ct_bt.mp q)
    exact ⟨fun _ => h, fun _ => by simpa using this⟩
/-- how many moves of n points, by their places, with a property -/
noncomputable def ct_n (n : Nat) (P : (Nat → Nat) → Prop) : Nat := fb_ct (fun j => ct_b (P (pm_mv n j))) (le_fac n)
theorem ct_n_cong {n : Nat} {P Q : (Nat → Nat) → Prop} (h : ∀ s, gp_ok n s → (P s ↔ Q s)) : ct_n n P = ct_n n Q := by
  refine fb_ct_cong (fun k _ => ?_)
  show ct_b _ = ct_b _
  rcases Classical.em (P (pm_mv n k)) with q | q
  · rw [ct_bt.mpr q, ct_bt.mpr ((h _ (pm_mv_ok n k)).mp q)]
  · rw [ct_bf.mpr q, ct_bf.mpr (fun w => q ((h _ (pm_mv_ok n k)).mpr w))]
theorem ct_n_zero {n : Nat} {P : (Nat → Nat) → Prop} (h : ∀ s, gp_ok n s → ¬ P s) : ct_n n P = 0 := fb_ct_zero.mpr (fun k _ => ct_bf.mpr (h _ (pm_mv_ok n k)))
theorem ct_n_one {n : Nat} {s : Nat → Nat} (hs : gp_ok n s) : ct_n n (fun t => t = s) = 1 := by
  have h1 : ct_n n (fun t => t = s) = fb_ct (fun k => if k = pm_pl n s then true else (fun _ => false) k) (le_fac n) := by
    refine fb_ct_cong (fun k hk => ?_)
    by_cases e : k = pm_pl n s
    · rw [if_pos e]; exact ct_bt.mpr (by rw [e]; exact pm_mv_pl hs)
    · rw [if_neg e]; exact ct_bf.mpr (fun q => e (by rw [← q]; exact (pm_pl_mv hk).symm))
  have h2 := fb_ct_upd (fun _ => false) true (pm_pl_lt hs)
  have h3 : fb_ct (fun _ => false) (le_fac n) = 0 := fb_ct_zero.mpr (fun _ _ => rfl)
  rw [h3] at h2
  rw [h1]
  simpa using h2
theorem ct_n_or {n : Nat} {P Q : (Nat → Nat) → Prop} (h : ∀ s, ¬ (P s ∧ Q s)) : ct_n n (fun s => P s ∨ Q s) = ct_n n P + ct_n n Q := by
  have h1 : ct_n n (fun s => P s ∨ Q s) = fb_ct (fun k => ct_b (P (pm_mv n k)) || ct_b (Q (pm_mv n k))) (le_fac n) := by
    refine fb_ct_cong (fun k _ => ?_)
    rcases Classical.em (P (pm_mv n k)) with a | a
    · rw [ct_bt.mpr a]; exact ct_bt.mpr (Or.inl a)
    · rcases Classical.em (Q (pm_mv n k)) with b | b
      · rw [ct_bt.mpr b]; simp; exact ct_bt.mpr (Or.inr b)
      · rw [ct_bf.mpr a, ct_bf.mpr b]; exact ct_bf.mpr (fun w => w.elim a b)
  rw [h1]
  exact fb_ct_or (fun k _ w => h _ ⟨ct_bt.mp w.1, ct_bt.mp w.2⟩)
theorem ct_n_pos {n : Nat} {P : (Nat → Nat) → Prop} {s : Nat → Nat} (hs : gp_ok n s) (h : P s) : 0 < ct_n n P := fb_ct_pos.mpr ⟨pm_pl n s, pm_pl_lt hs, ct_bt.mpr (by rw [pm_mv_pl hs]; exact h)⟩
/-- split by a value below m -/
theorem ct_n_sum {n : Nat} {P : (Nat → Nat) → Prop} (f : (Nat → Nat) → Nat) : ∀ m, ct_n n (fun s => P s ∧ f s < m) = fb_sm (fun q => ct_n n (fun s => P s ∧ f s = q)) m
  | 0 => ct_n_zero (fun s _ w => absurd w.2 (Nat.not_lt_zero _))
  | m + 1 => by
    rw [fb_sm_succ, ← ct_n_sum f m, ← ct_n_or (fun s w => by have h1 := w.1.2; have h2 := w.2.2; omega)]
    refine ct_n_cong (fun s _ => ⟨fun w => ?_, fun w => ?_⟩)
    · rcases Nat.lt_or_ge (f s) m with q | q
      · exact Or.inl ⟨w.1, q⟩
      · exact Or.inr ⟨w.1, by have := w.2; omega⟩
    · rcases w with w | w
      · exact ⟨w.1, by have := w.2; omega⟩
      · exact ⟨w.1, by have := w.2; omega⟩
-- a sum of c for each q below m with a property is c times their number
theorem ct_sm_if (b : Nat → Bool) (c : Nat) : ∀ m, fb_sm (fun q => if b q then c else 0) m = fb_ct b m * c
  | 0 => by rw [show fb_ct b 0 = 0 from rfl, Nat.zero_mul]; rfl
  | m + 1 => by
    rw [fb_sm_succ, ct_sm_if b c m, fb_ct_succ, Nat.add_mul]
    by_cases h : b m = true
    · rw [h]; simp
    · have : b m = false := by simpa using h
      rw [this]; simp
section CT
variable {N K : Nat} {g : Nat → Nat → Nat}
/-- the elements that move all points less than p as b does -/
def ct_ag (K : Nat) (g : Nat → Nat → Nat) (p : Nat) (b s : Nat → Nat) : Prop := gp_in K g s ∧ ∀ i, i < p → s i = b i
/-- they are those that leave all less than p, then b -/
theorem ct_ag_iff (hN : N ≤ 8) (hg : ∀ i, i < K → gp_ok N (g i)) {p : Nat} {b s : Nat → Nat} (hb : gp_in K g b) : ct_ag K g p b s ↔ ∃ t, gp_at K g p t ∧ s = gp_th t b := by
  have ob := gp_in_ok hg hb
  constructor
  · rintro ⟨h1, h2⟩
    refine ⟨gp_th s (gp_inv b), ⟨gp_in_th h1 (gp_in_inv hb), fun i hi => ?_⟩, ?_⟩
    · show gp_inv b (s i) = i
      rw [h2 i hi]; exact gp_inv_l hN ob i
    · rw [gp_as, gp_inv_th hN ob]; rfl
  · rintro ⟨t, h1, rfl⟩
    exact ⟨gp_in_th h1.1 hb, fun i hi => by show b (t i) = b i; rw [h1.2 i hi]⟩
/-- q is a choice for p: such an element moves p to q -/
def ct_ch (K : Nat) (g : Nat → Nat → Nat) (p q : Nat) : Prop := ∃ s, gp_at K g p s ∧ s p = q
theorem ct_choice (hN : N ≤ 8) (hg : ∀ i, i < K → gp_ok N (g i)) {p q : Nat} {b : Nat → Nat} (hb : gp_in K g b) : (∃ s, ct_ag K g p b s ∧ s p = q) ↔ ct_ch K g p (gp_inv b q) := by
  have ob := gp_in_ok hg hb
  constructor
  · rintro ⟨s, h1, h2⟩
    obtain ⟨t, h3, rfl⟩ := (ct_ag_iff hN hg hb).mp h1
    refine ⟨t, h3, ?_⟩
    have h2 : b (t p) = q := h2
    exact ((gp_inv_eq hN ob).mpr h2).symm
  · rintro ⟨t, h3, h4⟩
    refine ⟨gp_th t b, (ct_ag_iff hN hg hb).mpr ⟨t, h3, rfl⟩, ?_⟩
    show b (t p) = q
    rw [h4]; exact gp_inv_r hN ob q
/-- how many points are in the chain of p -/
noncomputable def ct_cn (K : Nat) (g : Nat → Nat → Nat) (p : Nat) : Nat := fb_ct (fun q => ct_b (ct_ch K g p q)) 8
noncomputable def ct_lv (K : Nat) (g : Nat → Nat → Nat) : Nat → Nat
  | 0 => 1
  | k + 1 => ct_lv K g k * ct_cn K g (7 - k)
theorem ct_ch_lt (hg : ∀ i, i < K → gp_ok N (g i)) {p q : Nat} (hp : p < N) (h : ct_ch K g p q) : q < N := by
  obtain ⟨s, h1, h2⟩ := h
  rw [← h2]; exact (gp_in_ok hg h1.1).1 p hp
theorem ct_cn_N (hN : N ≤ 8) (hg : ∀ i, i < K → gp_ok N (g i)) {p : Nat} (hp : p < N) : ct_cn K g p = fb_ct (fun q => ct_b (ct_ch K g p q)) N := by
  unfold ct_cn
  rw [show 8 = N + (8 - N) by omega, fb_ct_split]
  have h : fb_ct (fun k => ct_b (ct_ch K g p (N + k))) (8 - N) = 0 := fb_ct_zero.mpr (fun k _ => ct_bf.mpr (fun w => by have := ct_ch_lt hg hp w; omega))
  omega
theorem ct_cn_out (hg : ∀ i, i < K → gp_ok N (g i)) {p : Nat} (hp : N ≤ p) (h8 : p < 8) : ct_cn K g p = 1 := by
  have h1 : ct_cn K g p = fb_ct (fun k => if k = p then true else (fun _ => false) k) 8 := by
    refine fb_ct_cong (fun k hk => ?_)
    by_cases e : k = p
    · rw [if_pos e, e]; exact ct_bt.mpr ⟨gp_id, gp_at_id K g p, rfl⟩
    · rw [if_neg e]; exact ct_bf.mpr (fun ⟨s, a, b⟩ => e (by rw [← b, gp_at_all hg hp a]; rfl))
  have h2 := fb_ct_upd (fun _ => false) true h8
  have h3 : fb_ct (fun _ => false) 8 = 0 := fb_ct_zero.mpr (fun _ _ => rfl)
  rw [h3] at h2
  rw [h1]
  simpa using h2
/-- by b's inverse the choices for p are as many as its chain has points -/
theorem ct_perm (n : Nat) {s : Nat → Nat} (h1 : ∀ p, p < n → s p < n) (h2 : ∀ p q, p < n → q < n → s p = s q → p = q) : ∀ (f : Nat → Bool), fb_ct (fun q => f (s q)) n = fb_ct f n := by
  intro f
  -- count f below m by m, each new point hit once
  have key : ∀ m, m ≤ n → fb_ct (fun q => f (s q) && decide (s q < m)) n = fb_ct f m := by
    intro m
    induction m with
    | zero => intro _; exact fb_ct_zero.mpr (fun k _ => by simp)
    | succ m ih =>
      intro hm
      obtain ⟨i, hi, e⟩ := fb_onto (n := n) (f := s) h1 (fun i j hij hj e => by have := h2 i j (by omega) hj e; omega) (y := m) (by omega)
      have h3 : fb_ct (fun q => f (s q) && decide (s q < m + 1)) n = fb_ct (fun q => if q = i then f m else (f (s q) && decide (s q < m))) n := by
        refine fb_ct_cong (fun k hk => ?_)
        by_cases hki : k = i
        · rw [if_pos hki, hki, e]; simp
        · rw [if_neg hki]
          have : s k ≠ m := fun q => hki (h2 k i hk hi (by rw [q, e]))
          have h4 : decide (s k < m + 1) = decide (s k < m) := decide_eq_decide.mpr (by omega)
          rw [h4]
      have h5 := fb_ct_upd (fun q => f (s q) && decide (s q < m)) (f m) hi
      have h6 : (f (s i) && decide (s i < m)) = false := by rw [e]; simp
      rw [ih (by omega)] at h5
      rw [h3, fb_ct_succ]
      simp only [h6] at h5
      simpa using h5
  rw [← key n (Nat.le_refl _)]
  refine fb_ct_cong (fun k hk => ?_)
  have := h1 k hk
  simp [this]
theorem ct_ag_p (hN : N ≤ 8) (hg : ∀ i, i < K → gp_ok N (g i)) {p : Nat} (hp : p < N) {b : Nat → Nat} (hb : gp_in K g b) : fb_ct (fun q => ct_b (∃ s, ct_ag K g p b s ∧ s p = q)) N = ct_cn K g p := by
  rw [ct_cn_N hN hg hp]
  have ob := gp_ok_inv (gp_in_ok hg hb)
  rw [← ct_perm N (s := gp_inv b) ob.1 ob.2.1 (fun q => ct_b (ct_ch K g p q))]
  refine fb_ct_cong (fun k _ => ?_)
  rcases Classical.em (ct_ch K g p (gp_inv b k)) with w | w
  · rw [ct_bt.mpr w]; exact ct_bt.mpr ((ct_choice hN hg hb).mpr w)
  · rw [ct_bf.mpr w]; exact ct_bf.mpr (fun z => w ((ct_choice hN hg hb).mp z))
theorem ct_ag_next {p q : Nat} {b s0 : Nat → Nat} (h0 : ct_ag K g p b s0) (h1 : s0 p = q) (s : Nat → Nat) : (ct_ag K g p b s ∧ s p = q) ↔ ct_ag K g (p + 1) s0 s := by
  constructor
  · rintro ⟨⟨a, b1⟩, c⟩
    refine ⟨a, fun i hi => ?_⟩
    rcases Nat.lt_or_ge i p with w | w
    · rw [b1 i w, h0.2 i w]
    · rw [show i = p by omega, c, h1]
  · rintro ⟨a, b1⟩
    exact ⟨⟨a, fun i hi => by rw [b1 i (by omega), h0.2 i hi]⟩, by rw [b1 p (by omega), h1]⟩
/-- the elements that agree with one of them on the points less than p are as many as the chains say -/
theorem ct_lv_ok (hN : N ≤ 8) (hg : ∀ i, i < K → gp_ok N (g i)) : ∀ k, k ≤ 8 → ∀ b, gp_in K g b → ct_n N (ct_ag K g (8 - k) b) = ct_lv K g k
  | 0, _, b, hb => by
    rw [Nat.sub_zero]
    rw [ct_n_cong (Q := fun t => t = b) (fun s hs => ⟨fun w => funext fun i => ?_, fun w => by rw [w]; exact ⟨hb, fun _ _ => rfl⟩⟩)]
    · exact ct_n_one (gp_in_ok hg hb)
    · rcases Nat.lt_or_ge i 8 with q | q
      · exact w.2 i q
      · rw [hs.2.2 i (by omega), (gp_in_ok hg hb).2.2 i (by omega)]
  | k + 1, hk, b, hb => by
    have ih := ct_lv_ok hN hg k (by omega)
    rw [show 8 - (k + 1) = 7 - k by omega, ct_lv]
    rcases Nat.lt_or_ge (7 - k) N with hp | hp
    · have h1 : ct_n N (ct_ag K g (7 - k) b) = ct_n N (fun s => ct_ag K g (7 - k) b s ∧ s (7 - k) < N) := ct_n_cong (fun s hs => ⟨fun w => ⟨w, hs.1 _ hp⟩, fun w => w.1⟩)
      rw [h1, ct_n_sum (fun s => s (7 - k)) N]
      have h2 : fb_sm (fun q => ct_n N (fun s => ct_ag K g (7 - k) b s ∧ s (7 - k) = q)) N = fb_sm (fun q => if ct_b (∃ s, ct_ag K g (7 - k) b s ∧ s (7 - k) = q) then ct_lv K g k else 0) N := by
        refine fb_sm_cong (fun q _ => ?_)
        rcases Classical.em (∃ s, ct_ag K g (7 - k) b s ∧ s (7 - k) = q) with w | w
        · rw [ct_bt.mpr w]
          obtain ⟨s0, a1, a2⟩ := w
          rw [ct_n_cong (Q := ct_ag K g (7 - k + 1) s0) (fun s _ => ct_ag_next a1 a2 s), show 7 - k + 1 = 8 - k by omega]
          simp only [if_true]
          exact ih s0 a1.1
        · rw [ct_bf.mpr w]
          exact ct_n_zero (fun s _ z => w ⟨s, z⟩)
      rw [h2, ct_sm_if, ct_ag_p hN hg hp hb, Nat.mul_comm]
    · rw [ct_cn_out hg hp (by omega), Nat.mul_one, ← ih b hb]
      refine ct_n_cong (fun s hs => ⟨fun w => ⟨w.1, fun i hi => ?_⟩, fun w => ⟨w.1, fun i hi => w.2 i (by omega)⟩⟩)
      rcases Nat.lt_or_ge i (7 - k) with q | q
      · exact w.2 i q
      · rw [hs.2.2 i (by omega), (gp_in_ok hg hb).2.2 i (by omega)]
/-- the order -/
theorem ct_order (hN : N ≤ 8) (hg : ∀ i, i < K → gp_ok N (g i)) : ct_n N (gp_in K g) = ct_lv K g 8 := by
  rw [← ct_lv_ok hN hg 8 (Nat.le_refl _) gp_id (gp_in_id K g)]
  exact ct_n_cong (fun s _ => ⟨fun w => ⟨w, fun i hi => absurd hi (by omega)⟩, fun w => w.1⟩)
end CT

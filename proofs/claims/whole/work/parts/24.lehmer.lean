-- places of moves
def le_sh (d x : Nat) : Nat := if d ≤ x then x + 1 else x
def le_un (c x : Nat) : Nat := if c < x then x - 1 else x
theorem le_sh_ne (d x : Nat) : le_sh d x ≠ d := by unfold le_sh; split <;> omega
theorem le_sh_lt {d x y : Nat} : le_sh d x < le_sh d y ↔ x < y := by unfold le_sh; split <;> split <;> omega
theorem le_sh_inj {d x y : Nat} (h : le_sh d x = le_sh d y) : x = y := by unfold le_sh at h; split at h <;> split at h <;> omega
theorem le_sh_c {d x : Nat} : le_sh d x < d ↔ x < d := by unfold le_sh; split <;> omega
theorem le_sh_un {c x : Nat} (h : x ≠ c) : le_sh c (le_un c x) = x := by unfold le_sh le_un; split <;> split <;> omega
theorem le_un_lt {c x y : Nat} (hx : x ≠ c) (hy : y ≠ c) : le_un c x < le_un c y ↔ x < y := by unfold le_un; split <;> split <;> omega
theorem le_un_inj {c x y : Nat} (hx : x ≠ c) (hy : y ≠ c) (h : le_un c x = le_un c y) : x = y := by unfold le_un at h; split at h <;> split at h <;> omega
def le_val : (Nat → Nat) → Nat → Nat
  | d, 0 => d 0
  | d, q + 1 => le_sh (d 0) (le_val (fun i => d (i + 1)) q)
def le_dok (n : Nat) (d : Nat → Nat) : Prop := ∀ p, p < n → d p + p < n
theorem le_dok_s {n : Nat} {d : Nat → Nat} (h : le_dok (n + 1) d) : le_dok n (fun i => d (i + 1)) := fun p hp => by have h1 := h (p + 1) (by omega); show d (p + 1) + p < n; omega
theorem le_val_lt : ∀ (n : Nat) (d : Nat → Nat), le_dok n d → ∀ q, q < n → le_val d q < n
  | 0, _, _, _, hq => absurd hq (Nat.not_lt_zero _)
  | n + 1, d, h, 0, _ => by have := h 0 (by omega); show d 0 < n + 1; omega
  | n + 1, d, h, q + 1, hq => by
    have h1 := le_val_lt n _ (le_dok_s h) q (by omega)
    show le_sh (d 0) _ < n + 1
    unfold le_sh; split <;> omega
theorem le_val_inj : ∀ (d : Nat → Nat) (p q : Nat), le_val d p = le_val d q → p = q
  | _, 0, 0, _ => rfl
  | d, 0, q + 1, h => absurd h.symm (le_sh_ne _ _)
  | d, p + 1, 0, h => absurd h (le_sh_ne _ _)
  | d, p + 1, q + 1, h => by rw [le_val_inj _ p q (le_sh_inj h)]
theorem le_val_cong : ∀ (q : Nat) (d e : Nat → Nat), (∀ i, i ≤ q → d i = e i) → le_val d q = le_val e q
  | 0, d, e, h => h 0 (Nat.le_refl _)
  | q + 1, d, e, h => by
    show le_sh (d 0) _ = le_sh (e 0) _
    rw [h 0 (by omega), le_val_cong q _ _ (fun i hi => h (i + 1) (by omega))]
theorem le_val_mono : ∀ (q : Nat) (d e : Nat → Nat), (∀ i, i < q → d i = e i) → (le_val d q < le_val e q ↔ d q < e q)
  | 0, d, e, _ => Iff.rfl
  | q + 1, d, e, h => by
    show le_sh (d 0) _ < le_sh (e 0) _ ↔ _
    rw [h 0 (by omega), le_sh_lt]
    exact le_val_mono q _ _ (fun i hi => h (i + 1) (by omega))
/-- how many of the n values of a one-to-one row are below c -/
theorem le_below : ∀ (n : Nat) (s : Nat → Nat), (∀ p, p < n → s p < n) → (∀ p q, p < n → q < n → s p = s q → p = q) → ∀ c, c ≤ n → fb_ct (fun q => decide (s q < c)) n = c := by
  intro n s h1 h2 c
  induction c with
  | zero =>
    intro _
    exact fb_ct_zero.mpr (fun k _ => by simp)
  | succ c ih =>
    intro hc
    obtain ⟨i, hi, e⟩ := fb_onto (n := n) (f := s) h1 (fun i j hij hj e => by have := h2 i j (by omega) hj e; omega) (y := c) (by omega)
    have h3 : fb_ct (fun q => decide (s q < c + 1)) n = fb_ct (fun q => if q = i then true else decide (s q < c)) n := by
      refine fb_ct_cong (fun k hk => ?_)
      by_cases hki : k = i
      · rw [if_pos hki, hki]; simp; omega
      · rw [if_neg hki]
        have : s k ≠ c := fun q => hki (h2 k i hk hi (by rw [q, e]))
        apply decide_eq_decide.mpr
        omega
    have h4 := fb_ct_upd (fun q => decide (s q < c)) true hi
    rw [h3]
    have h5 : decide (s i < c) = false := by rw [e]; simp
    have h6 : (if decide (s i < c) = true then 1 else 0) = 0 := by rw [h5]; rfl
    rw [ih (by omega)] at h4
    simp only [h5] at h4
    simpa using h4
/-- of a figure: how many lesser ones are behind it -/
def le_bh (s : Nat → Nat) (n p : Nat) : Nat := fb_ct (fun q => decide (p < q ∧ s q < s p)) n
theorem le_ct_shift (f : Nat → Bool) : ∀ n, fb_ct f (n + 1) = (if f 0 then 1 else 0) + fb_ct (fun q => f (q + 1)) n
  | 0 => by show 0 + _ = _ + 0; rw [Nat.zero_add, Nat.add_zero]
  | n + 1 => by
    rw [fb_ct_succ f (n + 1), le_ct_shift f n, fb_ct_succ]
    omega
theorem le_bh_s (s : Nat → Nat) (n p : Nat) : le_bh s (n + 1) (p + 1) = le_bh (fun q => s (q + 1)) n p := by
  unfold le_bh
  rw [le_ct_shift]
  have h0 : decide (p + 1 < 0 ∧ s 0 < s (p + 1)) = false := by simp
  rw [h0]
  show 0 + _ = _
  rw [Nat.zero_add]
  exact fb_ct_cong (fun k _ => decide_eq_decide.mpr (by constructor <;> rintro ⟨a, b⟩ <;> exact ⟨by omega, b⟩))
theorem le_bh_0 (s : Nat → Nat) (n : Nat) : le_bh s (n + 1) 0 = fb_ct (fun q => decide (s (q + 1) < s 0)) n := by
  unfold le_bh
  rw [le_ct_shift]
  have h0 : decide (0 < 0 ∧ s 0 < s 0) = false := by simp
  rw [h0]
  show 0 + _ = _
  rw [Nat.zero_add]
  exact fb_ct_cong (fun k _ => decide_eq_decide.mpr ⟨fun h => h.2, fun h => ⟨by omega, h⟩⟩)
theorem le_bh_cong {s t : Nat → Nat} {n p : Nat} (h : ∀ q, q < n → (s q < s p ↔ t q < t p)) : le_bh s n p = le_bh t n p :=
  fb_ct_cong (fun k hk => decide_eq_decide.mpr ⟨fun q => ⟨q.1, (h k hk).mp q.2⟩, fun q => ⟨q.1, (h k hk).mpr q.2⟩⟩)
theorem le_bh_val : ∀ (n : Nat) (d : Nat → Nat), le_dok n d → ∀ p, p < n → le_bh (le_val d) n p = d p
  | 0, _, _, _, hp => absurd hp (Nat.not_lt_zero _)
  | n + 1, d, h, 0, _ => by
    rw [le_bh_0]
    have h1 : fb_ct (fun q => decide (le_val d (q + 1) < le_val d 0)) n = fb_ct (fun q => decide (le_val (fun i => d (i + 1)) q < d 0)) n := fb_ct_cong (fun k _ => decide_eq_decide.mpr le_sh_c)
    rw [h1]
    exact le_below n _ (fun p hp => le_val_lt n _ (le_dok_s h) p hp) (fun p q _ _ e => le_val_inj _ p q e) (d 0) (by have := h 0 (by omega); omega)
  | n + 1, d, h, p + 1, hp => by
    rw [le_bh_s]
    have h1 : le_bh (fun q => le_val d (q + 1)) n p = le_bh (le_val (fun i => d (i + 1))) n p := le_bh_cong (fun q _ => le_sh_lt)
    rw [h1]
    exact le_bh_val n _ (le_dok_s h) p (by omega)
theorem le_bh_dok {n : Nat} {s : Nat → Nat} (h1 : ∀ p, p < n → s p < n) (h2 : ∀ p q, p < n → q < n → s p = s q → p = q) : le_dok n (le_bh s n) := by
  intro p hp
  -- of the n places at most n - 1 - p lie behind p
  have h3 : le_bh s n p ≤ fb_ct (fun q => decide (p < q)) n := fb_ct_sub (fun k _ hk => by simp at hk ⊢; exact hk.1)
  have h4 : ∀ m, fb_ct (fun q => decide (p < q)) m + (p + 1) ≤ m ∨ fb_ct (fun q => decide (p < q)) m = 0 := by
    intro m
    induction m with
    | zero => exact Or.inr rfl
    | succ m ih =>
      rw [fb_ct_succ]
      by_cases hm : p < m
      · have e : decide (p < m) = true := by simp [hm]
        rw [e]
        rcases ih with ih | ih
        · left; simp; omega
        · left; rw [ih]; simp; omega
      · have e : decide (p < m) = false := by simp; omega
        rw [e]
        rcases ih with ih | ih
        · left; simp; omega
        · right; rw [ih]; rfl
  rcases h4 n with h | h <;> omega
theorem le_val_bh : ∀ (n : Nat) (s : Nat → Nat), (∀ p, p < n → s p < n) → (∀ p q, p < n → q < n → s p = s q → p = q) → ∀ q, q < n → le_val (le_bh s n) q = s q
  | 0, _, _, _, _, hq => absurd hq (Nat.not_lt_zero _)
  | n + 1, s, h1, h2, q, hq => by
    have h0 : le_bh s (n + 1) 0 = s 0 := by
      have h3 := le_below (n + 1) s h1 h2 (s 0) (by have := h1 0 (by omega); omega)
      rw [le_ct_shift] at h3
      have h4 : decide (s 0 < s 0) = false := by simp
      rw [h4] at h3
      rw [le_bh_0]
      simpa using h3
    match q, hq with
    | 0, _ => exact h0
    | q + 1, hq =>
      show le_sh (le_bh s (n + 1) 0) (le_val (fun i => le_bh s (n + 1) (i + 1)) q) = s (q + 1)
      rw [h0]
      have hne : ∀ p, p < n → s (p + 1) ≠ s 0 := fun p hp e => by have := h2 (p + 1) 0 (by omega) (by omega) e; omega
      have h5 : ∀ p, p < n → (fun i => le_un (s 0) (s (i + 1))) p < n := fun p hp => by
        have a := h1 (p + 1) (by omega)
        have b := hne p hp
        have c := h1 0 (by omega)
        show le_un _ _ < n
        unfold le_un; split <;> omega
      have h6 := le_val_bh n (fun i => le_un (s 0) (s (i + 1))) h5 (fun p r hp hr e => by
        have := h2 (p + 1) (r + 1) (by omega) (by omega) (le_un_inj (hne p hp) (hne r hr) e)
        omega) q (by omega)
      have h7 : le_val (fun i => le_bh s (n + 1) (i + 1)) q = le_val (le_bh (fun i => le_un (s 0) (s (i + 1))) n) q := by
        refine le_val_cong q _ _ (fun i hi => ?_)
        show le_bh s (n + 1) (i + 1) = _
        rw [le_bh_s]
        exact le_bh_cong (fun r hr => (le_un_lt (hne r hr) (hne i (by omega))).symm)
      rw [h7, h6]
      exact le_sh_un (hne q (by omega))
/-- the place, figure by figure -/
def le_hp (n : Nat) (d : Nat → Nat) : Nat → Nat
  | 0 => 0
  | k + 1 => le_hp n d k * (n - k) + d k
theorem le_hp_cong {n : Nat} {d e : Nat → Nat} : ∀ {k : Nat}, (∀ i, i < k → d i = e i) → le_hp n d k = le_hp n e k
  | 0, _ => rfl
  | k + 1, h => by rw [le_hp, le_hp, le_hp_cong (fun i hi => h i (by omega)), h k (by omega)]
theorem le_hp_lt {n : Nat} {d e : Nat → Nat} (hd : le_dok n d) {p : Nat} (h : ∀ i, i < p → d i = e i) (hp : d p < e p) : ∀ k, p < k → k ≤ n → le_hp n d k + 1 ≤ le_hp n e k
  | 0, h0, _ => absurd h0 (Nat.not_lt_zero _)
  | k + 1, h0, hk => by
    rw [le_hp, le_hp]
    rcases Nat.lt_or_ge p k with q | q
    · have ih := le_hp_lt hd h hp k q (by omega)
      have h1 := hd k (by omega)
      have h2 : (le_hp n d k + 1) * (n - k) ≤ le_hp n e k * (n - k) := Nat.mul_le_mul_right _ ih
      rw [Nat.add_mul, Nat.one_mul] at h2
      omega
    · have e1 : k = p := by omega
      rw [e1, le_hp_cong h]
      omega
/-- what is left behind the last figures -/
def le_lf (j : Nat) : Nat → Nat
  | 0 => j
  | k + 1 => le_lf j k / (k + 1)
def le_fac : Nat → Nat
  | 0 => 1
  | k + 1 => le_fac k * (k + 1)
theorem le_fac_pos : ∀ k, 0 < le_fac k
  | 0 => Nat.one_pos
  | k + 1 => Nat.mul_pos (le_fac_pos k) (Nat.succ_pos k)
theorem le_lf_fac (j : Nat) : ∀ k, le_lf j k = j / le_fac k
  | 0 => (Nat.div_one j).symm
  | k + 1 => by rw [le_lf, le_lf_fac j k, Nat.div_div_eq_div_mul, le_fac]
def le_dg (n j p : Nat) : Nat := le_lf j (n - 1 - p) % (n - p)
theorem le_dg_ok (n j : Nat) : le_dok n (le_dg n j) := fun p hp => by
  have : le_lf j (n - 1 - p) % (n - p) < n - p := Nat.mod_lt _ (by omega)
  show le_lf j (n - 1 - p) % (n - p) + p < n
  omega
theorem le_hp_dg {n j : Nat} (hj : j < le_fac n) : ∀ p, p ≤ n → le_hp n (le_dg n j) p = le_lf j (n - p)
  | 0, _ => by
    rw [Nat.sub_zero, le_lf_fac, Nat.div_eq_of_lt hj]; rfl
  | p + 1, hp => by
    rw [le_hp, le_hp_dg hj p (by omega)]
    obtain ⟨m, hm⟩ : ∃ m, n - p = m + 1 := ⟨n - p - 1, by omega⟩
    rw [hm, show n - (p + 1) = m by omega]
    show le_lf j m / (m + 1) * (m + 1) + le_lf j (n - 1 - p) % (n - p) = le_lf j m
    rw [show n - 1 - p = m by omega, hm, Nat.mul_comm]
    exact Nat.div_add_mod _ _
theorem le_hp_bd {n : Nat} {d : Nat → Nat} (hd : le_dok n d) : ∀ k, k ≤ n → le_hp n d k * le_fac (n - k) + le_fac (n - k) ≤ le_fac n
  | 0, _ => by show 0 * _ + _ ≤ _; rw [Nat.zero_mul, Nat.zero_add, Nat.sub_zero]; exact Nat.le_refl _
  | k + 1, hk => by
    have ih := le_hp_bd hd k (by omega)
    obtain ⟨m, hm⟩ : ∃ m, n - k = m + 1 := ⟨n - k - 1, by omega⟩
    rw [le_hp, show n - (k + 1) = m by omega, hm]
    rw [hm, le_fac] at ih
    have h1 := hd k (by omega)
    have h2 : (le_hp n d k * (m + 1) + d k + 1) * le_fac m ≤ (le_hp n d k * (m + 1) + (m + 1)) * le_fac m := Nat.mul_le_mul_right _ (by omega)
    have h3 : (le_hp n d k * (m + 1) + (m + 1)) * le_fac m = le_hp n d k * (le_fac m * (m + 1)) + le_fac m * (m + 1) := by
      rw [Nat.add_mul, Nat.mul_comm (m + 1) (le_fac m), Nat.mul_assoc, Nat.mul_comm (m + 1) (le_fac m)]
    rw [Nat.add_mul, Nat.one_mul] at h2
    omega
-- moves by their places
def pm_mv (n j : Nat) : Nat → Nat := fun q => if q < n then le_val (le_dg n j) q else q
def pm_pl (n : Nat) (s : Nat → Nat) : Nat := le_hp n (le_bh s n) n
theorem pm_mv_ok (n j : Nat) : gp_ok n (pm_mv n j) := by
  refine ⟨fun p hp => ?_, fun p q hp hq e => ?_, fun p hp => ?_⟩
  · show (if p < n then _ else _) < n
    rw [if_pos hp]; exact le_val_lt n _ (le_dg_ok n j) p hp
  · have e : (if p < n then le_val (le_dg n j) p else p) = (if q < n then le_val (le_dg n j) q else q) := e
    rw [if_pos hp, if_pos hq] at e
    exact le_val_inj _ p q e
  · show (if p < n then _ else p) = p
    rw [if_neg (by omega)]
theorem pm_pl_lt {n : Nat} {s : Nat → Nat} (hs : gp_ok n s) : pm_pl n s < le_fac n := by
  have h := le_hp_bd (le_bh_dok hs.1 hs.2.1) n (Nat.le_refl _)
  rw [Nat.sub_self] at h
  show le_hp n (le_bh s n) n < _
  have h1 : le_fac 0 = 1 := rfl
  rw [h1] at h
  omega
theorem pm_bh_cong {n : Nat} {s t : Nat → Nat} (h : ∀ q, q < n → s q = t q) {p : Nat} (hp : p < n) : le_bh s n p = le_bh t n p := le_bh_cong (fun q hq => by rw [h q hq, h p hp])
theorem pm_pl_mv {n j : Nat} (hj : j < le_fac n) : pm_pl n (pm_mv n j) = j := by
  have h1 : ∀ p, p < n → le_bh (pm_mv n j) n p = le_dg n j p := fun p hp => by
    rw [pm_bh_cong (t := le_val (le_dg n j)) (fun q hq => by show (if q < n then _ else _) = _; rw [if_pos hq]) hp]
    exact le_bh_val n _ (le_dg_ok n j) p hp
  show le_hp n (le_bh (pm_mv n j) n) n = j
  rw [le_hp_cong h1, le_hp_dg hj n (Nat.le_refl _), Nat.sub_self]
  rfl
/-- the order of places is that of the first figure that differs -/
def pm_lx (n : Nat) (s t : Nat → Nat) : Prop := ∃ p, p < n ∧ (∀ i, i < p → s i = t i) ∧ s p < t p
theorem pm_lx_as {n : Nat} {s t : Nat → Nat} (h : pm_lx n s t) : ¬ pm_lx n t s := by
  rintro ⟨q, hq, h1, h2⟩
  obtain ⟨p, hp, h3, h4⟩ := h
  rcases Nat.lt_trichotomy p q with e | e | e
  · have := h1 p e; omega
  · subst e; omega
  · have := h3 q e; omega
theorem pm_first {n : Nat} {d e : Nat → Nat} (h : ¬ ∀ i, i < n → d i = e i) : ∃ p, p < n ∧ (∀ i, i < p → d i = e i) ∧ d p ≠ e p := by
  have h1 : ∃ i, i < n ∧ d i ≠ e i := by
    apply Classical.byContradiction
    intro q
    exact h (fun i hi => Classical.byContradiction (fun w => q ⟨i, hi, w⟩))
  obtain ⟨i, h2, h3, h4⟩ := fb_first (p := fun i => d i ≠ e i) h1
  exact ⟨i, h2, fun j hj => Classical.byContradiction (fun w => h4 j hj w), h3⟩
theorem pm_pl_lx {n : Nat} {s t : Nat → Nat} (hs : gp_ok n s) (ht : gp_ok n t) : pm_pl n s < pm_pl n t ↔ pm_lx n s t := by
  have hd := le_bh_dok hs.1 hs.2.1
  have he := le_bh_dok ht.1 ht.2.1
  have vs := le_val_bh n s hs.1 hs.2.1
  have vt := le_val_bh n t ht.1 ht.2.1
  by_cases h : ∀ i, i < n → le_bh s n i = le_bh t n i
  · have e1 : pm_pl n s = pm_pl n t := le_hp_cong h
    have e2 : ∀ i, i < n → s i = t i := fun i hi => by rw [← vs i hi, ← vt i hi]; exact le_val_cong i _ _ (fun j hj => h j (by omega))
    constructor
    · intro q; omega
    · rintro ⟨p, hp, -, h2⟩
      have := e2 p hp; omega
  · obtain ⟨p, hp, h1, h2⟩ := pm_first h
    have e1 : ∀ i, i < p → s i = t i := fun i hi => by rw [← vs i (by omega), ← vt i (by omega)]; exact le_val_cong i _ _ (fun j hj => h1 j (by omega))
    have e2 : s p < t p ↔ le_bh s n p < le_bh t n p := by rw [← vs p hp, ← vt p hp]; exact le_val_mono p _ _ h1
    have e3 : t p < s p ↔ le_bh t n p < le_bh s n p := by rw [← vs p hp, ← vt p hp]; exact le_val_mono p _ _ (fun i hi => (h1 i hi).symm)
    rcases Nat.lt_or_ge (le_bh s n p) (le_bh t n p) with q | q
    · have h3 := le_hp_lt hd h1 q n hp (Nat.le_refl _)
      exact ⟨fun _ => ⟨p, hp, e1, e2.mpr q⟩, fun _ => by show le_hp _ _ _ < le_hp _ _ _; omega⟩
    · have q : le_bh t n p < le_bh s n p := by omega
      have h3 := le_hp_lt he (fun i hi => (h1 i hi).symm) q n hp (Nat.le_refl _)
      refine ⟨fun w => ?_, fun w => ?_⟩
      · have w : le_hp n (le_bh s n) n < le_hp n (le_bh t n) n := w
        omega
      · exact absurd w (pm_lx_as ⟨p, hp, fun i hi => (e1 i hi).symm, e3.mpr q⟩)
theorem pm_pl_inj {n : Nat} {s t : Nat → Nat} (hs : gp_ok n s) (ht : gp_ok n t) (h : pm_pl n s = pm_pl n t) : s = t := by
  have h1 : ∀ i, i < n → s i = t i := by
    apply Classical.byContradiction
    intro q
    obtain ⟨p, hp, h2, h3⟩ := pm_first q
    rcases Nat.lt_or_ge (s p) (t p) with w | w
    · have := (pm_pl_lx hs ht).mpr ⟨p, hp, h2, w⟩; omega
    · have := (pm_pl_lx ht hs).mpr ⟨p, hp, fun i hi => (h2 i hi).symm, by omega⟩; omega
  funext i
  rcases Nat.lt_or_ge i n with q | q
  · exact h1 i q
  · rw [hs.2.2 i q, ht.2.2 i q]
theorem pm_mv_pl {n : Nat} {s : Nat → Nat} (hs : gp_ok n s) : pm_mv n (pm_pl n s) = s := pm_pl_inj (pm_mv_ok n _) hs (pm_pl_mv (pm_pl_lt hs))
theorem pm_id {n : Nat} : pm_pl n gp_id = 0 := by
  have h : ∀ p, p < n → le_bh gp_id n p = 0 := fun p hp => fb_ct_zero.mpr (fun k _ => decide_eq_false (fun w => by have w1 := w.1; have w2 : k < p := w.2; omega))
  show le_hp n (le_bh gp_id n) n = 0
  have : ∀ k, k ≤ n → le_hp n (le_bh gp_id n) k = 0 := by
    intro k
    induction k with
    | zero => intro _; rfl
    | succ k ih => intro hk; rw [le_hp, ih (by omega), h k (by omega), Nat.zero_mul]
  exact this n (Nat.le_refl _)
theorem le_fac8 {n : Nat} (h : n ≤ 8) : le_fac n ≤ 40320 := by
  have : n = 0 ∨ n = 1 ∨ n = 2 ∨ n = 3 ∨ n = 4 ∨ n = 5 ∨ n = 6 ∨ n = 7 ∨ n = 8 := by omega
  rcases this with rfl | rfl | rfl | rfl | rfl | rfl | rfl | rfl | rfl <;> decide +kernel

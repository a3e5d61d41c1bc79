-- moves in one int, three bits a point
def pv_n (s : Nat → Nat) : Nat → Nat
  | 0 => 0
  | k + 1 => pv_n s k + s k * 8 ^ k
def pv (s : Nat → Nat) : Int32 := nI (pv_n s 8)
theorem pv_cong {s t : Nat → Nat} : ∀ {k : Nat}, (∀ i, i < k → s i = t i) → pv_n s k = pv_n t k
  | 0, _ => rfl
  | k + 1, h => by rw [pv_n, pv_n, pv_cong (fun i hi => h i (by omega)), h k (by omega)]
theorem pv_lt {s : Nat → Nat} : ∀ {k : Nat}, (∀ i, i < k → s i < 8) → pv_n s k < 8 ^ k
  | 0, _ => by show 0 < 1; omega
  | k + 1, h => by
    have h1 := pv_lt (k := k) (fun i hi => h i (by omega))
    have h2 : s k * 8 ^ k ≤ 7 * 8 ^ k := Nat.mul_le_mul_right _ (by have := h k (by omega); omega)
    rw [pv_n, Nat.pow_succ]
    omega
theorem pv_24 {s : Nat → Nat} (h : ∀ i, i < 8 → s i < 8) : pv_n s 8 < 16777216 := pv_lt h
theorem pv_dig {s : Nat → Nat} {p : Nat} : ∀ {k : Nat}, (∀ i, i < k → s i < 8) → p < k → pv_n s k / 8 ^ p % 8 = s p
  | 0, _, hp => absurd hp (Nat.not_lt_zero _)
  | k + 1, h, hp => by
    rw [pv_n]
    rcases Nat.lt_or_ge p k with q | q
    · have e : s k * 8 ^ k = 8 ^ p * (s k * 8 ^ (k - p)) := by
        rw [Nat.mul_left_comm, ← Nat.pow_add, show p + (k - p) = k by omega]
      rw [e, Nat.add_mul_div_left _ _ (Nat.pow_pos (by decide))]
      have e2 : s k * 8 ^ (k - p) = 8 * (s k * 8 ^ (k - p - 1)) := by
        rw [Nat.mul_left_comm, show k - p = (k - p - 1) + 1 by omega, Nat.pow_succ, Nat.mul_comm 8 _]
        rfl
      rw [e2, Nat.add_mul_mod_self_left]
      exact pv_dig (fun i hi => h i (by omega)) q
    · have e : p = k := by omega
      subst e
      have h1 := pv_lt (k := p) (fun i hi => h i (by omega))
      rw [Nat.mul_comm, Nat.add_mul_div_left _ _ (Nat.pow_pos (by decide)), Nat.div_eq_of_lt h1, Nat.zero_add]
      exact Nat.mod_eq_of_lt (h p (by omega))
theorem pv_inj {s t : Nat → Nat} (hs : ∀ i, i < 8 → s i < 8) (ht : ∀ i, i < 8 → t i < 8) (h : pv s = pv t) : ∀ i, i < 8 → s i = t i := by
  have h1 : pv_n s 8 = pv_n t 8 := (nI_eq (by have := pv_24 hs; omega) (by have := pv_24 ht; omega)).mp h
  intro i hi
  rw [← pv_dig hs hi, ← pv_dig ht hi, h1]
theorem pv_up {d : Nat → Nat} {q x : Nat} (h0 : d q = 0) : ∀ k, pv_n (va_up d q x) k = pv_n d k + (if q < k then x * 8 ^ q else 0)
  | 0 => by rw [if_neg (Nat.not_lt_zero _)]; rfl
  | k + 1 => by
    rw [pv_n, pv_n, pv_up h0 k]
    rcases Nat.lt_trichotomy q k with e | e | e
    · rw [va_up_ne d x (by omega), if_pos e, if_pos (by omega)]; omega
    · subst e
      rw [va_up_self, h0, if_neg (by omega), if_pos (by omega)]; omega
    · rw [va_up_ne d x (by omega), if_neg (by omega), if_neg (by omega)]; omega
theorem pv_or {a q x : Nat} (h0 : a / 8 ^ q % 8 = 0) (hx : x < 8) : a ||| x * 8 ^ q = a + x * 8 ^ q := by
  have e8 : ∀ m, 8 ^ m = 2 ^ (3 * m) := fun m => by rw [show (8 : Nat) = 2 ^ 3 from rfl, ← Nat.pow_mul]
  have h1 : a = 2 ^ (3 * (q + 1)) * (a / 8 ^ (q + 1)) + a % 8 ^ q := by
    have d1 := Nat.div_add_mod a (8 ^ q)
    have d2 := Nat.div_add_mod (a / 8 ^ q) 8
    rw [h0, Nat.add_zero, Nat.div_div_eq_div_mul, ← Nat.pow_succ] at d2
    have d3 : 8 * (a / (8 ^ q * 8)) = a / 8 ^ q := d2
    rw [← e8, Nat.pow_succ, Nat.mul_assoc, d3]
    exact d1.symm
  have hl : a % 8 ^ q < 2 ^ (3 * q) := by rw [← e8]; exact Nat.mod_lt _ (Nat.pow_pos (by decide))
  generalize a / 8 ^ (q + 1) = hh at h1
  generalize a % 8 ^ q = l at h1 hl
  have hl2 : l < 2 ^ (3 * (q + 1)) := Nat.lt_of_lt_of_le hl (Nat.pow_le_pow_right (by decide) (by omega))
  have e1 : 2 ^ (3 * (q + 1)) * hh + l = 2 ^ (3 * (q + 1)) * hh ||| l := Nat.two_pow_add_eq_or_of_lt hl2 hh
  have e2 : 2 ^ (3 * q) * x + l = 2 ^ (3 * q) * x ||| l := Nat.two_pow_add_eq_or_of_lt hl x
  have hl3 : 2 ^ (3 * q) * x + l < 2 ^ (3 * (q + 1)) := by
    rw [show 3 * (q + 1) = 3 * q + 3 by omega, Nat.pow_add]
    have : 2 ^ (3 * q) * x ≤ 2 ^ (3 * q) * 7 := Nat.mul_le_mul_left _ (by omega)
    have e : 2 ^ 3 = 8 := rfl
    rw [e]
    omega
  have e3 : 2 ^ (3 * (q + 1)) * hh + (2 ^ (3 * q) * x + l) = 2 ^ (3 * (q + 1)) * hh ||| (2 ^ (3 * q) * x + l) := Nat.two_pow_add_eq_or_of_lt hl3 hh
  have ex : x * 8 ^ q = 2 ^ (3 * q) * x := by rw [e8, Nat.mul_comm]
  rw [h1, ex, e1, Nat.or_assoc, Nat.or_comm l, ← e2, ← e3, ← e1]
  omega
/-- one more figure comes to a place where there is none -/
theorem pv_put {d : Nat → Nat} (hd : ∀ i, i < 8 → d i < 8) {q x : Nat} (hq : q < 8) (hx : x < 8) (h0 : d q = 0) : pv d ||| (nI x <<< (nI (3 * q) &&& 31)) = pv (va_up d q x) := by
  have e8 : (2 : Nat) ^ (3 * q) = 8 ^ q := by rw [Nat.pow_mul]
  rw [n_shl (by omega), e8]
  show nI _ ||| nI _ = nI _
  rw [n_or, pv_or (by rw [pv_dig hd hq]; exact h0) hx, pv_up h0 8, if_pos hq]
theorem pv_at {s : Nat → Nat} (hs : ∀ i, i < 8 → s i < 8) {p : Nat} (hp : p < 8) : (xus (pv s) (nI (3 * p))) &&& (7 : Int32) = nI (s p) := by
  have e8 : (2 : Nat) ^ (3 * p) = 8 ^ p := by rw [Nat.pow_mul]
  show (xus (nI _) (nI _)) &&& _ = _
  rw [n_ushr (by have := pv_24 hs; omega) (by omega), n_and7, e8, pv_dig hs hp]
theorem n_mul3 (p : Nat) : (3 : Int32) * nI p = nI (3 * p) := n_mul 3 p
theorem mv_at {s : Nat → Nat} (hs : ∀ i, i < 8 → s i < 8) {p : Nat} (hp : p < 8) : f_X2_at (pv s) (nI p) = some (nI (s p)) := by
  show some _ = some _
  rw [n_mul3, pv_at hs hp]
theorem pv_0 : pv (fun _ => 0) = (0 : Int32) := by decide +kernel
theorem mv_then {s t : Nat → Nat} (hs : ∀ i, i < 8 → s i < 8) (ht : ∀ i, i < 8 → t i < 8) : f_X2_then (pv s) (pv t) = some (pv (gp_th s t)) := by
  have h := xL_up (body := f_X2_then_L1 (pv t) (pv s)) (fun k => (pv (fun i => if i < k then t (s i) else 0), nI (3 * k))) 8 (r := pv (gp_th s t)) (fun k hk => ?_) ?_
  · show xn (xL _ _) _ = _
    have e0 : (pv (fun i => if i < 0 then t (s i) else 0), nI (3 * 0)) = ((0 : Int32), (0 : Int32)) := by
      have : (fun i => if i < 0 then t (s i) else 0) = (fun _ : Nat => 0) := funext fun i => if_neg (Nat.not_lt_zero _)
      rw [this, pv_0]; rfl
    rw [← e0, xn_s h]
  · refine (xb_f ?_).trans ?_
    · rw [show (24 : Int32) = nI 24 from rfl, n_le (by omega) (by omega)]; omega
    · have h1 := hs k hk
      rw [pv_at hs hk, n_mul3, pv_at ht h1, n_add3]
      have h2 : pv (fun i => if i < k then t (s i) else 0) ||| (nI (t (s k)) <<< (nI (3 * k) &&& 31)) = pv (va_up (fun i => if i < k then t (s i) else 0) k (t (s k))) := pv_put (fun i hi => by
        show (if i < k then _ else _) < 8
        split
        · exact ht _ (hs i hi)
        · omega) hk (ht _ h1) (if_neg (Nat.lt_irrefl _))
      rw [h2]
      have h3 : va_up (fun i => if i < k then t (s i) else 0) k (t (s k)) = (fun i => if i < k + 1 then t (s i) else 0) := funext fun i => by
        unfold va_up
        by_cases e : i = k
        · rw [if_pos e, if_pos (by omega), e]
        · rw [if_neg e]
          show (if i < k then t (s i) else 0) = _
          by_cases w : i < k
          · rw [if_pos w, if_pos (by omega)]
          · rw [if_neg w, if_neg (by omega)]
      rw [h3, show 3 * k + 3 = 3 * (k + 1) by omega]
  · refine (xb_t ?_).trans ?_
    · exact Int32.le_refl _
    · have : pv (fun i => if i < 8 then t (s i) else 0) = pv (gp_th s t) := congrArg nI (pv_cong (fun i hi => if_pos hi))
      rw [this]
theorem mv_inv {s : Nat → Nat} (hs : gp_ok 8 s) : f_X2_inverse (pv s) = some (pv (gp_inv s)) := by
  have oi := gp_ok_inv hs
  have h := xL_up (body := f_X2_inverse_L1 (pv s)) (fun k => (pv (fun q => if gp_inv s q < k then gp_inv s q else 0), nI k)) 8 (r := pv (gp_inv s)) (fun k hk => ?_) ?_
  · show xn (xL _ _) _ = _
    have e0 : (pv (fun q => if gp_inv s q < 0 then gp_inv s q else 0), nI 0) = ((0 : Int32), (0 : Int32)) := by
      have : (fun q => if gp_inv s q < 0 then gp_inv s q else 0) = (fun _ : Nat => 0) := funext fun i => if_neg (Nat.not_lt_zero _)
      rw [this, pv_0]; rfl
    rw [← e0, xn_s h]
  · refine (xb_f ?_).trans ?_
    · rw [show (8 : Int32) = nI 8 from rfl, n_le (by omega) (by omega)]; omega
    · rw [n_mul3, pv_at hs.1 hk, n_mul3, n_add1]
      have hk8 := hs.1 k hk
      have hin : gp_inv s (s k) = k := gp_inv_l (Nat.le_refl _) hs k
      have h2 : pv (fun q => if gp_inv s q < k then gp_inv s q else 0) ||| (nI k <<< (nI (3 * s k) &&& 31)) = pv (va_up (fun q => if gp_inv s q < k then gp_inv s q else 0) (s k) k) := pv_put (fun i hi => by
        show (if gp_inv s i < k then _ else _) < 8
        split
        · exact oi.1 i hi
        · omega) hk8 hk (by rw [hin]; exact if_neg (Nat.lt_irrefl _))
      rw [h2]
      have h3 : va_up (fun q => if gp_inv s q < k then gp_inv s q else 0) (s k) k = (fun q => if gp_inv s q < k + 1 then gp_inv s q else 0) := funext fun i => by
        unfold va_up
        by_cases e : i = s k
        · rw [if_pos e, e, hin, if_pos (by omega)]
        · rw [if_neg e]
          have hne : gp_inv s i ≠ k := fun w => e ((gp_inv_eq (Nat.le_refl _) hs).mp w).symm
          show (if gp_inv s i < k then gp_inv s i else 0) = _
          by_cases w : gp_inv s i < k
          · rw [if_pos w, if_pos (by omega)]
          · rw [if_neg w, if_neg (by omega)]
      rw [h3]
  · refine (xb_t ?_).trans ?_
    · exact Int32.le_refl _
    · have : pv (fun q => if gp_inv s q < 8 then gp_inv s q else 0) = pv (gp_inv s) := congrArg nI (pv_cong (fun i hi => if_pos (oi.1 i hi)))
      rw [this]
-- images of sets
def im_n (s : Nat → Nat) (a : Nat) : Nat → Nat
  | 0 => 0
  | k + 1 => im_n s a k ||| (a / 2 ^ k % 2) * 2 ^ (s k)
def im (s : Nat → Nat) (a : Nat) : Nat := im_n s a 8
theorem im_tb (s : Nat → Nat) (a q : Nat) : ∀ k, (im_n s a k).testBit q = true ↔ ∃ p, p < k ∧ a.testBit p = true ∧ s p = q
  | 0 => by
    constructor
    · intro h; rw [show im_n s a 0 = 0 from rfl, Nat.zero_testBit] at h; cases h
    · rintro ⟨p, hp, -⟩; omega
  | k + 1 => by
    rw [im_n, Nat.testBit_or, Bool.or_eq_true, im_tb s a q k]
    have h1 : ((a / 2 ^ k % 2) * 2 ^ (s k)).testBit q = true ↔ a.testBit k = true ∧ s k = q := by
      rw [n_tb]
      by_cases w : a.testBit k = true
      · rw [w]; simp only [if_true, Nat.one_mul, Nat.testBit_two_pow, decide_eq_true_eq, true_and]
      · have w2 : a.testBit k = false := by simpa using w
        rw [w2]; simp
    rw [h1]
    constructor
    · rintro (⟨p, a1, a2⟩ | a1)
      · exact ⟨p, by omega, a2⟩
      · exact ⟨k, by omega, a1⟩
    · rintro ⟨p, a1, a2⟩
      rcases Nat.lt_or_ge p k with w | w
      · exact Or.inl ⟨p, w, a2⟩
      · rw [show p = k by omega] at a2; exact Or.inr a2
theorem im_zero {s : Nat → Nat} {a : Nat} {k : Nat} (h : a / 2 ^ k = 0) : ∀ d, im_n s a (k + d) = im_n s a k
  | 0 => rfl
  | d + 1 => by
    rw [← Nat.add_assoc, im_n, im_zero h d]
    have e : a / 2 ^ (k + d) = 0 := by rw [Nat.pow_add, ← Nat.div_div_eq_div_mul, h, Nat.zero_div]
    rw [e, Nat.zero_mod, Nat.zero_mul, Nat.or_zero]
theorem im_lt {s : Nat → Nat} (hs : ∀ i, i < 8 → s i < 8) (a : Nat) : ∀ k, k ≤ 8 → im_n s a k < 256
  | 0, _ => by show 0 < 256; omega
  | k + 1, hk => by
    rw [im_n]
    refine Nat.or_lt_two_pow (n := 8) (im_lt hs a k (by omega)) ?_
    have h1 : a / 2 ^ k % 2 ≤ 1 := by have := Nat.mod_lt (a / 2 ^ k) (show 0 < 2 by decide); omega
    have h2 : 2 ^ (s k) ≤ 2 ^ 7 := Nat.pow_le_pow_right (by decide) (by have := hs k (by omega); omega)
    have h3 : (a / 2 ^ k % 2) * 2 ^ (s k) ≤ 1 * 2 ^ 7 := Nat.mul_le_mul h1 h2
    omega
theorem mv_carry {s : Nat → Nat} (hs : ∀ i, i < 8 → s i < 8) {a : Nat} (ha : a < 256) : f_X2_carry (nI a) (pv s) = some (nI (im s a)) := by
  have hh := xL_for (body := f_X2_carry_L1 (pv s)) (P := fun r => r = nI (im s a)) (fun k z => z = (nI (im_n s a k), nI (a / 2 ^ k), nI (3 * k))) 8 (fun k z hk hz => ?_) (fun z hz => ?_) 8 0 rfl (nI (im_n s a 0), nI (a / 2 ^ 0), nI (3 * 0)) rfl
  · obtain ⟨r, h1, h2⟩ := hh
    show xn (xL _ _) _ = _
    have e0 : (nI (im_n s a 0), nI (a / 2 ^ 0), nI (3 * 0)) = ((0 : Int32), nI a, (0 : Int32)) := by rw [Nat.pow_zero, Nat.div_one]; rfl
    rw [← e0, xn_s h1, h2]
  · rw [hz]
    have hlt : a / 2 ^ k < 256 := Nat.lt_of_le_of_lt (Nat.div_le_self _ _) ha
    by_cases w : a / 2 ^ k = 0
    · refine Or.inr ⟨_, (xb_f (by rw [show (24 : Int32) = nI 24 from rfl, n_le (by omega) (by omega)]; omega)).trans (xb_t (by rw [w]; rfl)), ?_⟩
      have := im_zero (s := s) w (8 - k)
      rw [show k + (8 - k) = 8 by omega] at this
      show nI _ = nI _
      rw [im, this]
    · refine Or.inl ⟨_, (xb_f (by rw [show (24 : Int32) = nI 24 from rfl, n_le (by omega) (by omega)]; omega)).trans (xb_f (nI_ne0 (Nat.pos_of_ne_zero w) (Nat.lt_trans hlt (by decide)))), ?_⟩
      have e1 : nI (a / 2 ^ k) &&& (1 : Int32) = nI (a / 2 ^ k % 2) := n_and1
      have e2 : xus (nI (a / 2 ^ k)) (1 : Int32) = nI (a / 2 ^ (k + 1)) := by
        rw [show (1 : Int32) = nI 1 from rfl, n_ushr (Nat.lt_trans hlt (by decide)) (by omega), Nat.div_div_eq_div_mul, ← Nat.pow_add]
      rw [e1, e2, pv_at hs hk, n_shl (by have := hs k hk; omega), n_or, n_add3]
      rfl
  · rw [hz]
    exact ⟨_, xb_t (Int32.le_refl _), rfl⟩
-- moves as numbers with N figures
def cd_n (s : Nat → Nat) : Nat → Nat
  | 0 => 0
  | k + 1 => 10 * cd_n s k + s k
theorem cd_cong {s t : Nat → Nat} : ∀ {k : Nat}, (∀ i, i < k → s i = t i) → cd_n s k = cd_n t k
  | 0, _ => rfl
  | k + 1, h => by rw [cd_n, cd_n, cd_cong (fun i hi => h i (by omega)), h k (by omega)]
theorem cd_lt {s : Nat → Nat} : ∀ {k : Nat}, (∀ i, i < k → s i < 10) → cd_n s k < 10 ^ k
  | 0, _ => by show 0 < 1; omega
  | k + 1, h => by
    have h1 := cd_lt (k := k) (fun i hi => h i (by omega))
    have h2 := h k (by omega)
    rw [cd_n, Nat.pow_succ]
    omega
theorem cd_8 {s : Nat → Nat} {n : Nat} (hn : n ≤ 8) (h : ∀ i, i < n → s i < 10) : cd_n s n < 100000000 := by
  have h1 := cd_lt h
  have h2 : 10 ^ n ≤ 10 ^ 8 := Nat.pow_le_pow_right (by decide) hn
  have e : (10 : Nat) ^ 8 = 100000000 := by decide +kernel
  omega
theorem mv_write {s : Nat → Nat} (hs : ∀ i, i < 8 → s i < 8) {n : Nat} (hn : n ≤ 8) : f_X2_write (pv s) (nI n) = some (nI (cd_n s n)) := by
  have h := xL_up (body := f_X2_write_L1 (nI n) (pv s)) (fun k => (nI (cd_n s k), nI k)) n (r := nI (cd_n s n)) (fun k hk => ?_) ?_
  · show xn (xL _ _) _ = _
    have e0 : (nI (cd_n s 0), nI 0) = ((0 : Int32), (0 : Int32)) := rfl
    rw [← e0, xn_s h]
  · refine (xb_f ?_).trans ?_
    · rw [n_le (by omega) (by omega)]; omega
    · rw [xn_s (mv_at hs (p := k) (by omega))]
      show some _ = some _
      rw [show (10 : Int32) = nI 10 from rfl, n_mul, n_addn, n_add1]
      rfl
  · exact xb_t (Int32.le_refl _)

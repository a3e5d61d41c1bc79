-- bits of ints
def ib (x : Int32) (i : Nat) : Bool := x.toBitVec.getLsbD i
theorem ib_ext {x y : Int32} (h : ∀ i, i < 32 → ib x i = ib y i) : x = y := Int32.toBitVec_inj.mp (BitVec.eq_of_getLsbD_eq h)
theorem ib_or (x y : Int32) (i : Nat) : ib (x ||| y) i = (ib x i || ib y i) := by simp [ib]
theorem ib_and (x y : Int32) (i : Nat) : ib (x &&& y) i = (ib x i && ib y i) := by simp [ib]
theorem ib_xor (x y : Int32) (i : Nat) : ib (x ^^^ y) i = (ib x i ^^ ib y i) := by simp [ib]
theorem ib_m1 : ∀ i, i < 32 → ib (-1) i = true := by decide +kernel
theorem ib_n (a : Nat) {i : Nat} (hi : i < 32) : ib (nI a) i = a.testBit i := by
  show (BitVec.ofNat 32 a).getLsbD i = _
  rw [BitVec.getLsbD_ofNat]; simp [hi]
/-- a figure is taken away -/
theorem ib_clr {x y m : Int32} (h1 : x &&& m = 0) (h2 : y &&& m = y) : (x ||| y) &&& (m ^^^ (-1 : Int32)) = x := by
  refine ib_ext (fun i hi => ?_)
  rw [ib_and, ib_or, ib_xor, ib_m1 i hi]
  have e1 : (ib x i && ib m i) = false := by rw [← ib_and, h1]; simp [ib]
  have e2 : (ib y i && ib m i) = ib y i := by rw [← ib_and, h2]
  cases hx : ib x i <;> cases hy : ib y i <;> cases hm : ib m i <;> simp_all
theorem nt_and_mul (x y k : Nat) : x &&& (y * 2 ^ k) = ((x / 2 ^ k) &&& y) * 2 ^ k := by
  apply Nat.eq_of_testBit_eq
  intro i
  rw [Nat.testBit_and, Nat.testBit_mul_two_pow, Nat.testBit_mul_two_pow]
  by_cases h : k ≤ i
  · rw [Nat.testBit_and, Nat.testBit_div_two_pow]
    simp [h]
  · simp [h]
theorem nt_and7 (x : Nat) : x &&& 7 = x % 8 := by
  have := Nat.and_two_pow_sub_one_eq_mod x 3
  exact this
theorem pv_clr {d : Nat → Nat} (hd : ∀ i, i < 8 → d i < 8) {q : Nat} (hq : q < 8) : pv d &&& (((7 : Int32) <<< (nI (3 * q) &&& 31)) ^^^ (-1 : Int32)) = pv (va_up d q 0) := by
  have e8 : (2 : Nat) ^ (3 * q) = 8 ^ q := by rw [Nat.pow_mul]
  have hd0 : ∀ i, i < 8 → va_up d q 0 i < 8 := fun i hi => by unfold va_up; split; omega; exact hd i hi
  have ed : va_up (va_up d q 0) q (d q) = d := funext fun i => by
    unfold va_up; by_cases e : i = q
    · rw [if_pos e, e]
    · rw [if_neg e, if_neg e]
  have h1 := pv_put hd0 hq (hd q hq) (va_up_self d q 0)
  rw [ed] at h1
  rw [← h1, show (7 : Int32) = nI 7 from rfl, n_shl (by omega), n_shl (by omega)]
  refine ib_clr ?_ ?_
  · show nI _ &&& nI _ = 0
    rw [n_and, nt_and_mul, e8, nt_and7, pv_dig hd0 hq, va_up_self, Nat.zero_mul]; rfl
  · rw [n_and, nt_and_mul, Nat.mul_div_cancel _ (Nat.pow_pos (by decide)), nt_and7, Nat.mod_eq_of_lt (hd q hq)]
-- one-to-one and onto
theorem fs_inj {n : Nat} {f : Nat → Nat} (h2 : ∀ y, y < n → ∃ p, p < n ∧ f p = y) : ∀ p q, p < n → q < n → f p = f q → p = q := by
  have hh : ∃ h : Nat → Nat, ∀ y, y < n → h y < n ∧ f (h y) = y := by
    refine ⟨fun y => @dite _ (y < n) (Classical.propDecidable _) (fun w => (h2 y w).choose) (fun _ => 0), fun y hy => ?_⟩
    have : (@dite _ (y < n) (Classical.propDecidable _) (fun w => (h2 y w).choose) (fun _ => 0)) = (h2 y hy).choose := dif_pos hy
    exact Eq.mpr (congrArg (fun z => z < n ∧ f z = y) this) (h2 y hy).choose_spec
  obtain ⟨h, hh⟩ := hh
  have onto : ∀ p, p < n → ∃ y, y < n ∧ h y = p := fun p hp => fb_onto (fun i hi => (hh i hi).1) (fun i j hij hj e => by
    have a := (hh i (by omega)).2
    have b := (hh j hj).2
    rw [e, b] at a
    omega) hp
  intro p q hp hq e
  obtain ⟨y, hy, rfl⟩ := onto p hp
  obtain ⟨w, hw, rfl⟩ := onto q hq
  rw [(hh y hy).2, (hh w hw).2] at e
  rw [e]
-- numbers with n figures
def cf (n c p : Nat) : Nat := c / 10 ^ (n - 1 - p) % 10
/-- v tells the move s of n points -/
def isMv (n : Nat) (v : Int32) (s : Nat → Nat) : Prop := gp_ok n s ∧ v = nI (cd_n s n)
theorem cd_fig {s : Nat → Nat} : ∀ {n : Nat}, (∀ i, i < n → s i < 10) → ∀ p, p < n → cf n (cd_n s n) p = s p
  | 0, _, _, hp => absurd hp (Nat.not_lt_zero _)
  | n + 1, h, p, hp => by
    unfold cf
    rw [cd_n]
    have hn := h n (by omega)
    rcases Nat.lt_or_ge p n with q | q
    · have e : 10 ^ (n + 1 - 1 - p) = 10 * 10 ^ (n - 1 - p) := by rw [show n + 1 - 1 - p = (n - 1 - p) + 1 by omega, Nat.pow_succ, Nat.mul_comm]
      rw [e, ← Nat.div_div_eq_div_mul, show (10 * cd_n s n + s n) / 10 = cd_n s n by omega]
      exact cd_fig (fun i hi => h i (by omega)) p q
    · have e : n + 1 - 1 - p = 0 := by omega
      rw [e, Nat.pow_zero, Nat.div_one, show p = n by omega]
      omega
theorem cd_of_fig {n c : Nat} (hc : c < 10 ^ n) : cd_n (cf n c) n = c := by
  have key : ∀ k, k ≤ n → cd_n (cf n c) k = c / 10 ^ (n - k) := by
    intro k
    induction k with
    | zero => intro _; rw [Nat.sub_zero, Nat.div_eq_of_lt hc]; rfl
    | succ k ih =>
      intro hk
      rw [cd_n, ih (by omega)]
      unfold cf
      have e : 10 ^ (n - k) = 10 ^ (n - (k + 1)) * 10 := by rw [← Nat.pow_succ]; congr 1; omega
      rw [e, ← Nat.div_div_eq_div_mul, show n - 1 - k = n - (k + 1) by omega]
      omega
  rw [key n (Nat.le_refl _), Nat.sub_self, Nat.pow_zero, Nat.div_one]
theorem isMv_one {n : Nat} {v : Int32} {s t : Nat → Nat} (hn : n ≤ 8) (hs : isMv n v s) (ht : isMv n v t) : s = t := by
  have b1 : ∀ i, i < n → s i < 10 := fun i hi => by have := hs.1.1 i hi; omega
  have b2 : ∀ i, i < n → t i < 10 := fun i hi => by have := ht.1.1 i hi; omega
  have e : cd_n s n = cd_n t n := (nI_eq (by have := cd_8 hn b1; omega) (by have := cd_8 hn b2; omega)).mp (hs.2.symm.trans ht.2)
  funext i
  rcases Nat.lt_or_ge i n with q | q
  · rw [← cd_fig b1 i q, ← cd_fig b2 i q, e]
  · rw [hs.1.2.2 i q, ht.1.2.2 i q]
/-- the figures of c as a move -/
def cfm (n c : Nat) : Nat → Nat := fun p => if p < n then cf n c p else p
theorem isMv_iff {n c : Nat} (hn : n ≤ 8) (hc : c < 2 ^ 31) : (∃ s, isMv n (nI c) s) ↔ c < 10 ^ n ∧ gp_ok n (cfm n c) := by
  constructor
  · rintro ⟨s, h1, h2⟩
    have b1 : ∀ i, i < n → s i < 10 := fun i hi => by have := h1.1 i hi; omega
    have e : c = cd_n s n := (nI_eq hc (by have := cd_8 hn b1; omega)).mp h2
    refine ⟨by rw [e]; exact cd_lt b1, ?_⟩
    have : cfm n c = s := funext fun i => by
      unfold cfm
      by_cases q : i < n
      · rw [if_pos q, e]; exact cd_fig b1 i q
      · rw [if_neg q, h1.2.2 i (by omega)]
    rw [this]; exact h1
  · rintro ⟨h1, h2⟩
    refine ⟨cfm n c, h2, ?_⟩
    rw [cd_cong (s := cfm n c) (t := cf n c) (fun i hi => if_pos hi), cd_of_fig h1]
theorem isMv_cfm {n c : Nat} (h1 : c < 10 ^ n) (h2 : gp_ok n (cfm n c)) : isMv n (nI c) (cfm n c) := ⟨h2, by rw [cd_cong (s := cfm n c) (t := cf n c) (fun i hi => if_pos hi), cd_of_fig h1]⟩
theorem isMv_neg {n : Nat} {v : Int32} (hn : n ≤ 8) (hv : v < 0) (s : Nat → Nat) : ¬ isMv n v s := by
  rintro ⟨h1, h2⟩
  have := cd_8 hn (s := s) (fun i hi => by have := h1.1 i hi; omega)
  rw [h2] at hv
  exact nI_pos (by omega) hv
-- sets of figures as a mask
def mk_n (f : Nat → Nat) : Nat → Nat
  | 0 => 0
  | k + 1 => mk_n f k ||| 2 ^ (f k)
theorem mk_tb (f : Nat → Nat) (q : Nat) : ∀ k, (mk_n f k).testBit q = true ↔ ∃ p, p < k ∧ f p = q
  | 0 => by
    constructor
    · intro h; rw [show mk_n f 0 = 0 from rfl, Nat.zero_testBit] at h; cases h
    · rintro ⟨p, hp, -⟩; omega
  | k + 1 => by
    rw [mk_n, Nat.testBit_or, Bool.or_eq_true, mk_tb f q k, Nat.testBit_two_pow, decide_eq_true_eq]
    constructor
    · rintro (⟨p, a1, a2⟩ | a1)
      · exact ⟨p, by omega, a2⟩
      · exact ⟨k, by omega, a1⟩
    · rintro ⟨p, a1, a2⟩
      rcases Nat.lt_or_ge p k with w | w
      · exact Or.inl ⟨p, w, a2⟩
      · rw [show p = k by omega] at a2; exact Or.inr a2
theorem mk_lt {f : Nat → Nat} {m : Nat} : ∀ {k : Nat}, (∀ i, i < k → f i < m) → mk_n f k < 2 ^ m
  | 0, _ => Nat.pow_pos (by decide)
  | k + 1, h => Nat.or_lt_two_pow (mk_lt (fun i hi => h i (by omega))) (Nat.pow_lt_pow_right (by decide) (h k (by omega)))
theorem mk_full {f : Nat → Nat} {n : Nat} : mk_n f n = 2 ^ n - 1 ↔ (∀ p, p < n → f p < n) ∧ ∀ p q, p < n → q < n → f p = f q → p = q := by
  have tb : ∀ q, (2 ^ n - 1).testBit q = decide (q < n) := fun q => Nat.testBit_two_pow_sub_one n q
  constructor
  · intro h
    have h1 : ∀ q, (∃ p, p < n ∧ f p = q) ↔ q < n := fun q => by
      rw [← mk_tb f q n, h, tb q, decide_eq_true_eq]
    exact ⟨fun p hp => (h1 (f p)).mp ⟨p, hp, rfl⟩, fs_inj (fun y hy => (h1 y).mpr hy)⟩
  · rintro ⟨h1, h2⟩
    apply Nat.eq_of_testBit_eq
    intro q
    rw [tb q]
    by_cases w : q < n
    · have : (mk_n f n).testBit q = true := (mk_tb f q n).mpr (fb_onto h1 (fun i j hij hj e => by have := h2 i j (by omega) hj e; omega) w)
      rw [this]; simp [w]
    · have : ¬ (mk_n f n).testBit q = true := fun z => by
        obtain ⟨p, a, b⟩ := (mk_tb f q n).mp z
        have := h1 p a
        omega
      simp [w]
      simpa using this

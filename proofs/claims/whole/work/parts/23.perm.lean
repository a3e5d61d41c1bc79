-- moves of N points (at most 8), and what generators make
def gp_ok (N : Nat) (s : Nat → Nat) : Prop := (∀ p, p < N → s p < N) ∧ (∀ p q, p < N → q < N → s p = s q → p = q) ∧ ∀ p, N ≤ p → s p = p
def gp_id : Nat → Nat := fun p => p
def gp_th (s t : Nat → Nat) : Nat → Nat := fun p => t (s p)
def gp_pow (s : Nat → Nat) : Nat → Nat → Nat
  | 0 => gp_id
  | k + 1 => fun p => s (gp_pow s k p)
def gp_inv (s : Nat → Nat) : Nat → Nat := gp_pow s 839
theorem gp_th_id (s : Nat → Nat) : gp_th s gp_id = s := rfl
theorem gp_id_th (s : Nat → Nat) : gp_th gp_id s = s := rfl
theorem gp_as (s t u : Nat → Nat) : gp_th (gp_th s t) u = gp_th s (gp_th t u) := rfl
theorem gp_ok_id (N : Nat) : gp_ok N gp_id := ⟨fun _ h => h, fun _ _ _ _ h => h, fun _ _ => rfl⟩
theorem gp_ok_inj {N : Nat} {s : Nat → Nat} (h : gp_ok N s) {p q : Nat} (e : s p = s q) : p = q := by
  rcases Nat.lt_or_ge p N with hp | hp
  · rcases Nat.lt_or_ge q N with hq | hq
    · exact h.2.1 p q hp hq e
    · have h1 := h.1 p hp
      rw [e, h.2.2 q hq] at h1
      omega
  · rcases Nat.lt_or_ge q N with hq | hq
    · have h1 := h.1 q hq
      rw [← e, h.2.2 p hp] at h1
      omega
    · rw [h.2.2 p hp, h.2.2 q hq] at e
      exact e
theorem gp_ok_th {N : Nat} {s t : Nat → Nat} (hs : gp_ok N s) (ht : gp_ok N t) : gp_ok N (gp_th s t) :=
  ⟨fun p hp => ht.1 _ (hs.1 p hp), fun _ _ _ _ e => gp_ok_inj hs (gp_ok_inj ht e), fun p hp => by show t (s p) = p; rw [hs.2.2 p hp, ht.2.2 p hp]⟩
theorem gp_ok_pow {N : Nat} {s : Nat → Nat} (hs : gp_ok N s) : ∀ k, gp_ok N (gp_pow s k)
  | 0 => gp_ok_id N
  | k + 1 => gp_ok_th (gp_ok_pow hs k) hs
theorem gp_pow_add (s : Nat → Nat) : ∀ (a b p : Nat), gp_pow s (a + b) p = gp_pow s a (gp_pow s b p)
  | 0, b, p => by rw [Nat.zero_add]; rfl
  | a + 1, b, p => by
    rw [show a + 1 + b = (a + b) + 1 by omega]
    show s (gp_pow s (a + b) p) = s (gp_pow s a (gp_pow s b p))
    rw [gp_pow_add s a b p]
theorem gp_pow_mul {s : Nat → Nat} {k p : Nat} (h : gp_pow s k p = p) : ∀ m, gp_pow s (k * m) p = p
  | 0 => rfl
  | m + 1 => by rw [Nat.mul_succ, gp_pow_add, h, gp_pow_mul h m]
theorem gp_cycle {N : Nat} (hN : N ≤ 8) {s : Nat → Nat} (hs : gp_ok N s) (p : Nat) : ∃ k, 1 ≤ k ∧ k ≤ 8 ∧ gp_pow s k p = p := by
  rcases Nat.lt_or_ge p N with hp | hp
  · obtain ⟨i, j, h1, h2, h3⟩ := fb_twice (m := N) (n := N + 1) (f := fun i => gp_pow s i p) (fun i _ => (gp_ok_pow hs i).1 p hp) (Nat.lt_succ_self N)
    refine ⟨j - i, by omega, by omega, ?_⟩
    have h4 : gp_pow s i (gp_pow s (j - i) p) = gp_pow s i p := by
      rw [← gp_pow_add, show i + (j - i) = j by omega]; exact h3.symm
    exact gp_ok_inj (gp_ok_pow hs i) h4
  · exact ⟨1, by omega, by omega, hs.2.2 p hp⟩
theorem gp_840 {N : Nat} (hN : N ≤ 8) {s : Nat → Nat} (hs : gp_ok N s) (p : Nat) : gp_pow s 840 p = p := by
  obtain ⟨k, h1, h2, h3⟩ := gp_cycle hN hs p
  have h4 : k = 1 ∨ k = 2 ∨ k = 3 ∨ k = 4 ∨ k = 5 ∨ k = 6 ∨ k = 7 ∨ k = 8 := by omega
  rcases h4 with rfl | rfl | rfl | rfl | rfl | rfl | rfl | rfl
  · exact gp_pow_mul h3 840
  · exact gp_pow_mul h3 420
  · exact gp_pow_mul h3 280
  · exact gp_pow_mul h3 210
  · exact gp_pow_mul h3 168
  · exact gp_pow_mul h3 140
  · exact gp_pow_mul h3 120
  · exact gp_pow_mul h3 105
theorem gp_inv_r {N : Nat} (hN : N ≤ 8) {s : Nat → Nat} (hs : gp_ok N s) (p : Nat) : s (gp_inv s p) = p := gp_840 hN hs p
theorem gp_inv_l {N : Nat} (hN : N ≤ 8) {s : Nat → Nat} (hs : gp_ok N s) (p : Nat) : gp_inv s (s p) = p := gp_ok_inj hs (gp_inv_r hN hs (s p))
theorem gp_th_inv {N : Nat} (hN : N ≤ 8) {s : Nat → Nat} (hs : gp_ok N s) : gp_th s (gp_inv s) = gp_id := funext fun p => gp_inv_l hN hs p
theorem gp_inv_th {N : Nat} (hN : N ≤ 8) {s : Nat → Nat} (hs : gp_ok N s) : gp_th (gp_inv s) s = gp_id := funext fun p => gp_inv_r hN hs p
theorem gp_ok_inv {N : Nat} {s : Nat → Nat} (hs : gp_ok N s) : gp_ok N (gp_inv s) := gp_ok_pow hs 839
theorem gp_inv_eq {N : Nat} (hN : N ≤ 8) {s : Nat → Nat} (hs : gp_ok N s) {p q : Nat} : gp_inv s q = p ↔ s p = q := ⟨fun h => by rw [← h]; exact gp_inv_r hN hs q, fun h => by rw [← h]; exact gp_inv_l hN hs p⟩
-- products of generators
def gp_prod (g : Nat → Nat → Nat) : List Nat → Nat → Nat
  | [] => gp_id
  | i :: l => gp_th (g i) (gp_prod g l)
def gp_in (K : Nat) (g : Nat → Nat → Nat) (s : Nat → Nat) : Prop := ∃ l : List Nat, (∀ i ∈ l, i < K) ∧ s = gp_prod g l
theorem gp_prod_app (g : Nat → Nat → Nat) : ∀ a b : List Nat, gp_prod g (a ++ b) = gp_th (gp_prod g a) (gp_prod g b)
  | [], b => rfl
  | i :: a, b => by
    show gp_th (g i) (gp_prod g (a ++ b)) = _
    rw [gp_prod_app g a b]; rfl
theorem gp_in_id (K : Nat) (g : Nat → Nat → Nat) : gp_in K g gp_id := ⟨[], fun _ h => by simp at h, rfl⟩
theorem gp_in_gen {K : Nat} (g : Nat → Nat → Nat) {i : Nat} (h : i < K) : gp_in K g (g i) := ⟨[i], fun j hj => by simp at hj; omega, rfl⟩
theorem gp_in_th {K : Nat} {g : Nat → Nat → Nat} {s t : Nat → Nat} (hs : gp_in K g s) (ht : gp_in K g t) : gp_in K g (gp_th s t) := by
  obtain ⟨a, ha, rfl⟩ := hs
  obtain ⟨b, hb, rfl⟩ := ht
  exact ⟨a ++ b, fun i hi => (List.mem_append.mp hi).elim (ha i) (hb i), (gp_prod_app g a b).symm⟩
theorem gp_in_pow {K : Nat} {g : Nat → Nat → Nat} {s : Nat → Nat} (hs : gp_in K g s) : ∀ k, gp_in K g (gp_pow s k)
  | 0 => gp_in_id K g
  | k + 1 => gp_in_th (gp_in_pow hs k) hs
theorem gp_in_inv {K : Nat} {g : Nat → Nat → Nat} {s : Nat → Nat} (hs : gp_in K g s) : gp_in K g (gp_inv s) := gp_in_pow hs 839
theorem gp_in_ok {N K : Nat} {g : Nat → Nat → Nat} (hg : ∀ i, i < K → gp_ok N (g i)) {s : Nat → Nat} (hs : gp_in K g s) : gp_ok N s := by
  obtain ⟨l, hl, rfl⟩ := hs
  induction l with
  | nil => exact gp_ok_id N
  | cons i l ih => exact gp_ok_th (hg i (hl i List.mem_cons_self)) (ih (fun j hj => hl j (List.mem_cons_of_mem _ hj)))
/-- what holds of the one that leaves all and goes on by each generator behind, holds of all -/
theorem gp_in_ind {K : Nat} {g : Nat → Nat → Nat} {P : (Nat → Nat) → Prop} (h0 : P gp_id) (hs : ∀ s, P s → ∀ i, i < K → P (gp_th s (g i))) {s : Nat → Nat} (h : gp_in K g s) : P s := by
  obtain ⟨l, hl, rfl⟩ := h
  have key : ∀ (l : List Nat), (∀ i ∈ l, i < K) → ∀ s, P s → P (gp_th s (gp_prod g l)) := by
    intro l
    induction l with
    | nil => intro _ s h; exact h
    | cons i l ih =>
      intro hl s h
      exact ih (fun j hj => hl j (List.mem_cons_of_mem _ hj)) _ (hs s h i (hl i List.mem_cons_self))
  exact key l hl gp_id h0
/-- those that leave all points less than p -/
def gp_at (K : Nat) (g : Nat → Nat → Nat) (p : Nat) (s : Nat → Nat) : Prop := gp_in K g s ∧ ∀ i, i < p → s i = i
theorem gp_at_id (K : Nat) (g : Nat → Nat → Nat) (p : Nat) : gp_at K g p gp_id := ⟨gp_in_id K g, fun _ _ => rfl⟩
theorem gp_at_th {K : Nat} {g : Nat → Nat → Nat} {p : Nat} {s t : Nat → Nat} (hs : gp_at K g p s) (ht : gp_at K g p t) : gp_at K g p (gp_th s t) := ⟨gp_in_th hs.1 ht.1, fun i hi => by show t (s i) = i; rw [hs.2 i hi, ht.2 i hi]⟩
theorem gp_at_inv {N K : Nat} (hN : N ≤ 8) {g : Nat → Nat → Nat} (hg : ∀ i, i < K → gp_ok N (g i)) {p : Nat} {s : Nat → Nat} (hs : gp_at K g p s) : gp_at K g p (gp_inv s) := ⟨gp_in_inv hs.1, fun i hi => (gp_inv_eq hN (gp_in_ok hg hs.1)).mpr (hs.2 i hi)⟩
theorem gp_at_le {K : Nat} {g : Nat → Nat → Nat} {p q : Nat} (h : p ≤ q) {s : Nat → Nat} (hs : gp_at K g q s) : gp_at K g p s := ⟨hs.1, fun i hi => hs.2 i (by omega)⟩
theorem gp_at_0 {K : Nat} {g : Nat → Nat → Nat} {s : Nat → Nat} (hs : gp_in K g s) : gp_at K g 0 s := ⟨hs, fun _ h => absurd h (Nat.not_lt_zero _)⟩
theorem gp_at_all {N K : Nat} {g : Nat → Nat → Nat} (hg : ∀ i, i < K → gp_ok N (g i)) {p : Nat} (hp : N ≤ p) {s : Nat → Nat} (hs : gp_at K g p s) : s = gp_id := funext fun i => by
  rcases Nat.lt_or_ge i p with h | h
  · exact hs.2 i h
  · exact (gp_in_ok hg hs.1).2.2 i (by omega)
/-- a point is moved to no lesser one by those that leave all lesser ones -/
theorem gp_at_ge {N K : Nat} {g : Nat → Nat → Nat} (hg : ∀ i, i < K → gp_ok N (g i)) {p : Nat} {s : Nat → Nat} (hs : gp_at K g p s) : p ≤ s p := by
  rcases Nat.lt_or_ge (s p) p with h | h
  · have := gp_ok_inj (gp_in_ok hg hs.1) (hs.2 (s p) h)
    omega
  · exact h
-- tables of steps
/-- products of steps: of the points 7 down to 8 - k -/
def gp_S (tb : Nat → Nat → Option (Nat → Nat)) : Nat → (Nat → Nat) → Prop
  | 0, s => s = gp_id
  | k + 1, s => ∃ (q : Nat) (t s' : Nat → Nat), tb (7 - k) q = some t ∧ gp_S tb k s' ∧ s = gp_th s' t
def gp_tb (N K : Nat) (g : Nat → Nat → Nat) (tb : Nat → Nat → Option (Nat → Nat)) : Prop :=
  (∀ p, p < 8 → tb p p = some gp_id) ∧ ∀ p q t, tb p q = some t → p < 8 ∧ gp_at K g p t ∧ t p = q
theorem gp_S_id {N K : Nat} {g : Nat → Nat → Nat} {tb : Nat → Nat → Option (Nat → Nat)} (h : gp_tb N K g tb) : ∀ k, gp_S tb k gp_id
  | 0 => rfl
  | k + 1 => ⟨7 - k, gp_id, gp_id, h.1 _ (by omega), gp_S_id h k, rfl⟩
theorem gp_S_at {N K : Nat} {g : Nat → Nat → Nat} {tb : Nat → Nat → Option (Nat → Nat)} (h : gp_tb N K g tb) : ∀ k, k ≤ 8 → ∀ s, gp_S tb k s → gp_at K g (8 - k) s
  | 0, _, s, hs => by
    have hs : s = gp_id := hs
    rw [hs]; exact gp_at_id K g _
  | k + 1, hk, s, hs => by
    obtain ⟨q, t, s', h1, h2, rfl⟩ := hs
    have h3 := gp_S_at h k (by omega) s' h2
    have h4 := (h.2 _ _ _ h1).2.1
    rw [show 8 - (k + 1) = 7 - k by omega]
    exact gp_at_th (gp_at_le (by omega) h3) h4
theorem gp_S_mono {tb tb' : Nat → Nat → Option (Nat → Nat)} (h : ∀ p q t, tb p q = some t → tb' p q = some t) : ∀ k s, gp_S tb k s → gp_S tb' k s
  | 0, _, hs => hs
  | k + 1, s, hs => by
    obtain ⟨q, t, s', h1, h2, h3⟩ := hs
    exact ⟨q, t, s', h _ _ _ h1, gp_S_mono h k s' h2, h3⟩
/-- one that leaves the next point, too, is made of the other steps -/
theorem gp_S_down {N K : Nat} {g : Nat → Nat → Nat} {tb : Nat → Nat → Option (Nat → Nat)} (h : gp_tb N K g tb) {k : Nat} (hk : k < 8) {s : Nat → Nat} (hs : gp_S tb (k + 1) s) (hp : s (7 - k) = 7 - k) : gp_S tb k s := by
  obtain ⟨q, t, s', h1, h2, rfl⟩ := hs
  have h3 := (gp_S_at h k (by omega) s' h2).2 (7 - k) (by omega)
  have h4 := (h.2 _ _ _ h1).2.2
  have h5 : t (s' (7 - k)) = 7 - k := hp
  rw [h3, h4] at h5
  rw [h5, h.1 _ (by omega)] at h1
  have h6 : t = gp_id := (Option.some.inj h1).symm
  rw [h6]; exact h2
theorem gp_S_downs {N K : Nat} {g : Nat → Nat → Nat} {tb : Nat → Nat → Option (Nat → Nat)} (h : gp_tb N K g tb) {s : Nat → Nat} (hs : gp_S tb 8 s) {p : Nat} (hf : ∀ i, i < p → s i = i) : ∀ d, d ≤ p → d ≤ 8 → gp_S tb (8 - d) s
  | 0, _, _ => hs
  | d + 1, hd, h8 => by
    have h1 := gp_S_downs h hs hf d (by omega) (by omega)
    rw [show 8 - d = (8 - (d + 1)) + 1 by omega] at h1
    exact gp_S_down h (by omega) h1 (by rw [show 7 - (8 - (d + 1)) = d by omega]; exact hf d (by omega))
/-- closed: each product of two steps, the first of a point not greater, is made of steps -/
def gp_cl (tb : Nat → Nat → Option (Nat → Nat)) : Prop := ∀ p q t p' q' t', tb p q = some t → tb p' q' = some t' → p ≤ p' → gp_S tb 8 (gp_th t t')
theorem gp_S_th {N K : Nat} {g : Nat → Nat → Nat} {tb : Nat → Nat → Option (Nat → Nat)} (h : gp_tb N K g tb) (hc : gp_cl tb) : ∀ k, k ≤ 8 → ∀ s, gp_S tb k s → ∀ u, gp_S tb k u → gp_S tb k (gp_th s u)
  | 0, _, s, hs, u, hu => by
    have hs : s = gp_id := hs
    have hu : u = gp_id := hu
    rw [hs, hu]; exact rfl
  | k + 1, hk, s, hs, u, hu => by
    have ih := gp_S_th h hc k (by omega)
    -- a step of this point, then one made of those of greater points
    have key : ∀ j, j ≤ k → ∀ v, gp_S tb j v → ∀ q t, tb (7 - k) q = some t → ∃ q2 t2 s2, tb (7 - k) q2 = some t2 ∧ gp_S tb k s2 ∧ gp_th t v = gp_th s2 t2 := by
      intro j
      induction j with
      | zero =>
        intro _ v hv q t ht
        have hv : v = gp_id := hv
        rw [hv]
        exact ⟨q, t, gp_id, ht, gp_S_id h k, rfl⟩
      | succ j ihj =>
        intro hj v hv q t ht
        obtain ⟨q1, t1, v1, h1, h2, rfl⟩ := hv
        obtain ⟨q2, t2, s2, h3, h4, h5⟩ := ihj (by omega) v1 h2 q t ht
        have h6 := hc _ _ _ _ _ _ h3 h1 (by omega)
        have h7 := (h.2 _ _ _ h3).2.1
        have h8 := (h.2 _ _ _ h1).2.1
        have h9 := gp_S_downs h h6 (p := 7 - k) (gp_at_th h7 (gp_at_le (by omega) h8)).2 (7 - k) (Nat.le_refl _) (by omega)
        rw [show 8 - (7 - k) = k + 1 by omega] at h9
        obtain ⟨q3, t3, s3, g1, g2, g3⟩ := h9
        refine ⟨q3, t3, gp_th s2 s3, g1, ih s2 h4 s3 g2, ?_⟩
        show gp_th (gp_th t v1) t1 = gp_th s2 (gp_th s3 t3)
        rw [← g3, h5]
        rfl
    obtain ⟨q1, t1, s1, h1, h2, rfl⟩ := hs
    obtain ⟨q2, t2, s2, h3, h4, rfl⟩ := hu
    obtain ⟨q3, t3, s3, h5, h6, h7⟩ := key k (Nat.le_refl _) s2 h4 q1 t1 h1
    have h8 := hc _ _ _ _ _ _ h5 h3 (Nat.le_refl _)
    have h9 := gp_S_downs h h8 (p := 7 - k) (gp_at_th (h.2 _ _ _ h5).2.1 (h.2 _ _ _ h3).2.1).2 (7 - k) (Nat.le_refl _) (by omega)
    rw [show 8 - (7 - k) = k + 1 by omega] at h9
    obtain ⟨q4, t4, s4, g1, g2, g3⟩ := h9
    refine ⟨q4, t4, gp_th s1 (gp_th s3 s4), g1, ih _ h2 _ (ih _ h6 _ g2), ?_⟩
    rw [gp_as s1 t1, ← gp_as t1 s2 t2, h7, gp_as s3 t3 t2, g3]
    rfl
theorem gp_S_all {N K : Nat} {g : Nat → Nat → Nat} {tb : Nat → Nat → Option (Nat → Nat)} (h : gp_tb N K g tb) (hc : gp_cl tb) (hg : ∀ i, i < K → gp_S tb 8 (g i)) {s : Nat → Nat} (hs : gp_in K g s) : gp_S tb 8 s :=
  gp_in_ind (P := gp_S tb 8) (gp_S_id h 8) (fun s h1 i hi => gp_S_th h hc 8 (Nat.le_refl _) s h1 _ (hg i hi)) hs
/-- the chains: a point is moved to q by those that leave all lesser ones if and only if the table has that step -/
theorem gp_chain {N K : Nat} {g : Nat → Nat → Nat} {tb : Nat → Nat → Option (Nat → Nat)} (h : gp_tb N K g tb) (hc : gp_cl tb) (hg : ∀ i, i < K → gp_S tb 8 (g i)) {p q : Nat} (hp : p < 8) : (∃ s, gp_at K g p s ∧ s p = q) ↔ ∃ t, tb p q = some t := by
  constructor
  · rintro ⟨s, h1, h2⟩
    have h3 := gp_S_downs h (gp_S_all h hc hg h1.1) (p := p) h1.2 p (Nat.le_refl _) (by omega)
    rw [show 8 - p = (7 - p) + 1 by omega] at h3
    obtain ⟨q1, t, s', g1, g2, rfl⟩ := h3
    rw [show 7 - (7 - p) = p by omega] at g1
    have g3 := (gp_S_at h (7 - p) (by omega) s' g2).2 p (by omega)
    have g4 := (h.2 _ _ _ g1).2.2
    have g5 : t (s' p) = q := h2
    rw [g3, g4] at g5
    exact ⟨t, by rw [← g5]; exact g1⟩
  · rintro ⟨t, ht⟩
    exact ⟨t, (h.2 _ _ _ ht).2.1, (h.2 _ _ _ ht).2.2⟩

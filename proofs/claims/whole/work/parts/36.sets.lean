-- sets of points as bits
def popc (a : Nat) : Nat := fb_ct (fun q => a.testBit q) 8
theorem tb_hi {a i : Nat} (ha : a < 256) (hi : 8 ≤ i) : a.testBit i = false := Nat.testBit_lt_two_pow (Nat.lt_of_lt_of_le ha (by have : 2 ^ 8 ≤ 2 ^ i := Nat.pow_le_pow_right (by decide) hi; omega))
theorem tb_ext {a b : Nat} (ha : a < 256) (hb : b < 256) (h : ∀ i, i < 8 → (a.testBit i = true ↔ b.testBit i = true)) : a = b := Nat.eq_of_testBit_eq (fun i => by
  rcases Nat.lt_or_ge i 8 with w | w
  · have := h i w
    cases e : b.testBit i with
    | true => exact this.mpr e
    | false =>
      cases e2 : a.testBit i with
      | true => rw [this.mp e2] at e; cases e
      | false => rfl
  · rw [tb_hi ha w, tb_hi hb w])
theorem im_lt256 {s : Nat → Nat} (hs : gp_ok 8 s) (a : Nat) : im s a < 256 := im_lt hs.1 a 8 (Nat.le_refl _)
theorem im_bit {s : Nat → Nat} (a q : Nat) : (im s a).testBit q = true ↔ ∃ p, p < 8 ∧ a.testBit p = true ∧ s p = q := im_tb s a q 8
theorem im_at {s : Nat → Nat} (hs : gp_ok 8 s) {a p : Nat} (hp : p < 8) : (im s a).testBit (s p) = true ↔ a.testBit p = true := by
  rw [im_bit]
  exact ⟨fun ⟨c, h1, h2, h3⟩ => by rw [← gp_ok_inj hs h3]; exact h2, fun h => ⟨p, hp, h, rfl⟩⟩
theorem im_id {a : Nat} (ha : a < 256) : im gp_id a = a := tb_ext (im_lt256 (gp_ok_id 8) a) ha (fun i hi => im_at (gp_ok_id 8) hi)
theorem im_th {s t : Nat → Nat} (hs : gp_ok 8 s) (ht : gp_ok 8 t) (a : Nat) : im (gp_th s t) a = im t (im s a) := by
  refine tb_ext (im_lt256 (gp_ok_th hs ht) a) (im_lt256 ht _) (fun i _ => ?_)
  rw [im_bit, im_bit]
  constructor
  · rintro ⟨p, h1, h2, h3⟩
    exact ⟨s p, hs.1 p h1, (im_at hs h1).mpr h2, h3⟩
  · rintro ⟨c, h1, h2, h3⟩
    obtain ⟨p, a1, a2, a3⟩ := im_bit a c |>.mp h2
    exact ⟨p, a1, a2, by show t (s p) = i; rw [a3]; exact h3⟩
theorem im_inv {s : Nat → Nat} (hs : gp_ok 8 s) {a b : Nat} (ha : a < 256) (h : im s a = b) : im (gp_inv s) b = a := by
  rw [← h, ← im_th hs (gp_ok_inv hs), gp_th_inv (Nat.le_refl 8) hs, im_id ha]
theorem im_popc {s : Nat → Nat} (hs : gp_ok 8 s) (a : Nat) : popc (im s a) = popc a := by
  unfold popc
  rw [← ct_perm 8 (s := s) hs.1 hs.2.1 (fun q => (im s a).testBit q)]
  refine fb_ct_cong (fun p hp => ?_)
  cases e : a.testBit p with
  | true => exact (im_at hs hp).mpr e
  | false =>
    cases e2 : (im s a).testBit (s p) with
    | true => rw [(im_at hs hp).mp e2] at e; cases e
    | false => rfl
theorem lt_bits {N a : Nat} (hN : N ≤ 8) (ha : a < 256) : a < 2 ^ N ↔ ∀ i, i < 8 → a.testBit i = true → i < N := by
  constructor
  · intro h i _ e
    rcases Nat.lt_or_ge i N with w | w
    · exact w
    · rw [Nat.testBit_lt_two_pow (Nat.lt_of_lt_of_le h (Nat.pow_le_pow_right (by decide) w))] at e; cases e
  · intro h
    apply Nat.lt_pow_two_of_testBit
    intro i hi
    cases e : a.testBit i with
    | false => rfl
    | true =>
      rcases Nat.lt_or_ge i 8 with w | w
      · have := h i w e; omega
      · rw [tb_hi ha w] at e; cases e
theorem im_ltN {N : Nat} (hN : N ≤ 8) {s : Nat → Nat} (hs : gp_ok N s) {a : Nat} (ha : a < 2 ^ N) : im s a < 2 ^ N := by
  have hs8 := gp_ok_8 hN hs
  have ha8 : a < 256 := Nat.lt_of_lt_of_le ha (by have : 2 ^ N ≤ 2 ^ 8 := Nat.pow_le_pow_right (by decide) hN; omega)
  refine (lt_bits hN (im_lt256 hs8 a)).mpr (fun i _ e => ?_)
  obtain ⟨p, h1, h2, h3⟩ := im_bit a i |>.mp e
  rw [← h3]
  exact hs.1 p ((lt_bits hN ha8).mp ha p h1 h2)
/-- a is carried to b -/
def orb (K : Nat) (g : Nat → Nat → Nat) (a b : Nat) : Prop := ∃ s, gp_in K g s ∧ im s a = b
section ORB
variable {N K : Nat} {g : Nat → Nat → Nat}
theorem orb_rf (K : Nat) (g : Nat → Nat → Nat) {a : Nat} (ha : a < 256) : orb K g a a := ⟨gp_id, gp_in_id K g, im_id ha⟩
theorem orb_sy (hN : N ≤ 8) (hg : ∀ i, i < K → gp_ok N (g i)) {a b : Nat} (ha : a < 256) (h : orb K g a b) : orb K g b a := by
  obtain ⟨s, h1, h2⟩ := h
  exact ⟨gp_inv s, gp_in_inv h1, im_inv (gp_ok_8 hN (gp_in_ok hg h1)) ha h2⟩
theorem orb_tr (hN : N ≤ 8) (hg : ∀ i, i < K → gp_ok N (g i)) {a b c : Nat} (h : orb K g a b) (h' : orb K g b c) : orb K g a c := by
  obtain ⟨s, h1, h2⟩ := h
  obtain ⟨t, h3, h4⟩ := h'
  exact ⟨gp_th s t, gp_in_th h1 h3, by rw [im_th (gp_ok_8 hN (gp_in_ok hg h1)) (gp_ok_8 hN (gp_in_ok hg h3)), h2, h4]⟩
theorem orb_lt (hN : N ≤ 8) (hg : ∀ i, i < K → gp_ok N (g i)) {a b : Nat} (ha : a < 2 ^ N) (h : orb K g a b) : b < 2 ^ N := by
  obtain ⟨s, h1, rfl⟩ := h
  exact im_ltN hN (gp_in_ok hg h1) ha
theorem orb_pop (hN : N ≤ 8) (hg : ∀ i, i < K → gp_ok N (g i)) {a b : Nat} (h : orb K g a b) : popc b = popc a := by
  obtain ⟨s, h1, rfl⟩ := h
  exact im_popc (gp_ok_8 hN (gp_in_ok hg h1)) a
end ORB
theorem p2_8 {N : Nat} (hN : N ≤ 8) : 2 ^ N ≤ 256 := by have : 2 ^ N ≤ 2 ^ 8 := Nat.pow_le_pow_right (by decide) hN; omega
theorem p2_1 (N : Nat) : 1 ≤ 2 ^ N := Nat.pow_pos (by decide)
-- the order of sets
def tr8 (a : Nat) : Nat := (a % 2) * 128 + (a / 2 % 2) * 64 + (a / 4 % 2) * 32 + (a / 8 % 2) * 16 + (a / 16 % 2) * 8 + (a / 32 % 2) * 4 + (a / 64 % 2) * 2 + (a / 128 % 2)
theorem tr8_ok : ∀ a, a < 256 → tr8 a < 256 ∧ tr8 (tr8 a) = a := by decide +kernel
def allL : List Nat := (List.range 256).reverse.map tr8
/-- the sets with z points of N, those ahead first -/
def ordL (N z : Nat) : List Nat := allL.filter (fun a => decide (a < 2 ^ N) && (popc a == z))
/-- all sets of N points, by size -/
def ordA (N : Nat) : Nat → List Nat
  | 0 => []
  | z + 1 => ordA N z ++ ordL N z
theorem allL_mem {a : Nat} : a ∈ allL ↔ a < 256 := by
  unfold allL
  rw [List.mem_map]
  constructor
  · rintro ⟨b, h1, rfl⟩
    rw [List.mem_reverse, List.mem_range] at h1
    exact (tr8_ok b h1).1
  · intro h
    exact ⟨tr8 a, by rw [List.mem_reverse, List.mem_range]; exact (tr8_ok a h).1, (tr8_ok a h).2⟩
theorem ordL_mem {N z a : Nat} (hN : N ≤ 8) : a ∈ ordL N z ↔ a < 2 ^ N ∧ popc a = z := by
  unfold ordL
  rw [List.mem_filter, allL_mem, Bool.and_eq_true, decide_eq_true_eq, beq_iff_eq]
  exact ⟨fun h => h.2, fun h => ⟨by have := p2_8 hN; omega, h⟩⟩
theorem popc_le (a : Nat) : popc a ≤ 8 := fb_ct_le _ _
theorem popc_N : ∀ N, N < 9 → ∀ a, a < 2 ^ N → popc a ≤ N := by
  intro N hN a ha
  unfold popc
  rw [show 8 = N + (8 - N) by omega, fb_ct_split]
  have h0 : fb_ct (fun k => a.testBit (N + k)) (8 - N) = 0 := fb_ct_zero.mpr (fun k _ => Nat.testBit_lt_two_pow (Nat.lt_of_lt_of_le ha (Nat.pow_le_pow_right (by decide) (by omega))))
  rw [h0]
  exact fb_ct_le _ _
theorem ordA_mem {N a : Nat} (hN : N ≤ 8) : ∀ z, a ∈ ordA N z ↔ a < 2 ^ N ∧ popc a < z
  | 0 => by
    rw [ordA]
    exact ⟨fun h => by simp at h, fun h => absurd h.2 (Nat.not_lt_zero _)⟩
  | z + 1 => by
    rw [ordA, List.mem_append, ordA_mem hN z, ordL_mem hN]
    constructor
    · rintro (h | h)
      · exact ⟨h.1, by omega⟩
      · exact ⟨h.1, by omega⟩
    · intro h
      rcases Nat.lt_or_ge (popc a) z with w | w
      · exact Or.inl ⟨h.1, w⟩
      · exact Or.inr ⟨h.1, by omega⟩
theorem allL_nd : allL.Nodup := by decide +kernel
theorem ordL_nd (N z : Nat) : (ordL N z).Nodup := allL_nd.filter _
theorem ordA_nd {N : Nat} (hN : N ≤ 8) : ∀ z, (ordA N z).Nodup
  | 0 => List.nodup_nil
  | z + 1 => List.nodup_append.mpr ⟨ordA_nd hN z, ordL_nd N z, fun a ha b hb e => by
    have h1 := (ordA_mem hN z).mp ha
    have h2 := (ordL_mem hN).mp hb
    rw [e] at h1
    omega⟩
theorem ordL_empty {N z : Nat} (hN : N ≤ 8) (hz : N < z) : ordL N z = [] := List.eq_nil_iff_forall_not_mem.mpr (fun a ha => by
  have h := (ordL_mem hN).mp ha
  have := popc_N N (by omega) a h.1
  omega)
theorem ordA_all {N : Nat} (hN : N ≤ 8) : ∀ d, ordA N (N + 1 + d) = ordA N (N + 1)
  | 0 => rfl
  | d + 1 => by rw [← Nat.add_assoc, ordA, ordA_all hN d, ordL_empty hN (by omega), List.append_nil]
theorem ordA_len : ∀ N, N < 9 → (ordA N (N + 1)).length = 2 ^ N := by decide +kernel
-- rows of arrays
def rowL (f : Nat → Int32) (l : List Nat) : Prop := ∀ i a, l[i]? = some a → f i = nI a
theorem rowL_nil (f : Nat → Int32) : rowL f [] := fun i a h => by simp at h
theorem rowL_add {f : Nat → Int32} {l : List Nat} (h : rowL f l) (x : Nat) : rowL (upd f l.length (nI x)) (l ++ [x]) := fun i a e => by
  rcases Nat.lt_or_ge i l.length with w | w
  · rw [up_n (by omega)]
    rw [List.getElem?_append_left w] at e
    exact h i a e
  · rw [List.getElem?_append_right w] at e
    have hi : i = l.length := by
      have := (List.getElem?_eq_some_iff.mp e).1
      simp at this
      omega
    subst hi
    rw [Nat.sub_self] at e
    cases e
    exact up_s
/-- the first of a list in an orbit -/
noncomputable def fdO (K : Nat) (g : Nat → Nat → Nat) (l : List Nat) (a : Nat) : Option Nat := l.find? (fun b => ct_b (orb K g b a))
theorem fdO_app (K : Nat) (g : Nat → Nat → Nat) (l m : List Nat) (a : Nat) : fdO K g (l ++ m) a = (fdO K g l a).or (fdO K g m a) := List.find?_append
theorem fdO_some {K : Nat} {g : Nat → Nat → Nat} {l : List Nat} {a b : Nat} (h : fdO K g l a = some b) : b ∈ l ∧ orb K g b a := ⟨List.mem_of_find?_eq_some h, ct_bt.mp (List.find?_some (p := fun b => ct_b (orb K g b a)) h)⟩
theorem fdO_none {K : Nat} {g : Nat → Nat → Nat} {l : List Nat} {a : Nat} : fdO K g l a = none ↔ ∀ b ∈ l, ¬ orb K g b a := by
  unfold fdO
  rw [List.find?_eq_none]
  exact ⟨fun h b hb w => h b hb (ct_bt.mpr w), fun h b hb w => h b hb (ct_bt.mp w)⟩
theorem fdO_one {K : Nat} {g : Nat → Nat → Nat} {x a : Nat} (h : orb K g x a) : fdO K g [x] a = some x := by
  unfold fdO
  rw [List.find?_cons, ct_bt.mpr h]
theorem fdO_one' {K : Nat} {g : Nat → Nat → Nat} {x a : Nat} (h : ¬ orb K g x a) : fdO K g [x] a = none := fdO_none.mpr (fun b hb => by rw [List.mem_singleton.mp hb]; exact h)
def opI (o : Option Nat) : Int32 := match o with
  | none => -1
  | some b => nI b

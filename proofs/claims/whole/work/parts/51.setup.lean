/-- the latest past setup comes back, on both sides -/
theorem p_pop {P : Nat} {z_count : Int32} {ra rb : Nat → Nat} {rn rc : Nat → Int32} {rg : Nat → Nat → Int32} {past : Nat → Int32} {pasts : Int32} (h : pst (P + 1) z_count rn rc rg past pasts) (n c : Int32) (f now : Nat → Int32) :
    ∃ n' c' f' now' N K g, f_X5_pop z_count ra rb rn rc rg n c f = some (nI P, n', c', f') ∧ xL (f_X8_back_L1 pasts past) (now, (0 : Int32)) = some now' ∧ cN N K g n' c' f' ∧ mN N K g now' ∧ pst P (nI P) rn rc rg past (nI P) := by
  obtain ⟨h1, rfl, rfl, h4⟩ := h
  obtain ⟨N, K, g, hC, hM⟩ := h4 P (by omega)
  have e1 : nI (P + 1) - (1 : Int32) = nI P := n_sub1 (by omega)
  let I : Nat → (Nat → Int32) × Int32 → Prop := fun k z => ∃ h, z = (h, nI k) ∧ ∀ i, i < k → h i = past (5 * P + i)
  have hh := xL_for (body := f_X8_back_L1 (nI (P + 1)) past) (P := fun h => ∀ i, i < 5 → h i = past (5 * P + i)) I 5 (fun k z hk hz => Or.inl ?_) (fun z hz => ?_) 5 0 (Nat.zero_add _) (now, (0 : Int32)) ⟨now, rfl, fun i hi => absurd hi (Nat.not_lt_zero _)⟩
  · obtain ⟨now', y1, y2⟩ := hh
    refine ⟨rn P, rc P, va_cpy (rg P) f 0 0 3, now', N, K, g, ?_, y1, cN_cong hC (fun i hi => cpy3 hi), mN_cong hM y2, by omega, rfl, rfl, fun i hi => h4 i (by omega)⟩
    refine (xb_f (by rw [show (0 : Int32) = nI 0 from rfl, n_le (by omega) (by omega)]; omega)).trans ?_
    rw [e1]
    exact (xn_s (xi_s (n := 5) (k := P) (by omega) (by omega))).trans rfl
  · obtain ⟨h, rfl, h2⟩ := hz
    have e5 : ((5 : Int32) * (nI (P + 1) - (1 : Int32))) + nI k = nI (5 * P + k) := by rw [e1, show (5 : Int32) = nI 5 from rfl, n_mul, n_addn]
    refine ⟨(upd h k (past (5 * P + k)), nI k + (1 : Int32)), ?_, _, by rw [n_add1], fun i hi => ?_⟩
    · refine (xb_f (by rw [show (5 : Int32) = nI 5 from rfl, n_le (by omega) (by omega)]; omega)).trans ?_
      rw [e5]
      refine (xk_t (vp_in_nI (by omega) (by omega))).trans ((xk_t (vp_in_nI hk (by omega))).trans ?_)
      rw [n_cl (by omega), n_cl (by omega)]
    · by_cases e : i = k
      · rw [e, up_s]
      · rw [up_n e]; exact h2 i (by omega)
  · obtain ⟨h, rfl, h2⟩ := hz
    exact ⟨h, xb_t (Int32.le_refl _), h2⟩
-- setups change alike
theorem s_points {N : Nat} (h1 : 1 ≤ N) (h8 : N ≤ 8) (f now : Nat → Int32) (g : Nat → Nat → Nat) : cN N 0 g (nI N) 0 f ∧ mN N 0 g (upd (upd now 0 (nI N)) 1 (0 : Int32)) := by
  refine ⟨⟨h1, h8, by omega, rfl, rfl, fun i hi => absurd hi (Nat.not_lt_zero _), fun i hi => absurd hi (Nat.not_lt_zero _)⟩, h1, h8, by omega, ?_, ?_, fun i hi => absurd hi (Nat.not_lt_zero _), fun i hi => absurd hi (Nat.not_lt_zero _)⟩
  · rw [up_n (by decide), up_s]
  · rw [up_s]; rfl
def gAdd (g : Nat → Nat → Nat) (K : Nat) (s : Nat → Nat) : Nat → Nat → Nat := fun i => if i = K then s else g i
theorem s_adds {N K : Nat} {g : Nat → Nat → Nat} {n c : Int32} {f now : Nat → Int32} (hC : cN N K g n c f) (hM : mN N K g now) (hK : K < 3) {s : Nat → Nat} (hs : gp_ok N s) :
    cN N (K + 1) (gAdd g K s) n (nI (K + 1)) (upd f K (pv s)) ∧ mN N (K + 1) (gAdd g K s) (upd (upd now (2 + K) (nI (cd_n s N))) 1 (nI (K + 1))) := by
  obtain ⟨h1, h2, h3, h4, h5, h6, h7⟩ := hC
  obtain ⟨m1, m2, m3, m4, m5, m6, m7⟩ := hM
  have ok : ∀ i, i < K + 1 → gp_ok N (gAdd g K s i) := fun i hi => by
    unfold gAdd
    by_cases e : i = K
    · rw [if_pos e]; exact hs
    · rw [if_neg e]; exact h6 i (by omega)
  refine ⟨⟨h1, h2, by omega, h4, rfl, ok, fun i hi => ?_⟩, m1, m2, by omega, ?_, ?_, ok, fun i hi => ?_⟩
  · unfold gAdd
    by_cases e : i = K
    · rw [if_pos e, e, up_s]
    · rw [if_neg e, up_n e]; exact h7 i (by omega)
  · rw [up_n (by omega), up_n (by omega)]; exact m4
  · rw [up_s]
  · unfold gAdd
    by_cases e : i = K
    · rw [if_pos e, e, up_n (by omega), up_s]
    · rw [if_neg e, up_n (by omega), up_n (by omega)]; exact m7 i (by omega)

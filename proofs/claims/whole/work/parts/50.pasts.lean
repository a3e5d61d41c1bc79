theorem cN_cong {N K : Nat} {g : Nat → Nat → Nat} {n c : Int32} {f f' : Nat → Int32} (h : cN N K g n c f) (e : ∀ i, i < 3 → f' i = f i) : cN N K g n c f' := by
  obtain ⟨h1, h2, h3, h4, h5, h6, h7⟩ := h
  exact ⟨h1, h2, h3, h4, h5, h6, fun i hi => by rw [e i (by omega)]; exact h7 i hi⟩
theorem mN_cong {N K : Nat} {g : Nat → Nat → Nat} {f f' : Nat → Int32} (h : mN N K g f) (e : ∀ i, i < 5 → f' i = f i) : mN N K g f' := by
  obtain ⟨h1, h2, h3, h4, h5, h6, h7⟩ := h
  exact ⟨h1, h2, h3, by rw [e 0 (by omega)]; exact h4, by rw [e 1 (by omega)]; exact h5, h6, fun i hi => by rw [e (2 + i) (by omega)]; exact h7 i hi⟩
/-- the i-th past setup, on both sides -/
def pst1 (n c : Int32) (f : Nat → Int32) (past : Nat → Int32) (i : Nat) : Prop := ∃ N K g, cN N K g n c f ∧ mN N K g (fun k => past (5 * i + k))
def pst (P : Nat) (z_count : Int32) (rn rc : Nat → Int32) (rg : Nat → Nat → Int32) (past : Nat → Int32) (pasts : Int32) : Prop := P ≤ 5 ∧ z_count = nI P ∧ pasts = nI P ∧ ∀ i, i < P → pst1 (rn i) (rc i) (rg i) past i
theorem pst1_cong {n c : Int32} {f past past' : Nat → Int32} {i j : Nat} (h : pst1 n c f past i) (e : ∀ k, k < 5 → past' (5 * j + k) = past (5 * i + k)) : pst1 n c f past' j := by
  obtain ⟨N, K, g, h1, h2⟩ := h
  exact ⟨N, K, g, h1, mN_cong h2 e⟩
theorem m_hold (now held : Nat → Int32) : ∃ held', f_X8_hold now held = some held' ∧ ∀ i, i < 5 → held' i = now i := by
  let I : Nat → (Nat → Int32) × Int32 → Prop := fun k z => ∃ h, z = (h, nI k) ∧ ∀ i, i < k → h i = now i
  have hh := xL_for (body := f_X8_hold_L1 now) (P := fun h => ∀ i, i < 5 → h i = now i) I 5 (fun k z hk hz => Or.inl ?_) (fun z hz => ?_) 5 0 (Nat.zero_add _) (held, (0 : Int32)) ⟨held, rfl, fun i hi => absurd hi (Nat.not_lt_zero _)⟩
  · obtain ⟨h, h1, h2⟩ := hh
    exact ⟨h, (xn_s h1).trans rfl, h2⟩
  · obtain ⟨h, rfl, h2⟩ := hz
    refine ⟨_, (xb_f (by rw [show (5 : Int32) = nI 5 from rfl, n_le (by omega) (by omega)]; omega)).trans (xk_t (vp_in_nI hk (by omega))), _, by rw [n_add1], fun i hi => ?_⟩
    rw [n_cl (by omega)]
    by_cases e : i = k
    · rw [e, up_s]
    · rw [up_n e]; exact h2 i (by omega)
  · obtain ⟨h, rfl, h2⟩ := hz
    exact ⟨h, xb_t (Int32.le_refl _), h2⟩
theorem m_push_write {P : Nat} (hP : P < 5) (held past : Nat → Int32) : ∃ past', xL (f_X8_push_L2 (nI P) held) (past, (0 : Int32)) = some past' ∧ (∀ k, k < 5 → past' (5 * P + k) = held k) ∧ ∀ x, x < 5 * P → past' x = past x := by
  let I : Nat → (Nat → Int32) × Int32 → Prop := fun k z => ∃ h, z = (h, nI k) ∧ (∀ i, i < k → h (5 * P + i) = held i) ∧ ∀ x, x < 5 * P → h x = past x
  have hh := xL_for (body := f_X8_push_L2 (nI P) held) (P := fun h => (∀ k, k < 5 → h (5 * P + k) = held k) ∧ ∀ x, x < 5 * P → h x = past x) I 5 (fun k z hk hz => Or.inl ?_) (fun z hz => ?_) 5 0 (Nat.zero_add _) (past, (0 : Int32)) ⟨past, rfl, fun i hi => absurd hi (Nat.not_lt_zero _), fun _ _ => rfl⟩
  · exact hh
  · obtain ⟨h, rfl, h2, h3⟩ := hz
    have e5 : ((5 : Int32) * nI P) + nI k = nI (5 * P + k) := by rw [show (5 : Int32) = nI 5 from rfl, n_mul, n_addn]
    refine ⟨(upd h (5 * P + k) (held k), nI k + (1 : Int32)), ?_, _, by rw [n_add1], fun i hi => ?_, fun x hx => ?_⟩
    · refine (xb_f (by rw [show (5 : Int32) = nI 5 from rfl, n_le (by omega) (by omega)]; omega)).trans ((xk_t (vp_in_nI hk (by omega))).trans ?_)
      rw [e5]
      refine (xk_t (vp_in_nI (by omega) (by omega))).trans ?_
      rw [n_cl (by omega), n_cl (by omega)]
    · by_cases e : i = k
      · rw [e, up_s]
      · rw [up_n (by omega)]; exact h2 i (by omega)
    · rw [up_n (by omega)]; exact h3 x hx
  · obtain ⟨h, rfl, h2⟩ := hz
    exact ⟨h, xb_t (Int32.le_refl _), h2⟩
theorem m_push_shift (past : Nat → Int32) : ∃ past', xL f_X8_push_L1 (past, (0 : Int32)) = some past' ∧ ∀ x, x < 20 → past' x = past (x + 5) := by
  let I : Nat → (Nat → Int32) × Int32 → Prop := fun k z => ∃ h, z = (h, nI k) ∧ (∀ x, x < k → h x = past (x + 5)) ∧ ∀ x, k ≤ x → h x = past x
  have hh := xL_for (body := f_X8_push_L1) (P := fun h => ∀ x, x < 20 → h x = past (x + 5)) I 20 (fun k z hk hz => Or.inl ?_) (fun z hz => ?_) 20 0 (Nat.zero_add _) (past, (0 : Int32)) ⟨past, rfl, fun i hi => absurd hi (Nat.not_lt_zero _), fun _ _ => rfl⟩
  · exact hh
  · obtain ⟨h, rfl, h2, h3⟩ := hz
    have e5 : nI k + (5 : Int32) = nI (k + 5) := n_addn k 5
    refine ⟨(upd h k (h (k + 5)), nI k + (1 : Int32)), ?_, _, by rw [n_add1], fun x hx => ?_, fun x hx => ?_⟩
    · refine (xb_f (by rw [show (20 : Int32) = nI 20 from rfl, n_le (by omega) (by omega)]; omega)).trans ?_
      rw [e5]
      refine (xk_t (vp_in_nI (by omega) (by omega))).trans ((xk_t (vp_in_nI (by omega) (by omega))).trans ?_)
      rw [n_cl (by omega), n_cl (by omega)]
    · by_cases e : x = k
      · rw [e, up_s, h3 _ (by omega)]
      · rw [up_n e]; exact h2 x (by omega)
    · rw [up_n (by omega)]; exact h3 x (by omega)
  · obtain ⟨h, rfl, h2, h3⟩ := hz
    exact ⟨h, xb_t (Int32.le_refl _), h2⟩
theorem cpy3 {f h : Nat → Int32} {i : Nat} (hi : i < 3) : va_cpy f h 0 0 3 i = f i := by
  show (if 0 ≤ i ∧ i < 0 + 3 then f (0 + (i - 0)) else h i) = f i
  rw [if_pos ⟨Nat.zero_le _, by omega⟩, Nat.zero_add, Nat.sub_zero]
/-- a setup is kept, on both sides -/
theorem p_push {P : Nat} {z_count : Int32} {ra rb : Nat → Nat} {rn rc : Nat → Int32} {rg : Nat → Nat → Int32} {past : Nat → Int32} {pasts : Int32} (h : pst P z_count rn rc rg past pasts) {N K : Nat} {g : Nat → Nat → Nat} {n c : Int32} {f held : Nat → Int32} (hC : cN N K g n c f) (hM : mN N K g held) :
    ∃ P' z_count' ra' rb' rn' rc' rg' past' pasts', f_X5_push z_count ra rb rn rc rg n c f = some (z_count', ra', rb', rn', rc', rg') ∧ f_X8_push held past pasts = some (past', pasts') ∧ pst P' z_count' rn' rc' rg' past' pasts' := by
  obtain ⟨h1, rfl, rfl, h4⟩ := h
  have fin : ∀ (Q : Nat) (ra rb : Nat → Nat) (rn rc : Nat → Int32) (rg : Nat → Nat → Int32) (past0 : Nat → Int32), Q < 5 → (∀ i, i < Q → pst1 (rn i) (rc i) (rg i) past0 i) → ∃ past', xL (f_X8_push_L2 (nI Q) held) (past0, (0 : Int32)) = some past' ∧ pst (Q + 1) (nI Q + (1 : Int32)) (va_up rn Q n) (va_up rc Q c) (va_up rg Q (va_cpy f (rg Q) 0 0 3)) past' (nI Q + (1 : Int32)) := by
    intro Q ra rb rn rc rg past0 hQ hq
    obtain ⟨past', e1, e2, e3⟩ := m_push_write hQ held past0
    refine ⟨past', e1, by omega, by rw [n_add1], by rw [n_add1], fun i hi => ?_⟩
    by_cases e : i = Q
    · subst e
      have u : ∀ {α : Type} (r : Nat → α) (x : α), va_up r i x i = x := fun r x => if_pos rfl
      rw [u, u, u]
      exact ⟨N, K, g, cN_cong hC (fun j hj => cpy3 hj), mN_cong hM (fun k hk => e2 k hk)⟩
    · have u : ∀ {α : Type} (r : Nat → α) (x : α), va_up r Q x i = r i := fun r x => if_neg e
      rw [u, u, u]
      exact pst1_cong (hq i (by omega)) (fun k hk => e3 _ (by omega))
  by_cases e : P = 5
  · subst e
    obtain ⟨past0, s1, s2⟩ := m_push_shift past
    have xr : ∀ {α : Type} (r : Nat → α) {i : Nat}, i < 4 → xrot r i = r (i + 1) := fun r i hi => if_pos hi
    obtain ⟨past', e1, e2⟩ := fin 4 (xrot ra) (xrot rb) (xrot rn) (xrot rc) (xrot rg) past0 (by omega) (fun i hi => by
      rw [xr rn hi, xr rc hi, xr rg hi]
      exact pst1_cong (h4 (i + 1) (by omega)) (fun k hk => by rw [s2 _ (by omega)]; congr 1; omega))
    refine ⟨5, _, xrot ra, xrot rb, _, _, _, past', _, ?_, ?_, e2⟩
    · exact (xn_s (xb_f (by decide))).trans ((xn_s (xi_s (n := 5) (k := 4) (by omega) (by omega))).trans rfl)
    · have : nI 5 - (1 : Int32) = nI 4 := by decide +kernel
      have h8 : xb (nI 5 = (5 : Int32)) (xn (xL f_X8_push_L1 (past, (0 : Int32))) (fun (m_past_5 : (Nat → Int32)) => some (m_past_5, (nI 5 - (1 : Int32))))) (some (past, nI 5)) = some (past0, nI 4) := by
        rw [xb_t (show nI 5 = (5 : Int32) from rfl), xn_s s1, this]
      have h9 : f_X8_push held past (nI 5) = xn (some (past0, nI 4)) (fun (z : (Nat → Int32) × Int32) => match z with | (m_past_1, m_pasts_2) => xn (xL (f_X8_push_L2 m_pasts_2 held) (m_past_1, (0 : Int32))) (fun (m_past_8 : (Nat → Int32)) => some (m_past_8, (m_pasts_2 + (1 : Int32))))) := by
        unfold f_X8_push
        rw [h8]
      rw [h9]
      exact (xn_s rfl).trans ((xn_s e1).trans rfl)
  · obtain ⟨past', e1, e2⟩ := fin P ra rb rn rc rg past (by omega) h4
    refine ⟨P + 1, _, ra, rb, _, _, _, past', _, ?_, ?_, e2⟩
    · exact (xn_s (xb_t (by rw [show (5 : Int32) = nI 5 from rfl, n_lt (by omega) (by omega)]; omega))).trans ((xn_s (xi_s (n := 5) (k := P) (by omega) (by omega))).trans rfl)
    · exact (xn_s (xb_f (by rw [show (5 : Int32) = nI 5 from rfl, n_ieq (by omega) (by omega)]; exact e))).trans ((xn_s e1).trans rfl)

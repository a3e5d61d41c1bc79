def gDrop (g : Nat → Nat → Nat) (d : Nat) : Nat → Nat → Nat := fun i => if i < d then g i else g (i + 1)
theorem c_loses {N K : Nat} {g : Nat → Nat → Nat} {n c : Int32} {f : Nat → Int32} (hC : cN N K g n c f) {d : Nat} (hd : d < K) : ∃ f', f_X4_loses c f (nI d) = some (nI (K - 1), f', (1 : Int32)) ∧ cN N (K - 1) (gDrop g d) n (nI (K - 1)) f' := by
  obtain ⟨h1, h2, h3, h4, rfl, h6, h7⟩ := hC
  let I : Nat → (Nat → Int32) × Int32 → Prop := fun k z => d < k ∧ ∃ h, z = (h, nI k) ∧ (∀ i, i < d → h i = f i) ∧ (∀ i, d ≤ i → i + 1 < k → h i = f (i + 1)) ∧ ∀ i, k ≤ i + 1 → d ≤ i → h i = f i ∨ i + 1 < k
  have hh := xL_for (body := f_X4_loses_L1 (nI K)) (P := fun h => (∀ i, i < d → h i = f i) ∧ ∀ i, d ≤ i → i + 1 < K → h i = f (i + 1)) I K (fun k z hk hz => Or.inl ?_) (fun z hz => ?_) (K - (d + 1)) (d + 1) (by omega) (f, nI d + (1 : Int32)) ⟨by omega, f, by rw [n_add1], fun _ _ => rfl, fun i a b => by omega, fun i _ _ => Or.inl rfl⟩
  · obtain ⟨f', y1, y2, y3⟩ := hh
    refine ⟨f', ?_, h1, h2, by omega, h4, rfl, fun i hi => ?_, fun i hi => ?_⟩
    · refine (xb_f (nI_pos (by omega))).trans ((xb_t (by rw [n_lt (by omega) (by omega)]; exact hd)).trans ((xn_s y1).trans ?_))
      rw [n_sub1 (by omega)]
    · unfold gDrop
      by_cases e : i < d
      · rw [if_pos e]; exact h6 i (by omega)
      · rw [if_neg e]; exact h6 (i + 1) (by omega)
    · unfold gDrop
      by_cases e : i < d
      · rw [if_pos e, y2 i e]; exact h7 i (by omega)
      · rw [if_neg e, y3 i (by omega) (by omega)]; exact h7 (i + 1) (by omega)
  · obtain ⟨hdk, h, rfl, a1, a2, a3⟩ := hz
    have e1 : nI k - (1 : Int32) = nI (k - 1) := n_sub1 (by omega)
    refine ⟨(upd h (k - 1) (h k), nI k + (1 : Int32)), ?_, by omega, _, by rw [n_add1], fun i hi => ?_, fun i b1 b2 => ?_, fun i b1 b2 => ?_⟩
    · refine (xb_f (by rw [n_le (by omega) (by omega)]; omega)).trans ((xk_t (vp_in_nI (by omega) (by omega))).trans ?_)
      rw [e1]
      refine (xk_t (vp_in_nI (by omega) (by omega))).trans ?_
      rw [n_cl (by omega), n_cl (by omega)]
    · rw [up_n (by omega)]; exact a1 i hi
    · by_cases e : i = k - 1
      · rw [e, up_s, show k - 1 + 1 = k by omega]
        exact (a3 k (by omega) (by omega)).elim id (fun w => by omega)
      · rw [up_n e]; exact a2 i b1 (by omega)
    · rw [up_n (by omega)]
      exact Or.inl ((a3 i (by omega) b2).elim id (fun w => by omega))
  · obtain ⟨hdk, h, rfl, a1, a2, a3⟩ := hz
    exact ⟨h, xb_t (Int32.le_refl _), a1, a2⟩
theorem m_drops {N K : Nat} {g : Nat → Nat → Nat} {now : Nat → Int32} (hM : mN N K g now) {d : Nat} (hd : d < K) : ∃ now', xL f_X8_doDrops_L1 (upd now 1 (now 1 - (1 : Int32)), nI d) = some now' ∧ mN N (K - 1) (gDrop g d) now' := by
  obtain ⟨m1, m2, m3, m4, m5, m6, m7⟩ := hM
  have e1 : now 1 - (1 : Int32) = nI (K - 1) := by rw [m5]; exact n_sub1 (by omega)
  let I : Nat → (Nat → Int32) × Int32 → Prop := fun k z => d ≤ k ∧ ∃ h, z = (h, nI k) ∧ h 0 = nI N ∧ h 1 = nI (K - 1) ∧ (∀ i, i < d → h (2 + i) = now (2 + i)) ∧ (∀ i, d ≤ i → i < k → h (2 + i) = now (3 + i)) ∧ ∀ i, k ≤ i → h (2 + i) = now (2 + i)
  let Q : (Nat → Int32) → Prop := fun h => h 0 = nI N ∧ h 1 = nI (K - 1) ∧ (∀ i, i < d → h (2 + i) = now (2 + i)) ∧ ∀ i, d ≤ i → i < K - 1 → h (2 + i) = now (3 + i)
  have hh := xL_for (body := f_X8_doDrops_L1) (P := Q) I (K - 1) (fun k z hk hz => Or.inl ?_) (fun z hz => ?_) (K - 1 - d) d (by omega) (upd now 1 (now 1 - (1 : Int32)), nI d) ⟨Nat.le_refl _, _, rfl, by rw [up_n (by decide)]; exact m4, by rw [up_s, e1], fun i _ => by rw [up_n (by omega)], fun i a b => by omega, fun i _ => by rw [up_n (by omega)]⟩
  · obtain ⟨now', y1, y2, y3, y4, y5⟩ := hh
    refine ⟨now', y1, m1, m2, by omega, y2, y3, fun i hi => ?_, fun i hi => ?_⟩
    · unfold gDrop
      by_cases e : i < d
      · rw [if_pos e]; exact m6 i (by omega)
      · rw [if_neg e]; exact m6 (i + 1) (by omega)
    · unfold gDrop
      by_cases e : i < d
      · rw [if_pos e, y4 i e]; exact m7 i (by omega)
      · rw [if_neg e, y5 i (by omega) (by omega), show 3 + i = 2 + (i + 1) by omega]; exact m7 (i + 1) (by omega)
  · obtain ⟨hdk, h, rfl, a0, a1, a2, a3, a4⟩ := hz
    refine ⟨(upd h (2 + k) (h (3 + k)), nI k + (1 : Int32)), ?_, by omega, _, by rw [n_add1], by rw [up_n (by omega)]; exact a0, by rw [up_n (by omega)]; exact a1, fun i hi => by rw [up_n (by omega)]; exact a2 i hi, fun i b1 b2 => ?_, fun i b1 => by rw [up_n (by omega)]; exact a4 i (by omega)⟩
    · refine (xb_f (by rw [a1, n_le (by omega) (by omega)]; omega)).trans ?_
      rw [show (3 : Int32) + nI k = nI (3 + k) from n_addn 3 k, show (2 : Int32) + nI k = nI (2 + k) from n_addn 2 k]
      refine (xk_t (vp_in_nI (by omega) (by omega))).trans ((xk_t (vp_in_nI (by omega) (by omega))).trans ?_)
      rw [n_cl (by omega), n_cl (by omega)]
    · by_cases e : i = k
      · rw [e, up_s]
        have := a4 (k + 1) (by omega)
        rw [show 2 + (k + 1) = 3 + k by omega] at this
        exact this
      · rw [up_n (by omega)]; exact a3 i b1 (by omega)
  · obtain ⟨hdk, h, rfl, a0, a1, a2, a3, a4⟩ := hz
    exact ⟨h, xb_t (by rw [a1]; exact Int32.le_refl _), a0, a1, a2, a3⟩

-- numbers of elements
section RK
variable {N K : Nat} {g : Nat → Nat → Nat}
/-- of the choices for p, with all lesser points moved as by b, how many are below c -/
noncomputable def rk_c (K : Nat) (g : Nat → Nat → Nat) (p : Nat) (b : Nat → Nat) (c : Nat) : Nat := fb_ct (fun q => ct_b (∃ s, ct_ag K g p b s ∧ s p = q)) c
theorem rk_c_cong {p : Nat} {b b' : Nat → Nat} (h : ∀ i, i < p → b i = b' i) (c : Nat) : rk_c K g p b c = rk_c K g p b' c := by
  have e : ∀ s, ct_ag K g p b s ↔ ct_ag K g p b' s := fun s => ⟨fun w => ⟨w.1, fun i hi => by rw [w.2 i hi, h i hi]⟩, fun w => ⟨w.1, fun i hi => by rw [w.2 i hi, h i hi]⟩⟩
  refine fb_ct_cong (fun q _ => ?_)
  rcases Classical.em (∃ s, ct_ag K g p b s ∧ s p = q) with w | w
  · rw [ct_bt.mpr w]
    obtain ⟨s, a, c⟩ := w
    exact (ct_bt.mpr ⟨s, (e s).mp a, c⟩).symm
  · rw [ct_bf.mpr w]
    exact (ct_bf.mpr (fun ⟨s, a, c⟩ => w ⟨s, (e s).mpr a, c⟩)).symm
noncomputable def rk_s (K : Nat) (g : Nat → Nat → Nat) (t : Nat → Nat) (p : Nat) : Nat := fb_sm (fun i => rk_c K g i t (t i) * ct_lv K g (7 - i)) p
theorem rk_s_succ (t : Nat → Nat) (p : Nat) : rk_s K g t (p + 1) = rk_s K g t p + rk_c K g p t (t p) * ct_lv K g (7 - p) := fb_sm_succ _ p
theorem rk_s_cong {t t' : Nat → Nat} {p : Nat} (h : ∀ i, i < p → t i = t' i) : rk_s K g t p = rk_s K g t' p := fb_sm_cong (fun i hi => by rw [rk_c_cong (b' := t') (fun j hj => h j (by omega)), h i hi])
theorem rk_lt (hN : N ≤ 8) (hg : ∀ i, i < K → gp_ok N (g i)) {p : Nat} (hp : p < N) {t : Nat → Nat} (ht : gp_in K g t) : ∀ c, ct_n N (fun s => ct_ag K g p t s ∧ s p < c) = rk_c K g p t c * ct_lv K g (7 - p) := by
  intro c
  rw [ct_n_sum (fun s => s p) c]
  have h2 : fb_sm (fun q => ct_n N (fun s => ct_ag K g p t s ∧ s p = q)) c = fb_sm (fun q => if ct_b (∃ s, ct_ag K g p t s ∧ s p = q) then ct_lv K g (7 - p) else 0) c := by
    refine fb_sm_cong (fun q _ => ?_)
    rcases Classical.em (∃ s, ct_ag K g p t s ∧ s p = q) with w | w
    · rw [ct_bt.mpr w]
      obtain ⟨s0, a1, a2⟩ := w
      rw [ct_n_cong (Q := ct_ag K g (p + 1) s0) (fun s _ => ct_ag_next a1 a2 s), show p + 1 = 8 - (7 - p) by omega]
      simp only [if_true]
      exact ct_lv_ok hN hg (7 - p) (by omega) s0 a1.1
    · rw [ct_bf.mpr w]
      exact ct_n_zero (fun s _ z => w ⟨s, z⟩)
  rw [h2, ct_sm_if]
  rfl
/-- how many elements are ahead of t -/
theorem rk_ok (hN : N ≤ 8) (hg : ∀ i, i < K → gp_ok N (g i)) {t : Nat → Nat} (ht : gp_in K g t) : ct_n N (fun s => gp_in K g s ∧ pm_lx N s t) = rk_s K g t N := by
  have key : ∀ p, p ≤ N → ct_n N (fun s => gp_in K g s ∧ pm_lx N s t) = rk_s K g t p + ct_n N (fun s => ct_ag K g p t s ∧ pm_lx N s t) := by
    intro p
    induction p with
    | zero =>
      intro _
      show _ = 0 + _
      rw [Nat.zero_add]
      exact ct_n_cong (fun s _ => ⟨fun w => ⟨⟨w.1, fun i hi => absurd hi (Nat.not_lt_zero _)⟩, w.2⟩, fun w => ⟨w.1.1, w.2⟩⟩)
    | succ p ih =>
      intro hp
      rw [ih (by omega), rk_s_succ, ← rk_lt hN hg (by omega) ht (t p), Nat.add_assoc, ← ct_n_or (fun s w => by have h1 := w.1.2; have h2 := w.2.1.2 p (by omega); omega)]
      congr 1
      refine ct_n_cong (fun s _ => ⟨fun w => ?_, fun w => ?_⟩)
      · obtain ⟨w1, q, hq, h1, h2⟩ := w
        rcases Nat.lt_trichotomy q p with e | e | e
        · have := w1.2 q e; omega
        · subst e; exact Or.inl ⟨w1, h2⟩
        · refine Or.inr ⟨⟨w1.1, fun i hi => ?_⟩, q, hq, h1, h2⟩
          exact h1 i (by omega)
      · rcases w with w | w
        · exact ⟨w.1, p, by omega, w.1.2, w.2⟩
        · exact ⟨⟨w.1.1, fun i hi => w.1.2 i (by omega)⟩, w.2⟩
  rw [key N (Nat.le_refl _)]
  have h0 : ct_n N (fun s => ct_ag K g N t s ∧ pm_lx N s t) = 0 := ct_n_zero (fun s _ w => by
    obtain ⟨w1, q, hq, h1, h2⟩ := w
    have := w1.2 q hq
    omega)
  rw [h0]; rfl
/-- the same by places: how many places of elements are below t's -/
theorem rk_places {t : Nat → Nat} (hg : ∀ i, i < K → gp_ok N (g i)) (ht : gp_ok N t) : fb_ct (fun j => ct_b (gp_in K g (pm_mv N j))) (pm_pl N t) = ct_n N (fun s => gp_in K g s ∧ pm_lx N s t) := by
  unfold ct_n
  have hl := pm_pl_lt ht
  rw [show le_fac N = pm_pl N t + (le_fac N - pm_pl N t) by omega, fb_ct_split]
  have h1 : fb_ct (fun k => ct_b (gp_in K g (pm_mv N (pm_pl N t + k)) ∧ pm_lx N (pm_mv N (pm_pl N t + k)) t)) (le_fac N - pm_pl N t) = 0 := fb_ct_zero.mpr (fun k hk => ct_bf.mpr (fun w => by
    have := (pm_pl_lx (pm_mv_ok N _) ht).mpr w.2
    rw [pm_pl_mv (by omega)] at this
    omega))
  rw [h1, Nat.add_zero]
  refine fb_ct_cong (fun k hk => ?_)
  have h2 : pm_lx N (pm_mv N k) t := (pm_pl_lx (pm_mv_ok N _) ht).mp (by rw [pm_pl_mv (by omega)]; exact hk)
  rcases Classical.em (gp_in K g (pm_mv N k)) with w | w
  · rw [ct_bt.mpr w]; exact (ct_bt.mpr ⟨w, h2⟩).symm
  · rw [ct_bf.mpr w]; exact (ct_bf.mpr (fun z => w z.1)).symm
end RK

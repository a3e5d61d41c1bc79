section FIT
variable {N K : Nat} {g : Nat → Nat → Nat}
/-- the class's engine: fitted to N and the generators, or yet to be -/
def engF (N K : Nat) (g : Nat → Nat → Nat) (e_n : Int32) (steps chains leaving : Nat → Int32) (k_n : Int32) (io st fi : Nat → Int32) : Prop := eOK N K g e_n steps chains leaving ∧ k_n = nI N ∧ kA N io st ∧ kF N K g fi
def eng (N K : Nat) (g : Nat → Nat → Nat) (fits e_n : Int32) (steps chains leaving : Nat → Int32) (k_n : Int32) (io st fi rd ra : Nat → Int32) (cnt : Int32) : Prop := kN k_n io st ∧ (∃ rl, kR rd ra cnt rl) ∧ (fits = 0 ∨ (fits = 1 ∧ engF N K g e_n steps chains leaving k_n io st fi))
theorem c_fit {n_n n_count : Int32} {gens : Nat → Int32} (hC : cN N K g n_n n_count gens) {fits e_n : Int32} {steps undoing chains leaving found foundAt : Nat → Int32} {foundCount k_n : Int32} {io st fi rd ra : Nat → Int32} {cnt : Int32} (h : eng N K g fits e_n steps chains leaving k_n io st fi rd ra cnt) :
    ∃ e_n' steps' undoing' chains' leaving' found' foundAt' foundCount' k_n' io' st' fi' rd' ra' cnt', f_X7_fit fits n_n n_count gens e_n steps undoing chains leaving found foundAt foundCount k_n io st fi rd ra cnt = some (1, e_n', steps', undoing', chains', leaving', found', foundAt', foundCount', k_n', io', st', fi', rd', ra', cnt') ∧ engF N K g e_n' steps' chains' leaving' k_n' io' st' fi' ∧ ∃ rl, kR rd' ra' cnt' rl := by
  obtain ⟨h1, ⟨rl, h2⟩, h3⟩ := h
  rcases h3 with rfl | ⟨rfl, h3⟩
  · obtain ⟨s1, s2, s3, s4, s5, s6, s7, e1, hE⟩ := e_make hC e_n steps undoing chains leaving found foundAt foundCount
    have hC' := hC
    obtain ⟨n1, n8, k3, rfl, rfl, hg, hgs⟩ := hC'
    obtain ⟨io', st', fi', rd', ra', cnt', rl', e2, hA, hF, hR⟩ := c_make n1 n8 hg hE h1 fi h2
    exact ⟨_, s1, s2, s3, s4, s5, s6, s7, _, io', st', fi', rd', ra', cnt', (xb_t rfl).trans ((xn_s e1).trans ((xn_s e2).trans rfl)), ⟨hE, rfl, hA, hF⟩, rl', hR⟩
  · exact ⟨e_n, steps, undoing, chains, leaving, found, foundAt, foundCount, k_n, io, st, fi, rd, ra, cnt, xb_f (by decide), h3, rl, h2⟩
theorem engF_eng (h1 : 1 ≤ N) (hN : N ≤ 8) {e_n : Int32} {steps chains leaving : Nat → Int32} {k_n : Int32} {io st fi rd ra : Nat → Int32} {cnt : Int32} (h : engF N K g e_n steps chains leaving k_n io st fi) (hR : ∃ rl, kR rd ra cnt rl) : eng N K g 1 e_n steps chains leaving k_n io st fi rd ra cnt := ⟨Or.inr ⟨N, h1, hN, h.2.1, h.2.2.1⟩, hR, Or.inr ⟨rfl, h⟩⟩
/-- no longer fitted: any N and generators -/
theorem eng_0 {N' K' : Nat} {g' : Nat → Nat → Nat} {fits e_n : Int32} {steps chains leaving : Nat → Int32} {k_n : Int32} {io st fi rd ra : Nat → Int32} {cnt : Int32} (h : eng N K g fits e_n steps chains leaving k_n io st fi rd ra cnt) : eng N' K' g' 0 e_n steps chains leaving k_n io st fi rd ra cnt := ⟨h.1, h.2.1, Or.inl rfl⟩
-- refusals
def rfs (bad no full : Int32) (refused : Nat → Int32) : Prop := refused 0 = bad ∧ refused 1 = no ∧ refused 2 = full
theorem rf_2 {bad no full : Int32} {refused : Nat → Int32} (h : rfs bad no full refused) : ∃ bad' no' full' refused', f_X7_refuse bad no full (-2 : Int32) = some (bad', no', full', (-2 : Int32)) ∧ f_X8_refuses refused (-2 : Int32) = some (refused', (-2 : Int32)) ∧ rfs bad' no' full' refused' := by
  refine ⟨bad + 1, no, full, upd refused 0 (refused 0 + 1), xb_t rfl, (xk_t (by rw [show (-2 : Int32) - (-2 : Int32) = nI 0 by decide +kernel]; exact vp_in_nI (by decide) (by decide))).trans ?_, ?_⟩
  · rw [show ((-2 : Int32) - (-2 : Int32)).toNatClampNeg = 0 by decide +kernel]
  · exact ⟨by rw [up_s, h.1], by rw [up_n (by decide)]; exact h.2.1, by rw [up_n (by decide)]; exact h.2.2⟩
theorem rf_3 {bad no full : Int32} {refused : Nat → Int32} (h : rfs bad no full refused) : ∃ bad' no' full' refused', f_X7_refuse bad no full (-3 : Int32) = some (bad', no', full', (-3 : Int32)) ∧ f_X8_refuses refused (-3 : Int32) = some (refused', (-3 : Int32)) ∧ rfs bad' no' full' refused' := by
  refine ⟨bad, no + 1, full, upd refused 1 (refused 1 + 1), (xb_f (by decide)).trans (xb_t rfl), (xk_t (by rw [show (-2 : Int32) - (-3 : Int32) = nI 1 by decide +kernel]; exact vp_in_nI (by decide) (by decide))).trans ?_, ?_⟩
  · rw [show ((-2 : Int32) - (-3 : Int32)).toNatClampNeg = 1 by decide +kernel]
  · exact ⟨by rw [up_n (by decide)]; exact h.1, by rw [up_s, h.2.1], by rw [up_n (by decide)]; exact h.2.2⟩
theorem rf_4 {bad no full : Int32} {refused : Nat → Int32} (h : rfs bad no full refused) : ∃ bad' no' full' refused', f_X7_refuse bad no full (-4 : Int32) = some (bad', no', full', (-4 : Int32)) ∧ f_X8_refuses refused (-4 : Int32) = some (refused', (-4 : Int32)) ∧ rfs bad' no' full' refused' := by
  refine ⟨bad, no, full + 1, upd refused 2 (refused 2 + 1), (xb_f (by decide)).trans (xb_f (by decide)), (xk_t (by rw [show (-2 : Int32) - (-4 : Int32) = nI 2 by decide +kernel]; exact vp_in_nI (by decide) (by decide))).trans ?_, ?_⟩
  · rw [show ((-2 : Int32) - (-4 : Int32)).toNatClampNeg = 2 by decide +kernel]
  · exact ⟨by rw [up_n (by decide)]; exact h.1, by rw [up_n (by decide)]; exact h.2.1, by rw [up_s, h.2.2]⟩
end FIT

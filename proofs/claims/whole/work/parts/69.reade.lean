/-- the first k orders, done one behind another -/
def rd_run (N K : Nat) (g : Nat → Nat → Nat) (letters numbers : Nat → Int32) : Nat → Nat → Nat → (Nat → Nat → Nat) → Prop
  | 0, n', K', g' => n' = N ∧ K' = K ∧ g' = g
  | k + 1, n', K', g' => ∃ n1 K1 g1, rd_run N K g letters numbers k n1 K1 g1 ∧ rd_eo n1 K1 g1 (letters k) (numbers k) n' K' g'
theorem rd_run_cong {N K : Nat} {g : Nat → Nat → Nat} {l v l' v' : Nat → Int32} : ∀ {k n' K' : Nat} {g' : Nat → Nat → Nat}, (∀ i, i < k → l' i = l i ∧ v' i = v i) → rd_run N K g l v k n' K' g' → rd_run N K g l' v' k n' K' g'
  | 0, _, _, _, _, h => h
  | k + 1, _, _, _, e, ⟨n1, K1, g1, h1, h2⟩ => ⟨n1, K1, g1, rd_run_cong (fun i hi => e i (by omega)) h1, by rw [(e k (by omega)).1, (e k (by omega)).2]; exact h2⟩
/-- the class's trial against the orders read so far -/
def rd_J (N K : Nat) (g : Nat → Nat → Nat) (letters numbers : Nat → Int32) (k n : Nat) (st rn rc : Int32) (rg : Nat → Int32) : Prop := (st = (-1 : Int32) ∧ ∃ K' g', rd_run N K g letters numbers k n K' g' ∧ cN n K' g' rn rc rg) ∨ (∃ s n1 K1 g1, s < k ∧ st = nI s ∧ rd_run N K g letters numbers s n1 K1 g1 ∧ rd_er n1 K1 (letters s) (numbers s) ∧ ∃ K' g', cN n K' g' rn rc rg)
theorem rd_J_c {N K : Nat} {g : Nat → Nat → Nat} {letters numbers : Nat → Int32} {k n : Nat} {st rn rc : Int32} {rg : Nat → Int32} (h : rd_J N K g letters numbers k n st rn rc rg) : ∃ K' g', cN n K' g' rn rc rg := by
  rcases h with ⟨-, K', g', -, h⟩ | ⟨s, n1, K1, g1, -, -, -, -, K', g', h⟩
  · exact ⟨K', g', h⟩
  · exact ⟨K', g', h⟩
theorem rd_J_step {N K : Nat} {g : Nat → Nat → Nat} {letters numbers : Nat → Int32} {k n : Nat} {st rn rc : Int32} {rg : Nat → Int32} (h : rd_J N K g letters numbers k n st rn rc rg) (hk : k < 40) {lt v : Int32} {n' : Nat} (hok : rd_ok n lt v n') :
    ∃ rn' rc' rg' r st', f_X3_obeys lt v rn rc rg = some (rn', rc', rg', r) ∧ xb (r = (0 : Int32)) (xb (st = (-1 : Int32)) (some (nI k)) (some st)) (some st) = some st' ∧ rd_J N K g (upd letters k lt) (upd numbers k v) (k + 1) n' st' rn' rc' rg' := by
  have hcg : ∀ j, j ≤ k → ∀ i, i < j → upd letters k lt i = letters i ∧ upd numbers k v i = numbers i := fun j hj i hi => ⟨up_n (by omega), up_n (by omega)⟩
  rcases h with ⟨rfl, K', g', hr, hC⟩ | ⟨s, n1, K1, g1, hs, rfl, hr, he, K', g', hC⟩
  · obtain ⟨rn', rc', rg', r, eo, hx⟩ := rd_ob hC hok
    rcases hx with ⟨rfl, K2, g2, ho, hC2⟩ | ⟨rfl, he, hn, hC2⟩
    · exact ⟨rn', rc', rg', 1, -1, eo, xb_f (by decide), Or.inl ⟨rfl, K2, g2, ⟨n, K', g', rd_run_cong (hcg k (Nat.le_refl _)) hr, by rw [up_s, up_s]; exact ho⟩, hC2⟩⟩
    · exact ⟨rn', rc', rg', 0, nI k, eo, (xb_t rfl).trans (xb_t rfl), Or.inr ⟨k, n, K', g', by omega, rfl, rd_run_cong (hcg k (Nat.le_refl _)) hr, by rw [up_s, up_s]; exact he, K', g', by rw [hn]; exact hC2⟩⟩
  · obtain ⟨rn', rc', rg', r, eo, hx⟩ := rd_ob hC hok
    have he' : rd_er n1 K1 (upd letters k lt s) (upd numbers k v s) := by rw [up_n (by omega), up_n (by omega)]; exact he
    rcases hx with ⟨rfl, K2, g2, ho, hC2⟩ | ⟨rfl, he2, hn, hC2⟩
    · exact ⟨rn', rc', rg', 1, nI s, eo, xb_f (by decide), Or.inr ⟨s, n1, K1, g1, by omega, rfl, rd_run_cong (hcg s (by omega)) hr, he', K2, g2, hC2⟩⟩
    · exact ⟨rn', rc', rg', 0, nI s, eo, (xb_t rfl).trans (xb_f (rd_fne (by omega))), Or.inr ⟨s, n1, K1, g1, by omega, rfl, rd_run_cong (hcg s (by omega)) hr, he', K', g', by rw [hn]; exact hC2⟩⟩
section READE
variable {L : Nat} {tb tx : Nat → Int32}
theorem rd_hereat (hT : rd_T L tb tx) {j : Nat} (jl : j < L) (jb : tx j ≠ (32 : Int32)) : f_X8_here tx (nI L) (nI j) = some (nI j, tx j) := by
  have h80 := hT.1
  have hvp : vp_in (nI j) 80 := vp_in_nI (by omega) (by omega)
  have hcl : (nI j).toNatClampNeg = j := n_cl (by omega)
  have e : xL (f_X8_here_L1 (nI L) tx) (nI j) = some (nI j) := xL_r ((xb_f (rd_nle hT jl)).trans ((xk_t hvp).trans (xb_f (by rw [hcl]; exact jb))))
  refine (xn_s e).trans ((xb_f (rd_nle hT jl)).trans ((xk_t hvp).trans ?_))
  rw [hcl]
theorem rd_txne (hT : rd_T L tb tx) {j : Nat} (jl : j < L) : ¬ tx j = (-1 : Int32) := by
  obtain ⟨b, hb, e⟩ := (hT.2 j jl).2
  rw [e]; exact rd_fne (by omega)
/-- the text from an order's beginning on, on both sides -/
theorem rd_parse (hT : rd_T L tb tx) {N K : Nat} {g : Nat → Nat → Nat} : ∀ (d i k n : Nat) (letters numbers : Nat → Int32) (z2 z4 z5 z6 z7 rn rc : Int32) (rg : Nat → Int32), L - i ≤ d → i ≤ L → 3 * k ≤ i → rd_J N K g letters numbers k n z2 rn rc rg →
    ∃ at' f' o' p' l' v', xL (f_X8_reads_L1 tx (nI L)) (nI i, (-1 : Int32), nI k, nI n, letters, numbers) = some (at', f', o', p', l', v') ∧
      ((∃ f, f ≤ L ∧ f' = nI f ∧ ∃ R, xL (f_X3_read_L1 (nI L) tb) (nI k, z2, (0 : Int32), z4, z5, z6, z7, rn, rc, rg, nI i) = some R ∧ rd_F L R (nI f)) ∨
       (f' = (-1 : Int32) ∧ ∃ k' n' st rn' rc' rg' y4 y5 y6 y7, k ≤ k' ∧ k' < 40 ∧ o' = nI k' ∧ rd_J N K g l' v' k' n' st rn' rc' rg' ∧ xL (f_X3_read_L1 (nI L) tb) (nI k, z2, (0 : Int32), z4, z5, z6, z7, rn, rc, rg, nI i) = some (.inl (nI k', st, (0 : Int32), y4, y5, y6, y7, rn', rc', rg')) ∧ (k' = k → f_X8_here tx (nI L) (nI i) = some (nI L, (-1 : Int32))))) := by
  intro d
  induction d with
  | zero =>
    intro i k n letters numbers z2 z4 z5 z6 z7 rn rc rg hd hi hk hJ
    have h80 := hT.1
    obtain ⟨j, j1, j2, jG, hj⟩ := rd_nx hT hi
    rcases hj with ⟨jl, jb, jh⟩ | ⟨hjL, jh⟩
    · omega
    · have hG := jG (nI k) z2 (0 : Int32) z4 z5 z6 z7 rn rc rg
      rw [hjL] at hG
      exact ⟨_, _, _, _, _, _, xL_r ((xb_t rfl).trans ((xn_s jh).trans (xb_t rfl))), Or.inr ⟨rfl, k, n, z2, rn, rc, rg, z4, z5, z6, z7, Nat.le_refl _, by omega, rfl, hJ, hG _ (rd_end hT _ _ _ _ _ _ _ _ _ _), fun _ => jh⟩⟩
  | succ d ih =>
    intro i k n letters numbers z2 z4 z5 z6 z7 rn rc rg hd hi hk hJ
    have h80 := hT.1
    obtain ⟨j, j1, j2, jG, hj⟩ := rd_nx hT hi
    rcases hj with ⟨jl, jb, jh⟩ | ⟨hjL, jh⟩
    · obtain ⟨K0, g0, hC0⟩ := rd_J_c hJ
      have hrn : rn = nI n := hC0.2.2.2.1
      have hne := rd_txne hT jl
      obtain ⟨at', fault', o', pt', letters', numbers', er, hx⟩ := rd_order hT (i := j) (j := j) (k := k) (n := n) (by omega) (by omega) hC0.1 hC0.2.1 letters numbers (Nat.le_refl _) (fun _ _ _ _ _ _ _ _ _ _ => xG_rf _) jl jb (rd_hereat hT jl jb)
      have eb : f_X8_reads_L1 tx (nI L) (nI i, (-1 : Int32), nI k, nI n, letters, numbers) = some (.inl (at', fault', o', pt', letters', numbers')) := (xb_t rfl).trans ((xn_s jh).trans ((xb_f hne).trans ((xn_s er).trans rfl)))
      rcases hx with ⟨f, f1, rfl, f4⟩ | ⟨rfl, i', lt, v, n', g1, g2, rfl, rfl, rfl, rfl, rfl, hok, g7⟩
      · obtain ⟨R, hR, hF⟩ := f4 (nI k) z2 z4 z5 z6 z7 rc rg
        rw [← hrn] at hR
        exact ⟨_, _, _, _, _, _, xL_l eb (xL_r (xb_f (rd_fne (by omega)))), Or.inl ⟨f, f1, rfl, R, jG _ _ _ _ _ _ _ _ _ _ _ hR, hF⟩⟩
      · obtain ⟨rn', rc', rg', r, st', eo, hst, hJ'⟩ := rd_J_step hJ (by omega) hok
        rw [hrn] at eo
        obtain ⟨y4, y5, y6, y7, hG⟩ := g7 (nI k) z2 z4 z5 z6 z7 rc rg rn' rc' rg' r st' eo hst
        rw [n_add1, ← hrn] at hG
        have hG2 := xG_tr (jG (nI k) z2 (0 : Int32) z4 z5 z6 z7 rn rc rg) hG
        obtain ⟨at2, f2, o2, p2, l2, v2, ex, hx2⟩ := ih i' (k + 1) n' (upd letters k lt) (upd numbers k v) st' y4 y5 y6 y7 rn' rc' rg' (by omega) g2 (by omega) hJ'
        refine ⟨at2, f2, o2, p2, l2, v2, xL_l eb ex, ?_⟩
        rcases hx2 with ⟨f, f1, f3, R, hR, hF⟩ | ⟨f1, k', n2, st2, rn2, rc2, rg2, w4, w5, w6, w7, q1, q2, q3, q4, q5, q6⟩
        · exact Or.inl ⟨f, f1, f3, R, hG2 _ hR, hF⟩
        · exact Or.inr ⟨f1, k', n2, st2, rn2, rc2, rg2, w4, w5, w6, w7, by omega, q2, q3, q4, hG2 _ q5, fun w => by omega⟩
    · have hG := jG (nI k) z2 (0 : Int32) z4 z5 z6 z7 rn rc rg
      rw [hjL] at hG
      exact ⟨_, _, _, _, _, _, xL_r ((xb_t rfl).trans ((xn_s jh).trans (xb_t rfl))), Or.inr ⟨rfl, k, n, z2, rn, rc, rg, z4, z5, z6, z7, Nat.le_refl _, by omega, rfl, hJ, hG _ (rd_end hT _ _ _ _ _ _ _ _ _ _), fun _ => jh⟩⟩
end READE
/-- the orders, done by the reference -/
theorem rd_runs {N K : Nat} {g : Nat → Nat → Nat} {letters numbers now0 : Nat → Int32} (hM : mN N K g now0) {o : Nat} (ho : o ≤ 40) (held past figs0 : Nat → Int32) (pasts at9 f10 p12 il0 is0 : Int32) : ∀ (k n' K' : Nat) (g' : Nat → Nat → Nat), rd_run N K g letters numbers k n' K' g' → k ≤ o →
    ∃ now' figs' il' is', xG (f_X8_reads_L2 (nI o) letters numbers held past pasts at9 f10 p12) (now0, figs0, il0, is0, (0 : Int32)) (now', figs', il', is', nI k) ∧ mN n' K' g' now' ∧ (k = 0 ∨ (il' = (0 : Int32) ∧ is' = (0 : Int32)))
  | 0, n', K', g', h, _ => by
    obtain ⟨e1, e2, e3⟩ := h
    exact ⟨now0, figs0, il0, is0, xG_rf _, by rw [e1, e2, e3]; exact hM, Or.inl rfl⟩
  | k + 1, n', K', g', h, hk => by
    obtain ⟨n1, K1, g1, h1, h2⟩ := h
    obtain ⟨now', figs', il', is', hG, hM', -⟩ := rd_runs hM ho held past figs0 pasts at9 f10 p12 il0 is0 k n1 K1 g1 h1 (by omega)
    obtain ⟨now2, figs2, r, ed, hr, hM2⟩ := rd_do hM' h2 (k := k) (by omega) rfl rfl figs' il' is'
    refine ⟨now2, figs2, 0, 0, xG_tr hG (xG_1 ?_), hM2, Or.inr ⟨rfl, rfl⟩⟩
    refine (xb_f (by rw [n_le (by omega) (by omega)]; omega)).trans ((xn_s ed).trans ((xb_t hr).trans ?_))
    rw [n_add1]
theorem rd_back5 (held now : Nat → Int32) : ∃ now', xL (f_X8_reads_L3 held) (now, (0 : Int32)) = some now' ∧ ∀ i, i < 5 → now' i = held i := by
  let I : Nat → (Nat → Int32) × Int32 → Prop := fun k z => ∃ h, z = (h, nI k) ∧ ∀ i, i < k → h i = held i
  have hh := xL_for (body := f_X8_reads_L3 held) (P := fun h => ∀ i, i < 5 → h i = held i) I 5 (fun k z hk hz => Or.inl ?_) (fun z hz => ?_) 5 0 (Nat.zero_add _) (now, (0 : Int32)) ⟨now, rfl, fun i hi => absurd hi (Nat.not_lt_zero _)⟩
  · obtain ⟨h, h1, h2⟩ := hh
    exact ⟨h, h1, h2⟩
  · obtain ⟨h, rfl, h2⟩ := hz
    refine ⟨_, (xb_f (by rw [show (5 : Int32) = nI 5 from rfl, n_le (by omega) (by omega)]; omega)).trans (xk_t (vp_in_nI hk (by omega))), _, by rw [n_add1], fun i hi => ?_⟩
    rw [n_cl (by omega)]
    by_cases e : i = k
    · rw [e, up_s]
    · rw [up_n e]; exact h2 i (by omega)
  · obtain ⟨h, rfl, h2⟩ := hz
    exact ⟨h, xb_t (Int32.le_refl _), h2⟩
/-- a reading of the class that ends with a fault -/
theorem rd_rdF {L : Nat} (hL : L ≤ 80) {tb : Nat → Int32} {z1 z2 z3 z4 z5 z6 z7 z8 z9 : Int32} {z10 : Nat → Int32} {f_n f_count : Int32} {f_gens : Nat → Int32} {R : rd_R} {x : Int32} (hR : xL (f_X3_read_L1 (nI L) tb) ((0 : Int32), (-1 : Int32), (0 : Int32), z4, z5, z6, z7, f_n, f_count, va_cpy f_gens z10 0 0 3, (0 : Int32)) = some R) (hF : rd_F L R x) :
    ∃ y1 y2 y3 y4 y5 y6 y7 y8 y9 y10, f_X3_read z1 z2 z3 z4 z5 z6 z7 z8 z9 z10 (nI L) tb f_n f_count f_gens = some (y1, y2, y3, y4, y5, y6, y7, y8, y9, y10, x) := by
  have e1 : f_X4_copy z8 z9 z10 f_n f_count f_gens = some (f_n, f_count, va_cpy f_gens z10 0 0 3) := rfl
  rcases hF with ⟨y1, y2, y3, y4, y5, y6, y7, y8, y9, y10, rfl⟩ | ⟨rfl, y1, y2, y3, y4, y5, y6, y7, y8, y9, y10, h3, rfl⟩
  · exact ⟨y1, y2, y3, y4, y5, y6, y7, y8, y9, y10, (xn_s e1).trans ((xn_s hR).trans rfl)⟩
  · refine ⟨y1, y2, y3, y4, y5, y6, y7, y8, y9, y10, (xn_s e1).trans ((xn_s hR).trans ?_)⟩
    by_cases h : y1 ≤ (0 : Int32)
    · exact xb_t h
    · exact (xb_f h).trans (xb_f h3)

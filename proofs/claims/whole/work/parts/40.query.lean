-- what the class answers of the order
theorem tk_f {l : List Nat} (p : Nat → Bool) {k : Nat} (hk : k < l.length) : (l.take (k + 1)).filter p = (l.take k).filter p ++ (if p l[k] then [l[k]] else []) := by
  rw [List.take_succ_eq_append_getElem hk, List.filter_append]
  congr 1
  cases e : p l[k] <;> simp [e]
theorem tk_c {l : List Nat} (p : Nat → Bool) {k : Nat} (hk : k < l.length) : ((l.take (k + 1)).filter p).length = ((l.take k).filter p).length + (if p l[k] then 1 else 0) := by
  rw [tk_f p hk, List.length_append]
  cases e : p l[k] <;> simp
theorem tk_at {l : List Nat} (p : Nat → Bool) {k : Nat} (hk : k < l.length) (h : p l[k] = true) : (l.filter p)[((l.take k).filter p).length]? = some l[k] := by
  have e : l.filter p = (l.take (k + 1)).filter p ++ (l.drop (k + 1)).filter p := by rw [← List.filter_append, List.take_append_drop]
  rw [e, tk_f p hk, h]
  simp
theorem tk_le {l : List Nat} (p : Nat → Bool) (k : Nat) : ((l.take k).filter p).length ≤ k := Nat.le_trans (List.length_filter_le _ _) (List.length_take_le _ _)
theorem bc_pop {a : Nat} (h : a < 256) : f_J6_bitCount_0f7a4 (nI a) = some (nI (popc a)) := bc_ok a h
section QUERY
variable {N K : Nat} {g : Nat → Nat → Nat} {io st fi : Nat → Int32}
noncomputable def FI (N K : Nat) (g : Nat → Nat → Nat) (x : Nat) : Option Nat := fdO K g (ordA N (N + 1)) x
theorem FI_ok (hN : N ≤ 8) (hg : ∀ i, i < K → gp_ok N (g i)) {x : Nat} (hx : x < 2 ^ N) : ∃ b, FI N K g x = some b ∧ orb K g b x ∧ b < 2 ^ N ∧ popc b = popc x := by
  have hp := p2_8 hN
  cases e : FI N K g x with
  | none => exact absurd (orb_rf K g (by omega)) (fdO_none.mp e x ((ordA_mem hN _).mpr ⟨hx, by have := popc_N N (by omega) x hx; omega⟩))
  | some b =>
    have h := fdO_some e
    exact ⟨b, rfl, h.2, ((ordA_mem hN _).mp h.1).1, (orb_pop hN hg h.2).symm⟩
theorem FI_eq (hN : N ≤ 8) (hg : ∀ i, i < K → gp_ok N (g i)) {x y : Nat} (hx : x < 2 ^ N) (hy : y < 2 ^ N) : FI N K g x = FI N K g y ↔ orb K g x y := by
  have hp := p2_8 hN
  constructor
  · intro e
    obtain ⟨b, b1, b2, b3, -⟩ := FI_ok hN hg hx
    obtain ⟨c, c1, c2, -, -⟩ := FI_ok hN hg hy
    rw [b1, c1] at e
    cases e
    exact orb_tr hN hg (orb_sy hN hg (by omega) b2) c2
  · intro h
    unfold FI fdO
    congr 1
    funext b
    show ct_b _ = ct_b _
    congr 1
    exact propext ⟨fun w => orb_tr hN hg w h, fun w => orb_tr hN hg w (orb_sy hN hg (by omega) h)⟩
theorem opI_inj {o o' : Option Nat} (h : ∀ b, o = some b → b < 256) (h' : ∀ b, o' = some b → b < 256) : opI o = opI o' ↔ o = o' := by
  constructor
  · intro e
    cases o with
    | none => exact ((opI_m1 h').mp e.symm).symm
    | some b =>
      cases o' with
      | none => exact (opI_m1 h).mp e
      | some c =>
        have : nI b = nI c := e
        rw [n_ieq (by have := h b rfl; omega) (by have := h' c rfl; omega)] at this
        rw [this]
  · intro e; rw [e]
theorem FI_lt (hN : N ≤ 8) {x b : Nat} (h : FI N K g x = some b) : b < 256 := by
  have := p2_8 hN
  have := ((ordA_mem hN _).mp (fdO_some h).1).1
  omega
theorem c_first (hF : kF N K g fi) {x : Nat} (hx : x < 256) : f_X0_first fi (nI x) = some (opI (FI N K g x)) := by
  have e : nI x &&& (255 : Int32) = nI x := by rw [show nI x &&& (255 : Int32) = nI (x % 2 ^ 8) from fa_mask x 8, Nat.mod_eq_of_lt hx]
  show xk (vp_in (nI x &&& (255 : Int32)) 256) _ = _
  rw [e]
  refine (xk_t (vp_in_nI hx (by omega))).trans ?_
  rw [n_cl (by omega), hF x hx]
  rfl
theorem c_start (hN : N ≤ 8) (hA : kA N io st) {z : Nat} (hz : z ≤ N + 1) : f_X0_start (nI N) st (nI z) = some (nI (ordA N z).length) := by
  unfold f_X0_start
  have e0 : (if (nI N + (1 : Int32)) < nI z then (nI N + (1 : Int32)) else nI z) = nI z := if_neg (by rw [n_add1, n_lt (by omega) (by omega)]; omega)
  rw [e0]
  have e : (if (0 : Int32) < nI z then nI z else (0 : Int32)) = nI z := by
    by_cases h : z = 0
    · subst h; rfl
    · exact if_pos (by rw [show (0 : Int32) = nI 0 from rfl, n_lt (by omega) (by omega)]; omega)
  rw [e]
  refine (xk_t (vp_in_nI (by omega) (by omega))).trans ?_
  rw [n_cl (by omega), hA.2 z hz]
theorem seg_at (hN : N ≤ 8) (hA : kA N io st) {z k : Nat} (hz : z ≤ N) (hk : k < (ordL N z).length) : io ((ordA N z).length + k) = nI (ordL N z)[k] := by
  refine hA.1 _ _ ?_
  have h1 : (ordA N (z + 1))[(ordA N z).length + k]? = some (ordL N z)[k] := by
    rw [ordA, List.getElem?_append_right (by omega), Nat.add_sub_cancel_left, List.getElem?_eq_getElem hk]
  have key : ∀ d, (ordA N (z + 1 + d))[(ordA N z).length + k]? = some (ordL N z)[k] := by
    intro d
    induction d with
    | zero => exact h1
    | succ d ih =>
      rw [← Nat.add_assoc, ordA]
      rw [List.getElem?_append_left (List.getElem?_eq_some_iff.mp ih).1]
      exact ih
  have := key (N - z)
  rw [show z + 1 + (N - z) = N + 1 by omega] at this
  exact this
theorem seg_len (N z : Nat) : (ordA N (z + 1)).length = (ordA N z).length + (ordL N z).length := by rw [ordA, List.length_append]
theorem ordL_lt (hN : N ≤ 8) {z k : Nat} (hk : k < (ordL N z).length) : (ordL N z)[k] < 2 ^ N ∧ popc (ordL N z)[k] = z := (ordL_mem hN).mp (List.getElem_mem hk)
/-- the images of a, those ahead first -/
noncomputable def imL (N K : Nat) (g : Nat → Nat → Nat) (a : Nat) : List Nat := (ordL N (popc a)).filter (fun b => ct_b (orb K g a b))
/-- the heads of size z -/
noncomputable def hdL (N K : Nat) (g : Nat → Nat → Nat) (z : Nat) : List Nat := (ordL N z).filter (fun b => ct_b (FI N K g b = some b))
theorem imL_le (hN : N ≤ 8) (a : Nat) : (imL N K g a).length ≤ 256 := Nat.le_trans (List.length_filter_le _ _) (nd_len (ordL_nd N _) (fun x hx => Nat.lt_of_lt_of_le ((ordL_mem hN).mp hx).1 (p2_8 hN)))
theorem hdL_le (hN : N ≤ 8) (z : Nat) : (hdL N K g z).length ≤ 256 := Nat.le_trans (List.length_filter_le _ _) (nd_len (ordL_nd N _) (fun x hx => Nat.lt_of_lt_of_le ((ordL_mem hN).mp hx).1 (p2_8 hN)))
theorem fi_same (hN : N ≤ 8) (hg : ∀ i, i < K → gp_ok N (g i)) {a b : Nat} (ha : a < 2 ^ N) (hb : b < 2 ^ N) : opI (FI N K g b) = opI (FI N K g a) ↔ ct_b (orb K g a b) = true := by
  rw [opI_inj (fun _ h => FI_lt hN h) (fun _ h => FI_lt hN h), eq_comm, FI_eq hN hg ha hb, ct_bt]
theorem c_countWith (hN : N ≤ 8) (hg : ∀ i, i < K → gp_ok N (g i)) (hA : kA N io st) (hF : kF N K g fi) {a : Nat} (ha : a < 2 ^ N) : f_X0_countWith (nI N) io st fi (nI a) = some (nI (imL N K g a).length) := by
  have hp := p2_8 hN
  have hz := popc_N N (by omega) a ha
  have hlen := seg_len N (popc a)
  have hle := ordA_le (N := N) (z := popc a + 1) hN
  have hh := xL_up (body := f_X0_countWith_L1 (nI N) st (nI (popc a)) fi io (opI (FI N K g a))) (fun k => (nI (((ordL N (popc a)).take k).filter (fun b => ct_b (orb K g a b))).length, nI ((ordA N (popc a)).length + k))) (ordL N (popc a)).length (r := nI (imL N K g a).length) (fun k hk => ?_) ?_
  · refine (xn_s (bc_pop (a := a) (by omega))).trans ((xn_s (c_first hF (by omega))).trans ((xn_s (c_start hN hA (by omega))).trans ((xn_s hh).trans rfl)))
  · have hb := ordL_lt hN hk
    have e1 : nI (popc a) + (1 : Int32) = nI (popc a + 1) := n_add1 _
    show xn (f_X0_start (nI N) st (nI (popc a) + (1 : Int32))) _ = _
    rw [e1]
    refine (xn_s (c_start hN hA (by omega))).trans ((xb_f (by rw [n_le (by omega) (by omega)]; omega)).trans ((xk_t (vp_in_nI (by omega) (by omega))).trans ?_))
    rw [n_cl (by omega), seg_at hN hA (by omega) hk]
    refine (xn_s (c_first hF (by omega))).trans ?_
    have hc := tk_c (fun b => ct_b (orb K g a b)) hk
    by_cases w : ct_b (orb K g a (ordL N (popc a))[k]) = true
    · refine (xb_t ((fi_same hN hg ha hb.1).mpr w)).trans ?_
      rw [if_pos w] at hc
      rw [n_add1, n_add1, hc, Nat.add_assoc]
    · refine (xb_f (fun z => w ((fi_same hN hg ha hb.1).mp z))).trans ?_
      rw [if_neg w] at hc
      rw [n_add1, hc, Nat.add_assoc]; rfl
  · have e1 : nI (popc a) + (1 : Int32) = nI (popc a + 1) := n_add1 _
    show xn (f_X0_start (nI N) st (nI (popc a) + (1 : Int32))) _ = _
    rw [e1]
    refine (xn_s (c_start hN hA (by omega))).trans ((xb_t (by rw [n_le (by omega) (by omega)]; omega)).trans ?_)
    rw [List.take_length]; rfl
/-- the j-th, or -5 -/
def nth5 (l : List Nat) (j : Nat) : Int32 := match l[j]? with
  | none => -5
  | some b => nI b
theorem nth5_s {l : List Nat} {j b : Nat} (h : l[j]? = some b) : nth5 l j = nI b := by unfold nth5; rw [h]
theorem nth5_n {l : List Nat} {j : Nat} (h : l.length ≤ j) : nth5 l j = -5 := by unfold nth5; rw [List.getElem?_eq_none h]
theorem c_nthWith (hN : N ≤ 8) (hg : ∀ i, i < K → gp_ok N (g i)) (hA : kA N io st) (hF : kF N K g fi) {a j : Nat} (ha : a < 2 ^ N) (hj : j < 2 ^ 31) : f_X0_nthWith (nI N) io st fi (nI a) (nI j) = some (nth5 (imL N K g a) j) := by
  have hp := p2_8 hN
  have hz := popc_N N (by omega) a ha
  have hlen := seg_len N (popc a)
  have hle := ordA_le (N := N) (z := popc a + 1) hN
  let c : Nat → Nat := fun k => (((ordL N (popc a)).take k).filter (fun b => ct_b (orb K g a b))).length
  let I : Nat → Int32 × Int32 → Prop := fun k z => z = (nI (j - c k), nI ((ordA N (popc a)).length + k)) ∧ c k ≤ j
  let P : Unit ⊕ Int32 → Prop := fun x => (match x with | .inl z => (fun (_ : Unit) => some (-5 : Int32)) z | .inr z => some z) = some (nth5 (imL N K g a) j)
  have e1 : nI (popc a) + (1 : Int32) = nI (popc a + 1) := n_add1 _
  have hh := xL_for (body := f_X0_nthWith_L1 (nI N) st (nI (popc a)) fi io (opI (FI N K g a))) (P := P) I (ordL N (popc a)).length (fun k z hk hz => ?_) (fun z hz => ?_) (ordL N (popc a)).length 0 (Nat.zero_add _) (nI j, nI (ordA N (popc a)).length) ⟨by show _ = (nI (j - 0), _); rw [Nat.sub_zero, Nat.add_zero], Nat.zero_le _⟩
  · obtain ⟨x, x1, x2⟩ := hh
    exact (xn_s (bc_pop (a := a) (by omega))).trans ((xn_s (c_first hF (by omega))).trans ((xn_s (c_start hN hA (by omega))).trans ((xn_s x1).trans x2)))
  · obtain ⟨rfl, hc⟩ := hz
    have hb := ordL_lt hN hk
    have hd : f_X0_nthWith_L1 (nI N) st (nI (popc a)) fi io (opI (FI N K g a)) (nI (j - c k), nI ((ordA N (popc a)).length + k)) = xb (opI (FI N K g (ordL N (popc a))[k]) = opI (FI N K g a)) (xb (nI (j - c k) = 0) (some (.inr (.inr (nI (ordL N (popc a))[k])))) (some (.inl (nI (j - c k) + (-1 : Int32), nI ((ordA N (popc a)).length + k) + (1 : Int32))))) (some (.inl (nI (j - c k), nI ((ordA N (popc a)).length + k) + (1 : Int32)))) := by
      show xn (f_X0_start (nI N) st (nI (popc a) + (1 : Int32))) _ = _
      rw [e1]
      refine (xn_s (c_start hN hA (by omega))).trans ((xb_f (by rw [n_le (by omega) (by omega)]; omega)).trans ((xk_t (vp_in_nI (by omega) (by omega))).trans ?_))
      rw [n_cl (by omega), seg_at hN hA (by omega) hk]
      exact (xn_s (c_first hF (by omega))).trans rfl
    have hcc : c (k + 1) = c k + (if ct_b (orb K g a (ordL N (popc a))[k]) then 1 else 0) := tk_c (fun b => ct_b (orb K g a b)) hk
    by_cases w : ct_b (orb K g a (ordL N (popc a))[k]) = true
    · rw [if_pos w] at hcc
      by_cases e : j = c k
      · right
        refine ⟨_, hd.trans ((xb_t ((fi_same hN hg ha hb.1).mpr w)).trans (xb_t (by rw [e, Nat.sub_self]; rfl))), ?_⟩
        show some _ = some _
        rw [nth5_s (b := (ordL N (popc a))[k])]
        rw [e]
        exact tk_at (fun b => ct_b (orb K g a b)) hk w
      · left
        refine ⟨_, hd.trans ((xb_t ((fi_same hN hg ha hb.1).mpr w)).trans (xb_f (by rw [show (0 : Int32) = nI 0 from rfl, n_ieq (by omega) (by omega)]; omega))), ?_, by omega⟩
        rw [hcc, show j - c k = (j - (c k + 1)) + 1 by omega, n_pred, n_add1, Nat.add_assoc]
    · rw [if_neg w] at hcc
      left
      refine ⟨_, hd.trans (xb_f (fun z => w ((fi_same hN hg ha hb.1).mp z))), ?_, by omega⟩
      rw [hcc, n_add1, Nat.add_assoc]; rfl
  · obtain ⟨rfl, hc⟩ := hz
    refine ⟨.inl (), ?_, ?_⟩
    · show xn (f_X0_start (nI N) st (nI (popc a) + (1 : Int32))) _ = _
      rw [e1]
      exact (xn_s (c_start hN hA (by omega))).trans (xb_t (by rw [n_le (by omega) (by omega)]; omega))
    · show some _ = some _
      rw [nth5_n]
      have : c (ordL N (popc a)).length = (imL N K g a).length := by show (((ordL N (popc a)).take _).filter _).length = _; rw [List.take_length]; rfl
      omega
theorem fi_first (hN : N ≤ 8) {b : Nat} (hb : b < 256) : opI (FI N K g b) = nI b ↔ ct_b (FI N K g b = some b) = true := by
  rw [show nI b = opI (some b) from rfl, opI_inj (fun _ h => FI_lt hN h) (fun c h => by cases h; exact hb), ct_bt]
theorem c_isFirst (hN : N ≤ 8) (hF : kF N K g fi) {b : Nat} (hb : b < 256) : f_X0_isFirst fi (nI b) = some (b01 (ct_b (FI N K g b = some b))) := by
  refine (xn_s (c_first hF hb)).trans ?_
  by_cases w : ct_b (FI N K g b = some b) = true
  · exact (xb_t ((fi_first hN hb).mpr w)).trans (by rw [w]; rfl)
  · refine (xb_f (fun z => w ((fi_first hN hb).mp z))).trans ?_
    rw [Bool.not_eq_true] at w
    rw [w]; rfl
end QUERY

-- the sets in their order, as the class lays them
def tn (v : Nat) : Nat → Nat
  | 0 => 0
  | k + 1 => tn v k * 2 + (if v.testBit k then 1 else 0)
theorem tn_lt (v : Nat) : ∀ k, tn v k < 2 ^ k
  | 0 => by rw [tn]; exact Nat.one_pos
  | k + 1 => by
    have := tn_lt v k
    rw [tn, Nat.pow_succ]
    split <;> omega
theorem c_turn {N v : Nat} (hN : N ≤ 8) (hv : v < 256) : f_X0_turnRound (nI N) (nI v) = some (nI (tn v N)) := by
  have h := xL_up (body := f_X0_turnRound_L1 (nI N) (nI v)) (fun k => (nI (tn v k), nI k)) N (r := nI (tn v N)) (fun k hk => ?_) (xb_t (Int32.le_refl _))
  · exact (xn_s h).trans rfl
  · refine (xb_f (by rw [n_le (by omega) (by omega)]; omega)).trans ?_
    have e1 : nI (tn v k) <<< ((1 : Int32) &&& 31) = nI (tn v k * 2) := n_shl (a := tn v k) (k := 1) (by omega)
    rw [e1, n_bit (by omega) (by omega), n_tb, n_or, n_add1, tn]
    have e2 : tn v k * 2 + (if v.testBit k then 1 else 0) = tn v k * 2 ||| (if v.testBit k then 1 else 0) := by
      have := Nat.two_pow_add_eq_or_of_lt (i := 1) (b := if v.testBit k then 1 else 0) (by split <;> decide) (tn v k)
      rw [Nat.mul_comm (tn v k) 2]
      exact this
    rw [e2]
/-- those still to come, k being left -/
def arR (N z : Nat) : Nat → List Nat
  | 0 => []
  | k + 1 => (if popc k == z then [tn k N] else []) ++ arR N z k
theorem arR_ok : ∀ N, N < 9 → ∀ z, z < 9 → arR N z (2 ^ N) = ordL N z := by decide +kernel
theorem ordA_le {N z : Nat} (hN : N ≤ 8) : (ordA N z).length ≤ 256 := nd_len (ordA_nd hN z) (fun x hx => Nat.lt_of_lt_of_le ((ordA_mem hN z).mp hx).1 (p2_8 hN))
theorem ar_L2 {N z : Nat} (hN : N ≤ 8) (hz : z ≤ N) {f : Nat → Int32} (hf : rowL f (ordA N z)) : ∃ f', xL (f_X0_arrange_L2 (nI z) (nI N)) (f, nI (ordA N z).length, ((1 : Int32) <<< (nI N &&& 31)) - (1 : Int32)) = some (f', nI (ordA N (z + 1)).length) ∧ rowL f' (ordA N (z + 1)) := by
  let I : Nat → (Nat → Int32) × Int32 × Int32 → Prop := fun k y => ∃ f l, y = (f, nI l.length, n_left k) ∧ rowL f l ∧ l ++ arR N z k = ordA N (z + 1)
  let P : (Nat → Int32) × Int32 → Prop := fun y => ∃ f', y = (f', nI (ordA N (z + 1)).length) ∧ rowL f' (ordA N (z + 1))
  have e0 : ((1 : Int32) <<< (nI N &&& 31)) - (1 : Int32) = n_left (2 ^ N) := by rw [show (1 : Int32) <<< (nI N &&& 31) = nI (1 * 2 ^ N) from n_shl (a := 1) (by omega), Nat.one_mul, n_left_sub]
  have hp := p2_8 hN
  have hh := xL_dnI (body := f_X0_arrange_L2 (nI z) (nI N)) (P := P) I (fun y hy => ?_) (2 ^ N) (fun k y hk hy => Or.inl ?_) (f, nI (ordA N z).length, ((1 : Int32) <<< (nI N &&& 31)) - (1 : Int32)) ⟨f, ordA N z, by rw [e0], hf, by rw [arR_ok N (by omega) z (by omega)]; rfl⟩
  · obtain ⟨y, h1, f', rfl, h2⟩ := hh
    exact ⟨f', h1, h2⟩
  · obtain ⟨f, l, rfl, h1, h2⟩ := hy
    rw [arR, List.append_nil] at h2
    refine ⟨(f, nI l.length), xb_t n_left_lt, f, by rw [h2], by rw [← h2]; exact h1⟩
  · obtain ⟨f, l, rfl, h1, h2⟩ := hy
    have hlen : l.length + (arR N z (k + 1)).length ≤ 256 := by rw [← List.length_append, h2]; exact ordA_le hN
    have hd : f_X0_arrange_L2 (nI z) (nI N) (f, nI l.length, n_left (k + 1)) = xb (nI (popc k) = nI z) (xk (vp_in (nI l.length) 256) (some (.inl ((upd f (nI l.length).toNatClampNeg (nI (tn k N))), (nI l.length + (1 : Int32)), (nI k + (-1 : Int32)))))) (some (.inl (f, nI l.length, (nI k + (-1 : Int32))))) := by
      refine (xb_f (n_left_nlt (by omega))).trans ?_
      rw [n_left_s]
      refine (xn_s (bc_ok k (by omega))).trans ?_
      show xb (nI (popc k) = nI z) (xn (f_X0_turnRound (nI N) (nI k)) _) _ = _
      rw [c_turn hN (by omega)]
      rfl
    have hpk := popc_le k
    rw [arR] at h2 hlen
    by_cases e : popc k = z
    · have eb : (popc k == z) = true := by rw [beq_iff_eq]; exact e
      rw [if_pos eb] at h2 hlen
      simp only [List.length_append, List.length_singleton] at hlen
      refine ⟨(upd f l.length (nI (tn k N)), nI (l ++ [tn k N]).length, n_left k), ?_, _, l ++ [tn k N], rfl, rowL_add h1 _, by rw [List.append_assoc]; exact h2⟩
      rw [hd]
      refine (xb_t (by rw [e])).trans ((xk_t (vp_in_nI (by omega) (by omega))).trans ?_)
      rw [n_cl (by omega), n_add1, List.length_append, List.length_singleton]
      rfl
    · have eb : ¬ (popc k == z) = true := by rw [beq_iff_eq]; exact e
      rw [if_neg eb, List.nil_append] at h2
      refine ⟨(f, nI l.length, n_left k), ?_, f, l, rfl, h1, h2⟩
      rw [hd]
      exact (xb_f (by rw [n_ieq (by omega) (by omega)]; exact e)).trans rfl
/-- the class's order and where each size starts -/
def kA (N : Nat) (inOrder starts : Nat → Int32) : Prop := rowL inOrder (ordA N (N + 1)) ∧ ∀ z, z ≤ N + 1 → starts z = nI (ordA N z).length
theorem c_arrange {N : Nat} (hN : N ≤ 8) (inOrder starts : Nat → Int32) : ∃ io st, f_X0_arrange (nI N) inOrder starts = some (io, st) ∧ kA N io st := by
  let I : Nat → (Nat → Int32) × (Nat → Int32) × Int32 × Int32 → Prop := fun z y => ∃ io st, y = (io, st, nI (ordA N z).length, nI z) ∧ rowL io (ordA N z) ∧ ∀ i, i < z → st i = nI (ordA N i).length
  let P : (Nat → Int32) × (Nat → Int32) × Int32 → Prop := fun y => ∃ io st, y = (io, st, nI (ordA N (N + 1)).length) ∧ rowL io (ordA N (N + 1)) ∧ ∀ i, i < N + 1 → st i = nI (ordA N i).length
  have hh := xL_for (body := f_X0_arrange_L1 (nI N)) (P := P) I (N + 1) (fun z y hz hy => Or.inl ?_) (fun y hy => ?_) (N + 1) 0 (Nat.zero_add _) (inOrder, starts, (0 : Int32), (0 : Int32)) ⟨inOrder, starts, rfl, rowL_nil _, fun i hi => absurd hi (Nat.not_lt_zero _)⟩
  · obtain ⟨y, h1, io, st, rfl, h2, h3⟩ := hh
    refine ⟨io, upd st (N + 1) (nI (ordA N (N + 1)).length), (xn_s h1).trans ?_, h2, fun z hz => ?_⟩
    · show xk (vp_in (nI N + (1 : Int32)) 10) _ = _
      rw [n_add1]
      refine (xk_t (vp_in_nI (by omega) (by omega))).trans ?_
      rw [n_cl (by omega)]
    · by_cases e : z = N + 1
      · rw [e, up_s]
      · rw [up_n e]; exact h3 z (by omega)
  · obtain ⟨io, st, rfl, h2, h3⟩ := hy
    obtain ⟨io', e1, h4⟩ := ar_L2 hN (z := z) (by omega) h2
    refine ⟨(io', upd st z (nI (ordA N z).length), nI (ordA N (z + 1)).length, nI (z + 1)), ?_, io', _, rfl, h4, fun i hi => ?_⟩
    · refine (xb_f (by rw [n_lt (by omega) (by omega)]; omega)).trans ((xk_t (vp_in_nI (by omega) (by omega))).trans ((xn_s e1).trans ?_))
      show some (Sum.inl _) = _
      rw [n_cl (by omega), n_add1]
    · by_cases e : i = z
      · rw [e, up_s]
      · rw [up_n e]; exact h3 i (by omega)
  · obtain ⟨io, st, rfl, h2, h3⟩ := hy
    exact ⟨(io, st, nI (ordA N (N + 1)).length), xb_t (by rw [n_lt (by omega) (by omega)]; omega), io, st, rfl, h2, h3⟩
theorem c_fill (f : Nat → Int32) (v : Int32) : ∃ f', f_J7_fill_53178 256 f v = some f' ∧ ∀ x, x < 256 → f' x = v := by
  have h := xL_up (body := f_J7_fill_53178_L1 256 v) (fun k => ((fun i => if i < k then v else f i), nI k)) 256 (r := fun i => if i < 256 then v else f i) (fun k hk => ?_) (xb_t (Int32.le_refl _))
  · have e0 : ((fun i => if i < 0 then v else f i), nI 0) = (f, (0 : Int32)) := by
      have : (fun i => if i < 0 then v else f i) = f := funext fun i => if_neg (by omega)
      rw [this]; rfl
    have h2 : xL (f_J7_fill_53178_L1 256 v) (f, (0 : Int32)) = some (fun i => if i < 256 then v else f i) := by rw [← e0]; exact h
    exact ⟨_, (xn_s h2).trans rfl, fun x hx => if_pos hx⟩
  · refine (xb_f (by rw [n_le (by omega) (by omega)]; omega)).trans ((xk_t (vp_in_nI hk (by omega))).trans ?_)
    rw [n_cl (by omega), n_add1]
    have : upd (fun i => if i < k then v else f i) k v = fun i => if i < k + 1 then v else f i := funext fun i => by
      by_cases e : i = k
      · rw [e, up_s, if_pos (by omega)]
      · rw [up_n e]
        by_cases w : i < k
        · rw [if_pos w, if_pos (by omega)]
        · rw [if_neg w, if_neg (by omega)]
    rw [this]
section MAKE
variable {N K : Nat} {g : Nat → Nat → Nat} {e_n : Int32} {steps chains leaving : Nat → Int32}
theorem opI_m1 {o : Option Nat} (h : ∀ b, o = some b → b < 256) : opI o = (-1 : Int32) ↔ o = none := by
  cases o with
  | none => exact ⟨fun _ => rfl, fun _ => rfl⟩
  | some b => exact ⟨fun e => absurd (show nI b < 0 by rw [show nI b = (-1 : Int32) from e]; decide) (nI_pos (n := b) (by have := h b rfl; omega)), fun e => by cases e⟩
theorem mk_L2 {rd ra : Nat → Int32} {cnt : Int32} {rl : List Nat} (h : kR rd ra cnt rl) (io : Nat → Int32) (i c : Nat) (hi : i < 256) (hc : io i = nI c) (fi : Nat → Int32) :
    ∃ fi', xL (f_X0_make_L2 cnt rd io (nI i)) (fi, (0 : Int32)) = some fi' ∧ ∀ x, x < 256 → (x ∈ rl → fi' x = nI c) ∧ (x ∉ rl → fi' x = fi x) := by
  have hl := kR_len h
  obtain ⟨h1, h2, h3, rfl, h5⟩ := h
  let I : Nat → (Nat → Int32) × Int32 → Prop := fun k z => ∃ f, z = (f, nI k) ∧ ∀ x, x < 256 → (x ∈ rl.take k → f x = nI c) ∧ (x ∉ rl.take k → f x = fi x)
  have hh := xL_for (body := f_X0_make_L2 (nI rl.length) rd io (nI i)) (P := fun f => ∀ x, x < 256 → (x ∈ rl → f x = nI c) ∧ (x ∉ rl → f x = fi x)) I rl.length (fun k z hk hz => Or.inl ?_) (fun z hz => ?_) rl.length 0 (Nat.zero_add _) (fi, (0 : Int32)) ⟨fi, rfl, fun x hx => ⟨fun w => by simp at w, fun _ => rfl⟩⟩
  · exact hh
  · obtain ⟨f, rfl, hf⟩ := hz
    have hx := h2 _ (List.getElem_mem hk)
    have hr := h3 k _ (List.getElem?_eq_getElem hk)
    refine ⟨(upd f rl[k] (nI c), nI k + (1 : Int32)), ?_, upd f rl[k] (nI c), by rw [n_add1], fun x hx2 => ?_⟩
    · refine (xb_f (by rw [n_le (by omega) (by omega)]; omega)).trans ((xk_t (vp_in_nI (by omega) (by omega))).trans ?_)
      rw [n_cl (by omega), hr]
      refine (xk_t (vp_in_nI hx (by omega))).trans ?_
      rw [n_cl (by omega), n_cl (by omega), hc]
    · rw [List.take_succ_eq_append_getElem hk, List.mem_append, List.mem_singleton]
      by_cases e : x = rl[k]
      · rw [e, up_s]
        exact ⟨fun _ => rfl, fun w => absurd (Or.inr rfl) w⟩
      · rw [up_n e]
        exact ⟨fun w => (hf x hx2).1 (w.elim id (fun z => absurd z e)), fun w => (hf x hx2).2 (fun z => w (Or.inl z))⟩
  · obtain ⟨f, rfl, hf⟩ := hz
    rw [List.take_length] at hf
    exact ⟨f, xb_t (Int32.le_refl _), hf⟩
/-- what the class has laid of the order -/
def kN (k_n : Int32) (io st : Nat → Int32) : Prop := k_n = nI 0 ∨ ∃ N', 1 ≤ N' ∧ N' ≤ 8 ∧ k_n = nI N' ∧ kA N' io st
/-- the firsts -/
def kF (N K : Nat) (g : Nat → Nat → Nat) (fi : Nat → Int32) : Prop := ∀ x, x < 256 → fi x = opI (fdO K g (ordA N (N + 1)) x)
theorem c_make (h1N : 1 ≤ N) (hN : N ≤ 8) (hg : ∀ i, i < K → gp_ok N (g i)) (hE : eOK N K g e_n steps chains leaving) {k_n : Int32} {io st : Nat → Int32} (hk : kN k_n io st) (fi : Nat → Int32) {rd ra : Nat → Int32} {cnt : Int32} {rl : List Nat} (hR : kR rd ra cnt rl) :
    ∃ io' st' fi' rd' ra' cnt' rl', f_X0_make k_n io st fi rd ra cnt steps chains (nI N) = some (nI N, io', st', fi', rd', ra', cnt') ∧ kA N io' st' ∧ kF N K g fi' ∧ kR rd' ra' cnt' rl' := by
  obtain ⟨io', st', e1, hA⟩ : ∃ io' st', xb (k_n = nI N) (some (k_n, io, st)) (xn (f_X0_arrange (nI N) io st) (fun (z : (Nat → Int32) × (Nat → Int32)) => match z with | (k_inOrder_4, k_starts_5) => some (nI N, k_inOrder_4, k_starts_5))) = some (nI N, io', st') ∧ kA N io' st' := by
    by_cases e : k_n = nI N
    · rcases hk with hk | ⟨N', a1, a2, a3, a4⟩
      · rw [hk, n_ieq (by omega) (by omega)] at e; omega
      · rw [a3, n_ieq (by omega) (by omega)] at e
        subst e
        exact ⟨io, st, (xb_t a3).trans (by rw [a3]), a4⟩
    · obtain ⟨io', st', e1, hA⟩ := c_arrange hN io st
      exact ⟨io', st', (xb_f e).trans ((xn_s e1).trans rfl), hA⟩
  obtain ⟨fi0, e2, hfi0⟩ := c_fill fi (-1 : Int32)
  have hp := p2_8 hN
  have hlen := ordA_len N (by omega)
  have horb : ∀ {a b c : Nat}, orb K g a b → orb K g b c → orb K g a c := fun h h' => orb_tr hN hg h h'
  let l := ordA N (N + 1)
  let I : Nat → (Nat → Int32) × (Nat → Int32) × (Nat → Int32) × Int32 × Int32 → Prop := fun i z => ∃ fi rd ra cnt rl, z = (fi, rd, ra, cnt, nI i) ∧ (∀ x, x < 256 → fi x = opI (fdO K g (l.take i) x)) ∧ kR rd ra cnt rl
  let P : (Nat → Int32) × (Nat → Int32) × (Nat → Int32) × Int32 → Prop := fun z => ∃ fi rd ra cnt rl, z = (fi, rd, ra, cnt) ∧ kF N K g fi ∧ kR rd ra cnt rl
  have e3 : (1 : Int32) <<< (nI N &&& 31) = nI (2 ^ N) := by rw [show (1 : Int32) <<< (nI N &&& 31) = nI (1 * 2 ^ N) from n_shl (a := 1) (by omega), Nat.one_mul]
  have hh := xL_for (body := f_X0_make_L1 (nI N) io' steps chains) (P := P) I (2 ^ N) (fun i z hi hz => Or.inl ?_) (fun z hz => ?_) (2 ^ N) 0 (Nat.zero_add _) (fi0, rd, ra, cnt, (0 : Int32)) ⟨fi0, rd, ra, cnt, rl, rfl, fun x hx => by rw [hfi0 x hx]; rfl, hR⟩
  · obtain ⟨z, z1, fi', rd', ra', cnt', rl', rfl, z2, z3⟩ := hh
    exact ⟨io', st', fi', rd', ra', cnt', rl', (xn_s e1).trans ((xn_s e2).trans ((xn_s z1).trans rfl)), hA, z2, z3⟩
  · obtain ⟨fi, rd, ra, cnt, rl, rfl, hfi, hR⟩ := hz
    have hil : i < l.length := by show i < (ordA N (N + 1)).length; omega
    have hmem : l[i] ∈ ordA N (N + 1) := List.getElem_mem hil
    have hc2 := ((ordA_mem hN _).mp hmem).1
    have hio := hA.1 i _ (List.getElem?_eq_getElem hil)
    have hsm : ∀ {x b : Nat} , fdO K g (l.take i) x = some b → b < 256 := fun {x b} w => by
      have := ((ordA_mem hN _).mp (List.mem_of_mem_take (fdO_some w).1)).1
      omega
    have hd : f_X0_make_L1 (nI N) io' steps chains (fi, rd, ra, cnt, nI i) = xb (fi l[i] = (-1 : Int32)) (xn (f_X0_spread (nI N) rd ra cnt steps chains (nI l[i])) (fun (z : (Nat → Int32) × (Nat → Int32) × Int32) => match z with | (k_reached_16, k_reachedAt_17, k_reachedCount_18) => xn (xL (f_X0_make_L2 k_reachedCount_18 k_reached_16 io' (nI i)) (fi, (0 : Int32))) (fun (k_firsts_21 : (Nat → Int32)) => some (.inl (k_firsts_21, k_reached_16, k_reachedAt_17, k_reachedCount_18, (nI i + (1 : Int32))))))) (some (.inl (fi, rd, ra, cnt, nI i + (1 : Int32)))) := by
      refine (xb_f (by rw [e3, n_le (by omega) (by omega)]; omega)).trans ((xk_t (vp_in_nI (by omega) (by omega))).trans ?_)
      rw [n_cl (by omega), hio]
      refine (xk_t (vp_in_nI (by omega) (by omega))).trans ?_
      rw [n_cl (by omega)]
    have htk : l.take (i + 1) = l.take i ++ [l[i]] := List.take_succ_eq_append_getElem hil
    by_cases hn : fdO K g (l.take i) l[i] = none
    · obtain ⟨rd2, ra2, cnt2, rl2, s1, s2, s3⟩ := sp_spread hN hg hE (a := l[i]) (by omega) hR
      obtain ⟨fi2, m1, m2⟩ := mk_L2 s2 io' i l[i] (by omega) hio fi
      refine ⟨(fi2, rd2, ra2, cnt2, nI i + (1 : Int32)), ?_, fi2, rd2, ra2, cnt2, rl2, by rw [n_add1], fun x hx => ?_, s2⟩
      · rw [hd]
        refine (xb_t ?_).trans ((xn_s s1).trans ((xn_s m1).trans rfl))
        rw [hfi _ (by omega), hn]; rfl
      · rw [htk, fdO_app]
        rcases Classical.em (orb K g l[i] x) with w | w
        · rw [(m2 x hx).1 ((s3.1 x).mpr w), fdO_one w]
          have : fdO K g (l.take i) x = none := fdO_none.mpr (fun b hb w2 => fdO_none.mp hn b hb (horb w2 (orb_sy hN hg (by omega) w)))
          rw [this]; rfl
        · rw [(m2 x hx).2 (fun z => w ((s3.1 x).mp z)), fdO_one' w, hfi x hx]
          cases fdO K g (l.take i) x <;> rfl
    · refine ⟨(fi, rd, ra, cnt, nI i + (1 : Int32)), ?_, fi, rd, ra, cnt, rl, by rw [n_add1], fun x hx => ?_, hR⟩
      · rw [hd]
        refine xb_f ?_
        rw [hfi _ (by omega), opI_m1 (fun b w => hsm w)]
        exact hn
      · rw [htk, fdO_app, hfi x hx]
        cases e : fdO K g (l.take i) x with
        | some b => rfl
        | none =>
          have : fdO K g [l[i]] x = none := fdO_one' (fun w => by
            cases e2 : fdO K g (l.take i) l[i] with
            | none => exact hn e2
            | some b => exact fdO_none.mp e b (fdO_some e2).1 (horb (fdO_some e2).2 w))
          rw [this]; rfl
  · obtain ⟨fi, rd, ra, cnt, rl, rfl, hfi, hR⟩ := hz
    have : l.take (2 ^ N) = ordA N (N + 1) := by rw [← hlen]; exact List.take_length
    rw [this] at hfi
    exact ⟨(fi, rd, ra, cnt), xb_t (by rw [e3]; exact Int32.le_refl _), fi, rd, ra, cnt, rl, rfl, hfi, hR⟩
end MAKE

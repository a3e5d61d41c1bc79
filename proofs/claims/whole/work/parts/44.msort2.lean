section SORT
variable {N K : Nat} {g : Nat → Nat → Nat} {now : Nat → Int32}
theorem sort_L4 {carried : Nat → Int32} {rl : List Nat} (h3 : rowL carried rl) (h2 : ∀ x ∈ rl, x < 256) (hl : rl.length ≤ 256) (c : Nat) (fi : Nat → Int32) :
    ∃ fi', xL (f_X8_sortSets_L4 (nI rl.length) carried (nI c)) (fi, (0 : Int32)) = some fi' ∧ ∀ x, x < 256 → (x ∈ rl → fi' x = nI c) ∧ (x ∉ rl → fi' x = fi x) := by
  let I : Nat → (Nat → Int32) × Int32 → Prop := fun k z => ∃ f, z = (f, nI k) ∧ ∀ x, x < 256 → (x ∈ rl.take k → f x = nI c) ∧ (x ∉ rl.take k → f x = fi x)
  have hh := xL_for (body := f_X8_sortSets_L4 (nI rl.length) carried (nI c)) (P := fun f => ∀ x, x < 256 → (x ∈ rl → f x = nI c) ∧ (x ∉ rl → f x = fi x)) I rl.length (fun k z hk hz => Or.inl ?_) (fun z hz => ?_) rl.length 0 (Nat.zero_add _) (fi, (0 : Int32)) ⟨fi, rfl, fun x hx => ⟨fun w => by simp at w, fun _ => rfl⟩⟩
  · exact hh
  · obtain ⟨f, rfl, hf⟩ := hz
    have hx := h2 _ (List.getElem_mem hk)
    have hr := h3 k _ (List.getElem?_eq_getElem hk)
    refine ⟨(upd f rl[k] (nI c), nI k + (1 : Int32)), ?_, upd f rl[k] (nI c), by rw [n_add1], fun x hx2 => ?_⟩
    · refine (xb_f (by rw [n_le (by omega) (by omega)]; omega)).trans ((xk_t (vp_in_nI (by omega) (by omega))).trans ?_)
      rw [n_cl (by omega), hr]
      refine (xk_t (vp_in_nI hx (by omega))).trans ?_
      rw [n_cl (by omega)]
    · rw [List.take_succ_eq_append_getElem hk, List.mem_append, List.mem_singleton]
      by_cases e : x = rl[k]
      · rw [e, up_s]
        exact ⟨fun _ => rfl, fun w => absurd (Or.inr rfl) w⟩
      · rw [up_n e]
        exact ⟨fun w => (hf x hx2).1 (w.elim id (fun z => absurd z e)), fun w => (hf x hx2).2 (fun z => w (Or.inl z))⟩
  · obtain ⟨f, rfl, hf⟩ := hz
    rw [List.take_length] at hf
    exact ⟨f, xb_t (Int32.le_refl _), hf⟩
/-- is b the head of its images -/
noncomputable def hdB (N K : Nat) (g : Nat → Nat → Nat) (b : Nat) : Bool := ct_b (FI N K g b = some b)
theorem hd_first (hN : N ≤ 8) {l r : List Nat} {b : Nat} (hl : l ++ b :: r = ordA N (N + 1)) (hb : b < 256) : hdB N K g b = true ↔ fdO K g l b = none := by
  unfold hdB
  rw [ct_bt]
  have e : FI N K g b = (fdO K g l b).or (some b) := by
    unfold FI
    rw [← hl, show l ++ b :: r = l ++ ([b] ++ r) from rfl, fdO_app, fdO_app, fdO_one (orb_rf K g hb)]
    rfl
  constructor
  · intro w
    cases e2 : fdO K g l b with
    | none => rfl
    | some c =>
      rw [e, e2] at w
      cases w
      have hm := (fdO_some e2).1
      have hnd := ordA_nd hN (N + 1)
      rw [← hl, List.nodup_append] at hnd
      exact absurd rfl (hnd.2.2 b hm b (List.mem_cons_self ..))
  · intro w
    rw [e, w]; rfl
/-- so far -/
def mSI (N K : Nat) (g : Nat → Nat → Nat) (leasts heads : Nat → Int32) (l : List Nat) : Prop := (∀ x, x < 256 → leasts x = opI (fdO K g l x)) ∧ rowL heads (l.filter (hdB N K g))
theorem sort_L3 (hM : mN N K g now) {z : Nat} (hz : z ≤ 8) (figs isC carried : Nat → Int32) (cnt : Int32) {leasts heads : Nat → Int32} (h : mSI N K g leasts heads (ordA N z)) :
    ∃ figs' isC' carried' cnt' leasts' heads', xL (f_X8_sortSets_L3 now (nI z)) (figs, isC, carried, cnt, leasts, heads, nI ((ordA N z).filter (hdB N K g)).length, (255 : Int32)) = some (figs', isC', carried', cnt', leasts', heads', nI ((ordA N (z + 1)).filter (hdB N K g)).length) ∧ mSI N K g leasts' heads' (ordA N (z + 1)) := by
  have hM' := hM
  obtain ⟨n1, n8, k3, w0, w1, hg, hgs⟩ := hM'
  have hp := p2_8 n8
  have hall : ∃ rr, ordA N (z + 1) ++ rr = ordA N (N + 1) := by
    rcases Nat.lt_or_ge N z with w | w
    · refine ⟨[], ?_⟩
      have := ordA_all n8 (z - N)
      rw [show N + 1 + (z - N) = z + 1 by omega] at this
      rw [this, List.append_nil]
    · have key : ∀ d, ∃ rr, ordA N (z + 1) ++ rr = ordA N (z + 1 + d) := by
        intro d
        induction d with
        | zero => exact ⟨[], List.append_nil _⟩
        | succ d ih =>
          obtain ⟨rr, hrr⟩ := ih
          exact ⟨rr ++ ordL N (z + 1 + d), by rw [← List.append_assoc, hrr, ← Nat.add_assoc]; rfl⟩
      obtain ⟨rr, hrr⟩ := key (N - z)
      exact ⟨rr, by rw [hrr, show z + 1 + (N - z) = N + 1 by omega]⟩
  obtain ⟨rr, hrr⟩ := hall
  let q : Nat → Bool := fun a => decide (a < 2 ^ N) && (popc a == z)
  let I : Nat → (Nat → Int32) × (Nat → Int32) × (Nat → Int32) × Int32 × (Nat → Int32) × (Nat → Int32) × Int32 × Int32 → Prop := fun k y => ∃ figs isC carried cnt leasts heads l, y = (figs, isC, carried, cnt, leasts, heads, nI (l.filter (hdB N K g)).length, n_left k) ∧ mSI N K g leasts heads l ∧ l ++ fr q k = ordA N (z + 1)
  let P : (Nat → Int32) × (Nat → Int32) × (Nat → Int32) × Int32 × (Nat → Int32) × (Nat → Int32) × Int32 → Prop := fun y => ∃ figs isC carried cnt leasts heads, y = (figs, isC, carried, cnt, leasts, heads, nI ((ordA N (z + 1)).filter (hdB N K g)).length) ∧ mSI N K g leasts heads (ordA N (z + 1))
  have hh := xL_dnI (body := f_X8_sortSets_L3 now (nI z)) (P := P) I (fun y hy => ?_) 256 (fun k y hk hy => Or.inl ?_) (figs, isC, carried, cnt, leasts, heads, nI ((ordA N z).filter (hdB N K g)).length, (255 : Int32)) ⟨figs, isC, carried, cnt, leasts, heads, ordA N z, rfl, h, by rw [fr_256]; rfl⟩
  · obtain ⟨y, y1, figs', isC', carried', cnt', leasts', heads', rfl, y2⟩ := hh
    exact ⟨figs', isC', carried', cnt', leasts', heads', y1, y2⟩
  · obtain ⟨figs, isC, carried, cnt, leasts, heads, l, rfl, h1, h2⟩ := hy
    rw [fr, List.append_nil] at h2
    subst h2
    exact ⟨_, xb_t n_left_lt, figs, isC, carried, cnt, leasts, heads, rfl, h1⟩
  · obtain ⟨figs, isC, carried, cnt, leasts, heads, l, rfl, ⟨h1, h1'⟩, h2⟩ := hy
    have ht := tr8_ok k hk
    have hlen : l.length + (fr q (k + 1)).length ≤ 256 := by rw [← List.length_append, h2]; exact ordA_le n8
    rw [fr] at h2 hlen
    have hfl := List.length_filter_le (hdB N K g) l
    have skip : ∀ (rest : List Nat), q (tr8 k) = false → I k (figs, isC, carried, cnt, leasts, heads, nI (l.filter (hdB N K g)).length, nI k + (-1 : Int32)) := fun _ w => ⟨figs, isC, carried, cnt, leasts, heads, l, rfl, ⟨h1, h1'⟩, by rw [w] at h2; exact h2⟩
    have h0 : ¬ n_left (k + 1) < 0 := n_left_nlt (by omega)
    rcases m_isSet (N := N) (now := now) n8 w0 (nI (tr8 k)) with ⟨a, ha, ea, e1⟩ | ⟨ha, e1⟩
    · rw [n_ieq (by omega) (by omega)] at ea
      subst ea
      have hsz := m_size (a := tr8 k) (by omega)
      have hpo := popc_le (tr8 k)
      by_cases wz : popc (tr8 k) = z
      · have hq : q (tr8 k) = true := by show (decide _ && _) = true; rw [Bool.and_eq_true, decide_eq_true_eq, beq_iff_eq]; exact ⟨ha, wz⟩
        rw [if_pos hq] at h2 hlen
        simp only [List.length_append, List.length_singleton] at hlen
        have hx := hd_first (K := K) (g := g) n8 (l := l) (r := fr q k ++ rr) (b := tr8 k) (by rw [← hrr, ← h2]; simp) ht.1
        have hd : f_X8_sortSets_L3 now (nI z) (figs, isC, carried, cnt, leasts, heads, nI (l.filter (hdB N K g)).length, n_left (k + 1)) = xb (leasts (tr8 k) = (-1 : Int32)) (xk (vp_in (nI (l.filter (hdB N K g)).length) 256) (xn (f_X8_findImages now figs isC carried cnt (nI (tr8 k))) (fun (z : (Nat → Int32) × (Nat → Int32) × (Nat → Int32) × Int32) => match z with | (m_figures_39, m_isCarried_40, m_carried_41, m_carriedMany_42) => xn (xL (f_X8_sortSets_L4 m_carriedMany_42 m_carried_41 (nI (tr8 k))) (leasts, (0 : Int32))) (fun (m_leasts_45 : (Nat → Int32)) => some (.inl (m_figures_39, m_isCarried_40, m_carried_41, m_carriedMany_42, m_leasts_45, (upd heads (nI (l.filter (hdB N K g)).length).toNatClampNeg (nI (tr8 k))), (nI (l.filter (hdB N K g)).length + (1 : Int32)), (nI k + (-1 : Int32)))))))) (some (.inl (figs, isC, carried, cnt, leasts, heads, nI (l.filter (hdB N K g)).length, (nI k + (-1 : Int32))))) := by
          refine (xb_f h0).trans ?_
          rw [n_left_s]
          refine (xn_s (m_turned hk)).trans ((xn_s e1).trans ((xb_f (by decide)).trans ((xn_s hsz).trans ((xb_t (by rw [wz])).trans ((xk_t (vp_in_nI ht.1 (by omega))).trans ?_)))))
          rw [n_cl (by omega)]
        have hsm : ∀ {x b : Nat} , fdO K g l x = some b → b < 256 := fun {x b} w => by
          have hm : b ∈ ordA N (z + 1) := by rw [← h2]; exact List.mem_append.mpr (Or.inl (fdO_some w).1)
          have := ((ordA_mem n8 _).mp hm).1
          omega
        by_cases hn : fdO K g l (tr8 k) = none
        · obtain ⟨figs2, isC2, carried2, e2, hr2⟩ := m_findImages hM ha figs isC carried cnt
          obtain ⟨le2, e3, hl2⟩ := sort_L4 hr2 (fun x hx => by have := orb_lt n8 hg ha ((imL_mem n8 hg ha).mp hx); omega) (imL_le n8 _) (tr8 k) leasts
          have hc : (l ++ [tr8 k]).filter (hdB N K g) = l.filter (hdB N K g) ++ [tr8 k] := by rw [List.filter_append, List.filter_cons, hx.mpr hn]; rfl
          refine ⟨(figs2, isC2, carried2, nI (imL N K g (tr8 k)).length, le2, upd heads (l.filter (hdB N K g)).length (nI (tr8 k)), nI ((l ++ [tr8 k]).filter (hdB N K g)).length, n_left k), ?_, figs2, isC2, carried2, _, le2, _, l ++ [tr8 k], rfl, ⟨fun x hx2 => ?_, by rw [hc]; exact rowL_add h1' _⟩, by rw [List.append_assoc]; exact h2⟩
          · refine hd.trans ((xb_t (by rw [h1 _ ht.1, hn]; rfl)).trans ((xk_t (vp_in_nI (by omega) (by omega))).trans ((xn_s e2).trans ((xn_s e3).trans ?_))))
            rw [n_cl (by omega), n_add1, hc, List.length_append, List.length_singleton]
            rfl
          · rw [fdO_app]
            rcases Classical.em (orb K g (tr8 k) x) with w | w
            · rw [(hl2 x hx2).1 ((imL_mem n8 hg ha).mpr w), fdO_one w]
              have : fdO K g l x = none := fdO_none.mpr (fun b hb w2 => fdO_none.mp hn b hb (orb_tr n8 hg w2 (orb_sy n8 hg ht.1 w)))
              rw [this]; rfl
            · rw [(hl2 x hx2).2 (fun z => w ((imL_mem n8 hg ha).mp z)), fdO_one' w, h1 x hx2]
              cases fdO K g l x <;> rfl
        · have hc : (l ++ [tr8 k]).filter (hdB N K g) = l.filter (hdB N K g) := by
            have : hdB N K g (tr8 k) = false := by
              cases e : hdB N K g (tr8 k) with
              | false => rfl
              | true => exact absurd (hx.mp e) hn
            rw [List.filter_append, List.filter_cons, this, if_neg (by decide), List.filter_nil, List.append_nil]
          refine ⟨_, hd.trans (xb_f (by rw [h1 _ ht.1, opI_m1 (fun b w => hsm w)]; exact hn)), figs, isC, carried, cnt, leasts, heads, l ++ [tr8 k], by rw [hc]; rfl, ⟨fun x hx2 => ?_, by rw [hc]; exact h1'⟩, by rw [List.append_assoc]; exact h2⟩
          rw [fdO_app, h1 x hx2]
          cases e : fdO K g l x with
          | some b => rfl
          | none =>
            have : fdO K g [tr8 k] x = none := fdO_one' (fun w => by
              cases e2 : fdO K g l (tr8 k) with
              | none => exact hn e2
              | some b => exact fdO_none.mp e b (fdO_some e2).1 (orb_tr n8 hg (fdO_some e2).2 w))
            rw [this]; rfl
      · have hq : q (tr8 k) = false := by
          cases e : q (tr8 k) with
          | false => rfl
          | true =>
            have e : (decide (tr8 k < 2 ^ N) && (popc (tr8 k) == z)) = true := e
            rw [Bool.and_eq_true, decide_eq_true_eq, beq_iff_eq] at e
            exact absurd e.2 wz
        refine ⟨_, ?_, skip [] hq⟩
        refine (xb_f h0).trans ?_
        rw [n_left_s]
        exact (xn_s (m_turned hk)).trans ((xn_s e1).trans ((xb_f (by decide)).trans ((xn_s hsz).trans (xb_f (by rw [n_ieq (by omega) (by omega)]; exact wz)))))
    · have hq : q (tr8 k) = false := by
        cases e : q (tr8 k) with
        | false => rfl
        | true =>
          have e : (decide (tr8 k < 2 ^ N) && (popc (tr8 k) == z)) = true := e
          rw [Bool.and_eq_true, decide_eq_true_eq, beq_iff_eq] at e
          exact absurd rfl (ha _ e.1)
      refine ⟨_, ?_, skip [] hq⟩
      refine (xb_f h0).trans ?_
      rw [n_left_s]
      exact (xn_s (m_turned hk)).trans ((xn_s e1).trans (xb_t rfl))
/-- the reference's leasts and heads -/
def mSorted (N K : Nat) (g : Nat → Nat → Nat) (leasts heads headFrom : Nat → Int32) : Prop := mSI N K g leasts heads (ordA N 9) ∧ ∀ z, z ≤ 9 → headFrom z = nI ((ordA N z).filter (hdB N K g)).length
def mSort (N K : Nat) (g : Nat → Nat → Nat) (isSorted : Int32) (leasts heads headFrom : Nat → Int32) : Prop := isSorted = 0 ∨ (isSorted = 1 ∧ mSorted N K g leasts heads headFrom)
theorem m_sortSets (hM : mN N K g now) (figs isC carried : Nat → Int32) (cnt : Int32) {isSorted : Int32} {leasts heads headFrom : Nat → Int32} (h : mSort N K g isSorted leasts heads headFrom) :
    ∃ figs' isC' carried' cnt' leasts' heads' headFrom', f_X8_sortSets now figs isC carried cnt isSorted leasts heads headFrom = some (figs', isC', carried', cnt', 1, leasts', heads', headFrom') ∧ mSorted N K g leasts' heads' headFrom' := by
  rcases h with rfl | ⟨rfl, h⟩
  · have hcl := xL_up (body := f_X8_sortSets_L1) (fun k => ((fun i => if i < k then (-1 : Int32) else leasts i), nI k)) 256 (r := fun i => if i < 256 then (-1 : Int32) else leasts i) (fun k hk => ?_) (xb_t (Int32.le_refl _))
    · have e0 : ((fun i => if i < 0 then (-1 : Int32) else leasts i), nI 0) = (leasts, (0 : Int32)) := by
        have : (fun i => if i < 0 then (-1 : Int32) else leasts i) = leasts := funext fun i => if_neg (by omega)
        rw [this]; rfl
      have hcl2 : xL f_X8_sortSets_L1 (leasts, (0 : Int32)) = some (fun i => if i < 256 then (-1 : Int32) else leasts i) := by rw [← e0]; exact hcl
      let I : Nat → (Nat → Int32) × (Nat → Int32) × (Nat → Int32) × Int32 × (Nat → Int32) × (Nat → Int32) × (Nat → Int32) × Int32 × Int32 → Prop := fun z y => ∃ figs isC carried cnt leasts heads headFrom, y = (figs, isC, carried, cnt, leasts, heads, headFrom, nI ((ordA N z).filter (hdB N K g)).length, nI z) ∧ mSI N K g leasts heads (ordA N z) ∧ ∀ i, i < z → headFrom i = nI ((ordA N i).filter (hdB N K g)).length
      let P : (Nat → Int32) × (Nat → Int32) × (Nat → Int32) × Int32 × (Nat → Int32) × (Nat → Int32) × (Nat → Int32) × Int32 → Prop := fun y => ∃ figs isC carried cnt leasts heads headFrom, y = (figs, isC, carried, cnt, leasts, heads, headFrom, nI ((ordA N 9).filter (hdB N K g)).length) ∧ mSI N K g leasts heads (ordA N 9) ∧ ∀ i, i < 9 → headFrom i = nI ((ordA N i).filter (hdB N K g)).length
      have hh := xL_for (body := f_X8_sortSets_L2 now) (P := P) I 9 (fun z y hz hy => Or.inl ?_) (fun y hy => ?_) 9 0 (Nat.zero_add _) (figs, isC, carried, cnt, (fun i => if i < 256 then (-1 : Int32) else leasts i), heads, headFrom, (0 : Int32), (0 : Int32)) ⟨figs, isC, carried, cnt, _, heads, headFrom, rfl, ⟨fun x hx => if_pos hx, rowL_nil _⟩, fun i hi => absurd hi (Nat.not_lt_zero _)⟩
      · obtain ⟨y, y1, figs', isC', carried', cnt', leasts', heads', headFrom', rfl, y2, y3⟩ := hh
        refine ⟨figs', isC', carried', cnt', leasts', heads', upd headFrom' 9 (nI ((ordA N 9).filter (hdB N K g)).length), (xb_t rfl).trans ((xn_s hcl2).trans ((xn_s y1).trans rfl)), y2, fun z hz => ?_⟩
        by_cases e : z = 9
        · rw [e, up_s]
        · rw [up_n e]; exact y3 z (by omega)
      · obtain ⟨figs, isC, carried, cnt, leasts, heads, headFrom, rfl, y2, y3⟩ := hy
        obtain ⟨figs', isC', carried', cnt', leasts', heads', e1, h4⟩ := sort_L3 hM (z := z) (by omega) figs isC carried cnt y2
        refine ⟨_, (xb_f (by rw [show (8 : Int32) = nI 8 from rfl, n_lt (by omega) (by omega)]; omega)).trans ((xk_t (vp_in_nI (by omega) (by omega))).trans ((xn_s e1).trans rfl)), figs', isC', carried', cnt', leasts', heads', _, by rw [n_add1], h4, fun i hi => ?_⟩
        rw [n_cl (by omega)]
        by_cases e : i = z
        · rw [e, up_s]
        · rw [up_n e]; exact y3 i (by omega)
      · obtain ⟨figs, isC, carried, cnt, leasts, heads, headFrom, rfl, y2, y3⟩ := hy
        exact ⟨_, xb_t (by decide), figs, isC, carried, cnt, leasts, heads, headFrom, rfl, y2, y3⟩
    · refine (xb_f (by rw [show (256 : Int32) = nI 256 from rfl, n_le (by omega) (by omega)]; omega)).trans ((xk_t (vp_in_nI hk (by omega))).trans ?_)
      rw [n_cl (by omega), n_add1]
      have : upd (fun i => if i < k then (-1 : Int32) else leasts i) k (-1 : Int32) = fun i => if i < k + 1 then (-1 : Int32) else leasts i := funext fun i => by
        by_cases e : i = k
        · rw [e, up_s, if_pos (by omega)]
        · rw [up_n e]
          by_cases w : i < k
          · rw [if_pos w, if_pos (by omega)]
          · rw [if_neg w, if_neg (by omega)]
      rw [this]
  · exact ⟨figs, isC, carried, cnt, leasts, heads, headFrom, xb_f (by decide), h⟩
end SORT

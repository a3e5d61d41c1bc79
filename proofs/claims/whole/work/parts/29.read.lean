-- reading a number as a move: class
theorem pv_stay : pv gp_id = (16434824 : Int32) := by decide +kernel
theorem n_div10 {c : Nat} (h : c < 2 ^ 31) : nI c / (10 : Int32) = nI (c / 10) := pk_div (d := 10) h (by decide) (by decide)
theorem n_rem10 {c : Nat} (h : c < 2 ^ 31) : nI c - nI c / (10 : Int32) * (10 : Int32) = nI (c % 10) := pk_rem (d := 10) h (by decide) (by decide)
theorem cf_left {n c k : Nat} (hk : k < n) : c / 10 ^ (n - (k + 1)) % 10 = cf n c k ∧ c / 10 ^ (n - (k + 1)) / 10 = c / 10 ^ (n - k) := by
  constructor
  · unfold cf; rw [show n - 1 - k = n - (k + 1) by omega]
  · rw [Nat.div_div_eq_div_mul, ← Nat.pow_succ, show (n - (k + 1)).succ = n - k by omega]
/-- the figures from k on, others stay -/
def rd_mv (n c k : Nat) : Nat → Nat := fun i => if k ≤ i ∧ i < n then cf n c i else i
/-- a mask of the figures from k on -/
def rd_mk (n c k : Nat) : Nat := mk_n (fun i => cf n c (n - 1 - i)) (n - k)
theorem rd_mk_tb {n c k q : Nat} (hk : k ≤ n) : (rd_mk n c k).testBit q = true ↔ ∃ p, k ≤ p ∧ p < n ∧ cf n c p = q := by
  unfold rd_mk
  rw [mk_tb]
  constructor
  · rintro ⟨i, h1, h2⟩
    exact ⟨n - 1 - i, by omega, by omega, h2⟩
  · rintro ⟨p, h1, h2, h3⟩
    exact ⟨n - 1 - p, by omega, by show cf n c (n - 1 - (n - 1 - p)) = q; rw [show n - 1 - (n - 1 - p) = p by omega]; exact h3⟩
theorem rd_mk_s {n c k : Nat} (hk : k < n) : rd_mk n c k = rd_mk n c (k + 1) ||| 2 ^ (cf n c k) := by
  unfold rd_mk
  rw [show n - k = (n - (k + 1)) + 1 by omega, mk_n, show n - 1 - (n - (k + 1)) = k by omega]
theorem rd_mk_lt {n c k : Nat} : rd_mk n c k < 2 ^ 10 := mk_lt (fun i _ => Nat.mod_lt _ (by decide))
theorem f_read_pos {n c : Nat} (hn : n ≤ 8) (hc : c < 2 ^ 31) : ∃ r, f_X2_read (nI c) (nI n) = some r ∧ ((∃ s, isMv n (nI c) s ∧ r = pv s) ∨ ((∀ s, ¬ isMv n (nI c) s) ∧ r = (-1 : Int32))) := by
  have hlt : ∀ k, c / 10 ^ k < 2 ^ 31 := fun k => Nat.lt_of_le_of_lt (Nat.div_le_self _ _) hc
  let I : Nat → Int32 × Int32 × Int32 × Int32 → Prop := fun k z => z = (nI (c / 10 ^ (n - k)), nI (rd_mk n c k), pv (rd_mv n c k), n_left k) ∧ (∀ p, k ≤ p → p < n → cf n c p < n) ∧ (∀ p q, k ≤ p → p < n → k ≤ q → q < n → cf n c p = cf n c q → p = q)
  let P : (Int32 × Int32) ⊕ Int32 → Prop := fun o => match o with
    | .inl z => z = (nI (c / 10 ^ n), pv (rd_mv n c 0)) ∧ gp_ok n (cfm n c)
    | .inr r => (¬ gp_ok n (cfm n c)) ∧ r = (-1 : Int32)
  have bad : ∀ p q, p < n → q < n → cf n c p = cf n c q → p ≠ q → ¬ gp_ok n (cfm n c) := fun p q hp hq e ne w => ne (w.2.1 p q hp hq (by unfold cfm; rw [if_pos hp, if_pos hq]; exact e))
  have bad2 : ∀ p, p < n → n ≤ cf n c p → ¬ gp_ok n (cfm n c) := fun p hp h w => by
    have := w.1 p hp
    unfold cfm at this
    rw [if_pos hp] at this
    omega
  have hh := xL_dnI (body := f_X2_read_L1 (nI n)) (P := P) I (fun z hz => ?_) n (fun k z hk hz => ?_) (nI (c / 10 ^ (n - n)), nI (rd_mk n c n), pv (rd_mv n c n), n_left n) ⟨rfl, fun p h1 h2 => absurd h1 (by omega), fun p q h1 h2 => absurd h1 (by omega)⟩
  · obtain ⟨o, h1, h2⟩ := hh
    have e0 : (nI (c / 10 ^ (n - n)), nI (rd_mk n c n), pv (rd_mv n c n), n_left n) = (nI c, (0 : Int32), (16434824 : Int32), nI n - (1 : Int32)) := by
      have a1 : rd_mk n c n = 0 := by unfold rd_mk; rw [Nat.sub_self]; rfl
      have a2 : rd_mv n c n = gp_id := funext fun i => if_neg (by omega)
      rw [Nat.sub_self, Nat.pow_zero, Nat.div_one, a1, a2, pv_stay, n_left_sub]; rfl
    rw [e0] at h1
    have hU : f_X2_read (nI c) (nI n) = xn (xL (f_X2_read_L1 (nI n)) (nI c, (0 : Int32), (16434824 : Int32), (nI n - (1 : Int32)))) (fun x => match x with | .inl z => (fun (z : Int32 × Int32) => match z with | (v2_5, v4_6) => xb (v2_5 = 0) (some v4_6) (some (-1 : Int32))) z | .inr z => some z) := rfl
    rw [hU, xn_s h1]
    match o, h2 with
    | .inl z, h2 =>
      obtain ⟨rfl, h3⟩ := h2
      by_cases w : c < 10 ^ n
      · refine ⟨pv (rd_mv n c 0), xb_t (by rw [Nat.div_eq_of_lt w]; rfl), Or.inl ⟨cfm n c, isMv_cfm w h3, ?_⟩⟩
        have : rd_mv n c 0 = cfm n c := funext fun i => by
          unfold rd_mv cfm
          by_cases q : i < n
          · rw [if_pos ⟨by omega, q⟩, if_pos q]
          · rw [if_neg (fun z => q z.2), if_neg q]
        rw [this]
      · refine ⟨(-1 : Int32), xb_f (nI_ne0 ?_ (hlt n)), Or.inr ⟨fun s hs => w ((isMv_iff hn hc).mp ⟨s, hs⟩).1, rfl⟩⟩
        exact Nat.div_pos (by omega) (Nat.pow_pos (by decide))
    | .inr r, h2 => exact ⟨r, rfl, Or.inr ⟨fun s hs => h2.1 ((isMv_iff hn hc).mp ⟨s, hs⟩).2, h2.2⟩⟩
  · obtain ⟨rfl, h1, h2⟩ := hz
    refine ⟨.inl (nI (c / 10 ^ (n - 0)), pv (rd_mv n c 0)), xb_t n_left_lt, by rw [Nat.sub_zero], ?_⟩
    refine ⟨fun p hp => ?_, fun p q hp hq e => ?_, fun p hp => if_neg (by omega)⟩
    · unfold cfm; rw [if_pos hp]; exact h1 p (by omega) hp
    · unfold cfm at e; rw [if_pos hp, if_pos hq] at e; exact h2 p q (by omega) hp (by omega) hq e
  · obtain ⟨rfl, h1, h2⟩ := hz
    obtain ⟨c1, c2⟩ := cf_left (n := n) (c := c) hk
    have hq10 : cf n c k < 10 := Nat.mod_lt _ (by decide)
    have b0 : ¬ n_left (k + 1) < 0 := n_left_nlt (by omega)
    have er : nI (c / 10 ^ (n - (k + 1))) - nI (c / 10 ^ (n - (k + 1))) / (10 : Int32) * (10 : Int32) = nI (cf n c k) := by rw [n_rem10 (hlt _), c1]
    have ed : nI (c / 10 ^ (n - (k + 1))) / (10 : Int32) = nI (c / 10 ^ (n - k)) := by rw [n_div10 (hlt _), c2]
    have b1 : ¬ nI (cf n c k) < 0 := nI_pos (by omega)
    have hU : f_X2_read_L1 (nI n) (nI (c / 10 ^ (n - (k + 1))), nI (rd_mk n c (k + 1)), pv (rd_mv n c (k + 1)), n_left (k + 1)) = xb (nI n ≤ nI (cf n c k)) (some (.inr (.inr (-1 : Int32)))) (xb (((nI (rd_mk n c (k + 1)) >>> (nI (cf n c k) &&& 31)) &&& (1 : Int32)) = 0) (some (.inl (nI (c / 10 ^ (n - k)), (nI (rd_mk n c (k + 1)) ||| ((1 : Int32) <<< (nI (cf n c k) &&& 31))), ((pv (rd_mv n c (k + 1)) &&& (((7 : Int32) <<< (((3 : Int32) * n_left (k + 1)) &&& 31)) ^^^ (-1 : Int32))) ||| (nI (cf n c k) <<< (((3 : Int32) * n_left (k + 1)) &&& 31))), (n_left (k + 1) + (-1 : Int32))))) (some (.inr (.inr (-1 : Int32))))) := by
      refine (xb_f b0).trans ?_
      rw [er, ed]
      exact xb_f b1
    rw [hU]
    by_cases w : n ≤ cf n c k
    · exact Or.inr ⟨_, xb_t (by rw [n_le (by omega) (by omega)]; exact w), bad2 k (by omega) w, rfl⟩
    · have hkm : ((nI (rd_mk n c (k + 1)) >>> (nI (cf n c k) &&& 31)) &&& (1 : Int32)) = 0 ↔ (rd_mk n c (k + 1)).testBit (cf n c k) = false := n_bit0 (by have := rd_mk_lt (n := n) (c := c) (k := k + 1); omega) (by omega)
      by_cases w2 : (rd_mk n c (k + 1)).testBit (cf n c k) = true
      · obtain ⟨p, a1, a2, a3⟩ := (rd_mk_tb (by omega)).mp w2
        exact Or.inr ⟨_, (xb_f (by rw [n_le (by omega) (by omega)]; exact w)).trans (xb_f (by rw [hkm, w2]; decide)), bad p k a2 (by omega) a3 (by omega), rfl⟩
      · have w3 : (rd_mk n c (k + 1)).testBit (cf n c k) = false := by simpa using w2
        refine Or.inl ⟨_, (xb_f (by rw [n_le (by omega) (by omega)]; exact w)).trans (xb_t (hkm.mpr w3)), ?_, fun p a1 a2 => ?_, fun p q a1 a2 a3 a4 a5 => ?_⟩
        · have e1 : nI (rd_mk n c (k + 1)) ||| ((1 : Int32) <<< (nI (cf n c k) &&& 31)) = nI (rd_mk n c k) := by
            rw [show (1 : Int32) = nI 1 from rfl, n_shl (by omega), n_or, Nat.one_mul, ← rd_mk_s hk]
          have hd : ∀ i, i < 8 → rd_mv n c (k + 1) i < 8 := fun i hi => by
            unfold rd_mv; split
            · have := h1 i (by omega) (by omega); omega
            · exact hi
          have hd2 : ∀ i, i < 8 → va_up (rd_mv n c (k + 1)) k 0 i < 8 := fun i hi => by unfold va_up; split; omega; exact hd i hi
          have e2 : (pv (rd_mv n c (k + 1)) &&& (((7 : Int32) <<< (((3 : Int32) * n_left (k + 1)) &&& 31)) ^^^ (-1 : Int32))) ||| (nI (cf n c k) <<< (((3 : Int32) * n_left (k + 1)) &&& 31)) = pv (rd_mv n c k) := by
            rw [n_left_s, n_mul3, pv_clr hd (by omega), pv_put hd2 (by omega) (by omega) (va_up_self _ _ _)]
            congr 1
            funext i
            unfold va_up rd_mv
            by_cases e : i = k
            · rw [if_pos e, e, if_pos ⟨Nat.le_refl _, hk⟩]
            · rw [if_neg e, if_neg e]
              by_cases z : k + 1 ≤ i ∧ i < n
              · rw [if_pos z, if_pos ⟨by omega, z.2⟩]
              · rw [if_neg z, if_neg (fun y => z ⟨by omega, y.2⟩)]
          rw [e1, e2, n_left_s]; rfl
        · rcases Nat.lt_or_ge k p with z | z
          · exact h1 p (by omega) a2
          · rw [show p = k by omega]; omega
        · rcases Nat.lt_or_ge k p with z | z
          · rcases Nat.lt_or_ge k q with y | y
            · exact h2 p q (by omega) a2 (by omega) a4 a5
            · exact absurd ((rd_mk_tb (by omega)).mpr ⟨p, by omega, a2, by rw [a5, show q = k by omega]⟩) w2
          · rcases Nat.lt_or_ge k q with y | y
            · exact absurd ((rd_mk_tb (by omega)).mpr ⟨q, by omega, a4, by rw [← a5, show p = k by omega]⟩) w2
            · omega

theorem n_negrem {v : Int32} (hv : v < 0) : (v - v / (10 : Int32) * (10 : Int32)).toInt ≤ 0 ∧ -10 < (v - v / (10 : Int32) * (10 : Int32)).toInt ∧ (v / (10 : Int32)).toInt ≤ 0 ∧ v.toInt = 10 * (v / (10 : Int32)).toInt + (v - v / (10 : Int32) * (10 : Int32)).toInt := by
  have hv0 : v.toInt < 0 := by rw [fa_lt] at hv; exact hv
  have hr := fb_rng v
  have h10 : (10 : Int32).toInt = 10 := by decide +kernel
  obtain ⟨c, hc⟩ : ∃ c : Nat, v.toInt = -(c : Int) := ⟨v.toInt.natAbs, by omega⟩
  have t1 : v.toInt.tdiv 10 = -((c : Int) / 10) := by
    rw [hc, Int.neg_tdiv, Int.tdiv_eq_ediv_of_nonneg (by omega)]
  have hd : (v / (10 : Int32)).toInt = -((c : Int) / 10) := by
    rw [Int32.toInt_div, h10, t1]
    exact fb_bmod (by omega) (by omega)
  have hm : (v / (10 : Int32) * (10 : Int32)).toInt = (v / (10 : Int32)).toInt * 10 := by
    rw [fb_mulI (by rw [h10, hd]; omega) (by rw [h10, hd]; omega), h10]
  have hs : (v - v / (10 : Int32) * (10 : Int32)).toInt = -((c : Int) % 10) := by
    rw [fb_subI (by rw [hm, hd, hc]; omega) (by rw [hm, hd, hc]; omega), hm, hd, hc]; omega
  rw [hs, hd, hc]
  refine ⟨by omega, by omega, by omega, by omega⟩
theorem f_read_neg {n : Nat} (hn1 : 1 ≤ n) (hn : n ≤ 8) {v : Int32} (hv : v < 0) : f_X2_read v (nI n) = some (-1 : Int32) := by
  obtain ⟨m, rfl⟩ : ∃ m, n = m + 1 := ⟨n - 1, by omega⟩
  have hU : f_X2_read v (nI (m + 1)) = xn (xL (f_X2_read_L1 (nI (m + 1))) (v, (0 : Int32), (16434824 : Int32), (nI (m + 1) - (1 : Int32)))) (fun x => match x with | .inl z => (fun (z : Int32 × Int32) => match z with | (v2_5, v4_6) => xb (v2_5 = 0) (some v4_6) (some (-1 : Int32))) z | .inr z => some z) := rfl
  rw [hU, nI_pred]
  obtain ⟨h1, h2, h3, h4⟩ := n_negrem hv
  have hv0 : v.toInt < 0 := by rw [fa_lt] at hv; exact hv
  by_cases hq : (v - v / (10 : Int32) * (10 : Int32)) < 0
  · have hb : f_X2_read_L1 (nI (m + 1)) (v, (0 : Int32), (16434824 : Int32), nI m) = some (.inr (.inr (-1 : Int32))) := (xb_f (nI_pos (by omega))).trans (xb_t hq)
    rw [xn_s (xL_r hb)]
  · have e0 : (v - v / (10 : Int32) * (10 : Int32)) = 0 := by
      rw [fa_lt] at hq
      rw [fa_eq]
      have z : (0 : Int32).toInt = 0 := by decide +kernel
      rw [z] at hq ⊢
      omega
    have hw : (v / (10 : Int32)) < 0 := by
      rw [fa_lt]
      have z : (0 : Int32).toInt = 0 := by decide +kernel
      rw [e0, z] at h4
      rw [z]
      omega
    have b1 : f_X2_read_L1 (nI (m + 1)) (v, (0 : Int32), (16434824 : Int32), nI m) = some (.inl ((v / (10 : Int32)), ((0 : Int32) ||| ((1 : Int32) <<< ((0 : Int32) &&& 31))), (((16434824 : Int32) &&& (((7 : Int32) <<< (((3 : Int32) * nI m) &&& 31)) ^^^ (-1 : Int32))) ||| ((0 : Int32) <<< (((3 : Int32) * nI m) &&& 31))), (nI m + (-1 : Int32)))) := by
      refine (xb_f (nI_pos (by omega))).trans ?_
      rw [e0]
      refine (xb_f (by decide)).trans ((xb_f ?_).trans ((xb_t (by decide)).trans rfl))
      rw [show (0 : Int32) = nI 0 from rfl, n_le (by omega) (by omega)]; omega
    cases m with
    | zero =>
      have b2 : ∀ a b : Int32, f_X2_read_L1 (nI (0 + 1)) ((v / (10 : Int32)), a, b, (nI 0 + (-1 : Int32))) = some (.inr (.inl (v / (10 : Int32), b))) := fun a b => xb_t (by decide +kernel)
      rw [xn_s (xL_l b1 (xL_r (b2 _ _)))]
      refine xb_f (fun z => ?_)
      rw [z] at hw
      exact absurd hw (by decide)
    | succ m =>
      rw [n_pred] at b1
      obtain ⟨g1, g2, g3, g4⟩ := n_negrem hw
      by_cases hq2 : ((v / (10 : Int32)) - (v / (10 : Int32)) / (10 : Int32) * (10 : Int32)) < 0
      · have b2 : ∀ a b : Int32, f_X2_read_L1 (nI (m + 1 + 1)) ((v / (10 : Int32)), a, b, nI m) = some (.inr (.inr (-1 : Int32))) := fun a b => (xb_f (nI_pos (by omega))).trans (xb_t hq2)
        rw [xn_s (xL_l b1 (xL_r (b2 _ _)))]
      · have e1 : ((v / (10 : Int32)) - (v / (10 : Int32)) / (10 : Int32) * (10 : Int32)) = 0 := by
          rw [fa_lt] at hq2
          rw [fa_eq]
          have z : (0 : Int32).toInt = 0 := by decide +kernel
          rw [z] at hq2 ⊢
          omega
        have b2 : ∀ b : Int32, f_X2_read_L1 (nI (m + 1 + 1)) ((v / (10 : Int32)), ((0 : Int32) ||| ((1 : Int32) <<< ((0 : Int32) &&& 31))), b, nI m) = some (.inr (.inr (-1 : Int32))) := fun b => by
          refine (xb_f (nI_pos (by omega))).trans ?_
          rw [e1]
          refine (xb_f (by decide)).trans ((xb_f ?_).trans (xb_f (by decide)))
          rw [show (0 : Int32) = nI 0 from rfl, n_le (by omega) (by omega)]; omega
        rw [xn_s (xL_l b1 (xL_r (b2 _)))]
theorem f_read {n : Nat} (hn1 : 1 ≤ n) (hn : n ≤ 8) (v : Int32) : ∃ r, f_X2_read v (nI n) = some r ∧ ((∃ s, isMv n v s ∧ r = pv s) ∨ ((∀ s, ¬ isMv n v s) ∧ r = (-1 : Int32))) := by
  by_cases hv : v < 0
  · exact ⟨_, f_read_neg hn1 hn hv, Or.inr ⟨isMv_neg hn hv, rfl⟩⟩
  · obtain ⟨c, hc, rfl⟩ := nI_of hv
    exact f_read_pos hn hc
theorem pv_ne {s : Nat → Nat} (hs : ∀ i, i < 8 → s i < 8) : pv s ≠ (-1 : Int32) := fun h => by
  have h1 := nI_pos (n := pv_n s 8) (by have := pv_24 hs; omega)
  have h2 : nI (pv_n s 8) = (-1 : Int32) := h
  rw [h2] at h1
  exact h1 (by decide)

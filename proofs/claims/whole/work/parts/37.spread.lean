theorem nd_len {l : List Nat} {m : Nat} (hn : l.Nodup) (h : ∀ x ∈ l, x < m) : l.length ≤ m := by
  refine fb_holes m l.length (fun i => l.getD i 0) (fun i hi => ?_) (fun i j hij hj => ?_)
  · show l.getD i 0 < m
    rw [List.getD_eq_getElem?_getD, List.getElem?_eq_getElem hi]
    exact h _ (List.getElem_mem hi)
  · show l.getD i 0 ≠ l.getD j 0
    rw [List.getD_eq_getElem?_getD, List.getD_eq_getElem?_getD, List.getElem?_eq_getElem (by omega), List.getElem?_eq_getElem hj]
    exact List.pairwise_iff_getElem.mp hn i j (by omega) hj hij
/-- what was reached, and where -/
def kR (reached reachedAt : Nat → Int32) (cnt : Int32) (rl : List Nat) : Prop := rl.Nodup ∧ (∀ x ∈ rl, x < 256) ∧ rowL reached rl ∧ cnt = nI rl.length ∧ ∀ x, x < 256 → x ∉ rl → reachedAt x = (-1 : Int32)
theorem kR_len {reached reachedAt : Nat → Int32} {cnt : Int32} {rl : List Nat} (h : kR reached reachedAt cnt rl) : rl.length ≤ 256 := nd_len h.1 h.2.1
/-- all is forgotten -/
theorem k_clear {reached reachedAt : Nat → Int32} {cnt : Int32} {rl : List Nat} (h : kR reached reachedAt cnt rl) : ∃ ra, xL (f_X0_spread_L1 cnt reached) (reachedAt, (0 : Int32)) = some ra ∧ ∀ x, x < 256 → ra x = (-1 : Int32) := by
  have hl := kR_len h
  obtain ⟨h1, h2, h3, rfl, h5⟩ := h
  let I : Nat → (Nat → Int32) × Int32 → Prop := fun k z => ∃ ra, z = (ra, nI k) ∧ ∀ x, x < 256 → (x ∉ rl ∨ x ∈ rl.take k) → ra x = (-1 : Int32)
  have hh := xL_for (body := f_X0_spread_L1 (nI rl.length) reached) (P := fun ra => ∀ x, x < 256 → ra x = (-1 : Int32)) I rl.length (fun k z hk hz => Or.inl ?_) (fun z hz => ?_) rl.length 0 (Nat.zero_add _) (reachedAt, (0 : Int32)) ⟨reachedAt, rfl, fun x hx w => w.elim (h5 x hx) (fun z => by simp at z)⟩
  · exact hh
  · obtain ⟨ra, rfl, hra⟩ := hz
    have hx := h2 _ (List.getElem_mem hk)
    have hr := h3 k _ (List.getElem?_eq_getElem hk)
    refine ⟨(upd ra rl[k] (-1 : Int32), nI k + (1 : Int32)), ?_, upd ra rl[k] (-1 : Int32), by rw [n_add1], fun x hx2 w => ?_⟩
    · refine (xb_f (by rw [n_le (by omega) (by omega)]; omega)).trans ((xk_t (vp_in_nI (by omega) (by omega))).trans ?_)
      rw [n_cl (by omega), hr]
      refine (xk_t (vp_in_nI hx (by omega))).trans ?_
      rw [n_cl (by omega)]
    · by_cases e : x = rl[k]
      · rw [e, up_s]
      · rw [up_n e]
        refine hra x hx2 (w.elim Or.inl (fun z => ?_))
        rw [List.take_succ_eq_append_getElem hk, List.mem_append, List.mem_singleton] at z
        rcases z with z | z
        · exact Or.inr z
        · exact absurd z e
  · obtain ⟨ra, rfl, hra⟩ := hz
    refine ⟨ra, xb_t (Int32.le_refl _), fun x hx => hra x hx ?_⟩
    rw [List.take_length]
    rcases Classical.em (x ∈ rl) with w | w
    · exact Or.inr w
    · exact Or.inl w
theorem k_reach {reached reachedAt : Nat → Int32} {rl : List Nat} (h : kR reached reachedAt (nI rl.length) rl) (hv : ∀ x ∈ rl, reachedAt x ≠ (-1 : Int32)) {x p : Nat} (hx : x < 256) (hp : p < 256) :
    (x ∈ rl ∧ f_X0_reach reached reachedAt (nI rl.length) (nI x) (nI p) = some (reached, reachedAt, nI rl.length)) ∨ (x ∉ rl ∧ ∃ reached', f_X0_reach reached reachedAt (nI rl.length) (nI x) (nI p) = some (reached', upd reachedAt x (nI p), nI (rl ++ [x]).length) ∧ kR reached' (upd reachedAt x (nI p)) (nI (rl ++ [x]).length) (rl ++ [x]) ∧ ∀ y ∈ rl ++ [x], upd reachedAt x (nI p) y ≠ (-1 : Int32)) := by
  have hl := kR_len h
  obtain ⟨h1, h2, h3, -, h5⟩ := h
  have hU : ∀ z, xb (reachedAt x = (-1 : Int32)) (xb ((256 : Int32) ≤ nI rl.length) (some (reached, reachedAt, nI rl.length)) (xk (vp_in (nI rl.length) 256) (some ((upd reached (nI rl.length).toNatClampNeg (nI x)), (upd reachedAt x (nI p)), (nI rl.length + (1 : Int32)))))) (some (reached, reachedAt, nI rl.length)) = z → f_X0_reach reached reachedAt (nI rl.length) (nI x) (nI p) = z := fun z hz => by
    refine (xk_t (vp_in_nI hx (by omega))).trans ?_
    rw [n_cl (by omega)]
    exact hz
  rcases Classical.em (x ∈ rl) with w | w
  · exact Or.inl ⟨w, hU _ (xb_f (hv x w))⟩
  · have hnd : (rl ++ [x]).Nodup := List.nodup_append.mpr ⟨h1, (by simp), fun a ha b hb e => by rw [List.mem_singleton.mp hb] at e; rw [e] at ha; exact w ha⟩
    have hmem : ∀ y ∈ rl ++ [x], y < 256 := fun y hy => (List.mem_append.mp hy).elim (h2 y) (fun z => by rw [List.mem_singleton.mp z]; exact hx)
    have hlt := nd_len hnd hmem
    rw [List.length_append, List.length_singleton] at hlt
    have hne : nI p ≠ (-1 : Int32) := fun e => nI_pos (n := p) (by omega) (by rw [e]; decide)
    refine Or.inr ⟨w, upd reached rl.length (nI x), hU _ ((xb_t (h5 x hx w)).trans ((xb_f (by rw [show (256 : Int32) = nI 256 from rfl, n_le (by omega) (by omega)]; omega)).trans ((xk_t (vp_in_nI (by omega) (by omega))).trans ?_))), ⟨hnd, hmem, rowL_add h3 x, rfl, fun y hy hy2 => ?_⟩, fun y hy => ?_⟩
    · rw [n_cl (by omega), n_add1, List.length_append, List.length_singleton]
    · have e : y ≠ x := fun e => hy2 (List.mem_append.mpr (Or.inr (List.mem_singleton.mpr e)))
      rw [up_n e]
      exact h5 y hy (fun z => hy2 (List.mem_append.mpr (Or.inl z)))
    · by_cases e : y = x
      · rw [e, up_s]; exact hne
      · rw [up_n e]
        exact hv y ((List.mem_append.mp hy).elim id (fun z => absurd (List.mem_singleton.mp z) e))
section SP
variable {N K : Nat} {g : Nat → Nat → Nat}
/-- carried by one that leaves all points less than p -/
def orbp (K : Nat) (g : Nat → Nat → Nat) (p a x : Nat) : Prop := ∃ s, gp_at K g p s ∧ im s a = x
theorem orbp_0 {a x : Nat} : orbp K g 0 a x ↔ orb K g a x := ⟨fun ⟨s, h1, h2⟩ => ⟨s, h1.1, h2⟩, fun ⟨s, h1, h2⟩ => ⟨s, gp_at_0 h1, h2⟩⟩
theorem orbp_le {p q a x : Nat} (h : p ≤ q) (w : orbp K g q a x) : orbp K g p a x := by
  obtain ⟨s, h1, h2⟩ := w
  exact ⟨s, gp_at_le h h1, h2⟩
/-- those reached: the images by the elements that leave all less than p; where: the greatest such point -/
def spI (N K : Nat) (g : Nat → Nat → Nat) (a p : Nat) (X : Nat → Prop) (reachedAt : Nat → Int32) (rl : List Nat) : Prop := (∀ x, x ∈ rl ↔ X x) ∧ ∀ x ∈ rl, ∃ v, reachedAt x = nI v ∧ p ≤ v ∧ v ≤ N ∧ ∀ p', p ≤ p' → p' ≤ N → (p' ≤ v ↔ orbp K g p' a x)
theorem sp_by (hN : N ≤ 8) {a p : Nat} (hp : p < N) {t : Nat → Nat} (ht : gp_ok 8 t) {before : List Nat} {X : Nat → Prop} {reached reachedAt : Nat → Int32} {rl : List Nat} (hb : ∃ r, rl = before ++ r) (h : kR reached reachedAt (nI rl.length) rl) (hI : spI N K g a p X reachedAt rl) (hX : ∀ x, ¬ X x → ∀ p', p < p' → p' ≤ N → ¬ orbp K g p' a x) (hY : ∀ y ∈ before, orbp K g p a (im t y)) :
    ∃ reached' reachedAt' rl', f_X0_spreadBy reached reachedAt (nI rl.length) (pv t) (nI p) (nI before.length) = some (reached', reachedAt', nI rl'.length) ∧ (∃ r, rl' = before ++ r) ∧ kR reached' reachedAt' (nI rl'.length) rl' ∧ spI N K g a p (fun x => X x ∨ ∃ y ∈ before, im t y = x) reachedAt' rl' := by
  have hbl : before.length ≤ 256 := by obtain ⟨r, rfl⟩ := hb; have := kR_len h; rw [List.length_append] at this; omega
  let I : Nat → (Nat → Int32) × (Nat → Int32) × Int32 × Int32 → Prop := fun k z => ∃ rd ra rl', z = (rd, ra, nI rl'.length, nI k) ∧ (∃ r, rl' = before ++ r) ∧ kR rd ra (nI rl'.length) rl' ∧ spI N K g a p (fun x => X x ∨ ∃ y ∈ before.take k, im t y = x) ra rl'
  let P : (Nat → Int32) × (Nat → Int32) × Int32 → Prop := fun z => ∃ rd ra rl', z = (rd, ra, nI rl'.length) ∧ (∃ r, rl' = before ++ r) ∧ kR rd ra (nI rl'.length) rl' ∧ spI N K g a p (fun x => X x ∨ ∃ y ∈ before, im t y = x) ra rl'
  have hh := xL_for (body := f_X0_spreadBy_L1 (nI before.length) (pv t) (nI p)) (P := P) I before.length (fun k z hk hz => Or.inl ?_) (fun z hz => ?_) before.length 0 (Nat.zero_add _) (reached, reachedAt, nI rl.length, (0 : Int32)) ⟨reached, reachedAt, rl, rfl, hb, h, ⟨fun x => (hI.1 x).trans ⟨Or.inl, fun w => w.elim id (fun ⟨y, hy, _⟩ => by simp at hy)⟩, hI.2⟩⟩
  · obtain ⟨z, h1, rd, ra, rl', rfl, h2⟩ := hh
    exact ⟨rd, ra, rl', (xn_s h1).trans rfl, h2⟩
  · obtain ⟨rd, ra, rl', rfl, ⟨r, hr⟩, hk1, hi1⟩ := hz
    have hl := kR_len hk1
    have hget : rl'[k]? = some before[k] := by rw [hr, List.getElem?_append_left hk, List.getElem?_eq_getElem hk]
    have hrd := hk1.2.2.1 k _ hget
    have hkl : k < rl'.length := (List.getElem?_eq_some_iff.mp hget).1
    have hy := hk1.2.1 before[k] (List.mem_of_getElem? hget)
    have hx := im_lt256 ht before[k]
    have hcar := mv_carry ht.1 hy
    have hvv : ∀ x ∈ rl', ra x ≠ (-1 : Int32) := fun x hx e => by
      obtain ⟨v, v1, -, v3, -⟩ := hi1.2 x hx
      rw [v1] at e
      exact nI_pos (n := v) (by omega) (by rw [e]; decide)
    have tk : ∀ y, y ∈ before.take (k + 1) ↔ y ∈ before.take k ∨ y = before[k] := fun y => by rw [List.take_succ_eq_append_getElem hk, List.mem_append, List.mem_singleton]
    have step : ∀ (rd2 ra2 : Nat → Int32) (rl2 : List Nat), f_X0_reach rd ra (nI rl'.length) (nI (im t before[k])) (nI p) = some (rd2, ra2, nI rl2.length) → f_X0_spreadBy_L1 (nI before.length) (pv t) (nI p) (rd, ra, nI rl'.length, nI k) = some (.inl (rd2, ra2, nI rl2.length, nI k + (1 : Int32))) := fun rd2 ra2 rl2 e => by
      refine (xb_f (by rw [n_le (by omega) (by omega)]; omega)).trans ((xk_t (vp_in_nI (by omega) (by omega))).trans ?_)
      rw [n_cl (by omega), hrd]
      exact (xn_s hcar).trans (xn_s e)
    rcases k_reach hk1 hvv (x := im t before[k]) (p := p) hx (by omega) with ⟨w, e⟩ | ⟨w, rd2, e, h4, h5⟩
    · refine ⟨_, step rd ra rl' e, rd, ra, rl', by rw [n_add1], ⟨r, hr⟩, hk1, fun x => ?_, hi1.2⟩
      rw [hi1.1 x]
      constructor
      · rintro (z | ⟨y, y1, y2⟩)
        · exact Or.inl z
        · exact Or.inr ⟨y, (tk y).mpr (Or.inl y1), y2⟩
      · rintro (z | ⟨y, y1, y2⟩)
        · exact Or.inl z
        · rcases (tk y).mp y1 with y1 | y1
          · exact Or.inr ⟨y, y1, y2⟩
          · rw [← y2, y1]; exact (hi1.1 _).mp w
    · refine ⟨_, step rd2 _ (rl' ++ [im t before[k]]) e, rd2, _, rl' ++ [im t before[k]], by rw [n_add1], ⟨r ++ [im t before[k]], by rw [hr, List.append_assoc]⟩, h4, fun x => ?_, fun x hx2 => ?_⟩
      · rw [List.mem_append, List.mem_singleton, hi1.1 x]
        constructor
        · rintro ((z | ⟨y, y1, y2⟩) | z)
          · exact Or.inl z
          · exact Or.inr ⟨y, (tk y).mpr (Or.inl y1), y2⟩
          · exact Or.inr ⟨before[k], (tk _).mpr (Or.inr rfl), z.symm⟩
        · rintro (z | ⟨y, y1, y2⟩)
          · exact Or.inl (Or.inl z)
          · rcases (tk y).mp y1 with y1 | y1
            · exact Or.inl (Or.inr ⟨y, y1, y2⟩)
            · right; rw [← y2, y1]
      · by_cases ex : x = im t before[k]
        · rw [ex, up_s]
          refine ⟨p, rfl, Nat.le_refl _, by omega, fun p' a1 a2 => ⟨fun a3 => ?_, fun a3 => ?_⟩⟩
          · rw [show p' = p by omega]; exact hY _ (List.getElem_mem hk)
          · rcases Nat.lt_or_ge p p' with z | z
            · exact absurd a3 (hX _ (fun z2 => w ((hi1.1 _).mpr (Or.inl z2))) p' z a2)
            · exact z
        · rw [up_n ex]
          exact hi1.2 x ((List.mem_append.mp hx2).elim id (fun z => absurd (List.mem_singleton.mp z) ex))
  · obtain ⟨rd, ra, rl', rfl, hr, hk1, hi1⟩ := hz
    rw [List.take_length] at hi1
    exact ⟨(rd, ra, nI rl'.length), xb_t (Int32.le_refl _), rd, ra, rl', rfl, hr, hk1, hi1⟩
theorem bits_clr {x : Int32} {P : Nat → Prop} (h : bitsOf x P) {q : Nat} (hq : q < 8) : bitsOf (x &&& (((1 : Int32) <<< (nI q &&& 31)) ^^^ (-1 : Int32))) (fun c => P c ∧ c ≠ q) := by
  obtain ⟨a, rfl, h1, h2⟩ := h
  refine ⟨a &&& (255 ^^^ 2 ^ q), ?_, Nat.lt_of_le_of_lt Nat.and_le_left h1, fun c => ?_⟩
  · refine ib_ext (fun i hi => ?_)
    have e1 : (1 : Int32) <<< (nI q &&& 31) = nI (2 ^ q) := by rw [show (1 : Int32) = nI 1 from rfl, n_shl (by omega), Nat.one_mul]
    rw [e1, ib_and, ib_xor, ib_m1 i hi, ib_n _ hi, ib_n _ hi, ib_n _ hi, Nat.testBit_and, Nat.testBit_xor]
    rcases Nat.lt_or_ge i 8 with w | w
    · have : Nat.testBit 255 i = true := by
        have : ∀ i, i < 8 → Nat.testBit 255 i = true := by decide +kernel
        exact this i w
      rw [this]
      cases a.testBit i <;> cases (2 ^ q).testBit i <;> rfl
    · rw [tb_hi h1 w]; simp
  · rw [Nat.testBit_and, Bool.and_eq_true, h2 c, Nat.testBit_xor, Nat.testBit_two_pow]
    constructor
    · rintro ⟨z1, z2⟩
      refine ⟨z1, fun e => ?_⟩
      rw [e] at z2
      have : Nat.testBit 255 q = true := by
        have : ∀ i, i < 8 → Nat.testBit 255 i = true := by decide +kernel
        exact this q hq
      rw [this] at z2
      simp at z2
    · rintro ⟨z1, z2⟩
      refine ⟨z1, ?_⟩
      have hc : c < 8 := by
        rcases Nat.lt_or_ge c 8 with w | w
        · exact w
        · have := (h2 c).mpr z1
          rw [tb_hi h1 w] at this; cases this
      have : Nat.testBit 255 c = true := by
        have : ∀ i, i < 8 → Nat.testBit 255 i = true := by decide +kernel
        exact this c hc
      rw [this]
      simp
      exact fun e => z2 e.symm
end SP

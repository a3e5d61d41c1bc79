-- loops whose states are known
theorem xL_det {S R : Type} {body : S → Option (S ⊕ R)} (st : Nat → S) (b : Nat) {r : R} (hstep : ∀ k, k < b → body (st k) = some (.inl (st (k + 1)))) (hend : body (st b) = some (.inr r)) : ∀ (n a : Nat), a + n = b → xL body (st a) = some r
  | 0, a, h => by
    rw [show a = b by omega]
    exact xL_r hend
  | n + 1, a, h => xL_l (hstep a (by omega)) (xL_det st b hstep hend n (a + 1) (by omega))
/-- upward, the states told by k, from 0 to b -/
theorem xL_up {S R : Type} {body : S → Option (S ⊕ R)} (st : Nat → S) (b : Nat) {r : R} (hstep : ∀ k, k < b → body (st k) = some (.inl (st (k + 1)))) (hend : body (st b) = some (.inr r)) : xL body (st 0) = some r := xL_det st b hstep hend b 0 (by omega)
/-- downward: k rounds are left -/
theorem xL_dn {S R : Type} {body : S → Option (S ⊕ R)} (st : Nat → S) {r : R} (hend : body (st 0) = some (.inr r)) : ∀ (b : Nat), (∀ k, k < b → body (st (k + 1)) = some (.inl (st k))) → xL body (st b) = some r
  | 0, _ => xL_r hend
  | b + 1, h => xL_l (h b (by omega)) (xL_dn st hend b (fun k hk => h k (by omega)))
/-- upward with an invariant; a round may leave -/
theorem xL_for {S R : Type} {body : S → Option (S ⊕ R)} {P : R → Prop} (I : Nat → S → Prop) (b : Nat) (hstep : ∀ k s, k < b → I k s → (∃ s', body s = some (.inl s') ∧ I (k + 1) s') ∨ (∃ r, body s = some (.inr r) ∧ P r)) (hend : ∀ s, I b s → ∃ r, body s = some (.inr r) ∧ P r) : ∀ (n a : Nat), a + n = b → ∀ s, I a s → ∃ r, xL body s = some r ∧ P r
  | 0, a, h, s, hs => by
    rw [show a = b by omega] at hs
    obtain ⟨r, h1, h2⟩ := hend s hs
    exact ⟨r, xL_r h1, h2⟩
  | n + 1, a, h, s, hs => by
    rcases hstep a s (by omega) hs with ⟨s', h1, h2⟩ | ⟨r, h1, h2⟩
    · obtain ⟨r, h3, h4⟩ := xL_for I b hstep hend n (a + 1) (by omega) s' h2
      exact ⟨r, xL_l h1 h3, h4⟩
    · exact ⟨r, xL_r h1, h2⟩
theorem xL_dnI {S R : Type} {body : S → Option (S ⊕ R)} {P : R → Prop} (I : Nat → S → Prop) (hend : ∀ s, I 0 s → ∃ r, body s = some (.inr r) ∧ P r) : ∀ (b : Nat), (∀ k s, k < b → I (k + 1) s → (∃ s', body s = some (.inl s') ∧ I k s') ∨ (∃ r, body s = some (.inr r) ∧ P r)) → ∀ s, I b s → ∃ r, xL body s = some r ∧ P r
  | 0, _, s, hs => by
    obtain ⟨r, h1, h2⟩ := hend s hs
    exact ⟨r, xL_r h1, h2⟩
  | b + 1, h, s, hs => by
    rcases h b s (by omega) hs with ⟨s', h1, h2⟩ | ⟨r, h1, h2⟩
    · obtain ⟨r, h3, h4⟩ := xL_dnI I hend b (fun k s hk => h k s (by omega)) s' h2
      exact ⟨r, xL_l h1 h3, h4⟩
    · exact ⟨r, xL_r h1, h2⟩
-- numbers
theorem n_lit (n : Nat) : (OfNat.ofNat n : Int32) = nI n := fa_lit n
theorem n_m1 : (-1 : Int32).toInt = -1 := by decide +kernel
theorem n_add1 (k : Nat) : nI k + (1 : Int32) = nI (k + 1) := nI_1 k
theorem n_add3 (k : Nat) : nI k + (3 : Int32) = nI (k + 3) := nI_add k 3
theorem n_pred (k : Nat) : nI (k + 1) + (-1 : Int32) = nI k := pk_m1 k
theorem n_sub1 {k : Nat} (h : 1 ≤ k) : nI k - (1 : Int32) = nI (k - 1) := by
  obtain ⟨j, rfl⟩ : ∃ j, k = j + 1 := ⟨k - 1, by omega⟩
  rw [nI_pred]; rfl
theorem n_le {a b : Nat} (ha : a < 2 ^ 31) (hb : b < 2 ^ 31) : nI a ≤ nI b ↔ a ≤ b := nI_leI ha hb
theorem n_lt {a b : Nat} (ha : a < 2 ^ 31) (hb : b < 2 ^ 31) : nI a < nI b ↔ a < b := nI_ltI ha hb
theorem n_ieq {a b : Nat} (ha : a < 2 ^ 31) (hb : b < 2 ^ 31) : nI a = nI b ↔ a = b := nI_eq ha hb
theorem n_lt0 {a : Nat} (ha : a < 2 ^ 31) : ¬ nI a < 0 := nI_pos ha
theorem n_m1lt : (-1 : Int32) < 0 := by decide
/-- k rounds left: the counter is k - 1, which may be -1 -/
def n_left (k : Nat) : Int32 := nI k + (-1 : Int32)
theorem n_left_0 : n_left 0 = (-1 : Int32) := by decide +kernel
theorem n_left_s (k : Nat) : n_left (k + 1) = nI k := pk_m1 k
theorem n_left_sub (k : Nat) : nI k - (1 : Int32) = n_left k := by
  cases k with
  | zero => decide +kernel
  | succ k => rw [n_left_s, nI_pred]
theorem n_left_lt : n_left 0 < 0 := by rw [n_left_0]; decide
theorem n_left_nlt {k : Nat} (h : k < 2 ^ 31) : ¬ n_left (k + 1) < 0 := by rw [n_left_s]; exact nI_pos h
theorem n_cl {k : Nat} (h : k < 2 ^ 31) : (nI k).toNatClampNeg = k := nI_clamp h
-- shifts and bits of small numbers
theorem n_shl {a k : Nat} (hk : k < 32) : nI a <<< (nI k &&& 31) = nI (a * 2 ^ k) := by
  have hs : ((nI k &&& 31).toBitVec.smod 32).toNat = k := by
    have : ∀ n, n < 32 → ((nI n &&& 31).toBitVec.smod 32).toNat = n := by decide +kernel
    exact this k hk
  apply Int32.toBitVec_inj.mp
  apply BitVec.eq_of_toNat_eq
  rw [pk_shl _ _ k hs]
  show (BitVec.ofNat 32 a).toNat * 2 ^ k % 2 ^ 32 = (BitVec.ofNat 32 (a * 2 ^ k)).toNat
  simp [BitVec.toNat_ofNat, Nat.mod_mul_mod]
theorem n_shr {a k : Nat} (ha : a < 2 ^ 31) (hk : k < 32) : nI a >>> (nI k &&& 31) = nI (a / 2 ^ k) := by
  have hs : ((nI k &&& 31).toBitVec.smod 32).toNat = k := by
    have : ∀ n, n < 32 → ((nI n &&& 31).toBitVec.smod 32).toNat = n := by decide +kernel
    exact this k hk
  exact pk_shrN ha _ k hs
theorem n_ushr {a k : Nat} (ha : a < 2 ^ 32) (hk : k < 32) : xus (nI a) (nI k) = nI (a / 2 ^ k) := by
  have hs : (((nI k).toUInt32 &&& Int32.toUInt32 31).toBitVec % 32).toNat = k := by
    have : ∀ n, n < 32 → (((nI n).toUInt32 &&& Int32.toUInt32 31).toBitVec % 32).toNat = n := by decide +kernel
    exact this k hk
  exact pk_ushrN ha _ k hs
theorem n_and7 {a : Nat} : nI a &&& (7 : Int32) = nI (a % 8) := fa_mask a 3
theorem n_and1 {a : Nat} : nI a &&& (1 : Int32) = nI (a % 2) := fa_mask a 1
theorem n_or (a b : Nat) : nI a ||| nI b = nI (a ||| b) := fa_or a b
theorem n_and (a b : Nat) : nI a &&& nI b = nI (a &&& b) := fa_and a b
theorem n_mul (a b : Nat) : nI a * nI b = nI (a * b) := pk_mul a b
theorem n_addn (a b : Nat) : nI a + nI b = nI (a + b) := nI_add a b
theorem n_bit {a k : Nat} (ha : a < 2 ^ 31) (hk : k < 32) : (nI a >>> (nI k &&& 31)) &&& (1 : Int32) = nI (a / 2 ^ k % 2) := by rw [n_shr ha hk, n_and1]
theorem n_tb (a k : Nat) : a / 2 ^ k % 2 = if a.testBit k then 1 else 0 := by
  rw [Nat.testBit_eq_decide_div_mod_eq]
  have h : a / 2 ^ k % 2 < 2 := Nat.mod_lt _ (by decide)
  by_cases q : a / 2 ^ k % 2 = 1
  · simp [q]
  · have : a / 2 ^ k % 2 = 0 := by omega
    simp [this]
theorem n_bit0 {a k : Nat} (ha : a < 2 ^ 31) (hk : k < 32) : ((nI a >>> (nI k &&& 31)) &&& (1 : Int32)) = 0 ↔ a.testBit k = false := by
  rw [n_bit ha hk, n_tb]
  by_cases q : a.testBit k = true
  · rw [q]; simp; decide +kernel
  · have : a.testBit k = false := by simpa using q
    rw [this]; simp; decide +kernel
theorem n_bit1 {a k : Nat} (ha : a < 2 ^ 31) (hk : k < 32) : ((nI a >>> (nI k &&& 31)) &&& (1 : Int32)) = 1 ↔ a.testBit k = true := by
  rw [n_bit ha hk, n_tb]
  by_cases q : a.testBit k = true
  · rw [q]; simp; decide +kernel
  · have : a.testBit k = false := by simpa using q
    rw [this]; simp; decide +kernel

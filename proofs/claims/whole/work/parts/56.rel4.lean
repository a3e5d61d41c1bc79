theorem tell_ok {N K : Nat} {g : Nat → Nat → Nat} {n_n n_count bad no full z_count t_length typed pasts : Int32} {gens now refused : Nat → Int32} (hC : cN N K g n_n n_count gens) (hM : mN N K g now) (hR : rfs bad no full refused) (hz : z_count = pasts) (ht : t_length = typed) {b : Nat} (hb : b ≤ 6) : ∃ r, f_X7_tell bad no full n_n n_count z_count t_length (nI b) = some r ∧ f_X8_toldOf now pasts refused typed (nI b) = some r := by
  have v4 : vp_in ((4 : Int32) - (4 : Int32)) 5 := vp_in_nI (i := 0) (by decide) (by decide)
  have v5 : vp_in ((5 : Int32) - (4 : Int32)) 5 := vp_in_nI (i := 1) (by decide) (by decide)
  match b, hb with
  | 0, _ => exact ⟨bad, xb_t rfl, (xb_f (by decide)).trans ((xk_t (vp_in_nI (by decide) (by decide))).trans (congrArg some hR.1))⟩
  | 1, _ => exact ⟨no, (xb_f (by decide)).trans (xb_t rfl), (xb_f (by decide)).trans ((xk_t (vp_in_nI (by decide) (by decide))).trans (congrArg some hR.2.1))⟩
  | 2, _ => exact ⟨full, (xb_f (by decide)).trans ((xb_f (by decide)).trans (xb_t rfl)), (xb_f (by decide)).trans ((xk_t (vp_in_nI (by decide) (by decide))).trans (congrArg some hR.2.2))⟩
  | 3, _ => exact ⟨typed, (xb_f (by decide)).trans ((xb_f (by decide)).trans ((xb_f (by decide)).trans ((xb_t rfl).trans (congrArg some ht)))), (xb_t (by decide)).trans (xb_t rfl)⟩
  | 4, _ => exact ⟨n_n, (xb_f (by decide)).trans ((xb_f (by decide)).trans ((xb_f (by decide)).trans ((xb_f (by decide)).trans (xb_t rfl)))), (xb_t (by decide)).trans ((xb_f (by decide)).trans ((xb_f (by decide)).trans ((xk_t v4).trans (congrArg some (hM.2.2.2.1.trans hC.2.2.2.1.symm)))))⟩
  | 5, _ => exact ⟨n_count, (xb_f (by decide)).trans ((xb_f (by decide)).trans ((xb_f (by decide)).trans ((xb_f (by decide)).trans ((xb_f (by decide)).trans (xb_t rfl))))), (xb_t (by decide)).trans ((xb_f (by decide)).trans ((xb_f (by decide)).trans ((xk_t v5).trans (congrArg some (hM.2.2.2.2.1.trans hC.2.2.2.2.1.symm)))))⟩
  | 6, _ => exact ⟨pasts, (xb_f (by decide)).trans ((xb_f (by decide)).trans ((xb_f (by decide)).trans ((xb_f (by decide)).trans ((xb_f (by decide)).trans ((xb_f (by decide)).trans (congrArg some hz)))))), (xb_t (by decide)).trans ((xb_f (by decide)).trans (xb_t (by decide)))⟩
  | n + 7, h => omega

def xrot {α : Type} (f : Nat → α) : Nat → α := fun i => if i < 4 then f (i + 1) else if i = 4 then f 0 else f i
def wZr (cI cZ cB cO : ClassId) (h : Nat) (p : Nat → Nat) (count : Int32) (ra rb : Nat → Nat) (rn rc : Nat → Int32) (rg : Nat → Nat → Int32) (g : Nat → Option Nat) : va_W := [(h, .inr (4, [.int count, .ref (p 1)])), (p 1, .inl (cO, 5, .inr (.inr (.inr (.inr g))))), (ra 0, .inr (3, [.int (rn 0), .int (rc 0), .ref (rb 0)])), (rb 0, .inl (cI, 3, .inl (rg 0))), (ra 1, .inr (3, [.int (rn 1), .int (rc 1), .ref (rb 1)])), (rb 1, .inl (cI, 3, .inl (rg 1))), (ra 2, .inr (3, [.int (rn 2), .int (rc 2), .ref (rb 2)])), (rb 2, .inl (cI, 3, .inl (rg 2))), (ra 3, .inr (3, [.int (rn 3), .int (rc 3), .ref (rb 3)])), (rb 3, .inl (cI, 3, .inl (rg 3))), (ra 4, .inr (3, [.int (rn 4), .int (rc 4), .ref (rb 4)])), (rb 4, .inl (cI, 3, .inl (rg 4)))]
def wZ (cI cZ cB cO : ClassId) (h : Nat) (p : Nat → Nat) (count : Int32) (ra rb : Nat → Nat) (rn rc : Nat → Int32) (rg : Nat → Nat → Int32) : va_W := wZr cI cZ cB cO h p count ra rb rn rc rg (fun i => some (ra i))
theorem xrot_rows (ra : Nat → Nat) : va_up (va_up (va_up (va_up (va_up (fun i => some (ra i)) 0 (some (ra 1))) 1 (some (ra 2))) 2 (some (ra 3))) 3 (some (ra 4))) 4 (some (ra 0)) = fun i => some (xrot ra i) := by
  funext i
  unfold xrot va_up
  by_cases h4 : i = 4
  · subst h4; rfl
  · by_cases h3 : i = 3
    · subst h3; rfl
    · by_cases h2 : i = 2
      · subst h2; rfl
      · by_cases h1 : i = 1
        · subst h1; rfl
        · by_cases h0 : i = 0
          · subst h0; rfl
          · rw [if_neg h4, if_neg h3, if_neg h2, if_neg h1, if_neg h0, if_neg (by omega), if_neg h4]
def xi (n : Nat) (i : Int32) : Option Nat := if i < 0 ∨ n ≤ i.toNatClampNeg then none else some i.toNatClampNeg
theorem xi_i {n : Nat} {i : Int32} {k : Nat} (h : xi n i = some k) : vp_in i n ∧ i.toNatClampNeg = k ∧ k < n := by
  unfold xi at h
  by_cases q : i < 0 ∨ n ≤ i.toNatClampNeg
  · rw [if_pos q] at h; cases h
  · rw [if_neg q] at h
    have e := Option.some.inj h
    exact ⟨q, e, by omega⟩
theorem xi_s {n k : Nat} (h : k < n) (hn : n < 2 ^ 31) : xi n (nI k) = some k := by
  have e : (nI k).toNatClampNeg = k := nI_clamp (by omega)
  have h0 : ¬ (nI k < 0 ∨ n ≤ (nI k).toNatClampNeg) := vp_in_nI h hn
  unfold xi
  rw [if_neg h0, e]
section XZ
variable {D : va_G} {tys : List (ClassId × FieldType)} {p : Program} {l : Launch} {e : Env} {R : Room} {s : State} {m : MethodId} {args : Array Value} {below : List Frame} {meth : Method} {c : Code} {H H0 : Heap} {locs : List Loc} {cells slots : Nat} {Q : State → Prop} {A : Nat → Prop}
variable {cc : ByteArray} {pc nL : Nat} {ls : Array Slot} {rest : List Value} {own : String} {ret : Option FieldType} {ws : va_W} {a : Nat}
theorem x_aald (C : xCtx D tys p s m args meth c cc nL own ret) (hw : xWd D A H0 H locs ws) (q0 t0 : Nat) {cA : ClassId} {Cn : String} {n k y : Nat} {f : Nat → Option Nat} (ha : ws[q0]? = some (a, .inl (cA, n, .inr (.inr (.inr (.inr f)))))) (ht : tys[t0]? = some (cA, .object Cn)) {i : Int32} (hin : vp_in i n) (hi : i.toNatClampNeg = k) (hf : f k = some y) (hdg : decode cc pc = .ok (.aaload, 1))
    (kk : W p l e R s m args below meth c H locs cells slots Q (F0 m (pc + 1) ls (.ref y :: rest))) : W p l e R s m args below meth c H locs cells slots Q (F0 m pc ls (.int i :: .ref a :: rest)) := by
  refine va_aldq C.1 C.2.1 C.2.2.2.2.2.2.2 hw.1 q0 t0 ha ht hin hdg ?_
  rw [hi, hf]; exact kk
theorem x_aast (C : xCtx D tys p s m args meth c cc nL own ret) (hw : xWd D A H0 H locs ws) (q0 t0 qk ci : Nat) {cA : ClassId} {r : vw_C} {n v k : Nat} {vs : List Value} {f : Nat → Option Nat} (ha : ws[q0]? = some (a, .inl (cA, n, .inr (.inr (.inr (.inr f)))))) (ht : tys[t0]? = some (cA, .object r.1)) (hv : ws[qk]? = some (v, .inr (ci, vs))) (hc : vwCl[ci]? = some r) {i : Int32} (hin : vp_in i n) (hi : i.toNatClampNeg = k) (hdg : decode cc pc = .ok (.aastore, 1))
    (kk : ∀ (H1 : Heap) (locs1 : List Loc), xWd D A H0 H1 locs1 (ws.set q0 (a, .inl (cA, n, .inr (.inr (.inr (.inr (va_up f k (some v)))))))) → W p l e R s m args below meth c H1 locs1 cells slots Q (F0 m (pc + 1) ls rest)) : W p l e R s m args below meth c H locs cells slots Q (F0 m pc ls (.ref v :: .int i :: .ref a :: rest)) :=
  va_astq C.1 C.2.1 C.2.2.2.2.2.2.2 hw.1 hw.2.1 hw.2.2.1 q0 t0 qk ci ha ht hv hc hin hdg (fun H1 locs1 h1 h2 h3 => kk H1 locs1 (by rw [hi] at h1 h2; exact ⟨h1, h2, h3, hw.2.2.2⟩))
end XZ

theorem dX5_push_0 : decode cX5_push 0 = .ok (.aload_n 0, 1) := by decide +kernel
theorem dX5_push_1 : decode cX5_push 1 = .ok (.getfield 9, 3) := by decide +kernel
theorem dX5_push_4 : decode cX5_push 4 = .ok (.iconst 5, 1) := by decide +kernel
theorem dX5_push_5 : decode cX5_push 5 = .ok (.if_icmp .lt 7, 3) := by decide +kernel
theorem dX5_push_8 : decode cX5_push 8 = .ok (.aload_n 0, 1) := by decide +kernel
theorem dX5_push_9 : decode cX5_push 9 = .ok (.invokevirtual 22, 3) := by decide +kernel
theorem dX5_push_12 : decode cX5_push 12 = .ok (.aload_n 0, 1) := by decide +kernel
theorem dX5_push_13 : decode cX5_push 13 = .ok (.getfield 17, 3) := by decide +kernel
theorem dX5_push_16 : decode cX5_push 16 = .ok (.aload_n 0, 1) := by decide +kernel
theorem dX5_push_17 : decode cX5_push 17 = .ok (.getfield 9, 3) := by decide +kernel
theorem dX5_push_20 : decode cX5_push 20 = .ok (.aaload, 1) := by decide +kernel
theorem dX5_push_21 : decode cX5_push 21 = .ok (.aload_n 1, 1) := by decide +kernel
theorem dX5_push_22 : decode cX5_push 22 = .ok (.invokevirtual 25, 3) := by decide +kernel
theorem dX5_push_25 : decode cX5_push 25 = .ok (.aload_n 0, 1) := by decide +kernel
theorem dX5_push_26 : decode cX5_push 26 = .ok (.dup, 1) := by decide +kernel
theorem dX5_push_27 : decode cX5_push 27 = .ok (.getfield 9, 3) := by decide +kernel
theorem dX5_push_30 : decode cX5_push 30 = .ok (.iconst 1, 1) := by decide +kernel
theorem dX5_push_31 : decode cX5_push 31 = .ok (.iadd, 1) := by decide +kernel
theorem dX5_push_32 : decode cX5_push 32 = .ok (.putfield 9, 3) := by decide +kernel
theorem dX5_push_35 : decode cX5_push 35 = .ok (.return_, 1) := by decide +kernel
theorem dX5_pop_0 : decode cX5_pop 0 = .ok (.aload_n 0, 1) := by decide +kernel
theorem dX5_pop_1 : decode cX5_pop 1 = .ok (.getfield 9, 3) := by decide +kernel
theorem dX5_pop_4 : decode cX5_pop 4 = .ok (.ifCond .le 26, 3) := by decide +kernel
theorem dX5_pop_7 : decode cX5_pop 7 = .ok (.aload_n 0, 1) := by decide +kernel
theorem dX5_pop_8 : decode cX5_pop 8 = .ok (.dup, 1) := by decide +kernel
theorem dX5_pop_9 : decode cX5_pop 9 = .ok (.getfield 9, 3) := by decide +kernel
theorem dX5_pop_12 : decode cX5_pop 12 = .ok (.iconst 1, 1) := by decide +kernel
theorem dX5_pop_13 : decode cX5_pop 13 = .ok (.isub, 1) := by decide +kernel
theorem dX5_pop_14 : decode cX5_pop 14 = .ok (.putfield 9, 3) := by decide +kernel
theorem dX5_pop_17 : decode cX5_pop 17 = .ok (.aload_n 1, 1) := by decide +kernel
theorem dX5_pop_18 : decode cX5_pop 18 = .ok (.aload_n 0, 1) := by decide +kernel
theorem dX5_pop_19 : decode cX5_pop 19 = .ok (.getfield 17, 3) := by decide +kernel
theorem dX5_pop_22 : decode cX5_pop 22 = .ok (.aload_n 0, 1) := by decide +kernel
theorem dX5_pop_23 : decode cX5_pop 23 = .ok (.getfield 9, 3) := by decide +kernel
theorem dX5_pop_26 : decode cX5_pop 26 = .ok (.aaload, 1) := by decide +kernel
theorem dX5_pop_27 : decode cX5_pop 27 = .ok (.invokevirtual 25, 3) := by decide +kernel
theorem dX5_pop_30 : decode cX5_pop 30 = .ok (.return_, 1) := by decide +kernel
theorem dX5_loseOldest_0 : decode cX5_loseOldest 0 = .ok (.aload_n 0, 1) := by decide +kernel
theorem dX5_loseOldest_1 : decode cX5_loseOldest 1 = .ok (.getfield 17, 3) := by decide +kernel
theorem dX5_loseOldest_4 : decode cX5_loseOldest 4 = .ok (.iconst 0, 1) := by decide +kernel
theorem dX5_loseOldest_5 : decode cX5_loseOldest 5 = .ok (.aaload, 1) := by decide +kernel
theorem dX5_loseOldest_6 : decode cX5_loseOldest 6 = .ok (.astore_n 1, 1) := by decide +kernel
theorem dX5_loseOldest_7 : decode cX5_loseOldest 7 = .ok (.iconst 1, 1) := by decide +kernel
theorem dX5_loseOldest_8 : decode cX5_loseOldest 8 = .ok (.istore_n 2, 1) := by decide +kernel
theorem dX5_loseOldest_9 : decode cX5_loseOldest 9 = .ok (.iload_n 2, 1) := by decide +kernel
theorem dX5_loseOldest_10 : decode cX5_loseOldest 10 = .ok (.iconst 5, 1) := by decide +kernel
theorem dX5_loseOldest_11 : decode cX5_loseOldest 11 = .ok (.if_icmp .ge 23, 3) := by decide +kernel
theorem dX5_loseOldest_14 : decode cX5_loseOldest 14 = .ok (.aload_n 0, 1) := by decide +kernel
theorem dX5_loseOldest_15 : decode cX5_loseOldest 15 = .ok (.getfield 17, 3) := by decide +kernel
theorem dX5_loseOldest_18 : decode cX5_loseOldest 18 = .ok (.iload_n 2, 1) := by decide +kernel
theorem dX5_loseOldest_19 : decode cX5_loseOldest 19 = .ok (.iconst 1, 1) := by decide +kernel
theorem dX5_loseOldest_20 : decode cX5_loseOldest 20 = .ok (.isub, 1) := by decide +kernel
theorem dX5_loseOldest_21 : decode cX5_loseOldest 21 = .ok (.aload_n 0, 1) := by decide +kernel
theorem dX5_loseOldest_22 : decode cX5_loseOldest 22 = .ok (.getfield 17, 3) := by decide +kernel
theorem dX5_loseOldest_25 : decode cX5_loseOldest 25 = .ok (.iload_n 2, 1) := by decide +kernel
theorem dX5_loseOldest_26 : decode cX5_loseOldest 26 = .ok (.aaload, 1) := by decide +kernel
theorem dX5_loseOldest_27 : decode cX5_loseOldest 27 = .ok (.aastore, 1) := by decide +kernel
theorem dX5_loseOldest_28 : decode cX5_loseOldest 28 = .ok (.iinc 2 1, 3) := by decide +kernel
theorem dX5_loseOldest_31 : decode cX5_loseOldest 31 = .ok (.goto (-22), 3) := by decide +kernel
theorem dX5_loseOldest_34 : decode cX5_loseOldest 34 = .ok (.aload_n 0, 1) := by decide +kernel
theorem dX5_loseOldest_35 : decode cX5_loseOldest 35 = .ok (.getfield 17, 3) := by decide +kernel
theorem dX5_loseOldest_38 : decode cX5_loseOldest 38 = .ok (.iconst 4, 1) := by decide +kernel
theorem dX5_loseOldest_39 : decode cX5_loseOldest 39 = .ok (.aload_n 1, 1) := by decide +kernel
theorem dX5_loseOldest_40 : decode cX5_loseOldest 40 = .ok (.aastore, 1) := by decide +kernel
theorem dX5_loseOldest_41 : decode cX5_loseOldest 41 = .ok (.aload_n 0, 1) := by decide +kernel
theorem dX5_loseOldest_42 : decode cX5_loseOldest 42 = .ok (.iconst 4, 1) := by decide +kernel
theorem dX5_loseOldest_43 : decode cX5_loseOldest 43 = .ok (.putfield 9, 3) := by decide +kernel
theorem dX5_loseOldest_46 : decode cX5_loseOldest 46 = .ok (.return_, 1) := by decide +kernel
theorem gc_X5_22 : GoodIn xtb (wsV RX5 22 yX5_loseOldest.cls yX5_loseOldest (xW yX5_loseOldest cX5_loseOldest 3 none)) := x_good lkM_X5_22 wI_X5_loseOldest wS_X5_loseOldest wN_X5 wC_X5_loseOldest
theorem gc_X5_25 : GoodIn xtb (wsV RX5 25 yX4_copy.cls yX4_copy (xW yX4_copy cX4_copy 2 none)) := x_good lkM_X5_25 wI_X4_copy wS_X4_copy wN_X4 wC_X4_copy
theorem ds_X5_push : xDs yX5_push 1 := by decide +kernel
theorem ds_X5_pop : xDs yX5_pop 1 := by decide +kernel
theorem ds_X5_loseOldest : xDs yX5_loseOldest 0 := by decide +kernel
set_option maxHeartbeats 4000000 in
set_option maxRecDepth 100000 in
theorem c_X5_loseOldest (l : Launch) (dC : Nat → ClassId) (dI : Nat → Nat → Nat) (cI cZ cB cO : ClassId) (z_ad : Nat) (z_p : Nat → Nat) (z_count : Int32) (z_ra z_rb : Nat → Nat) (z_rn z_rc : Nat → Int32) (z_rg : Nat → Nat → Int32)  (sz : Nat) : Met l yX5_loseOldest (xW yX5_loseOldest cX5_loseOldest 3 none) { frames := 0, cells := 0, slots := 0, locals := 0 } (xPre dC dI (xT cI cZ cB cO) [.ref z_ad] (wZ cI cZ cB cO z_ad z_p z_count z_ra z_rb z_rn z_rc z_rg) sz) (xQv dC dI (xT cI cZ cB cO) (wZ cI cZ cB cO z_ad z_p z_count z_ra z_rb z_rn z_rc z_rg) (wZ cI cZ cB cO z_ad z_p (4 : Int32) (xrot z_ra) (xrot z_rb) (xrot z_rn) (xrot z_rc) (xrot z_rg)) sz) 0 0 (va_A (wZ cI cZ cB cO z_ad z_p z_count z_ra z_rb z_rn z_rc z_rg) sz) := by
  refine x_met (by decide) (Nat.le_of_ble_eq_true rfl) ?_
  intro p e s m args below meth c R Q A hR hsz hA hQ hin C hw ls hl
  have hx := C.1
  have hb := C.2.1
  have hw : xWd (dC, dI) A s.heap s.heap [] (wZr cI cZ cB cO z_ad z_p z_count z_ra z_rb z_rn z_rc z_rg (fun i => some (z_ra i))) := hw
  have hl : lv_has ls 3 [(0, .ref z_ad)] := hl
  refine lv_aload_n hx hb dX5_loseOldest_0 rfl (lv_at hl 0 rfl) ?_
  refine x_get (ci := 4) C hw inX5 rfl 1 (by decide) lkF_X5_17 rfl 0 rfl rfl dX5_loseOldest_1 ?_
  refine lv_iconst (v := (0 : Int32)) hx hb dX5_loseOldest_4 (by decide) ?_
  refine x_aald (k := 0) C hw 1 3 rfl rfl (vp_in_iff.mpr (by decide)) (by decide) rfl dX5_loseOldest_5 ?_
  refine lv_astore_n (lv' := [(1, .ref (z_ra 0)), (0, .ref z_ad)]) hx hb dX5_loseOldest_6 rfl hl (by decide) rfl (fun ls hl => ?_)
  refine lv_iconst (v := (1 : Int32)) hx hb dX5_loseOldest_7 (by decide) ?_
  refine lv_istore_n (lv' := [(2, .int (1 : Int32)), (1, .ref (z_ra 0)), (0, .ref z_ad)]) hx hb dX5_loseOldest_8 rfl hl (by decide) rfl (fun ls hl => ?_)
  refine lv_iload_n hx hb dX5_loseOldest_9 rfl (lv_at hl 0 rfl) ?_
  refine lv_iconst (v := (5 : Int32)) hx hb dX5_loseOldest_10 (by decide) ?_
  refine lv_icmp_ge (tgt := 34) hx hb dX5_loseOldest_11 (by decide) (fun q => absurd q (by decide)) (fun _ => ?_)
  refine lv_aload_n hx hb dX5_loseOldest_14 rfl (lv_at hl 2 rfl) ?_
  refine x_get (ci := 4) C hw inX5 rfl 1 (by decide) lkF_X5_17 rfl 0 rfl rfl dX5_loseOldest_15 ?_
  refine lv_iload_n hx hb dX5_loseOldest_18 rfl (lv_at hl 0 rfl) ?_
  refine lv_iconst (v := (1 : Int32)) hx hb dX5_loseOldest_19 (by decide) ?_
  refine lv_isub hx hb dX5_loseOldest_20 ?_
  refine lv_aload_n hx hb dX5_loseOldest_21 rfl (lv_at hl 2 rfl) ?_
  refine x_get (ci := 4) C hw inX5 rfl 1 (by decide) lkF_X5_17 rfl 0 rfl rfl dX5_loseOldest_22 ?_
  refine lv_iload_n hx hb dX5_loseOldest_25 rfl (lv_at hl 0 rfl) ?_
  refine x_aald (k := 1) C hw 1 3 rfl rfl (vp_in_iff.mpr (by decide)) (by decide) rfl dX5_loseOldest_26 ?_
  refine x_aast (k := 0) C hw 1 3 4 3 rfl rfl rfl rfl (vp_in_iff.mpr (by decide)) (by decide) dX5_loseOldest_27 (fun H locs hw => ?_)
  have hw : xWd (dC, dI) A s.heap H locs (wZr cI cZ cB cO z_ad z_p z_count z_ra z_rb z_rn z_rc z_rg (va_up (fun i => some (z_ra i)) 0 (some (z_ra 1)))) := hw
  refine lv_iinc (v := (2 : Int32)) (lv' := [(2, .int (2 : Int32)), (1, .ref (z_ra 0)), (0, .ref z_ad)]) hx hb dX5_loseOldest_28 hl (k := 0) rfl (by decide) (by decide) rfl (fun ls hl => ?_)
  refine lv_goto (tgt := 9) hx hb dX5_loseOldest_31 (by decide) ?_
  refine lv_iload_n hx hb dX5_loseOldest_9 rfl (lv_at hl 0 rfl) ?_
  refine lv_iconst (v := (5 : Int32)) hx hb dX5_loseOldest_10 (by decide) ?_
  refine lv_icmp_ge (tgt := 34) hx hb dX5_loseOldest_11 (by decide) (fun q => absurd q (by decide)) (fun _ => ?_)
  refine lv_aload_n hx hb dX5_loseOldest_14 rfl (lv_at hl 2 rfl) ?_
  refine x_get (ci := 4) C hw inX5 rfl 1 (by decide) lkF_X5_17 rfl 0 rfl rfl dX5_loseOldest_15 ?_
  refine lv_iload_n hx hb dX5_loseOldest_18 rfl (lv_at hl 0 rfl) ?_
  refine lv_iconst (v := (1 : Int32)) hx hb dX5_loseOldest_19 (by decide) ?_
  refine lv_isub hx hb dX5_loseOldest_20 ?_
  refine lv_aload_n hx hb dX5_loseOldest_21 rfl (lv_at hl 2 rfl) ?_
  refine x_get (ci := 4) C hw inX5 rfl 1 (by decide) lkF_X5_17 rfl 0 rfl rfl dX5_loseOldest_22 ?_
  refine lv_iload_n hx hb dX5_loseOldest_25 rfl (lv_at hl 0 rfl) ?_
  refine x_aald (k := 2) C hw 1 3 rfl rfl (vp_in_iff.mpr (by decide)) (by decide) rfl dX5_loseOldest_26 ?_
  refine x_aast (k := 1) C hw 1 3 6 3 rfl rfl rfl rfl (vp_in_iff.mpr (by decide)) (by decide) dX5_loseOldest_27 (fun H locs hw => ?_)
  have hw : xWd (dC, dI) A s.heap H locs (wZr cI cZ cB cO z_ad z_p z_count z_ra z_rb z_rn z_rc z_rg (va_up (va_up (fun i => some (z_ra i)) 0 (some (z_ra 1))) 1 (some (z_ra 2)))) := hw
  refine lv_iinc (v := (3 : Int32)) (lv' := [(2, .int (3 : Int32)), (1, .ref (z_ra 0)), (0, .ref z_ad)]) hx hb dX5_loseOldest_28 hl (k := 0) rfl (by decide) (by decide) rfl (fun ls hl => ?_)
  refine lv_goto (tgt := 9) hx hb dX5_loseOldest_31 (by decide) ?_
  refine lv_iload_n hx hb dX5_loseOldest_9 rfl (lv_at hl 0 rfl) ?_
  refine lv_iconst (v := (5 : Int32)) hx hb dX5_loseOldest_10 (by decide) ?_
  refine lv_icmp_ge (tgt := 34) hx hb dX5_loseOldest_11 (by decide) (fun q => absurd q (by decide)) (fun _ => ?_)
  refine lv_aload_n hx hb dX5_loseOldest_14 rfl (lv_at hl 2 rfl) ?_
  refine x_get (ci := 4) C hw inX5 rfl 1 (by decide) lkF_X5_17 rfl 0 rfl rfl dX5_loseOldest_15 ?_
  refine lv_iload_n hx hb dX5_loseOldest_18 rfl (lv_at hl 0 rfl) ?_
  refine lv_iconst (v := (1 : Int32)) hx hb dX5_loseOldest_19 (by decide) ?_
  refine lv_isub hx hb dX5_loseOldest_20 ?_
  refine lv_aload_n hx hb dX5_loseOldest_21 rfl (lv_at hl 2 rfl) ?_
  refine x_get (ci := 4) C hw inX5 rfl 1 (by decide) lkF_X5_17 rfl 0 rfl rfl dX5_loseOldest_22 ?_
  refine lv_iload_n hx hb dX5_loseOldest_25 rfl (lv_at hl 0 rfl) ?_
  refine x_aald (k := 3) C hw 1 3 rfl rfl (vp_in_iff.mpr (by decide)) (by decide) rfl dX5_loseOldest_26 ?_
  refine x_aast (k := 2) C hw 1 3 8 3 rfl rfl rfl rfl (vp_in_iff.mpr (by decide)) (by decide) dX5_loseOldest_27 (fun H locs hw => ?_)
  have hw : xWd (dC, dI) A s.heap H locs (wZr cI cZ cB cO z_ad z_p z_count z_ra z_rb z_rn z_rc z_rg (va_up (va_up (va_up (fun i => some (z_ra i)) 0 (some (z_ra 1))) 1 (some (z_ra 2))) 2 (some (z_ra 3)))) := hw
  refine lv_iinc (v := (4 : Int32)) (lv' := [(2, .int (4 : Int32)), (1, .ref (z_ra 0)), (0, .ref z_ad)]) hx hb dX5_loseOldest_28 hl (k := 0) rfl (by decide) (by decide) rfl (fun ls hl => ?_)
  refine lv_goto (tgt := 9) hx hb dX5_loseOldest_31 (by decide) ?_
  refine lv_iload_n hx hb dX5_loseOldest_9 rfl (lv_at hl 0 rfl) ?_
  refine lv_iconst (v := (5 : Int32)) hx hb dX5_loseOldest_10 (by decide) ?_
  refine lv_icmp_ge (tgt := 34) hx hb dX5_loseOldest_11 (by decide) (fun q => absurd q (by decide)) (fun _ => ?_)
  refine lv_aload_n hx hb dX5_loseOldest_14 rfl (lv_at hl 2 rfl) ?_
  refine x_get (ci := 4) C hw inX5 rfl 1 (by decide) lkF_X5_17 rfl 0 rfl rfl dX5_loseOldest_15 ?_
  refine lv_iload_n hx hb dX5_loseOldest_18 rfl (lv_at hl 0 rfl) ?_
  refine lv_iconst (v := (1 : Int32)) hx hb dX5_loseOldest_19 (by decide) ?_
  refine lv_isub hx hb dX5_loseOldest_20 ?_
  refine lv_aload_n hx hb dX5_loseOldest_21 rfl (lv_at hl 2 rfl) ?_
  refine x_get (ci := 4) C hw inX5 rfl 1 (by decide) lkF_X5_17 rfl 0 rfl rfl dX5_loseOldest_22 ?_
  refine lv_iload_n hx hb dX5_loseOldest_25 rfl (lv_at hl 0 rfl) ?_
  refine x_aald (k := 4) C hw 1 3 rfl rfl (vp_in_iff.mpr (by decide)) (by decide) rfl dX5_loseOldest_26 ?_
  refine x_aast (k := 3) C hw 1 3 10 3 rfl rfl rfl rfl (vp_in_iff.mpr (by decide)) (by decide) dX5_loseOldest_27 (fun H locs hw => ?_)
  have hw : xWd (dC, dI) A s.heap H locs (wZr cI cZ cB cO z_ad z_p z_count z_ra z_rb z_rn z_rc z_rg (va_up (va_up (va_up (va_up (fun i => some (z_ra i)) 0 (some (z_ra 1))) 1 (some (z_ra 2))) 2 (some (z_ra 3))) 3 (some (z_ra 4)))) := hw
  refine lv_iinc (v := (5 : Int32)) (lv' := [(2, .int (5 : Int32)), (1, .ref (z_ra 0)), (0, .ref z_ad)]) hx hb dX5_loseOldest_28 hl (k := 0) rfl (by decide) (by decide) rfl (fun ls hl => ?_)
  refine lv_goto (tgt := 9) hx hb dX5_loseOldest_31 (by decide) ?_
  refine lv_iload_n hx hb dX5_loseOldest_9 rfl (lv_at hl 0 rfl) ?_
  refine lv_iconst (v := (5 : Int32)) hx hb dX5_loseOldest_10 (by decide) ?_
  refine lv_icmp_ge (tgt := 34) hx hb dX5_loseOldest_11 (by decide) (fun _ => ?_) (fun q => absurd (by decide) q)
  refine lv_aload_n hx hb dX5_loseOldest_34 rfl (lv_at hl 2 rfl) ?_
  refine x_get (ci := 4) C hw inX5 rfl 1 (by decide) lkF_X5_17 rfl 0 rfl rfl dX5_loseOldest_35 ?_
  refine lv_iconst (v := (4 : Int32)) hx hb dX5_loseOldest_38 (by decide) ?_
  refine lv_aload_n hx hb dX5_loseOldest_39 rfl (lv_at hl 1 rfl) ?_
  refine x_aast (k := 4) C hw 1 3 2 3 rfl rfl rfl rfl (vp_in_iff.mpr (by decide)) (by decide) dX5_loseOldest_40 (fun H locs hw => ?_)
  have hw : xWd (dC, dI) A s.heap H locs (wZr cI cZ cB cO z_ad z_p z_count z_ra z_rb z_rn z_rc z_rg (va_up (va_up (va_up (va_up (va_up (fun i => some (z_ra i)) 0 (some (z_ra 1))) 1 (some (z_ra 2))) 2 (some (z_ra 3))) 3 (some (z_ra 4))) 4 (some (z_ra 0)))) := hw
  refine lv_aload_n hx hb dX5_loseOldest_41 rfl (lv_at hl 2 rfl) ?_
  refine lv_iconst (v := (4 : Int32)) hx hb dX5_loseOldest_42 (by decide) ?_
  refine x_put (ci := 4) C hw inX5 tyX5 tyX5_ok nmX5 rfl 0 (by decide) lkF_X5_9 rfl rfl 0 rfl rfl rfl (Nat.le_of_ble_eq_true rfl) dX5_loseOldest_43 (fun H locs hw => ?_)
  have hw : xWd (dC, dI) A s.heap H locs (wZr cI cZ cB cO z_ad z_p (4 : Int32) z_ra z_rb z_rn z_rc z_rg (va_up (va_up (va_up (va_up (va_up (fun i => some (z_ra i)) 0 (some (z_ra 1))) 1 (some (z_ra 2))) 2 (some (z_ra 3))) 3 (some (z_ra 4))) 4 (some (z_ra 0)))) := hw
  rw [xrot_rows] at hw
  have hw : xWd (dC, dI) A s.heap H locs (wZ cI cZ cB cO z_ad z_p (4 : Int32) (xrot z_ra) (xrot z_rb) (xrot z_rn) (xrot z_rc) (xrot z_rg)) := hw.sub [0, 1, 4, 5, 6, 7, 8, 9, 10, 11, 2, 3] (by decide) rfl
  exact x_retv C hQ hA hw dX5_loseOldest_46
noncomputable def f_X5_push (z_count : Int32) (z_ra z_rb : Nat → Nat) (z_rn z_rc : Nat → Int32) (z_rg : Nat → Nat → Int32) (s_n : Int32) (s_count : Int32) (s_generators : Nat → Int32) : Option (Int32 × (Nat → Nat) × (Nat → Nat) × (Nat → Int32) × (Nat → Int32) × (Nat → Nat → Int32)) :=
  xn (xb (z_count < (5 : Int32)) (some (z_count, z_ra, z_rb, z_rn, z_rc, z_rg)) (some ((4 : Int32), xrot z_ra, xrot z_rb, xrot z_rn, xrot z_rc, xrot z_rg))) (fun (z : Int32 × (Nat → Nat) × (Nat → Nat) × (Nat → Int32) × (Nat → Int32) × (Nat → Nat → Int32)) => match z with
  | (c, ra, rb, rn, rc, rg) => xn (xi 5 c) (fun (k : Nat) => some (c + (1 : Int32), ra, rb, va_up rn k s_n, va_up rc k s_count, va_up rg k (va_cpy s_generators (rg k) 0 0 3))))
set_option maxHeartbeats 4000000 in
set_option maxRecDepth 100000 in
theorem c_X5_push (l : Launch) (dC : Nat → ClassId) (dI : Nat → Nat → Nat) (cI cZ cB cO : ClassId) (z_ad : Nat) (z_p : Nat → Nat) (s_ad : Nat) (s_p : Nat → Nat) (z_count : Int32) (z_ra z_rb : Nat → Nat) (z_rn z_rc : Nat → Int32) (z_rg : Nat → Nat → Int32) (s_n : Int32) (s_count : Int32) (s_generators : Nat → Int32) (o : Int32 × (Nat → Nat) × (Nat → Nat) × (Nat → Int32) × (Nat → Int32) × (Nat → Nat → Int32)) (h : f_X5_push z_count z_ra z_rb z_rn z_rc z_rg s_n s_count s_generators = some o) (sz : Nat) : Met l yX5_push (xW yX5_push cX5_push 2 none) { frames := 2, cells := 0, slots := 0, locals := 61 } (xPre dC dI (xT cI cZ cB cO) [.ref z_ad, .ref s_ad] ((wZ cI cZ cB cO z_ad z_p z_count z_ra z_rb z_rn z_rc z_rg) ++ (wS cI cZ cB cO s_ad s_p s_n s_count s_generators)) sz) (xQv dC dI (xT cI cZ cB cO) ((wZ cI cZ cB cO z_ad z_p z_count z_ra z_rb z_rn z_rc z_rg) ++ (wS cI cZ cB cO s_ad s_p s_n s_count s_generators)) ((wZ cI cZ cB cO z_ad z_p o.1 o.2.1 o.2.2.1 o.2.2.2.1 o.2.2.2.2.1 o.2.2.2.2.2) ++ (wS cI cZ cB cO s_ad s_p s_n s_count s_generators)) sz) 0 0 (va_A ((wZ cI cZ cB cO z_ad z_p z_count z_ra z_rb z_rn z_rc z_rg) ++ (wS cI cZ cB cO s_ad s_p s_n s_count s_generators)) sz) := by
  refine x_met (by decide) (Nat.le_of_ble_eq_true rfl) ?_
  intro p e s m args below meth c R Q A hR hsz hA hQ hin C hw ls hl
  have hx := C.1
  have hb := C.2.1
  have hl : lv_has ls 2 [(0, .ref z_ad), (1, .ref s_ad)] := hl
  obtain ⟨z, hj, h⟩ := xn_i h
  have k : ∀ (H : Heap) (locs : List Loc), xWd (dC, dI) A s.heap H locs ((wZ cI cZ cB cO z_ad z_p z.1 z.2.1 z.2.2.1 z.2.2.2.1 z.2.2.2.2.1 z.2.2.2.2.2) ++ (wS cI cZ cB cO s_ad s_p s_n s_count s_generators)) → W p l e R s m args below meth c H locs 0 0 Q (F0 m 12 ls []) := by
    obtain ⟨c1, ra, rb, rn, rc, rg⟩ := z
    intro H locs hw
    have hw : xWd (dC, dI) A s.heap H locs ((wZ cI cZ cB cO z_ad z_p c1 ra rb rn rc rg) ++ (wS cI cZ cB cO s_ad s_p s_n s_count s_generators)) := hw
    obtain ⟨k, hk, h⟩ := xn_i h
    obtain ⟨hk1, hk2, hk3⟩ := xi_i hk
    obtain rfl := Option.some.inj h
    refine lv_aload_n hx hb dX5_push_12 rfl (lv_at hl 0 rfl) ?_
    refine x_get (ci := 4) C hw inX5 rfl 1 (by decide) lkF_X5_17 rfl 0 rfl rfl dX5_push_13 ?_
    refine lv_aload_n hx hb dX5_push_16 rfl (lv_at hl 0 rfl) ?_
    refine x_get (ci := 4) C hw inX5 rfl 0 (by decide) lkF_X5_9 rfl 0 rfl rfl dX5_push_17 ?_
    rcases (show k = 0 ∨ k = 1 ∨ k = 2 ∨ k = 3 ∨ k = 4 by omega) with rfl | rfl | rfl | rfl | rfl
    · refine x_aald (k := 0) C hw 1 3 rfl rfl hk1 hk2 rfl dX5_push_20 ?_
      refine lv_aload_n hx hb dX5_push_21 rfl (lv_at hl 1 rfl) ?_
      refine x_callVv (As := [.ref s_ad]) (rest := []) C hw gc_X5_25 ⟨rfl, rfl, ds_X4_copy, (by rw [hR]; exact Nat.le_of_ble_eq_true rfl), (by rw [hR]; exact Nat.le_of_ble_eq_true rfl), Nat.zero_le _, Nat.zero_le _⟩ (c_X4_copy l dC dI cI cZ cB cO (ra 0) (fun _ => rb 0) s_ad s_p (rn 0) (rc 0) (rg 0) s_n s_count s_generators (s_n, s_count, va_cpy s_generators (rg 0) 0 0 3) rfl _) [2, 3, 12, 13] [0, 1, 4, 5, 6, 7, 8, 9, 10, 11] (by decide) rfl rfl (by decide) (by decide) rfl rfl rfl hl.1 rfl (Nat.le_of_ble_eq_true rfl) dX5_push_22 (fun H locs hw => ?_)
      have hw : xWd (dC, dI) A s.heap H locs ((wZ cI cZ cB cO z_ad z_p c1 ra rb (va_up rn 0 s_n) (va_up rc 0 s_count) (va_up rg 0 (va_cpy s_generators (rg 0) 0 0 3))) ++ (wS cI cZ cB cO s_ad s_p s_n s_count s_generators)) := hw.sub [0, 1, 10, 11, 2, 3, 4, 5, 6, 7, 8, 9, 12, 13] (by decide) rfl
      refine lv_aload_n hx hb dX5_push_25 rfl (lv_at hl 0 rfl) ?_
      refine lv_dup hx hb dX5_push_26 rfl ?_
      refine x_get (ci := 4) C hw inX5 rfl 0 (by decide) lkF_X5_9 rfl 0 rfl rfl dX5_push_27 ?_
      refine lv_iconst (v := (1 : Int32)) hx hb dX5_push_30 (by decide) ?_
      refine lv_iadd hx hb dX5_push_31 ?_
      refine x_put (ci := 4) C hw inX5 tyX5 tyX5_ok nmX5 rfl 0 (by decide) lkF_X5_9 rfl rfl 0 rfl rfl rfl (Nat.le_of_ble_eq_true rfl) dX5_push_32 (fun H locs hw => ?_)
      have hw : xWd (dC, dI) A s.heap H locs ((wZ cI cZ cB cO z_ad z_p (c1 + (1 : Int32)) ra rb (va_up rn 0 s_n) (va_up rc 0 s_count) (va_up rg 0 (va_cpy s_generators (rg 0) 0 0 3))) ++ (wS cI cZ cB cO s_ad s_p s_n s_count s_generators)) := hw
      exact x_retv C hQ hA hw dX5_push_35
    · refine x_aald (k := 1) C hw 1 3 rfl rfl hk1 hk2 rfl dX5_push_20 ?_
      refine lv_aload_n hx hb dX5_push_21 rfl (lv_at hl 1 rfl) ?_
      refine x_callVv (As := [.ref s_ad]) (rest := []) C hw gc_X5_25 ⟨rfl, rfl, ds_X4_copy, (by rw [hR]; exact Nat.le_of_ble_eq_true rfl), (by rw [hR]; exact Nat.le_of_ble_eq_true rfl), Nat.zero_le _, Nat.zero_le _⟩ (c_X4_copy l dC dI cI cZ cB cO (ra 1) (fun _ => rb 1) s_ad s_p (rn 1) (rc 1) (rg 1) s_n s_count s_generators (s_n, s_count, va_cpy s_generators (rg 1) 0 0 3) rfl _) [4, 5, 12, 13] [0, 1, 2, 3, 6, 7, 8, 9, 10, 11] (by decide) rfl rfl (by decide) (by decide) rfl rfl rfl hl.1 rfl (Nat.le_of_ble_eq_true rfl) dX5_push_22 (fun H locs hw => ?_)
      have hw : xWd (dC, dI) A s.heap H locs ((wZ cI cZ cB cO z_ad z_p c1 ra rb (va_up rn 1 s_n) (va_up rc 1 s_count) (va_up rg 1 (va_cpy s_generators (rg 1) 0 0 3))) ++ (wS cI cZ cB cO s_ad s_p s_n s_count s_generators)) := hw.sub [0, 1, 2, 3, 10, 11, 4, 5, 6, 7, 8, 9, 12, 13] (by decide) rfl
      refine lv_aload_n hx hb dX5_push_25 rfl (lv_at hl 0 rfl) ?_
      refine lv_dup hx hb dX5_push_26 rfl ?_
      refine x_get (ci := 4) C hw inX5 rfl 0 (by decide) lkF_X5_9 rfl 0 rfl rfl dX5_push_27 ?_
      refine lv_iconst (v := (1 : Int32)) hx hb dX5_push_30 (by decide) ?_
      refine lv_iadd hx hb dX5_push_31 ?_
      refine x_put (ci := 4) C hw inX5 tyX5 tyX5_ok nmX5 rfl 0 (by decide) lkF_X5_9 rfl rfl 0 rfl rfl rfl (Nat.le_of_ble_eq_true rfl) dX5_push_32 (fun H locs hw => ?_)
      have hw : xWd (dC, dI) A s.heap H locs ((wZ cI cZ cB cO z_ad z_p (c1 + (1 : Int32)) ra rb (va_up rn 1 s_n) (va_up rc 1 s_count) (va_up rg 1 (va_cpy s_generators (rg 1) 0 0 3))) ++ (wS cI cZ cB cO s_ad s_p s_n s_count s_generators)) := hw
      exact x_retv C hQ hA hw dX5_push_35
    · refine x_aald (k := 2) C hw 1 3 rfl rfl hk1 hk2 rfl dX5_push_20 ?_
      refine lv_aload_n hx hb dX5_push_21 rfl (lv_at hl 1 rfl) ?_
      refine x_callVv (As := [.ref s_ad]) (rest := []) C hw gc_X5_25 ⟨rfl, rfl, ds_X4_copy, (by rw [hR]; exact Nat.le_of_ble_eq_true rfl), (by rw [hR]; exact Nat.le_of_ble_eq_true rfl), Nat.zero_le _, Nat.zero_le _⟩ (c_X4_copy l dC dI cI cZ cB cO (ra 2) (fun _ => rb 2) s_ad s_p (rn 2) (rc 2) (rg 2) s_n s_count s_generators (s_n, s_count, va_cpy s_generators (rg 2) 0 0 3) rfl _) [6, 7, 12, 13] [0, 1, 2, 3, 4, 5, 8, 9, 10, 11] (by decide) rfl rfl (by decide) (by decide) rfl rfl rfl hl.1 rfl (Nat.le_of_ble_eq_true rfl) dX5_push_22 (fun H locs hw => ?_)
      have hw : xWd (dC, dI) A s.heap H locs ((wZ cI cZ cB cO z_ad z_p c1 ra rb (va_up rn 2 s_n) (va_up rc 2 s_count) (va_up rg 2 (va_cpy s_generators (rg 2) 0 0 3))) ++ (wS cI cZ cB cO s_ad s_p s_n s_count s_generators)) := hw.sub [0, 1, 2, 3, 4, 5, 10, 11, 6, 7, 8, 9, 12, 13] (by decide) rfl
      refine lv_aload_n hx hb dX5_push_25 rfl (lv_at hl 0 rfl) ?_
      refine lv_dup hx hb dX5_push_26 rfl ?_
      refine x_get (ci := 4) C hw inX5 rfl 0 (by decide) lkF_X5_9 rfl 0 rfl rfl dX5_push_27 ?_
      refine lv_iconst (v := (1 : Int32)) hx hb dX5_push_30 (by decide) ?_
      refine lv_iadd hx hb dX5_push_31 ?_
      refine x_put (ci := 4) C hw inX5 tyX5 tyX5_ok nmX5 rfl 0 (by decide) lkF_X5_9 rfl rfl 0 rfl rfl rfl (Nat.le_of_ble_eq_true rfl) dX5_push_32 (fun H locs hw => ?_)
      have hw : xWd (dC, dI) A s.heap H locs ((wZ cI cZ cB cO z_ad z_p (c1 + (1 : Int32)) ra rb (va_up rn 2 s_n) (va_up rc 2 s_count) (va_up rg 2 (va_cpy s_generators (rg 2) 0 0 3))) ++ (wS cI cZ cB cO s_ad s_p s_n s_count s_generators)) := hw
      exact x_retv C hQ hA hw dX5_push_35
    · refine x_aald (k := 3) C hw 1 3 rfl rfl hk1 hk2 rfl dX5_push_20 ?_
      refine lv_aload_n hx hb dX5_push_21 rfl (lv_at hl 1 rfl) ?_
      refine x_callVv (As := [.ref s_ad]) (rest := []) C hw gc_X5_25 ⟨rfl, rfl, ds_X4_copy, (by rw [hR]; exact Nat.le_of_ble_eq_true rfl), (by rw [hR]; exact Nat.le_of_ble_eq_true rfl), Nat.zero_le _, Nat.zero_le _⟩ (c_X4_copy l dC dI cI cZ cB cO (ra 3) (fun _ => rb 3) s_ad s_p (rn 3) (rc 3) (rg 3) s_n s_count s_generators (s_n, s_count, va_cpy s_generators (rg 3) 0 0 3) rfl _) [8, 9, 12, 13] [0, 1, 2, 3, 4, 5, 6, 7, 10, 11] (by decide) rfl rfl (by decide) (by decide) rfl rfl rfl hl.1 rfl (Nat.le_of_ble_eq_true rfl) dX5_push_22 (fun H locs hw => ?_)
      have hw : xWd (dC, dI) A s.heap H locs ((wZ cI cZ cB cO z_ad z_p c1 ra rb (va_up rn 3 s_n) (va_up rc 3 s_count) (va_up rg 3 (va_cpy s_generators (rg 3) 0 0 3))) ++ (wS cI cZ cB cO s_ad s_p s_n s_count s_generators)) := hw.sub [0, 1, 2, 3, 4, 5, 6, 7, 10, 11, 8, 9, 12, 13] (by decide) rfl
      refine lv_aload_n hx hb dX5_push_25 rfl (lv_at hl 0 rfl) ?_
      refine lv_dup hx hb dX5_push_26 rfl ?_
      refine x_get (ci := 4) C hw inX5 rfl 0 (by decide) lkF_X5_9 rfl 0 rfl rfl dX5_push_27 ?_
      refine lv_iconst (v := (1 : Int32)) hx hb dX5_push_30 (by decide) ?_
      refine lv_iadd hx hb dX5_push_31 ?_
      refine x_put (ci := 4) C hw inX5 tyX5 tyX5_ok nmX5 rfl 0 (by decide) lkF_X5_9 rfl rfl 0 rfl rfl rfl (Nat.le_of_ble_eq_true rfl) dX5_push_32 (fun H locs hw => ?_)
      have hw : xWd (dC, dI) A s.heap H locs ((wZ cI cZ cB cO z_ad z_p (c1 + (1 : Int32)) ra rb (va_up rn 3 s_n) (va_up rc 3 s_count) (va_up rg 3 (va_cpy s_generators (rg 3) 0 0 3))) ++ (wS cI cZ cB cO s_ad s_p s_n s_count s_generators)) := hw
      exact x_retv C hQ hA hw dX5_push_35
    · refine x_aald (k := 4) C hw 1 3 rfl rfl hk1 hk2 rfl dX5_push_20 ?_
      refine lv_aload_n hx hb dX5_push_21 rfl (lv_at hl 1 rfl) ?_
      refine x_callVv (As := [.ref s_ad]) (rest := []) C hw gc_X5_25 ⟨rfl, rfl, ds_X4_copy, (by rw [hR]; exact Nat.le_of_ble_eq_true rfl), (by rw [hR]; exact Nat.le_of_ble_eq_true rfl), Nat.zero_le _, Nat.zero_le _⟩ (c_X4_copy l dC dI cI cZ cB cO (ra 4) (fun _ => rb 4) s_ad s_p (rn 4) (rc 4) (rg 4) s_n s_count s_generators (s_n, s_count, va_cpy s_generators (rg 4) 0 0 3) rfl _) [10, 11, 12, 13] [0, 1, 2, 3, 4, 5, 6, 7, 8, 9] (by decide) rfl rfl (by decide) (by decide) rfl rfl rfl hl.1 rfl (Nat.le_of_ble_eq_true rfl) dX5_push_22 (fun H locs hw => ?_)
      have hw : xWd (dC, dI) A s.heap H locs ((wZ cI cZ cB cO z_ad z_p c1 ra rb (va_up rn 4 s_n) (va_up rc 4 s_count) (va_up rg 4 (va_cpy s_generators (rg 4) 0 0 3))) ++ (wS cI cZ cB cO s_ad s_p s_n s_count s_generators)) := hw.sub [0, 1, 2, 3, 4, 5, 6, 7, 8, 9, 10, 11, 12, 13] (by decide) rfl
      refine lv_aload_n hx hb dX5_push_25 rfl (lv_at hl 0 rfl) ?_
      refine lv_dup hx hb dX5_push_26 rfl ?_
      refine x_get (ci := 4) C hw inX5 rfl 0 (by decide) lkF_X5_9 rfl 0 rfl rfl dX5_push_27 ?_
      refine lv_iconst (v := (1 : Int32)) hx hb dX5_push_30 (by decide) ?_
      refine lv_iadd hx hb dX5_push_31 ?_
      refine x_put (ci := 4) C hw inX5 tyX5 tyX5_ok nmX5 rfl 0 (by decide) lkF_X5_9 rfl rfl 0 rfl rfl rfl (Nat.le_of_ble_eq_true rfl) dX5_push_32 (fun H locs hw => ?_)
      have hw : xWd (dC, dI) A s.heap H locs ((wZ cI cZ cB cO z_ad z_p (c1 + (1 : Int32)) ra rb (va_up rn 4 s_n) (va_up rc 4 s_count) (va_up rg 4 (va_cpy s_generators (rg 4) 0 0 3))) ++ (wS cI cZ cB cO s_ad s_p s_n s_count s_generators)) := hw
      exact x_retv C hQ hA hw dX5_push_35
  clear h
  refine lv_aload_n hx hb dX5_push_0 rfl (lv_at hl 0 rfl) ?_
  refine x_get (ci := 4) C hw inX5 rfl 0 (by decide) lkF_X5_9 rfl 0 rfl rfl dX5_push_1 ?_
  refine lv_iconst (v := (5 : Int32)) hx hb dX5_push_4 (by decide) ?_
  refine lv_icmp_lt (tgt := 12) hx hb dX5_push_5 (by decide) (fun b1 => ?_) (fun b1 => ?_)
  · obtain rfl := Option.some.inj (xb_tt b1 hj)
    exact k _ _ hw
  · obtain rfl := Option.some.inj (xb_ff b1 hj)
    refine lv_aload_n hx hb dX5_push_8 rfl (lv_at hl 0 rfl) ?_
    refine x_callVv (As := []) (rest := []) C hw gc_X5_22 ⟨rfl, rfl, ds_X5_loseOldest, (by rw [hR]; exact Nat.le_of_ble_eq_true rfl), (by rw [hR]; exact Nat.le_of_ble_eq_true rfl), Nat.zero_le _, Nat.zero_le _⟩ (c_X5_loseOldest l dC dI cI cZ cB cO z_ad z_p z_count z_ra z_rb z_rn z_rc z_rg _) [0, 1, 2, 3, 4, 5, 6, 7, 8, 9, 10, 11] [12, 13] (by decide) rfl rfl (by decide) (by decide) rfl rfl rfl hl.1 rfl (Nat.le_of_ble_eq_true rfl) dX5_push_9 (fun H locs hw => ?_)
    have hw : xWd (dC, dI) A s.heap H locs ((wZ cI cZ cB cO z_ad z_p (4 : Int32) (xrot z_ra) (xrot z_rb) (xrot z_rn) (xrot z_rc) (xrot z_rg)) ++ (wS cI cZ cB cO s_ad s_p s_n s_count s_generators)) := hw.sub [2, 3, 4, 5, 6, 7, 8, 9, 10, 11, 12, 13, 0, 1] (by decide) rfl
    exact k _ _ hw
noncomputable def f_X5_pop (z_count : Int32) (z_ra z_rb : Nat → Nat) (z_rn z_rc : Nat → Int32) (z_rg : Nat → Nat → Int32) (s_n : Int32) (s_count : Int32) (s_generators : Nat → Int32) : Option (Int32 × Int32 × Int32 × (Nat → Int32)) :=
  xb (z_count ≤ 0) (some (z_count, s_n, s_count, s_generators)) (xn (xi 5 (z_count - (1 : Int32))) (fun (k : Nat) => some (z_count - (1 : Int32), z_rn k, z_rc k, va_cpy (z_rg k) s_generators 0 0 3)))
set_option maxHeartbeats 4000000 in
set_option maxRecDepth 100000 in
theorem c_X5_pop (l : Launch) (dC : Nat → ClassId) (dI : Nat → Nat → Nat) (cI cZ cB cO : ClassId) (z_ad : Nat) (z_p : Nat → Nat) (s_ad : Nat) (s_p : Nat → Nat) (z_count : Int32) (z_ra z_rb : Nat → Nat) (z_rn z_rc : Nat → Int32) (z_rg : Nat → Nat → Int32) (s_n : Int32) (s_count : Int32) (s_generators : Nat → Int32) (o : Int32 × Int32 × Int32 × (Nat → Int32)) (h : f_X5_pop z_count z_ra z_rb z_rn z_rc z_rg s_n s_count s_generators = some o) (sz : Nat) : Met l yX5_pop (xW yX5_pop cX5_pop 2 none) { frames := 2, cells := 0, slots := 0, locals := 61 } (xPre dC dI (xT cI cZ cB cO) [.ref z_ad, .ref s_ad] ((wZ cI cZ cB cO z_ad z_p z_count z_ra z_rb z_rn z_rc z_rg) ++ (wS cI cZ cB cO s_ad s_p s_n s_count s_generators)) sz) (xQv dC dI (xT cI cZ cB cO) ((wZ cI cZ cB cO z_ad z_p z_count z_ra z_rb z_rn z_rc z_rg) ++ (wS cI cZ cB cO s_ad s_p s_n s_count s_generators)) ((wZ cI cZ cB cO z_ad z_p o.1 z_ra z_rb z_rn z_rc z_rg) ++ (wS cI cZ cB cO s_ad s_p o.2.1 o.2.2.1 o.2.2.2)) sz) 0 0 (va_A ((wZ cI cZ cB cO z_ad z_p z_count z_ra z_rb z_rn z_rc z_rg) ++ (wS cI cZ cB cO s_ad s_p s_n s_count s_generators)) sz) := by
  refine x_met (by decide) (Nat.le_of_ble_eq_true rfl) ?_
  intro p e s m args below meth c R Q A hR hsz hA hQ hin C hw ls hl
  have hx := C.1
  have hb := C.2.1
  have hl : lv_has ls 2 [(0, .ref z_ad), (1, .ref s_ad)] := hl
  refine lv_aload_n hx hb dX5_pop_0 rfl (lv_at hl 0 rfl) ?_
  refine x_get (ci := 4) C hw inX5 rfl 0 (by decide) lkF_X5_9 rfl 0 rfl rfl dX5_pop_1 ?_
  refine lv_if_le (tgt := 30) hx hb dX5_pop_4 (by decide) (fun b1 => ?_) (fun b1 => ?_)
  · obtain rfl := Option.some.inj (xb_tt b1 h)
    exact x_retv C hQ hA hw dX5_pop_30
  · replace h := xb_ff b1 h
    obtain ⟨k, hk, h⟩ := xn_i h
    obtain ⟨hk1, hk2, hk3⟩ := xi_i hk
    obtain rfl := Option.some.inj h
    refine lv_aload_n hx hb dX5_pop_7 rfl (lv_at hl 0 rfl) ?_
    refine lv_dup hx hb dX5_pop_8 rfl ?_
    refine x_get (ci := 4) C hw inX5 rfl 0 (by decide) lkF_X5_9 rfl 0 rfl rfl dX5_pop_9 ?_
    refine lv_iconst (v := (1 : Int32)) hx hb dX5_pop_12 (by decide) ?_
    refine lv_isub hx hb dX5_pop_13 ?_
    refine x_put (ci := 4) C hw inX5 tyX5 tyX5_ok nmX5 rfl 0 (by decide) lkF_X5_9 rfl rfl 0 rfl rfl rfl (Nat.le_of_ble_eq_true rfl) dX5_pop_14 (fun H locs hw => ?_)
    have hw : xWd (dC, dI) A s.heap H locs ((wZ cI cZ cB cO z_ad z_p (z_count - (1 : Int32)) z_ra z_rb z_rn z_rc z_rg) ++ (wS cI cZ cB cO s_ad s_p s_n s_count s_generators)) := hw
    refine lv_aload_n hx hb dX5_pop_17 rfl (lv_at hl 1 rfl) ?_
    refine lv_aload_n hx hb dX5_pop_18 rfl (lv_at hl 0 rfl) ?_
    refine x_get (ci := 4) C hw inX5 rfl 1 (by decide) lkF_X5_17 rfl 0 rfl rfl dX5_pop_19 ?_
    refine lv_aload_n hx hb dX5_pop_22 rfl (lv_at hl 0 rfl) ?_
    refine x_get (ci := 4) C hw inX5 rfl 0 (by decide) lkF_X5_9 rfl 0 rfl rfl dX5_pop_23 ?_
    rcases (show k = 0 ∨ k = 1 ∨ k = 2 ∨ k = 3 ∨ k = 4 by omega) with rfl | rfl | rfl | rfl | rfl
    · refine x_aald (k := 0) C hw 1 3 rfl rfl hk1 hk2 rfl dX5_pop_26 ?_
      refine x_callVv (As := [.ref (z_ra 0)]) (rest := []) C hw gc_X5_25 ⟨rfl, rfl, ds_X4_copy, (by rw [hR]; exact Nat.le_of_ble_eq_true rfl), (by rw [hR]; exact Nat.le_of_ble_eq_true rfl), Nat.zero_le _, Nat.zero_le _⟩ (c_X4_copy l dC dI cI cZ cB cO s_ad s_p (z_ra 0) (fun _ => z_rb 0) s_n s_count s_generators (z_rn 0) (z_rc 0) (z_rg 0) (z_rn 0, z_rc 0, va_cpy (z_rg 0) s_generators 0 0 3) rfl _) [12, 13, 2, 3] [0, 1, 4, 5, 6, 7, 8, 9, 10, 11] (by decide) rfl rfl (by decide) (by decide) rfl rfl rfl hl.1 rfl (Nat.le_of_ble_eq_true rfl) dX5_pop_27 (fun H locs hw => ?_)
      have hw : xWd (dC, dI) A s.heap H locs ((wZ cI cZ cB cO z_ad z_p (z_count - (1 : Int32)) z_ra z_rb z_rn z_rc z_rg) ++ (wS cI cZ cB cO s_ad s_p (z_rn 0) (z_rc 0) (va_cpy (z_rg 0) s_generators 0 0 3))) := hw.sub [0, 1, 12, 13, 2, 3, 4, 5, 6, 7, 8, 9, 10, 11] (by decide) rfl
      exact x_retv C hQ hA hw dX5_pop_30
    · refine x_aald (k := 1) C hw 1 3 rfl rfl hk1 hk2 rfl dX5_pop_26 ?_
      refine x_callVv (As := [.ref (z_ra 1)]) (rest := []) C hw gc_X5_25 ⟨rfl, rfl, ds_X4_copy, (by rw [hR]; exact Nat.le_of_ble_eq_true rfl), (by rw [hR]; exact Nat.le_of_ble_eq_true rfl), Nat.zero_le _, Nat.zero_le _⟩ (c_X4_copy l dC dI cI cZ cB cO s_ad s_p (z_ra 1) (fun _ => z_rb 1) s_n s_count s_generators (z_rn 1) (z_rc 1) (z_rg 1) (z_rn 1, z_rc 1, va_cpy (z_rg 1) s_generators 0 0 3) rfl _) [12, 13, 4, 5] [0, 1, 2, 3, 6, 7, 8, 9, 10, 11] (by decide) rfl rfl (by decide) (by decide) rfl rfl rfl hl.1 rfl (Nat.le_of_ble_eq_true rfl) dX5_pop_27 (fun H locs hw => ?_)
      have hw : xWd (dC, dI) A s.heap H locs ((wZ cI cZ cB cO z_ad z_p (z_count - (1 : Int32)) z_ra z_rb z_rn z_rc z_rg) ++ (wS cI cZ cB cO s_ad s_p (z_rn 1) (z_rc 1) (va_cpy (z_rg 1) s_generators 0 0 3))) := hw.sub [0, 1, 2, 3, 12, 13, 4, 5, 6, 7, 8, 9, 10, 11] (by decide) rfl
      exact x_retv C hQ hA hw dX5_pop_30
    · refine x_aald (k := 2) C hw 1 3 rfl rfl hk1 hk2 rfl dX5_pop_26 ?_
      refine x_callVv (As := [.ref (z_ra 2)]) (rest := []) C hw gc_X5_25 ⟨rfl, rfl, ds_X4_copy, (by rw [hR]; exact Nat.le_of_ble_eq_true rfl), (by rw [hR]; exact Nat.le_of_ble_eq_true rfl), Nat.zero_le _, Nat.zero_le _⟩ (c_X4_copy l dC dI cI cZ cB cO s_ad s_p (z_ra 2) (fun _ => z_rb 2) s_n s_count s_generators (z_rn 2) (z_rc 2) (z_rg 2) (z_rn 2, z_rc 2, va_cpy (z_rg 2) s_generators 0 0 3) rfl _) [12, 13, 6, 7] [0, 1, 2, 3, 4, 5, 8, 9, 10, 11] (by decide) rfl rfl (by decide) (by decide) rfl rfl rfl hl.1 rfl (Nat.le_of_ble_eq_true rfl) dX5_pop_27 (fun H locs hw => ?_)
      have hw : xWd (dC, dI) A s.heap H locs ((wZ cI cZ cB cO z_ad z_p (z_count - (1 : Int32)) z_ra z_rb z_rn z_rc z_rg) ++ (wS cI cZ cB cO s_ad s_p (z_rn 2) (z_rc 2) (va_cpy (z_rg 2) s_generators 0 0 3))) := hw.sub [0, 1, 2, 3, 4, 5, 12, 13, 6, 7, 8, 9, 10, 11] (by decide) rfl
      exact x_retv C hQ hA hw dX5_pop_30
    · refine x_aald (k := 3) C hw 1 3 rfl rfl hk1 hk2 rfl dX5_pop_26 ?_
      refine x_callVv (As := [.ref (z_ra 3)]) (rest := []) C hw gc_X5_25 ⟨rfl, rfl, ds_X4_copy, (by rw [hR]; exact Nat.le_of_ble_eq_true rfl), (by rw [hR]; exact Nat.le_of_ble_eq_true rfl), Nat.zero_le _, Nat.zero_le _⟩ (c_X4_copy l dC dI cI cZ cB cO s_ad s_p (z_ra 3) (fun _ => z_rb 3) s_n s_count s_generators (z_rn 3) (z_rc 3) (z_rg 3) (z_rn 3, z_rc 3, va_cpy (z_rg 3) s_generators 0 0 3) rfl _) [12, 13, 8, 9] [0, 1, 2, 3, 4, 5, 6, 7, 10, 11] (by decide) rfl rfl (by decide) (by decide) rfl rfl rfl hl.1 rfl (Nat.le_of_ble_eq_true rfl) dX5_pop_27 (fun H locs hw => ?_)
      have hw : xWd (dC, dI) A s.heap H locs ((wZ cI cZ cB cO z_ad z_p (z_count - (1 : Int32)) z_ra z_rb z_rn z_rc z_rg) ++ (wS cI cZ cB cO s_ad s_p (z_rn 3) (z_rc 3) (va_cpy (z_rg 3) s_generators 0 0 3))) := hw.sub [0, 1, 2, 3, 4, 5, 6, 7, 12, 13, 8, 9, 10, 11] (by decide) rfl
      exact x_retv C hQ hA hw dX5_pop_30
    · refine x_aald (k := 4) C hw 1 3 rfl rfl hk1 hk2 rfl dX5_pop_26 ?_
      refine x_callVv (As := [.ref (z_ra 4)]) (rest := []) C hw gc_X5_25 ⟨rfl, rfl, ds_X4_copy, (by rw [hR]; exact Nat.le_of_ble_eq_true rfl), (by rw [hR]; exact Nat.le_of_ble_eq_true rfl), Nat.zero_le _, Nat.zero_le _⟩ (c_X4_copy l dC dI cI cZ cB cO s_ad s_p (z_ra 4) (fun _ => z_rb 4) s_n s_count s_generators (z_rn 4) (z_rc 4) (z_rg 4) (z_rn 4, z_rc 4, va_cpy (z_rg 4) s_generators 0 0 3) rfl _) [12, 13, 10, 11] [0, 1, 2, 3, 4, 5, 6, 7, 8, 9] (by decide) rfl rfl (by decide) (by decide) rfl rfl rfl hl.1 rfl (Nat.le_of_ble_eq_true rfl) dX5_pop_27 (fun H locs hw => ?_)
      have hw : xWd (dC, dI) A s.heap H locs ((wZ cI cZ cB cO z_ad z_p (z_count - (1 : Int32)) z_ra z_rb z_rn z_rc z_rg) ++ (wS cI cZ cB cO s_ad s_p (z_rn 4) (z_rc 4) (va_cpy (z_rg 4) s_generators 0 0 3))) := hw.sub [0, 1, 2, 3, 4, 5, 6, 7, 8, 9, 12, 13, 10, 11] (by decide) rfl
      exact x_retv C hQ hA hw dX5_pop_30

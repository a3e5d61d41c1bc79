theorem dX4_init_0 : decode cX4_init 0 = .ok (.aload_n 0, 1) := by decide +kernel
theorem dX4_init_1 : decode cX4_init 1 = .ok (.invokespecial 3, 3) := by decide +kernel
theorem dX4_init_4 : decode cX4_init 4 = .ok (.aload_n 0, 1) := by decide +kernel
theorem dX4_init_5 : decode cX4_init 5 = .ok (.iconst 5, 1) := by decide +kernel
theorem dX4_init_6 : decode cX4_init 6 = .ok (.putfield 9, 3) := by decide +kernel
theorem dX4_init_9 : decode cX4_init 9 = .ok (.aload_n 0, 1) := by decide +kernel
theorem dX4_init_10 : decode cX4_init 10 = .ok (.iconst 0, 1) := by decide +kernel
theorem dX4_init_11 : decode cX4_init 11 = .ok (.putfield 15, 3) := by decide +kernel
theorem dX4_init_14 : decode cX4_init 14 = .ok (.aload_n 0, 1) := by decide +kernel
theorem dX4_init_15 : decode cX4_init 15 = .ok (.iconst 3, 1) := by decide +kernel
theorem dX4_init_16 : decode cX4_init 16 = .ok (.newarray .int, 2) := by decide +kernel
theorem dX4_init_18 : decode cX4_init 18 = .ok (.putfield 18, 3) := by decide +kernel
theorem dX4_init_21 : decode cX4_init 21 = .ok (.return_, 1) := by decide +kernel
theorem ds_X4_init : xDs yX4_init 0 := by decide +kernel
set_option maxHeartbeats 4000000 in
set_option maxRecDepth 100000 in
theorem c_X4_init (l : Launch) (dC : Nat → ClassId) (dI : Nat → Nat → Nat) (cI cZ cB cO : ClassId) (s_ad : Nat) (sz : Nat) : Met l yX4_init (xW yX4_init cX4_init 1 none) { frames := 1, cells := 1, slots := 3, locals := 12 } (xPreI dC dI (xT cI cZ cB cO) [.ref s_ad] [(s_ad, .inr (3, [.int 0, .int 0, .null]))] sz) (xQI dC dI (xT cI cZ cB cO) [(s_ad, .inr (3, [.int 0, .int 0, .null]))] (fun (u : (Nat → Nat)) => (wS cI cZ cB cO s_ad u (5 : Int32) (0 : Int32) (fun _ => 0))) sz) 1 3 (va_A [(s_ad, .inr (3, [.int 0, .int 0, .null]))] sz) := by
  refine x_metI (by decide) (Nat.le_of_ble_eq_true rfl) ?_
  intro p e s m args below meth c R Q A hR hsz hA hQ hmn hZ C hw ls hl
  have hx := C.1
  have hb := C.2.1
  have hown := C.2.2.2.1
  have htb := C.2.2.2.2.1
  have hl : lv_has ls 1 [(0, .ref s_ad)] := hl
  refine lv_aload_n hx hb dX4_init_0 rfl (lv_at hl 0 rfl) ?_
  refine x_obj C lkM_X4_3 hl.1 (by rw [hR]; exact Nat.le_of_ble_eq_true rfl) (by rw [hR]; exact Nat.le_of_ble_eq_true rfl) dX4_init_1 ?_
  refine lv_aload_n hx hb dX4_init_4 rfl (lv_at hl 0 rfl) ?_
  refine lv_iconst (v := (5 : Int32)) hx hb dX4_init_5 (by decide) ?_
  refine x_put (ci := 3) C hw inX4 tyX4 tyX4_ok nmX4 rfl 0 (by decide) lkF_X4_9 rfl rfl 0 rfl rfl rfl (Nat.le_of_ble_eq_true rfl) dX4_init_6 (fun H locs hw => ?_)
  have hw : xWd (dC, dI) A s.heap H _ [(s_ad, .inr (3, [.int (5 : Int32), .int 0, .null]))] := hw
  refine lv_aload_n hx hb dX4_init_9 rfl (lv_at hl 0 rfl) ?_
  refine lv_iconst (v := (0 : Int32)) hx hb dX4_init_10 (by decide) ?_
  refine x_put (ci := 3) C hw inX4 tyX4 tyX4_ok nmX4 rfl 1 (by decide) lkF_X4_15 rfl rfl 0 rfl rfl rfl (Nat.le_of_ble_eq_true rfl) dX4_init_11 (fun H locs hw => ?_)
  have hw : xWd (dC, dI) A s.heap H _ [(s_ad, .inr (3, [.int (5 : Int32), .int (0 : Int32), .null]))] := hw
  refine lv_aload_n hx hb dX4_init_14 rfl (lv_at hl 0 rfl) ?_
  refine lv_iconst (v := (3 : Int32)) hx hb dX4_init_15 (by decide) ?_
  refine x_newa (atype := .int) C hw wAC_int rfl 0 rfl (fun _ => rfl) rfl (N := 3) (by decide) (by decide) (Nat.le_of_ble_eq_true rfl) (by rw [hR]; exact Nat.le_of_ble_eq_true rfl) (by rw [hR]; exact Nat.le_of_ble_eq_true rfl) dX4_init_16 (fun q1 H hw => ?_)
  have hw : xWd (dC, dI) A s.heap H _ [(s_ad, .inr (3, [.int (5 : Int32), .int (0 : Int32), .null])), (q1, .inl (cI, 3, .inl (fun _ => 0)))] := hw
  refine W.widen (k := 1) (n := 3) (Nat.le_of_ble_eq_true rfl) (Nat.le_of_ble_eq_true rfl) ?_
  refine x_putF (ci := 3) C hw inX4 tyX4 tyX4_ok nmX4 rfl 2 (by decide) lkF_X4_18 rfl rfl hmn 0 rfl rfl rfl (Nat.le_of_ble_eq_true rfl) dX4_init_18 (fun H locs hw => ?_)
  have hw : xWd (dC, dI) A s.heap H _ [(s_ad, .inr (3, [.int (5 : Int32), .int (0 : Int32), .ref q1])), (q1, .inl (cI, 3, .inl (fun _ => 0)))] := hw
  have hw : xWd (dC, dI) A s.heap H _ ((fun (u : (Nat → Nat)) => (wS cI cZ cB cO s_ad u (5 : Int32) (0 : Int32) (fun _ => 0))) (fun k => if k = 2 then q1 else 0)) := hw.sub [0, 1] (by decide) rfl
  exact x_retI (fun k => if k = 2 then q1 else 0) C hQ hA hw dX4_init_21
theorem dX6_init_0 : decode cX6_init 0 = .ok (.aload_n 0, 1) := by decide +kernel
theorem dX6_init_1 : decode cX6_init 1 = .ok (.invokespecial 3, 3) := by decide +kernel
theorem dX6_init_4 : decode cX6_init 4 = .ok (.aload_n 0, 1) := by decide +kernel
theorem dX6_init_5 : decode cX6_init 5 = .ok (.iconst 0, 1) := by decide +kernel
theorem dX6_init_6 : decode cX6_init 6 = .ok (.putfield 9, 3) := by decide +kernel
theorem dX6_init_9 : decode cX6_init 9 = .ok (.aload_n 0, 1) := by decide +kernel
theorem dX6_init_10 : decode cX6_init 10 = .ok (.bipush 80, 2) := by decide +kernel
theorem dX6_init_12 : decode cX6_init 12 = .ok (.newarray .byte, 2) := by decide +kernel
theorem dX6_init_14 : decode cX6_init 14 = .ok (.putfield 15, 3) := by decide +kernel
theorem dX6_init_17 : decode cX6_init 17 = .ok (.return_, 1) := by decide +kernel
theorem ds_X6_init : xDs yX6_init 0 := by decide +kernel
set_option maxHeartbeats 4000000 in
set_option maxRecDepth 100000 in
theorem c_X6_init (l : Launch) (dC : Nat → ClassId) (dI : Nat → Nat → Nat) (cI cZ cB cO : ClassId) (t_ad : Nat) (sz : Nat) : Met l yX6_init (xW yX6_init cX6_init 1 none) { frames := 1, cells := 1, slots := 80, locals := 12 } (xPreI dC dI (xT cI cZ cB cO) [.ref t_ad] [(t_ad, .inr (5, [.int 0, .null]))] sz) (xQI dC dI (xT cI cZ cB cO) [(t_ad, .inr (5, [.int 0, .null]))] (fun (u : (Nat → Nat)) => (wT cI cZ cB cO t_ad u (0 : Int32) (fun _ => 0))) sz) 1 80 (va_A [(t_ad, .inr (5, [.int 0, .null]))] sz) := by
  refine x_metI (by decide) (Nat.le_of_ble_eq_true rfl) ?_
  intro p e s m args below meth c R Q A hR hsz hA hQ hmn hZ C hw ls hl
  have hx := C.1
  have hb := C.2.1
  have hown := C.2.2.2.1
  have htb := C.2.2.2.2.1
  have hl : lv_has ls 1 [(0, .ref t_ad)] := hl
  refine lv_aload_n hx hb dX6_init_0 rfl (lv_at hl 0 rfl) ?_
  refine x_obj C lkM_X6_3 hl.1 (by rw [hR]; exact Nat.le_of_ble_eq_true rfl) (by rw [hR]; exact Nat.le_of_ble_eq_true rfl) dX6_init_1 ?_
  refine lv_aload_n hx hb dX6_init_4 rfl (lv_at hl 0 rfl) ?_
  refine lv_iconst (v := (0 : Int32)) hx hb dX6_init_5 (by decide) ?_
  refine x_put (ci := 5) C hw inX6 tyX6 tyX6_ok nmX6 rfl 0 (by decide) lkF_X6_9 rfl rfl 0 rfl rfl rfl (Nat.le_of_ble_eq_true rfl) dX6_init_6 (fun H locs hw => ?_)
  have hw : xWd (dC, dI) A s.heap H _ [(t_ad, .inr (5, [.int (0 : Int32), .null]))] := hw
  refine lv_aload_n hx hb dX6_init_9 rfl (lv_at hl 0 rfl) ?_
  refine lv_bipush (v := (80 : Int32)) hx hb dX6_init_10 (by decide) ?_
  refine x_newa (atype := .byte) C hw wAC_byte rfl 2 rfl (fun _ => rfl) rfl (N := 80) (by decide) (by decide) (Nat.le_of_ble_eq_true rfl) (by rw [hR]; exact Nat.le_of_ble_eq_true rfl) (by rw [hR]; exact Nat.le_of_ble_eq_true rfl) dX6_init_12 (fun q1 H hw => ?_)
  have hw : xWd (dC, dI) A s.heap H _ [(t_ad, .inr (5, [.int (0 : Int32), .null])), (q1, .inl (cB, 80, .inl (fun _ => 0)))] := hw
  refine W.widen (k := 1) (n := 80) (Nat.le_of_ble_eq_true rfl) (Nat.le_of_ble_eq_true rfl) ?_
  refine x_putF (ci := 5) C hw inX6 tyX6 tyX6_ok nmX6 rfl 1 (by decide) lkF_X6_15 rfl rfl hmn 0 rfl rfl rfl (Nat.le_of_ble_eq_true rfl) dX6_init_14 (fun H locs hw => ?_)
  have hw : xWd (dC, dI) A s.heap H _ [(t_ad, .inr (5, [.int (0 : Int32), .ref q1])), (q1, .inl (cB, 80, .inl (fun _ => 0)))] := hw
  have hw : xWd (dC, dI) A s.heap H _ ((fun (u : (Nat → Nat)) => (wT cI cZ cB cO t_ad u (0 : Int32) (fun _ => 0))) (fun k => if k = 1 then q1 else 0)) := hw.sub [0, 1] (by decide) rfl
  exact x_retI (fun k => if k = 1 then q1 else 0) C hQ hA hw dX6_init_17
theorem dX1_init_0 : decode cX1_init 0 = .ok (.aload_n 0, 1) := by decide +kernel
theorem dX1_init_1 : decode cX1_init 1 = .ok (.invokespecial 3, 3) := by decide +kernel
theorem dX1_init_4 : decode cX1_init 4 = .ok (.aload_n 0, 1) := by decide +kernel
theorem dX1_init_5 : decode cX1_init 5 = .ok (.iconst 0, 1) := by decide +kernel
theorem dX1_init_6 : decode cX1_init 6 = .ok (.putfield 9, 3) := by decide +kernel
theorem dX1_init_9 : decode cX1_init 9 = .ok (.aload_n 0, 1) := by decide +kernel
theorem dX1_init_10 : decode cX1_init 10 = .ok (.bipush 64, 2) := by decide +kernel
theorem dX1_init_12 : decode cX1_init 12 = .ok (.newarray .int, 2) := by decide +kernel
theorem dX1_init_14 : decode cX1_init 14 = .ok (.putfield 15, 3) := by decide +kernel
theorem dX1_init_17 : decode cX1_init 17 = .ok (.aload_n 0, 1) := by decide +kernel
theorem dX1_init_18 : decode cX1_init 18 = .ok (.bipush 64, 2) := by decide +kernel
theorem dX1_init_20 : decode cX1_init 20 = .ok (.newarray .int, 2) := by decide +kernel
theorem dX1_init_22 : decode cX1_init 22 = .ok (.putfield 19, 3) := by decide +kernel
theorem dX1_init_25 : decode cX1_init 25 = .ok (.aload_n 0, 1) := by decide +kernel
theorem dX1_init_26 : decode cX1_init 26 = .ok (.bipush 8, 2) := by decide +kernel
theorem dX1_init_28 : decode cX1_init 28 = .ok (.newarray .int, 2) := by decide +kernel
theorem dX1_init_30 : decode cX1_init 30 = .ok (.putfield 22, 3) := by decide +kernel
theorem dX1_init_33 : decode cX1_init 33 = .ok (.aload_n 0, 1) := by decide +kernel
theorem dX1_init_34 : decode cX1_init 34 = .ok (.bipush 9, 2) := by decide +kernel
theorem dX1_init_36 : decode cX1_init 36 = .ok (.newarray .int, 2) := by decide +kernel
theorem dX1_init_38 : decode cX1_init 38 = .ok (.putfield 25, 3) := by decide +kernel
theorem dX1_init_41 : decode cX1_init 41 = .ok (.aload_n 0, 1) := by decide +kernel
theorem dX1_init_42 : decode cX1_init 42 = .ok (.bipush 28, 2) := by decide +kernel
theorem dX1_init_44 : decode cX1_init 44 = .ok (.newarray .int, 2) := by decide +kernel
theorem dX1_init_46 : decode cX1_init 46 = .ok (.putfield 28, 3) := by decide +kernel
theorem dX1_init_49 : decode cX1_init 49 = .ok (.aload_n 0, 1) := by decide +kernel
theorem dX1_init_50 : decode cX1_init 50 = .ok (.bipush 28, 2) := by decide +kernel
theorem dX1_init_52 : decode cX1_init 52 = .ok (.newarray .int, 2) := by decide +kernel
theorem dX1_init_54 : decode cX1_init 54 = .ok (.putfield 31, 3) := by decide +kernel
theorem dX1_init_57 : decode cX1_init 57 = .ok (.aload_n 0, 1) := by decide +kernel
theorem dX1_init_58 : decode cX1_init 58 = .ok (.iconst 0, 1) := by decide +kernel
theorem dX1_init_59 : decode cX1_init 59 = .ok (.putfield 34, 3) := by decide +kernel
theorem dX1_init_62 : decode cX1_init 62 = .ok (.return_, 1) := by decide +kernel
theorem ds_X1_init : xDs yX1_init 0 := by decide +kernel
set_option maxHeartbeats 4000000 in
set_option maxRecDepth 100000 in
theorem c_X1_init (l : Launch) (dC : Nat → ClassId) (dI : Nat → Nat → Nat) (cI cZ cB cO : ClassId) (e_ad : Nat) (sz : Nat) : Met l yX1_init (xW yX1_init cX1_init 1 none) { frames := 1, cells := 6, slots := 201, locals := 12 } (xPreI dC dI (xT cI cZ cB cO) [.ref e_ad] [(e_ad, .inr (1, [.int 0, .null, .null, .null, .null, .null, .null, .int 0]))] sz) (xQI dC dI (xT cI cZ cB cO) [(e_ad, .inr (1, [.int 0, .null, .null, .null, .null, .null, .null, .int 0]))] (fun (u : (Nat → Nat)) => (wE cI cZ cB cO e_ad u (0 : Int32) (fun _ => 0) (fun _ => 0) (fun _ => 0) (fun _ => 0) (fun _ => 0) (fun _ => 0) (0 : Int32))) sz) 6 201 (va_A [(e_ad, .inr (1, [.int 0, .null, .null, .null, .null, .null, .null, .int 0]))] sz) := by
  refine x_metI (by decide) (Nat.le_of_ble_eq_true rfl) ?_
  intro p e s m args below meth c R Q A hR hsz hA hQ hmn hZ C hw ls hl
  have hx := C.1
  have hb := C.2.1
  have hown := C.2.2.2.1
  have htb := C.2.2.2.2.1
  have hl : lv_has ls 1 [(0, .ref e_ad)] := hl
  refine lv_aload_n hx hb dX1_init_0 rfl (lv_at hl 0 rfl) ?_
  refine x_obj C lkM_X1_3 hl.1 (by rw [hR]; exact Nat.le_of_ble_eq_true rfl) (by rw [hR]; exact Nat.le_of_ble_eq_true rfl) dX1_init_1 ?_
  refine lv_aload_n hx hb dX1_init_4 rfl (lv_at hl 0 rfl) ?_
  refine lv_iconst (v := (0 : Int32)) hx hb dX1_init_5 (by decide) ?_
  refine x_put (ci := 1) C hw inX1 tyX1 tyX1_ok nmX1 rfl 0 (by decide) lkF_X1_9 rfl rfl 0 rfl rfl rfl (Nat.le_of_ble_eq_true rfl) dX1_init_6 (fun H locs hw => ?_)
  have hw : xWd (dC, dI) A s.heap H _ [(e_ad, .inr (1, [.int (0 : Int32), .null, .null, .null, .null, .null, .null, .int 0]))] := hw
  refine lv_aload_n hx hb dX1_init_9 rfl (lv_at hl 0 rfl) ?_
  refine lv_bipush (v := (64 : Int32)) hx hb dX1_init_10 (by decide) ?_
  refine x_newa (atype := .int) C hw wAC_int rfl 0 rfl (fun _ => rfl) rfl (N := 64) (by decide) (by decide) (Nat.le_of_ble_eq_true rfl) (by rw [hR]; exact Nat.le_of_ble_eq_true rfl) (by rw [hR]; exact Nat.le_of_ble_eq_true rfl) dX1_init_12 (fun q1 H hw => ?_)
  have hw : xWd (dC, dI) A s.heap H _ [(e_ad, .inr (1, [.int (0 : Int32), .null, .null, .null, .null, .null, .null, .int 0])), (q1, .inl (cI, 64, .inl (fun _ => 0)))] := hw
  refine W.widen (k := 1) (n := 64) (Nat.le_of_ble_eq_true rfl) (Nat.le_of_ble_eq_true rfl) ?_
  refine x_putF (ci := 1) C hw inX1 tyX1 tyX1_ok nmX1 rfl 1 (by decide) lkF_X1_15 rfl rfl hmn 0 rfl rfl rfl (Nat.le_of_ble_eq_true rfl) dX1_init_14 (fun H locs hw => ?_)
  have hw : xWd (dC, dI) A s.heap H _ [(e_ad, .inr (1, [.int (0 : Int32), .ref q1, .null, .null, .null, .null, .null, .int 0])), (q1, .inl (cI, 64, .inl (fun _ => 0)))] := hw
  refine lv_aload_n hx hb dX1_init_17 rfl (lv_at hl 0 rfl) ?_
  refine lv_bipush (v := (64 : Int32)) hx hb dX1_init_18 (by decide) ?_
  refine x_newa (atype := .int) C hw wAC_int rfl 0 rfl (fun _ => rfl) rfl (N := 64) (by decide) (by decide) (Nat.le_of_ble_eq_true rfl) (by rw [hR]; exact Nat.le_of_ble_eq_true rfl) (by rw [hR]; exact Nat.le_of_ble_eq_true rfl) dX1_init_20 (fun q2 H hw => ?_)
  have hw : xWd (dC, dI) A s.heap H _ [(e_ad, .inr (1, [.int (0 : Int32), .ref q1, .null, .null, .null, .null, .null, .int 0])), (q1, .inl (cI, 64, .inl (fun _ => 0))), (q2, .inl (cI, 64, .inl (fun _ => 0)))] := hw
  refine W.widen (k := 2) (n := 128) (Nat.le_of_ble_eq_true rfl) (Nat.le_of_ble_eq_true rfl) ?_
  refine x_putF (ci := 1) C hw inX1 tyX1 tyX1_ok nmX1 rfl 2 (by decide) lkF_X1_19 rfl rfl hmn 0 rfl rfl rfl (Nat.le_of_ble_eq_true rfl) dX1_init_22 (fun H locs hw => ?_)
  have hw : xWd (dC, dI) A s.heap H _ [(e_ad, .inr (1, [.int (0 : Int32), .ref q1, .ref q2, .null, .null, .null, .null, .int 0])), (q1, .inl (cI, 64, .inl (fun _ => 0))), (q2, .inl (cI, 64, .inl (fun _ => 0)))] := hw
  refine lv_aload_n hx hb dX1_init_25 rfl (lv_at hl 0 rfl) ?_
  refine lv_bipush (v := (8 : Int32)) hx hb dX1_init_26 (by decide) ?_
  refine x_newa (atype := .int) C hw wAC_int rfl 0 rfl (fun _ => rfl) rfl (N := 8) (by decide) (by decide) (Nat.le_of_ble_eq_true rfl) (by rw [hR]; exact Nat.le_of_ble_eq_true rfl) (by rw [hR]; exact Nat.le_of_ble_eq_true rfl) dX1_init_28 (fun q3 H hw => ?_)
  have hw : xWd (dC, dI) A s.heap H _ [(e_ad, .inr (1, [.int (0 : Int32), .ref q1, .ref q2, .null, .null, .null, .null, .int 0])), (q1, .inl (cI, 64, .inl (fun _ => 0))), (q2, .inl (cI, 64, .inl (fun _ => 0))), (q3, .inl (cI, 8, .inl (fun _ => 0)))] := hw
  refine W.widen (k := 3) (n := 136) (Nat.le_of_ble_eq_true rfl) (Nat.le_of_ble_eq_true rfl) ?_
  refine x_putF (ci := 1) C hw inX1 tyX1 tyX1_ok nmX1 rfl 3 (by decide) lkF_X1_22 rfl rfl hmn 0 rfl rfl rfl (Nat.le_of_ble_eq_true rfl) dX1_init_30 (fun H locs hw => ?_)
  have hw : xWd (dC, dI) A s.heap H _ [(e_ad, .inr (1, [.int (0 : Int32), .ref q1, .ref q2, .ref q3, .null, .null, .null, .int 0])), (q1, .inl (cI, 64, .inl (fun _ => 0))), (q2, .inl (cI, 64, .inl (fun _ => 0))), (q3, .inl (cI, 8, .inl (fun _ => 0)))] := hw
  refine lv_aload_n hx hb dX1_init_33 rfl (lv_at hl 0 rfl) ?_
  refine lv_bipush (v := (9 : Int32)) hx hb dX1_init_34 (by decide) ?_
  refine x_newa (atype := .int) C hw wAC_int rfl 0 rfl (fun _ => rfl) rfl (N := 9) (by decide) (by decide) (Nat.le_of_ble_eq_true rfl) (by rw [hR]; exact Nat.le_of_ble_eq_true rfl) (by rw [hR]; exact Nat.le_of_ble_eq_true rfl) dX1_init_36 (fun q4 H hw => ?_)
  have hw : xWd (dC, dI) A s.heap H _ [(e_ad, .inr (1, [.int (0 : Int32), .ref q1, .ref q2, .ref q3, .null, .null, .null, .int 0])), (q1, .inl (cI, 64, .inl (fun _ => 0))), (q2, .inl (cI, 64, .inl (fun _ => 0))), (q3, .inl (cI, 8, .inl (fun _ => 0))), (q4, .inl (cI, 9, .inl (fun _ => 0)))] := hw
  refine W.widen (k := 4) (n := 145) (Nat.le_of_ble_eq_true rfl) (Nat.le_of_ble_eq_true rfl) ?_
  refine x_putF (ci := 1) C hw inX1 tyX1 tyX1_ok nmX1 rfl 4 (by decide) lkF_X1_25 rfl rfl hmn 0 rfl rfl rfl (Nat.le_of_ble_eq_true rfl) dX1_init_38 (fun H locs hw => ?_)
  have hw : xWd (dC, dI) A s.heap H _ [(e_ad, .inr (1, [.int (0 : Int32), .ref q1, .ref q2, .ref q3, .ref q4, .null, .null, .int 0])), (q1, .inl (cI, 64, .inl (fun _ => 0))), (q2, .inl (cI, 64, .inl (fun _ => 0))), (q3, .inl (cI, 8, .inl (fun _ => 0))), (q4, .inl (cI, 9, .inl (fun _ => 0)))] := hw
  refine lv_aload_n hx hb dX1_init_41 rfl (lv_at hl 0 rfl) ?_
  refine lv_bipush (v := (28 : Int32)) hx hb dX1_init_42 (by decide) ?_
  refine x_newa (atype := .int) C hw wAC_int rfl 0 rfl (fun _ => rfl) rfl (N := 28) (by decide) (by decide) (Nat.le_of_ble_eq_true rfl) (by rw [hR]; exact Nat.le_of_ble_eq_true rfl) (by rw [hR]; exact Nat.le_of_ble_eq_true rfl) dX1_init_44 (fun q5 H hw => ?_)
  have hw : xWd (dC, dI) A s.heap H _ [(e_ad, .inr (1, [.int (0 : Int32), .ref q1, .ref q2, .ref q3, .ref q4, .null, .null, .int 0])), (q1, .inl (cI, 64, .inl (fun _ => 0))), (q2, .inl (cI, 64, .inl (fun _ => 0))), (q3, .inl (cI, 8, .inl (fun _ => 0))), (q4, .inl (cI, 9, .inl (fun _ => 0))), (q5, .inl (cI, 28, .inl (fun _ => 0)))] := hw
  refine W.widen (k := 5) (n := 173) (Nat.le_of_ble_eq_true rfl) (Nat.le_of_ble_eq_true rfl) ?_
  refine x_putF (ci := 1) C hw inX1 tyX1 tyX1_ok nmX1 rfl 5 (by decide) lkF_X1_28 rfl rfl hmn 0 rfl rfl rfl (Nat.le_of_ble_eq_true rfl) dX1_init_46 (fun H locs hw => ?_)
  have hw : xWd (dC, dI) A s.heap H _ [(e_ad, .inr (1, [.int (0 : Int32), .ref q1, .ref q2, .ref q3, .ref q4, .ref q5, .null, .int 0])), (q1, .inl (cI, 64, .inl (fun _ => 0))), (q2, .inl (cI, 64, .inl (fun _ => 0))), (q3, .inl (cI, 8, .inl (fun _ => 0))), (q4, .inl (cI, 9, .inl (fun _ => 0))), (q5, .inl (cI, 28, .inl (fun _ => 0)))] := hw
  refine lv_aload_n hx hb dX1_init_49 rfl (lv_at hl 0 rfl) ?_
  refine lv_bipush (v := (28 : Int32)) hx hb dX1_init_50 (by decide) ?_
  refine x_newa (atype := .int) C hw wAC_int rfl 0 rfl (fun _ => rfl) rfl (N := 28) (by decide) (by decide) (Nat.le_of_ble_eq_true rfl) (by rw [hR]; exact Nat.le_of_ble_eq_true rfl) (by rw [hR]; exact Nat.le_of_ble_eq_true rfl) dX1_init_52 (fun q6 H hw => ?_)
  have hw : xWd (dC, dI) A s.heap H _ [(e_ad, .inr (1, [.int (0 : Int32), .ref q1, .ref q2, .ref q3, .ref q4, .ref q5, .null, .int 0])), (q1, .inl (cI, 64, .inl (fun _ => 0))), (q2, .inl (cI, 64, .inl (fun _ => 0))), (q3, .inl (cI, 8, .inl (fun _ => 0))), (q4, .inl (cI, 9, .inl (fun _ => 0))), (q5, .inl (cI, 28, .inl (fun _ => 0))), (q6, .inl (cI, 28, .inl (fun _ => 0)))] := hw
  refine W.widen (k := 6) (n := 201) (Nat.le_of_ble_eq_true rfl) (Nat.le_of_ble_eq_true rfl) ?_
  refine x_putF (ci := 1) C hw inX1 tyX1 tyX1_ok nmX1 rfl 6 (by decide) lkF_X1_31 rfl rfl hmn 0 rfl rfl rfl (Nat.le_of_ble_eq_true rfl) dX1_init_54 (fun H locs hw => ?_)
  have hw : xWd (dC, dI) A s.heap H _ [(e_ad, .inr (1, [.int (0 : Int32), .ref q1, .ref q2, .ref q3, .ref q4, .ref q5, .ref q6, .int 0])), (q1, .inl (cI, 64, .inl (fun _ => 0))), (q2, .inl (cI, 64, .inl (fun _ => 0))), (q3, .inl (cI, 8, .inl (fun _ => 0))), (q4, .inl (cI, 9, .inl (fun _ => 0))), (q5, .inl (cI, 28, .inl (fun _ => 0))), (q6, .inl (cI, 28, .inl (fun _ => 0)))] := hw
  refine lv_aload_n hx hb dX1_init_57 rfl (lv_at hl 0 rfl) ?_
  refine lv_iconst (v := (0 : Int32)) hx hb dX1_init_58 (by decide) ?_
  refine x_put (ci := 1) C hw inX1 tyX1 tyX1_ok nmX1 rfl 7 (by decide) lkF_X1_34 rfl rfl 0 rfl rfl rfl (Nat.le_of_ble_eq_true rfl) dX1_init_59 (fun H locs hw => ?_)
  have hw : xWd (dC, dI) A s.heap H _ [(e_ad, .inr (1, [.int (0 : Int32), .ref q1, .ref q2, .ref q3, .ref q4, .ref q5, .ref q6, .int (0 : Int32)])), (q1, .inl (cI, 64, .inl (fun _ => 0))), (q2, .inl (cI, 64, .inl (fun _ => 0))), (q3, .inl (cI, 8, .inl (fun _ => 0))), (q4, .inl (cI, 9, .inl (fun _ => 0))), (q5, .inl (cI, 28, .inl (fun _ => 0))), (q6, .inl (cI, 28, .inl (fun _ => 0)))] := hw
  have hw : xWd (dC, dI) A s.heap H _ ((fun (u : (Nat → Nat)) => (wE cI cZ cB cO e_ad u (0 : Int32) (fun _ => 0) (fun _ => 0) (fun _ => 0) (fun _ => 0) (fun _ => 0) (fun _ => 0) (0 : Int32))) (fun k => if k = 1 then q1 else if k = 2 then q2 else if k = 3 then q3 else if k = 4 then q4 else if k = 5 then q5 else if k = 6 then q6 else 0)) := hw.sub [0, 1, 2, 3, 4, 5, 6] (by decide) rfl
  exact x_retI (fun k => if k = 1 then q1 else if k = 2 then q2 else if k = 3 then q3 else if k = 4 then q4 else if k = 5 then q5 else if k = 6 then q6 else 0) C hQ hA hw dX1_init_62
theorem dX0_init_0 : decode cX0_init 0 = .ok (.aload_n 0, 1) := by decide +kernel
theorem dX0_init_1 : decode cX0_init 1 = .ok (.invokespecial 3, 3) := by decide +kernel
theorem dX0_init_4 : decode cX0_init 4 = .ok (.aload_n 0, 1) := by decide +kernel
theorem dX0_init_5 : decode cX0_init 5 = .ok (.iconst 0, 1) := by decide +kernel
theorem dX0_init_6 : decode cX0_init 6 = .ok (.putfield 9, 3) := by decide +kernel
theorem dX0_init_9 : decode cX0_init 9 = .ok (.aload_n 0, 1) := by decide +kernel
theorem dX0_init_10 : decode cX0_init 10 = .ok (.sipush 256, 3) := by decide +kernel
theorem dX0_init_13 : decode cX0_init 13 = .ok (.newarray .int, 2) := by decide +kernel
theorem dX0_init_15 : decode cX0_init 15 = .ok (.putfield 15, 3) := by decide +kernel
theorem dX0_init_18 : decode cX0_init 18 = .ok (.aload_n 0, 1) := by decide +kernel
theorem dX0_init_19 : decode cX0_init 19 = .ok (.bipush 10, 2) := by decide +kernel
theorem dX0_init_21 : decode cX0_init 21 = .ok (.newarray .int, 2) := by decide +kernel
theorem dX0_init_23 : decode cX0_init 23 = .ok (.putfield 19, 3) := by decide +kernel
theorem dX0_init_26 : decode cX0_init 26 = .ok (.aload_n 0, 1) := by decide +kernel
theorem dX0_init_27 : decode cX0_init 27 = .ok (.sipush 256, 3) := by decide +kernel
theorem dX0_init_30 : decode cX0_init 30 = .ok (.newarray .int, 2) := by decide +kernel
theorem dX0_init_32 : decode cX0_init 32 = .ok (.putfield 22, 3) := by decide +kernel
theorem dX0_init_35 : decode cX0_init 35 = .ok (.aload_n 0, 1) := by decide +kernel
theorem dX0_init_36 : decode cX0_init 36 = .ok (.sipush 256, 3) := by decide +kernel
theorem dX0_init_39 : decode cX0_init 39 = .ok (.newarray .int, 2) := by decide +kernel
theorem dX0_init_41 : decode cX0_init 41 = .ok (.putfield 25, 3) := by decide +kernel
theorem dX0_init_44 : decode cX0_init 44 = .ok (.aload_n 0, 1) := by decide +kernel
theorem dX0_init_45 : decode cX0_init 45 = .ok (.sipush 256, 3) := by decide +kernel
theorem dX0_init_48 : decode cX0_init 48 = .ok (.newarray .int, 2) := by decide +kernel
theorem dX0_init_50 : decode cX0_init 50 = .ok (.putfield 28, 3) := by decide +kernel
theorem dX0_init_53 : decode cX0_init 53 = .ok (.aload_n 0, 1) := by decide +kernel
theorem dX0_init_54 : decode cX0_init 54 = .ok (.iconst 0, 1) := by decide +kernel
theorem dX0_init_55 : decode cX0_init 55 = .ok (.putfield 31, 3) := by decide +kernel
theorem dX0_init_58 : decode cX0_init 58 = .ok (.aload_n 0, 1) := by decide +kernel
theorem dX0_init_59 : decode cX0_init 59 = .ok (.getfield 28, 3) := by decide +kernel
theorem dX0_init_62 : decode cX0_init 62 = .ok (.iconst (-1), 1) := by decide +kernel
theorem dX0_init_63 : decode cX0_init 63 = .ok (.invokestatic 34, 3) := by decide +kernel
theorem dX0_init_66 : decode cX0_init 66 = .ok (.return_, 1) := by decide +kernel
theorem ds_X0_init : xDs yX0_init 0 := by decide +kernel
set_option maxHeartbeats 4000000 in
set_option maxRecDepth 100000 in
theorem c_X0_init (l : Launch) (dC : Nat → ClassId) (dI : Nat → Nat → Nat) (cI cZ cB cO : ClassId) (k_ad : Nat) (fo : Nat → Int32) (hfo : f_J7_fill_53178 256 (fun _ => 0) (-1 : Int32) = some fo) (sz : Nat) : Met l yX0_init (xW yX0_init cX0_init 1 none) { frames := 1, cells := 5, slots := 1034, locals := 23 } (xPreI dC dI (xT cI cZ cB cO) [.ref k_ad] [(k_ad, .inr (0, [.int 0, .null, .null, .null, .null, .null, .int 0]))] sz) (xQI dC dI (xT cI cZ cB cO) [(k_ad, .inr (0, [.int 0, .null, .null, .null, .null, .null, .int 0]))] (fun (u : (Nat → Nat)) => (wK cI cZ cB cO k_ad u (0 : Int32) (fun _ => 0) (fun _ => 0) (fun _ => 0) (fun _ => 0) fo (0 : Int32))) sz) 5 1034 (va_A [(k_ad, .inr (0, [.int 0, .null, .null, .null, .null, .null, .int 0]))] sz) := by
  refine x_metI (by decide) (Nat.le_of_ble_eq_true rfl) ?_
  intro p e s m args below meth c R Q A hR hsz hA hQ hmn hZ C hw ls hl
  have hx := C.1
  have hb := C.2.1
  have hown := C.2.2.2.1
  have htb := C.2.2.2.2.1
  have hl : lv_has ls 1 [(0, .ref k_ad)] := hl
  refine lv_aload_n hx hb dX0_init_0 rfl (lv_at hl 0 rfl) ?_
  refine x_obj C lkM_X0_3 hl.1 (by rw [hR]; exact Nat.le_of_ble_eq_true rfl) (by rw [hR]; exact Nat.le_of_ble_eq_true rfl) dX0_init_1 ?_
  refine lv_aload_n hx hb dX0_init_4 rfl (lv_at hl 0 rfl) ?_
  refine lv_iconst (v := (0 : Int32)) hx hb dX0_init_5 (by decide) ?_
  refine x_put (ci := 0) C hw inX0 tyX0 tyX0_ok nmX0 rfl 0 (by decide) lkF_X0_9 rfl rfl 0 rfl rfl rfl (Nat.le_of_ble_eq_true rfl) dX0_init_6 (fun H locs hw => ?_)
  have hw : xWd (dC, dI) A s.heap H _ [(k_ad, .inr (0, [.int (0 : Int32), .null, .null, .null, .null, .null, .int 0]))] := hw
  refine lv_aload_n hx hb dX0_init_9 rfl (lv_at hl 0 rfl) ?_
  refine lv_sipush (v := (256 : Int32)) hx hb dX0_init_10 (by decide) ?_
  refine x_newa (atype := .int) C hw wAC_int rfl 0 rfl (fun _ => rfl) rfl (N := 256) (by decide) (by decide) (Nat.le_of_ble_eq_true rfl) (by rw [hR]; exact Nat.le_of_ble_eq_true rfl) (by rw [hR]; exact Nat.le_of_ble_eq_true rfl) dX0_init_13 (fun q1 H hw => ?_)
  have hw : xWd (dC, dI) A s.heap H _ [(k_ad, .inr (0, [.int (0 : Int32), .null, .null, .null, .null, .null, .int 0])), (q1, .inl (cI, 256, .inl (fun _ => 0)))] := hw
  refine W.widen (k := 1) (n := 256) (Nat.le_of_ble_eq_true rfl) (Nat.le_of_ble_eq_true rfl) ?_
  refine x_putF (ci := 0) C hw inX0 tyX0 tyX0_ok nmX0 rfl 1 (by decide) lkF_X0_15 rfl rfl hmn 0 rfl rfl rfl (Nat.le_of_ble_eq_true rfl) dX0_init_15 (fun H locs hw => ?_)
  have hw : xWd (dC, dI) A s.heap H _ [(k_ad, .inr (0, [.int (0 : Int32), .ref q1, .null, .null, .null, .null, .int 0])), (q1, .inl (cI, 256, .inl (fun _ => 0)))] := hw
  refine lv_aload_n hx hb dX0_init_18 rfl (lv_at hl 0 rfl) ?_
  refine lv_bipush (v := (10 : Int32)) hx hb dX0_init_19 (by decide) ?_
  refine x_newa (atype := .int) C hw wAC_int rfl 0 rfl (fun _ => rfl) rfl (N := 10) (by decide) (by decide) (Nat.le_of_ble_eq_true rfl) (by rw [hR]; exact Nat.le_of_ble_eq_true rfl) (by rw [hR]; exact Nat.le_of_ble_eq_true rfl) dX0_init_21 (fun q2 H hw => ?_)
  have hw : xWd (dC, dI) A s.heap H _ [(k_ad, .inr (0, [.int (0 : Int32), .ref q1, .null, .null, .null, .null, .int 0])), (q1, .inl (cI, 256, .inl (fun _ => 0))), (q2, .inl (cI, 10, .inl (fun _ => 0)))] := hw
  refine W.widen (k := 2) (n := 266) (Nat.le_of_ble_eq_true rfl) (Nat.le_of_ble_eq_true rfl) ?_
  refine x_putF (ci := 0) C hw inX0 tyX0 tyX0_ok nmX0 rfl 2 (by decide) lkF_X0_19 rfl rfl hmn 0 rfl rfl rfl (Nat.le_of_ble_eq_true rfl) dX0_init_23 (fun H locs hw => ?_)
  have hw : xWd (dC, dI) A s.heap H _ [(k_ad, .inr (0, [.int (0 : Int32), .ref q1, .ref q2, .null, .null, .null, .int 0])), (q1, .inl (cI, 256, .inl (fun _ => 0))), (q2, .inl (cI, 10, .inl (fun _ => 0)))] := hw
  refine lv_aload_n hx hb dX0_init_26 rfl (lv_at hl 0 rfl) ?_
  refine lv_sipush (v := (256 : Int32)) hx hb dX0_init_27 (by decide) ?_
  refine x_newa (atype := .int) C hw wAC_int rfl 0 rfl (fun _ => rfl) rfl (N := 256) (by decide) (by decide) (Nat.le_of_ble_eq_true rfl) (by rw [hR]; exact Nat.le_of_ble_eq_true rfl) (by rw [hR]; exact Nat.le_of_ble_eq_true rfl) dX0_init_30 (fun q3 H hw => ?_)
  have hw : xWd (dC, dI) A s.heap H _ [(k_ad, .inr (0, [.int (0 : Int32), .ref q1, .ref q2, .null, .null, .null, .int 0])), (q1, .inl (cI, 256, .inl (fun _ => 0))), (q2, .inl (cI, 10, .inl (fun _ => 0))), (q3, .inl (cI, 256, .inl (fun _ => 0)))] := hw
  refine W.widen (k := 3) (n := 522) (Nat.le_of_ble_eq_true rfl) (Nat.le_of_ble_eq_true rfl) ?_
  refine x_putF (ci := 0) C hw inX0 tyX0 tyX0_ok nmX0 rfl 3 (by decide) lkF_X0_22 rfl rfl hmn 0 rfl rfl rfl (Nat.le_of_ble_eq_true rfl) dX0_init_32 (fun H locs hw => ?_)
  have hw : xWd (dC, dI) A s.heap H _ [(k_ad, .inr (0, [.int (0 : Int32), .ref q1, .ref q2, .ref q3, .null, .null, .int 0])), (q1, .inl (cI, 256, .inl (fun _ => 0))), (q2, .inl (cI, 10, .inl (fun _ => 0))), (q3, .inl (cI, 256, .inl (fun _ => 0)))] := hw
  refine lv_aload_n hx hb dX0_init_35 rfl (lv_at hl 0 rfl) ?_
  refine lv_sipush (v := (256 : Int32)) hx hb dX0_init_36 (by decide) ?_
  refine x_newa (atype := .int) C hw wAC_int rfl 0 rfl (fun _ => rfl) rfl (N := 256) (by decide) (by decide) (Nat.le_of_ble_eq_true rfl) (by rw [hR]; exact Nat.le_of_ble_eq_true rfl) (by rw [hR]; exact Nat.le_of_ble_eq_true rfl) dX0_init_39 (fun q4 H hw => ?_)
  have hw : xWd (dC, dI) A s.heap H _ [(k_ad, .inr (0, [.int (0 : Int32), .ref q1, .ref q2, .ref q3, .null, .null, .int 0])), (q1, .inl (cI, 256, .inl (fun _ => 0))), (q2, .inl (cI, 10, .inl (fun _ => 0))), (q3, .inl (cI, 256, .inl (fun _ => 0))), (q4, .inl (cI, 256, .inl (fun _ => 0)))] := hw
  refine W.widen (k := 4) (n := 778) (Nat.le_of_ble_eq_true rfl) (Nat.le_of_ble_eq_true rfl) ?_
  refine x_putF (ci := 0) C hw inX0 tyX0 tyX0_ok nmX0 rfl 4 (by decide) lkF_X0_25 rfl rfl hmn 0 rfl rfl rfl (Nat.le_of_ble_eq_true rfl) dX0_init_41 (fun H locs hw => ?_)
  have hw : xWd (dC, dI) A s.heap H _ [(k_ad, .inr (0, [.int (0 : Int32), .ref q1, .ref q2, .ref q3, .ref q4, .null, .int 0])), (q1, .inl (cI, 256, .inl (fun _ => 0))), (q2, .inl (cI, 10, .inl (fun _ => 0))), (q3, .inl (cI, 256, .inl (fun _ => 0))), (q4, .inl (cI, 256, .inl (fun _ => 0)))] := hw
  refine lv_aload_n hx hb dX0_init_44 rfl (lv_at hl 0 rfl) ?_
  refine lv_sipush (v := (256 : Int32)) hx hb dX0_init_45 (by decide) ?_
  refine x_newa (atype := .int) C hw wAC_int rfl 0 rfl (fun _ => rfl) rfl (N := 256) (by decide) (by decide) (Nat.le_of_ble_eq_true rfl) (by rw [hR]; exact Nat.le_of_ble_eq_true rfl) (by rw [hR]; exact Nat.le_of_ble_eq_true rfl) dX0_init_48 (fun q5 H hw => ?_)
  have hw : xWd (dC, dI) A s.heap H _ [(k_ad, .inr (0, [.int (0 : Int32), .ref q1, .ref q2, .ref q3, .ref q4, .null, .int 0])), (q1, .inl (cI, 256, .inl (fun _ => 0))), (q2, .inl (cI, 10, .inl (fun _ => 0))), (q3, .inl (cI, 256, .inl (fun _ => 0))), (q4, .inl (cI, 256, .inl (fun _ => 0))), (q5, .inl (cI, 256, .inl (fun _ => 0)))] := hw
  refine W.widen (k := 5) (n := 1034) (Nat.le_of_ble_eq_true rfl) (Nat.le_of_ble_eq_true rfl) ?_
  refine x_putF (ci := 0) C hw inX0 tyX0 tyX0_ok nmX0 rfl 5 (by decide) lkF_X0_28 rfl rfl hmn 0 rfl rfl rfl (Nat.le_of_ble_eq_true rfl) dX0_init_50 (fun H locs hw => ?_)
  have hw : xWd (dC, dI) A s.heap H _ [(k_ad, .inr (0, [.int (0 : Int32), .ref q1, .ref q2, .ref q3, .ref q4, .ref q5, .int 0])), (q1, .inl (cI, 256, .inl (fun _ => 0))), (q2, .inl (cI, 10, .inl (fun _ => 0))), (q3, .inl (cI, 256, .inl (fun _ => 0))), (q4, .inl (cI, 256, .inl (fun _ => 0))), (q5, .inl (cI, 256, .inl (fun _ => 0)))] := hw
  refine lv_aload_n hx hb dX0_init_53 rfl (lv_at hl 0 rfl) ?_
  refine lv_iconst (v := (0 : Int32)) hx hb dX0_init_54 (by decide) ?_
  refine x_put (ci := 0) C hw inX0 tyX0 tyX0_ok nmX0 rfl 6 (by decide) lkF_X0_31 rfl rfl 0 rfl rfl rfl (Nat.le_of_ble_eq_true rfl) dX0_init_55 (fun H locs hw => ?_)
  have hw : xWd (dC, dI) A s.heap H _ [(k_ad, .inr (0, [.int (0 : Int32), .ref q1, .ref q2, .ref q3, .ref q4, .ref q5, .int (0 : Int32)])), (q1, .inl (cI, 256, .inl (fun _ => 0))), (q2, .inl (cI, 10, .inl (fun _ => 0))), (q3, .inl (cI, 256, .inl (fun _ => 0))), (q4, .inl (cI, 256, .inl (fun _ => 0))), (q5, .inl (cI, 256, .inl (fun _ => 0)))] := hw
  refine lv_aload_n hx hb dX0_init_58 rfl (lv_at hl 0 rfl) ?_
  refine x_get (ci := 0) C hw inX0 rfl 5 (by decide) lkF_X0_28 rfl 0 rfl rfl dX0_init_59 ?_
  refine lv_iconst (v := (-1 : Int32)) hx hb dX0_init_62 (by decide) ?_
  refine x_callSv (As := [.ref q5, .int (-1 : Int32)]) (rest := []) C hw gc_X0_34 ds_J7_fill_53178 (by rw [hR]; exact Nat.le_of_ble_eq_true rfl) (by rw [hR]; exact Nat.le_of_ble_eq_true rfl) rfl rfl (by rw [hR]; exact Nat.le_of_ble_eq_true rfl) (by rw [hR]; exact Nat.le_of_ble_eq_true rfl) (c_J7_fill_53178 l dC dI cI cZ cB cO q5 256 (fun _ => 0) (-1 : Int32) fo hfo _) [5] [0, 1, 2, 3, 4] (by decide) rfl rfl (by decide) (by decide) rfl hl.1 rfl (Nat.le_of_ble_eq_true rfl) dX0_init_63 (fun H locs hw => ?_)
  have hw : xWd (dC, dI) A s.heap H _ [(k_ad, .inr (0, [.int (0 : Int32), .ref q1, .ref q2, .ref q3, .ref q4, .ref q5, .int (0 : Int32)])), (q1, .inl (cI, 256, .inl (fun _ => 0))), (q2, .inl (cI, 10, .inl (fun _ => 0))), (q3, .inl (cI, 256, .inl (fun _ => 0))), (q4, .inl (cI, 256, .inl (fun _ => 0))), (q5, .inl (cI, 256, .inl fo))] := hw.sub [0, 1, 2, 3, 4, 5] (by decide) rfl
  have hw : xWd (dC, dI) A s.heap H _ ((fun (u : (Nat → Nat)) => (wK cI cZ cB cO k_ad u (0 : Int32) (fun _ => 0) (fun _ => 0) (fun _ => 0) (fun _ => 0) fo (0 : Int32))) (fun k => if k = 1 then q1 else if k = 2 then q2 else if k = 3 then q3 else if k = 4 then q4 else if k = 5 then q5 else 0)) := hw.sub [0, 1, 2, 3, 4, 5] (by decide) rfl
  exact x_retI (fun k => if k = 1 then q1 else if k = 2 then q2 else if k = 3 then q3 else if k = 4 then q4 else if k = 5 then q5 else 0) C hQ hA hw dX0_init_66
theorem dX8_init_0 : decode cX8_init 0 = .ok (.aload_n 0, 1) := by decide +kernel
theorem dX8_init_1 : decode cX8_init 1 = .ok (.invokespecial 1, 3) := by decide +kernel
theorem dX8_init_4 : decode cX8_init 4 = .ok (.aload_n 0, 1) := by decide +kernel
theorem dX8_init_5 : decode cX8_init 5 = .ok (.iconst 5, 1) := by decide +kernel
theorem dX8_init_6 : decode cX8_init 6 = .ok (.newarray .int, 2) := by decide +kernel
theorem dX8_init_8 : decode cX8_init 8 = .ok (.putfield 7, 3) := by decide +kernel
theorem dX8_init_11 : decode cX8_init 11 = .ok (.aload_n 0, 1) := by decide +kernel
theorem dX8_init_12 : decode cX8_init 12 = .ok (.iconst 5, 1) := by decide +kernel
theorem dX8_init_13 : decode cX8_init 13 = .ok (.newarray .int, 2) := by decide +kernel
theorem dX8_init_15 : decode cX8_init 15 = .ok (.putfield 13, 3) := by decide +kernel
theorem dX8_init_18 : decode cX8_init 18 = .ok (.aload_n 0, 1) := by decide +kernel
theorem dX8_init_19 : decode cX8_init 19 = .ok (.bipush 25, 2) := by decide +kernel
theorem dX8_init_21 : decode cX8_init 21 = .ok (.newarray .int, 2) := by decide +kernel
theorem dX8_init_23 : decode cX8_init 23 = .ok (.putfield 16, 3) := by decide +kernel
theorem dX8_init_26 : decode cX8_init 26 = .ok (.aload_n 0, 1) := by decide +kernel
theorem dX8_init_27 : decode cX8_init 27 = .ok (.iconst 3, 1) := by decide +kernel
theorem dX8_init_28 : decode cX8_init 28 = .ok (.newarray .int, 2) := by decide +kernel
theorem dX8_init_30 : decode cX8_init 30 = .ok (.putfield 19, 3) := by decide +kernel
theorem dX8_init_33 : decode cX8_init 33 = .ok (.aload_n 0, 1) := by decide +kernel
theorem dX8_init_34 : decode cX8_init 34 = .ok (.bipush 8, 2) := by decide +kernel
theorem dX8_init_36 : decode cX8_init 36 = .ok (.newarray .int, 2) := by decide +kernel
theorem dX8_init_38 : decode cX8_init 38 = .ok (.putfield 22, 3) := by decide +kernel
theorem dX8_init_41 : decode cX8_init 41 = .ok (.aload_n 0, 1) := by decide +kernel
theorem dX8_init_42 : decode cX8_init 42 = .ok (.ldc 25, 2) := by decide +kernel
theorem dX8_init_44 : decode cX8_init 44 = .ok (.newarray .boolean, 2) := by decide +kernel
theorem dX8_init_46 : decode cX8_init 46 = .ok (.putfield 26, 3) := by decide +kernel
theorem dX8_init_49 : decode cX8_init 49 = .ok (.aload_n 0, 1) := by decide +kernel
theorem dX8_init_50 : decode cX8_init 50 = .ok (.ldc 25, 2) := by decide +kernel
theorem dX8_init_52 : decode cX8_init 52 = .ok (.newarray .int, 2) := by decide +kernel
theorem dX8_init_54 : decode cX8_init 54 = .ok (.putfield 30, 3) := by decide +kernel
theorem dX8_init_57 : decode cX8_init 57 = .ok (.aload_n 0, 1) := by decide +kernel
theorem dX8_init_58 : decode cX8_init 58 = .ok (.bipush 24, 2) := by decide +kernel
theorem dX8_init_60 : decode cX8_init 60 = .ok (.newarray .int, 2) := by decide +kernel
theorem dX8_init_62 : decode cX8_init 62 = .ok (.putfield 33, 3) := by decide +kernel
theorem dX8_init_65 : decode cX8_init 65 = .ok (.aload_n 0, 1) := by decide +kernel
theorem dX8_init_66 : decode cX8_init 66 = .ok (.bipush 8, 2) := by decide +kernel
theorem dX8_init_68 : decode cX8_init 68 = .ok (.newarray .int, 2) := by decide +kernel
theorem dX8_init_70 : decode cX8_init 70 = .ok (.putfield 36, 3) := by decide +kernel
theorem dX8_init_73 : decode cX8_init 73 = .ok (.aload_n 0, 1) := by decide +kernel
theorem dX8_init_74 : decode cX8_init 74 = .ok (.bipush 8, 2) := by decide +kernel
theorem dX8_init_76 : decode cX8_init 76 = .ok (.newarray .int, 2) := by decide +kernel
theorem dX8_init_78 : decode cX8_init 78 = .ok (.putfield 39, 3) := by decide +kernel
theorem dX8_init_81 : decode cX8_init 81 = .ok (.aload_n 0, 1) := by decide +kernel
theorem dX8_init_82 : decode cX8_init 82 = .ok (.sipush 256, 3) := by decide +kernel
theorem dX8_init_85 : decode cX8_init 85 = .ok (.newarray .boolean, 2) := by decide +kernel
theorem dX8_init_87 : decode cX8_init 87 = .ok (.putfield 42, 3) := by decide +kernel
theorem dX8_init_90 : decode cX8_init 90 = .ok (.aload_n 0, 1) := by decide +kernel
theorem dX8_init_91 : decode cX8_init 91 = .ok (.sipush 256, 3) := by decide +kernel
theorem dX8_init_94 : decode cX8_init 94 = .ok (.newarray .int, 2) := by decide +kernel
theorem dX8_init_96 : decode cX8_init 96 = .ok (.putfield 45, 3) := by decide +kernel
theorem dX8_init_99 : decode cX8_init 99 = .ok (.aload_n 0, 1) := by decide +kernel
theorem dX8_init_100 : decode cX8_init 100 = .ok (.sipush 256, 3) := by decide +kernel
theorem dX8_init_103 : decode cX8_init 103 = .ok (.newarray .int, 2) := by decide +kernel
theorem dX8_init_105 : decode cX8_init 105 = .ok (.putfield 48, 3) := by decide +kernel
theorem dX8_init_108 : decode cX8_init 108 = .ok (.aload_n 0, 1) := by decide +kernel
theorem dX8_init_109 : decode cX8_init 109 = .ok (.sipush 256, 3) := by decide +kernel
theorem dX8_init_112 : decode cX8_init 112 = .ok (.newarray .int, 2) := by decide +kernel
theorem dX8_init_114 : decode cX8_init 114 = .ok (.putfield 51, 3) := by decide +kernel
theorem dX8_init_117 : decode cX8_init 117 = .ok (.aload_n 0, 1) := by decide +kernel
theorem dX8_init_118 : decode cX8_init 118 = .ok (.bipush 10, 2) := by decide +kernel
theorem dX8_init_120 : decode cX8_init 120 = .ok (.newarray .int, 2) := by decide +kernel
theorem dX8_init_122 : decode cX8_init 122 = .ok (.putfield 54, 3) := by decide +kernel
theorem dX8_init_125 : decode cX8_init 125 = .ok (.aload_n 0, 1) := by decide +kernel
theorem dX8_init_126 : decode cX8_init 126 = .ok (.bipush 80, 2) := by decide +kernel
theorem dX8_init_128 : decode cX8_init 128 = .ok (.newarray .int, 2) := by decide +kernel
theorem dX8_init_130 : decode cX8_init 130 = .ok (.putfield 57, 3) := by decide +kernel
theorem dX8_init_133 : decode cX8_init 133 = .ok (.aload_n 0, 1) := by decide +kernel
theorem dX8_init_134 : decode cX8_init 134 = .ok (.bipush 40, 2) := by decide +kernel
theorem dX8_init_136 : decode cX8_init 136 = .ok (.newarray .int, 2) := by decide +kernel
theorem dX8_init_138 : decode cX8_init 138 = .ok (.putfield 60, 3) := by decide +kernel
theorem dX8_init_141 : decode cX8_init 141 = .ok (.aload_n 0, 1) := by decide +kernel
theorem dX8_init_142 : decode cX8_init 142 = .ok (.bipush 40, 2) := by decide +kernel
theorem dX8_init_144 : decode cX8_init 144 = .ok (.newarray .int, 2) := by decide +kernel
theorem dX8_init_146 : decode cX8_init 146 = .ok (.putfield 63, 3) := by decide +kernel
theorem dX8_init_149 : decode cX8_init 149 = .ok (.aload_n 0, 1) := by decide +kernel
theorem dX8_init_150 : decode cX8_init 150 = .ok (.getfield 7, 3) := by decide +kernel
theorem dX8_init_153 : decode cX8_init 153 = .ok (.iconst 0, 1) := by decide +kernel
theorem dX8_init_154 : decode cX8_init 154 = .ok (.iconst 5, 1) := by decide +kernel
theorem dX8_init_155 : decode cX8_init 155 = .ok (.iastore, 1) := by decide +kernel
theorem dX8_init_156 : decode cX8_init 156 = .ok (.return_, 1) := by decide +kernel
theorem ds_X8_init : xDs yX8_init 0 := by decide +kernel
set_option maxHeartbeats 4000000 in
set_option maxRecDepth 100000 in
theorem c_X8_init (l : Launch) (dC : Nat → ClassId) (dI : Nat → Nat → Nat) (cI cZ cB cO : ClassId) (m_ad : Nat) (sz : Nat) : Met l yX8_init (xW yX8_init cX8_init 1 none) { frames := 1, cells := 18, slots := 81920, locals := 12 } (xPreI dC dI (xT cI cZ cB cO) [.ref m_ad] [(m_ad, .inr (7, [.null, .null, .null, .int 0, .null, .null, .int 0, .int 0, .null, .null, .null, .null, .null, .null, .null, .int 0, .int 0, .null, .null, .null, .null, .int 0, .int 0, .int 0, .int 0, .int 0, .null, .null, .long 0]))] sz) (xQI dC dI (xT cI cZ cB cO) [(m_ad, .inr (7, [.null, .null, .null, .int 0, .null, .null, .int 0, .int 0, .null, .null, .null, .null, .null, .null, .null, .int 0, .int 0, .null, .null, .null, .null, .int 0, .int 0, .int 0, .int 0, .int 0, .null, .null, .long 0]))] (fun (u : (Nat → Nat)) => (wM cI cZ cB cO m_ad u (upd (fun _ => 0) 0 (5 : Int32)) (fun _ => 0) (fun _ => 0) (0 : Int32) (fun _ => 0) (fun _ => 0) (0 : Int32) (0 : Int32) (fun _ => 0) (fun _ => 0) (fun _ => 0) (fun _ => 0) (fun _ => 0) (fun _ => 0) (fun _ => 0) (0 : Int32) (0 : Int32) (fun _ => 0) (fun _ => 0) (fun _ => 0) (fun _ => 0) (0 : Int32) (0 : Int32) (0 : Int32) (0 : Int32) (0 : Int32) (fun _ => 0) (fun _ => 0) (0 : Int64))) sz) 18 81920 (va_A [(m_ad, .inr (7, [.null, .null, .null, .int 0, .null, .null, .int 0, .int 0, .null, .null, .null, .null, .null, .null, .null, .int 0, .int 0, .null, .null, .null, .null, .int 0, .int 0, .int 0, .int 0, .int 0, .null, .null, .long 0]))] sz) := by
  refine x_metI (by decide) (Nat.le_of_ble_eq_true rfl) ?_
  intro p e s m args below meth c R Q A hR hsz hA hQ hmn hZ C hw ls hl
  have hx := C.1
  have hb := C.2.1
  have hown := C.2.2.2.1
  have htb := C.2.2.2.2.1
  have hl : lv_has ls 1 [(0, .ref m_ad)] := hl
  refine lv_aload_n hx hb dX8_init_0 rfl (lv_at hl 0 rfl) ?_
  refine x_obj C lkM_X8_1 hl.1 (by rw [hR]; exact Nat.le_of_ble_eq_true rfl) (by rw [hR]; exact Nat.le_of_ble_eq_true rfl) dX8_init_1 ?_
  refine lv_aload_n hx hb dX8_init_4 rfl (lv_at hl 0 rfl) ?_
  refine lv_iconst (v := (5 : Int32)) hx hb dX8_init_5 (by decide) ?_
  refine x_newa (atype := .int) C hw wAC_int rfl 0 rfl (fun _ => rfl) rfl (N := 5) (by decide) (by decide) (Nat.le_of_ble_eq_true rfl) (by rw [hR]; exact Nat.le_of_ble_eq_true rfl) (by rw [hR]; exact Nat.le_of_ble_eq_true rfl) dX8_init_6 (fun q1 H hw => ?_)
  have hw : xWd (dC, dI) A s.heap H _ [(m_ad, .inr (7, [.null, .null, .null, .int 0, .null, .null, .int 0, .int 0, .null, .null, .null, .null, .null, .null, .null, .int 0, .int 0, .null, .null, .null, .null, .int 0, .int 0, .int 0, .int 0, .int 0, .null, .null, .long 0])), (q1, .inl (cI, 5, .inl (fun _ => 0)))] := hw
  refine W.widen (k := 1) (n := 5) (Nat.le_of_ble_eq_true rfl) (Nat.le_of_ble_eq_true rfl) ?_
  refine x_putF (ci := 7) C hw inX8 tyX8 tyX8_ok nmX8 rfl 0 (by decide) lkF_X8_7 rfl rfl hmn 0 rfl rfl rfl (Nat.le_of_ble_eq_true rfl) dX8_init_8 (fun H locs hw => ?_)
  have hw : xWd (dC, dI) A s.heap H _ [(m_ad, .inr (7, [.ref q1, .null, .null, .int 0, .null, .null, .int 0, .int 0, .null, .null, .null, .null, .null, .null, .null, .int 0, .int 0, .null, .null, .null, .null, .int 0, .int 0, .int 0, .int 0, .int 0, .null, .null, .long 0])), (q1, .inl (cI, 5, .inl (fun _ => 0)))] := hw
  refine lv_aload_n hx hb dX8_init_11 rfl (lv_at hl 0 rfl) ?_
  refine lv_iconst (v := (5 : Int32)) hx hb dX8_init_12 (by decide) ?_
  refine x_newa (atype := .int) C hw wAC_int rfl 0 rfl (fun _ => rfl) rfl (N := 5) (by decide) (by decide) (Nat.le_of_ble_eq_true rfl) (by rw [hR]; exact Nat.le_of_ble_eq_true rfl) (by rw [hR]; exact Nat.le_of_ble_eq_true rfl) dX8_init_13 (fun q2 H hw => ?_)
  have hw : xWd (dC, dI) A s.heap H _ [(m_ad, .inr (7, [.ref q1, .null, .null, .int 0, .null, .null, .int 0, .int 0, .null, .null, .null, .null, .null, .null, .null, .int 0, .int 0, .null, .null, .null, .null, .int 0, .int 0, .int 0, .int 0, .int 0, .null, .null, .long 0])), (q1, .inl (cI, 5, .inl (fun _ => 0))), (q2, .inl (cI, 5, .inl (fun _ => 0)))] := hw
  refine W.widen (k := 2) (n := 10) (Nat.le_of_ble_eq_true rfl) (Nat.le_of_ble_eq_true rfl) ?_
  refine x_putF (ci := 7) C hw inX8 tyX8 tyX8_ok nmX8 rfl 1 (by decide) lkF_X8_13 rfl rfl hmn 0 rfl rfl rfl (Nat.le_of_ble_eq_true rfl) dX8_init_15 (fun H locs hw => ?_)
  have hw : xWd (dC, dI) A s.heap H _ [(m_ad, .inr (7, [.ref q1, .ref q2, .null, .int 0, .null, .null, .int 0, .int 0, .null, .null, .null, .null, .null, .null, .null, .int 0, .int 0, .null, .null, .null, .null, .int 0, .int 0, .int 0, .int 0, .int 0, .null, .null, .long 0])), (q1, .inl (cI, 5, .inl (fun _ => 0))), (q2, .inl (cI, 5, .inl (fun _ => 0)))] := hw
  refine lv_aload_n hx hb dX8_init_18 rfl (lv_at hl 0 rfl) ?_
  refine lv_bipush (v := (25 : Int32)) hx hb dX8_init_19 (by decide) ?_
  refine x_newa (atype := .int) C hw wAC_int rfl 0 rfl (fun _ => rfl) rfl (N := 25) (by decide) (by decide) (Nat.le_of_ble_eq_true rfl) (by rw [hR]; exact Nat.le_of_ble_eq_true rfl) (by rw [hR]; exact Nat.le_of_ble_eq_true rfl) dX8_init_21 (fun q3 H hw => ?_)
  have hw : xWd (dC, dI) A s.heap H _ [(m_ad, .inr (7, [.ref q1, .ref q2, .null, .int 0, .null, .null, .int 0, .int 0, .null, .null, .null, .null, .null, .null, .null, .int 0, .int 0, .null, .null, .null, .null, .int 0, .int 0, .int 0, .int 0, .int 0, .null, .null, .long 0])), (q1, .inl (cI, 5, .inl (fun _ => 0))), (q2, .inl (cI, 5, .inl (fun _ => 0))), (q3, .inl (cI, 25, .inl (fun _ => 0)))] := hw
  refine W.widen (k := 3) (n := 35) (Nat.le_of_ble_eq_true rfl) (Nat.le_of_ble_eq_true rfl) ?_
  refine x_putF (ci := 7) C hw inX8 tyX8 tyX8_ok nmX8 rfl 2 (by decide) lkF_X8_16 rfl rfl hmn 0 rfl rfl rfl (Nat.le_of_ble_eq_true rfl) dX8_init_23 (fun H locs hw => ?_)
  have hw : xWd (dC, dI) A s.heap H _ [(m_ad, .inr (7, [.ref q1, .ref q2, .ref q3, .int 0, .null, .null, .int 0, .int 0, .null, .null, .null, .null, .null, .null, .null, .int 0, .int 0, .null, .null, .null, .null, .int 0, .int 0, .int 0, .int 0, .int 0, .null, .null, .long 0])), (q1, .inl (cI, 5, .inl (fun _ => 0))), (q2, .inl (cI, 5, .inl (fun _ => 0))), (q3, .inl (cI, 25, .inl (fun _ => 0)))] := hw
  refine lv_aload_n hx hb dX8_init_26 rfl (lv_at hl 0 rfl) ?_
  refine lv_iconst (v := (3 : Int32)) hx hb dX8_init_27 (by decide) ?_
  refine x_newa (atype := .int) C hw wAC_int rfl 0 rfl (fun _ => rfl) rfl (N := 3) (by decide) (by decide) (Nat.le_of_ble_eq_true rfl) (by rw [hR]; exact Nat.le_of_ble_eq_true rfl) (by rw [hR]; exact Nat.le_of_ble_eq_true rfl) dX8_init_28 (fun q4 H hw => ?_)
  have hw : xWd (dC, dI) A s.heap H _ [(m_ad, .inr (7, [.ref q1, .ref q2, .ref q3, .int 0, .null, .null, .int 0, .int 0, .null, .null, .null, .null, .null, .null, .null, .int 0, .int 0, .null, .null, .null, .null, .int 0, .int 0, .int 0, .int 0, .int 0, .null, .null, .long 0])), (q1, .inl (cI, 5, .inl (fun _ => 0))), (q2, .inl (cI, 5, .inl (fun _ => 0))), (q3, .inl (cI, 25, .inl (fun _ => 0))), (q4, .inl (cI, 3, .inl (fun _ => 0)))] := hw
  refine W.widen (k := 4) (n := 38) (Nat.le_of_ble_eq_true rfl) (Nat.le_of_ble_eq_true rfl) ?_
  refine x_putF (ci := 7) C hw inX8 tyX8 tyX8_ok nmX8 rfl 4 (by decide) lkF_X8_19 rfl rfl hmn 0 rfl rfl rfl (Nat.le_of_ble_eq_true rfl) dX8_init_30 (fun H locs hw => ?_)
  have hw : xWd (dC, dI) A s.heap H _ [(m_ad, .inr (7, [.ref q1, .ref q2, .ref q3, .int 0, .ref q4, .null, .int 0, .int 0, .null, .null, .null, .null, .null, .null, .null, .int 0, .int 0, .null, .null, .null, .null, .int 0, .int 0, .int 0, .int 0, .int 0, .null, .null, .long 0])), (q1, .inl (cI, 5, .inl (fun _ => 0))), (q2, .inl (cI, 5, .inl (fun _ => 0))), (q3, .inl (cI, 25, .inl (fun _ => 0))), (q4, .inl (cI, 3, .inl (fun _ => 0)))] := hw
  refine lv_aload_n hx hb dX8_init_33 rfl (lv_at hl 0 rfl) ?_
  refine lv_bipush (v := (8 : Int32)) hx hb dX8_init_34 (by decide) ?_
  refine x_newa (atype := .int) C hw wAC_int rfl 0 rfl (fun _ => rfl) rfl (N := 8) (by decide) (by decide) (Nat.le_of_ble_eq_true rfl) (by rw [hR]; exact Nat.le_of_ble_eq_true rfl) (by rw [hR]; exact Nat.le_of_ble_eq_true rfl) dX8_init_36 (fun q5 H hw => ?_)
  have hw : xWd (dC, dI) A s.heap H _ [(m_ad, .inr (7, [.ref q1, .ref q2, .ref q3, .int 0, .ref q4, .null, .int 0, .int 0, .null, .null, .null, .null, .null, .null, .null, .int 0, .int 0, .null, .null, .null, .null, .int 0, .int 0, .int 0, .int 0, .int 0, .null, .null, .long 0])), (q1, .inl (cI, 5, .inl (fun _ => 0))), (q2, .inl (cI, 5, .inl (fun _ => 0))), (q3, .inl (cI, 25, .inl (fun _ => 0))), (q4, .inl (cI, 3, .inl (fun _ => 0))), (q5, .inl (cI, 8, .inl (fun _ => 0)))] := hw
  refine W.widen (k := 5) (n := 46) (Nat.le_of_ble_eq_true rfl) (Nat.le_of_ble_eq_true rfl) ?_
  refine x_putF (ci := 7) C hw inX8 tyX8 tyX8_ok nmX8 rfl 5 (by decide) lkF_X8_22 rfl rfl hmn 0 rfl rfl rfl (Nat.le_of_ble_eq_true rfl) dX8_init_38 (fun H locs hw => ?_)
  have hw : xWd (dC, dI) A s.heap H _ [(m_ad, .inr (7, [.ref q1, .ref q2, .ref q3, .int 0, .ref q4, .ref q5, .int 0, .int 0, .null, .null, .null, .null, .null, .null, .null, .int 0, .int 0, .null, .null, .null, .null, .int 0, .int 0, .int 0, .int 0, .int 0, .null, .null, .long 0])), (q1, .inl (cI, 5, .inl (fun _ => 0))), (q2, .inl (cI, 5, .inl (fun _ => 0))), (q3, .inl (cI, 25, .inl (fun _ => 0))), (q4, .inl (cI, 3, .inl (fun _ => 0))), (q5, .inl (cI, 8, .inl (fun _ => 0)))] := hw
  refine lv_aload_n hx hb dX8_init_41 rfl (lv_at hl 0 rfl) ?_
  refine lv_ldc hx hb hown (htb _ kI_X8_25) dX8_init_42 ?_
  refine x_newa (atype := .boolean) C hw wAC_boolean rfl 1 rfl (fun _ => rfl) rfl (N := 40320) (by decide) (by decide) (Nat.le_of_ble_eq_true rfl) (by rw [hR]; exact Nat.le_of_ble_eq_true rfl) (by rw [hR]; exact Nat.le_of_ble_eq_true rfl) dX8_init_44 (fun q6 H hw => ?_)
  have hw : xWd (dC, dI) A s.heap H _ [(m_ad, .inr (7, [.ref q1, .ref q2, .ref q3, .int 0, .ref q4, .ref q5, .int 0, .int 0, .null, .null, .null, .null, .null, .null, .null, .int 0, .int 0, .null, .null, .null, .null, .int 0, .int 0, .int 0, .int 0, .int 0, .null, .null, .long 0])), (q1, .inl (cI, 5, .inl (fun _ => 0))), (q2, .inl (cI, 5, .inl (fun _ => 0))), (q3, .inl (cI, 25, .inl (fun _ => 0))), (q4, .inl (cI, 3, .inl (fun _ => 0))), (q5, .inl (cI, 8, .inl (fun _ => 0))), (q6, .inl (cZ, 40320, .inl (fun _ => 0)))] := hw
  refine W.widen (k := 6) (n := 40366) (Nat.le_of_ble_eq_true rfl) (Nat.le_of_ble_eq_true rfl) ?_
  refine x_putF (ci := 7) C hw inX8 tyX8 tyX8_ok nmX8 rfl 8 (by decide) lkF_X8_26 rfl rfl hmn 0 rfl rfl rfl (Nat.le_of_ble_eq_true rfl) dX8_init_46 (fun H locs hw => ?_)
  have hw : xWd (dC, dI) A s.heap H _ [(m_ad, .inr (7, [.ref q1, .ref q2, .ref q3, .int 0, .ref q4, .ref q5, .int 0, .int 0, .ref q6, .null, .null, .null, .null, .null, .null, .int 0, .int 0, .null, .null, .null, .null, .int 0, .int 0, .int 0, .int 0, .int 0, .null, .null, .long 0])), (q1, .inl (cI, 5, .inl (fun _ => 0))), (q2, .inl (cI, 5, .inl (fun _ => 0))), (q3, .inl (cI, 25, .inl (fun _ => 0))), (q4, .inl (cI, 3, .inl (fun _ => 0))), (q5, .inl (cI, 8, .inl (fun _ => 0))), (q6, .inl (cZ, 40320, .inl (fun _ => 0)))] := hw
  refine lv_aload_n hx hb dX8_init_49 rfl (lv_at hl 0 rfl) ?_
  refine lv_ldc hx hb hown (htb _ kI_X8_25) dX8_init_50 ?_
  refine x_newa (atype := .int) C hw wAC_int rfl 0 rfl (fun _ => rfl) rfl (N := 40320) (by decide) (by decide) (Nat.le_of_ble_eq_true rfl) (by rw [hR]; exact Nat.le_of_ble_eq_true rfl) (by rw [hR]; exact Nat.le_of_ble_eq_true rfl) dX8_init_52 (fun q7 H hw => ?_)
  have hw : xWd (dC, dI) A s.heap H _ [(m_ad, .inr (7, [.ref q1, .ref q2, .ref q3, .int 0, .ref q4, .ref q5, .int 0, .int 0, .ref q6, .null, .null, .null, .null, .null, .null, .int 0, .int 0, .null, .null, .null, .null, .int 0, .int 0, .int 0, .int 0, .int 0, .null, .null, .long 0])), (q1, .inl (cI, 5, .inl (fun _ => 0))), (q2, .inl (cI, 5, .inl (fun _ => 0))), (q3, .inl (cI, 25, .inl (fun _ => 0))), (q4, .inl (cI, 3, .inl (fun _ => 0))), (q5, .inl (cI, 8, .inl (fun _ => 0))), (q6, .inl (cZ, 40320, .inl (fun _ => 0))), (q7, .inl (cI, 40320, .inl (fun _ => 0)))] := hw
  refine W.widen (k := 7) (n := 80686) (Nat.le_of_ble_eq_true rfl) (Nat.le_of_ble_eq_true rfl) ?_
  refine x_putF (ci := 7) C hw inX8 tyX8 tyX8_ok nmX8 rfl 9 (by decide) lkF_X8_30 rfl rfl hmn 0 rfl rfl rfl (Nat.le_of_ble_eq_true rfl) dX8_init_54 (fun H locs hw => ?_)
  have hw : xWd (dC, dI) A s.heap H _ [(m_ad, .inr (7, [.ref q1, .ref q2, .ref q3, .int 0, .ref q4, .ref q5, .int 0, .int 0, .ref q6, .ref q7, .null, .null, .null, .null, .null, .int 0, .int 0, .null, .null, .null, .null, .int 0, .int 0, .int 0, .int 0, .int 0, .null, .null, .long 0])), (q1, .inl (cI, 5, .inl (fun _ => 0))), (q2, .inl (cI, 5, .inl (fun _ => 0))), (q3, .inl (cI, 25, .inl (fun _ => 0))), (q4, .inl (cI, 3, .inl (fun _ => 0))), (q5, .inl (cI, 8, .inl (fun _ => 0))), (q6, .inl (cZ, 40320, .inl (fun _ => 0))), (q7, .inl (cI, 40320, .inl (fun _ => 0)))] := hw
  refine lv_aload_n hx hb dX8_init_57 rfl (lv_at hl 0 rfl) ?_
  refine lv_bipush (v := (24 : Int32)) hx hb dX8_init_58 (by decide) ?_
  refine x_newa (atype := .int) C hw wAC_int rfl 0 rfl (fun _ => rfl) rfl (N := 24) (by decide) (by decide) (Nat.le_of_ble_eq_true rfl) (by rw [hR]; exact Nat.le_of_ble_eq_true rfl) (by rw [hR]; exact Nat.le_of_ble_eq_true rfl) dX8_init_60 (fun q8 H hw => ?_)
  have hw : xWd (dC, dI) A s.heap H _ [(m_ad, .inr (7, [.ref q1, .ref q2, .ref q3, .int 0, .ref q4, .ref q5, .int 0, .int 0, .ref q6, .ref q7, .null, .null, .null, .null, .null, .int 0, .int 0, .null, .null, .null, .null, .int 0, .int 0, .int 0, .int 0, .int 0, .null, .null, .long 0])), (q1, .inl (cI, 5, .inl (fun _ => 0))), (q2, .inl (cI, 5, .inl (fun _ => 0))), (q3, .inl (cI, 25, .inl (fun _ => 0))), (q4, .inl (cI, 3, .inl (fun _ => 0))), (q5, .inl (cI, 8, .inl (fun _ => 0))), (q6, .inl (cZ, 40320, .inl (fun _ => 0))), (q7, .inl (cI, 40320, .inl (fun _ => 0))), (q8, .inl (cI, 24, .inl (fun _ => 0)))] := hw
  refine W.widen (k := 8) (n := 80710) (Nat.le_of_ble_eq_true rfl) (Nat.le_of_ble_eq_true rfl) ?_
  refine x_putF (ci := 7) C hw inX8 tyX8 tyX8_ok nmX8 rfl 10 (by decide) lkF_X8_33 rfl rfl hmn 0 rfl rfl rfl (Nat.le_of_ble_eq_true rfl) dX8_init_62 (fun H locs hw => ?_)
  have hw : xWd (dC, dI) A s.heap H _ [(m_ad, .inr (7, [.ref q1, .ref q2, .ref q3, .int 0, .ref q4, .ref q5, .int 0, .int 0, .ref q6, .ref q7, .ref q8, .null, .null, .null, .null, .int 0, .int 0, .null, .null, .null, .null, .int 0, .int 0, .int 0, .int 0, .int 0, .null, .null, .long 0])), (q1, .inl (cI, 5, .inl (fun _ => 0))), (q2, .inl (cI, 5, .inl (fun _ => 0))), (q3, .inl (cI, 25, .inl (fun _ => 0))), (q4, .inl (cI, 3, .inl (fun _ => 0))), (q5, .inl (cI, 8, .inl (fun _ => 0))), (q6, .inl (cZ, 40320, .inl (fun _ => 0))), (q7, .inl (cI, 40320, .inl (fun _ => 0))), (q8, .inl (cI, 24, .inl (fun _ => 0)))] := hw
  refine lv_aload_n hx hb dX8_init_65 rfl (lv_at hl 0 rfl) ?_
  refine lv_bipush (v := (8 : Int32)) hx hb dX8_init_66 (by decide) ?_
  refine x_newa (atype := .int) C hw wAC_int rfl 0 rfl (fun _ => rfl) rfl (N := 8) (by decide) (by decide) (Nat.le_of_ble_eq_true rfl) (by rw [hR]; exact Nat.le_of_ble_eq_true rfl) (by rw [hR]; exact Nat.le_of_ble_eq_true rfl) dX8_init_68 (fun q9 H hw => ?_)
  have hw : xWd (dC, dI) A s.heap H _ [(m_ad, .inr (7, [.ref q1, .ref q2, .ref q3, .int 0, .ref q4, .ref q5, .int 0, .int 0, .ref q6, .ref q7, .ref q8, .null, .null, .null, .null, .int 0, .int 0, .null, .null, .null, .null, .int 0, .int 0, .int 0, .int 0, .int 0, .null, .null, .long 0])), (q1, .inl (cI, 5, .inl (fun _ => 0))), (q2, .inl (cI, 5, .inl (fun _ => 0))), (q3, .inl (cI, 25, .inl (fun _ => 0))), (q4, .inl (cI, 3, .inl (fun _ => 0))), (q5, .inl (cI, 8, .inl (fun _ => 0))), (q6, .inl (cZ, 40320, .inl (fun _ => 0))), (q7, .inl (cI, 40320, .inl (fun _ => 0))), (q8, .inl (cI, 24, .inl (fun _ => 0))), (q9, .inl (cI, 8, .inl (fun _ => 0)))] := hw
  refine W.widen (k := 9) (n := 80718) (Nat.le_of_ble_eq_true rfl) (Nat.le_of_ble_eq_true rfl) ?_
  refine x_putF (ci := 7) C hw inX8 tyX8 tyX8_ok nmX8 rfl 11 (by decide) lkF_X8_36 rfl rfl hmn 0 rfl rfl rfl (Nat.le_of_ble_eq_true rfl) dX8_init_70 (fun H locs hw => ?_)
  have hw : xWd (dC, dI) A s.heap H _ [(m_ad, .inr (7, [.ref q1, .ref q2, .ref q3, .int 0, .ref q4, .ref q5, .int 0, .int 0, .ref q6, .ref q7, .ref q8, .ref q9, .null, .null, .null, .int 0, .int 0, .null, .null, .null, .null, .int 0, .int 0, .int 0, .int 0, .int 0, .null, .null, .long 0])), (q1, .inl (cI, 5, .inl (fun _ => 0))), (q2, .inl (cI, 5, .inl (fun _ => 0))), (q3, .inl (cI, 25, .inl (fun _ => 0))), (q4, .inl (cI, 3, .inl (fun _ => 0))), (q5, .inl (cI, 8, .inl (fun _ => 0))), (q6, .inl (cZ, 40320, .inl (fun _ => 0))), (q7, .inl (cI, 40320, .inl (fun _ => 0))), (q8, .inl (cI, 24, .inl (fun _ => 0))), (q9, .inl (cI, 8, .inl (fun _ => 0)))] := hw
  refine lv_aload_n hx hb dX8_init_73 rfl (lv_at hl 0 rfl) ?_
  refine lv_bipush (v := (8 : Int32)) hx hb dX8_init_74 (by decide) ?_
  refine x_newa (atype := .int) C hw wAC_int rfl 0 rfl (fun _ => rfl) rfl (N := 8) (by decide) (by decide) (Nat.le_of_ble_eq_true rfl) (by rw [hR]; exact Nat.le_of_ble_eq_true rfl) (by rw [hR]; exact Nat.le_of_ble_eq_true rfl) dX8_init_76 (fun q10 H hw => ?_)
  have hw : xWd (dC, dI) A s.heap H _ [(m_ad, .inr (7, [.ref q1, .ref q2, .ref q3, .int 0, .ref q4, .ref q5, .int 0, .int 0, .ref q6, .ref q7, .ref q8, .ref q9, .null, .null, .null, .int 0, .int 0, .null, .null, .null, .null, .int 0, .int 0, .int 0, .int 0, .int 0, .null, .null, .long 0])), (q1, .inl (cI, 5, .inl (fun _ => 0))), (q2, .inl (cI, 5, .inl (fun _ => 0))), (q3, .inl (cI, 25, .inl (fun _ => 0))), (q4, .inl (cI, 3, .inl (fun _ => 0))), (q5, .inl (cI, 8, .inl (fun _ => 0))), (q6, .inl (cZ, 40320, .inl (fun _ => 0))), (q7, .inl (cI, 40320, .inl (fun _ => 0))), (q8, .inl (cI, 24, .inl (fun _ => 0))), (q9, .inl (cI, 8, .inl (fun _ => 0))), (q10, .inl (cI, 8, .inl (fun _ => 0)))] := hw
  refine W.widen (k := 10) (n := 80726) (Nat.le_of_ble_eq_true rfl) (Nat.le_of_ble_eq_true rfl) ?_
  refine x_putF (ci := 7) C hw inX8 tyX8 tyX8_ok nmX8 rfl 12 (by decide) lkF_X8_39 rfl rfl hmn 0 rfl rfl rfl (Nat.le_of_ble_eq_true rfl) dX8_init_78 (fun H locs hw => ?_)
  have hw : xWd (dC, dI) A s.heap H _ [(m_ad, .inr (7, [.ref q1, .ref q2, .ref q3, .int 0, .ref q4, .ref q5, .int 0, .int 0, .ref q6, .ref q7, .ref q8, .ref q9, .ref q10, .null, .null, .int 0, .int 0, .null, .null, .null, .null, .int 0, .int 0, .int 0, .int 0, .int 0, .null, .null, .long 0])), (q1, .inl (cI, 5, .inl (fun _ => 0))), (q2, .inl (cI, 5, .inl (fun _ => 0))), (q3, .inl (cI, 25, .inl (fun _ => 0))), (q4, .inl (cI, 3, .inl (fun _ => 0))), (q5, .inl (cI, 8, .inl (fun _ => 0))), (q6, .inl (cZ, 40320, .inl (fun _ => 0))), (q7, .inl (cI, 40320, .inl (fun _ => 0))), (q8, .inl (cI, 24, .inl (fun _ => 0))), (q9, .inl (cI, 8, .inl (fun _ => 0))), (q10, .inl (cI, 8, .inl (fun _ => 0)))] := hw
  refine lv_aload_n hx hb dX8_init_81 rfl (lv_at hl 0 rfl) ?_
  refine lv_sipush (v := (256 : Int32)) hx hb dX8_init_82 (by decide) ?_
  refine x_newa (atype := .boolean) C hw wAC_boolean rfl 1 rfl (fun _ => rfl) rfl (N := 256) (by decide) (by decide) (Nat.le_of_ble_eq_true rfl) (by rw [hR]; exact Nat.le_of_ble_eq_true rfl) (by rw [hR]; exact Nat.le_of_ble_eq_true rfl) dX8_init_85 (fun q11 H hw => ?_)
  have hw : xWd (dC, dI) A s.heap H _ [(m_ad, .inr (7, [.ref q1, .ref q2, .ref q3, .int 0, .ref q4, .ref q5, .int 0, .int 0, .ref q6, .ref q7, .ref q8, .ref q9, .ref q10, .null, .null, .int 0, .int 0, .null, .null, .null, .null, .int 0, .int 0, .int 0, .int 0, .int 0, .null, .null, .long 0])), (q1, .inl (cI, 5, .inl (fun _ => 0))), (q2, .inl (cI, 5, .inl (fun _ => 0))), (q3, .inl (cI, 25, .inl (fun _ => 0))), (q4, .inl (cI, 3, .inl (fun _ => 0))), (q5, .inl (cI, 8, .inl (fun _ => 0))), (q6, .inl (cZ, 40320, .inl (fun _ => 0))), (q7, .inl (cI, 40320, .inl (fun _ => 0))), (q8, .inl (cI, 24, .inl (fun _ => 0))), (q9, .inl (cI, 8, .inl (fun _ => 0))), (q10, .inl (cI, 8, .inl (fun _ => 0))), (q11, .inl (cZ, 256, .inl (fun _ => 0)))] := hw
  refine W.widen (k := 11) (n := 80982) (Nat.le_of_ble_eq_true rfl) (Nat.le_of_ble_eq_true rfl) ?_
  refine x_putF (ci := 7) C hw inX8 tyX8 tyX8_ok nmX8 rfl 13 (by decide) lkF_X8_42 rfl rfl hmn 0 rfl rfl rfl (Nat.le_of_ble_eq_true rfl) dX8_init_87 (fun H locs hw => ?_)
  have hw : xWd (dC, dI) A s.heap H _ [(m_ad, .inr (7, [.ref q1, .ref q2, .ref q3, .int 0, .ref q4, .ref q5, .int 0, .int 0, .ref q6, .ref q7, .ref q8, .ref q9, .ref q10, .ref q11, .null, .int 0, .int 0, .null, .null, .null, .null, .int 0, .int 0, .int 0, .int 0, .int 0, .null, .null, .long 0])), (q1, .inl (cI, 5, .inl (fun _ => 0))), (q2, .inl (cI, 5, .inl (fun _ => 0))), (q3, .inl (cI, 25, .inl (fun _ => 0))), (q4, .inl (cI, 3, .inl (fun _ => 0))), (q5, .inl (cI, 8, .inl (fun _ => 0))), (q6, .inl (cZ, 40320, .inl (fun _ => 0))), (q7, .inl (cI, 40320, .inl (fun _ => 0))), (q8, .inl (cI, 24, .inl (fun _ => 0))), (q9, .inl (cI, 8, .inl (fun _ => 0))), (q10, .inl (cI, 8, .inl (fun _ => 0))), (q11, .inl (cZ, 256, .inl (fun _ => 0)))] := hw
  refine lv_aload_n hx hb dX8_init_90 rfl (lv_at hl 0 rfl) ?_
  refine lv_sipush (v := (256 : Int32)) hx hb dX8_init_91 (by decide) ?_
  refine x_newa (atype := .int) C hw wAC_int rfl 0 rfl (fun _ => rfl) rfl (N := 256) (by decide) (by decide) (Nat.le_of_ble_eq_true rfl) (by rw [hR]; exact Nat.le_of_ble_eq_true rfl) (by rw [hR]; exact Nat.le_of_ble_eq_true rfl) dX8_init_94 (fun q12 H hw => ?_)
  have hw : xWd (dC, dI) A s.heap H _ [(m_ad, .inr (7, [.ref q1, .ref q2, .ref q3, .int 0, .ref q4, .ref q5, .int 0, .int 0, .ref q6, .ref q7, .ref q8, .ref q9, .ref q10, .ref q11, .null, .int 0, .int 0, .null, .null, .null, .null, .int 0, .int 0, .int 0, .int 0, .int 0, .null, .null, .long 0])), (q1, .inl (cI, 5, .inl (fun _ => 0))), (q2, .inl (cI, 5, .inl (fun _ => 0))), (q3, .inl (cI, 25, .inl (fun _ => 0))), (q4, .inl (cI, 3, .inl (fun _ => 0))), (q5, .inl (cI, 8, .inl (fun _ => 0))), (q6, .inl (cZ, 40320, .inl (fun _ => 0))), (q7, .inl (cI, 40320, .inl (fun _ => 0))), (q8, .inl (cI, 24, .inl (fun _ => 0))), (q9, .inl (cI, 8, .inl (fun _ => 0))), (q10, .inl (cI, 8, .inl (fun _ => 0))), (q11, .inl (cZ, 256, .inl (fun _ => 0))), (q12, .inl (cI, 256, .inl (fun _ => 0)))] := hw
  refine W.widen (k := 12) (n := 81238) (Nat.le_of_ble_eq_true rfl) (Nat.le_of_ble_eq_true rfl) ?_
  refine x_putF (ci := 7) C hw inX8 tyX8 tyX8_ok nmX8 rfl 14 (by decide) lkF_X8_45 rfl rfl hmn 0 rfl rfl rfl (Nat.le_of_ble_eq_true rfl) dX8_init_96 (fun H locs hw => ?_)
  have hw : xWd (dC, dI) A s.heap H _ [(m_ad, .inr (7, [.ref q1, .ref q2, .ref q3, .int 0, .ref q4, .ref q5, .int 0, .int 0, .ref q6, .ref q7, .ref q8, .ref q9, .ref q10, .ref q11, .ref q12, .int 0, .int 0, .null, .null, .null, .null, .int 0, .int 0, .int 0, .int 0, .int 0, .null, .null, .long 0])), (q1, .inl (cI, 5, .inl (fun _ => 0))), (q2, .inl (cI, 5, .inl (fun _ => 0))), (q3, .inl (cI, 25, .inl (fun _ => 0))), (q4, .inl (cI, 3, .inl (fun _ => 0))), (q5, .inl (cI, 8, .inl (fun _ => 0))), (q6, .inl (cZ, 40320, .inl (fun _ => 0))), (q7, .inl (cI, 40320, .inl (fun _ => 0))), (q8, .inl (cI, 24, .inl (fun _ => 0))), (q9, .inl (cI, 8, .inl (fun _ => 0))), (q10, .inl (cI, 8, .inl (fun _ => 0))), (q11, .inl (cZ, 256, .inl (fun _ => 0))), (q12, .inl (cI, 256, .inl (fun _ => 0)))] := hw
  refine lv_aload_n hx hb dX8_init_99 rfl (lv_at hl 0 rfl) ?_
  refine lv_sipush (v := (256 : Int32)) hx hb dX8_init_100 (by decide) ?_
  refine x_newa (atype := .int) C hw wAC_int rfl 0 rfl (fun _ => rfl) rfl (N := 256) (by decide) (by decide) (Nat.le_of_ble_eq_true rfl) (by rw [hR]; exact Nat.le_of_ble_eq_true rfl) (by rw [hR]; exact Nat.le_of_ble_eq_true rfl) dX8_init_103 (fun q13 H hw => ?_)
  have hw : xWd (dC, dI) A s.heap H _ [(m_ad, .inr (7, [.ref q1, .ref q2, .ref q3, .int 0, .ref q4, .ref q5, .int 0, .int 0, .ref q6, .ref q7, .ref q8, .ref q9, .ref q10, .ref q11, .ref q12, .int 0, .int 0, .null, .null, .null, .null, .int 0, .int 0, .int 0, .int 0, .int 0, .null, .null, .long 0])), (q1, .inl (cI, 5, .inl (fun _ => 0))), (q2, .inl (cI, 5, .inl (fun _ => 0))), (q3, .inl (cI, 25, .inl (fun _ => 0))), (q4, .inl (cI, 3, .inl (fun _ => 0))), (q5, .inl (cI, 8, .inl (fun _ => 0))), (q6, .inl (cZ, 40320, .inl (fun _ => 0))), (q7, .inl (cI, 40320, .inl (fun _ => 0))), (q8, .inl (cI, 24, .inl (fun _ => 0))), (q9, .inl (cI, 8, .inl (fun _ => 0))), (q10, .inl (cI, 8, .inl (fun _ => 0))), (q11, .inl (cZ, 256, .inl (fun _ => 0))), (q12, .inl (cI, 256, .inl (fun _ => 0))), (q13, .inl (cI, 256, .inl (fun _ => 0)))] := hw
  refine W.widen (k := 13) (n := 81494) (Nat.le_of_ble_eq_true rfl) (Nat.le_of_ble_eq_true rfl) ?_
  refine x_putF (ci := 7) C hw inX8 tyX8 tyX8_ok nmX8 rfl 17 (by decide) lkF_X8_48 rfl rfl hmn 0 rfl rfl rfl (Nat.le_of_ble_eq_true rfl) dX8_init_105 (fun H locs hw => ?_)
  have hw : xWd (dC, dI) A s.heap H _ [(m_ad, .inr (7, [.ref q1, .ref q2, .ref q3, .int 0, .ref q4, .ref q5, .int 0, .int 0, .ref q6, .ref q7, .ref q8, .ref q9, .ref q10, .ref q11, .ref q12, .int 0, .int 0, .ref q13, .null, .null, .null, .int 0, .int 0, .int 0, .int 0, .int 0, .null, .null, .long 0])), (q1, .inl (cI, 5, .inl (fun _ => 0))), (q2, .inl (cI, 5, .inl (fun _ => 0))), (q3, .inl (cI, 25, .inl (fun _ => 0))), (q4, .inl (cI, 3, .inl (fun _ => 0))), (q5, .inl (cI, 8, .inl (fun _ => 0))), (q6, .inl (cZ, 40320, .inl (fun _ => 0))), (q7, .inl (cI, 40320, .inl (fun _ => 0))), (q8, .inl (cI, 24, .inl (fun _ => 0))), (q9, .inl (cI, 8, .inl (fun _ => 0))), (q10, .inl (cI, 8, .inl (fun _ => 0))), (q11, .inl (cZ, 256, .inl (fun _ => 0))), (q12, .inl (cI, 256, .inl (fun _ => 0))), (q13, .inl (cI, 256, .inl (fun _ => 0)))] := hw
  refine lv_aload_n hx hb dX8_init_108 rfl (lv_at hl 0 rfl) ?_
  refine lv_sipush (v := (256 : Int32)) hx hb dX8_init_109 (by decide) ?_
  refine x_newa (atype := .int) C hw wAC_int rfl 0 rfl (fun _ => rfl) rfl (N := 256) (by decide) (by decide) (Nat.le_of_ble_eq_true rfl) (by rw [hR]; exact Nat.le_of_ble_eq_true rfl) (by rw [hR]; exact Nat.le_of_ble_eq_true rfl) dX8_init_112 (fun q14 H hw => ?_)
  have hw : xWd (dC, dI) A s.heap H _ [(m_ad, .inr (7, [.ref q1, .ref q2, .ref q3, .int 0, .ref q4, .ref q5, .int 0, .int 0, .ref q6, .ref q7, .ref q8, .ref q9, .ref q10, .ref q11, .ref q12, .int 0, .int 0, .ref q13, .null, .null, .null, .int 0, .int 0, .int 0, .int 0, .int 0, .null, .null, .long 0])), (q1, .inl (cI, 5, .inl (fun _ => 0))), (q2, .inl (cI, 5, .inl (fun _ => 0))), (q3, .inl (cI, 25, .inl (fun _ => 0))), (q4, .inl (cI, 3, .inl (fun _ => 0))), (q5, .inl (cI, 8, .inl (fun _ => 0))), (q6, .inl (cZ, 40320, .inl (fun _ => 0))), (q7, .inl (cI, 40320, .inl (fun _ => 0))), (q8, .inl (cI, 24, .inl (fun _ => 0))), (q9, .inl (cI, 8, .inl (fun _ => 0))), (q10, .inl (cI, 8, .inl (fun _ => 0))), (q11, .inl (cZ, 256, .inl (fun _ => 0))), (q12, .inl (cI, 256, .inl (fun _ => 0))), (q13, .inl (cI, 256, .inl (fun _ => 0))), (q14, .inl (cI, 256, .inl (fun _ => 0)))] := hw
  refine W.widen (k := 14) (n := 81750) (Nat.le_of_ble_eq_true rfl) (Nat.le_of_ble_eq_true rfl) ?_
  refine x_putF (ci := 7) C hw inX8 tyX8 tyX8_ok nmX8 rfl 18 (by decide) lkF_X8_51 rfl rfl hmn 0 rfl rfl rfl (Nat.le_of_ble_eq_true rfl) dX8_init_114 (fun H locs hw => ?_)
  have hw : xWd (dC, dI) A s.heap H _ [(m_ad, .inr (7, [.ref q1, .ref q2, .ref q3, .int 0, .ref q4, .ref q5, .int 0, .int 0, .ref q6, .ref q7, .ref q8, .ref q9, .ref q10, .ref q11, .ref q12, .int 0, .int 0, .ref q13, .ref q14, .null, .null, .int 0, .int 0, .int 0, .int 0, .int 0, .null, .null, .long 0])), (q1, .inl (cI, 5, .inl (fun _ => 0))), (q2, .inl (cI, 5, .inl (fun _ => 0))), (q3, .inl (cI, 25, .inl (fun _ => 0))), (q4, .inl (cI, 3, .inl (fun _ => 0))), (q5, .inl (cI, 8, .inl (fun _ => 0))), (q6, .inl (cZ, 40320, .inl (fun _ => 0))), (q7, .inl (cI, 40320, .inl (fun _ => 0))), (q8, .inl (cI, 24, .inl (fun _ => 0))), (q9, .inl (cI, 8, .inl (fun _ => 0))), (q10, .inl (cI, 8, .inl (fun _ => 0))), (q11, .inl (cZ, 256, .inl (fun _ => 0))), (q12, .inl (cI, 256, .inl (fun _ => 0))), (q13, .inl (cI, 256, .inl (fun _ => 0))), (q14, .inl (cI, 256, .inl (fun _ => 0)))] := hw
  refine lv_aload_n hx hb dX8_init_117 rfl (lv_at hl 0 rfl) ?_
  refine lv_bipush (v := (10 : Int32)) hx hb dX8_init_118 (by decide) ?_
  refine x_newa (atype := .int) C hw wAC_int rfl 0 rfl (fun _ => rfl) rfl (N := 10) (by decide) (by decide) (Nat.le_of_ble_eq_true rfl) (by rw [hR]; exact Nat.le_of_ble_eq_true rfl) (by rw [hR]; exact Nat.le_of_ble_eq_true rfl) dX8_init_120 (fun q15 H hw => ?_)
  have hw : xWd (dC, dI) A s.heap H _ [(m_ad, .inr (7, [.ref q1, .ref q2, .ref q3, .int 0, .ref q4, .ref q5, .int 0, .int 0, .ref q6, .ref q7, .ref q8, .ref q9, .ref q10, .ref q11, .ref q12, .int 0, .int 0, .ref q13, .ref q14, .null, .null, .int 0, .int 0, .int 0, .int 0, .int 0, .null, .null, .long 0])), (q1, .inl (cI, 5, .inl (fun _ => 0))), (q2, .inl (cI, 5, .inl (fun _ => 0))), (q3, .inl (cI, 25, .inl (fun _ => 0))), (q4, .inl (cI, 3, .inl (fun _ => 0))), (q5, .inl (cI, 8, .inl (fun _ => 0))), (q6, .inl (cZ, 40320, .inl (fun _ => 0))), (q7, .inl (cI, 40320, .inl (fun _ => 0))), (q8, .inl (cI, 24, .inl (fun _ => 0))), (q9, .inl (cI, 8, .inl (fun _ => 0))), (q10, .inl (cI, 8, .inl (fun _ => 0))), (q11, .inl (cZ, 256, .inl (fun _ => 0))), (q12, .inl (cI, 256, .inl (fun _ => 0))), (q13, .inl (cI, 256, .inl (fun _ => 0))), (q14, .inl (cI, 256, .inl (fun _ => 0))), (q15, .inl (cI, 10, .inl (fun _ => 0)))] := hw
  refine W.widen (k := 15) (n := 81760) (Nat.le_of_ble_eq_true rfl) (Nat.le_of_ble_eq_true rfl) ?_
  refine x_putF (ci := 7) C hw inX8 tyX8 tyX8_ok nmX8 rfl 19 (by decide) lkF_X8_54 rfl rfl hmn 0 rfl rfl rfl (Nat.le_of_ble_eq_true rfl) dX8_init_122 (fun H locs hw => ?_)
  have hw : xWd (dC, dI) A s.heap H _ [(m_ad, .inr (7, [.ref q1, .ref q2, .ref q3, .int 0, .ref q4, .ref q5, .int 0, .int 0, .ref q6, .ref q7, .ref q8, .ref q9, .ref q10, .ref q11, .ref q12, .int 0, .int 0, .ref q13, .ref q14, .ref q15, .null, .int 0, .int 0, .int 0, .int 0, .int 0, .null, .null, .long 0])), (q1, .inl (cI, 5, .inl (fun _ => 0))), (q2, .inl (cI, 5, .inl (fun _ => 0))), (q3, .inl (cI, 25, .inl (fun _ => 0))), (q4, .inl (cI, 3, .inl (fun _ => 0))), (q5, .inl (cI, 8, .inl (fun _ => 0))), (q6, .inl (cZ, 40320, .inl (fun _ => 0))), (q7, .inl (cI, 40320, .inl (fun _ => 0))), (q8, .inl (cI, 24, .inl (fun _ => 0))), (q9, .inl (cI, 8, .inl (fun _ => 0))), (q10, .inl (cI, 8, .inl (fun _ => 0))), (q11, .inl (cZ, 256, .inl (fun _ => 0))), (q12, .inl (cI, 256, .inl (fun _ => 0))), (q13, .inl (cI, 256, .inl (fun _ => 0))), (q14, .inl (cI, 256, .inl (fun _ => 0))), (q15, .inl (cI, 10, .inl (fun _ => 0)))] := hw
  refine lv_aload_n hx hb dX8_init_125 rfl (lv_at hl 0 rfl) ?_
  refine lv_bipush (v := (80 : Int32)) hx hb dX8_init_126 (by decide) ?_
  refine x_newa (atype := .int) C hw wAC_int rfl 0 rfl (fun _ => rfl) rfl (N := 80) (by decide) (by decide) (Nat.le_of_ble_eq_true rfl) (by rw [hR]; exact Nat.le_of_ble_eq_true rfl) (by rw [hR]; exact Nat.le_of_ble_eq_true rfl) dX8_init_128 (fun q16 H hw => ?_)
  have hw : xWd (dC, dI) A s.heap H _ [(m_ad, .inr (7, [.ref q1, .ref q2, .ref q3, .int 0, .ref q4, .ref q5, .int 0, .int 0, .ref q6, .ref q7, .ref q8, .ref q9, .ref q10, .ref q11, .ref q12, .int 0, .int 0, .ref q13, .ref q14, .ref q15, .null, .int 0, .int 0, .int 0, .int 0, .int 0, .null, .null, .long 0])), (q1, .inl (cI, 5, .inl (fun _ => 0))), (q2, .inl (cI, 5, .inl (fun _ => 0))), (q3, .inl (cI, 25, .inl (fun _ => 0))), (q4, .inl (cI, 3, .inl (fun _ => 0))), (q5, .inl (cI, 8, .inl (fun _ => 0))), (q6, .inl (cZ, 40320, .inl (fun _ => 0))), (q7, .inl (cI, 40320, .inl (fun _ => 0))), (q8, .inl (cI, 24, .inl (fun _ => 0))), (q9, .inl (cI, 8, .inl (fun _ => 0))), (q10, .inl (cI, 8, .inl (fun _ => 0))), (q11, .inl (cZ, 256, .inl (fun _ => 0))), (q12, .inl (cI, 256, .inl (fun _ => 0))), (q13, .inl (cI, 256, .inl (fun _ => 0))), (q14, .inl (cI, 256, .inl (fun _ => 0))), (q15, .inl (cI, 10, .inl (fun _ => 0))), (q16, .inl (cI, 80, .inl (fun _ => 0)))] := hw
  refine W.widen (k := 16) (n := 81840) (Nat.le_of_ble_eq_true rfl) (Nat.le_of_ble_eq_true rfl) ?_
  refine x_putF (ci := 7) C hw inX8 tyX8 tyX8_ok nmX8 rfl 20 (by decide) lkF_X8_57 rfl rfl hmn 0 rfl rfl rfl (Nat.le_of_ble_eq_true rfl) dX8_init_130 (fun H locs hw => ?_)
  have hw : xWd (dC, dI) A s.heap H _ [(m_ad, .inr (7, [.ref q1, .ref q2, .ref q3, .int 0, .ref q4, .ref q5, .int 0, .int 0, .ref q6, .ref q7, .ref q8, .ref q9, .ref q10, .ref q11, .ref q12, .int 0, .int 0, .ref q13, .ref q14, .ref q15, .ref q16, .int 0, .int 0, .int 0, .int 0, .int 0, .null, .null, .long 0])), (q1, .inl (cI, 5, .inl (fun _ => 0))), (q2, .inl (cI, 5, .inl (fun _ => 0))), (q3, .inl (cI, 25, .inl (fun _ => 0))), (q4, .inl (cI, 3, .inl (fun _ => 0))), (q5, .inl (cI, 8, .inl (fun _ => 0))), (q6, .inl (cZ, 40320, .inl (fun _ => 0))), (q7, .inl (cI, 40320, .inl (fun _ => 0))), (q8, .inl (cI, 24, .inl (fun _ => 0))), (q9, .inl (cI, 8, .inl (fun _ => 0))), (q10, .inl (cI, 8, .inl (fun _ => 0))), (q11, .inl (cZ, 256, .inl (fun _ => 0))), (q12, .inl (cI, 256, .inl (fun _ => 0))), (q13, .inl (cI, 256, .inl (fun _ => 0))), (q14, .inl (cI, 256, .inl (fun _ => 0))), (q15, .inl (cI, 10, .inl (fun _ => 0))), (q16, .inl (cI, 80, .inl (fun _ => 0)))] := hw
  refine lv_aload_n hx hb dX8_init_133 rfl (lv_at hl 0 rfl) ?_
  refine lv_bipush (v := (40 : Int32)) hx hb dX8_init_134 (by decide) ?_
  refine x_newa (atype := .int) C hw wAC_int rfl 0 rfl (fun _ => rfl) rfl (N := 40) (by decide) (by decide) (Nat.le_of_ble_eq_true rfl) (by rw [hR]; exact Nat.le_of_ble_eq_true rfl) (by rw [hR]; exact Nat.le_of_ble_eq_true rfl) dX8_init_136 (fun q17 H hw => ?_)
  have hw : xWd (dC, dI) A s.heap H _ [(m_ad, .inr (7, [.ref q1, .ref q2, .ref q3, .int 0, .ref q4, .ref q5, .int 0, .int 0, .ref q6, .ref q7, .ref q8, .ref q9, .ref q10, .ref q11, .ref q12, .int 0, .int 0, .ref q13, .ref q14, .ref q15, .ref q16, .int 0, .int 0, .int 0, .int 0, .int 0, .null, .null, .long 0])), (q1, .inl (cI, 5, .inl (fun _ => 0))), (q2, .inl (cI, 5, .inl (fun _ => 0))), (q3, .inl (cI, 25, .inl (fun _ => 0))), (q4, .inl (cI, 3, .inl (fun _ => 0))), (q5, .inl (cI, 8, .inl (fun _ => 0))), (q6, .inl (cZ, 40320, .inl (fun _ => 0))), (q7, .inl (cI, 40320, .inl (fun _ => 0))), (q8, .inl (cI, 24, .inl (fun _ => 0))), (q9, .inl (cI, 8, .inl (fun _ => 0))), (q10, .inl (cI, 8, .inl (fun _ => 0))), (q11, .inl (cZ, 256, .inl (fun _ => 0))), (q12, .inl (cI, 256, .inl (fun _ => 0))), (q13, .inl (cI, 256, .inl (fun _ => 0))), (q14, .inl (cI, 256, .inl (fun _ => 0))), (q15, .inl (cI, 10, .inl (fun _ => 0))), (q16, .inl (cI, 80, .inl (fun _ => 0))), (q17, .inl (cI, 40, .inl (fun _ => 0)))] := hw
  refine W.widen (k := 17) (n := 81880) (Nat.le_of_ble_eq_true rfl) (Nat.le_of_ble_eq_true rfl) ?_
  refine x_putF (ci := 7) C hw inX8 tyX8 tyX8_ok nmX8 rfl 26 (by decide) lkF_X8_60 rfl rfl hmn 0 rfl rfl rfl (Nat.le_of_ble_eq_true rfl) dX8_init_138 (fun H locs hw => ?_)
  have hw : xWd (dC, dI) A s.heap H _ [(m_ad, .inr (7, [.ref q1, .ref q2, .ref q3, .int 0, .ref q4, .ref q5, .int 0, .int 0, .ref q6, .ref q7, .ref q8, .ref q9, .ref q10, .ref q11, .ref q12, .int 0, .int 0, .ref q13, .ref q14, .ref q15, .ref q16, .int 0, .int 0, .int 0, .int 0, .int 0, .ref q17, .null, .long 0])), (q1, .inl (cI, 5, .inl (fun _ => 0))), (q2, .inl (cI, 5, .inl (fun _ => 0))), (q3, .inl (cI, 25, .inl (fun _ => 0))), (q4, .inl (cI, 3, .inl (fun _ => 0))), (q5, .inl (cI, 8, .inl (fun _ => 0))), (q6, .inl (cZ, 40320, .inl (fun _ => 0))), (q7, .inl (cI, 40320, .inl (fun _ => 0))), (q8, .inl (cI, 24, .inl (fun _ => 0))), (q9, .inl (cI, 8, .inl (fun _ => 0))), (q10, .inl (cI, 8, .inl (fun _ => 0))), (q11, .inl (cZ, 256, .inl (fun _ => 0))), (q12, .inl (cI, 256, .inl (fun _ => 0))), (q13, .inl (cI, 256, .inl (fun _ => 0))), (q14, .inl (cI, 256, .inl (fun _ => 0))), (q15, .inl (cI, 10, .inl (fun _ => 0))), (q16, .inl (cI, 80, .inl (fun _ => 0))), (q17, .inl (cI, 40, .inl (fun _ => 0)))] := hw
  refine lv_aload_n hx hb dX8_init_141 rfl (lv_at hl 0 rfl) ?_
  refine lv_bipush (v := (40 : Int32)) hx hb dX8_init_142 (by decide) ?_
  refine x_newa (atype := .int) C hw wAC_int rfl 0 rfl (fun _ => rfl) rfl (N := 40) (by decide) (by decide) (Nat.le_of_ble_eq_true rfl) (by rw [hR]; exact Nat.le_of_ble_eq_true rfl) (by rw [hR]; exact Nat.le_of_ble_eq_true rfl) dX8_init_144 (fun q18 H hw => ?_)
  have hw : xWd (dC, dI) A s.heap H _ [(m_ad, .inr (7, [.ref q1, .ref q2, .ref q3, .int 0, .ref q4, .ref q5, .int 0, .int 0, .ref q6, .ref q7, .ref q8, .ref q9, .ref q10, .ref q11, .ref q12, .int 0, .int 0, .ref q13, .ref q14, .ref q15, .ref q16, .int 0, .int 0, .int 0, .int 0, .int 0, .ref q17, .null, .long 0])), (q1, .inl (cI, 5, .inl (fun _ => 0))), (q2, .inl (cI, 5, .inl (fun _ => 0))), (q3, .inl (cI, 25, .inl (fun _ => 0))), (q4, .inl (cI, 3, .inl (fun _ => 0))), (q5, .inl (cI, 8, .inl (fun _ => 0))), (q6, .inl (cZ, 40320, .inl (fun _ => 0))), (q7, .inl (cI, 40320, .inl (fun _ => 0))), (q8, .inl (cI, 24, .inl (fun _ => 0))), (q9, .inl (cI, 8, .inl (fun _ => 0))), (q10, .inl (cI, 8, .inl (fun _ => 0))), (q11, .inl (cZ, 256, .inl (fun _ => 0))), (q12, .inl (cI, 256, .inl (fun _ => 0))), (q13, .inl (cI, 256, .inl (fun _ => 0))), (q14, .inl (cI, 256, .inl (fun _ => 0))), (q15, .inl (cI, 10, .inl (fun _ => 0))), (q16, .inl (cI, 80, .inl (fun _ => 0))), (q17, .inl (cI, 40, .inl (fun _ => 0))), (q18, .inl (cI, 40, .inl (fun _ => 0)))] := hw
  refine W.widen (k := 18) (n := 81920) (Nat.le_of_ble_eq_true rfl) (Nat.le_of_ble_eq_true rfl) ?_
  refine x_putF (ci := 7) C hw inX8 tyX8 tyX8_ok nmX8 rfl 27 (by decide) lkF_X8_63 rfl rfl hmn 0 rfl rfl rfl (Nat.le_of_ble_eq_true rfl) dX8_init_146 (fun H locs hw => ?_)
  have hw : xWd (dC, dI) A s.heap H _ [(m_ad, .inr (7, [.ref q1, .ref q2, .ref q3, .int 0, .ref q4, .ref q5, .int 0, .int 0, .ref q6, .ref q7, .ref q8, .ref q9, .ref q10, .ref q11, .ref q12, .int 0, .int 0, .ref q13, .ref q14, .ref q15, .ref q16, .int 0, .int 0, .int 0, .int 0, .int 0, .ref q17, .ref q18, .long 0])), (q1, .inl (cI, 5, .inl (fun _ => 0))), (q2, .inl (cI, 5, .inl (fun _ => 0))), (q3, .inl (cI, 25, .inl (fun _ => 0))), (q4, .inl (cI, 3, .inl (fun _ => 0))), (q5, .inl (cI, 8, .inl (fun _ => 0))), (q6, .inl (cZ, 40320, .inl (fun _ => 0))), (q7, .inl (cI, 40320, .inl (fun _ => 0))), (q8, .inl (cI, 24, .inl (fun _ => 0))), (q9, .inl (cI, 8, .inl (fun _ => 0))), (q10, .inl (cI, 8, .inl (fun _ => 0))), (q11, .inl (cZ, 256, .inl (fun _ => 0))), (q12, .inl (cI, 256, .inl (fun _ => 0))), (q13, .inl (cI, 256, .inl (fun _ => 0))), (q14, .inl (cI, 256, .inl (fun _ => 0))), (q15, .inl (cI, 10, .inl (fun _ => 0))), (q16, .inl (cI, 80, .inl (fun _ => 0))), (q17, .inl (cI, 40, .inl (fun _ => 0))), (q18, .inl (cI, 40, .inl (fun _ => 0)))] := hw
  refine lv_aload_n hx hb dX8_init_149 rfl (lv_at hl 0 rfl) ?_
  refine x_get (ci := 7) C hw inX8 rfl 0 (by decide) lkF_X8_7 rfl 0 rfl rfl dX8_init_150 ?_
  refine lv_iconst (v := (0 : Int32)) hx hb dX8_init_153 (by decide) ?_
  refine lv_iconst (v := (5 : Int32)) hx hb dX8_init_154 (by decide) ?_
  refine x_iask C hw 1 0 rfl rfl (k := 0) (by decide) (vp_in_iff.mpr (by decide)) dX8_init_155 (fun H locs hw => ?_)
  have hw : xWd (dC, dI) A s.heap H _ [(m_ad, .inr (7, [.ref q1, .ref q2, .ref q3, .int 0, .ref q4, .ref q5, .int 0, .int 0, .ref q6, .ref q7, .ref q8, .ref q9, .ref q10, .ref q11, .ref q12, .int 0, .int 0, .ref q13, .ref q14, .ref q15, .ref q16, .int 0, .int 0, .int 0, .int 0, .int 0, .ref q17, .ref q18, .long 0])), (q1, .inl (cI, 5, .inl (upd (fun _ => 0) 0 (5 : Int32)))), (q2, .inl (cI, 5, .inl (fun _ => 0))), (q3, .inl (cI, 25, .inl (fun _ => 0))), (q4, .inl (cI, 3, .inl (fun _ => 0))), (q5, .inl (cI, 8, .inl (fun _ => 0))), (q6, .inl (cZ, 40320, .inl (fun _ => 0))), (q7, .inl (cI, 40320, .inl (fun _ => 0))), (q8, .inl (cI, 24, .inl (fun _ => 0))), (q9, .inl (cI, 8, .inl (fun _ => 0))), (q10, .inl (cI, 8, .inl (fun _ => 0))), (q11, .inl (cZ, 256, .inl (fun _ => 0))), (q12, .inl (cI, 256, .inl (fun _ => 0))), (q13, .inl (cI, 256, .inl (fun _ => 0))), (q14, .inl (cI, 256, .inl (fun _ => 0))), (q15, .inl (cI, 10, .inl (fun _ => 0))), (q16, .inl (cI, 80, .inl (fun _ => 0))), (q17, .inl (cI, 40, .inl (fun _ => 0))), (q18, .inl (cI, 40, .inl (fun _ => 0)))] := hw
  have hw : xWd (dC, dI) A s.heap H _ ((fun (u : (Nat → Nat)) => (wM cI cZ cB cO m_ad u (upd (fun _ => 0) 0 (5 : Int32)) (fun _ => 0) (fun _ => 0) (0 : Int32) (fun _ => 0) (fun _ => 0) (0 : Int32) (0 : Int32) (fun _ => 0) (fun _ => 0) (fun _ => 0) (fun _ => 0) (fun _ => 0) (fun _ => 0) (fun _ => 0) (0 : Int32) (0 : Int32) (fun _ => 0) (fun _ => 0) (fun _ => 0) (fun _ => 0) (0 : Int32) (0 : Int32) (0 : Int32) (0 : Int32) (0 : Int32) (fun _ => 0) (fun _ => 0) (0 : Int64))) (fun k => if k = 0 then q1 else if k = 1 then q2 else if k = 2 then q3 else if k = 4 then q4 else if k = 5 then q5 else if k = 8 then q6 else if k = 9 then q7 else if k = 10 then q8 else if k = 11 then q9 else if k = 12 then q10 else if k = 13 then q11 else if k = 14 then q12 else if k = 17 then q13 else if k = 18 then q14 else if k = 19 then q15 else if k = 20 then q16 else if k = 26 then q17 else if k = 27 then q18 else 0)) := hw.sub [0, 1, 2, 3, 4, 5, 6, 7, 8, 9, 10, 11, 12, 13, 14, 15, 16, 17, 18] (by decide) rfl
  exact x_retI (fun k => if k = 0 then q1 else if k = 1 then q2 else if k = 2 then q3 else if k = 4 then q4 else if k = 5 then q5 else if k = 8 then q6 else if k = 9 then q7 else if k = 10 then q8 else if k = 11 then q9 else if k = 12 then q10 else if k = 13 then q11 else if k = 14 then q12 else if k = 17 then q13 else if k = 18 then q14 else if k = 19 then q15 else if k = 20 then q16 else if k = 26 then q17 else if k = 27 then q18 else 0) C hQ hA hw dX8_init_156
theorem dX3_init_0 : decode cX3_init 0 = .ok (.aload_n 0, 1) := by decide +kernel
theorem dX3_init_1 : decode cX3_init 1 = .ok (.invokespecial 3, 3) := by decide +kernel
theorem dX3_init_4 : decode cX3_init 4 = .ok (.aload_n 0, 1) := by decide +kernel
theorem dX3_init_5 : decode cX3_init 5 = .ok (.new 9, 3) := by decide +kernel
theorem dX3_init_8 : decode cX3_init 8 = .ok (.dup, 1) := by decide +kernel
theorem dX3_init_9 : decode cX3_init 9 = .ok (.invokespecial 11, 3) := by decide +kernel
theorem dX3_init_12 : decode cX3_init 12 = .ok (.putfield 12, 3) := by decide +kernel
theorem dX3_init_15 : decode cX3_init 15 = .ok (.aload_n 0, 1) := by decide +kernel
theorem dX3_init_16 : decode cX3_init 16 = .ok (.iconst 0, 1) := by decide +kernel
theorem dX3_init_17 : decode cX3_init 17 = .ok (.putfield 18, 3) := by decide +kernel
theorem dX3_init_20 : decode cX3_init 20 = .ok (.aload_n 0, 1) := by decide +kernel
theorem dX3_init_21 : decode cX3_init 21 = .ok (.iconst (-1), 1) := by decide +kernel
theorem dX3_init_22 : decode cX3_init 22 = .ok (.putfield 22, 3) := by decide +kernel
theorem dX3_init_25 : decode cX3_init 25 = .ok (.aload_n 0, 1) := by decide +kernel
theorem dX3_init_26 : decode cX3_init 26 = .ok (.iconst 0, 1) := by decide +kernel
theorem dX3_init_27 : decode cX3_init 27 = .ok (.putfield 25, 3) := by decide +kernel
theorem dX3_init_30 : decode cX3_init 30 = .ok (.aload_n 0, 1) := by decide +kernel
theorem dX3_init_31 : decode cX3_init 31 = .ok (.iconst 0, 1) := by decide +kernel
theorem dX3_init_32 : decode cX3_init 32 = .ok (.putfield 28, 3) := by decide +kernel
theorem dX3_init_35 : decode cX3_init 35 = .ok (.aload_n 0, 1) := by decide +kernel
theorem dX3_init_36 : decode cX3_init 36 = .ok (.iconst 0, 1) := by decide +kernel
theorem dX3_init_37 : decode cX3_init 37 = .ok (.putfield 31, 3) := by decide +kernel
theorem dX3_init_40 : decode cX3_init 40 = .ok (.aload_n 0, 1) := by decide +kernel
theorem dX3_init_41 : decode cX3_init 41 = .ok (.iconst 0, 1) := by decide +kernel
theorem dX3_init_42 : decode cX3_init 42 = .ok (.putfield 34, 3) := by decide +kernel
theorem dX3_init_45 : decode cX3_init 45 = .ok (.aload_n 0, 1) := by decide +kernel
theorem dX3_init_46 : decode cX3_init 46 = .ok (.iconst 0, 1) := by decide +kernel
theorem dX3_init_47 : decode cX3_init 47 = .ok (.putfield 37, 3) := by decide +kernel
theorem dX3_init_50 : decode cX3_init 50 = .ok (.return_, 1) := by decide +kernel
theorem ds_X3_init : xDs yX3_init 0 := by decide +kernel
set_option maxHeartbeats 4000000 in
set_option maxRecDepth 100000 in
theorem c_X3_init (l : Launch) (dC : Nat → ClassId) (dI : Nat → Nat → Nat) (cI cZ cB cO : ClassId) (r_ad : Nat) (sz : Nat) : Met l yX3_init (xW yX3_init cX3_init 1 none) { frames := 2, cells := 2, slots := 6, locals := 32 } (xPreI dC dI (xT cI cZ cB cO) [.ref r_ad] [(r_ad, .inr (2, [.null, .int 0, .int 0, .int 0, .int 0, .int 0, .int 0, .int 0]))] sz) (xQI dC dI (xT cI cZ cB cO) [(r_ad, .inr (2, [.null, .int 0, .int 0, .int 0, .int 0, .int 0, .int 0, .int 0]))] (fun (u : (Nat → Nat) × (Nat → Nat)) => ((wR cI cZ cB cO r_ad u.1 (0 : Int32) (-1 : Int32) (0 : Int32) (0 : Int32) (0 : Int32) (0 : Int32) (0 : Int32)) ++ (wS cI cZ cB cO (u.1 0) u.2 (5 : Int32) (0 : Int32) (fun _ => 0)))) sz) 2 6 (va_A [(r_ad, .inr (2, [.null, .int 0, .int 0, .int 0, .int 0, .int 0, .int 0, .int 0]))] sz) := by
  refine x_metI (by decide) (Nat.le_of_ble_eq_true rfl) ?_
  intro p e s m args below meth c R Q A hR hsz hA hQ hmn hZ C hw ls hl
  have hx := C.1
  have hb := C.2.1
  have hown := C.2.2.2.1
  have htb := C.2.2.2.2.1
  have hl : lv_has ls 1 [(0, .ref r_ad)] := hl
  refine lv_aload_n hx hb dX3_init_0 rfl (lv_at hl 0 rfl) ?_
  refine x_obj C lkM_X3_3 hl.1 (by rw [hR]; exact Nat.le_of_ble_eq_true rfl) (by rw [hR]; exact Nat.le_of_ble_eq_true rfl) dX3_init_1 ?_
  refine lv_aload_n hx hb dX3_init_4 rfl (lv_at hl 0 rfl) ?_
  refine x_new (ci := 3) (fs := [.int 0, .int 0, .null]) C hw inX4 tyX4 tyX4_ok lkC_X3_9 wB_X4 wN_X4 rfl (fun j hj => by rcases (show j = 0 ∨ j = 1 ∨ j = 2 by omega) with rfl | rfl | rfl <;> rfl) (by rw [hR]; exact Nat.le_of_ble_eq_true rfl) (by rw [hR]; exact Nat.le_of_ble_eq_true rfl) dX3_init_5 (fun q1 H hw => ?_)
  have hw : xWd (dC, dI) A s.heap H _ [(r_ad, .inr (2, [.null, .int 0, .int 0, .int 0, .int 0, .int 0, .int 0, .int 0])), (q1, .inr (3, [.int 0, .int 0, .null]))] := hw
  refine W.widen (k := 1) (n := 3) (Nat.le_of_ble_eq_true rfl) (Nat.le_of_ble_eq_true rfl) ?_
  refine lv_dup hx hb dX3_init_8 rfl ?_
  refine x_callIN (rest := [.ref q1, .ref r_ad]) (wc := [(q1, .inr (3, [.int 0, .int 0, .null]))]) C hZ hw hZ.2.2.2.2.1 wI_X4_init wN_X4 wC_X4_init rfl ds_X4_init rfl rfl (by rw [hR]; exact Nat.le_of_ble_eq_true rfl) (by rw [hR]; exact Nat.le_of_ble_eq_true rfl) (by rw [hR]; exact Nat.le_of_ble_eq_true rfl) (by rw [hR]; exact Nat.le_of_ble_eq_true rfl) (c_X4_init l dC dI cI cZ cB cO q1 _) [1] [0] (by decide) rfl rfl (by decide) (by decide) hl.1 (Nat.le_of_ble_eq_true rfl) dX3_init_9 (fun u H locs hw => ?_)
  obtain ⟨p1, rfl⟩ : ∃ q, q = u := ⟨_, rfl⟩
  have hw : xWd (dC, dI) A s.heap H _ ([(r_ad, .inr (2, [.null, .int 0, .int 0, .int 0, .int 0, .int 0, .int 0, .int 0]))] ++ (wS cI cZ cB cO q1 p1 (5 : Int32) (0 : Int32) (fun _ => 0))) := hw.sub [0, 1, 2] (by decide) rfl
  refine W.widen (k := 2) (n := 6) (Nat.le_of_ble_eq_true rfl) (Nat.le_of_ble_eq_true rfl) ?_
  refine x_putF (ci := 2) C hw inX3 tyX3 tyX3_ok nmX3 rfl 0 (by decide) lkF_X3_12 rfl rfl hmn 0 rfl rfl rfl (Nat.le_of_ble_eq_true rfl) dX3_init_12 (fun H locs hw => ?_)
  have hw : xWd (dC, dI) A s.heap H _ ([(r_ad, .inr (2, [.ref q1, .int 0, .int 0, .int 0, .int 0, .int 0, .int 0, .int 0]))] ++ (wS cI cZ cB cO q1 p1 (5 : Int32) (0 : Int32) (fun _ => 0))) := hw
  refine lv_aload_n hx hb dX3_init_15 rfl (lv_at hl 0 rfl) ?_
  refine lv_iconst (v := (0 : Int32)) hx hb dX3_init_16 (by decide) ?_
  refine x_put (ci := 2) C hw inX3 tyX3 tyX3_ok nmX3 rfl 1 (by decide) lkF_X3_18 rfl rfl 0 rfl rfl rfl (Nat.le_of_ble_eq_true rfl) dX3_init_17 (fun H locs hw => ?_)
  have hw : xWd (dC, dI) A s.heap H _ ([(r_ad, .inr (2, [.ref q1, .int (0 : Int32), .int 0, .int 0, .int 0, .int 0, .int 0, .int 0]))] ++ (wS cI cZ cB cO q1 p1 (5 : Int32) (0 : Int32) (fun _ => 0))) := hw
  refine lv_aload_n hx hb dX3_init_20 rfl (lv_at hl 0 rfl) ?_
  refine lv_iconst (v := (-1 : Int32)) hx hb dX3_init_21 (by decide) ?_
  refine x_put (ci := 2) C hw inX3 tyX3 tyX3_ok nmX3 rfl 2 (by decide) lkF_X3_22 rfl rfl 0 rfl rfl rfl (Nat.le_of_ble_eq_true rfl) dX3_init_22 (fun H locs hw => ?_)
  have hw : xWd (dC, dI) A s.heap H _ ([(r_ad, .inr (2, [.ref q1, .int (0 : Int32), .int (-1 : Int32), .int 0, .int 0, .int 0, .int 0, .int 0]))] ++ (wS cI cZ cB cO q1 p1 (5 : Int32) (0 : Int32) (fun _ => 0))) := hw
  refine lv_aload_n hx hb dX3_init_25 rfl (lv_at hl 0 rfl) ?_
  refine lv_iconst (v := (0 : Int32)) hx hb dX3_init_26 (by decide) ?_
  refine x_put (ci := 2) C hw inX3 tyX3 tyX3_ok nmX3 rfl 3 (by decide) lkF_X3_25 rfl rfl 0 rfl rfl rfl (Nat.le_of_ble_eq_true rfl) dX3_init_27 (fun H locs hw => ?_)
  have hw : xWd (dC, dI) A s.heap H _ ([(r_ad, .inr (2, [.ref q1, .int (0 : Int32), .int (-1 : Int32), .int (0 : Int32), .int 0, .int 0, .int 0, .int 0]))] ++ (wS cI cZ cB cO q1 p1 (5 : Int32) (0 : Int32) (fun _ => 0))) := hw
  refine lv_aload_n hx hb dX3_init_30 rfl (lv_at hl 0 rfl) ?_
  refine lv_iconst (v := (0 : Int32)) hx hb dX3_init_31 (by decide) ?_
  refine x_put (ci := 2) C hw inX3 tyX3 tyX3_ok nmX3 rfl 4 (by decide) lkF_X3_28 rfl rfl 0 rfl rfl rfl (Nat.le_of_ble_eq_true rfl) dX3_init_32 (fun H locs hw => ?_)
  have hw : xWd (dC, dI) A s.heap H _ ([(r_ad, .inr (2, [.ref q1, .int (0 : Int32), .int (-1 : Int32), .int (0 : Int32), .int (0 : Int32), .int 0, .int 0, .int 0]))] ++ (wS cI cZ cB cO q1 p1 (5 : Int32) (0 : Int32) (fun _ => 0))) := hw
  refine lv_aload_n hx hb dX3_init_35 rfl (lv_at hl 0 rfl) ?_
  refine lv_iconst (v := (0 : Int32)) hx hb dX3_init_36 (by decide) ?_
  refine x_put (ci := 2) C hw inX3 tyX3 tyX3_ok nmX3 rfl 5 (by decide) lkF_X3_31 rfl rfl 0 rfl rfl rfl (Nat.le_of_ble_eq_true rfl) dX3_init_37 (fun H locs hw => ?_)
  have hw : xWd (dC, dI) A s.heap H _ ([(r_ad, .inr (2, [.ref q1, .int (0 : Int32), .int (-1 : Int32), .int (0 : Int32), .int (0 : Int32), .int (0 : Int32), .int 0, .int 0]))] ++ (wS cI cZ cB cO q1 p1 (5 : Int32) (0 : Int32) (fun _ => 0))) := hw
  refine lv_aload_n hx hb dX3_init_40 rfl (lv_at hl 0 rfl) ?_
  refine lv_iconst (v := (0 : Int32)) hx hb dX3_init_41 (by decide) ?_
  refine x_put (ci := 2) C hw inX3 tyX3 tyX3_ok nmX3 rfl 6 (by decide) lkF_X3_34 rfl rfl 0 rfl rfl rfl (Nat.le_of_ble_eq_true rfl) dX3_init_42 (fun H locs hw => ?_)
  have hw : xWd (dC, dI) A s.heap H _ ([(r_ad, .inr (2, [.ref q1, .int (0 : Int32), .int (-1 : Int32), .int (0 : Int32), .int (0 : Int32), .int (0 : Int32), .int (0 : Int32), .int 0]))] ++ (wS cI cZ cB cO q1 p1 (5 : Int32) (0 : Int32) (fun _ => 0))) := hw
  refine lv_aload_n hx hb dX3_init_45 rfl (lv_at hl 0 rfl) ?_
  refine lv_iconst (v := (0 : Int32)) hx hb dX3_init_46 (by decide) ?_
  refine x_put (ci := 2) C hw inX3 tyX3 tyX3_ok nmX3 rfl 7 (by decide) lkF_X3_37 rfl rfl 0 rfl rfl rfl (Nat.le_of_ble_eq_true rfl) dX3_init_47 (fun H locs hw => ?_)
  have hw : xWd (dC, dI) A s.heap H _ ([(r_ad, .inr (2, [.ref q1, .int (0 : Int32), .int (-1 : Int32), .int (0 : Int32), .int (0 : Int32), .int (0 : Int32), .int (0 : Int32), .int (0 : Int32)]))] ++ (wS cI cZ cB cO q1 p1 (5 : Int32) (0 : Int32) (fun _ => 0))) := hw
  have hw : xWd (dC, dI) A s.heap H _ ((fun (u : (Nat → Nat) × (Nat → Nat)) => ((wR cI cZ cB cO r_ad u.1 (0 : Int32) (-1 : Int32) (0 : Int32) (0 : Int32) (0 : Int32) (0 : Int32) (0 : Int32)) ++ (wS cI cZ cB cO (u.1 0) u.2 (5 : Int32) (0 : Int32) (fun _ => 0)))) ((fun k => if k = 0 then q1 else 0), p1)) := hw.sub [0, 1, 2] (by decide) rfl
  exact x_retI ((fun k => if k = 0 then q1 else 0), p1) C hQ hA hw dX3_init_50
theorem dX5_init_0 : decode cX5_init 0 = .ok (.aload_n 0, 1) := by decide +kernel
theorem dX5_init_1 : decode cX5_init 1 = .ok (.invokespecial 3, 3) := by decide +kernel
theorem dX5_init_4 : decode cX5_init 4 = .ok (.aload_n 0, 1) := by decide +kernel
theorem dX5_init_5 : decode cX5_init 5 = .ok (.iconst 0, 1) := by decide +kernel
theorem dX5_init_6 : decode cX5_init 6 = .ok (.putfield 9, 3) := by decide +kernel
theorem dX5_init_9 : decode cX5_init 9 = .ok (.aload_n 0, 1) := by decide +kernel
theorem dX5_init_10 : decode cX5_init 10 = .ok (.iconst 5, 1) := by decide +kernel
theorem dX5_init_11 : decode cX5_init 11 = .ok (.anewarray 15, 3) := by decide +kernel
theorem dX5_init_14 : decode cX5_init 14 = .ok (.putfield 17, 3) := by decide +kernel
theorem dX5_init_17 : decode cX5_init 17 = .ok (.iconst 0, 1) := by decide +kernel
theorem dX5_init_18 : decode cX5_init 18 = .ok (.istore_n 1, 1) := by decide +kernel
theorem dX5_init_19 : decode cX5_init 19 = .ok (.iload_n 1, 1) := by decide +kernel
theorem dX5_init_20 : decode cX5_init 20 = .ok (.iconst 5, 1) := by decide +kernel
theorem dX5_init_21 : decode cX5_init 21 = .ok (.if_icmp .ge 22, 3) := by decide +kernel
theorem dX5_init_24 : decode cX5_init 24 = .ok (.aload_n 0, 1) := by decide +kernel
theorem dX5_init_25 : decode cX5_init 25 = .ok (.getfield 17, 3) := by decide +kernel
theorem dX5_init_28 : decode cX5_init 28 = .ok (.iload_n 1, 1) := by decide +kernel
theorem dX5_init_29 : decode cX5_init 29 = .ok (.new 15, 3) := by decide +kernel
theorem dX5_init_32 : decode cX5_init 32 = .ok (.dup, 1) := by decide +kernel
theorem dX5_init_33 : decode cX5_init 33 = .ok (.invokespecial 21, 3) := by decide +kernel
theorem dX5_init_36 : decode cX5_init 36 = .ok (.aastore, 1) := by decide +kernel
theorem dX5_init_37 : decode cX5_init 37 = .ok (.iinc 1 1, 3) := by decide +kernel
theorem dX5_init_40 : decode cX5_init 40 = .ok (.goto (-21), 3) := by decide +kernel
theorem dX5_init_43 : decode cX5_init 43 = .ok (.return_, 1) := by decide +kernel
theorem ds_X5_init : xDs yX5_init 0 := by decide +kernel
set_option maxHeartbeats 4000000 in
set_option maxRecDepth 100000 in
theorem c_X5_init (l : Launch) (dC : Nat → ClassId) (dI : Nat → Nat → Nat) (cI cZ cB cO : ClassId) (z_ad : Nat) (sz : Nat) : Met l yX5_init (xW yX5_init cX5_init 2 none) { frames := 2, cells := 11, slots := 35, locals := 32 } (xPreI dC dI (xT cI cZ cB cO) [.ref z_ad] [(z_ad, .inr (4, [.int 0, .null]))] sz) (xQI dC dI (xT cI cZ cB cO) [(z_ad, .inr (4, [.int 0, .null]))] (fun (u : (Nat → Nat) × (Nat → Nat) × (Nat → Nat)) => (wZ cI cZ cB cO z_ad u.1 (0 : Int32) u.2.1 u.2.2 (fun _ => (5 : Int32)) (fun _ => (0 : Int32)) (fun _ => (fun _ => 0)))) sz) 11 35 (va_A [(z_ad, .inr (4, [.int 0, .null]))] sz) := by
  refine x_metI (by decide) (Nat.le_of_ble_eq_true rfl) ?_
  intro p e s m args below meth c R Q A hR hsz hA hQ hmn hZ C hw ls hl
  have hx := C.1
  have hb := C.2.1
  have hown := C.2.2.2.1
  have htb := C.2.2.2.2.1
  have hl : lv_has ls 2 [(0, .ref z_ad)] := hl
  refine lv_aload_n hx hb dX5_init_0 rfl (lv_at hl 0 rfl) ?_
  refine x_obj C lkM_X5_3 hl.1 (by rw [hR]; exact Nat.le_of_ble_eq_true rfl) (by rw [hR]; exact Nat.le_of_ble_eq_true rfl) dX5_init_1 ?_
  refine lv_aload_n hx hb dX5_init_4 rfl (lv_at hl 0 rfl) ?_
  refine lv_iconst (v := (0 : Int32)) hx hb dX5_init_5 (by decide) ?_
  refine x_put (ci := 4) C hw inX5 tyX5 tyX5_ok nmX5 rfl 0 (by decide) lkF_X5_9 rfl rfl 0 rfl rfl rfl (Nat.le_of_ble_eq_true rfl) dX5_init_6 (fun H locs hw => ?_)
  have hw : xWd (dC, dI) A s.heap H _ [(z_ad, .inr (4, [.int (0 : Int32), .null]))] := hw
  refine lv_aload_n hx hb dX5_init_9 rfl (lv_at hl 0 rfl) ?_
  refine lv_iconst (v := (5 : Int32)) hx hb dX5_init_10 (by decide) ?_
  refine x_newq C hw lkC_X5_15 hZ.2.2.2.2.2.2 3 rfl (N := 5) (by decide) (by decide) (Nat.le_of_ble_eq_true rfl) (by rw [hR]; exact Nat.le_of_ble_eq_true rfl) (by rw [hR]; exact Nat.le_of_ble_eq_true rfl) dX5_init_11 (fun q1 H hw => ?_)
  have hw : xWd (dC, dI) A s.heap H _ [(z_ad, .inr (4, [.int (0 : Int32), .null])), (q1, .inl (cO, 5, .inr (.inr (.inr (.inr (fun _ => none))))))] := hw
  refine W.widen (k := 1) (n := 5) (Nat.le_of_ble_eq_true rfl) (Nat.le_of_ble_eq_true rfl) ?_
  refine x_putF (ci := 4) C hw inX5 tyX5 tyX5_ok nmX5 rfl 1 (by decide) lkF_X5_17 rfl rfl hmn 0 rfl rfl rfl (Nat.le_of_ble_eq_true rfl) dX5_init_14 (fun H locs hw => ?_)
  have hw : xWd (dC, dI) A s.heap H _ [(z_ad, .inr (4, [.int (0 : Int32), .ref q1])), (q1, .inl (cO, 5, .inr (.inr (.inr (.inr (fun _ => none))))))] := hw
  refine lv_iconst (v := (0 : Int32)) hx hb dX5_init_17 (by decide) ?_
  refine lv_istore_n (lv' := [(1, .int (0 : Int32)), (0, .ref z_ad)]) hx hb dX5_init_18 rfl hl (by decide) rfl (fun ls hl => ?_)
  refine lv_iload_n hx hb dX5_init_19 rfl (lv_at hl 0 rfl) ?_
  refine lv_iconst (v := (5 : Int32)) hx hb dX5_init_20 (by decide) ?_
  refine lv_icmp_ge (tgt := 43) hx hb dX5_init_21 (by decide) (fun q => absurd q (by decide)) (fun _ => ?_)
  refine lv_aload_n hx hb dX5_init_24 rfl (lv_at hl 1 rfl) ?_
  refine x_get (ci := 4) C hw inX5 rfl 1 (by decide) lkF_X5_17 rfl 0 rfl rfl dX5_init_25 ?_
  refine lv_iload_n hx hb dX5_init_28 rfl (lv_at hl 0 rfl) ?_
  refine x_new (ci := 3) (fs := [.int 0, .int 0, .null]) C hw inX4 tyX4 tyX4_ok lkC_X5_15 wB_X4 wN_X4 rfl (fun j hj => by rcases (show j = 0 ∨ j = 1 ∨ j = 2 by omega) with rfl | rfl | rfl <;> rfl) (by rw [hR]; exact Nat.le_of_ble_eq_true rfl) (by rw [hR]; exact Nat.le_of_ble_eq_true rfl) dX5_init_29 (fun h0 H hw => ?_)
  have hw : xWd (dC, dI) A s.heap H _ [(z_ad, .inr (4, [.int (0 : Int32), .ref q1])), (q1, .inl (cO, 5, .inr (.inr (.inr (.inr (fun _ => none)))))), (h0, .inr (3, [.int 0, .int 0, .null]))] := hw
  refine W.widen (k := 2) (n := 8) (Nat.le_of_ble_eq_true rfl) (Nat.le_of_ble_eq_true rfl) ?_
  refine lv_dup hx hb dX5_init_32 rfl ?_
  refine x_callIN (rest := [.ref h0, .int (0 : Int32), .ref q1]) (wc := [(h0, .inr (3, [.int 0, .int 0, .null]))]) C hZ hw hZ.2.1 wI_X4_init wN_X4 wC_X4_init rfl ds_X4_init rfl rfl (by rw [hR]; exact Nat.le_of_ble_eq_true rfl) (by rw [hR]; exact Nat.le_of_ble_eq_true rfl) (by rw [hR]; exact Nat.le_of_ble_eq_true rfl) (by rw [hR]; exact Nat.le_of_ble_eq_true rfl) (c_X4_init l dC dI cI cZ cB cO h0 _) [2] [0, 1] (by decide) rfl rfl (by decide) (by decide) hl.1 (Nat.le_of_ble_eq_true rfl) dX5_init_33 (fun u0 H locs hw => ?_)
  have hw : xWd (dC, dI) A s.heap H _ ([(z_ad, .inr (4, [.int (0 : Int32), .ref q1])), (q1, .inl (cO, 5, .inr (.inr (.inr (.inr (fun _ => none))))))] ++ (wS cI cZ cB cO h0 u0 (5 : Int32) (0 : Int32) (fun _ => 0))) := hw.sub [0, 1, 2, 3] (by decide) rfl
  refine W.widen (k := 3) (n := 11) (Nat.le_of_ble_eq_true rfl) (Nat.le_of_ble_eq_true rfl) ?_
  refine x_aast (k := 0) C hw 1 3 2 3 rfl rfl rfl rfl (vp_in_iff.mpr (by decide)) (by decide) dX5_init_36 (fun H locs hw => ?_)
  have hw : xWd (dC, dI) A s.heap H _ ([(z_ad, .inr (4, [.int (0 : Int32), .ref q1])), (q1, .inl (cO, 5, .inr (.inr (.inr (.inr (va_up (fun _ => none) 0 (some h0)))))))] ++ (wS cI cZ cB cO h0 u0 (5 : Int32) (0 : Int32) (fun _ => 0))) := hw
  refine lv_iinc (v := (1 : Int32)) (lv' := [(1, .int (1 : Int32)), (0, .ref z_ad)]) hx hb dX5_init_37 hl (k := 0) rfl (by decide) (by decide) rfl (fun ls hl => ?_)
  refine lv_goto (tgt := 19) hx hb dX5_init_40 (by decide) ?_
  refine lv_iload_n hx hb dX5_init_19 rfl (lv_at hl 0 rfl) ?_
  refine lv_iconst (v := (5 : Int32)) hx hb dX5_init_20 (by decide) ?_
  refine lv_icmp_ge (tgt := 43) hx hb dX5_init_21 (by decide) (fun q => absurd q (by decide)) (fun _ => ?_)
  refine lv_aload_n hx hb dX5_init_24 rfl (lv_at hl 1 rfl) ?_
  refine x_get (ci := 4) C hw inX5 rfl 1 (by decide) lkF_X5_17 rfl 0 rfl rfl dX5_init_25 ?_
  refine lv_iload_n hx hb dX5_init_28 rfl (lv_at hl 0 rfl) ?_
  refine x_new (ci := 3) (fs := [.int 0, .int 0, .null]) C hw inX4 tyX4 tyX4_ok lkC_X5_15 wB_X4 wN_X4 rfl (fun j hj => by rcases (show j = 0 ∨ j = 1 ∨ j = 2 by omega) with rfl | rfl | rfl <;> rfl) (by rw [hR]; exact Nat.le_of_ble_eq_true rfl) (by rw [hR]; exact Nat.le_of_ble_eq_true rfl) dX5_init_29 (fun h1 H hw => ?_)
  have hw : xWd (dC, dI) A s.heap H _ ([(z_ad, .inr (4, [.int (0 : Int32), .ref q1])), (q1, .inl (cO, 5, .inr (.inr (.inr (.inr (va_up (fun _ => none) 0 (some h0)))))))] ++ ((wS cI cZ cB cO h0 u0 (5 : Int32) (0 : Int32) (fun _ => 0)) ++ [(h1, .inr (3, [.int 0, .int 0, .null]))])) := hw
  refine W.widen (k := 4) (n := 14) (Nat.le_of_ble_eq_true rfl) (Nat.le_of_ble_eq_true rfl) ?_
  refine lv_dup hx hb dX5_init_32 rfl ?_
  refine x_callIN (rest := [.ref h1, .int (1 : Int32), .ref q1]) (wc := [(h1, .inr (3, [.int 0, .int 0, .null]))]) C hZ hw hZ.2.1 wI_X4_init wN_X4 wC_X4_init rfl ds_X4_init rfl rfl (by rw [hR]; exact Nat.le_of_ble_eq_true rfl) (by rw [hR]; exact Nat.le_of_ble_eq_true rfl) (by rw [hR]; exact Nat.le_of_ble_eq_true rfl) (by rw [hR]; exact Nat.le_of_ble_eq_true rfl) (c_X4_init l dC dI cI cZ cB cO h1 _) [4] [0, 1, 2, 3] (by decide) rfl rfl (by decide) (by decide) hl.1 (Nat.le_of_ble_eq_true rfl) dX5_init_33 (fun u1 H locs hw => ?_)
  have hw : xWd (dC, dI) A s.heap H _ ([(z_ad, .inr (4, [.int (0 : Int32), .ref q1])), (q1, .inl (cO, 5, .inr (.inr (.inr (.inr (va_up (fun _ => none) 0 (some h0)))))))] ++ ((wS cI cZ cB cO h0 u0 (5 : Int32) (0 : Int32) (fun _ => 0)) ++ (wS cI cZ cB cO h1 u1 (5 : Int32) (0 : Int32) (fun _ => 0)))) := hw.sub [0, 1, 2, 3, 4, 5] (by decide) rfl
  refine W.widen (k := 5) (n := 17) (Nat.le_of_ble_eq_true rfl) (Nat.le_of_ble_eq_true rfl) ?_
  refine x_aast (k := 1) C hw 1 3 4 3 rfl rfl rfl rfl (vp_in_iff.mpr (by decide)) (by decide) dX5_init_36 (fun H locs hw => ?_)
  have hw : xWd (dC, dI) A s.heap H _ ([(z_ad, .inr (4, [.int (0 : Int32), .ref q1])), (q1, .inl (cO, 5, .inr (.inr (.inr (.inr (va_up (va_up (fun _ => none) 0 (some h0)) 1 (some h1)))))))] ++ ((wS cI cZ cB cO h0 u0 (5 : Int32) (0 : Int32) (fun _ => 0)) ++ (wS cI cZ cB cO h1 u1 (5 : Int32) (0 : Int32) (fun _ => 0)))) := hw
  refine lv_iinc (v := (2 : Int32)) (lv' := [(1, .int (2 : Int32)), (0, .ref z_ad)]) hx hb dX5_init_37 hl (k := 0) rfl (by decide) (by decide) rfl (fun ls hl => ?_)
  refine lv_goto (tgt := 19) hx hb dX5_init_40 (by decide) ?_
  refine lv_iload_n hx hb dX5_init_19 rfl (lv_at hl 0 rfl) ?_
  refine lv_iconst (v := (5 : Int32)) hx hb dX5_init_20 (by decide) ?_
  refine lv_icmp_ge (tgt := 43) hx hb dX5_init_21 (by decide) (fun q => absurd q (by decide)) (fun _ => ?_)
  refine lv_aload_n hx hb dX5_init_24 rfl (lv_at hl 1 rfl) ?_
  refine x_get (ci := 4) C hw inX5 rfl 1 (by decide) lkF_X5_17 rfl 0 rfl rfl dX5_init_25 ?_
  refine lv_iload_n hx hb dX5_init_28 rfl (lv_at hl 0 rfl) ?_
  refine x_new (ci := 3) (fs := [.int 0, .int 0, .null]) C hw inX4 tyX4 tyX4_ok lkC_X5_15 wB_X4 wN_X4 rfl (fun j hj => by rcases (show j = 0 ∨ j = 1 ∨ j = 2 by omega) with rfl | rfl | rfl <;> rfl) (by rw [hR]; exact Nat.le_of_ble_eq_true rfl) (by rw [hR]; exact Nat.le_of_ble_eq_true rfl) dX5_init_29 (fun h2 H hw => ?_)
  have hw : xWd (dC, dI) A s.heap H _ ([(z_ad, .inr (4, [.int (0 : Int32), .ref q1])), (q1, .inl (cO, 5, .inr (.inr (.inr (.inr (va_up (va_up (fun _ => none) 0 (some h0)) 1 (some h1)))))))] ++ ((wS cI cZ cB cO h0 u0 (5 : Int32) (0 : Int32) (fun _ => 0)) ++ ((wS cI cZ cB cO h1 u1 (5 : Int32) (0 : Int32) (fun _ => 0)) ++ [(h2, .inr (3, [.int 0, .int 0, .null]))]))) := hw
  refine W.widen (k := 6) (n := 20) (Nat.le_of_ble_eq_true rfl) (Nat.le_of_ble_eq_true rfl) ?_
  refine lv_dup hx hb dX5_init_32 rfl ?_
  refine x_callIN (rest := [.ref h2, .int (2 : Int32), .ref q1]) (wc := [(h2, .inr (3, [.int 0, .int 0, .null]))]) C hZ hw hZ.2.1 wI_X4_init wN_X4 wC_X4_init rfl ds_X4_init rfl rfl (by rw [hR]; exact Nat.le_of_ble_eq_true rfl) (by rw [hR]; exact Nat.le_of_ble_eq_true rfl) (by rw [hR]; exact Nat.le_of_ble_eq_true rfl) (by rw [hR]; exact Nat.le_of_ble_eq_true rfl) (c_X4_init l dC dI cI cZ cB cO h2 _) [6] [0, 1, 2, 3, 4, 5] (by decide) rfl rfl (by decide) (by decide) hl.1 (Nat.le_of_ble_eq_true rfl) dX5_init_33 (fun u2 H locs hw => ?_)
  have hw : xWd (dC, dI) A s.heap H _ ([(z_ad, .inr (4, [.int (0 : Int32), .ref q1])), (q1, .inl (cO, 5, .inr (.inr (.inr (.inr (va_up (va_up (fun _ => none) 0 (some h0)) 1 (some h1)))))))] ++ ((wS cI cZ cB cO h0 u0 (5 : Int32) (0 : Int32) (fun _ => 0)) ++ ((wS cI cZ cB cO h1 u1 (5 : Int32) (0 : Int32) (fun _ => 0)) ++ (wS cI cZ cB cO h2 u2 (5 : Int32) (0 : Int32) (fun _ => 0))))) := hw.sub [0, 1, 2, 3, 4, 5, 6, 7] (by decide) rfl
  refine W.widen (k := 7) (n := 23) (Nat.le_of_ble_eq_true rfl) (Nat.le_of_ble_eq_true rfl) ?_
  refine x_aast (k := 2) C hw 1 3 6 3 rfl rfl rfl rfl (vp_in_iff.mpr (by decide)) (by decide) dX5_init_36 (fun H locs hw => ?_)
  have hw : xWd (dC, dI) A s.heap H _ ([(z_ad, .inr (4, [.int (0 : Int32), .ref q1])), (q1, .inl (cO, 5, .inr (.inr (.inr (.inr (va_up (va_up (va_up (fun _ => none) 0 (some h0)) 1 (some h1)) 2 (some h2)))))))] ++ ((wS cI cZ cB cO h0 u0 (5 : Int32) (0 : Int32) (fun _ => 0)) ++ ((wS cI cZ cB cO h1 u1 (5 : Int32) (0 : Int32) (fun _ => 0)) ++ (wS cI cZ cB cO h2 u2 (5 : Int32) (0 : Int32) (fun _ => 0))))) := hw
  refine lv_iinc (v := (3 : Int32)) (lv' := [(1, .int (3 : Int32)), (0, .ref z_ad)]) hx hb dX5_init_37 hl (k := 0) rfl (by decide) (by decide) rfl (fun ls hl => ?_)
  refine lv_goto (tgt := 19) hx hb dX5_init_40 (by decide) ?_
  refine lv_iload_n hx hb dX5_init_19 rfl (lv_at hl 0 rfl) ?_
  refine lv_iconst (v := (5 : Int32)) hx hb dX5_init_20 (by decide) ?_
  refine lv_icmp_ge (tgt := 43) hx hb dX5_init_21 (by decide) (fun q => absurd q (by decide)) (fun _ => ?_)
  refine lv_aload_n hx hb dX5_init_24 rfl (lv_at hl 1 rfl) ?_
  refine x_get (ci := 4) C hw inX5 rfl 1 (by decide) lkF_X5_17 rfl 0 rfl rfl dX5_init_25 ?_
  refine lv_iload_n hx hb dX5_init_28 rfl (lv_at hl 0 rfl) ?_
  refine x_new (ci := 3) (fs := [.int 0, .int 0, .null]) C hw inX4 tyX4 tyX4_ok lkC_X5_15 wB_X4 wN_X4 rfl (fun j hj => by rcases (show j = 0 ∨ j = 1 ∨ j = 2 by omega) with rfl | rfl | rfl <;> rfl) (by rw [hR]; exact Nat.le_of_ble_eq_true rfl) (by rw [hR]; exact Nat.le_of_ble_eq_true rfl) dX5_init_29 (fun h3 H hw => ?_)
  have hw : xWd (dC, dI) A s.heap H _ ([(z_ad, .inr (4, [.int (0 : Int32), .ref q1])), (q1, .inl (cO, 5, .inr (.inr (.inr (.inr (va_up (va_up (va_up (fun _ => none) 0 (some h0)) 1 (some h1)) 2 (some h2)))))))] ++ ((wS cI cZ cB cO h0 u0 (5 : Int32) (0 : Int32) (fun _ => 0)) ++ ((wS cI cZ cB cO h1 u1 (5 : Int32) (0 : Int32) (fun _ => 0)) ++ ((wS cI cZ cB cO h2 u2 (5 : Int32) (0 : Int32) (fun _ => 0)) ++ [(h3, .inr (3, [.int 0, .int 0, .null]))])))) := hw
  refine W.widen (k := 8) (n := 26) (Nat.le_of_ble_eq_true rfl) (Nat.le_of_ble_eq_true rfl) ?_
  refine lv_dup hx hb dX5_init_32 rfl ?_
  refine x_callIN (rest := [.ref h3, .int (3 : Int32), .ref q1]) (wc := [(h3, .inr (3, [.int 0, .int 0, .null]))]) C hZ hw hZ.2.1 wI_X4_init wN_X4 wC_X4_init rfl ds_X4_init rfl rfl (by rw [hR]; exact Nat.le_of_ble_eq_true rfl) (by rw [hR]; exact Nat.le_of_ble_eq_true rfl) (by rw [hR]; exact Nat.le_of_ble_eq_true rfl) (by rw [hR]; exact Nat.le_of_ble_eq_true rfl) (c_X4_init l dC dI cI cZ cB cO h3 _) [8] [0, 1, 2, 3, 4, 5, 6, 7] (by decide) rfl rfl (by decide) (by decide) hl.1 (Nat.le_of_ble_eq_true rfl) dX5_init_33 (fun u3 H locs hw => ?_)
  have hw : xWd (dC, dI) A s.heap H _ ([(z_ad, .inr (4, [.int (0 : Int32), .ref q1])), (q1, .inl (cO, 5, .inr (.inr (.inr (.inr (va_up (va_up (va_up (fun _ => none) 0 (some h0)) 1 (some h1)) 2 (some h2)))))))] ++ ((wS cI cZ cB cO h0 u0 (5 : Int32) (0 : Int32) (fun _ => 0)) ++ ((wS cI cZ cB cO h1 u1 (5 : Int32) (0 : Int32) (fun _ => 0)) ++ ((wS cI cZ cB cO h2 u2 (5 : Int32) (0 : Int32) (fun _ => 0)) ++ (wS cI cZ cB cO h3 u3 (5 : Int32) (0 : Int32) (fun _ => 0)))))) := hw.sub [0, 1, 2, 3, 4, 5, 6, 7, 8, 9] (by decide) rfl
  refine W.widen (k := 9) (n := 29) (Nat.le_of_ble_eq_true rfl) (Nat.le_of_ble_eq_true rfl) ?_
  refine x_aast (k := 3) C hw 1 3 8 3 rfl rfl rfl rfl (vp_in_iff.mpr (by decide)) (by decide) dX5_init_36 (fun H locs hw => ?_)
  have hw : xWd (dC, dI) A s.heap H _ ([(z_ad, .inr (4, [.int (0 : Int32), .ref q1])), (q1, .inl (cO, 5, .inr (.inr (.inr (.inr (va_up (va_up (va_up (va_up (fun _ => none) 0 (some h0)) 1 (some h1)) 2 (some h2)) 3 (some h3)))))))] ++ ((wS cI cZ cB cO h0 u0 (5 : Int32) (0 : Int32) (fun _ => 0)) ++ ((wS cI cZ cB cO h1 u1 (5 : Int32) (0 : Int32) (fun _ => 0)) ++ ((wS cI cZ cB cO h2 u2 (5 : Int32) (0 : Int32) (fun _ => 0)) ++ (wS cI cZ cB cO h3 u3 (5 : Int32) (0 : Int32) (fun _ => 0)))))) := hw
  refine lv_iinc (v := (4 : Int32)) (lv' := [(1, .int (4 : Int32)), (0, .ref z_ad)]) hx hb dX5_init_37 hl (k := 0) rfl (by decide) (by decide) rfl (fun ls hl => ?_)
  refine lv_goto (tgt := 19) hx hb dX5_init_40 (by decide) ?_
  refine lv_iload_n hx hb dX5_init_19 rfl (lv_at hl 0 rfl) ?_
  refine lv_iconst (v := (5 : Int32)) hx hb dX5_init_20 (by decide) ?_
  refine lv_icmp_ge (tgt := 43) hx hb dX5_init_21 (by decide) (fun q => absurd q (by decide)) (fun _ => ?_)
  refine lv_aload_n hx hb dX5_init_24 rfl (lv_at hl 1 rfl) ?_
  refine x_get (ci := 4) C hw inX5 rfl 1 (by decide) lkF_X5_17 rfl 0 rfl rfl dX5_init_25 ?_
  refine lv_iload_n hx hb dX5_init_28 rfl (lv_at hl 0 rfl) ?_
  refine x_new (ci := 3) (fs := [.int 0, .int 0, .null]) C hw inX4 tyX4 tyX4_ok lkC_X5_15 wB_X4 wN_X4 rfl (fun j hj => by rcases (show j = 0 ∨ j = 1 ∨ j = 2 by omega) with rfl | rfl | rfl <;> rfl) (by rw [hR]; exact Nat.le_of_ble_eq_true rfl) (by rw [hR]; exact Nat.le_of_ble_eq_true rfl) dX5_init_29 (fun h4 H hw => ?_)
  have hw : xWd (dC, dI) A s.heap H _ ([(z_ad, .inr (4, [.int (0 : Int32), .ref q1])), (q1, .inl (cO, 5, .inr (.inr (.inr (.inr (va_up (va_up (va_up (va_up (fun _ => none) 0 (some h0)) 1 (some h1)) 2 (some h2)) 3 (some h3)))))))] ++ ((wS cI cZ cB cO h0 u0 (5 : Int32) (0 : Int32) (fun _ => 0)) ++ ((wS cI cZ cB cO h1 u1 (5 : Int32) (0 : Int32) (fun _ => 0)) ++ ((wS cI cZ cB cO h2 u2 (5 : Int32) (0 : Int32) (fun _ => 0)) ++ ((wS cI cZ cB cO h3 u3 (5 : Int32) (0 : Int32) (fun _ => 0)) ++ [(h4, .inr (3, [.int 0, .int 0, .null]))]))))) := hw
  refine W.widen (k := 10) (n := 32) (Nat.le_of_ble_eq_true rfl) (Nat.le_of_ble_eq_true rfl) ?_
  refine lv_dup hx hb dX5_init_32 rfl ?_
  refine x_callIN (rest := [.ref h4, .int (4 : Int32), .ref q1]) (wc := [(h4, .inr (3, [.int 0, .int 0, .null]))]) C hZ hw hZ.2.1 wI_X4_init wN_X4 wC_X4_init rfl ds_X4_init rfl rfl (by rw [hR]; exact Nat.le_of_ble_eq_true rfl) (by rw [hR]; exact Nat.le_of_ble_eq_true rfl) (by rw [hR]; exact Nat.le_of_ble_eq_true rfl) (by rw [hR]; exact Nat.le_of_ble_eq_true rfl) (c_X4_init l dC dI cI cZ cB cO h4 _) [10] [0, 1, 2, 3, 4, 5, 6, 7, 8, 9] (by decide) rfl rfl (by decide) (by decide) hl.1 (Nat.le_of_ble_eq_true rfl) dX5_init_33 (fun u4 H locs hw => ?_)
  have hw : xWd (dC, dI) A s.heap H _ ([(z_ad, .inr (4, [.int (0 : Int32), .ref q1])), (q1, .inl (cO, 5, .inr (.inr (.inr (.inr (va_up (va_up (va_up (va_up (fun _ => none) 0 (some h0)) 1 (some h1)) 2 (some h2)) 3 (some h3)))))))] ++ ((wS cI cZ cB cO h0 u0 (5 : Int32) (0 : Int32) (fun _ => 0)) ++ ((wS cI cZ cB cO h1 u1 (5 : Int32) (0 : Int32) (fun _ => 0)) ++ ((wS cI cZ cB cO h2 u2 (5 : Int32) (0 : Int32) (fun _ => 0)) ++ ((wS cI cZ cB cO h3 u3 (5 : Int32) (0 : Int32) (fun _ => 0)) ++ (wS cI cZ cB cO h4 u4 (5 : Int32) (0 : Int32) (fun _ => 0))))))) := hw.sub [0, 1, 2, 3, 4, 5, 6, 7, 8, 9, 10, 11] (by decide) rfl
  refine W.widen (k := 11) (n := 35) (Nat.le_of_ble_eq_true rfl) (Nat.le_of_ble_eq_true rfl) ?_
  refine x_aast (k := 4) C hw 1 3 10 3 rfl rfl rfl rfl (vp_in_iff.mpr (by decide)) (by decide) dX5_init_36 (fun H locs hw => ?_)
  have hw : xWd (dC, dI) A s.heap H _ ([(z_ad, .inr (4, [.int (0 : Int32), .ref q1])), (q1, .inl (cO, 5, .inr (.inr (.inr (.inr (va_up (va_up (va_up (va_up (va_up (fun _ => none) 0 (some h0)) 1 (some h1)) 2 (some h2)) 3 (some h3)) 4 (some h4)))))))] ++ ((wS cI cZ cB cO h0 u0 (5 : Int32) (0 : Int32) (fun _ => 0)) ++ ((wS cI cZ cB cO h1 u1 (5 : Int32) (0 : Int32) (fun _ => 0)) ++ ((wS cI cZ cB cO h2 u2 (5 : Int32) (0 : Int32) (fun _ => 0)) ++ ((wS cI cZ cB cO h3 u3 (5 : Int32) (0 : Int32) (fun _ => 0)) ++ (wS cI cZ cB cO h4 u4 (5 : Int32) (0 : Int32) (fun _ => 0))))))) := hw
  refine lv_iinc (v := (5 : Int32)) (lv' := [(1, .int (5 : Int32)), (0, .ref z_ad)]) hx hb dX5_init_37 hl (k := 0) rfl (by decide) (by decide) rfl (fun ls hl => ?_)
  refine lv_goto (tgt := 19) hx hb dX5_init_40 (by decide) ?_
  refine lv_iload_n hx hb dX5_init_19 rfl (lv_at hl 0 rfl) ?_
  refine lv_iconst (v := (5 : Int32)) hx hb dX5_init_20 (by decide) ?_
  refine lv_icmp_ge (tgt := 43) hx hb dX5_init_21 (by decide) (fun _ => ?_) (fun q => absurd (by decide) q)
  have hw := x_qswap (pre := [(z_ad, .inr (4, [.int (0 : Int32), .ref q1]))]) (g := fun i => some ((fun k => if k = 0 then h0 else if k = 1 then h1 else if k = 2 then h2 else if k = 3 then h3 else h4) i)) (fun i hi => by rcases (show i = 0 ∨ i = 1 ∨ i = 2 ∨ i = 3 ∨ i = 4 by omega) with rfl | rfl | rfl | rfl | rfl <;> rfl) hw
  have hw : xWd (dC, dI) A s.heap H _ ((fun (u : (Nat → Nat) × (Nat → Nat) × (Nat → Nat)) => (wZ cI cZ cB cO z_ad u.1 (0 : Int32) u.2.1 u.2.2 (fun _ => (5 : Int32)) (fun _ => (0 : Int32)) (fun _ => (fun _ => 0)))) ((fun k => if k = 1 then q1 else 0), (fun k => if k = 0 then h0 else if k = 1 then h1 else if k = 2 then h2 else if k = 3 then h3 else h4), (fun k => if k = 0 then u0 2 else if k = 1 then u1 2 else if k = 2 then u2 2 else if k = 3 then u3 2 else u4 2))) := hw.sub [0, 1, 2, 3, 4, 5, 6, 7, 8, 9, 10, 11] (by decide) rfl
  exact x_retI ((fun k => if k = 1 then q1 else 0), (fun k => if k = 0 then h0 else if k = 1 then h1 else if k = 2 then h2 else if k = 3 then h3 else h4), (fun k => if k = 0 then u0 2 else if k = 1 then u1 2 else if k = 2 then u2 2 else if k = 3 then u3 2 else u4 2)) C hQ hA hw dX5_init_43
theorem dX7_init_0 : decode cX7_init 0 = .ok (.aload_n 0, 1) := by decide +kernel
theorem dX7_init_1 : decode cX7_init 1 = .ok (.invokespecial 1, 3) := by decide +kernel
theorem dX7_init_4 : decode cX7_init 4 = .ok (.aload_n 0, 1) := by decide +kernel
theorem dX7_init_5 : decode cX7_init 5 = .ok (.new 7, 3) := by decide +kernel
theorem dX7_init_8 : decode cX7_init 8 = .ok (.dup, 1) := by decide +kernel
theorem dX7_init_9 : decode cX7_init 9 = .ok (.invokespecial 9, 3) := by decide +kernel
theorem dX7_init_12 : decode cX7_init 12 = .ok (.putfield 10, 3) := by decide +kernel
theorem dX7_init_15 : decode cX7_init 15 = .ok (.aload_n 0, 1) := by decide +kernel
theorem dX7_init_16 : decode cX7_init 16 = .ok (.new 16, 3) := by decide +kernel
theorem dX7_init_19 : decode cX7_init 19 = .ok (.dup, 1) := by decide +kernel
theorem dX7_init_20 : decode cX7_init 20 = .ok (.invokespecial 18, 3) := by decide +kernel
theorem dX7_init_23 : decode cX7_init 23 = .ok (.putfield 19, 3) := by decide +kernel
theorem dX7_init_26 : decode cX7_init 26 = .ok (.aload_n 0, 1) := by decide +kernel
theorem dX7_init_27 : decode cX7_init 27 = .ok (.new 23, 3) := by decide +kernel
theorem dX7_init_30 : decode cX7_init 30 = .ok (.dup, 1) := by decide +kernel
theorem dX7_init_31 : decode cX7_init 31 = .ok (.invokespecial 25, 3) := by decide +kernel
theorem dX7_init_34 : decode cX7_init 34 = .ok (.putfield 26, 3) := by decide +kernel
theorem dX7_init_37 : decode cX7_init 37 = .ok (.aload_n 0, 1) := by decide +kernel
theorem dX7_init_38 : decode cX7_init 38 = .ok (.new 30, 3) := by decide +kernel
theorem dX7_init_41 : decode cX7_init 41 = .ok (.dup, 1) := by decide +kernel
theorem dX7_init_42 : decode cX7_init 42 = .ok (.invokespecial 32, 3) := by decide +kernel
theorem dX7_init_45 : decode cX7_init 45 = .ok (.putfield 33, 3) := by decide +kernel
theorem dX7_init_48 : decode cX7_init 48 = .ok (.aload_n 0, 1) := by decide +kernel
theorem dX7_init_49 : decode cX7_init 49 = .ok (.new 37, 3) := by decide +kernel
theorem dX7_init_52 : decode cX7_init 52 = .ok (.dup, 1) := by decide +kernel
theorem dX7_init_53 : decode cX7_init 53 = .ok (.invokespecial 39, 3) := by decide +kernel
theorem dX7_init_56 : decode cX7_init 56 = .ok (.putfield 40, 3) := by decide +kernel
theorem dX7_init_59 : decode cX7_init 59 = .ok (.aload_n 0, 1) := by decide +kernel
theorem dX7_init_60 : decode cX7_init 60 = .ok (.new 44, 3) := by decide +kernel
theorem dX7_init_63 : decode cX7_init 63 = .ok (.dup, 1) := by decide +kernel
theorem dX7_init_64 : decode cX7_init 64 = .ok (.invokespecial 46, 3) := by decide +kernel
theorem dX7_init_67 : decode cX7_init 67 = .ok (.putfield 47, 3) := by decide +kernel
theorem dX7_init_70 : decode cX7_init 70 = .ok (.aload_n 0, 1) := by decide +kernel
theorem dX7_init_71 : decode cX7_init 71 = .ok (.iconst 0, 1) := by decide +kernel
theorem dX7_init_72 : decode cX7_init 72 = .ok (.putfield 51, 3) := by decide +kernel
theorem dX7_init_75 : decode cX7_init 75 = .ok (.aload_n 0, 1) := by decide +kernel
theorem dX7_init_76 : decode cX7_init 76 = .ok (.iconst 0, 1) := by decide +kernel
theorem dX7_init_77 : decode cX7_init 77 = .ok (.putfield 55, 3) := by decide +kernel
theorem dX7_init_80 : decode cX7_init 80 = .ok (.aload_n 0, 1) := by decide +kernel
theorem dX7_init_81 : decode cX7_init 81 = .ok (.iconst 0, 1) := by decide +kernel
theorem dX7_init_82 : decode cX7_init 82 = .ok (.putfield 59, 3) := by decide +kernel
theorem dX7_init_85 : decode cX7_init 85 = .ok (.aload_n 0, 1) := by decide +kernel
theorem dX7_init_86 : decode cX7_init 86 = .ok (.iconst 0, 1) := by decide +kernel
theorem dX7_init_87 : decode cX7_init 87 = .ok (.putfield 62, 3) := by decide +kernel
theorem dX7_init_90 : decode cX7_init 90 = .ok (.return_, 1) := by decide +kernel
theorem ds_X7_init : xDs yX7_init 0 := by decide +kernel
set_option maxHeartbeats 4000000 in
set_option maxRecDepth 100000 in
theorem c_X7_init (l : Launch) (dC : Nat → ClassId) (dI : Nat → Nat → Nat) (cI cZ cB cO : ClassId) (c_ad : Nat) (fo : Nat → Int32) (hfo : f_J7_fill_53178 256 (fun _ => 0) (-1 : Int32) = some fo) (sz : Nat) : Met l yX7_init (xW yX7_init cX7_init 1 none) { frames := 3, cells := 32, slots := 1389, locals := 53 } (xPreI dC dI (xT cI cZ cB cO) [.ref c_ad] [(c_ad, .inr (6, [.null, .null, .null, .null, .null, .null, .int 0, .int 0, .int 0, .int 0]))] sz) (xQI dC dI (xT cI cZ cB cO) [(c_ad, .inr (6, [.null, .null, .null, .null, .null, .null, .int 0, .int 0, .int 0, .int 0]))] (fun (u : (Nat → Nat) × (Nat → Nat) × (Nat → Nat) × (Nat → Nat) × (Nat → Nat) × (Nat → Nat) × (Nat → Nat) × (Nat → Nat) × (Nat → Nat) × (Nat → Nat)) => ((wC cI cZ cB cO c_ad u.1 (0 : Int32) (0 : Int32) (0 : Int32) (0 : Int32)) ++ ((wS cI cZ cB cO (u.1 0) u.2.1 (5 : Int32) (0 : Int32) (fun _ => 0)) ++ ((wZ cI cZ cB cO (u.1 1) u.2.2.1 (0 : Int32) u.2.2.2.1 u.2.2.2.2.1 (fun _ => (5 : Int32)) (fun _ => (0 : Int32)) (fun _ => (fun _ => 0))) ++ ((wT cI cZ cB cO (u.1 2) u.2.2.2.2.2.1 (0 : Int32) (fun _ => 0)) ++ (((wR cI cZ cB cO (u.1 3) u.2.2.2.2.2.2.1 (0 : Int32) (-1 : Int32) (0 : Int32) (0 : Int32) (0 : Int32) (0 : Int32) (0 : Int32)) ++ (wS cI cZ cB cO (u.2.2.2.2.2.2.1 0) u.2.2.2.2.2.2.2.1 (5 : Int32) (0 : Int32) (fun _ => 0))) ++ ((wE cI cZ cB cO (u.1 4) u.2.2.2.2.2.2.2.2.1 (0 : Int32) (fun _ => 0) (fun _ => 0) (fun _ => 0) (fun _ => 0) (fun _ => 0) (fun _ => 0) (0 : Int32)) ++ (wK cI cZ cB cO (u.1 5) u.2.2.2.2.2.2.2.2.2 (0 : Int32) (fun _ => 0) (fun _ => 0) (fun _ => 0) (fun _ => 0) fo (0 : Int32))))))))) sz) 32 1389 (va_A [(c_ad, .inr (6, [.null, .null, .null, .null, .null, .null, .int 0, .int 0, .int 0, .int 0]))] sz) := by
  refine x_metI (by decide) (Nat.le_of_ble_eq_true rfl) ?_
  intro p e s m args below meth c R Q A hR hsz hA hQ hmn hZ C hw ls hl
  have hx := C.1
  have hb := C.2.1
  have hown := C.2.2.2.1
  have htb := C.2.2.2.2.1
  have hl : lv_has ls 1 [(0, .ref c_ad)] := hl
  refine lv_aload_n hx hb dX7_init_0 rfl (lv_at hl 0 rfl) ?_
  refine x_obj C lkM_X7_1 hl.1 (by rw [hR]; exact Nat.le_of_ble_eq_true rfl) (by rw [hR]; exact Nat.le_of_ble_eq_true rfl) dX7_init_1 ?_
  refine lv_aload_n hx hb dX7_init_4 rfl (lv_at hl 0 rfl) ?_
  refine x_new (ci := 3) (fs := [.int 0, .int 0, .null]) C hw inX4 tyX4 tyX4_ok lkC_X7_7 wB_X4 wN_X4 rfl (fun j hj => by rcases (show j = 0 ∨ j = 1 ∨ j = 2 by omega) with rfl | rfl | rfl <;> rfl) (by rw [hR]; exact Nat.le_of_ble_eq_true rfl) (by rw [hR]; exact Nat.le_of_ble_eq_true rfl) dX7_init_5 (fun q1 H hw => ?_)
  have hw : xWd (dC, dI) A s.heap H _ [(c_ad, .inr (6, [.null, .null, .null, .null, .null, .null, .int 0, .int 0, .int 0, .int 0])), (q1, .inr (3, [.int 0, .int 0, .null]))] := hw
  refine W.widen (k := 1) (n := 3) (Nat.le_of_ble_eq_true rfl) (Nat.le_of_ble_eq_true rfl) ?_
  refine lv_dup hx hb dX7_init_8 rfl ?_
  refine x_callIN (rest := [.ref q1, .ref c_ad]) (wc := [(q1, .inr (3, [.int 0, .int 0, .null]))]) C hZ hw hZ.1 wI_X4_init wN_X4 wC_X4_init rfl ds_X4_init rfl rfl (by rw [hR]; exact Nat.le_of_ble_eq_true rfl) (by rw [hR]; exact Nat.le_of_ble_eq_true rfl) (by rw [hR]; exact Nat.le_of_ble_eq_true rfl) (by rw [hR]; exact Nat.le_of_ble_eq_true rfl) (c_X4_init l dC dI cI cZ cB cO q1 _) [1] [0] (by decide) rfl rfl (by decide) (by decide) hl.1 (Nat.le_of_ble_eq_true rfl) dX7_init_9 (fun u H locs hw => ?_)
  obtain ⟨p1, rfl⟩ : ∃ q, q = u := ⟨_, rfl⟩
  have hw : xWd (dC, dI) A s.heap H _ ([(c_ad, .inr (6, [.null, .null, .null, .null, .null, .null, .int 0, .int 0, .int 0, .int 0]))] ++ (wS cI cZ cB cO q1 p1 (5 : Int32) (0 : Int32) (fun _ => 0))) := hw.sub [0, 1, 2] (by decide) rfl
  refine W.widen (k := 2) (n := 6) (Nat.le_of_ble_eq_true rfl) (Nat.le_of_ble_eq_true rfl) ?_
  refine x_putF (ci := 6) C hw inX7 tyX7 tyX7_ok nmX7 rfl 0 (by decide) lkF_X7_10 rfl rfl hmn 0 rfl rfl rfl (Nat.le_of_ble_eq_true rfl) dX7_init_12 (fun H locs hw => ?_)
  have hw : xWd (dC, dI) A s.heap H _ ([(c_ad, .inr (6, [.ref q1, .null, .null, .null, .null, .null, .int 0, .int 0, .int 0, .int 0]))] ++ (wS cI cZ cB cO q1 p1 (5 : Int32) (0 : Int32) (fun _ => 0))) := hw
  refine lv_aload_n hx hb dX7_init_15 rfl (lv_at hl 0 rfl) ?_
  refine x_new (ci := 4) (fs := [.int 0, .null]) C hw inX5 tyX5 tyX5_ok lkC_X7_16 wB_X5 wN_X5 rfl (fun j hj => by rcases (show j = 0 ∨ j = 1 by omega) with rfl | rfl <;> rfl) (by rw [hR]; exact Nat.le_of_ble_eq_true rfl) (by rw [hR]; exact Nat.le_of_ble_eq_true rfl) dX7_init_16 (fun q2 H hw => ?_)
  have hw : xWd (dC, dI) A s.heap H _ ([(c_ad, .inr (6, [.ref q1, .null, .null, .null, .null, .null, .int 0, .int 0, .int 0, .int 0]))] ++ ((wS cI cZ cB cO q1 p1 (5 : Int32) (0 : Int32) (fun _ => 0)) ++ [(q2, .inr (4, [.int 0, .null]))])) := hw
  refine W.widen (k := 3) (n := 8) (Nat.le_of_ble_eq_true rfl) (Nat.le_of_ble_eq_true rfl) ?_
  refine lv_dup hx hb dX7_init_19 rfl ?_
  refine x_callI (rest := [.ref q2, .ref c_ad]) (wc := [(q2, .inr (4, [.int 0, .null]))]) C hZ hw lkM_X7_18 wI_X5_init wN_X5 wC_X5_init rfl ds_X5_init rfl rfl (by rw [hR]; exact Nat.le_of_ble_eq_true rfl) (by rw [hR]; exact Nat.le_of_ble_eq_true rfl) (by rw [hR]; exact Nat.le_of_ble_eq_true rfl) (by rw [hR]; exact Nat.le_of_ble_eq_true rfl) (c_X5_init l dC dI cI cZ cB cO q2 _) [3] [0, 1, 2] (by decide) rfl rfl (by decide) (by decide) hl.1 (Nat.le_of_ble_eq_true rfl) dX7_init_20 (fun u H locs hw => ?_)
  obtain ⟨p2, ra2, rb2⟩ := u
  have hw : xWd (dC, dI) A s.heap H _ ([(c_ad, .inr (6, [.ref q1, .null, .null, .null, .null, .null, .int 0, .int 0, .int 0, .int 0]))] ++ ((wS cI cZ cB cO q1 p1 (5 : Int32) (0 : Int32) (fun _ => 0)) ++ (wZ cI cZ cB cO q2 p2 (0 : Int32) ra2 rb2 (fun _ => (5 : Int32)) (fun _ => (0 : Int32)) (fun _ => (fun _ => 0))))) := hw.sub [0, 1, 2, 3, 4, 5, 6, 7, 8, 9, 10, 11, 12, 13, 14] (by decide) rfl
  refine W.widen (k := 14) (n := 43) (Nat.le_of_ble_eq_true rfl) (Nat.le_of_ble_eq_true rfl) ?_
  refine x_putF (ci := 6) C hw inX7 tyX7 tyX7_ok nmX7 rfl 1 (by decide) lkF_X7_19 rfl rfl hmn 0 rfl rfl rfl (Nat.le_of_ble_eq_true rfl) dX7_init_23 (fun H locs hw => ?_)
  have hw : xWd (dC, dI) A s.heap H _ ([(c_ad, .inr (6, [.ref q1, .ref q2, .null, .null, .null, .null, .int 0, .int 0, .int 0, .int 0]))] ++ ((wS cI cZ cB cO q1 p1 (5 : Int32) (0 : Int32) (fun _ => 0)) ++ (wZ cI cZ cB cO q2 p2 (0 : Int32) ra2 rb2 (fun _ => (5 : Int32)) (fun _ => (0 : Int32)) (fun _ => (fun _ => 0))))) := hw
  refine lv_aload_n hx hb dX7_init_26 rfl (lv_at hl 0 rfl) ?_
  refine x_new (ci := 5) (fs := [.int 0, .null]) C hw inX6 tyX6 tyX6_ok lkC_X7_23 wB_X6 wN_X6 rfl (fun j hj => by rcases (show j = 0 ∨ j = 1 by omega) with rfl | rfl <;> rfl) (by rw [hR]; exact Nat.le_of_ble_eq_true rfl) (by rw [hR]; exact Nat.le_of_ble_eq_true rfl) dX7_init_27 (fun q3 H hw => ?_)
  have hw : xWd (dC, dI) A s.heap H _ ([(c_ad, .inr (6, [.ref q1, .ref q2, .null, .null, .null, .null, .int 0, .int 0, .int 0, .int 0]))] ++ ((wS cI cZ cB cO q1 p1 (5 : Int32) (0 : Int32) (fun _ => 0)) ++ ((wZ cI cZ cB cO q2 p2 (0 : Int32) ra2 rb2 (fun _ => (5 : Int32)) (fun _ => (0 : Int32)) (fun _ => (fun _ => 0))) ++ [(q3, .inr (5, [.int 0, .null]))]))) := hw
  refine W.widen (k := 15) (n := 45) (Nat.le_of_ble_eq_true rfl) (Nat.le_of_ble_eq_true rfl) ?_
  refine lv_dup hx hb dX7_init_30 rfl ?_
  refine x_callIN (rest := [.ref q3, .ref c_ad]) (wc := [(q3, .inr (5, [.int 0, .null]))]) C hZ hw hZ.2.2.1 wI_X6_init wN_X6 wC_X6_init rfl ds_X6_init rfl rfl (by rw [hR]; exact Nat.le_of_ble_eq_true rfl) (by rw [hR]; exact Nat.le_of_ble_eq_true rfl) (by rw [hR]; exact Nat.le_of_ble_eq_true rfl) (by rw [hR]; exact Nat.le_of_ble_eq_true rfl) (c_X6_init l dC dI cI cZ cB cO q3 _) [15] [0, 1, 2, 3, 4, 5, 6, 7, 8, 9, 10, 11, 12, 13, 14] (by decide) rfl rfl (by decide) (by decide) hl.1 (Nat.le_of_ble_eq_true rfl) dX7_init_31 (fun u H locs hw => ?_)
  obtain ⟨p3, rfl⟩ : ∃ q, q = u := ⟨_, rfl⟩
  have hw : xWd (dC, dI) A s.heap H _ ([(c_ad, .inr (6, [.ref q1, .ref q2, .null, .null, .null, .null, .int 0, .int 0, .int 0, .int 0]))] ++ ((wS cI cZ cB cO q1 p1 (5 : Int32) (0 : Int32) (fun _ => 0)) ++ ((wZ cI cZ cB cO q2 p2 (0 : Int32) ra2 rb2 (fun _ => (5 : Int32)) (fun _ => (0 : Int32)) (fun _ => (fun _ => 0))) ++ (wT cI cZ cB cO q3 p3 (0 : Int32) (fun _ => 0))))) := hw.sub [0, 1, 2, 3, 4, 5, 6, 7, 8, 9, 10, 11, 12, 13, 14, 15, 16] (by decide) rfl
  refine W.widen (k := 16) (n := 125) (Nat.le_of_ble_eq_true rfl) (Nat.le_of_ble_eq_true rfl) ?_
  refine x_putF (ci := 6) C hw inX7 tyX7 tyX7_ok nmX7 rfl 2 (by decide) lkF_X7_26 rfl rfl hmn 0 rfl rfl rfl (Nat.le_of_ble_eq_true rfl) dX7_init_34 (fun H locs hw => ?_)
  have hw : xWd (dC, dI) A s.heap H _ ([(c_ad, .inr (6, [.ref q1, .ref q2, .ref q3, .null, .null, .null, .int 0, .int 0, .int 0, .int 0]))] ++ ((wS cI cZ cB cO q1 p1 (5 : Int32) (0 : Int32) (fun _ => 0)) ++ ((wZ cI cZ cB cO q2 p2 (0 : Int32) ra2 rb2 (fun _ => (5 : Int32)) (fun _ => (0 : Int32)) (fun _ => (fun _ => 0))) ++ (wT cI cZ cB cO q3 p3 (0 : Int32) (fun _ => 0))))) := hw
  refine lv_aload_n hx hb dX7_init_37 rfl (lv_at hl 0 rfl) ?_
  refine x_new (ci := 2) (fs := [.null, .int 0, .int 0, .int 0, .int 0, .int 0, .int 0, .int 0]) C hw inX3 tyX3 tyX3_ok lkC_X7_30 wB_X3 wN_X3 rfl (fun j hj => by rcases (show j = 0 ∨ j = 1 ∨ j = 2 ∨ j = 3 ∨ j = 4 ∨ j = 5 ∨ j = 6 ∨ j = 7 by omega) with rfl | rfl | rfl | rfl | rfl | rfl | rfl | rfl <;> rfl) (by rw [hR]; exact Nat.le_of_ble_eq_true rfl) (by rw [hR]; exact Nat.le_of_ble_eq_true rfl) dX7_init_38 (fun q4 H hw => ?_)
  have hw : xWd (dC, dI) A s.heap H _ ([(c_ad, .inr (6, [.ref q1, .ref q2, .ref q3, .null, .null, .null, .int 0, .int 0, .int 0, .int 0]))] ++ ((wS cI cZ cB cO q1 p1 (5 : Int32) (0 : Int32) (fun _ => 0)) ++ ((wZ cI cZ cB cO q2 p2 (0 : Int32) ra2 rb2 (fun _ => (5 : Int32)) (fun _ => (0 : Int32)) (fun _ => (fun _ => 0))) ++ ((wT cI cZ cB cO q3 p3 (0 : Int32) (fun _ => 0)) ++ [(q4, .inr (2, [.null, .int 0, .int 0, .int 0, .int 0, .int 0, .int 0, .int 0]))])))) := hw
  refine W.widen (k := 17) (n := 133) (Nat.le_of_ble_eq_true rfl) (Nat.le_of_ble_eq_true rfl) ?_
  refine lv_dup hx hb dX7_init_41 rfl ?_
  refine x_callIN (rest := [.ref q4, .ref c_ad]) (wc := [(q4, .inr (2, [.null, .int 0, .int 0, .int 0, .int 0, .int 0, .int 0, .int 0]))]) C hZ hw hZ.2.2.2.1 wI_X3_init wN_X3 wC_X3_init rfl ds_X3_init rfl rfl (by rw [hR]; exact Nat.le_of_ble_eq_true rfl) (by rw [hR]; exact Nat.le_of_ble_eq_true rfl) (by rw [hR]; exact Nat.le_of_ble_eq_true rfl) (by rw [hR]; exact Nat.le_of_ble_eq_true rfl) (c_X3_init l dC dI cI cZ cB cO q4 _) [17] [0, 1, 2, 3, 4, 5, 6, 7, 8, 9, 10, 11, 12, 13, 14, 15, 16] (by decide) rfl rfl (by decide) (by decide) hl.1 (Nat.le_of_ble_eq_true rfl) dX7_init_42 (fun u H locs hw => ?_)
  obtain ⟨p4, pt4⟩ := u
  have hw : xWd (dC, dI) A s.heap H _ ([(c_ad, .inr (6, [.ref q1, .ref q2, .ref q3, .null, .null, .null, .int 0, .int 0, .int 0, .int 0]))] ++ ((wS cI cZ cB cO q1 p1 (5 : Int32) (0 : Int32) (fun _ => 0)) ++ ((wZ cI cZ cB cO q2 p2 (0 : Int32) ra2 rb2 (fun _ => (5 : Int32)) (fun _ => (0 : Int32)) (fun _ => (fun _ => 0))) ++ ((wT cI cZ cB cO q3 p3 (0 : Int32) (fun _ => 0)) ++ ((wR cI cZ cB cO q4 p4 (0 : Int32) (-1 : Int32) (0 : Int32) (0 : Int32) (0 : Int32) (0 : Int32) (0 : Int32)) ++ (wS cI cZ cB cO (p4 0) pt4 (5 : Int32) (0 : Int32) (fun _ => 0))))))) := hw.sub [0, 1, 2, 3, 4, 5, 6, 7, 8, 9, 10, 11, 12, 13, 14, 15, 16, 17, 18, 19] (by decide) rfl
  refine W.widen (k := 19) (n := 139) (Nat.le_of_ble_eq_true rfl) (Nat.le_of_ble_eq_true rfl) ?_
  refine x_putF (ci := 6) C hw inX7 tyX7 tyX7_ok nmX7 rfl 3 (by decide) lkF_X7_33 rfl rfl hmn 0 rfl rfl rfl (Nat.le_of_ble_eq_true rfl) dX7_init_45 (fun H locs hw => ?_)
  have hw : xWd (dC, dI) A s.heap H _ ([(c_ad, .inr (6, [.ref q1, .ref q2, .ref q3, .ref q4, .null, .null, .int 0, .int 0, .int 0, .int 0]))] ++ ((wS cI cZ cB cO q1 p1 (5 : Int32) (0 : Int32) (fun _ => 0)) ++ ((wZ cI cZ cB cO q2 p2 (0 : Int32) ra2 rb2 (fun _ => (5 : Int32)) (fun _ => (0 : Int32)) (fun _ => (fun _ => 0))) ++ ((wT cI cZ cB cO q3 p3 (0 : Int32) (fun _ => 0)) ++ ((wR cI cZ cB cO q4 p4 (0 : Int32) (-1 : Int32) (0 : Int32) (0 : Int32) (0 : Int32) (0 : Int32) (0 : Int32)) ++ (wS cI cZ cB cO (p4 0) pt4 (5 : Int32) (0 : Int32) (fun _ => 0))))))) := hw
  refine lv_aload_n hx hb dX7_init_48 rfl (lv_at hl 0 rfl) ?_
  refine x_new (ci := 1) (fs := [.int 0, .null, .null, .null, .null, .null, .null, .int 0]) C hw inX1 tyX1 tyX1_ok lkC_X7_37 wB_X1 wN_X1 rfl (fun j hj => by rcases (show j = 0 ∨ j = 1 ∨ j = 2 ∨ j = 3 ∨ j = 4 ∨ j = 5 ∨ j = 6 ∨ j = 7 by omega) with rfl | rfl | rfl | rfl | rfl | rfl | rfl | rfl <;> rfl) (by rw [hR]; exact Nat.le_of_ble_eq_true rfl) (by rw [hR]; exact Nat.le_of_ble_eq_true rfl) dX7_init_49 (fun q5 H hw => ?_)
  have hw : xWd (dC, dI) A s.heap H _ ([(c_ad, .inr (6, [.ref q1, .ref q2, .ref q3, .ref q4, .null, .null, .int 0, .int 0, .int 0, .int 0]))] ++ ((wS cI cZ cB cO q1 p1 (5 : Int32) (0 : Int32) (fun _ => 0)) ++ ((wZ cI cZ cB cO q2 p2 (0 : Int32) ra2 rb2 (fun _ => (5 : Int32)) (fun _ => (0 : Int32)) (fun _ => (fun _ => 0))) ++ ((wT cI cZ cB cO q3 p3 (0 : Int32) (fun _ => 0)) ++ (((wR cI cZ cB cO q4 p4 (0 : Int32) (-1 : Int32) (0 : Int32) (0 : Int32) (0 : Int32) (0 : Int32) (0 : Int32)) ++ (wS cI cZ cB cO (p4 0) pt4 (5 : Int32) (0 : Int32) (fun _ => 0))) ++ [(q5, .inr (1, [.int 0, .null, .null, .null, .null, .null, .null, .int 0]))]))))) := hw
  refine W.widen (k := 20) (n := 147) (Nat.le_of_ble_eq_true rfl) (Nat.le_of_ble_eq_true rfl) ?_
  refine lv_dup hx hb dX7_init_52 rfl ?_
  refine x_callIN (rest := [.ref q5, .ref c_ad]) (wc := [(q5, .inr (1, [.int 0, .null, .null, .null, .null, .null, .null, .int 0]))]) C hZ hw hZ.2.2.2.2.2.1 wI_X1_init wN_X1 wC_X1_init rfl ds_X1_init rfl rfl (by rw [hR]; exact Nat.le_of_ble_eq_true rfl) (by rw [hR]; exact Nat.le_of_ble_eq_true rfl) (by rw [hR]; exact Nat.le_of_ble_eq_true rfl) (by rw [hR]; exact Nat.le_of_ble_eq_true rfl) (c_X1_init l dC dI cI cZ cB cO q5 _) [20] [0, 1, 2, 3, 4, 5, 6, 7, 8, 9, 10, 11, 12, 13, 14, 15, 16, 17, 18, 19] (by decide) rfl rfl (by decide) (by decide) hl.1 (Nat.le_of_ble_eq_true rfl) dX7_init_53 (fun u H locs hw => ?_)
  obtain ⟨p5, rfl⟩ : ∃ q, q = u := ⟨_, rfl⟩
  have hw : xWd (dC, dI) A s.heap H _ ([(c_ad, .inr (6, [.ref q1, .ref q2, .ref q3, .ref q4, .null, .null, .int 0, .int 0, .int 0, .int 0]))] ++ ((wS cI cZ cB cO q1 p1 (5 : Int32) (0 : Int32) (fun _ => 0)) ++ ((wZ cI cZ cB cO q2 p2 (0 : Int32) ra2 rb2 (fun _ => (5 : Int32)) (fun _ => (0 : Int32)) (fun _ => (fun _ => 0))) ++ ((wT cI cZ cB cO q3 p3 (0 : Int32) (fun _ => 0)) ++ (((wR cI cZ cB cO q4 p4 (0 : Int32) (-1 : Int32) (0 : Int32) (0 : Int32) (0 : Int32) (0 : Int32) (0 : Int32)) ++ (wS cI cZ cB cO (p4 0) pt4 (5 : Int32) (0 : Int32) (fun _ => 0))) ++ (wE cI cZ cB cO q5 p5 (0 : Int32) (fun _ => 0) (fun _ => 0) (fun _ => 0) (fun _ => 0) (fun _ => 0) (fun _ => 0) (0 : Int32))))))) := hw.sub [0, 1, 2, 3, 4, 5, 6, 7, 8, 9, 10, 11, 12, 13, 14, 15, 16, 17, 18, 19, 20, 21, 22, 23, 24, 25, 26] (by decide) rfl
  refine W.widen (k := 26) (n := 348) (Nat.le_of_ble_eq_true rfl) (Nat.le_of_ble_eq_true rfl) ?_
  refine x_putF (ci := 6) C hw inX7 tyX7 tyX7_ok nmX7 rfl 4 (by decide) lkF_X7_40 rfl rfl hmn 0 rfl rfl rfl (Nat.le_of_ble_eq_true rfl) dX7_init_56 (fun H locs hw => ?_)
  have hw : xWd (dC, dI) A s.heap H _ ([(c_ad, .inr (6, [.ref q1, .ref q2, .ref q3, .ref q4, .ref q5, .null, .int 0, .int 0, .int 0, .int 0]))] ++ ((wS cI cZ cB cO q1 p1 (5 : Int32) (0 : Int32) (fun _ => 0)) ++ ((wZ cI cZ cB cO q2 p2 (0 : Int32) ra2 rb2 (fun _ => (5 : Int32)) (fun _ => (0 : Int32)) (fun _ => (fun _ => 0))) ++ ((wT cI cZ cB cO q3 p3 (0 : Int32) (fun _ => 0)) ++ (((wR cI cZ cB cO q4 p4 (0 : Int32) (-1 : Int32) (0 : Int32) (0 : Int32) (0 : Int32) (0 : Int32) (0 : Int32)) ++ (wS cI cZ cB cO (p4 0) pt4 (5 : Int32) (0 : Int32) (fun _ => 0))) ++ (wE cI cZ cB cO q5 p5 (0 : Int32) (fun _ => 0) (fun _ => 0) (fun _ => 0) (fun _ => 0) (fun _ => 0) (fun _ => 0) (0 : Int32))))))) := hw
  refine lv_aload_n hx hb dX7_init_59 rfl (lv_at hl 0 rfl) ?_
  refine x_new (ci := 0) (fs := [.int 0, .null, .null, .null, .null, .null, .int 0]) C hw inX0 tyX0 tyX0_ok lkC_X7_44 wB_X0 wN_X0 rfl (fun j hj => by rcases (show j = 0 ∨ j = 1 ∨ j = 2 ∨ j = 3 ∨ j = 4 ∨ j = 5 ∨ j = 6 by omega) with rfl | rfl | rfl | rfl | rfl | rfl | rfl <;> rfl) (by rw [hR]; exact Nat.le_of_ble_eq_true rfl) (by rw [hR]; exact Nat.le_of_ble_eq_true rfl) dX7_init_60 (fun q6 H hw => ?_)
  have hw : xWd (dC, dI) A s.heap H _ ([(c_ad, .inr (6, [.ref q1, .ref q2, .ref q3, .ref q4, .ref q5, .null, .int 0, .int 0, .int 0, .int 0]))] ++ ((wS cI cZ cB cO q1 p1 (5 : Int32) (0 : Int32) (fun _ => 0)) ++ ((wZ cI cZ cB cO q2 p2 (0 : Int32) ra2 rb2 (fun _ => (5 : Int32)) (fun _ => (0 : Int32)) (fun _ => (fun _ => 0))) ++ ((wT cI cZ cB cO q3 p3 (0 : Int32) (fun _ => 0)) ++ (((wR cI cZ cB cO q4 p4 (0 : Int32) (-1 : Int32) (0 : Int32) (0 : Int32) (0 : Int32) (0 : Int32) (0 : Int32)) ++ (wS cI cZ cB cO (p4 0) pt4 (5 : Int32) (0 : Int32) (fun _ => 0))) ++ ((wE cI cZ cB cO q5 p5 (0 : Int32) (fun _ => 0) (fun _ => 0) (fun _ => 0) (fun _ => 0) (fun _ => 0) (fun _ => 0) (0 : Int32)) ++ [(q6, .inr (0, [.int 0, .null, .null, .null, .null, .null, .int 0]))])))))) := hw
  refine W.widen (k := 27) (n := 355) (Nat.le_of_ble_eq_true rfl) (Nat.le_of_ble_eq_true rfl) ?_
  refine lv_dup hx hb dX7_init_63 rfl ?_
  refine x_callI (rest := [.ref q6, .ref c_ad]) (wc := [(q6, .inr (0, [.int 0, .null, .null, .null, .null, .null, .int 0]))]) C hZ hw lkM_X7_46 wI_X0_init wN_X0 wC_X0_init rfl ds_X0_init rfl rfl (by rw [hR]; exact Nat.le_of_ble_eq_true rfl) (by rw [hR]; exact Nat.le_of_ble_eq_true rfl) (by rw [hR]; exact Nat.le_of_ble_eq_true rfl) (by rw [hR]; exact Nat.le_of_ble_eq_true rfl) (c_X0_init l dC dI cI cZ cB cO q6 fo hfo _) [27] [0, 1, 2, 3, 4, 5, 6, 7, 8, 9, 10, 11, 12, 13, 14, 15, 16, 17, 18, 19, 20, 21, 22, 23, 24, 25, 26] (by decide) rfl rfl (by decide) (by decide) hl.1 (Nat.le_of_ble_eq_true rfl) dX7_init_64 (fun u H locs hw => ?_)
  obtain ⟨p6, rfl⟩ : ∃ q, q = u := ⟨_, rfl⟩
  have hw : xWd (dC, dI) A s.heap H _ ([(c_ad, .inr (6, [.ref q1, .ref q2, .ref q3, .ref q4, .ref q5, .null, .int 0, .int 0, .int 0, .int 0]))] ++ ((wS cI cZ cB cO q1 p1 (5 : Int32) (0 : Int32) (fun _ => 0)) ++ ((wZ cI cZ cB cO q2 p2 (0 : Int32) ra2 rb2 (fun _ => (5 : Int32)) (fun _ => (0 : Int32)) (fun _ => (fun _ => 0))) ++ ((wT cI cZ cB cO q3 p3 (0 : Int32) (fun _ => 0)) ++ (((wR cI cZ cB cO q4 p4 (0 : Int32) (-1 : Int32) (0 : Int32) (0 : Int32) (0 : Int32) (0 : Int32) (0 : Int32)) ++ (wS cI cZ cB cO (p4 0) pt4 (5 : Int32) (0 : Int32) (fun _ => 0))) ++ ((wE cI cZ cB cO q5 p5 (0 : Int32) (fun _ => 0) (fun _ => 0) (fun _ => 0) (fun _ => 0) (fun _ => 0) (fun _ => 0) (0 : Int32)) ++ (wK cI cZ cB cO q6 p6 (0 : Int32) (fun _ => 0) (fun _ => 0) (fun _ => 0) (fun _ => 0) fo (0 : Int32)))))))) := hw.sub [0, 1, 2, 3, 4, 5, 6, 7, 8, 9, 10, 11, 12, 13, 14, 15, 16, 17, 18, 19, 20, 21, 22, 23, 24, 25, 26, 27, 28, 29, 30, 31, 32] (by decide) rfl
  refine W.widen (k := 32) (n := 1389) (Nat.le_of_ble_eq_true rfl) (Nat.le_of_ble_eq_true rfl) ?_
  refine x_putF (ci := 6) C hw inX7 tyX7 tyX7_ok nmX7 rfl 5 (by decide) lkF_X7_47 rfl rfl hmn 0 rfl rfl rfl (Nat.le_of_ble_eq_true rfl) dX7_init_67 (fun H locs hw => ?_)
  have hw : xWd (dC, dI) A s.heap H _ ([(c_ad, .inr (6, [.ref q1, .ref q2, .ref q3, .ref q4, .ref q5, .ref q6, .int 0, .int 0, .int 0, .int 0]))] ++ ((wS cI cZ cB cO q1 p1 (5 : Int32) (0 : Int32) (fun _ => 0)) ++ ((wZ cI cZ cB cO q2 p2 (0 : Int32) ra2 rb2 (fun _ => (5 : Int32)) (fun _ => (0 : Int32)) (fun _ => (fun _ => 0))) ++ ((wT cI cZ cB cO q3 p3 (0 : Int32) (fun _ => 0)) ++ (((wR cI cZ cB cO q4 p4 (0 : Int32) (-1 : Int32) (0 : Int32) (0 : Int32) (0 : Int32) (0 : Int32) (0 : Int32)) ++ (wS cI cZ cB cO (p4 0) pt4 (5 : Int32) (0 : Int32) (fun _ => 0))) ++ ((wE cI cZ cB cO q5 p5 (0 : Int32) (fun _ => 0) (fun _ => 0) (fun _ => 0) (fun _ => 0) (fun _ => 0) (fun _ => 0) (0 : Int32)) ++ (wK cI cZ cB cO q6 p6 (0 : Int32) (fun _ => 0) (fun _ => 0) (fun _ => 0) (fun _ => 0) fo (0 : Int32)))))))) := hw
  refine lv_aload_n hx hb dX7_init_70 rfl (lv_at hl 0 rfl) ?_
  refine lv_iconst (v := (0 : Int32)) hx hb dX7_init_71 (by decide) ?_
  refine x_put (ci := 6) C hw inX7 tyX7 tyX7_ok nmX7 rfl 6 (by decide) lkF_X7_51 rfl rfl 0 rfl rfl rfl (Nat.le_of_ble_eq_true rfl) dX7_init_72 (fun H locs hw => ?_)
  have hw : xWd (dC, dI) A s.heap H _ ([(c_ad, .inr (6, [.ref q1, .ref q2, .ref q3, .ref q4, .ref q5, .ref q6, .int (0 : Int32), .int 0, .int 0, .int 0]))] ++ ((wS cI cZ cB cO q1 p1 (5 : Int32) (0 : Int32) (fun _ => 0)) ++ ((wZ cI cZ cB cO q2 p2 (0 : Int32) ra2 rb2 (fun _ => (5 : Int32)) (fun _ => (0 : Int32)) (fun _ => (fun _ => 0))) ++ ((wT cI cZ cB cO q3 p3 (0 : Int32) (fun _ => 0)) ++ (((wR cI cZ cB cO q4 p4 (0 : Int32) (-1 : Int32) (0 : Int32) (0 : Int32) (0 : Int32) (0 : Int32) (0 : Int32)) ++ (wS cI cZ cB cO (p4 0) pt4 (5 : Int32) (0 : Int32) (fun _ => 0))) ++ ((wE cI cZ cB cO q5 p5 (0 : Int32) (fun _ => 0) (fun _ => 0) (fun _ => 0) (fun _ => 0) (fun _ => 0) (fun _ => 0) (0 : Int32)) ++ (wK cI cZ cB cO q6 p6 (0 : Int32) (fun _ => 0) (fun _ => 0) (fun _ => 0) (fun _ => 0) fo (0 : Int32)))))))) := hw
  refine lv_aload_n hx hb dX7_init_75 rfl (lv_at hl 0 rfl) ?_
  refine lv_iconst (v := (0 : Int32)) hx hb dX7_init_76 (by decide) ?_
  refine x_put (ci := 6) C hw inX7 tyX7 tyX7_ok nmX7 rfl 7 (by decide) lkF_X7_55 rfl rfl 0 rfl rfl rfl (Nat.le_of_ble_eq_true rfl) dX7_init_77 (fun H locs hw => ?_)
  have hw : xWd (dC, dI) A s.heap H _ ([(c_ad, .inr (6, [.ref q1, .ref q2, .ref q3, .ref q4, .ref q5, .ref q6, .int (0 : Int32), .int (0 : Int32), .int 0, .int 0]))] ++ ((wS cI cZ cB cO q1 p1 (5 : Int32) (0 : Int32) (fun _ => 0)) ++ ((wZ cI cZ cB cO q2 p2 (0 : Int32) ra2 rb2 (fun _ => (5 : Int32)) (fun _ => (0 : Int32)) (fun _ => (fun _ => 0))) ++ ((wT cI cZ cB cO q3 p3 (0 : Int32) (fun _ => 0)) ++ (((wR cI cZ cB cO q4 p4 (0 : Int32) (-1 : Int32) (0 : Int32) (0 : Int32) (0 : Int32) (0 : Int32) (0 : Int32)) ++ (wS cI cZ cB cO (p4 0) pt4 (5 : Int32) (0 : Int32) (fun _ => 0))) ++ ((wE cI cZ cB cO q5 p5 (0 : Int32) (fun _ => 0) (fun _ => 0) (fun _ => 0) (fun _ => 0) (fun _ => 0) (fun _ => 0) (0 : Int32)) ++ (wK cI cZ cB cO q6 p6 (0 : Int32) (fun _ => 0) (fun _ => 0) (fun _ => 0) (fun _ => 0) fo (0 : Int32)))))))) := hw
  refine lv_aload_n hx hb dX7_init_80 rfl (lv_at hl 0 rfl) ?_
  refine lv_iconst (v := (0 : Int32)) hx hb dX7_init_81 (by decide) ?_
  refine x_put (ci := 6) C hw inX7 tyX7 tyX7_ok nmX7 rfl 8 (by decide) lkF_X7_59 rfl rfl 0 rfl rfl rfl (Nat.le_of_ble_eq_true rfl) dX7_init_82 (fun H locs hw => ?_)
  have hw : xWd (dC, dI) A s.heap H _ ([(c_ad, .inr (6, [.ref q1, .ref q2, .ref q3, .ref q4, .ref q5, .ref q6, .int (0 : Int32), .int (0 : Int32), .int (0 : Int32), .int 0]))] ++ ((wS cI cZ cB cO q1 p1 (5 : Int32) (0 : Int32) (fun _ => 0)) ++ ((wZ cI cZ cB cO q2 p2 (0 : Int32) ra2 rb2 (fun _ => (5 : Int32)) (fun _ => (0 : Int32)) (fun _ => (fun _ => 0))) ++ ((wT cI cZ cB cO q3 p3 (0 : Int32) (fun _ => 0)) ++ (((wR cI cZ cB cO q4 p4 (0 : Int32) (-1 : Int32) (0 : Int32) (0 : Int32) (0 : Int32) (0 : Int32) (0 : Int32)) ++ (wS cI cZ cB cO (p4 0) pt4 (5 : Int32) (0 : Int32) (fun _ => 0))) ++ ((wE cI cZ cB cO q5 p5 (0 : Int32) (fun _ => 0) (fun _ => 0) (fun _ => 0) (fun _ => 0) (fun _ => 0) (fun _ => 0) (0 : Int32)) ++ (wK cI cZ cB cO q6 p6 (0 : Int32) (fun _ => 0) (fun _ => 0) (fun _ => 0) (fun _ => 0) fo (0 : Int32)))))))) := hw
  refine lv_aload_n hx hb dX7_init_85 rfl (lv_at hl 0 rfl) ?_
  refine lv_iconst (v := (0 : Int32)) hx hb dX7_init_86 (by decide) ?_
  refine x_put (ci := 6) C hw inX7 tyX7 tyX7_ok nmX7 rfl 9 (by decide) lkF_X7_62 rfl rfl 0 rfl rfl rfl (Nat.le_of_ble_eq_true rfl) dX7_init_87 (fun H locs hw => ?_)
  have hw : xWd (dC, dI) A s.heap H _ ([(c_ad, .inr (6, [.ref q1, .ref q2, .ref q3, .ref q4, .ref q5, .ref q6, .int (0 : Int32), .int (0 : Int32), .int (0 : Int32), .int (0 : Int32)]))] ++ ((wS cI cZ cB cO q1 p1 (5 : Int32) (0 : Int32) (fun _ => 0)) ++ ((wZ cI cZ cB cO q2 p2 (0 : Int32) ra2 rb2 (fun _ => (5 : Int32)) (fun _ => (0 : Int32)) (fun _ => (fun _ => 0))) ++ ((wT cI cZ cB cO q3 p3 (0 : Int32) (fun _ => 0)) ++ (((wR cI cZ cB cO q4 p4 (0 : Int32) (-1 : Int32) (0 : Int32) (0 : Int32) (0 : Int32) (0 : Int32) (0 : Int32)) ++ (wS cI cZ cB cO (p4 0) pt4 (5 : Int32) (0 : Int32) (fun _ => 0))) ++ ((wE cI cZ cB cO q5 p5 (0 : Int32) (fun _ => 0) (fun _ => 0) (fun _ => 0) (fun _ => 0) (fun _ => 0) (fun _ => 0) (0 : Int32)) ++ (wK cI cZ cB cO q6 p6 (0 : Int32) (fun _ => 0) (fun _ => 0) (fun _ => 0) (fun _ => 0) fo (0 : Int32)))))))) := hw
  have hw : xWd (dC, dI) A s.heap H _ ((fun (u : (Nat → Nat) × (Nat → Nat) × (Nat → Nat) × (Nat → Nat) × (Nat → Nat) × (Nat → Nat) × (Nat → Nat) × (Nat → Nat) × (Nat → Nat) × (Nat → Nat)) => ((wC cI cZ cB cO c_ad u.1 (0 : Int32) (0 : Int32) (0 : Int32) (0 : Int32)) ++ ((wS cI cZ cB cO (u.1 0) u.2.1 (5 : Int32) (0 : Int32) (fun _ => 0)) ++ ((wZ cI cZ cB cO (u.1 1) u.2.2.1 (0 : Int32) u.2.2.2.1 u.2.2.2.2.1 (fun _ => (5 : Int32)) (fun _ => (0 : Int32)) (fun _ => (fun _ => 0))) ++ ((wT cI cZ cB cO (u.1 2) u.2.2.2.2.2.1 (0 : Int32) (fun _ => 0)) ++ (((wR cI cZ cB cO (u.1 3) u.2.2.2.2.2.2.1 (0 : Int32) (-1 : Int32) (0 : Int32) (0 : Int32) (0 : Int32) (0 : Int32) (0 : Int32)) ++ (wS cI cZ cB cO (u.2.2.2.2.2.2.1 0) u.2.2.2.2.2.2.2.1 (5 : Int32) (0 : Int32) (fun _ => 0))) ++ ((wE cI cZ cB cO (u.1 4) u.2.2.2.2.2.2.2.2.1 (0 : Int32) (fun _ => 0) (fun _ => 0) (fun _ => 0) (fun _ => 0) (fun _ => 0) (fun _ => 0) (0 : Int32)) ++ (wK cI cZ cB cO (u.1 5) u.2.2.2.2.2.2.2.2.2 (0 : Int32) (fun _ => 0) (fun _ => 0) (fun _ => 0) (fun _ => 0) fo (0 : Int32))))))))) ((fun k => if k = 0 then q1 else if k = 1 then q2 else if k = 2 then q3 else if k = 3 then q4 else if k = 4 then q5 else if k = 5 then q6 else 0), p1, p2, ra2, rb2, p3, p4, pt4, p5, p6)) := hw.sub [0, 1, 2, 3, 4, 5, 6, 7, 8, 9, 10, 11, 12, 13, 14, 15, 16, 17, 18, 19, 20, 21, 22, 23, 24, 25, 26, 27, 28, 29, 30, 31, 32] (by decide) rfl
  exact x_retI ((fun k => if k = 0 then q1 else if k = 1 then q2 else if k = 2 then q3 else if k = 3 then q4 else if k = 4 then q5 else if k = 5 then q6 else 0), p1, p2, ra2, rb2, p3, p4, pt4, p5, p6) C hQ hA hw dX7_init_90

def wS (cI cZ cB cO : ClassId) (h : Nat) (p : Nat → Nat) (f0 : Int32) (f1 : Int32) (f2 : (Nat → Int32)) : va_W := [(h, .inr (3, [.int f0, .int f1, .ref (p 2)])), (p 2, .inl (cI, 3, .inl f2))]
def wT (cI cZ cB cO : ClassId) (h : Nat) (p : Nat → Nat) (f0 : Int32) (f1 : (Nat → Int32)) : va_W := [(h, .inr (5, [.int f0, .ref (p 1)])), (p 1, .inl (cB, 80, .inl f1))]
def wE (cI cZ cB cO : ClassId) (h : Nat) (p : Nat → Nat) (f0 : Int32) (f1 : (Nat → Int32)) (f2 : (Nat → Int32)) (f3 : (Nat → Int32)) (f4 : (Nat → Int32)) (f5 : (Nat → Int32)) (f6 : (Nat → Int32)) (f7 : Int32) : va_W := [(h, .inr (1, [.int f0, .ref (p 1), .ref (p 2), .ref (p 3), .ref (p 4), .ref (p 5), .ref (p 6), .int f7])), (p 1, .inl (cI, 64, .inl f1)), (p 2, .inl (cI, 64, .inl f2)), (p 3, .inl (cI, 8, .inl f3)), (p 4, .inl (cI, 9, .inl f4)), (p 5, .inl (cI, 28, .inl f5)), (p 6, .inl (cI, 28, .inl f6))]
def wK (cI cZ cB cO : ClassId) (h : Nat) (p : Nat → Nat) (f0 : Int32) (f1 : (Nat → Int32)) (f2 : (Nat → Int32)) (f3 : (Nat → Int32)) (f4 : (Nat → Int32)) (f5 : (Nat → Int32)) (f6 : Int32) : va_W := [(h, .inr (0, [.int f0, .ref (p 1), .ref (p 2), .ref (p 3), .ref (p 4), .ref (p 5), .int f6])), (p 1, .inl (cI, 256, .inl f1)), (p 2, .inl (cI, 10, .inl f2)), (p 3, .inl (cI, 256, .inl f3)), (p 4, .inl (cI, 256, .inl f4)), (p 5, .inl (cI, 256, .inl f5))]
def wR (cI cZ cB cO : ClassId) (h : Nat) (p : Nat → Nat) (f1 : Int32) (f2 : Int32) (f3 : Int32) (f4 : Int32) (f5 : Int32) (f6 : Int32) (f7 : Int32) : va_W := [(h, .inr (2, [.ref (p 0), .int f1, .int f2, .int f3, .int f4, .int f5, .int f6, .int f7]))]
def wC (cI cZ cB cO : ClassId) (h : Nat) (p : Nat → Nat) (f6 : Int32) (f7 : Int32) (f8 : Int32) (f9 : Int32) : va_W := [(h, .inr (6, [.ref (p 0), .ref (p 1), .ref (p 2), .ref (p 3), .ref (p 4), .ref (p 5), .int f6, .int f7, .int f8, .int f9]))]
def wM (cI cZ cB cO : ClassId) (h : Nat) (p : Nat → Nat) (f0 : (Nat → Int32)) (f1 : (Nat → Int32)) (f2 : (Nat → Int32)) (f3 : Int32) (f4 : (Nat → Int32)) (f5 : (Nat → Int32)) (f6 : Int32) (f7 : Int32) (f8 : (Nat → Int32)) (f9 : (Nat → Int32)) (f10 : (Nat → Int32)) (f11 : (Nat → Int32)) (f12 : (Nat → Int32)) (f13 : (Nat → Int32)) (f14 : (Nat → Int32)) (f15 : Int32) (f16 : Int32) (f17 : (Nat → Int32)) (f18 : (Nat → Int32)) (f19 : (Nat → Int32)) (f20 : (Nat → Int32)) (f21 : Int32) (f22 : Int32) (f23 : Int32) (f24 : Int32) (f25 : Int32) (f26 : (Nat → Int32)) (f27 : (Nat → Int32)) (f28 : Int64) : va_W := [(h, .inr (7, [.ref (p 0), .ref (p 1), .ref (p 2), .int f3, .ref (p 4), .ref (p 5), .int f6, .int f7, .ref (p 8), .ref (p 9), .ref (p 10), .ref (p 11), .ref (p 12), .ref (p 13), .ref (p 14), .int f15, .int f16, .ref (p 17), .ref (p 18), .ref (p 19), .ref (p 20), .int f21, .int f22, .int f23, .int f24, .int f25, .ref (p 26), .ref (p 27), .long f28])), (p 0, .inl (cI, 5, .inl f0)), (p 1, .inl (cI, 5, .inl f1)), (p 2, .inl (cI, 25, .inl f2)), (p 4, .inl (cI, 3, .inl f4)), (p 5, .inl (cI, 8, .inl f5)), (p 8, .inl (cZ, 40320, .inl f8)), (p 9, .inl (cI, 40320, .inl f9)), (p 10, .inl (cI, 24, .inl f10)), (p 11, .inl (cI, 8, .inl f11)), (p 12, .inl (cI, 8, .inl f12)), (p 13, .inl (cZ, 256, .inl f13)), (p 14, .inl (cI, 256, .inl f14)), (p 17, .inl (cI, 256, .inl f17)), (p 18, .inl (cI, 256, .inl f18)), (p 19, .inl (cI, 10, .inl f19)), (p 20, .inl (cI, 80, .inl f20)), (p 26, .inl (cI, 40, .inl f26)), (p 27, .inl (cI, 40, .inl f27))]
def wA (cI cZ cB cO : ClassId) (h n : Nat) (row : Nat → Int32) : va_W := [(h, .inl (cI, n, .inl row))]
theorem dX2_at_0 : decode cX2_at 0 = .ok (.iload_n 0, 1) := by decide +kernel
theorem dX2_at_1 : decode cX2_at 1 = .ok (.iconst 3, 1) := by decide +kernel
theorem dX2_at_2 : decode cX2_at 2 = .ok (.iload_n 1, 1) := by decide +kernel
theorem dX2_at_3 : decode cX2_at 3 = .ok (.imul, 1) := by decide +kernel
theorem dX2_at_4 : decode cX2_at 4 = .ok (.iushr, 1) := by decide +kernel
theorem dX2_at_5 : decode cX2_at 5 = .ok (.bipush 7, 2) := by decide +kernel
theorem dX2_at_7 : decode cX2_at 7 = .ok (.iand, 1) := by decide +kernel
theorem dX2_at_8 : decode cX2_at 8 = .ok (.ireturn, 1) := by decide +kernel
theorem dX2_then_0 : decode cX2_then 0 = .ok (.iconst 0, 1) := by decide +kernel
theorem dX2_then_1 : decode cX2_then 1 = .ok (.istore_n 2, 1) := by decide +kernel
theorem dX2_then_2 : decode cX2_then 2 = .ok (.iconst 0, 1) := by decide +kernel
theorem dX2_then_3 : decode cX2_then 3 = .ok (.istore_n 3, 1) := by decide +kernel
theorem dX2_then_4 : decode cX2_then 4 = .ok (.iload_n 3, 1) := by decide +kernel
theorem dX2_then_5 : decode cX2_then 5 = .ok (.bipush 24, 2) := by decide +kernel
theorem dX2_then_7 : decode cX2_then 7 = .ok (.if_icmp .ge 27, 3) := by decide +kernel
theorem dX2_then_10 : decode cX2_then 10 = .ok (.iload_n 2, 1) := by decide +kernel
theorem dX2_then_11 : decode cX2_then 11 = .ok (.iload_n 1, 1) := by decide +kernel
theorem dX2_then_12 : decode cX2_then 12 = .ok (.iconst 3, 1) := by decide +kernel
theorem dX2_then_13 : decode cX2_then 13 = .ok (.iload_n 0, 1) := by decide +kernel
theorem dX2_then_14 : decode cX2_then 14 = .ok (.iload_n 3, 1) := by decide +kernel
theorem dX2_then_15 : decode cX2_then 15 = .ok (.iushr, 1) := by decide +kernel
theorem dX2_then_16 : decode cX2_then 16 = .ok (.bipush 7, 2) := by decide +kernel
theorem dX2_then_18 : decode cX2_then 18 = .ok (.iand, 1) := by decide +kernel
theorem dX2_then_19 : decode cX2_then 19 = .ok (.imul, 1) := by decide +kernel
theorem dX2_then_20 : decode cX2_then 20 = .ok (.iushr, 1) := by decide +kernel
theorem dX2_then_21 : decode cX2_then 21 = .ok (.bipush 7, 2) := by decide +kernel
theorem dX2_then_23 : decode cX2_then 23 = .ok (.iand, 1) := by decide +kernel
theorem dX2_then_24 : decode cX2_then 24 = .ok (.iload_n 3, 1) := by decide +kernel
theorem dX2_then_25 : decode cX2_then 25 = .ok (.ishl, 1) := by decide +kernel
theorem dX2_then_26 : decode cX2_then 26 = .ok (.ior, 1) := by decide +kernel
theorem dX2_then_27 : decode cX2_then 27 = .ok (.istore_n 2, 1) := by decide +kernel
theorem dX2_then_28 : decode cX2_then 28 = .ok (.iinc 3 3, 3) := by decide +kernel
theorem dX2_then_31 : decode cX2_then 31 = .ok (.goto (-27), 3) := by decide +kernel
theorem dX2_then_34 : decode cX2_then 34 = .ok (.iload_n 2, 1) := by decide +kernel
theorem dX2_then_35 : decode cX2_then 35 = .ok (.ireturn, 1) := by decide +kernel
theorem dX2_inverse_0 : decode cX2_inverse 0 = .ok (.iconst 0, 1) := by decide +kernel
theorem dX2_inverse_1 : decode cX2_inverse 1 = .ok (.istore_n 1, 1) := by decide +kernel
theorem dX2_inverse_2 : decode cX2_inverse 2 = .ok (.iconst 0, 1) := by decide +kernel
theorem dX2_inverse_3 : decode cX2_inverse 3 = .ok (.istore_n 2, 1) := by decide +kernel
theorem dX2_inverse_4 : decode cX2_inverse 4 = .ok (.iload_n 2, 1) := by decide +kernel
theorem dX2_inverse_5 : decode cX2_inverse 5 = .ok (.bipush 8, 2) := by decide +kernel
theorem dX2_inverse_7 : decode cX2_inverse 7 = .ok (.if_icmp .ge 24, 3) := by decide +kernel
theorem dX2_inverse_10 : decode cX2_inverse 10 = .ok (.iload_n 1, 1) := by decide +kernel
theorem dX2_inverse_11 : decode cX2_inverse 11 = .ok (.iload_n 2, 1) := by decide +kernel
theorem dX2_inverse_12 : decode cX2_inverse 12 = .ok (.iconst 3, 1) := by decide +kernel
theorem dX2_inverse_13 : decode cX2_inverse 13 = .ok (.iload_n 0, 1) := by decide +kernel
theorem dX2_inverse_14 : decode cX2_inverse 14 = .ok (.iconst 3, 1) := by decide +kernel
theorem dX2_inverse_15 : decode cX2_inverse 15 = .ok (.iload_n 2, 1) := by decide +kernel
theorem dX2_inverse_16 : decode cX2_inverse 16 = .ok (.imul, 1) := by decide +kernel
theorem dX2_inverse_17 : decode cX2_inverse 17 = .ok (.iushr, 1) := by decide +kernel
theorem dX2_inverse_18 : decode cX2_inverse 18 = .ok (.bipush 7, 2) := by decide +kernel
theorem dX2_inverse_20 : decode cX2_inverse 20 = .ok (.iand, 1) := by decide +kernel
theorem dX2_inverse_21 : decode cX2_inverse 21 = .ok (.imul, 1) := by decide +kernel
theorem dX2_inverse_22 : decode cX2_inverse 22 = .ok (.ishl, 1) := by decide +kernel
theorem dX2_inverse_23 : decode cX2_inverse 23 = .ok (.ior, 1) := by decide +kernel
theorem dX2_inverse_24 : decode cX2_inverse 24 = .ok (.istore_n 1, 1) := by decide +kernel
theorem dX2_inverse_25 : decode cX2_inverse 25 = .ok (.iinc 2 1, 3) := by decide +kernel
theorem dX2_inverse_28 : decode cX2_inverse 28 = .ok (.goto (-24), 3) := by decide +kernel
theorem dX2_inverse_31 : decode cX2_inverse 31 = .ok (.iload_n 1, 1) := by decide +kernel
theorem dX2_inverse_32 : decode cX2_inverse 32 = .ok (.ireturn, 1) := by decide +kernel
theorem dX2_carry_0 : decode cX2_carry 0 = .ok (.iconst 0, 1) := by decide +kernel
theorem dX2_carry_1 : decode cX2_carry 1 = .ok (.istore_n 2, 1) := by decide +kernel
theorem dX2_carry_2 : decode cX2_carry 2 = .ok (.iload_n 0, 1) := by decide +kernel
theorem dX2_carry_3 : decode cX2_carry 3 = .ok (.istore_n 3, 1) := by decide +kernel
theorem dX2_carry_4 : decode cX2_carry 4 = .ok (.iconst 0, 1) := by decide +kernel
theorem dX2_carry_5 : decode cX2_carry 5 = .ok (.istore 4, 2) := by decide +kernel
theorem dX2_carry_7 : decode cX2_carry 7 = .ok (.iload 4, 2) := by decide +kernel
theorem dX2_carry_9 : decode cX2_carry 9 = .ok (.bipush 24, 2) := by decide +kernel
theorem dX2_carry_11 : decode cX2_carry 11 = .ok (.if_icmp .ge 31, 3) := by decide +kernel
theorem dX2_carry_14 : decode cX2_carry 14 = .ok (.iload_n 3, 1) := by decide +kernel
theorem dX2_carry_15 : decode cX2_carry 15 = .ok (.ifCond .eq 27, 3) := by decide +kernel
theorem dX2_carry_18 : decode cX2_carry 18 = .ok (.iload_n 2, 1) := by decide +kernel
theorem dX2_carry_19 : decode cX2_carry 19 = .ok (.iload_n 3, 1) := by decide +kernel
theorem dX2_carry_20 : decode cX2_carry 20 = .ok (.iconst 1, 1) := by decide +kernel
theorem dX2_carry_21 : decode cX2_carry 21 = .ok (.iand, 1) := by decide +kernel
theorem dX2_carry_22 : decode cX2_carry 22 = .ok (.iload_n 1, 1) := by decide +kernel
theorem dX2_carry_23 : decode cX2_carry 23 = .ok (.iload 4, 2) := by decide +kernel
theorem dX2_carry_25 : decode cX2_carry 25 = .ok (.iushr, 1) := by decide +kernel
theorem dX2_carry_26 : decode cX2_carry 26 = .ok (.bipush 7, 2) := by decide +kernel
theorem dX2_carry_28 : decode cX2_carry 28 = .ok (.iand, 1) := by decide +kernel
theorem dX2_carry_29 : decode cX2_carry 29 = .ok (.ishl, 1) := by decide +kernel
theorem dX2_carry_30 : decode cX2_carry 30 = .ok (.ior, 1) := by decide +kernel
theorem dX2_carry_31 : decode cX2_carry 31 = .ok (.istore_n 2, 1) := by decide +kernel
theorem dX2_carry_32 : decode cX2_carry 32 = .ok (.iload_n 3, 1) := by decide +kernel
theorem dX2_carry_33 : decode cX2_carry 33 = .ok (.iconst 1, 1) := by decide +kernel
theorem dX2_carry_34 : decode cX2_carry 34 = .ok (.iushr, 1) := by decide +kernel
theorem dX2_carry_35 : decode cX2_carry 35 = .ok (.istore_n 3, 1) := by decide +kernel
theorem dX2_carry_36 : decode cX2_carry 36 = .ok (.iinc 4 3, 3) := by decide +kernel
theorem dX2_carry_39 : decode cX2_carry 39 = .ok (.goto (-32), 3) := by decide +kernel
theorem dX2_carry_42 : decode cX2_carry 42 = .ok (.iload_n 2, 1) := by decide +kernel
theorem dX2_carry_43 : decode cX2_carry 43 = .ok (.ireturn, 1) := by decide +kernel
theorem dX2_read_0 : decode cX2_read 0 = .ok (.iload_n 0, 1) := by decide +kernel
theorem dX2_read_1 : decode cX2_read 1 = .ok (.istore_n 2, 1) := by decide +kernel
theorem dX2_read_2 : decode cX2_read 2 = .ok (.iconst 0, 1) := by decide +kernel
theorem dX2_read_3 : decode cX2_read 3 = .ok (.istore_n 3, 1) := by decide +kernel
theorem dX2_read_4 : decode cX2_read 4 = .ok (.ldc 11, 2) := by decide +kernel
theorem dX2_read_6 : decode cX2_read 6 = .ok (.istore 4, 2) := by decide +kernel
theorem dX2_read_8 : decode cX2_read 8 = .ok (.iload_n 1, 1) := by decide +kernel
theorem dX2_read_9 : decode cX2_read 9 = .ok (.iconst 1, 1) := by decide +kernel
theorem dX2_read_10 : decode cX2_read 10 = .ok (.isub, 1) := by decide +kernel
theorem dX2_read_11 : decode cX2_read 11 = .ok (.istore 5, 2) := by decide +kernel
theorem dX2_read_13 : decode cX2_read 13 = .ok (.iload 5, 2) := by decide +kernel
theorem dX2_read_15 : decode cX2_read 15 = .ok (.ifCond .lt 71, 3) := by decide +kernel
theorem dX2_read_18 : decode cX2_read 18 = .ok (.iload_n 2, 1) := by decide +kernel
theorem dX2_read_19 : decode cX2_read 19 = .ok (.bipush 10, 2) := by decide +kernel
theorem dX2_read_21 : decode cX2_read 21 = .ok (.irem, 1) := by decide +kernel
theorem dX2_read_22 : decode cX2_read 22 = .ok (.istore 6, 2) := by decide +kernel
theorem dX2_read_24 : decode cX2_read 24 = .ok (.iload_n 2, 1) := by decide +kernel
theorem dX2_read_25 : decode cX2_read 25 = .ok (.bipush 10, 2) := by decide +kernel
theorem dX2_read_27 : decode cX2_read 27 = .ok (.idiv, 1) := by decide +kernel
theorem dX2_read_28 : decode cX2_read 28 = .ok (.istore_n 2, 1) := by decide +kernel
theorem dX2_read_29 : decode cX2_read 29 = .ok (.iload 6, 2) := by decide +kernel
theorem dX2_read_31 : decode cX2_read 31 = .ok (.ifCond .lt 18, 3) := by decide +kernel
theorem dX2_read_34 : decode cX2_read 34 = .ok (.iload 6, 2) := by decide +kernel
theorem dX2_read_36 : decode cX2_read 36 = .ok (.iload_n 1, 1) := by decide +kernel
theorem dX2_read_37 : decode cX2_read 37 = .ok (.if_icmp .ge 12, 3) := by decide +kernel
theorem dX2_read_40 : decode cX2_read 40 = .ok (.iload_n 3, 1) := by decide +kernel
theorem dX2_read_41 : decode cX2_read 41 = .ok (.iload 6, 2) := by decide +kernel
theorem dX2_read_43 : decode cX2_read 43 = .ok (.ishr, 1) := by decide +kernel
theorem dX2_read_44 : decode cX2_read 44 = .ok (.iconst 1, 1) := by decide +kernel
theorem dX2_read_45 : decode cX2_read 45 = .ok (.iand, 1) := by decide +kernel
theorem dX2_read_46 : decode cX2_read 46 = .ok (.ifCond .eq 5, 3) := by decide +kernel
theorem dX2_read_49 : decode cX2_read 49 = .ok (.iconst (-1), 1) := by decide +kernel
theorem dX2_read_50 : decode cX2_read 50 = .ok (.ireturn, 1) := by decide +kernel
theorem dX2_read_51 : decode cX2_read 51 = .ok (.iload_n 3, 1) := by decide +kernel
theorem dX2_read_52 : decode cX2_read 52 = .ok (.iconst 1, 1) := by decide +kernel
theorem dX2_read_53 : decode cX2_read 53 = .ok (.iload 6, 2) := by decide +kernel
theorem dX2_read_55 : decode cX2_read 55 = .ok (.ishl, 1) := by decide +kernel
theorem dX2_read_56 : decode cX2_read 56 = .ok (.ior, 1) := by decide +kernel
theorem dX2_read_57 : decode cX2_read 57 = .ok (.istore_n 3, 1) := by decide +kernel
theorem dX2_read_58 : decode cX2_read 58 = .ok (.iload 4, 2) := by decide +kernel
theorem dX2_read_60 : decode cX2_read 60 = .ok (.bipush 7, 2) := by decide +kernel
theorem dX2_read_62 : decode cX2_read 62 = .ok (.iconst 3, 1) := by decide +kernel
theorem dX2_read_63 : decode cX2_read 63 = .ok (.iload 5, 2) := by decide +kernel
theorem dX2_read_65 : decode cX2_read 65 = .ok (.imul, 1) := by decide +kernel
theorem dX2_read_66 : decode cX2_read 66 = .ok (.ishl, 1) := by decide +kernel
theorem dX2_read_67 : decode cX2_read 67 = .ok (.iconst (-1), 1) := by decide +kernel
theorem dX2_read_68 : decode cX2_read 68 = .ok (.ixor, 1) := by decide +kernel
theorem dX2_read_69 : decode cX2_read 69 = .ok (.iand, 1) := by decide +kernel
theorem dX2_read_70 : decode cX2_read 70 = .ok (.iload 6, 2) := by decide +kernel
theorem dX2_read_72 : decode cX2_read 72 = .ok (.iconst 3, 1) := by decide +kernel
theorem dX2_read_73 : decode cX2_read 73 = .ok (.iload 5, 2) := by decide +kernel
theorem dX2_read_75 : decode cX2_read 75 = .ok (.imul, 1) := by decide +kernel
theorem dX2_read_76 : decode cX2_read 76 = .ok (.ishl, 1) := by decide +kernel
theorem dX2_read_77 : decode cX2_read 77 = .ok (.ior, 1) := by decide +kernel
theorem dX2_read_78 : decode cX2_read 78 = .ok (.istore 4, 2) := by decide +kernel
theorem dX2_read_80 : decode cX2_read 80 = .ok (.iinc 5 (-1), 3) := by decide +kernel
theorem dX2_read_83 : decode cX2_read 83 = .ok (.goto (-70), 3) := by decide +kernel
theorem dX2_read_86 : decode cX2_read 86 = .ok (.iload_n 2, 1) := by decide +kernel
theorem dX2_read_87 : decode cX2_read 87 = .ok (.ifCond .ne 8, 3) := by decide +kernel
theorem dX2_read_90 : decode cX2_read 90 = .ok (.iload 4, 2) := by decide +kernel
theorem dX2_read_92 : decode cX2_read 92 = .ok (.goto 4, 3) := by decide +kernel
theorem dX2_read_95 : decode cX2_read 95 = .ok (.iconst (-1), 1) := by decide +kernel
theorem dX2_read_96 : decode cX2_read 96 = .ok (.ireturn, 1) := by decide +kernel
theorem dX2_write_0 : decode cX2_write 0 = .ok (.iconst 0, 1) := by decide +kernel
theorem dX2_write_1 : decode cX2_write 1 = .ok (.istore_n 2, 1) := by decide +kernel
theorem dX2_write_2 : decode cX2_write 2 = .ok (.iconst 0, 1) := by decide +kernel
theorem dX2_write_3 : decode cX2_write 3 = .ok (.istore_n 3, 1) := by decide +kernel
theorem dX2_write_4 : decode cX2_write 4 = .ok (.iload_n 3, 1) := by decide +kernel
theorem dX2_write_5 : decode cX2_write 5 = .ok (.iload_n 1, 1) := by decide +kernel
theorem dX2_write_6 : decode cX2_write 6 = .ok (.if_icmp .ge 20, 3) := by decide +kernel
theorem dX2_write_9 : decode cX2_write 9 = .ok (.bipush 10, 2) := by decide +kernel
theorem dX2_write_11 : decode cX2_write 11 = .ok (.iload_n 2, 1) := by decide +kernel
theorem dX2_write_12 : decode cX2_write 12 = .ok (.imul, 1) := by decide +kernel
theorem dX2_write_13 : decode cX2_write 13 = .ok (.iload_n 0, 1) := by decide +kernel
theorem dX2_write_14 : decode cX2_write 14 = .ok (.iload_n 3, 1) := by decide +kernel
theorem dX2_write_15 : decode cX2_write 15 = .ok (.invokestatic 12, 3) := by decide +kernel
theorem dX2_write_18 : decode cX2_write 18 = .ok (.iadd, 1) := by decide +kernel
theorem dX2_write_19 : decode cX2_write 19 = .ok (.istore_n 2, 1) := by decide +kernel
theorem dX2_write_20 : decode cX2_write 20 = .ok (.iinc 3 1, 3) := by decide +kernel
theorem dX2_write_23 : decode cX2_write 23 = .ok (.goto (-19), 3) := by decide +kernel
theorem dX2_write_26 : decode cX2_write 26 = .ok (.iload_n 2, 1) := by decide +kernel
theorem dX2_write_27 : decode cX2_write 27 = .ok (.ireturn, 1) := by decide +kernel
theorem dJ6_bitCount_0f7a4_0 : decode cJ6_bitCount_0f7a4 0 = .ok (.iload_n 0, 1) := by decide +kernel
theorem dJ6_bitCount_0f7a4_1 : decode cJ6_bitCount_0f7a4 1 = .ok (.iload_n 0, 1) := by decide +kernel
theorem dJ6_bitCount_0f7a4_2 : decode cJ6_bitCount_0f7a4 2 = .ok (.iconst 1, 1) := by decide +kernel
theorem dJ6_bitCount_0f7a4_3 : decode cJ6_bitCount_0f7a4 3 = .ok (.iushr, 1) := by decide +kernel
theorem dJ6_bitCount_0f7a4_4 : decode cJ6_bitCount_0f7a4 4 = .ok (.ldc_w 265, 3) := by decide +kernel
theorem dJ6_bitCount_0f7a4_7 : decode cJ6_bitCount_0f7a4 7 = .ok (.iand, 1) := by decide +kernel
theorem dJ6_bitCount_0f7a4_8 : decode cJ6_bitCount_0f7a4 8 = .ok (.isub, 1) := by decide +kernel
theorem dJ6_bitCount_0f7a4_9 : decode cJ6_bitCount_0f7a4 9 = .ok (.istore_n 0, 1) := by decide +kernel
theorem dJ6_bitCount_0f7a4_10 : decode cJ6_bitCount_0f7a4 10 = .ok (.iload_n 0, 1) := by decide +kernel
theorem dJ6_bitCount_0f7a4_11 : decode cJ6_bitCount_0f7a4 11 = .ok (.ldc_w 266, 3) := by decide +kernel
theorem dJ6_bitCount_0f7a4_14 : decode cJ6_bitCount_0f7a4 14 = .ok (.iand, 1) := by decide +kernel
theorem dJ6_bitCount_0f7a4_15 : decode cJ6_bitCount_0f7a4 15 = .ok (.iload_n 0, 1) := by decide +kernel
theorem dJ6_bitCount_0f7a4_16 : decode cJ6_bitCount_0f7a4 16 = .ok (.iconst 2, 1) := by decide +kernel
theorem dJ6_bitCount_0f7a4_17 : decode cJ6_bitCount_0f7a4 17 = .ok (.iushr, 1) := by decide +kernel
theorem dJ6_bitCount_0f7a4_18 : decode cJ6_bitCount_0f7a4 18 = .ok (.ldc_w 266, 3) := by decide +kernel
theorem dJ6_bitCount_0f7a4_21 : decode cJ6_bitCount_0f7a4 21 = .ok (.iand, 1) := by decide +kernel
theorem dJ6_bitCount_0f7a4_22 : decode cJ6_bitCount_0f7a4 22 = .ok (.iadd, 1) := by decide +kernel
theorem dJ6_bitCount_0f7a4_23 : decode cJ6_bitCount_0f7a4 23 = .ok (.istore_n 0, 1) := by decide +kernel
theorem dJ6_bitCount_0f7a4_24 : decode cJ6_bitCount_0f7a4 24 = .ok (.iload_n 0, 1) := by decide +kernel
theorem dJ6_bitCount_0f7a4_25 : decode cJ6_bitCount_0f7a4 25 = .ok (.iload_n 0, 1) := by decide +kernel
theorem dJ6_bitCount_0f7a4_26 : decode cJ6_bitCount_0f7a4 26 = .ok (.iconst 4, 1) := by decide +kernel
theorem dJ6_bitCount_0f7a4_27 : decode cJ6_bitCount_0f7a4 27 = .ok (.iushr, 1) := by decide +kernel
theorem dJ6_bitCount_0f7a4_28 : decode cJ6_bitCount_0f7a4 28 = .ok (.iadd, 1) := by decide +kernel
theorem dJ6_bitCount_0f7a4_29 : decode cJ6_bitCount_0f7a4 29 = .ok (.ldc_w 267, 3) := by decide +kernel
theorem dJ6_bitCount_0f7a4_32 : decode cJ6_bitCount_0f7a4 32 = .ok (.iand, 1) := by decide +kernel
theorem dJ6_bitCount_0f7a4_33 : decode cJ6_bitCount_0f7a4 33 = .ok (.istore_n 0, 1) := by decide +kernel
theorem dJ6_bitCount_0f7a4_34 : decode cJ6_bitCount_0f7a4 34 = .ok (.iload_n 0, 1) := by decide +kernel
theorem dJ6_bitCount_0f7a4_35 : decode cJ6_bitCount_0f7a4 35 = .ok (.iload_n 0, 1) := by decide +kernel
theorem dJ6_bitCount_0f7a4_36 : decode cJ6_bitCount_0f7a4 36 = .ok (.bipush 8, 2) := by decide +kernel
theorem dJ6_bitCount_0f7a4_38 : decode cJ6_bitCount_0f7a4 38 = .ok (.iushr, 1) := by decide +kernel
theorem dJ6_bitCount_0f7a4_39 : decode cJ6_bitCount_0f7a4 39 = .ok (.iadd, 1) := by decide +kernel
theorem dJ6_bitCount_0f7a4_40 : decode cJ6_bitCount_0f7a4 40 = .ok (.istore_n 0, 1) := by decide +kernel
theorem dJ6_bitCount_0f7a4_41 : decode cJ6_bitCount_0f7a4 41 = .ok (.iload_n 0, 1) := by decide +kernel
theorem dJ6_bitCount_0f7a4_42 : decode cJ6_bitCount_0f7a4 42 = .ok (.iload_n 0, 1) := by decide +kernel
theorem dJ6_bitCount_0f7a4_43 : decode cJ6_bitCount_0f7a4 43 = .ok (.bipush 16, 2) := by decide +kernel
theorem dJ6_bitCount_0f7a4_45 : decode cJ6_bitCount_0f7a4 45 = .ok (.iushr, 1) := by decide +kernel
theorem dJ6_bitCount_0f7a4_46 : decode cJ6_bitCount_0f7a4 46 = .ok (.iadd, 1) := by decide +kernel
theorem dJ6_bitCount_0f7a4_47 : decode cJ6_bitCount_0f7a4 47 = .ok (.istore_n 0, 1) := by decide +kernel
theorem dJ6_bitCount_0f7a4_48 : decode cJ6_bitCount_0f7a4 48 = .ok (.iload_n 0, 1) := by decide +kernel
theorem dJ6_bitCount_0f7a4_49 : decode cJ6_bitCount_0f7a4 49 = .ok (.bipush 63, 2) := by decide +kernel
theorem dJ6_bitCount_0f7a4_51 : decode cJ6_bitCount_0f7a4 51 = .ok (.iand, 1) := by decide +kernel
theorem dJ6_bitCount_0f7a4_52 : decode cJ6_bitCount_0f7a4 52 = .ok (.ireturn, 1) := by decide +kernel
theorem dJ7_fill_53178_0 : decode cJ7_fill_53178 0 = .ok (.iconst 0, 1) := by decide +kernel
theorem dJ7_fill_53178_1 : decode cJ7_fill_53178 1 = .ok (.istore_n 2, 1) := by decide +kernel
theorem dJ7_fill_53178_2 : decode cJ7_fill_53178 2 = .ok (.aload_n 0, 1) := by decide +kernel
theorem dJ7_fill_53178_3 : decode cJ7_fill_53178 3 = .ok (.arraylength, 1) := by decide +kernel
theorem dJ7_fill_53178_4 : decode cJ7_fill_53178 4 = .ok (.istore_n 3, 1) := by decide +kernel
theorem dJ7_fill_53178_5 : decode cJ7_fill_53178 5 = .ok (.iload_n 2, 1) := by decide +kernel
theorem dJ7_fill_53178_6 : decode cJ7_fill_53178 6 = .ok (.iload_n 3, 1) := by decide +kernel
theorem dJ7_fill_53178_7 : decode cJ7_fill_53178 7 = .ok (.if_icmp .ge 13, 3) := by decide +kernel
theorem dJ7_fill_53178_10 : decode cJ7_fill_53178 10 = .ok (.aload_n 0, 1) := by decide +kernel
theorem dJ7_fill_53178_11 : decode cJ7_fill_53178 11 = .ok (.iload_n 2, 1) := by decide +kernel
theorem dJ7_fill_53178_12 : decode cJ7_fill_53178 12 = .ok (.iload_n 1, 1) := by decide +kernel
theorem dJ7_fill_53178_13 : decode cJ7_fill_53178 13 = .ok (.iastore, 1) := by decide +kernel
theorem dJ7_fill_53178_14 : decode cJ7_fill_53178 14 = .ok (.iinc 2 1, 3) := by decide +kernel
theorem dJ7_fill_53178_17 : decode cJ7_fill_53178 17 = .ok (.goto (-12), 3) := by decide +kernel
theorem dJ7_fill_53178_20 : decode cJ7_fill_53178 20 = .ok (.return_, 1) := by decide +kernel
theorem dX4_start_0 : decode cX4_start 0 = .ok (.aload_n 0, 1) := by decide +kernel
theorem dX4_start_1 : decode cX4_start 1 = .ok (.iload_n 1, 1) := by decide +kernel
theorem dX4_start_2 : decode cX4_start 2 = .ok (.putfield 9, 3) := by decide +kernel
theorem dX4_start_5 : decode cX4_start 5 = .ok (.aload_n 0, 1) := by decide +kernel
theorem dX4_start_6 : decode cX4_start 6 = .ok (.iconst 0, 1) := by decide +kernel
theorem dX4_start_7 : decode cX4_start 7 = .ok (.putfield 15, 3) := by decide +kernel
theorem dX4_start_10 : decode cX4_start 10 = .ok (.return_, 1) := by decide +kernel
theorem dX4_generator_0 : decode cX4_generator 0 = .ok (.iload_n 1, 1) := by decide +kernel
theorem dX4_generator_1 : decode cX4_generator 1 = .ok (.ifCond .lt 20, 3) := by decide +kernel
theorem dX4_generator_4 : decode cX4_generator 4 = .ok (.iload_n 1, 1) := by decide +kernel
theorem dX4_generator_5 : decode cX4_generator 5 = .ok (.aload_n 0, 1) := by decide +kernel
theorem dX4_generator_6 : decode cX4_generator 6 = .ok (.getfield 15, 3) := by decide +kernel
theorem dX4_generator_9 : decode cX4_generator 9 = .ok (.if_icmp .ge 12, 3) := by decide +kernel
theorem dX4_generator_12 : decode cX4_generator 12 = .ok (.aload_n 0, 1) := by decide +kernel
theorem dX4_generator_13 : decode cX4_generator 13 = .ok (.getfield 18, 3) := by decide +kernel
theorem dX4_generator_16 : decode cX4_generator 16 = .ok (.iload_n 1, 1) := by decide +kernel
theorem dX4_generator_17 : decode cX4_generator 17 = .ok (.iaload, 1) := by decide +kernel
theorem dX4_generator_18 : decode cX4_generator 18 = .ok (.goto 5, 3) := by decide +kernel
theorem dX4_generator_21 : decode cX4_generator 21 = .ok (.ldc 24, 2) := by decide +kernel
theorem dX4_generator_23 : decode cX4_generator 23 = .ok (.ireturn, 1) := by decide +kernel
theorem dX4_adds_0 : decode cX4_adds 0 = .ok (.aload_n 0, 1) := by decide +kernel
theorem dX4_adds_1 : decode cX4_adds 1 = .ok (.getfield 15, 3) := by decide +kernel
theorem dX4_adds_4 : decode cX4_adds 4 = .ok (.iconst 3, 1) := by decide +kernel
theorem dX4_adds_5 : decode cX4_adds 5 = .ok (.if_icmp .lt 5, 3) := by decide +kernel
theorem dX4_adds_8 : decode cX4_adds 8 = .ok (.iconst 0, 1) := by decide +kernel
theorem dX4_adds_9 : decode cX4_adds 9 = .ok (.ireturn, 1) := by decide +kernel
theorem dX4_adds_10 : decode cX4_adds 10 = .ok (.aload_n 0, 1) := by decide +kernel
theorem dX4_adds_11 : decode cX4_adds 11 = .ok (.getfield 18, 3) := by decide +kernel
theorem dX4_adds_14 : decode cX4_adds 14 = .ok (.aload_n 0, 1) := by decide +kernel
theorem dX4_adds_15 : decode cX4_adds 15 = .ok (.getfield 15, 3) := by decide +kernel
theorem dX4_adds_18 : decode cX4_adds 18 = .ok (.iload_n 1, 1) := by decide +kernel
theorem dX4_adds_19 : decode cX4_adds 19 = .ok (.iastore, 1) := by decide +kernel
theorem dX4_adds_20 : decode cX4_adds 20 = .ok (.aload_n 0, 1) := by decide +kernel
theorem dX4_adds_21 : decode cX4_adds 21 = .ok (.dup, 1) := by decide +kernel
theorem dX4_adds_22 : decode cX4_adds 22 = .ok (.getfield 15, 3) := by decide +kernel
theorem dX4_adds_25 : decode cX4_adds 25 = .ok (.iconst 1, 1) := by decide +kernel
theorem dX4_adds_26 : decode cX4_adds 26 = .ok (.iadd, 1) := by decide +kernel
theorem dX4_adds_27 : decode cX4_adds 27 = .ok (.putfield 15, 3) := by decide +kernel
theorem dX4_adds_30 : decode cX4_adds 30 = .ok (.iconst 1, 1) := by decide +kernel
theorem dX4_adds_31 : decode cX4_adds 31 = .ok (.ireturn, 1) := by decide +kernel
theorem dX4_loses_0 : decode cX4_loses 0 = .ok (.iload_n 1, 1) := by decide +kernel
theorem dX4_loses_1 : decode cX4_loses 1 = .ok (.ifCond .lt 11, 3) := by decide +kernel
theorem dX4_loses_4 : decode cX4_loses 4 = .ok (.iload_n 1, 1) := by decide +kernel
theorem dX4_loses_5 : decode cX4_loses 5 = .ok (.aload_n 0, 1) := by decide +kernel
theorem dX4_loses_6 : decode cX4_loses 6 = .ok (.getfield 15, 3) := by decide +kernel
theorem dX4_loses_9 : decode cX4_loses 9 = .ok (.if_icmp .lt 5, 3) := by decide +kernel
theorem dX4_loses_12 : decode cX4_loses 12 = .ok (.iconst 0, 1) := by decide +kernel
theorem dX4_loses_13 : decode cX4_loses 13 = .ok (.ireturn, 1) := by decide +kernel
theorem dX4_loses_14 : decode cX4_loses 14 = .ok (.iload_n 1, 1) := by decide +kernel
theorem dX4_loses_15 : decode cX4_loses 15 = .ok (.iconst 1, 1) := by decide +kernel
theorem dX4_loses_16 : decode cX4_loses 16 = .ok (.iadd, 1) := by decide +kernel
theorem dX4_loses_17 : decode cX4_loses 17 = .ok (.istore_n 2, 1) := by decide +kernel
theorem dX4_loses_18 : decode cX4_loses 18 = .ok (.iload_n 2, 1) := by decide +kernel
theorem dX4_loses_19 : decode cX4_loses 19 = .ok (.aload_n 0, 1) := by decide +kernel
theorem dX4_loses_20 : decode cX4_loses 20 = .ok (.getfield 15, 3) := by decide +kernel
theorem dX4_loses_23 : decode cX4_loses 23 = .ok (.if_icmp .ge 23, 3) := by decide +kernel
theorem dX4_loses_26 : decode cX4_loses 26 = .ok (.aload_n 0, 1) := by decide +kernel
theorem dX4_loses_27 : decode cX4_loses 27 = .ok (.getfield 18, 3) := by decide +kernel
theorem dX4_loses_30 : decode cX4_loses 30 = .ok (.iload_n 2, 1) := by decide +kernel
theorem dX4_loses_31 : decode cX4_loses 31 = .ok (.iconst 1, 1) := by decide +kernel
theorem dX4_loses_32 : decode cX4_loses 32 = .ok (.isub, 1) := by decide +kernel
theorem dX4_loses_33 : decode cX4_loses 33 = .ok (.aload_n 0, 1) := by decide +kernel
theorem dX4_loses_34 : decode cX4_loses 34 = .ok (.getfield 18, 3) := by decide +kernel
theorem dX4_loses_37 : decode cX4_loses 37 = .ok (.iload_n 2, 1) := by decide +kernel
theorem dX4_loses_38 : decode cX4_loses 38 = .ok (.iaload, 1) := by decide +kernel
theorem dX4_loses_39 : decode cX4_loses 39 = .ok (.iastore, 1) := by decide +kernel
theorem dX4_loses_40 : decode cX4_loses 40 = .ok (.iinc 2 1, 3) := by decide +kernel
theorem dX4_loses_43 : decode cX4_loses 43 = .ok (.goto (-25), 3) := by decide +kernel
theorem dX4_loses_46 : decode cX4_loses 46 = .ok (.aload_n 0, 1) := by decide +kernel
theorem dX4_loses_47 : decode cX4_loses 47 = .ok (.dup, 1) := by decide +kernel
theorem dX4_loses_48 : decode cX4_loses 48 = .ok (.getfield 15, 3) := by decide +kernel
theorem dX4_loses_51 : decode cX4_loses 51 = .ok (.iconst 1, 1) := by decide +kernel
theorem dX4_loses_52 : decode cX4_loses 52 = .ok (.isub, 1) := by decide +kernel
theorem dX4_loses_53 : decode cX4_loses 53 = .ok (.putfield 15, 3) := by decide +kernel
theorem dX4_loses_56 : decode cX4_loses 56 = .ok (.iconst 1, 1) := by decide +kernel
theorem dX4_loses_57 : decode cX4_loses 57 = .ok (.ireturn, 1) := by decide +kernel
theorem dX4_copy_0 : decode cX4_copy 0 = .ok (.aload_n 0, 1) := by decide +kernel
theorem dX4_copy_1 : decode cX4_copy 1 = .ok (.aload_n 1, 1) := by decide +kernel
theorem dX4_copy_2 : decode cX4_copy 2 = .ok (.getfield 9, 3) := by decide +kernel
theorem dX4_copy_5 : decode cX4_copy 5 = .ok (.putfield 9, 3) := by decide +kernel
theorem dX4_copy_8 : decode cX4_copy 8 = .ok (.aload_n 0, 1) := by decide +kernel
theorem dX4_copy_9 : decode cX4_copy 9 = .ok (.aload_n 1, 1) := by decide +kernel
theorem dX4_copy_10 : decode cX4_copy 10 = .ok (.getfield 15, 3) := by decide +kernel
theorem dX4_copy_13 : decode cX4_copy 13 = .ok (.putfield 15, 3) := by decide +kernel
theorem dX4_copy_16 : decode cX4_copy 16 = .ok (.aload_n 1, 1) := by decide +kernel
theorem dX4_copy_17 : decode cX4_copy 17 = .ok (.getfield 18, 3) := by decide +kernel
theorem dX4_copy_20 : decode cX4_copy 20 = .ok (.iconst 0, 1) := by decide +kernel
theorem dX4_copy_21 : decode cX4_copy 21 = .ok (.aload_n 0, 1) := by decide +kernel
theorem dX4_copy_22 : decode cX4_copy 22 = .ok (.getfield 18, 3) := by decide +kernel
theorem dX4_copy_25 : decode cX4_copy 25 = .ok (.iconst 0, 1) := by decide +kernel
theorem dX4_copy_26 : decode cX4_copy 26 = .ok (.iconst 3, 1) := by decide +kernel
theorem dX4_copy_27 : decode cX4_copy 27 = .ok (.invokestatic 25, 3) := by decide +kernel
theorem dX4_copy_30 : decode cX4_copy 30 = .ok (.return_, 1) := by decide +kernel
theorem dX6_add_0 : decode cX6_add 0 = .ok (.aload_n 0, 1) := by decide +kernel
theorem dX6_add_1 : decode cX6_add 1 = .ok (.getfield 9, 3) := by decide +kernel
theorem dX6_add_4 : decode cX6_add 4 = .ok (.bipush 80, 2) := by decide +kernel
theorem dX6_add_6 : decode cX6_add 6 = .ok (.if_icmp .ge 24, 3) := by decide +kernel
theorem dX6_add_9 : decode cX6_add 9 = .ok (.aload_n 0, 1) := by decide +kernel
theorem dX6_add_10 : decode cX6_add 10 = .ok (.getfield 15, 3) := by decide +kernel
theorem dX6_add_13 : decode cX6_add 13 = .ok (.aload_n 0, 1) := by decide +kernel
theorem dX6_add_14 : decode cX6_add 14 = .ok (.getfield 9, 3) := by decide +kernel
theorem dX6_add_17 : decode cX6_add 17 = .ok (.iload_n 1, 1) := by decide +kernel
theorem dX6_add_18 : decode cX6_add 18 = .ok (.i2b, 1) := by decide +kernel
theorem dX6_add_19 : decode cX6_add 19 = .ok (.bastore, 1) := by decide +kernel
theorem dX6_add_20 : decode cX6_add 20 = .ok (.aload_n 0, 1) := by decide +kernel
theorem dX6_add_21 : decode cX6_add 21 = .ok (.dup, 1) := by decide +kernel
theorem dX6_add_22 : decode cX6_add 22 = .ok (.getfield 9, 3) := by decide +kernel
theorem dX6_add_25 : decode cX6_add 25 = .ok (.iconst 1, 1) := by decide +kernel
theorem dX6_add_26 : decode cX6_add 26 = .ok (.iadd, 1) := by decide +kernel
theorem dX6_add_27 : decode cX6_add 27 = .ok (.putfield 9, 3) := by decide +kernel
theorem dX6_add_30 : decode cX6_add 30 = .ok (.return_, 1) := by decide +kernel
theorem dX6_at_0 : decode cX6_at 0 = .ok (.iload_n 1, 1) := by decide +kernel
theorem dX6_at_1 : decode cX6_at 1 = .ok (.ifCond .lt 20, 3) := by decide +kernel
theorem dX6_at_4 : decode cX6_at 4 = .ok (.iload_n 1, 1) := by decide +kernel
theorem dX6_at_5 : decode cX6_at 5 = .ok (.aload_n 0, 1) := by decide +kernel
theorem dX6_at_6 : decode cX6_at 6 = .ok (.getfield 9, 3) := by decide +kernel
theorem dX6_at_9 : decode cX6_at 9 = .ok (.if_icmp .ge 12, 3) := by decide +kernel
theorem dX6_at_12 : decode cX6_at 12 = .ok (.aload_n 0, 1) := by decide +kernel
theorem dX6_at_13 : decode cX6_at 13 = .ok (.getfield 15, 3) := by decide +kernel
theorem dX6_at_16 : decode cX6_at 16 = .ok (.iload_n 1, 1) := by decide +kernel
theorem dX6_at_17 : decode cX6_at 17 = .ok (.baload, 1) := by decide +kernel
theorem dX6_at_18 : decode cX6_at 18 = .ok (.goto 4, 3) := by decide +kernel
theorem dX6_at_21 : decode cX6_at 21 = .ok (.iconst (-1), 1) := by decide +kernel
theorem dX6_at_22 : decode cX6_at 22 = .ok (.ireturn, 1) := by decide +kernel
theorem gc_X2_12 : GoodIn xtb (va_wsS RX2 12 yX2_at (xW yX2_at cX2_at 2 (some .int))) := x_goodS lkM_X2_12 wT_X2_at wN_X2 wC_X2_at
theorem ds_X2_at : xDs yX2_at 2 := by decide +kernel
theorem ds_X2_then : xDs yX2_then 2 := by decide +kernel
theorem ds_X2_inverse : xDs yX2_inverse 1 := by decide +kernel
theorem ds_X2_carry : xDs yX2_carry 2 := by decide +kernel
theorem ds_X2_read : xDs yX2_read 2 := by decide +kernel
theorem ds_X2_write : xDs yX2_write 2 := by decide +kernel
theorem ds_J6_bitCount_0f7a4 : xDs yJ6_bitCount_0f7a4 1 := by decide +kernel
theorem ds_J7_fill_53178 : xDs yJ7_fill_53178 2 := by decide +kernel
theorem ds_X4_start : xDs yX4_start 1 := by decide +kernel
theorem ds_X4_generator : xDs yX4_generator 1 := by decide +kernel
theorem ds_X4_adds : xDs yX4_adds 1 := by decide +kernel
theorem ds_X4_loses : xDs yX4_loses 1 := by decide +kernel
theorem ds_X4_copy : xDs yX4_copy 1 := by decide +kernel
theorem ds_X6_add : xDs yX6_add 1 := by decide +kernel
theorem ds_X6_at : xDs yX6_at 1 := by decide +kernel
noncomputable def f_X2_at (v0 : Int32) (v1 : Int32) : Option (Int32) := some ((xus v0 ((3 : Int32) * v1)) &&& (7 : Int32))
set_option maxHeartbeats 4000000 in
set_option maxRecDepth 100000 in
theorem c_X2_at (l : Launch) (dC : Nat → ClassId) (dI : Nat → Nat → Nat) (cI cZ cB cO : ClassId) (v0 : Int32) (v1 : Int32) (o : Int32) (h : f_X2_at v0 v1 = some o) (sz : Nat) : Met l yX2_at (xW yX2_at cX2_at 2 (some .int)) { frames := 0, cells := 0, slots := 0, locals := 0 } (xPre dC dI (xT cI cZ cB cO) [.int v0, .int v1] [] sz) (xQi dC dI (xT cI cZ cB cO) o [] [] sz) 0 0 (va_A [] sz) := by
  refine x_met (by decide) (Nat.le_of_ble_eq_true rfl) ?_
  intro p e s m args below meth c R Q A hR hsz hA hQ hin C hw ls hl
  have hx := C.1
  have hb := C.2.1
  have hown := C.2.2.2.1
  have htb := C.2.2.2.2.1
  have hl : lv_has ls 2 [(0, .int v0), (1, .int v1)] := hl
  refine lv_iload_n hx hb dX2_at_0 rfl (lv_at hl 0 rfl) ?_
  refine lv_iconst (v := (3 : Int32)) hx hb dX2_at_1 (by decide) ?_
  refine lv_iload_n hx hb dX2_at_2 rfl (lv_at hl 1 rfl) ?_
  refine lv_imul hx hb dX2_at_3 ?_
  refine lv_iushr (v := (xus v0 ((3 : Int32) * v1))) hx hb dX2_at_4 rfl ?_
  refine lv_bipush (v := (7 : Int32)) hx hb dX2_at_5 (by decide) ?_
  refine lv_iand hx hb dX2_at_7 ?_
  obtain rfl := Option.some.inj h
  exact x_reti C hQ hA hw dX2_at_8
noncomputable def f_X2_then_L1 (v1 : Int32) (v0 : Int32) (z : Int32 × Int32) : Option ((Int32 × Int32) ⊕ (Int32)) := match z with
  | (v2_1, v3_2) => xb ((24 : Int32) ≤ v3_2) (some (.inr v2_1)) (some (.inl ((v2_1 ||| (((xus v1 ((3 : Int32) * ((xus v0 v3_2) &&& (7 : Int32)))) &&& (7 : Int32)) <<< (v3_2 &&& 31))), (v3_2 + (3 : Int32)))))
noncomputable def f_X2_then (v0 : Int32) (v1 : Int32) : Option (Int32) := xn (xL (f_X2_then_L1 v1 v0) ((0 : Int32), (0 : Int32))) (fun (v2_3 : Int32) => some v2_3)
set_option maxHeartbeats 4000000 in
set_option maxRecDepth 100000 in
theorem c_X2_then (l : Launch) (dC : Nat → ClassId) (dI : Nat → Nat → Nat) (cI cZ cB cO : ClassId) (v0 : Int32) (v1 : Int32) (o : Int32) (h : f_X2_then v0 v1 = some o) (sz : Nat) : Met l yX2_then (xW yX2_then cX2_then 4 (some .int)) { frames := 0, cells := 0, slots := 0, locals := 0 } (xPre dC dI (xT cI cZ cB cO) [.int v0, .int v1] [] sz) (xQi dC dI (xT cI cZ cB cO) o [] [] sz) 0 0 (va_A [] sz) := by
  refine x_met (by decide) (Nat.le_of_ble_eq_true rfl) ?_
  intro p e s m args below meth c R Q A hR hsz hA hQ hin C hw ls hl
  have hx := C.1
  have hb := C.2.1
  have hown := C.2.2.2.1
  have htb := C.2.2.2.2.1
  have hl : lv_has ls 4 [(0, .int v0), (1, .int v1)] := hl
  refine lv_iconst (v := (0 : Int32)) hx hb dX2_then_0 (by decide) ?_
  refine lv_istore_n (lv' := [(2, .int (0 : Int32)), (0, .int v0), (1, .int v1)]) hx hb dX2_then_1 rfl hl (by decide) rfl (fun ls hl => ?_)
  refine lv_iconst (v := (0 : Int32)) hx hb dX2_then_2 (by decide) ?_
  refine lv_istore_n (lv' := [(3, .int (0 : Int32)), (2, .int (0 : Int32)), (0, .int v0), (1, .int v1)]) hx hb dX2_then_3 rfl hl (by decide) rfl (fun ls hl => ?_)
  obtain ⟨z, hr, h⟩ := xn_i h
  refine xL_w (fun (z : Int32 × Int32) => ∀ (H : Heap) (locs : List Loc) (ls : Array Slot), xWd (dC, dI) A s.heap H locs [] → lv_has ls 4 [(0, .int v0), (1, .int v1), (2, .int z.1), (3, .int z.2)] → W p l e R s m args below meth c H locs 0 0 Q (F0 m 4 ls [])) (fun (z : Int32) => ∀ (H : Heap) (locs : List Loc) (ls : Array Slot), xWd (dC, dI) A s.heap H locs [] → lv_has ls 4 [(2, .int z)] → W p l e R s m args below meth c H locs 0 0 Q (F0 m 34 ls [])) ?_ hr ?_ _ _ _ hw (lv_sub hl [2, 3, 1, 0] rfl)
  · rintro ⟨v2_1, v3_2⟩ o h k H locs ls hw hl
    have hw : xWd (dC, dI) A s.heap H locs [] := hw
    have hl : lv_has ls 4 [(0, .int v0), (1, .int v1), (2, .int v2_1), (3, .int v3_2)] := hl
    refine lv_iload_n hx hb dX2_then_4 rfl (lv_at hl 3 rfl) ?_
    refine lv_bipush (v := (24 : Int32)) hx hb dX2_then_5 (by decide) ?_
    refine lv_icmp_ge (tgt := 34) hx hb dX2_then_7 (by decide) (fun b1 => ?_) (fun b1 => ?_)
    · replace h := xb_tt b1 h
      obtain rfl := Option.some.inj h
      exact k _ _ _ hw (lv_sub hl [2] rfl)
    · replace h := xb_ff b1 h
      refine lv_iload_n hx hb dX2_then_10 rfl (lv_at hl 2 rfl) ?_
      refine lv_iload_n hx hb dX2_then_11 rfl (lv_at hl 1 rfl) ?_
      refine lv_iconst (v := (3 : Int32)) hx hb dX2_then_12 (by decide) ?_
      refine lv_iload_n hx hb dX2_then_13 rfl (lv_at hl 0 rfl) ?_
      refine lv_iload_n hx hb dX2_then_14 rfl (lv_at hl 3 rfl) ?_
      refine lv_iushr (v := (xus v0 v3_2)) hx hb dX2_then_15 rfl ?_
      refine lv_bipush (v := (7 : Int32)) hx hb dX2_then_16 (by decide) ?_
      refine lv_iand hx hb dX2_then_18 ?_
      refine lv_imul hx hb dX2_then_19 ?_
      refine lv_iushr (v := (xus v1 ((3 : Int32) * ((xus v0 v3_2) &&& (7 : Int32))))) hx hb dX2_then_20 rfl ?_
      refine lv_bipush (v := (7 : Int32)) hx hb dX2_then_21 (by decide) ?_
      refine lv_iand hx hb dX2_then_23 ?_
      refine lv_iload_n hx hb dX2_then_24 rfl (lv_at hl 3 rfl) ?_
      refine lv_ishl hx hb dX2_then_25 ?_
      refine lv_ior hx hb dX2_then_26 ?_
      refine lv_istore_n (lv' := [(2, .int (v2_1 ||| (((xus v1 ((3 : Int32) * ((xus v0 v3_2) &&& (7 : Int32)))) &&& (7 : Int32)) <<< (v3_2 &&& 31)))), (0, .int v0), (1, .int v1), (3, .int v3_2)]) hx hb dX2_then_27 rfl hl (by decide) rfl (fun ls hl => ?_)
      refine lv_iinc (v := (v3_2 + (3 : Int32))) (lv' := [(3, .int (v3_2 + (3 : Int32))), (2, .int (v2_1 ||| (((xus v1 ((3 : Int32) * ((xus v0 v3_2) &&& (7 : Int32)))) &&& (7 : Int32)) <<< (v3_2 &&& 31)))), (0, .int v0), (1, .int v1)]) hx hb dX2_then_28 hl (k := 3) rfl (congrArg (fun q => v3_2 + q) (by decide)) (by decide) rfl (fun ls hl => ?_)
      refine lv_goto (tgt := 4) hx hb dX2_then_31 (by decide) ?_
      obtain rfl := Option.some.inj h
      exact k _ _ _ hw (lv_sub hl [2, 3, 1, 0] rfl)
  · obtain ⟨v2_3, hz⟩ : ∃ q, q = z := ⟨z, rfl⟩
    subst hz
    intro H locs ls hw hl
    have hw : xWd (dC, dI) A s.heap H locs [] := hw
    have hl : lv_has ls 4 [(2, .int v2_3)] := hl
    refine lv_iload_n hx hb dX2_then_34 rfl (lv_at hl 0 rfl) ?_
    obtain rfl := Option.some.inj h
    exact x_reti C hQ hA hw dX2_then_35
noncomputable def f_X2_inverse_L1 (v0 : Int32) (z : Int32 × Int32) : Option ((Int32 × Int32) ⊕ (Int32)) := match z with
  | (v1_1, v2_2) => xb ((8 : Int32) ≤ v2_2) (some (.inr v1_1)) (some (.inl ((v1_1 ||| (v2_2 <<< (((3 : Int32) * ((xus v0 ((3 : Int32) * v2_2)) &&& (7 : Int32))) &&& 31))), (v2_2 + (1 : Int32)))))
noncomputable def f_X2_inverse (v0 : Int32) : Option (Int32) := xn (xL (f_X2_inverse_L1 v0) ((0 : Int32), (0 : Int32))) (fun (v1_3 : Int32) => some v1_3)
set_option maxHeartbeats 4000000 in
set_option maxRecDepth 100000 in
theorem c_X2_inverse (l : Launch) (dC : Nat → ClassId) (dI : Nat → Nat → Nat) (cI cZ cB cO : ClassId) (v0 : Int32) (o : Int32) (h : f_X2_inverse v0 = some o) (sz : Nat) : Met l yX2_inverse (xW yX2_inverse cX2_inverse 3 (some .int)) { frames := 0, cells := 0, slots := 0, locals := 0 } (xPre dC dI (xT cI cZ cB cO) [.int v0] [] sz) (xQi dC dI (xT cI cZ cB cO) o [] [] sz) 0 0 (va_A [] sz) := by
  refine x_met (by decide) (Nat.le_of_ble_eq_true rfl) ?_
  intro p e s m args below meth c R Q A hR hsz hA hQ hin C hw ls hl
  have hx := C.1
  have hb := C.2.1
  have hown := C.2.2.2.1
  have htb := C.2.2.2.2.1
  have hl : lv_has ls 3 [(0, .int v0)] := hl
  refine lv_iconst (v := (0 : Int32)) hx hb dX2_inverse_0 (by decide) ?_
  refine lv_istore_n (lv' := [(1, .int (0 : Int32)), (0, .int v0)]) hx hb dX2_inverse_1 rfl hl (by decide) rfl (fun ls hl => ?_)
  refine lv_iconst (v := (0 : Int32)) hx hb dX2_inverse_2 (by decide) ?_
  refine lv_istore_n (lv' := [(2, .int (0 : Int32)), (1, .int (0 : Int32)), (0, .int v0)]) hx hb dX2_inverse_3 rfl hl (by decide) rfl (fun ls hl => ?_)
  obtain ⟨z, hr, h⟩ := xn_i h
  refine xL_w (fun (z : Int32 × Int32) => ∀ (H : Heap) (locs : List Loc) (ls : Array Slot), xWd (dC, dI) A s.heap H locs [] → lv_has ls 3 [(0, .int v0), (1, .int z.1), (2, .int z.2)] → W p l e R s m args below meth c H locs 0 0 Q (F0 m 4 ls [])) (fun (z : Int32) => ∀ (H : Heap) (locs : List Loc) (ls : Array Slot), xWd (dC, dI) A s.heap H locs [] → lv_has ls 3 [(1, .int z)] → W p l e R s m args below meth c H locs 0 0 Q (F0 m 31 ls [])) ?_ hr ?_ _ _ _ hw (lv_sub hl [2, 1, 0] rfl)
  · rintro ⟨v1_1, v2_2⟩ o h k H locs ls hw hl
    have hw : xWd (dC, dI) A s.heap H locs [] := hw
    have hl : lv_has ls 3 [(0, .int v0), (1, .int v1_1), (2, .int v2_2)] := hl
    refine lv_iload_n hx hb dX2_inverse_4 rfl (lv_at hl 2 rfl) ?_
    refine lv_bipush (v := (8 : Int32)) hx hb dX2_inverse_5 (by decide) ?_
    refine lv_icmp_ge (tgt := 31) hx hb dX2_inverse_7 (by decide) (fun b1 => ?_) (fun b1 => ?_)
    · replace h := xb_tt b1 h
      obtain rfl := Option.some.inj h
      exact k _ _ _ hw (lv_sub hl [1] rfl)
    · replace h := xb_ff b1 h
      refine lv_iload_n hx hb dX2_inverse_10 rfl (lv_at hl 1 rfl) ?_
      refine lv_iload_n hx hb dX2_inverse_11 rfl (lv_at hl 2 rfl) ?_
      refine lv_iconst (v := (3 : Int32)) hx hb dX2_inverse_12 (by decide) ?_
      refine lv_iload_n hx hb dX2_inverse_13 rfl (lv_at hl 0 rfl) ?_
      refine lv_iconst (v := (3 : Int32)) hx hb dX2_inverse_14 (by decide) ?_
      refine lv_iload_n hx hb dX2_inverse_15 rfl (lv_at hl 2 rfl) ?_
      refine lv_imul hx hb dX2_inverse_16 ?_
      refine lv_iushr (v := (xus v0 ((3 : Int32) * v2_2))) hx hb dX2_inverse_17 rfl ?_
      refine lv_bipush (v := (7 : Int32)) hx hb dX2_inverse_18 (by decide) ?_
      refine lv_iand hx hb dX2_inverse_20 ?_
      refine lv_imul hx hb dX2_inverse_21 ?_
      refine lv_ishl hx hb dX2_inverse_22 ?_
      refine lv_ior hx hb dX2_inverse_23 ?_
      refine lv_istore_n (lv' := [(1, .int (v1_1 ||| (v2_2 <<< (((3 : Int32) * ((xus v0 ((3 : Int32) * v2_2)) &&& (7 : Int32))) &&& 31)))), (0, .int v0), (2, .int v2_2)]) hx hb dX2_inverse_24 rfl hl (by decide) rfl (fun ls hl => ?_)
      refine lv_iinc (v := (v2_2 + (1 : Int32))) (lv' := [(2, .int (v2_2 + (1 : Int32))), (1, .int (v1_1 ||| (v2_2 <<< (((3 : Int32) * ((xus v0 ((3 : Int32) * v2_2)) &&& (7 : Int32))) &&& 31)))), (0, .int v0)]) hx hb dX2_inverse_25 hl (k := 2) rfl (congrArg (fun q => v2_2 + q) (by decide)) (by decide) rfl (fun ls hl => ?_)
      refine lv_goto (tgt := 4) hx hb dX2_inverse_28 (by decide) ?_
      obtain rfl := Option.some.inj h
      exact k _ _ _ hw (lv_sub hl [2, 1, 0] rfl)
  · obtain ⟨v1_3, hz⟩ : ∃ q, q = z := ⟨z, rfl⟩
    subst hz
    intro H locs ls hw hl
    have hw : xWd (dC, dI) A s.heap H locs [] := hw
    have hl : lv_has ls 3 [(1, .int v1_3)] := hl
    refine lv_iload_n hx hb dX2_inverse_31 rfl (lv_at hl 0 rfl) ?_
    obtain rfl := Option.some.inj h
    exact x_reti C hQ hA hw dX2_inverse_32
noncomputable def f_X2_carry_L1 (v1 : Int32) (z : Int32 × Int32 × Int32) : Option ((Int32 × Int32 × Int32) ⊕ (Int32)) := match z with
  | (v2_1, v3_2, v4_3) => xb ((24 : Int32) ≤ v4_3) (some (.inr v2_1)) (xb (v3_2 = 0) (some (.inr v2_1)) (some (.inl ((v2_1 ||| ((v3_2 &&& (1 : Int32)) <<< (((xus v1 v4_3) &&& (7 : Int32)) &&& 31))), (xus v3_2 (1 : Int32)), (v4_3 + (3 : Int32))))))
noncomputable def f_X2_carry (v0 : Int32) (v1 : Int32) : Option (Int32) := xn (xL (f_X2_carry_L1 v1) ((0 : Int32), v0, (0 : Int32))) (fun (v2_4 : Int32) => some v2_4)
set_option maxHeartbeats 4000000 in
set_option maxRecDepth 100000 in
theorem c_X2_carry (l : Launch) (dC : Nat → ClassId) (dI : Nat → Nat → Nat) (cI cZ cB cO : ClassId) (v0 : Int32) (v1 : Int32) (o : Int32) (h : f_X2_carry v0 v1 = some o) (sz : Nat) : Met l yX2_carry (xW yX2_carry cX2_carry 5 (some .int)) { frames := 0, cells := 0, slots := 0, locals := 0 } (xPre dC dI (xT cI cZ cB cO) [.int v0, .int v1] [] sz) (xQi dC dI (xT cI cZ cB cO) o [] [] sz) 0 0 (va_A [] sz) := by
  refine x_met (by decide) (Nat.le_of_ble_eq_true rfl) ?_
  intro p e s m args below meth c R Q A hR hsz hA hQ hin C hw ls hl
  have hx := C.1
  have hb := C.2.1
  have hown := C.2.2.2.1
  have htb := C.2.2.2.2.1
  have hl : lv_has ls 5 [(0, .int v0), (1, .int v1)] := hl
  refine lv_iconst (v := (0 : Int32)) hx hb dX2_carry_0 (by decide) ?_
  refine lv_istore_n (lv' := [(2, .int (0 : Int32)), (0, .int v0), (1, .int v1)]) hx hb dX2_carry_1 rfl hl (by decide) rfl (fun ls hl => ?_)
  refine lv_iload_n hx hb dX2_carry_2 rfl (lv_at hl 1 rfl) ?_
  refine lv_istore_n (lv' := [(3, .int v0), (2, .int (0 : Int32)), (0, .int v0), (1, .int v1)]) hx hb dX2_carry_3 rfl hl (by decide) rfl (fun ls hl => ?_)
  refine lv_iconst (v := (0 : Int32)) hx hb dX2_carry_4 (by decide) ?_
  refine lv_istore (lv' := [(4, .int (0 : Int32)), (3, .int v0), (2, .int (0 : Int32)), (0, .int v0), (1, .int v1)]) hx hb dX2_carry_5 hl (by decide) rfl (fun ls hl => ?_)
  obtain ⟨z, hr, h⟩ := xn_i h
  refine xL_w (fun (z : Int32 × Int32 × Int32) => ∀ (H : Heap) (locs : List Loc) (ls : Array Slot), xWd (dC, dI) A s.heap H locs [] → lv_has ls 5 [(1, .int v1), (2, .int z.1), (3, .int z.2.1), (4, .int z.2.2)] → W p l e R s m args below meth c H locs 0 0 Q (F0 m 7 ls [])) (fun (z : Int32) => ∀ (H : Heap) (locs : List Loc) (ls : Array Slot), xWd (dC, dI) A s.heap H locs [] → lv_has ls 5 [(2, .int z)] → W p l e R s m args below meth c H locs 0 0 Q (F0 m 42 ls [])) ?_ hr ?_ _ _ _ hw (lv_sub hl [4, 2, 1, 0] rfl)
  · rintro ⟨v2_1, v3_2, v4_3⟩ o h k H locs ls hw hl
    have hw : xWd (dC, dI) A s.heap H locs [] := hw
    have hl : lv_has ls 5 [(1, .int v1), (2, .int v2_1), (3, .int v3_2), (4, .int v4_3)] := hl
    refine lv_iload hx hb dX2_carry_7 (lv_at hl 3 rfl) ?_
    refine lv_bipush (v := (24 : Int32)) hx hb dX2_carry_9 (by decide) ?_
    refine lv_icmp_ge (tgt := 42) hx hb dX2_carry_11 (by decide) (fun b1 => ?_) (fun b1 => ?_)
    · replace h := xb_tt b1 h
      obtain rfl := Option.some.inj h
      exact k _ _ _ hw (lv_sub hl [1] rfl)
    · replace h := xb_ff b1 h
      refine lv_iload_n hx hb dX2_carry_14 rfl (lv_at hl 2 rfl) ?_
      refine lv_if_eq (tgt := 42) hx hb dX2_carry_15 (by decide) (fun b2 => ?_) (fun b2 => ?_)
      · replace h := xb_tt b2 h
        obtain rfl := Option.some.inj h
        exact k _ _ _ hw (lv_sub hl [1] rfl)
      · replace h := xb_ff b2 h
        refine lv_iload_n hx hb dX2_carry_18 rfl (lv_at hl 1 rfl) ?_
        refine lv_iload_n hx hb dX2_carry_19 rfl (lv_at hl 2 rfl) ?_
        refine lv_iconst (v := (1 : Int32)) hx hb dX2_carry_20 (by decide) ?_
        refine lv_iand hx hb dX2_carry_21 ?_
        refine lv_iload_n hx hb dX2_carry_22 rfl (lv_at hl 0 rfl) ?_
        refine lv_iload hx hb dX2_carry_23 (lv_at hl 3 rfl) ?_
        refine lv_iushr (v := (xus v1 v4_3)) hx hb dX2_carry_25 rfl ?_
        refine lv_bipush (v := (7 : Int32)) hx hb dX2_carry_26 (by decide) ?_
        refine lv_iand hx hb dX2_carry_28 ?_
        refine lv_ishl hx hb dX2_carry_29 ?_
        refine lv_ior hx hb dX2_carry_30 ?_
        refine lv_istore_n (lv' := [(2, .int (v2_1 ||| ((v3_2 &&& (1 : Int32)) <<< (((xus v1 v4_3) &&& (7 : Int32)) &&& 31)))), (1, .int v1), (3, .int v3_2), (4, .int v4_3)]) hx hb dX2_carry_31 rfl hl (by decide) rfl (fun ls hl => ?_)
        refine lv_iload_n hx hb dX2_carry_32 rfl (lv_at hl 2 rfl) ?_
        refine lv_iconst (v := (1 : Int32)) hx hb dX2_carry_33 (by decide) ?_
        refine lv_iushr (v := (xus v3_2 (1 : Int32))) hx hb dX2_carry_34 rfl ?_
        refine lv_istore_n (lv' := [(3, .int (xus v3_2 (1 : Int32))), (2, .int (v2_1 ||| ((v3_2 &&& (1 : Int32)) <<< (((xus v1 v4_3) &&& (7 : Int32)) &&& 31)))), (1, .int v1), (4, .int v4_3)]) hx hb dX2_carry_35 rfl hl (by decide) rfl (fun ls hl => ?_)
        refine lv_iinc (v := (v4_3 + (3 : Int32))) (lv' := [(4, .int (v4_3 + (3 : Int32))), (3, .int (xus v3_2 (1 : Int32))), (2, .int (v2_1 ||| ((v3_2 &&& (1 : Int32)) <<< (((xus v1 v4_3) &&& (7 : Int32)) &&& 31)))), (1, .int v1)]) hx hb dX2_carry_36 hl (k := 3) rfl (congrArg (fun q => v4_3 + q) (by decide)) (by decide) rfl (fun ls hl => ?_)
        refine lv_goto (tgt := 7) hx hb dX2_carry_39 (by decide) ?_
        obtain rfl := Option.some.inj h
        exact k _ _ _ hw (lv_sub hl [3, 2, 1, 0] rfl)
  · obtain ⟨v2_4, hz⟩ : ∃ q, q = z := ⟨z, rfl⟩
    subst hz
    intro H locs ls hw hl
    have hw : xWd (dC, dI) A s.heap H locs [] := hw
    have hl : lv_has ls 5 [(2, .int v2_4)] := hl
    refine lv_iload_n hx hb dX2_carry_42 rfl (lv_at hl 0 rfl) ?_
    obtain rfl := Option.some.inj h
    exact x_reti C hQ hA hw dX2_carry_43
noncomputable def f_X2_read_L1 (v1 : Int32) (z : Int32 × Int32 × Int32 × Int32) : Option ((Int32 × Int32 × Int32 × Int32) ⊕ ((Int32 × Int32) ⊕ (Int32))) := match z with
  | (v2_1, v3_2, v4_3, v5_4) => xb (v5_4 < 0) (some (.inr (.inl (v2_1, v4_3)))) (xb ((v2_1 - v2_1 / (10 : Int32) * (10 : Int32)) < 0) (some (.inr (.inr (-1 : Int32)))) (xb (v1 ≤ (v2_1 - v2_1 / (10 : Int32) * (10 : Int32))) (some (.inr (.inr (-1 : Int32)))) (xb (((v3_2 >>> ((v2_1 - v2_1 / (10 : Int32) * (10 : Int32)) &&& 31)) &&& (1 : Int32)) = 0) (some (.inl ((v2_1 / (10 : Int32)), (v3_2 ||| ((1 : Int32) <<< ((v2_1 - v2_1 / (10 : Int32) * (10 : Int32)) &&& 31))), ((v4_3 &&& (((7 : Int32) <<< (((3 : Int32) * v5_4) &&& 31)) ^^^ (-1 : Int32))) ||| ((v2_1 - v2_1 / (10 : Int32) * (10 : Int32)) <<< (((3 : Int32) * v5_4) &&& 31))), (v5_4 + (-1 : Int32))))) (some (.inr (.inr (-1 : Int32)))))))
noncomputable def f_X2_read (v0 : Int32) (v1 : Int32) : Option (Int32) := xn (xL (f_X2_read_L1 v1) (v0, (0 : Int32), (16434824 : Int32), (v1 - (1 : Int32)))) (fun (x : (Int32 × Int32) ⊕ (Int32)) => match x with | .inl z => (fun (z : Int32 × Int32) => match z with | (v2_5, v4_6) => xb (v2_5 = 0) (some v4_6) (some (-1 : Int32))) z | .inr z => some z)
set_option maxHeartbeats 4000000 in
set_option maxRecDepth 100000 in
theorem c_X2_read (l : Launch) (dC : Nat → ClassId) (dI : Nat → Nat → Nat) (cI cZ cB cO : ClassId) (v0 : Int32) (v1 : Int32) (o : Int32) (h : f_X2_read v0 v1 = some o) (sz : Nat) : Met l yX2_read (xW yX2_read cX2_read 7 (some .int)) { frames := 0, cells := 0, slots := 0, locals := 0 } (xPre dC dI (xT cI cZ cB cO) [.int v0, .int v1] [] sz) (xQi dC dI (xT cI cZ cB cO) o [] [] sz) 0 0 (va_A [] sz) := by
  refine x_met (by decide) (Nat.le_of_ble_eq_true rfl) ?_
  intro p e s m args below meth c R Q A hR hsz hA hQ hin C hw ls hl
  have hx := C.1
  have hb := C.2.1
  have hown := C.2.2.2.1
  have htb := C.2.2.2.2.1
  have hl : lv_has ls 7 [(0, .int v0), (1, .int v1)] := hl
  refine lv_iload_n hx hb dX2_read_0 rfl (lv_at hl 0 rfl) ?_
  refine lv_istore_n (lv' := [(2, .int v0), (0, .int v0), (1, .int v1)]) hx hb dX2_read_1 rfl hl (by decide) rfl (fun ls hl => ?_)
  refine lv_iconst (v := (0 : Int32)) hx hb dX2_read_2 (by decide) ?_
  refine lv_istore_n (lv' := [(3, .int (0 : Int32)), (2, .int v0), (0, .int v0), (1, .int v1)]) hx hb dX2_read_3 rfl hl (by decide) rfl (fun ls hl => ?_)
  refine lv_ldc hx hb hown (htb _ kI_X2_11) dX2_read_4 ?_
  refine lv_istore (lv' := [(4, .int (16434824 : Int32)), (3, .int (0 : Int32)), (2, .int v0), (0, .int v0), (1, .int v1)]) hx hb dX2_read_6 hl (by decide) rfl (fun ls hl => ?_)
  refine lv_iload_n hx hb dX2_read_8 rfl (lv_at hl 4 rfl) ?_
  refine lv_iconst (v := (1 : Int32)) hx hb dX2_read_9 (by decide) ?_
  refine lv_isub hx hb dX2_read_10 ?_
  refine lv_istore (lv' := [(5, .int (v1 - (1 : Int32))), (4, .int (16434824 : Int32)), (3, .int (0 : Int32)), (2, .int v0), (0, .int v0), (1, .int v1)]) hx hb dX2_read_11 hl (by decide) rfl (fun ls hl => ?_)
  obtain ⟨z, hr, h⟩ := xn_i h
  refine xL_w (fun (z : Int32 × Int32 × Int32 × Int32) => ∀ (H : Heap) (locs : List Loc) (ls : Array Slot), xWd (dC, dI) A s.heap H locs [] → lv_has ls 7 [(1, .int v1), (2, .int z.1), (3, .int z.2.1), (4, .int z.2.2.1), (5, .int z.2.2.2)] → W p l e R s m args below meth c H locs 0 0 Q (F0 m 13 ls [])) (Sum.elim (fun (z : Int32 × Int32) => ∀ (H : Heap) (locs : List Loc) (ls : Array Slot), xWd (dC, dI) A s.heap H locs [] → lv_has ls 7 [(2, .int z.1), (4, .int z.2)] → W p l e R s m args below meth c H locs 0 0 Q (F0 m 86 ls [])) (fun (z : Int32) => ∀ (H : Heap) (locs : List Loc), xWd (dC, dI) A s.heap H locs [] → ∀ (pc : Nat) (ls : Array Slot), decode cX2_read pc = .ok (.ireturn, 1) → W p l e R s m args below meth c H locs 0 0 Q (F0 m pc ls [.int z]))) ?_ hr ?_ _ _ _ hw (lv_sub hl [5, 3, 2, 1, 0] rfl)
  · rintro ⟨v2_1, v3_2, v4_3, v5_4⟩ o h k H locs ls hw hl
    have hw : xWd (dC, dI) A s.heap H locs [] := hw
    have hl : lv_has ls 7 [(1, .int v1), (2, .int v2_1), (3, .int v3_2), (4, .int v4_3), (5, .int v5_4)] := hl
    refine lv_iload hx hb dX2_read_13 (lv_at hl 4 rfl) ?_
    refine lv_if_lt (tgt := 86) hx hb dX2_read_15 (by decide) (fun b1 => ?_) (fun b1 => ?_)
    · replace h := xb_tt b1 h
      obtain rfl := Option.some.inj h
      exact k _ _ _ hw (lv_sub hl [1, 3] rfl)
    · replace h := xb_ff b1 h
      refine lv_iload_n hx hb dX2_read_18 rfl (lv_at hl 1 rfl) ?_
      refine lv_bipush (v := (10 : Int32)) hx hb dX2_read_19 (by decide) ?_
      refine lv_irem hx hb dX2_read_21 (by decide) ?_
      refine lv_istore (lv' := [(6, .int (v2_1 - v2_1 / (10 : Int32) * (10 : Int32))), (1, .int v1), (2, .int v2_1), (3, .int v3_2), (4, .int v4_3), (5, .int v5_4)]) hx hb dX2_read_22 hl (by decide) rfl (fun ls hl => ?_)
      refine lv_iload_n hx hb dX2_read_24 rfl (lv_at hl 2 rfl) ?_
      refine lv_bipush (v := (10 : Int32)) hx hb dX2_read_25 (by decide) ?_
      refine lv_idiv hx hb dX2_read_27 (by decide) ?_
      refine lv_istore_n (lv' := [(2, .int (v2_1 / (10 : Int32))), (6, .int (v2_1 - v2_1 / (10 : Int32) * (10 : Int32))), (1, .int v1), (3, .int v3_2), (4, .int v4_3), (5, .int v5_4)]) hx hb dX2_read_28 rfl hl (by decide) rfl (fun ls hl => ?_)
      refine lv_iload hx hb dX2_read_29 (lv_at hl 1 rfl) ?_
      refine lv_if_lt (tgt := 49) hx hb dX2_read_31 (by decide) (fun b2 => ?_) (fun b2 => ?_)
      · replace h := xb_tt b2 h
        refine lv_iconst (v := (-1 : Int32)) hx hb dX2_read_49 (by decide) ?_
        obtain rfl := Option.some.inj h
        exact k _ _ hw _ _ dX2_read_50
      · replace h := xb_ff b2 h
        refine lv_iload hx hb dX2_read_34 (lv_at hl 1 rfl) ?_
        refine lv_iload_n hx hb dX2_read_36 rfl (lv_at hl 2 rfl) ?_
        refine lv_icmp_ge (tgt := 49) hx hb dX2_read_37 (by decide) (fun b3 => ?_) (fun b3 => ?_)
        · replace h := xb_tt b3 h
          refine lv_iconst (v := (-1 : Int32)) hx hb dX2_read_49 (by decide) ?_
          obtain rfl := Option.some.inj h
          exact k _ _ hw _ _ dX2_read_50
        · replace h := xb_ff b3 h
          refine lv_iload_n hx hb dX2_read_40 rfl (lv_at hl 3 rfl) ?_
          refine lv_iload hx hb dX2_read_41 (lv_at hl 1 rfl) ?_
          refine lv_ishr hx hb dX2_read_43 ?_
          refine lv_iconst (v := (1 : Int32)) hx hb dX2_read_44 (by decide) ?_
          refine lv_iand hx hb dX2_read_45 ?_
          refine lv_if_eq (tgt := 51) hx hb dX2_read_46 (by decide) (fun b4 => ?_) (fun b4 => ?_)
          · replace h := xb_tt b4 h
            refine lv_iload_n hx hb dX2_read_51 rfl (lv_at hl 3 rfl) ?_
            refine lv_iconst (v := (1 : Int32)) hx hb dX2_read_52 (by decide) ?_
            refine lv_iload hx hb dX2_read_53 (lv_at hl 1 rfl) ?_
            refine lv_ishl hx hb dX2_read_55 ?_
            refine lv_ior hx hb dX2_read_56 ?_
            refine lv_istore_n (lv' := [(3, .int (v3_2 ||| ((1 : Int32) <<< ((v2_1 - v2_1 / (10 : Int32) * (10 : Int32)) &&& 31)))), (2, .int (v2_1 / (10 : Int32))), (6, .int (v2_1 - v2_1 / (10 : Int32) * (10 : Int32))), (1, .int v1), (4, .int v4_3), (5, .int v5_4)]) hx hb dX2_read_57 rfl hl (by decide) rfl (fun ls hl => ?_)
            refine lv_iload hx hb dX2_read_58 (lv_at hl 4 rfl) ?_
            refine lv_bipush (v := (7 : Int32)) hx hb dX2_read_60 (by decide) ?_
            refine lv_iconst (v := (3 : Int32)) hx hb dX2_read_62 (by decide) ?_
            refine lv_iload hx hb dX2_read_63 (lv_at hl 5 rfl) ?_
            refine lv_imul hx hb dX2_read_65 ?_
            refine lv_ishl hx hb dX2_read_66 ?_
            refine lv_iconst (v := (-1 : Int32)) hx hb dX2_read_67 (by decide) ?_
            refine lv_ixor hx hb dX2_read_68 ?_
            refine lv_iand hx hb dX2_read_69 ?_
            refine lv_iload hx hb dX2_read_70 (lv_at hl 2 rfl) ?_
            refine lv_iconst (v := (3 : Int32)) hx hb dX2_read_72 (by decide) ?_
            refine lv_iload hx hb dX2_read_73 (lv_at hl 5 rfl) ?_
            refine lv_imul hx hb dX2_read_75 ?_
            refine lv_ishl hx hb dX2_read_76 ?_
            refine lv_ior hx hb dX2_read_77 ?_
            refine lv_istore (lv' := [(4, .int ((v4_3 &&& (((7 : Int32) <<< (((3 : Int32) * v5_4) &&& 31)) ^^^ (-1 : Int32))) ||| ((v2_1 - v2_1 / (10 : Int32) * (10 : Int32)) <<< (((3 : Int32) * v5_4) &&& 31)))), (3, .int (v3_2 ||| ((1 : Int32) <<< ((v2_1 - v2_1 / (10 : Int32) * (10 : Int32)) &&& 31)))), (2, .int (v2_1 / (10 : Int32))), (6, .int (v2_1 - v2_1 / (10 : Int32) * (10 : Int32))), (1, .int v1), (5, .int v5_4)]) hx hb dX2_read_78 hl (by decide) rfl (fun ls hl => ?_)
            refine lv_iinc (v := (v5_4 + (-1 : Int32))) (lv' := [(5, .int (v5_4 + (-1 : Int32))), (4, .int ((v4_3 &&& (((7 : Int32) <<< (((3 : Int32) * v5_4) &&& 31)) ^^^ (-1 : Int32))) ||| ((v2_1 - v2_1 / (10 : Int32) * (10 : Int32)) <<< (((3 : Int32) * v5_4) &&& 31)))), (3, .int (v3_2 ||| ((1 : Int32) <<< ((v2_1 - v2_1 / (10 : Int32) * (10 : Int32)) &&& 31)))), (2, .int (v2_1 / (10 : Int32))), (6, .int (v2_1 - v2_1 / (10 : Int32) * (10 : Int32))), (1, .int v1)]) hx hb dX2_read_80 hl (k := 5) rfl (congrArg (fun q => v5_4 + q) (by decide)) (by decide) rfl (fun ls hl => ?_)
            refine lv_goto (tgt := 13) hx hb dX2_read_83 (by decide) ?_
            obtain rfl := Option.some.inj h
            exact k _ _ _ hw (lv_sub hl [5, 3, 2, 1, 0] rfl)
          · replace h := xb_ff b4 h
            refine lv_iconst (v := (-1 : Int32)) hx hb dX2_read_49 (by decide) ?_
            obtain rfl := Option.some.inj h
            exact k _ _ hw _ _ dX2_read_50
  · rcases z with z | z
    · obtain ⟨v2_5, v4_6⟩ := z
      intro H locs ls hw hl
      have hw : xWd (dC, dI) A s.heap H locs [] := hw
      have hl : lv_has ls 7 [(2, .int v2_5), (4, .int v4_6)] := hl
      refine lv_iload_n hx hb dX2_read_86 rfl (lv_at hl 0 rfl) ?_
      refine lv_if_ne (tgt := 95) hx hb dX2_read_87 (by decide) (fun b5 => ?_) (fun b5 => ?_)
      · replace h := xb_ff b5 h
        refine lv_iconst (v := (-1 : Int32)) hx hb dX2_read_95 (by decide) ?_
        obtain rfl := Option.some.inj h
        exact x_reti C hQ hA hw dX2_read_96
      · replace h := xb_tt b5 h
        refine lv_iload hx hb dX2_read_90 (lv_at hl 1 rfl) ?_
        refine lv_goto (tgt := 96) hx hb dX2_read_92 (by decide) ?_
        obtain rfl := Option.some.inj h
        exact x_reti C hQ hA hw dX2_read_96
    · obtain rfl := Option.some.inj h
      intro H locs hw pc ls hd
      exact x_reti C hQ hA hw hd
noncomputable def f_X2_write_L1 (v1 : Int32) (v0 : Int32) (z : Int32 × Int32) : Option ((Int32 × Int32) ⊕ (Int32)) := match z with
  | (v2_1, v3_2) => xb (v1 ≤ v3_2) (some (.inr v2_1)) (xn (f_X2_at v0 v3_2) (fun (r_4 : Int32) => some (.inl ((((10 : Int32) * v2_1) + r_4), (v3_2 + (1 : Int32))))))
noncomputable def f_X2_write (v0 : Int32) (v1 : Int32) : Option (Int32) := xn (xL (f_X2_write_L1 v1 v0) ((0 : Int32), (0 : Int32))) (fun (v2_3 : Int32) => some v2_3)
set_option maxHeartbeats 4000000 in
set_option maxRecDepth 100000 in
theorem c_X2_write (l : Launch) (dC : Nat → ClassId) (dI : Nat → Nat → Nat) (cI cZ cB cO : ClassId) (v0 : Int32) (v1 : Int32) (o : Int32) (h : f_X2_write v0 v1 = some o) (sz : Nat) : Met l yX2_write (xW yX2_write cX2_write 4 (some .int)) { frames := 1, cells := 0, slots := 0, locals := 21 } (xPre dC dI (xT cI cZ cB cO) [.int v0, .int v1] [] sz) (xQi dC dI (xT cI cZ cB cO) o [] [] sz) 0 0 (va_A [] sz) := by
  refine x_met (by decide) (Nat.le_of_ble_eq_true rfl) ?_
  intro p e s m args below meth c R Q A hR hsz hA hQ hin C hw ls hl
  have hx := C.1
  have hb := C.2.1
  have hown := C.2.2.2.1
  have htb := C.2.2.2.2.1
  have hl : lv_has ls 4 [(0, .int v0), (1, .int v1)] := hl
  refine lv_iconst (v := (0 : Int32)) hx hb dX2_write_0 (by decide) ?_
  refine lv_istore_n (lv' := [(2, .int (0 : Int32)), (0, .int v0), (1, .int v1)]) hx hb dX2_write_1 rfl hl (by decide) rfl (fun ls hl => ?_)
  refine lv_iconst (v := (0 : Int32)) hx hb dX2_write_2 (by decide) ?_
  refine lv_istore_n (lv' := [(3, .int (0 : Int32)), (2, .int (0 : Int32)), (0, .int v0), (1, .int v1)]) hx hb dX2_write_3 rfl hl (by decide) rfl (fun ls hl => ?_)
  obtain ⟨z, hr, h⟩ := xn_i h
  refine xL_w (fun (z : Int32 × Int32) => ∀ (H : Heap) (locs : List Loc) (ls : Array Slot), xWd (dC, dI) A s.heap H locs [] → lv_has ls 4 [(0, .int v0), (1, .int v1), (2, .int z.1), (3, .int z.2)] → W p l e R s m args below meth c H locs 0 0 Q (F0 m 4 ls [])) (fun (z : Int32) => ∀ (H : Heap) (locs : List Loc) (ls : Array Slot), xWd (dC, dI) A s.heap H locs [] → lv_has ls 4 [(2, .int z)] → W p l e R s m args below meth c H locs 0 0 Q (F0 m 26 ls [])) ?_ hr ?_ _ _ _ hw (lv_sub hl [2, 3, 1, 0] rfl)
  · rintro ⟨v2_1, v3_2⟩ o h k H locs ls hw hl
    have hw : xWd (dC, dI) A s.heap H locs [] := hw
    have hl : lv_has ls 4 [(0, .int v0), (1, .int v1), (2, .int v2_1), (3, .int v3_2)] := hl
    refine lv_iload_n hx hb dX2_write_4 rfl (lv_at hl 3 rfl) ?_
    refine lv_iload_n hx hb dX2_write_5 rfl (lv_at hl 1 rfl) ?_
    refine lv_icmp_ge (tgt := 26) hx hb dX2_write_6 (by decide) (fun b1 => ?_) (fun b1 => ?_)
    · replace h := xb_tt b1 h
      obtain rfl := Option.some.inj h
      exact k _ _ _ hw (lv_sub hl [2] rfl)
    · replace h := xb_ff b1 h
      refine lv_bipush (v := (10 : Int32)) hx hb dX2_write_9 (by decide) ?_
      refine lv_iload_n hx hb dX2_write_11 rfl (lv_at hl 2 rfl) ?_
      refine lv_imul hx hb dX2_write_12 ?_
      refine lv_iload_n hx hb dX2_write_13 rfl (lv_at hl 0 rfl) ?_
      refine lv_iload_n hx hb dX2_write_14 rfl (lv_at hl 3 rfl) ?_
      obtain ⟨r_4, q2, h⟩ := xn_i h
      refine x_callSi (As := [.int v0, .int v3_2]) (rest := [.int ((10 : Int32) * v2_1)]) C hw gc_X2_12 ds_X2_at (by rw [hR]; exact Nat.le_of_ble_eq_true rfl) (by rw [hR]; exact Nat.le_of_ble_eq_true rfl) rfl rfl (Nat.zero_le _) (Nat.zero_le _) (c_X2_at l dC dI cI cZ cB cO v0 v3_2 _ q2 _) [] [] (by decide) rfl rfl (by decide) (by decide) rfl hl.1 rfl (Nat.le_of_ble_eq_true rfl) dX2_write_15 (fun H locs hw => ?_)
      have hw : xWd (dC, dI) A s.heap H locs [] := hw.sub [] (by decide) rfl
      refine lv_iadd hx hb dX2_write_18 ?_
      refine lv_istore_n (lv' := [(2, .int (((10 : Int32) * v2_1) + r_4)), (0, .int v0), (1, .int v1), (3, .int v3_2)]) hx hb dX2_write_19 rfl hl (by decide) rfl (fun ls hl => ?_)
      refine lv_iinc (v := (v3_2 + (1 : Int32))) (lv' := [(3, .int (v3_2 + (1 : Int32))), (2, .int (((10 : Int32) * v2_1) + r_4)), (0, .int v0), (1, .int v1)]) hx hb dX2_write_20 hl (k := 3) rfl (congrArg (fun q => v3_2 + q) (by decide)) (by decide) rfl (fun ls hl => ?_)
      refine lv_goto (tgt := 4) hx hb dX2_write_23 (by decide) ?_
      obtain rfl := Option.some.inj h
      exact k _ _ _ hw (lv_sub hl [2, 3, 1, 0] rfl)
  · obtain ⟨v2_3, hz⟩ : ∃ q, q = z := ⟨z, rfl⟩
    subst hz
    intro H locs ls hw hl
    have hw : xWd (dC, dI) A s.heap H locs [] := hw
    have hl : lv_has ls 4 [(2, .int v2_3)] := hl
    refine lv_iload_n hx hb dX2_write_26 rfl (lv_at hl 0 rfl) ?_
    obtain rfl := Option.some.inj h
    exact x_reti C hQ hA hw dX2_write_27
noncomputable def f_J6_bitCount_0f7a4 (v0 : Int32) : Option (Int32) := some ((((((((v0 - ((xus v0 (1 : Int32)) &&& (1431655765 : Int32))) &&& (858993459 : Int32)) + ((xus (v0 - ((xus v0 (1 : Int32)) &&& (1431655765 : Int32))) (2 : Int32)) &&& (858993459 : Int32))) + (xus (((v0 - ((xus v0 (1 : Int32)) &&& (1431655765 : Int32))) &&& (858993459 : Int32)) + ((xus (v0 - ((xus v0 (1 : Int32)) &&& (1431655765 : Int32))) (2 : Int32)) &&& (858993459 : Int32))) (4 : Int32))) &&& (252645135 : Int32)) + (xus (((((v0 - ((xus v0 (1 : Int32)) &&& (1431655765 : Int32))) &&& (858993459 : Int32)) + ((xus (v0 - ((xus v0 (1 : Int32)) &&& (1431655765 : Int32))) (2 : Int32)) &&& (858993459 : Int32))) + (xus (((v0 - ((xus v0 (1 : Int32)) &&& (1431655765 : Int32))) &&& (858993459 : Int32)) + ((xus (v0 - ((xus v0 (1 : Int32)) &&& (1431655765 : Int32))) (2 : Int32)) &&& (858993459 : Int32))) (4 : Int32))) &&& (252645135 : Int32)) (8 : Int32))) + (xus ((((((v0 - ((xus v0 (1 : Int32)) &&& (1431655765 : Int32))) &&& (858993459 : Int32)) + ((xus (v0 - ((xus v0 (1 : Int32)) &&& (1431655765 : Int32))) (2 : Int32)) &&& (858993459 : Int32))) + (xus (((v0 - ((xus v0 (1 : Int32)) &&& (1431655765 : Int32))) &&& (858993459 : Int32)) + ((xus (v0 - ((xus v0 (1 : Int32)) &&& (1431655765 : Int32))) (2 : Int32)) &&& (858993459 : Int32))) (4 : Int32))) &&& (252645135 : Int32)) + (xus (((((v0 - ((xus v0 (1 : Int32)) &&& (1431655765 : Int32))) &&& (858993459 : Int32)) + ((xus (v0 - ((xus v0 (1 : Int32)) &&& (1431655765 : Int32))) (2 : Int32)) &&& (858993459 : Int32))) + (xus (((v0 - ((xus v0 (1 : Int32)) &&& (1431655765 : Int32))) &&& (858993459 : Int32)) + ((xus (v0 - ((xus v0 (1 : Int32)) &&& (1431655765 : Int32))) (2 : Int32)) &&& (858993459 : Int32))) (4 : Int32))) &&& (252645135 : Int32)) (8 : Int32))) (16 : Int32))) &&& (63 : Int32))
set_option maxHeartbeats 4000000 in
set_option maxRecDepth 100000 in
theorem c_J6_bitCount_0f7a4 (l : Launch) (dC : Nat → ClassId) (dI : Nat → Nat → Nat) (cI cZ cB cO : ClassId) (v0 : Int32) (o : Int32) (h : f_J6_bitCount_0f7a4 v0 = some o) (sz : Nat) : Met l yJ6_bitCount_0f7a4 (xW yJ6_bitCount_0f7a4 cJ6_bitCount_0f7a4 1 (some .int)) { frames := 0, cells := 0, slots := 0, locals := 0 } (xPre dC dI (xT cI cZ cB cO) [.int v0] [] sz) (xQi dC dI (xT cI cZ cB cO) o [] [] sz) 0 0 (va_A [] sz) := by
  refine x_met (by decide) (Nat.le_of_ble_eq_true rfl) ?_
  intro p e s m args below meth c R Q A hR hsz hA hQ hin C hw ls hl
  have hx := C.1
  have hb := C.2.1
  have hown := C.2.2.2.1
  have htb := C.2.2.2.2.1
  have hl : lv_has ls 1 [(0, .int v0)] := hl
  refine lv_iload_n hx hb dJ6_bitCount_0f7a4_0 rfl (lv_at hl 0 rfl) ?_
  refine lv_iload_n hx hb dJ6_bitCount_0f7a4_1 rfl (lv_at hl 0 rfl) ?_
  refine lv_iconst (v := (1 : Int32)) hx hb dJ6_bitCount_0f7a4_2 (by decide) ?_
  refine lv_iushr (v := (xus v0 (1 : Int32))) hx hb dJ6_bitCount_0f7a4_3 rfl ?_
  refine lv_ldcw hx hb hown (htb _ kI_J6_265) dJ6_bitCount_0f7a4_4 ?_
  refine lv_iand hx hb dJ6_bitCount_0f7a4_7 ?_
  refine lv_isub hx hb dJ6_bitCount_0f7a4_8 ?_
  refine lv_istore_n (lv' := [(0, .int (v0 - ((xus v0 (1 : Int32)) &&& (1431655765 : Int32))))]) hx hb dJ6_bitCount_0f7a4_9 rfl hl (by decide) rfl (fun ls hl => ?_)
  refine lv_iload_n hx hb dJ6_bitCount_0f7a4_10 rfl (lv_at hl 0 rfl) ?_
  refine lv_ldcw hx hb hown (htb _ kI_J6_266) dJ6_bitCount_0f7a4_11 ?_
  refine lv_iand hx hb dJ6_bitCount_0f7a4_14 ?_
  refine lv_iload_n hx hb dJ6_bitCount_0f7a4_15 rfl (lv_at hl 0 rfl) ?_
  refine lv_iconst (v := (2 : Int32)) hx hb dJ6_bitCount_0f7a4_16 (by decide) ?_
  refine lv_iushr (v := (xus (v0 - ((xus v0 (1 : Int32)) &&& (1431655765 : Int32))) (2 : Int32))) hx hb dJ6_bitCount_0f7a4_17 rfl ?_
  refine lv_ldcw hx hb hown (htb _ kI_J6_266) dJ6_bitCount_0f7a4_18 ?_
  refine lv_iand hx hb dJ6_bitCount_0f7a4_21 ?_
  refine lv_iadd hx hb dJ6_bitCount_0f7a4_22 ?_
  refine lv_istore_n (lv' := [(0, .int (((v0 - ((xus v0 (1 : Int32)) &&& (1431655765 : Int32))) &&& (858993459 : Int32)) + ((xus (v0 - ((xus v0 (1 : Int32)) &&& (1431655765 : Int32))) (2 : Int32)) &&& (858993459 : Int32))))]) hx hb dJ6_bitCount_0f7a4_23 rfl hl (by decide) rfl (fun ls hl => ?_)
  refine lv_iload_n hx hb dJ6_bitCount_0f7a4_24 rfl (lv_at hl 0 rfl) ?_
  refine lv_iload_n hx hb dJ6_bitCount_0f7a4_25 rfl (lv_at hl 0 rfl) ?_
  refine lv_iconst (v := (4 : Int32)) hx hb dJ6_bitCount_0f7a4_26 (by decide) ?_
  refine lv_iushr (v := (xus (((v0 - ((xus v0 (1 : Int32)) &&& (1431655765 : Int32))) &&& (858993459 : Int32)) + ((xus (v0 - ((xus v0 (1 : Int32)) &&& (1431655765 : Int32))) (2 : Int32)) &&& (858993459 : Int32))) (4 : Int32))) hx hb dJ6_bitCount_0f7a4_27 rfl ?_
  refine lv_iadd hx hb dJ6_bitCount_0f7a4_28 ?_
  refine lv_ldcw hx hb hown (htb _ kI_J6_267) dJ6_bitCount_0f7a4_29 ?_
  refine lv_iand hx hb dJ6_bitCount_0f7a4_32 ?_
  refine lv_istore_n (lv' := [(0, .int (((((v0 - ((xus v0 (1 : Int32)) &&& (1431655765 : Int32))) &&& (858993459 : Int32)) + ((xus (v0 - ((xus v0 (1 : Int32)) &&& (1431655765 : Int32))) (2 : Int32)) &&& (858993459 : Int32))) + (xus (((v0 - ((xus v0 (1 : Int32)) &&& (1431655765 : Int32))) &&& (858993459 : Int32)) + ((xus (v0 - ((xus v0 (1 : Int32)) &&& (1431655765 : Int32))) (2 : Int32)) &&& (858993459 : Int32))) (4 : Int32))) &&& (252645135 : Int32)))]) hx hb dJ6_bitCount_0f7a4_33 rfl hl (by decide) rfl (fun ls hl => ?_)
  refine lv_iload_n hx hb dJ6_bitCount_0f7a4_34 rfl (lv_at hl 0 rfl) ?_
  refine lv_iload_n hx hb dJ6_bitCount_0f7a4_35 rfl (lv_at hl 0 rfl) ?_
  refine lv_bipush (v := (8 : Int32)) hx hb dJ6_bitCount_0f7a4_36 (by decide) ?_
  refine lv_iushr (v := (xus (((((v0 - ((xus v0 (1 : Int32)) &&& (1431655765 : Int32))) &&& (858993459 : Int32)) + ((xus (v0 - ((xus v0 (1 : Int32)) &&& (1431655765 : Int32))) (2 : Int32)) &&& (858993459 : Int32))) + (xus (((v0 - ((xus v0 (1 : Int32)) &&& (1431655765 : Int32))) &&& (858993459 : Int32)) + ((xus (v0 - ((xus v0 (1 : Int32)) &&& (1431655765 : Int32))) (2 : Int32)) &&& (858993459 : Int32))) (4 : Int32))) &&& (252645135 : Int32)) (8 : Int32))) hx hb dJ6_bitCount_0f7a4_38 rfl ?_
  refine lv_iadd hx hb dJ6_bitCount_0f7a4_39 ?_
  refine lv_istore_n (lv' := [(0, .int ((((((v0 - ((xus v0 (1 : Int32)) &&& (1431655765 : Int32))) &&& (858993459 : Int32)) + ((xus (v0 - ((xus v0 (1 : Int32)) &&& (1431655765 : Int32))) (2 : Int32)) &&& (858993459 : Int32))) + (xus (((v0 - ((xus v0 (1 : Int32)) &&& (1431655765 : Int32))) &&& (858993459 : Int32)) + ((xus (v0 - ((xus v0 (1 : Int32)) &&& (1431655765 : Int32))) (2 : Int32)) &&& (858993459 : Int32))) (4 : Int32))) &&& (252645135 : Int32)) + (xus (((((v0 - ((xus v0 (1 : Int32)) &&& (1431655765 : Int32))) &&& (858993459 : Int32)) + ((xus (v0 - ((xus v0 (1 : Int32)) &&& (1431655765 : Int32))) (2 : Int32)) &&& (858993459 : Int32))) + (xus (((v0 - ((xus v0 (1 : Int32)) &&& (1431655765 : Int32))) &&& (858993459 : Int32)) + ((xus (v0 - ((xus v0 (1 : Int32)) &&& (1431655765 : Int32))) (2 : Int32)) &&& (858993459 : Int32))) (4 : Int32))) &&& (252645135 : Int32)) (8 : Int32))))]) hx hb dJ6_bitCount_0f7a4_40 rfl hl (by decide) rfl (fun ls hl => ?_)
  refine lv_iload_n hx hb dJ6_bitCount_0f7a4_41 rfl (lv_at hl 0 rfl) ?_
  refine lv_iload_n hx hb dJ6_bitCount_0f7a4_42 rfl (lv_at hl 0 rfl) ?_
  refine lv_bipush (v := (16 : Int32)) hx hb dJ6_bitCount_0f7a4_43 (by decide) ?_
  refine lv_iushr (v := (xus ((((((v0 - ((xus v0 (1 : Int32)) &&& (1431655765 : Int32))) &&& (858993459 : Int32)) + ((xus (v0 - ((xus v0 (1 : Int32)) &&& (1431655765 : Int32))) (2 : Int32)) &&& (858993459 : Int32))) + (xus (((v0 - ((xus v0 (1 : Int32)) &&& (1431655765 : Int32))) &&& (858993459 : Int32)) + ((xus (v0 - ((xus v0 (1 : Int32)) &&& (1431655765 : Int32))) (2 : Int32)) &&& (858993459 : Int32))) (4 : Int32))) &&& (252645135 : Int32)) + (xus (((((v0 - ((xus v0 (1 : Int32)) &&& (1431655765 : Int32))) &&& (858993459 : Int32)) + ((xus (v0 - ((xus v0 (1 : Int32)) &&& (1431655765 : Int32))) (2 : Int32)) &&& (858993459 : Int32))) + (xus (((v0 - ((xus v0 (1 : Int32)) &&& (1431655765 : Int32))) &&& (858993459 : Int32)) + ((xus (v0 - ((xus v0 (1 : Int32)) &&& (1431655765 : Int32))) (2 : Int32)) &&& (858993459 : Int32))) (4 : Int32))) &&& (252645135 : Int32)) (8 : Int32))) (16 : Int32))) hx hb dJ6_bitCount_0f7a4_45 rfl ?_
  refine lv_iadd hx hb dJ6_bitCount_0f7a4_46 ?_
  refine lv_istore_n (lv' := [(0, .int (((((((v0 - ((xus v0 (1 : Int32)) &&& (1431655765 : Int32))) &&& (858993459 : Int32)) + ((xus (v0 - ((xus v0 (1 : Int32)) &&& (1431655765 : Int32))) (2 : Int32)) &&& (858993459 : Int32))) + (xus (((v0 - ((xus v0 (1 : Int32)) &&& (1431655765 : Int32))) &&& (858993459 : Int32)) + ((xus (v0 - ((xus v0 (1 : Int32)) &&& (1431655765 : Int32))) (2 : Int32)) &&& (858993459 : Int32))) (4 : Int32))) &&& (252645135 : Int32)) + (xus (((((v0 - ((xus v0 (1 : Int32)) &&& (1431655765 : Int32))) &&& (858993459 : Int32)) + ((xus (v0 - ((xus v0 (1 : Int32)) &&& (1431655765 : Int32))) (2 : Int32)) &&& (858993459 : Int32))) + (xus (((v0 - ((xus v0 (1 : Int32)) &&& (1431655765 : Int32))) &&& (858993459 : Int32)) + ((xus (v0 - ((xus v0 (1 : Int32)) &&& (1431655765 : Int32))) (2 : Int32)) &&& (858993459 : Int32))) (4 : Int32))) &&& (252645135 : Int32)) (8 : Int32))) + (xus ((((((v0 - ((xus v0 (1 : Int32)) &&& (1431655765 : Int32))) &&& (858993459 : Int32)) + ((xus (v0 - ((xus v0 (1 : Int32)) &&& (1431655765 : Int32))) (2 : Int32)) &&& (858993459 : Int32))) + (xus (((v0 - ((xus v0 (1 : Int32)) &&& (1431655765 : Int32))) &&& (858993459 : Int32)) + ((xus (v0 - ((xus v0 (1 : Int32)) &&& (1431655765 : Int32))) (2 : Int32)) &&& (858993459 : Int32))) (4 : Int32))) &&& (252645135 : Int32)) + (xus (((((v0 - ((xus v0 (1 : Int32)) &&& (1431655765 : Int32))) &&& (858993459 : Int32)) + ((xus (v0 - ((xus v0 (1 : Int32)) &&& (1431655765 : Int32))) (2 : Int32)) &&& (858993459 : Int32))) + (xus (((v0 - ((xus v0 (1 : Int32)) &&& (1431655765 : Int32))) &&& (858993459 : Int32)) + ((xus (v0 - ((xus v0 (1 : Int32)) &&& (1431655765 : Int32))) (2 : Int32)) &&& (858993459 : Int32))) (4 : Int32))) &&& (252645135 : Int32)) (8 : Int32))) (16 : Int32))))]) hx hb dJ6_bitCount_0f7a4_47 rfl hl (by decide) rfl (fun ls hl => ?_)
  refine lv_iload_n hx hb dJ6_bitCount_0f7a4_48 rfl (lv_at hl 0 rfl) ?_
  refine lv_bipush (v := (63 : Int32)) hx hb dJ6_bitCount_0f7a4_49 (by decide) ?_
  refine lv_iand hx hb dJ6_bitCount_0f7a4_51 ?_
  obtain rfl := Option.some.inj h
  exact x_reti C hQ hA hw dJ6_bitCount_0f7a4_52
noncomputable def f_J7_fill_53178_L1 (a_n : Nat) (v1 : Int32) (z : (Nat → Int32) × Int32) : Option (((Nat → Int32) × Int32) ⊕ ((Nat → Int32))) := match z with
  | (a_row_1, v2_2) => xb ((nI a_n) ≤ v2_2) (some (.inr a_row_1)) (xk (vp_in v2_2 a_n) (some (.inl ((upd a_row_1 v2_2.toNatClampNeg v1), (v2_2 + (1 : Int32))))))
noncomputable def f_J7_fill_53178 (a_n : Nat) (a_row : (Nat → Int32)) (v1 : Int32) : Option ((Nat → Int32)) := xn (xL (f_J7_fill_53178_L1 a_n v1) (a_row, (0 : Int32))) (fun (a_row_3 : (Nat → Int32)) => some a_row_3)
set_option maxHeartbeats 4000000 in
set_option maxRecDepth 100000 in
theorem c_J7_fill_53178 (l : Launch) (dC : Nat → ClassId) (dI : Nat → Nat → Nat) (cI cZ cB cO : ClassId) (a_ad : Nat) (a_n : Nat) (a_row : (Nat → Int32)) (v1 : Int32) (o : (Nat → Int32)) (h : f_J7_fill_53178 a_n a_row v1 = some o) (sz : Nat) : Met l yJ7_fill_53178 (xW yJ7_fill_53178 cJ7_fill_53178 4 none) { frames := 0, cells := 0, slots := 0, locals := 0 } (xPre dC dI (xT cI cZ cB cO) [.ref a_ad, .int v1] (wA cI cZ cB cO a_ad a_n a_row) sz) (xQv dC dI (xT cI cZ cB cO) (wA cI cZ cB cO a_ad a_n a_row) (wA cI cZ cB cO a_ad a_n o) sz) 0 0 (va_A (wA cI cZ cB cO a_ad a_n a_row) sz) := by
  refine x_met (by decide) (Nat.le_of_ble_eq_true rfl) ?_
  intro p e s m args below meth c R Q A hR hsz hA hQ hin C hw ls hl
  have hx := C.1
  have hb := C.2.1
  have hown := C.2.2.2.1
  have htb := C.2.2.2.2.1
  have hl : lv_has ls 4 [(0, .ref a_ad), (1, .int v1)] := hl
  refine lv_iconst (v := (0 : Int32)) hx hb dJ7_fill_53178_0 (by decide) ?_
  refine lv_istore_n (lv' := [(2, .int (0 : Int32)), (0, .ref a_ad), (1, .int v1)]) hx hb dJ7_fill_53178_1 rfl hl (by decide) rfl (fun ls hl => ?_)
  refine lv_aload_n hx hb dJ7_fill_53178_2 rfl (lv_at hl 1 rfl) ?_
  refine va_alen (v := nI a_n) hx hb C.2.2.2.2.2.2.2 hw.1 0 0 rfl rfl rfl dJ7_fill_53178_3 ?_
  refine lv_istore_n (lv' := [(3, .int (nI a_n)), (2, .int (0 : Int32)), (0, .ref a_ad), (1, .int v1)]) hx hb dJ7_fill_53178_4 rfl hl (by decide) rfl (fun ls hl => ?_)
  obtain ⟨z, hr, h⟩ := xn_i h
  refine xL_w (fun (z : (Nat → Int32) × Int32) => ∀ (H : Heap) (locs : List Loc) (ls : Array Slot), xWd (dC, dI) A s.heap H locs (wA cI cZ cB cO a_ad a_n z.1) → lv_has ls 4 [(0, .ref a_ad), (1, .int v1), (2, .int z.2), (3, .int (nI a_n))] → W p l e R s m args below meth c H locs 0 0 Q (F0 m 5 ls [])) (fun (z : (Nat → Int32)) => ∀ (H : Heap) (locs : List Loc) (ls : Array Slot), xWd (dC, dI) A s.heap H locs (wA cI cZ cB cO a_ad a_n z) → lv_has ls 4 [] → W p l e R s m args below meth c H locs 0 0 Q (F0 m 20 ls [])) ?_ hr ?_ _ _ _ hw (lv_sub hl [2, 3, 1, 0] rfl)
  · rintro ⟨a_row_1, v2_2⟩ o h k H locs ls hw hl
    have hw : xWd (dC, dI) A s.heap H locs (wA cI cZ cB cO a_ad a_n a_row_1) := hw
    have hl : lv_has ls 4 [(0, .ref a_ad), (1, .int v1), (2, .int v2_2), (3, .int (nI a_n))] := hl
    refine lv_iload_n hx hb dJ7_fill_53178_5 rfl (lv_at hl 2 rfl) ?_
    refine lv_iload_n hx hb dJ7_fill_53178_6 rfl (lv_at hl 3 rfl) ?_
    refine lv_icmp_ge (tgt := 20) hx hb dJ7_fill_53178_7 (by decide) (fun b1 => ?_) (fun b1 => ?_)
    · replace h := xb_tt b1 h
      obtain rfl := Option.some.inj h
      exact k _ _ _ hw (lv_sub hl [] rfl)
    · replace h := xb_ff b1 h
      refine lv_aload_n hx hb dJ7_fill_53178_10 rfl (lv_at hl 0 rfl) ?_
      refine lv_iload_n hx hb dJ7_fill_53178_11 rfl (lv_at hl 2 rfl) ?_
      refine lv_iload_n hx hb dJ7_fill_53178_12 rfl (lv_at hl 1 rfl) ?_
      obtain ⟨b2, h⟩ := xk_i h
      refine x_iast C hw 0 0 rfl rfl b2 dJ7_fill_53178_13 (fun H locs hw => ?_)
      have hw : xWd (dC, dI) A s.heap H locs (wA cI cZ cB cO a_ad a_n (upd a_row_1 v2_2.toNatClampNeg v1)) := hw
      refine lv_iinc (v := (v2_2 + (1 : Int32))) (lv' := [(2, .int (v2_2 + (1 : Int32))), (0, .ref a_ad), (1, .int v1), (3, .int (nI a_n))]) hx hb dJ7_fill_53178_14 hl (k := 2) rfl (congrArg (fun q => v2_2 + q) (by decide)) (by decide) rfl (fun ls hl => ?_)
      refine lv_goto (tgt := 5) hx hb dJ7_fill_53178_17 (by decide) ?_
      obtain rfl := Option.some.inj h
      exact k _ _ _ hw (lv_sub hl [1, 2, 0, 3] rfl)
  · obtain ⟨a_row_3, hz⟩ : ∃ q, q = z := ⟨z, rfl⟩
    subst hz
    intro H locs ls hw hl
    have hw : xWd (dC, dI) A s.heap H locs (wA cI cZ cB cO a_ad a_n a_row_3) := hw
    have hl : lv_has ls 4 [] := hl
    obtain rfl := Option.some.inj h
    exact x_retv C hQ hA hw dJ7_fill_53178_20
noncomputable def f_X4_start (s_n : Int32) (s_count : Int32) (v1 : Int32) : Option (Int32 × Int32) := some (v1, (0 : Int32))
set_option maxHeartbeats 4000000 in
set_option maxRecDepth 100000 in
theorem c_X4_start (l : Launch) (dC : Nat → ClassId) (dI : Nat → Nat → Nat) (cI cZ cB cO : ClassId) (s_ad : Nat) (s_p : Nat → Nat) (s_n : Int32) (s_count : Int32) (s_generators : (Nat → Int32)) (v1 : Int32) (o : Int32 × Int32) (h : f_X4_start s_n s_count v1 = some o) (sz : Nat) : Met l yX4_start (xW yX4_start cX4_start 2 none) { frames := 0, cells := 0, slots := 0, locals := 0 } (xPre dC dI (xT cI cZ cB cO) [.ref s_ad, .int v1] (wS cI cZ cB cO s_ad s_p s_n s_count s_generators) sz) (xQv dC dI (xT cI cZ cB cO) (wS cI cZ cB cO s_ad s_p s_n s_count s_generators) (wS cI cZ cB cO s_ad s_p o.1 o.2 s_generators) sz) 0 0 (va_A (wS cI cZ cB cO s_ad s_p s_n s_count s_generators) sz) := by
  refine x_met (by decide) (Nat.le_of_ble_eq_true rfl) ?_
  intro p e s m args below meth c R Q A hR hsz hA hQ hin C hw ls hl
  have hx := C.1
  have hb := C.2.1
  have hown := C.2.2.2.1
  have htb := C.2.2.2.2.1
  have hl : lv_has ls 2 [(0, .ref s_ad), (1, .int v1)] := hl
  refine lv_aload_n hx hb dX4_start_0 rfl (lv_at hl 0 rfl) ?_
  refine lv_iload_n hx hb dX4_start_1 rfl (lv_at hl 1 rfl) ?_
  refine x_put (ci := 3) C hw inX4 tyX4 tyX4_ok nmX4 rfl 0 (by decide) lkF_X4_9 rfl rfl 0 rfl rfl rfl (Nat.le_of_ble_eq_true rfl) dX4_start_2 (fun H locs hw => ?_)
  have hw : xWd (dC, dI) A s.heap H locs (wS cI cZ cB cO s_ad s_p v1 s_count s_generators) := hw
  refine lv_aload_n hx hb dX4_start_5 rfl (lv_at hl 0 rfl) ?_
  refine lv_iconst (v := (0 : Int32)) hx hb dX4_start_6 (by decide) ?_
  refine x_put (ci := 3) C hw inX4 tyX4 tyX4_ok nmX4 rfl 1 (by decide) lkF_X4_15 rfl rfl 0 rfl rfl rfl (Nat.le_of_ble_eq_true rfl) dX4_start_7 (fun H locs hw => ?_)
  have hw : xWd (dC, dI) A s.heap H locs (wS cI cZ cB cO s_ad s_p v1 (0 : Int32) s_generators) := hw
  obtain rfl := Option.some.inj h
  exact x_retv C hQ hA hw dX4_start_10
noncomputable def f_X4_generator (s_count : Int32) (s_generators : (Nat → Int32)) (v1 : Int32) : Option (Int32) := xb (v1 < 0) (some (16434824 : Int32)) (xb (s_count ≤ v1) (some (16434824 : Int32)) (xk (vp_in v1 3) (some (s_generators v1.toNatClampNeg))))
set_option maxHeartbeats 4000000 in
set_option maxRecDepth 100000 in
theorem c_X4_generator (l : Launch) (dC : Nat → ClassId) (dI : Nat → Nat → Nat) (cI cZ cB cO : ClassId) (s_ad : Nat) (s_p : Nat → Nat) (s_n : Int32) (s_count : Int32) (s_generators : (Nat → Int32)) (v1 : Int32) (o : Int32) (h : f_X4_generator s_count s_generators v1 = some o) (sz : Nat) : Met l yX4_generator (xW yX4_generator cX4_generator 2 (some .int)) { frames := 0, cells := 0, slots := 0, locals := 0 } (xPre dC dI (xT cI cZ cB cO) [.ref s_ad, .int v1] (wS cI cZ cB cO s_ad s_p s_n s_count s_generators) sz) (xQi dC dI (xT cI cZ cB cO) o (wS cI cZ cB cO s_ad s_p s_n s_count s_generators) (wS cI cZ cB cO s_ad s_p s_n s_count s_generators) sz) 0 0 (va_A (wS cI cZ cB cO s_ad s_p s_n s_count s_generators) sz) := by
  refine x_met (by decide) (Nat.le_of_ble_eq_true rfl) ?_
  intro p e s m args below meth c R Q A hR hsz hA hQ hin C hw ls hl
  have hx := C.1
  have hb := C.2.1
  have hown := C.2.2.2.1
  have htb := C.2.2.2.2.1
  have hl : lv_has ls 2 [(0, .ref s_ad), (1, .int v1)] := hl
  refine lv_iload_n hx hb dX4_generator_0 rfl (lv_at hl 1 rfl) ?_
  refine lv_if_lt (tgt := 21) hx hb dX4_generator_1 (by decide) (fun b1 => ?_) (fun b1 => ?_)
  · replace h := xb_tt b1 h
    refine lv_ldc hx hb hown (htb _ kI_X4_24) dX4_generator_21 ?_
    obtain rfl := Option.some.inj h
    exact x_reti C hQ hA hw dX4_generator_23
  · replace h := xb_ff b1 h
    refine lv_iload_n hx hb dX4_generator_4 rfl (lv_at hl 1 rfl) ?_
    refine lv_aload_n hx hb dX4_generator_5 rfl (lv_at hl 0 rfl) ?_
    refine x_get (ci := 3) C hw inX4 rfl 1 (by decide) lkF_X4_15 rfl 0 rfl rfl dX4_generator_6 ?_
    refine lv_icmp_ge (tgt := 21) hx hb dX4_generator_9 (by decide) (fun b2 => ?_) (fun b2 => ?_)
    · replace h := xb_tt b2 h
      refine lv_ldc hx hb hown (htb _ kI_X4_24) dX4_generator_21 ?_
      obtain rfl := Option.some.inj h
      exact x_reti C hQ hA hw dX4_generator_23
    · replace h := xb_ff b2 h
      refine lv_aload_n hx hb dX4_generator_12 rfl (lv_at hl 0 rfl) ?_
      refine x_get (ci := 3) C hw inX4 rfl 2 (by decide) lkF_X4_18 rfl 0 rfl rfl dX4_generator_13 ?_
      refine lv_iload_n hx hb dX4_generator_16 rfl (lv_at hl 1 rfl) ?_
      obtain ⟨b3, h⟩ := xk_i h
      refine x_iald C hw 1 0 rfl rfl b3 dX4_generator_17 ?_
      refine lv_goto (tgt := 23) hx hb dX4_generator_18 (by decide) ?_
      obtain rfl := Option.some.inj h
      exact x_reti C hQ hA hw dX4_generator_23
noncomputable def f_X4_adds (s_count : Int32) (s_generators : (Nat → Int32)) (v1 : Int32) : Option (Int32 × (Nat → Int32) × Int32) := xb (s_count < (3 : Int32)) (xk (vp_in s_count 3) (some ((s_count + (1 : Int32)), (upd s_generators s_count.toNatClampNeg v1), (1 : Int32)))) (some (s_count, s_generators, (0 : Int32)))
set_option maxHeartbeats 4000000 in
set_option maxRecDepth 100000 in
theorem c_X4_adds (l : Launch) (dC : Nat → ClassId) (dI : Nat → Nat → Nat) (cI cZ cB cO : ClassId) (s_ad : Nat) (s_p : Nat → Nat) (s_n : Int32) (s_count : Int32) (s_generators : (Nat → Int32)) (v1 : Int32) (o : Int32 × (Nat → Int32) × Int32) (h : f_X4_adds s_count s_generators v1 = some o) (sz : Nat) : Met l yX4_adds (xW yX4_adds cX4_adds 2 (some .boolean)) { frames := 0, cells := 0, slots := 0, locals := 0 } (xPre dC dI (xT cI cZ cB cO) [.ref s_ad, .int v1] (wS cI cZ cB cO s_ad s_p s_n s_count s_generators) sz) (xQi dC dI (xT cI cZ cB cO) o.2.2 (wS cI cZ cB cO s_ad s_p s_n s_count s_generators) (wS cI cZ cB cO s_ad s_p s_n o.1 o.2.1) sz) 0 0 (va_A (wS cI cZ cB cO s_ad s_p s_n s_count s_generators) sz) := by
  refine x_met (by decide) (Nat.le_of_ble_eq_true rfl) ?_
  intro p e s m args below meth c R Q A hR hsz hA hQ hin C hw ls hl
  have hx := C.1
  have hb := C.2.1
  have hown := C.2.2.2.1
  have htb := C.2.2.2.2.1
  have hl : lv_has ls 2 [(0, .ref s_ad), (1, .int v1)] := hl
  refine lv_aload_n hx hb dX4_adds_0 rfl (lv_at hl 0 rfl) ?_
  refine x_get (ci := 3) C hw inX4 rfl 1 (by decide) lkF_X4_15 rfl 0 rfl rfl dX4_adds_1 ?_
  refine lv_iconst (v := (3 : Int32)) hx hb dX4_adds_4 (by decide) ?_
  refine lv_icmp_lt (tgt := 10) hx hb dX4_adds_5 (by decide) (fun b1 => ?_) (fun b1 => ?_)
  · replace h := xb_tt b1 h
    refine lv_aload_n hx hb dX4_adds_10 rfl (lv_at hl 0 rfl) ?_
    refine x_get (ci := 3) C hw inX4 rfl 2 (by decide) lkF_X4_18 rfl 0 rfl rfl dX4_adds_11 ?_
    refine lv_aload_n hx hb dX4_adds_14 rfl (lv_at hl 0 rfl) ?_
    refine x_get (ci := 3) C hw inX4 rfl 1 (by decide) lkF_X4_15 rfl 0 rfl rfl dX4_adds_15 ?_
    refine lv_iload_n hx hb dX4_adds_18 rfl (lv_at hl 1 rfl) ?_
    obtain ⟨b2, h⟩ := xk_i h
    refine x_iast C hw 1 0 rfl rfl b2 dX4_adds_19 (fun H locs hw => ?_)
    have hw : xWd (dC, dI) A s.heap H locs (wS cI cZ cB cO s_ad s_p s_n s_count (upd s_generators s_count.toNatClampNeg v1)) := hw
    refine lv_aload_n hx hb dX4_adds_20 rfl (lv_at hl 0 rfl) ?_
    refine lv_dup hx hb dX4_adds_21 rfl ?_
    refine x_get (ci := 3) C hw inX4 rfl 1 (by decide) lkF_X4_15 rfl 0 rfl rfl dX4_adds_22 ?_
    refine lv_iconst (v := (1 : Int32)) hx hb dX4_adds_25 (by decide) ?_
    refine lv_iadd hx hb dX4_adds_26 ?_
    refine x_put (ci := 3) C hw inX4 tyX4 tyX4_ok nmX4 rfl 1 (by decide) lkF_X4_15 rfl rfl 0 rfl rfl rfl (Nat.le_of_ble_eq_true rfl) dX4_adds_27 (fun H locs hw => ?_)
    have hw : xWd (dC, dI) A s.heap H locs (wS cI cZ cB cO s_ad s_p s_n (s_count + (1 : Int32)) (upd s_generators s_count.toNatClampNeg v1)) := hw
    refine lv_iconst (v := (1 : Int32)) hx hb dX4_adds_30 (by decide) ?_
    obtain rfl := Option.some.inj h
    exact x_retz C hQ hA hw (by decide) dX4_adds_31
  · replace h := xb_ff b1 h
    refine lv_iconst (v := (0 : Int32)) hx hb dX4_adds_8 (by decide) ?_
    obtain rfl := Option.some.inj h
    exact x_retz C hQ hA hw (by decide) dX4_adds_9
noncomputable def f_X4_loses_L1 (s_count : Int32) (z : (Nat → Int32) × Int32) : Option (((Nat → Int32) × Int32) ⊕ ((Nat → Int32))) := match z with
  | (s_generators_1, v2_2) => xb (s_count ≤ v2_2) (some (.inr s_generators_1)) (xk (vp_in v2_2 3) (xk (vp_in (v2_2 - (1 : Int32)) 3) (some (.inl ((upd s_generators_1 (v2_2 - (1 : Int32)).toNatClampNeg (s_generators_1 v2_2.toNatClampNeg)), (v2_2 + (1 : Int32)))))))
noncomputable def f_X4_loses (s_count : Int32) (s_generators : (Nat → Int32)) (v1 : Int32) : Option (Int32 × (Nat → Int32) × Int32) := xb (v1 < 0) (some (s_count, s_generators, (0 : Int32))) (xb (v1 < s_count) (xn (xL (f_X4_loses_L1 s_count) (s_generators, (v1 + (1 : Int32)))) (fun (s_generators_3 : (Nat → Int32)) => some ((s_count - (1 : Int32)), s_generators_3, (1 : Int32)))) (some (s_count, s_generators, (0 : Int32))))
set_option maxHeartbeats 4000000 in
set_option maxRecDepth 100000 in
theorem c_X4_loses (l : Launch) (dC : Nat → ClassId) (dI : Nat → Nat → Nat) (cI cZ cB cO : ClassId) (s_ad : Nat) (s_p : Nat → Nat) (s_n : Int32) (s_count : Int32) (s_generators : (Nat → Int32)) (v1 : Int32) (o : Int32 × (Nat → Int32) × Int32) (h : f_X4_loses s_count s_generators v1 = some o) (sz : Nat) : Met l yX4_loses (xW yX4_loses cX4_loses 3 (some .boolean)) { frames := 0, cells := 0, slots := 0, locals := 0 } (xPre dC dI (xT cI cZ cB cO) [.ref s_ad, .int v1] (wS cI cZ cB cO s_ad s_p s_n s_count s_generators) sz) (xQi dC dI (xT cI cZ cB cO) o.2.2 (wS cI cZ cB cO s_ad s_p s_n s_count s_generators) (wS cI cZ cB cO s_ad s_p s_n o.1 o.2.1) sz) 0 0 (va_A (wS cI cZ cB cO s_ad s_p s_n s_count s_generators) sz) := by
  refine x_met (by decide) (Nat.le_of_ble_eq_true rfl) ?_
  intro p e s m args below meth c R Q A hR hsz hA hQ hin C hw ls hl
  have hx := C.1
  have hb := C.2.1
  have hown := C.2.2.2.1
  have htb := C.2.2.2.2.1
  have hl : lv_has ls 3 [(0, .ref s_ad), (1, .int v1)] := hl
  refine lv_iload_n hx hb dX4_loses_0 rfl (lv_at hl 1 rfl) ?_
  refine lv_if_lt (tgt := 12) hx hb dX4_loses_1 (by decide) (fun b1 => ?_) (fun b1 => ?_)
  · replace h := xb_tt b1 h
    refine lv_iconst (v := (0 : Int32)) hx hb dX4_loses_12 (by decide) ?_
    obtain rfl := Option.some.inj h
    exact x_retz C hQ hA hw (by decide) dX4_loses_13
  · replace h := xb_ff b1 h
    refine lv_iload_n hx hb dX4_loses_4 rfl (lv_at hl 1 rfl) ?_
    refine lv_aload_n hx hb dX4_loses_5 rfl (lv_at hl 0 rfl) ?_
    refine x_get (ci := 3) C hw inX4 rfl 1 (by decide) lkF_X4_15 rfl 0 rfl rfl dX4_loses_6 ?_
    refine lv_icmp_lt (tgt := 14) hx hb dX4_loses_9 (by decide) (fun b2 => ?_) (fun b2 => ?_)
    · replace h := xb_tt b2 h
      refine lv_iload_n hx hb dX4_loses_14 rfl (lv_at hl 1 rfl) ?_
      refine lv_iconst (v := (1 : Int32)) hx hb dX4_loses_15 (by decide) ?_
      refine lv_iadd hx hb dX4_loses_16 ?_
      refine lv_istore_n (lv' := [(2, .int (v1 + (1 : Int32))), (0, .ref s_ad), (1, .int v1)]) hx hb dX4_loses_17 rfl hl (by decide) rfl (fun ls hl => ?_)
      obtain ⟨z, hr, h⟩ := xn_i h
      refine xL_w (fun (z : (Nat → Int32) × Int32) => ∀ (H : Heap) (locs : List Loc) (ls : Array Slot), xWd (dC, dI) A s.heap H locs (wS cI cZ cB cO s_ad s_p s_n s_count z.1) → lv_has ls 3 [(0, .ref s_ad), (2, .int z.2)] → W p l e R s m args below meth c H locs 0 0 Q (F0 m 18 ls [])) (fun (z : (Nat → Int32)) => ∀ (H : Heap) (locs : List Loc) (ls : Array Slot), xWd (dC, dI) A s.heap H locs (wS cI cZ cB cO s_ad s_p s_n s_count z) → lv_has ls 3 [(0, .ref s_ad)] → W p l e R s m args below meth c H locs 0 0 Q (F0 m 46 ls [])) ?_ hr ?_ _ _ _ hw (lv_sub hl [1, 0] rfl)
      · rintro ⟨s_generators_1, v2_2⟩ o h k H locs ls hw hl
        have hw : xWd (dC, dI) A s.heap H locs (wS cI cZ cB cO s_ad s_p s_n s_count s_generators_1) := hw
        have hl : lv_has ls 3 [(0, .ref s_ad), (2, .int v2_2)] := hl
        refine lv_iload_n hx hb dX4_loses_18 rfl (lv_at hl 1 rfl) ?_
        refine lv_aload_n hx hb dX4_loses_19 rfl (lv_at hl 0 rfl) ?_
        refine x_get (ci := 3) C hw inX4 rfl 1 (by decide) lkF_X4_15 rfl 0 rfl rfl dX4_loses_20 ?_
        refine lv_icmp_ge (tgt := 46) hx hb dX4_loses_23 (by decide) (fun b3 => ?_) (fun b3 => ?_)
        · replace h := xb_tt b3 h
          obtain rfl := Option.some.inj h
          exact k _ _ _ hw (lv_sub hl [0] rfl)
        · replace h := xb_ff b3 h
          refine lv_aload_n hx hb dX4_loses_26 rfl (lv_at hl 0 rfl) ?_
          refine x_get (ci := 3) C hw inX4 rfl 2 (by decide) lkF_X4_18 rfl 0 rfl rfl dX4_loses_27 ?_
          refine lv_iload_n hx hb dX4_loses_30 rfl (lv_at hl 1 rfl) ?_
          refine lv_iconst (v := (1 : Int32)) hx hb dX4_loses_31 (by decide) ?_
          refine lv_isub hx hb dX4_loses_32 ?_
          refine lv_aload_n hx hb dX4_loses_33 rfl (lv_at hl 0 rfl) ?_
          refine x_get (ci := 3) C hw inX4 rfl 2 (by decide) lkF_X4_18 rfl 0 rfl rfl dX4_loses_34 ?_
          refine lv_iload_n hx hb dX4_loses_37 rfl (lv_at hl 1 rfl) ?_
          obtain ⟨b4, h⟩ := xk_i h
          refine x_iald C hw 1 0 rfl rfl b4 dX4_loses_38 ?_
          obtain ⟨b5, h⟩ := xk_i h
          refine x_iast C hw 1 0 rfl rfl b5 dX4_loses_39 (fun H locs hw => ?_)
          have hw : xWd (dC, dI) A s.heap H locs (wS cI cZ cB cO s_ad s_p s_n s_count (upd s_generators_1 (v2_2 - (1 : Int32)).toNatClampNeg (s_generators_1 v2_2.toNatClampNeg))) := hw
          refine lv_iinc (v := (v2_2 + (1 : Int32))) (lv' := [(2, .int (v2_2 + (1 : Int32))), (0, .ref s_ad)]) hx hb dX4_loses_40 hl (k := 1) rfl (congrArg (fun q => v2_2 + q) (by decide)) (by decide) rfl (fun ls hl => ?_)
          refine lv_goto (tgt := 18) hx hb dX4_loses_43 (by decide) ?_
          obtain rfl := Option.some.inj h
          exact k _ _ _ hw (lv_sub hl [1, 0] rfl)
      · obtain ⟨s_generators_3, hz⟩ : ∃ q, q = z := ⟨z, rfl⟩
        subst hz
        intro H locs ls hw hl
        have hw : xWd (dC, dI) A s.heap H locs (wS cI cZ cB cO s_ad s_p s_n s_count s_generators_3) := hw
        have hl : lv_has ls 3 [(0, .ref s_ad)] := hl
        refine lv_aload_n hx hb dX4_loses_46 rfl (lv_at hl 0 rfl) ?_
        refine lv_dup hx hb dX4_loses_47 rfl ?_
        refine x_get (ci := 3) C hw inX4 rfl 1 (by decide) lkF_X4_15 rfl 0 rfl rfl dX4_loses_48 ?_
        refine lv_iconst (v := (1 : Int32)) hx hb dX4_loses_51 (by decide) ?_
        refine lv_isub hx hb dX4_loses_52 ?_
        refine x_put (ci := 3) C hw inX4 tyX4 tyX4_ok nmX4 rfl 1 (by decide) lkF_X4_15 rfl rfl 0 rfl rfl rfl (Nat.le_of_ble_eq_true rfl) dX4_loses_53 (fun H locs hw => ?_)
        have hw : xWd (dC, dI) A s.heap H locs (wS cI cZ cB cO s_ad s_p s_n (s_count - (1 : Int32)) s_generators_3) := hw
        refine lv_iconst (v := (1 : Int32)) hx hb dX4_loses_56 (by decide) ?_
        obtain rfl := Option.some.inj h
        exact x_retz C hQ hA hw (by decide) dX4_loses_57
    · replace h := xb_ff b2 h
      refine lv_iconst (v := (0 : Int32)) hx hb dX4_loses_12 (by decide) ?_
      obtain rfl := Option.some.inj h
      exact x_retz C hQ hA hw (by decide) dX4_loses_13
noncomputable def f_X4_copy (s_n : Int32) (s_count : Int32) (s_generators : (Nat → Int32)) (f_n : Int32) (f_count : Int32) (f_generators : (Nat → Int32)) : Option (Int32 × Int32 × (Nat → Int32)) := some (f_n, f_count, (va_cpy f_generators s_generators 0 0 3))
set_option maxHeartbeats 4000000 in
set_option maxRecDepth 100000 in
theorem c_X4_copy (l : Launch) (dC : Nat → ClassId) (dI : Nat → Nat → Nat) (cI cZ cB cO : ClassId) (s_ad : Nat) (s_p : Nat → Nat) (f_ad : Nat) (f_p : Nat → Nat) (s_n : Int32) (s_count : Int32) (s_generators : (Nat → Int32)) (f_n : Int32) (f_count : Int32) (f_generators : (Nat → Int32)) (o : Int32 × Int32 × (Nat → Int32)) (h : f_X4_copy s_n s_count s_generators f_n f_count f_generators = some o) (sz : Nat) : Met l yX4_copy (xW yX4_copy cX4_copy 2 none) { frames := 1, cells := 0, slots := 0, locals := 40 } (xPre dC dI (xT cI cZ cB cO) [.ref s_ad, .ref f_ad] ((wS cI cZ cB cO s_ad s_p s_n s_count s_generators) ++ (wS cI cZ cB cO f_ad f_p f_n f_count f_generators)) sz) (xQv dC dI (xT cI cZ cB cO) ((wS cI cZ cB cO s_ad s_p s_n s_count s_generators) ++ (wS cI cZ cB cO f_ad f_p f_n f_count f_generators)) ((wS cI cZ cB cO s_ad s_p o.1 o.2.1 o.2.2) ++ (wS cI cZ cB cO f_ad f_p f_n f_count f_generators)) sz) 0 0 (va_A ((wS cI cZ cB cO s_ad s_p s_n s_count s_generators) ++ (wS cI cZ cB cO f_ad f_p f_n f_count f_generators)) sz) := by
  refine x_met (by decide) (Nat.le_of_ble_eq_true rfl) ?_
  intro p e s m args below meth c R Q A hR hsz hA hQ hin C hw ls hl
  have hx := C.1
  have hb := C.2.1
  have hown := C.2.2.2.1
  have htb := C.2.2.2.2.1
  have hl : lv_has ls 2 [(0, .ref s_ad), (1, .ref f_ad)] := hl
  refine lv_aload_n hx hb dX4_copy_0 rfl (lv_at hl 0 rfl) ?_
  refine lv_aload_n hx hb dX4_copy_1 rfl (lv_at hl 1 rfl) ?_
  refine x_get (ci := 3) C hw inX4 rfl 0 (by decide) lkF_X4_9 rfl 2 rfl rfl dX4_copy_2 ?_
  refine x_put (ci := 3) C hw inX4 tyX4 tyX4_ok nmX4 rfl 0 (by decide) lkF_X4_9 rfl rfl 0 rfl rfl rfl (Nat.le_of_ble_eq_true rfl) dX4_copy_5 (fun H locs hw => ?_)
  have hw : xWd (dC, dI) A s.heap H locs ((wS cI cZ cB cO s_ad s_p f_n s_count s_generators) ++ (wS cI cZ cB cO f_ad f_p f_n f_count f_generators)) := hw
  refine lv_aload_n hx hb dX4_copy_8 rfl (lv_at hl 0 rfl) ?_
  refine lv_aload_n hx hb dX4_copy_9 rfl (lv_at hl 1 rfl) ?_
  refine x_get (ci := 3) C hw inX4 rfl 1 (by decide) lkF_X4_15 rfl 2 rfl rfl dX4_copy_10 ?_
  refine x_put (ci := 3) C hw inX4 tyX4 tyX4_ok nmX4 rfl 1 (by decide) lkF_X4_15 rfl rfl 0 rfl rfl rfl (Nat.le_of_ble_eq_true rfl) dX4_copy_13 (fun H locs hw => ?_)
  have hw : xWd (dC, dI) A s.heap H locs ((wS cI cZ cB cO s_ad s_p f_n f_count s_generators) ++ (wS cI cZ cB cO f_ad f_p f_n f_count f_generators)) := hw
  refine lv_aload_n hx hb dX4_copy_16 rfl (lv_at hl 1 rfl) ?_
  refine x_get (ci := 3) C hw inX4 rfl 2 (by decide) lkF_X4_18 rfl 2 rfl rfl dX4_copy_17 ?_
  refine lv_iconst (v := (0 : Int32)) hx hb dX4_copy_20 (by decide) ?_
  refine lv_aload_n hx hb dX4_copy_21 rfl (lv_at hl 0 rfl) ?_
  refine x_get (ci := 3) C hw inX4 rfl 2 (by decide) lkF_X4_18 rfl 0 rfl rfl dX4_copy_22 ?_
  refine lv_iconst (v := (0 : Int32)) hx hb dX4_copy_25 (by decide) ?_
  refine lv_iconst (v := (3 : Int32)) hx hb dX4_copy_26 (by decide) ?_
  refine x_copy (k := 3) C hw 3 1 rfl rfl rfl (by decide) (by decide) (by decide) (by decide) (by decide) (by decide) (Nat.le_of_ble_eq_true rfl) (Nat.le_of_ble_eq_true rfl) lkM_X4_25 (by rw [hR]; exact Nat.le_of_ble_eq_true rfl) (by rw [hR]; exact Nat.le_of_ble_eq_true rfl) hl.1 dX4_copy_27 (fun H locs hw => ?_)
  have hw : xWd (dC, dI) A s.heap H locs ((wS cI cZ cB cO s_ad s_p f_n f_count (va_cpy f_generators s_generators 0 0 3)) ++ (wS cI cZ cB cO f_ad f_p f_n f_count f_generators)) := hw
  obtain rfl := Option.some.inj h
  exact x_retv C hQ hA hw dX4_copy_30
noncomputable def f_X6_add (t_length : Int32) (t_bytes : (Nat → Int32)) (v1 : Int32) : Option (Int32 × (Nat → Int32)) := xb ((80 : Int32) ≤ t_length) (some (t_length, t_bytes)) (xk (vp_in t_length 80) (some ((t_length + (1 : Int32)), (upd t_bytes t_length.toNatClampNeg ((v1).toInt8.toInt32)))))
set_option maxHeartbeats 4000000 in
set_option maxRecDepth 100000 in
theorem c_X6_add (l : Launch) (dC : Nat → ClassId) (dI : Nat → Nat → Nat) (cI cZ cB cO : ClassId) (t_ad : Nat) (t_p : Nat → Nat) (t_length : Int32) (t_bytes : (Nat → Int32)) (v1 : Int32) (o : Int32 × (Nat → Int32)) (h : f_X6_add t_length t_bytes v1 = some o) (sz : Nat) : Met l yX6_add (xW yX6_add cX6_add 2 none) { frames := 0, cells := 0, slots := 0, locals := 0 } (xPre dC dI (xT cI cZ cB cO) [.ref t_ad, .int v1] (wT cI cZ cB cO t_ad t_p t_length t_bytes) sz) (xQv dC dI (xT cI cZ cB cO) (wT cI cZ cB cO t_ad t_p t_length t_bytes) (wT cI cZ cB cO t_ad t_p o.1 o.2) sz) 0 0 (va_A (wT cI cZ cB cO t_ad t_p t_length t_bytes) sz) := by
  refine x_met (by decide) (Nat.le_of_ble_eq_true rfl) ?_
  intro p e s m args below meth c R Q A hR hsz hA hQ hin C hw ls hl
  have hx := C.1
  have hb := C.2.1
  have hown := C.2.2.2.1
  have htb := C.2.2.2.2.1
  have hl : lv_has ls 2 [(0, .ref t_ad), (1, .int v1)] := hl
  refine lv_aload_n hx hb dX6_add_0 rfl (lv_at hl 0 rfl) ?_
  refine x_get (ci := 5) C hw inX6 rfl 0 (by decide) lkF_X6_9 rfl 0 rfl rfl dX6_add_1 ?_
  refine lv_bipush (v := (80 : Int32)) hx hb dX6_add_4 (by decide) ?_
  refine lv_icmp_ge (tgt := 30) hx hb dX6_add_6 (by decide) (fun b1 => ?_) (fun b1 => ?_)
  · replace h := xb_tt b1 h
    obtain rfl := Option.some.inj h
    exact x_retv C hQ hA hw dX6_add_30
  · replace h := xb_ff b1 h
    refine lv_aload_n hx hb dX6_add_9 rfl (lv_at hl 0 rfl) ?_
    refine x_get (ci := 5) C hw inX6 rfl 1 (by decide) lkF_X6_15 rfl 0 rfl rfl dX6_add_10 ?_
    refine lv_aload_n hx hb dX6_add_13 rfl (lv_at hl 0 rfl) ?_
    refine x_get (ci := 5) C hw inX6 rfl 0 (by decide) lkF_X6_9 rfl 0 rfl rfl dX6_add_14 ?_
    refine lv_iload_n hx hb dX6_add_17 rfl (lv_at hl 1 rfl) ?_
    refine lv_i2b hx hb dX6_add_18 rfl ?_
    obtain ⟨b2, h⟩ := xk_i h
    refine x_bast C hw 1 2 rfl rfl (pk_vb _) b2 dX6_add_19 (fun H locs hw => ?_)
    have hw : xWd (dC, dI) A s.heap H locs (wT cI cZ cB cO t_ad t_p t_length (upd t_bytes t_length.toNatClampNeg ((v1).toInt8.toInt32))) := hw
    refine lv_aload_n hx hb dX6_add_20 rfl (lv_at hl 0 rfl) ?_
    refine lv_dup hx hb dX6_add_21 rfl ?_
    refine x_get (ci := 5) C hw inX6 rfl 0 (by decide) lkF_X6_9 rfl 0 rfl rfl dX6_add_22 ?_
    refine lv_iconst (v := (1 : Int32)) hx hb dX6_add_25 (by decide) ?_
    refine lv_iadd hx hb dX6_add_26 ?_
    refine x_put (ci := 5) C hw inX6 tyX6 tyX6_ok nmX6 rfl 0 (by decide) lkF_X6_9 rfl rfl 0 rfl rfl rfl (Nat.le_of_ble_eq_true rfl) dX6_add_27 (fun H locs hw => ?_)
    have hw : xWd (dC, dI) A s.heap H locs (wT cI cZ cB cO t_ad t_p (t_length + (1 : Int32)) (upd t_bytes t_length.toNatClampNeg ((v1).toInt8.toInt32))) := hw
    obtain rfl := Option.some.inj h
    exact x_retv C hQ hA hw dX6_add_30
noncomputable def f_X6_at (t_length : Int32) (t_bytes : (Nat → Int32)) (v1 : Int32) : Option (Int32) := xb (v1 < 0) (some (-1 : Int32)) (xb (t_length ≤ v1) (some (-1 : Int32)) (xk (vp_in v1 80) (some (t_bytes v1.toNatClampNeg))))
set_option maxHeartbeats 4000000 in
set_option maxRecDepth 100000 in
theorem c_X6_at (l : Launch) (dC : Nat → ClassId) (dI : Nat → Nat → Nat) (cI cZ cB cO : ClassId) (t_ad : Nat) (t_p : Nat → Nat) (t_length : Int32) (t_bytes : (Nat → Int32)) (v1 : Int32) (o : Int32) (h : f_X6_at t_length t_bytes v1 = some o) (sz : Nat) : Met l yX6_at (xW yX6_at cX6_at 2 (some .int)) { frames := 0, cells := 0, slots := 0, locals := 0 } (xPre dC dI (xT cI cZ cB cO) [.ref t_ad, .int v1] (wT cI cZ cB cO t_ad t_p t_length t_bytes) sz) (xQi dC dI (xT cI cZ cB cO) o (wT cI cZ cB cO t_ad t_p t_length t_bytes) (wT cI cZ cB cO t_ad t_p t_length t_bytes) sz) 0 0 (va_A (wT cI cZ cB cO t_ad t_p t_length t_bytes) sz) := by
  refine x_met (by decide) (Nat.le_of_ble_eq_true rfl) ?_
  intro p e s m args below meth c R Q A hR hsz hA hQ hin C hw ls hl
  have hx := C.1
  have hb := C.2.1
  have hown := C.2.2.2.1
  have htb := C.2.2.2.2.1
  have hl : lv_has ls 2 [(0, .ref t_ad), (1, .int v1)] := hl
  refine lv_iload_n hx hb dX6_at_0 rfl (lv_at hl 1 rfl) ?_
  refine lv_if_lt (tgt := 21) hx hb dX6_at_1 (by decide) (fun b1 => ?_) (fun b1 => ?_)
  · replace h := xb_tt b1 h
    refine lv_iconst (v := (-1 : Int32)) hx hb dX6_at_21 (by decide) ?_
    obtain rfl := Option.some.inj h
    exact x_reti C hQ hA hw dX6_at_22
  · replace h := xb_ff b1 h
    refine lv_iload_n hx hb dX6_at_4 rfl (lv_at hl 1 rfl) ?_
    refine lv_aload_n hx hb dX6_at_5 rfl (lv_at hl 0 rfl) ?_
    refine x_get (ci := 5) C hw inX6 rfl 0 (by decide) lkF_X6_9 rfl 0 rfl rfl dX6_at_6 ?_
    refine lv_icmp_ge (tgt := 21) hx hb dX6_at_9 (by decide) (fun b2 => ?_) (fun b2 => ?_)
    · replace h := xb_tt b2 h
      refine lv_iconst (v := (-1 : Int32)) hx hb dX6_at_21 (by decide) ?_
      obtain rfl := Option.some.inj h
      exact x_reti C hQ hA hw dX6_at_22
    · replace h := xb_ff b2 h
      refine lv_aload_n hx hb dX6_at_12 rfl (lv_at hl 0 rfl) ?_
      refine x_get (ci := 5) C hw inX6 rfl 1 (by decide) lkF_X6_15 rfl 0 rfl rfl dX6_at_13 ?_
      refine lv_iload_n hx hb dX6_at_16 rfl (lv_at hl 1 rfl) ?_
      obtain ⟨b3, h⟩ := xk_i h
      refine x_bald C hw 1 2 rfl rfl b3 dX6_at_17 ?_
      refine lv_goto (tgt := 22) hx hb dX6_at_18 (by decide) ?_
      obtain rfl := Option.some.inj h
      exact x_reti C hQ hA hw dX6_at_22

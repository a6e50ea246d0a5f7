theorem dJ6_bitCount_0f7a4_0 : decode cJ6_bitCount_0f7a4 0 = .ok (.iload_n 0, 1) := by decide +kernel
theorem dJ6_bitCount_0f7a4_1 : decode cJ6_bitCount_0f7a4 1 = .ok (.iload_n 0, 1) := by decide +kernel
theorem dJ6_bitCount_0f7a4_2 : decode cJ6_bitCount_0f7a4 2 = .ok (.iconst 1, 1) := by decide +kernel
theorem dJ6_bitCount_0f7a4_3 : decode cJ6_bitCount_0f7a4 3 = .ok (.iushr, 1) := by decide +kernel
theorem dJ6_bitCount_0f7a4_4 : decode cJ6_bitCount_0f7a4 4 = .ok (.ldc_w 265, 3) := by decide +kernel
theorem dJ6_bitCount_0f7a4_7 : decode cJ6_bitCount_0f7a4 7 = .ok (.iand, 1) := by decide +kernel
theorem dJ6_bitCount_0f7a4_8 : decode cJ6_bitCount_0f7a4 8 = .ok (.isub, 1) := by decide +kernel
theorem dJ6_bitCount_0f7a4_9 : decode cJ6_bitCount_0f7a4 9 = .ok (.istore_n 0, 1) := by decide +kernel
theorem dJ6_bitCount_0f7a4_10 : decode cJ6_bitCount_0f7a4 10 = .ok (.iload_n 0, 1) := by decide +kernel
theorem dJ6_bitCount_0f7a4_11 : decode cJ6_bitCount_0f7a4 11 = .ok (.ldc_w 266, 3) := by decide +kernel
theorem dJ6_bitCount_0f7a4_14 : decode cJ6_bitCount_0f7a4 14 = .ok (.iand, 1) := by decide +kernel
theorem dJ6_bitCount_0f7a4_15 : decode cJ6_bitCount_0f7a4 15 = .ok (.iload_n 0, 1) := by decide +kernel
theorem dJ6_bitCount_0f7a4_16 : decode cJ6_bitCount_0f7a4 16 = .ok (.iconst 2, 1) := by decide +kernel
theorem dJ6_bitCount_0f7a4_17 : decode cJ6_bitCount_0f7a4 17 = .ok (.iushr, 1) := by decide +kernel
theorem dJ6_bitCount_0f7a4_18 : decode cJ6_bitCount_0f7a4 18 = .ok (.ldc_w 266, 3) := by decide +kernel
theorem dJ6_bitCount_0f7a4_21 : decode cJ6_bitCount_0f7a4 21 = .ok (.iand, 1) := by decide +kernel
theorem dJ6_bitCount_0f7a4_22 : decode cJ6_bitCount_0f7a4 22 = .ok (.iadd, 1) := by decide +kernel
theorem dJ6_bitCount_0f7a4_23 : decode cJ6_bitCount_0f7a4 23 = .ok (.istore_n 0, 1) := by decide +kernel
theorem dJ6_bitCount_0f7a4_24 : decode cJ6_bitCount_0f7a4 24 = .ok (.iload_n 0, 1) := by decide +kernel
theorem dJ6_bitCount_0f7a4_25 : decode cJ6_bitCount_0f7a4 25 = .ok (.iload_n 0, 1) := by decide +kernel
theorem dJ6_bitCount_0f7a4_26 : decode cJ6_bitCount_0f7a4 26 = .ok (.iconst 4, 1) := by decide +kernel
theorem dJ6_bitCount_0f7a4_27 : decode cJ6_bitCount_0f7a4 27 = .ok (.iushr, 1) := by decide +kernel
theorem dJ6_bitCount_0f7a4_28 : decode cJ6_bitCount_0f7a4 28 = .ok (.iadd, 1) := by decide +kernel
theorem dJ6_bitCount_0f7a4_29 : decode cJ6_bitCount_0f7a4 29 = .ok (.ldc_w 267, 3) := by decide +kernel
theorem dJ6_bitCount_0f7a4_32 : decode cJ6_bitCount_0f7a4 32 = .ok (.iand, 1) := by decide +kernel
theorem dJ6_bitCount_0f7a4_33 : decode cJ6_bitCount_0f7a4 33 = .ok (.istore_n 0, 1) := by decide +kernel
theorem dJ6_bitCount_0f7a4_34 : decode cJ6_bitCount_0f7a4 34 = .ok (.iload_n 0, 1) := by decide +kernel
theorem dJ6_bitCount_0f7a4_35 : decode cJ6_bitCount_0f7a4 35 = .ok (.iload_n 0, 1) := by decide +kernel
theorem dJ6_bitCount_0f7a4_36 : decode cJ6_bitCount_0f7a4 36 = .ok (.bipush 8, 2) := by decide +kernel
theorem dJ6_bitCount_0f7a4_38 : decode cJ6_bitCount_0f7a4 38 = .ok (.iushr, 1) := by decide +kernel
theorem dJ6_bitCount_0f7a4_39 : decode cJ6_bitCount_0f7a4 39 = .ok (.iadd, 1) := by decide +kernel
theorem dJ6_bitCount_0f7a4_40 : decode cJ6_bitCount_0f7a4 40 = .ok (.istore_n 0, 1) := by decide +kernel
theorem dJ6_bitCount_0f7a4_41 : decode cJ6_bitCount_0f7a4 41 = .ok (.iload_n 0, 1) := by decide +kernel
theorem dJ6_bitCount_0f7a4_42 : decode cJ6_bitCount_0f7a4 42 = .ok (.iload_n 0, 1) := by decide +kernel
theorem dJ6_bitCount_0f7a4_43 : decode cJ6_bitCount_0f7a4 43 = .ok (.bipush 16, 2) := by decide +kernel
theorem dJ6_bitCount_0f7a4_45 : decode cJ6_bitCount_0f7a4 45 = .ok (.iushr, 1) := by decide +kernel
theorem dJ6_bitCount_0f7a4_46 : decode cJ6_bitCount_0f7a4 46 = .ok (.iadd, 1) := by decide +kernel
theorem dJ6_bitCount_0f7a4_47 : decode cJ6_bitCount_0f7a4 47 = .ok (.istore_n 0, 1) := by decide +kernel
theorem dJ6_bitCount_0f7a4_48 : decode cJ6_bitCount_0f7a4 48 = .ok (.iload_n 0, 1) := by decide +kernel
theorem dJ6_bitCount_0f7a4_49 : decode cJ6_bitCount_0f7a4 49 = .ok (.bipush 63, 2) := by decide +kernel
theorem dJ6_bitCount_0f7a4_51 : decode cJ6_bitCount_0f7a4 51 = .ok (.iand, 1) := by decide +kernel
theorem dJ6_bitCount_0f7a4_52 : decode cJ6_bitCount_0f7a4 52 = .ok (.ireturn, 1) := by decide +kernel
def FJ6_bitCount_0f7a4_0  (x0 : Int) (f : Mm) : Option (Int × Mm) := some ((bAnd (w32 ((w32 ((bAnd (w32 ((w32 ((bAnd (w32 (x0 - (bAnd (bUshr x0 1) 1431655765))) 858993459) + (bAnd (bUshr (w32 (x0 - (bAnd (bUshr x0 1) 1431655765))) 2) 858993459))) + (bUshr (w32 ((bAnd (w32 (x0 - (bAnd (bUshr x0 1) 1431655765))) 858993459) + (bAnd (bUshr (w32 (x0 - (bAnd (bUshr x0 1) 1431655765))) 2) 858993459))) 4))) 252645135) + (bUshr (bAnd (w32 ((w32 ((bAnd (w32 (x0 - (bAnd (bUshr x0 1) 1431655765))) 858993459) + (bAnd (bUshr (w32 (x0 - (bAnd (bUshr x0 1) 1431655765))) 2) 858993459))) + (bUshr (w32 ((bAnd (w32 (x0 - (bAnd (bUshr x0 1) 1431655765))) 858993459) + (bAnd (bUshr (w32 (x0 - (bAnd (bUshr x0 1) 1431655765))) 2) 858993459))) 4))) 252645135) 8))) + (bUshr (w32 ((bAnd (w32 ((w32 ((bAnd (w32 (x0 - (bAnd (bUshr x0 1) 1431655765))) 858993459) + (bAnd (bUshr (w32 (x0 - (bAnd (bUshr x0 1) 1431655765))) 2) 858993459))) + (bUshr (w32 ((bAnd (w32 (x0 - (bAnd (bUshr x0 1) 1431655765))) 858993459) + (bAnd (bUshr (w32 (x0 - (bAnd (bUshr x0 1) 1431655765))) 2) 858993459))) 4))) 252645135) + (bUshr (bAnd (w32 ((w32 ((bAnd (w32 (x0 - (bAnd (bUshr x0 1) 1431655765))) 858993459) + (bAnd (bUshr (w32 (x0 - (bAnd (bUshr x0 1) 1431655765))) 2) 858993459))) + (bUshr (w32 ((bAnd (w32 (x0 - (bAnd (bUshr x0 1) 1431655765))) 858993459) + (bAnd (bUshr (w32 (x0 - (bAnd (bUshr x0 1) 1431655765))) 2) 858993459))) 4))) 252645135) 8))) 16))) 63), f)
set_option maxHeartbeats 4000000 in
set_option maxRecDepth 100000 in
theorem SJ6_bitCount_0f7a4_0 {G : GT} {l : Launch} {Q : Option AV → Mem → Prop}  (x0 : Int) (f : Mm) (h : OkI Q (FJ6_bitCount_0f7a4_0  x0 f)) : Ev G l MJ6_bitCount_0f7a4 (Rm 1 0 0) (ZM G Q 0 0) 0 0 0 [some (vI x0)] [] (SH, RF, f) := by
  unfold FJ6_bitCount_0f7a4_0 at h
  refine ev_iload_n (i := 0) dJ6_bitCount_0f7a4_0 rfl rfl ?_
  refine ev_iload_n (i := 0) dJ6_bitCount_0f7a4_1 rfl rfl ?_
  refine ev_iconst dJ6_bitCount_0f7a4_2 (r32c rfl) ?_
  refine ev_iushr dJ6_bitCount_0f7a4_3 ?_
  refine ev_ldcw (v := 1431655765) dJ6_bitCount_0f7a4_4 (r32c rfl) kc_J6_265 ?_
  refine ev_iand dJ6_bitCount_0f7a4_7 ?_
  refine ev_isub dJ6_bitCount_0f7a4_8 ?_
  refine ev_istore_n (i := 0) (L' := [some (vI (w32 (x0 - (bAnd (bUshr x0 1) 1431655765))))]) dJ6_bitCount_0f7a4_9 rfl (by decide) rfl ?_
  refine ev_iload_n (i := 0) dJ6_bitCount_0f7a4_10 rfl rfl ?_
  refine ev_ldcw (v := 858993459) dJ6_bitCount_0f7a4_11 (r32c rfl) kc_J6_266 ?_
  refine ev_iand dJ6_bitCount_0f7a4_14 ?_
  refine ev_iload_n (i := 0) dJ6_bitCount_0f7a4_15 rfl rfl ?_
  refine ev_iconst dJ6_bitCount_0f7a4_16 (r32c rfl) ?_
  refine ev_iushr dJ6_bitCount_0f7a4_17 ?_
  refine ev_ldcw (v := 858993459) dJ6_bitCount_0f7a4_18 (r32c rfl) kc_J6_266 ?_
  refine ev_iand dJ6_bitCount_0f7a4_21 ?_
  refine ev_iadd dJ6_bitCount_0f7a4_22 ?_
  refine ev_istore_n (i := 0) (L' := [some (vI (w32 ((bAnd (w32 (x0 - (bAnd (bUshr x0 1) 1431655765))) 858993459) + (bAnd (bUshr (w32 (x0 - (bAnd (bUshr x0 1) 1431655765))) 2) 858993459))))]) dJ6_bitCount_0f7a4_23 rfl (by decide) rfl ?_
  refine ev_iload_n (i := 0) dJ6_bitCount_0f7a4_24 rfl rfl ?_
  refine ev_iload_n (i := 0) dJ6_bitCount_0f7a4_25 rfl rfl ?_
  refine ev_iconst dJ6_bitCount_0f7a4_26 (r32c rfl) ?_
  refine ev_iushr dJ6_bitCount_0f7a4_27 ?_
  refine ev_iadd dJ6_bitCount_0f7a4_28 ?_
  refine ev_ldcw (v := 252645135) dJ6_bitCount_0f7a4_29 (r32c rfl) kc_J6_267 ?_
  refine ev_iand dJ6_bitCount_0f7a4_32 ?_
  refine ev_istore_n (i := 0) (L' := [some (vI (bAnd (w32 ((w32 ((bAnd (w32 (x0 - (bAnd (bUshr x0 1) 1431655765))) 858993459) + (bAnd (bUshr (w32 (x0 - (bAnd (bUshr x0 1) 1431655765))) 2) 858993459))) + (bUshr (w32 ((bAnd (w32 (x0 - (bAnd (bUshr x0 1) 1431655765))) 858993459) + (bAnd (bUshr (w32 (x0 - (bAnd (bUshr x0 1) 1431655765))) 2) 858993459))) 4))) 252645135))]) dJ6_bitCount_0f7a4_33 rfl (by decide) rfl ?_
  refine ev_iload_n (i := 0) dJ6_bitCount_0f7a4_34 rfl rfl ?_
  refine ev_iload_n (i := 0) dJ6_bitCount_0f7a4_35 rfl rfl ?_
  refine ev_bipush (v := 8) dJ6_bitCount_0f7a4_36 (r32c rfl) (by decide) ?_
  refine ev_iushr dJ6_bitCount_0f7a4_38 ?_
  refine ev_iadd dJ6_bitCount_0f7a4_39 ?_
  refine ev_istore_n (i := 0) (L' := [some (vI (w32 ((bAnd (w32 ((w32 ((bAnd (w32 (x0 - (bAnd (bUshr x0 1) 1431655765))) 858993459) + (bAnd (bUshr (w32 (x0 - (bAnd (bUshr x0 1) 1431655765))) 2) 858993459))) + (bUshr (w32 ((bAnd (w32 (x0 - (bAnd (bUshr x0 1) 1431655765))) 858993459) + (bAnd (bUshr (w32 (x0 - (bAnd (bUshr x0 1) 1431655765))) 2) 858993459))) 4))) 252645135) + (bUshr (bAnd (w32 ((w32 ((bAnd (w32 (x0 - (bAnd (bUshr x0 1) 1431655765))) 858993459) + (bAnd (bUshr (w32 (x0 - (bAnd (bUshr x0 1) 1431655765))) 2) 858993459))) + (bUshr (w32 ((bAnd (w32 (x0 - (bAnd (bUshr x0 1) 1431655765))) 858993459) + (bAnd (bUshr (w32 (x0 - (bAnd (bUshr x0 1) 1431655765))) 2) 858993459))) 4))) 252645135) 8))))]) dJ6_bitCount_0f7a4_40 rfl (by decide) rfl ?_
  refine ev_iload_n (i := 0) dJ6_bitCount_0f7a4_41 rfl rfl ?_
  refine ev_iload_n (i := 0) dJ6_bitCount_0f7a4_42 rfl rfl ?_
  refine ev_bipush (v := 16) dJ6_bitCount_0f7a4_43 (r32c rfl) (by decide) ?_
  refine ev_iushr dJ6_bitCount_0f7a4_45 ?_
  refine ev_iadd dJ6_bitCount_0f7a4_46 ?_
  refine ev_istore_n (i := 0) (L' := [some (vI (w32 ((w32 ((bAnd (w32 ((w32 ((bAnd (w32 (x0 - (bAnd (bUshr x0 1) 1431655765))) 858993459) + (bAnd (bUshr (w32 (x0 - (bAnd (bUshr x0 1) 1431655765))) 2) 858993459))) + (bUshr (w32 ((bAnd (w32 (x0 - (bAnd (bUshr x0 1) 1431655765))) 858993459) + (bAnd (bUshr (w32 (x0 - (bAnd (bUshr x0 1) 1431655765))) 2) 858993459))) 4))) 252645135) + (bUshr (bAnd (w32 ((w32 ((bAnd (w32 (x0 - (bAnd (bUshr x0 1) 1431655765))) 858993459) + (bAnd (bUshr (w32 (x0 - (bAnd (bUshr x0 1) 1431655765))) 2) 858993459))) + (bUshr (w32 ((bAnd (w32 (x0 - (bAnd (bUshr x0 1) 1431655765))) 858993459) + (bAnd (bUshr (w32 (x0 - (bAnd (bUshr x0 1) 1431655765))) 2) 858993459))) 4))) 252645135) 8))) + (bUshr (w32 ((bAnd (w32 ((w32 ((bAnd (w32 (x0 - (bAnd (bUshr x0 1) 1431655765))) 858993459) + (bAnd (bUshr (w32 (x0 - (bAnd (bUshr x0 1) 1431655765))) 2) 858993459))) + (bUshr (w32 ((bAnd (w32 (x0 - (bAnd (bUshr x0 1) 1431655765))) 858993459) + (bAnd (bUshr (w32 (x0 - (bAnd (bUshr x0 1) 1431655765))) 2) 858993459))) 4))) 252645135) + (bUshr (bAnd (w32 ((w32 ((bAnd (w32 (x0 - (bAnd (bUshr x0 1) 1431655765))) 858993459) + (bAnd (bUshr (w32 (x0 - (bAnd (bUshr x0 1) 1431655765))) 2) 858993459))) + (bUshr (w32 ((bAnd (w32 (x0 - (bAnd (bUshr x0 1) 1431655765))) 858993459) + (bAnd (bUshr (w32 (x0 - (bAnd (bUshr x0 1) 1431655765))) 2) 858993459))) 4))) 252645135) 8))) 16))))]) dJ6_bitCount_0f7a4_47 rfl (by decide) rfl ?_
  refine ev_iload_n (i := 0) dJ6_bitCount_0f7a4_48 rfl rfl ?_
  refine ev_bipush (v := 63) dJ6_bitCount_0f7a4_49 (r32c rfl) (by decide) ?_
  refine ev_iand dJ6_bitCount_0f7a4_51 ?_
  exact ev_iret rfl dJ6_bitCount_0f7a4_52 h
def FJ6_bitCount_0f7a4 (x0 : Int) (f : Mm) : Option (Int × Mm) := FJ6_bitCount_0f7a4_0 x0 f
theorem TJ6_bitCount_0f7a4 {G : GT} {l : Launch} {Q : Option AV → Mem → Prop} (x0 : Int) (f : Mm) (h : OkI Q (FJ6_bitCount_0f7a4 x0 f)) : Ret G l MJ6_bitCount_0f7a4 (1) 0 0 [vI x0] (SH, RF, f) Q := by
  refine ret_of (L := [some (vI x0)]) (by decide) rfl (Nat.le_of_ble_eq_true rfl) ?_
  exact SJ6_bitCount_0f7a4_0 x0 f h
theorem dX10_crowd_60 : decode cX10_crowd 60 = .ok (.iinc 4 1, 3) := by decide +kernel
theorem dX10_crowd_63 : decode cX10_crowd 63 = .ok (.goto (-38), 3) := by decide +kernel
theorem dX10_crowd_25 : decode cX10_crowd 25 = .ok (.iload 4, 2) := by decide +kernel
theorem dX10_crowd_27 : decode cX10_crowd 27 = .ok (.aload_n 0, 1) := by decide +kernel
theorem dX10_crowd_28 : decode cX10_crowd 28 = .ok (.getfield 19, 3) := by decide +kernel
theorem dX10_crowd_31 : decode cX10_crowd 31 = .ok (.getfield 144, 3) := by decide +kernel
theorem dX10_crowd_34 : decode cX10_crowd 34 = .ok (.if_icmp .ge 32, 3) := by decide +kernel
theorem dX10_crowd_66 : decode cX10_crowd 66 = .ok (.iload_n 2, 1) := by decide +kernel
theorem dX10_crowd_67 : decode cX10_crowd 67 = .ok (.ireturn, 1) := by decide +kernel
theorem dX10_crowd_37 : decode cX10_crowd 37 = .ok (.aload_n 1, 1) := by decide +kernel
theorem dX10_crowd_38 : decode cX10_crowd 38 = .ok (.iload 4, 2) := by decide +kernel
theorem dX10_crowd_40 : decode cX10_crowd 40 = .ok (.invokevirtual 151, 3) := by decide +kernel
theorem dX10_crowd_43 : decode cX10_crowd 43 = .ok (.invokestatic 212, 3) := by decide +kernel
theorem dX10_crowd_46 : decode cX10_crowd 46 = .ok (.istore 5, 2) := by decide +kernel
theorem dX10_crowd_48 : decode cX10_crowd 48 = .ok (.iload 5, 2) := by decide +kernel
theorem dX10_crowd_50 : decode cX10_crowd 50 = .ok (.iload_n 3, 1) := by decide +kernel
theorem dX10_crowd_51 : decode cX10_crowd 51 = .ok (.if_icmp .le 9, 3) := by decide +kernel
theorem dX10_crowd_54 : decode cX10_crowd 54 = .ok (.iload 5, 2) := by decide +kernel
theorem dX10_crowd_56 : decode cX10_crowd 56 = .ok (.istore_n 3, 1) := by decide +kernel
theorem dX10_crowd_57 : decode cX10_crowd 57 = .ok (.iload 4, 2) := by decide +kernel
theorem dX10_crowd_59 : decode cX10_crowd 59 = .ok (.istore_n 2, 1) := by decide +kernel
theorem dX10_crowd_0 : decode cX10_crowd 0 = .ok (.aload_n 0, 1) := by decide +kernel
theorem dX10_crowd_1 : decode cX10_crowd 1 = .ok (.getfield 19, 3) := by decide +kernel
theorem dX10_crowd_4 : decode cX10_crowd 4 = .ok (.invokevirtual 140, 3) := by decide +kernel
theorem dX10_crowd_7 : decode cX10_crowd 7 = .ok (.ifCond .ne 6, 3) := by decide +kernel
theorem dX10_crowd_13 : decode cX10_crowd 13 = .ok (.aload_n 0, 1) := by decide +kernel
theorem dX10_crowd_14 : decode cX10_crowd 14 = .ok (.invokevirtual 129, 3) := by decide +kernel
theorem dX10_crowd_17 : decode cX10_crowd 17 = .ok (.astore_n 1, 1) := by decide +kernel
theorem dX10_crowd_18 : decode cX10_crowd 18 = .ok (.iconst (-1), 1) := by decide +kernel
theorem dX10_crowd_19 : decode cX10_crowd 19 = .ok (.istore_n 2, 1) := by decide +kernel
theorem dX10_crowd_20 : decode cX10_crowd 20 = .ok (.iconst 0, 1) := by decide +kernel
theorem dX10_crowd_21 : decode cX10_crowd 21 = .ok (.istore_n 3, 1) := by decide +kernel
theorem dX10_crowd_22 : decode cX10_crowd 22 = .ok (.iconst 0, 1) := by decide +kernel
theorem dX10_crowd_23 : decode cX10_crowd 23 = .ok (.istore 4, 2) := by decide +kernel
theorem dX10_crowd_10 : decode cX10_crowd 10 = .ok (.bipush (-2), 2) := by decide +kernel
theorem dX10_crowd_12 : decode cX10_crowd 12 = .ok (.ireturn, 1) := by decide +kernel
def FX10_crowd_60 (k25 : Int → Int → Int → Mm → Option (Int × Mm)) (x2 : Int) (x3 : Int) (x4 : Int) (f : Mm) : Option (Int × Mm) := k25 x2 x3 (w32 (x4 + 1)) f
set_option maxHeartbeats 4000000 in
set_option maxRecDepth 100000 in
theorem SX10_crowd_60 {G : GT} {l : Launch} {Q : Option AV → Mem → Prop} {k25 : Int → Int → Int → Mm → Option (Int × Mm)} (q25 : ∀ (x2 : Int) (x3 : Int) (x4 : Int) (f : Mm), OkI Q (k25 x2 x3 x4 f) → Ev G l MX10_crowd (Rm 6 0 0) (ZM G Q 0 0) 0 0 25 [some (vR 0), some (vR 48), some (vI x2), some (vI x3), some (vI x4), none] [] (SH, RF, f)) (x2 : Int) (x3 : Int) (x4 : Int) (f : Mm) (h : OkI Q (FX10_crowd_60 k25 x2 x3 x4 f)) : Ev G l MX10_crowd (Rm 6 0 0) (ZM G Q 0 0) 0 0 60 [some (vR 0), some (vR 48), some (vI x2), some (vI x3), some (vI x4), none] [] (SH, RF, f) := by
  unfold FX10_crowd_60 at h
  refine ev_iinc (L' := [some (vR 0), some (vR 48), some (vI x2), some (vI x3), some (vI (w32 (x4 + 1))), none]) dX10_crowd_60 rfl (by decide) rfl ?_
  refine ev_goto (tgt := 25) dX10_crowd_63 (by decide) ?_
  exact q25 x2 x3 (w32 (x4 + 1)) _ h
def FX10_crowd_25  : Nat → Int → Int → Int → Mm → Option (Int × Mm)
  | 0, _, _, _, _ => none
  | n + 1, x2, x3, x4, f => (if (f 4 1) ≤ x4 then some (x2, f) else (b2 (FX1_passedOn x4 f) fun y1 f1 => (b2 (FJ6_bitCount_0f7a4 y1 f1) fun y2 f2 => (if y2 ≤ x3 then FX10_crowd_60 (FX10_crowd_25 n) x2 x3 x4 f2 else FX10_crowd_60 (FX10_crowd_25 n) x4 y2 x4 f2))))
set_option maxHeartbeats 4000000 in
set_option maxRecDepth 100000 in
theorem SX10_crowd_25 {G : GT} {l : Launch} {Q : Option AV → Mem → Prop}  : ∀ (n : Nat) (x2 : Int) (x3 : Int) (x4 : Int) (f : Mm), OkI Q (FX10_crowd_25  n x2 x3 x4 f) → Ev G l MX10_crowd (Rm 6 0 0) (ZM G Q 0 0) 0 0 25 [some (vR 0), some (vR 48), some (vI x2), some (vI x3), some (vI x4), none] [] (SH, RF, f) := by
  intro n
  induction n with
  | zero => intro x2 x3 x4 f h; exact absurd h (by rw [FX10_crowd_25]; exact fun q => q)
  | succ n ih =>
    intro x2 x3 x4 f h
    rw [FX10_crowd_25] at h
    refine ev_iload dX10_crowd_25 rfl ?_
    refine ev_aload_n (i := 0) dX10_crowd_27 rfl rfl ?_
    refine ev_getR dX10_crowd_28 fl_X10_19 sh_0 (by decide) (by decide) rf_0_1 ?_
    refine ex_getI (x := (f 4 1)) dX10_crowd_31 fl_X10_144 sh_4 (by decide) (by decide) rfl ?_
    refine ev_icmp_ge (tgt := 66) dX10_crowd_34 (by decide) (fun c4 => ?_) (fun c4 => ?_)
    · rw [if_pos c4] at h
      refine ev_iload_n (i := 2) dX10_crowd_66 rfl rfl ?_
      exact ev_iret rfl dX10_crowd_67 h
    · rw [if_neg c4] at h
      refine ev_aload_n (i := 1) dX10_crowd_37 rfl rfl ?_
      refine ev_iload dX10_crowd_38 rfl ?_
      refine ev_cVI (b := 48) (av := [vI x4]) (S := []) (fun q => q) h dX10_crowd_40 (fun Q' q => TX1_passedOn x4 _ q) kvX1_passedOn ml_X10_151 sh_48 rfl (RRc (by decide) (by decide)) (Nat.le_of_ble_eq_true rfl) ⟨Nat.le_of_ble_eq_true rfl, Nat.le_of_ble_eq_true rfl⟩ (fun y1 f1 h => ?_)
      refine ev_cSI (av := [vI y1]) (S := []) (fun q => q) h dX10_crowd_43 (fun Q' q => TJ6_bitCount_0f7a4 y1 _ q) ksJ6_bitCount_0f7a4 ml_X10_212 rfl (RRc (by decide) (by decide)) (Nat.le_of_ble_eq_true rfl) ⟨Nat.le_of_ble_eq_true rfl, Nat.le_of_ble_eq_true rfl⟩ (fun y2 f2 h => ?_)
      refine ev_istore (L' := [some (vR 0), some (vR 48), some (vI x2), some (vI x3), some (vI x4), some (vI y2)]) dX10_crowd_46 (by decide) rfl ?_
      refine ev_iload dX10_crowd_48 rfl ?_
      refine ev_iload_n (i := 3) dX10_crowd_50 rfl rfl ?_
      refine ev_icmp_le (tgt := 60) dX10_crowd_51 (by decide) (fun c3 => ?_) (fun c3 => ?_)
      · rw [if_pos c3] at h
        refine ev_fg [true, true, true, true, true, false] rfl ?_
        exact SX10_crowd_60 ih x2 x3 x4 _ h
      · rw [if_neg c3] at h
        refine ev_iload dX10_crowd_54 rfl ?_
        refine ev_istore_n (i := 3) (L' := [some (vR 0), some (vR 48), some (vI x2), some (vI y2), some (vI x4), some (vI y2)]) dX10_crowd_56 rfl (by decide) rfl ?_
        refine ev_iload dX10_crowd_57 rfl ?_
        refine ev_istore_n (i := 2) (L' := [some (vR 0), some (vR 48), some (vI x4), some (vI y2), some (vI x4), some (vI y2)]) dX10_crowd_59 rfl (by decide) rfl ?_
        refine ev_fg [true, true, true, true, true, false] rfl ?_
        exact SX10_crowd_60 ih x4 y2 x4 _ h
def FX10_crowd_0   (f : Mm) : Option (Int × Mm) := (b2 (FX0_stands_4 f) fun y1 f1 => (if y1 = 0 then some ((-2), f1) else ((FX10_asNow f1).bind fun f2 => FX10_crowd_25 fu (-1) 0 0 f2)))
set_option maxHeartbeats 4000000 in
set_option maxRecDepth 100000 in
theorem SX10_crowd_0 {G : GT} {l : Launch} {Q : Option AV → Mem → Prop}   (f : Mm) (h : OkI Q (FX10_crowd_0   f)) : Ev G l MX10_crowd (Rm 6 0 0) (ZM G Q 0 0) 0 0 0 [some (vR 0), none, none, none, none, none] [] (SH, RF, f) := by
  unfold FX10_crowd_0 at h
  refine ev_aload_n (i := 0) dX10_crowd_0 rfl rfl ?_
  refine ev_getR dX10_crowd_1 fl_X10_19 sh_0 (by decide) (by decide) rf_0_1 ?_
  refine ev_cVI (b := 4) (av := []) (S := []) (fun q => q) h dX10_crowd_4 (fun Q' q => TX0_stands_4 _ q) kvX0_stands ml_X10_140 sh_4 rfl (RRc (by decide) (by decide)) (Nat.le_of_ble_eq_true rfl) ⟨Nat.le_of_ble_eq_true rfl, Nat.le_of_ble_eq_true rfl⟩ (fun y1 f1 h => ?_)
  refine ev_if_ne (tgt := 13) dX10_crowd_7 (by decide) (fun c3 => ?_) (fun c3 => ?_)
  · rw [if_neg c3] at h
    refine ev_aload_n (i := 0) dX10_crowd_13 rfl rfl ?_
    refine ev_cVC (b := 0) (av := []) (S := []) (fun q => q) h dX10_crowd_14 (fun Q' q => TX10_asNow _ q) kvX10_asNow ml_X10_129 sh_0 rfl (RRc (by decide) (by decide)) (Nat.le_of_ble_eq_true rfl) ⟨Nat.le_of_ble_eq_true rfl, Nat.le_of_ble_eq_true rfl⟩ (fun f2 h => ?_)
    refine ev_astore_n (i := 1) (L' := [some (vR 0), some (vR 48), none, none, none, none]) dX10_crowd_17 rfl (by decide) rfl ?_
    refine ev_iconst dX10_crowd_18 (r32c rfl) ?_
    refine ev_istore_n (i := 2) (L' := [some (vR 0), some (vR 48), some (vI (-1)), none, none, none]) dX10_crowd_19 rfl (by decide) rfl ?_
    refine ev_iconst dX10_crowd_20 (r32c rfl) ?_
    refine ev_istore_n (i := 3) (L' := [some (vR 0), some (vR 48), some (vI (-1)), some (vI 0), none, none]) dX10_crowd_21 rfl (by decide) rfl ?_
    refine ev_iconst dX10_crowd_22 (r32c rfl) ?_
    refine ev_istore (L' := [some (vR 0), some (vR 48), some (vI (-1)), some (vI 0), some (vI 0), none]) dX10_crowd_23 (by decide) rfl ?_
    exact SX10_crowd_25  fu (-1) 0 0 _ h
  · rw [if_pos c3] at h
    refine ev_bipush (v := (-2)) dX10_crowd_10 (r32c rfl) (by decide) ?_
    exact ev_iret rfl dX10_crowd_12 h
def FX10_crowd  (f : Mm) : Option (Int × Mm) := FX10_crowd_0  f
theorem TX10_crowd {G : GT} {l : Launch} {Q : Option AV → Mem → Prop}  (f : Mm) (h : OkI Q (FX10_crowd  f)) : Ret G l MX10_crowd (6) 0 0 [vR 0] (SH, RF, f) Q := by
  refine ret_of (L := [some (vR 0), none, none, none, none, none]) (by decide) rfl (Nat.le_of_ble_eq_true rfl) ?_
  exact SX10_crowd_0  f h
theorem dX10_late_0 : decode cX10_late 0 = .ok (.aload_n 0, 1) := by decide +kernel
theorem dX10_late_1 : decode cX10_late 1 = .ok (.getfield 19, 3) := by decide +kernel
theorem dX10_late_4 : decode cX10_late 4 = .ok (.invokevirtual 140, 3) := by decide +kernel
theorem dX10_late_7 : decode cX10_late 7 = .ok (.ifCond .ne 6, 3) := by decide +kernel
theorem dX10_late_13 : decode cX10_late 13 = .ok (.aload_n 0, 1) := by decide +kernel
theorem dX10_late_14 : decode cX10_late 14 = .ok (.invokevirtual 129, 3) := by decide +kernel
theorem dX10_late_17 : decode cX10_late 17 = .ok (.astore_n 1, 1) := by decide +kernel
theorem dX10_late_18 : decode cX10_late 18 = .ok (.aload_n 1, 1) := by decide +kernel
theorem dX10_late_19 : decode cX10_late 19 = .ok (.aload_n 0, 1) := by decide +kernel
theorem dX10_late_20 : decode cX10_late 20 = .ok (.getfield 19, 3) := by decide +kernel
theorem dX10_late_23 : decode cX10_late 23 = .ok (.invokevirtual 172, 3) := by decide +kernel
theorem dX10_late_26 : decode cX10_late 26 = .ok (.aload_n 1, 1) := by decide +kernel
theorem dX10_late_27 : decode cX10_late 27 = .ok (.aload_n 0, 1) := by decide +kernel
theorem dX10_late_28 : decode cX10_late 28 = .ok (.getfield 19, 3) := by decide +kernel
theorem dX10_late_31 : decode cX10_late 31 = .ok (.invokevirtual 176, 3) := by decide +kernel
theorem dX10_late_34 : decode cX10_late 34 = .ok (.iconst (-1), 1) := by decide +kernel
theorem dX10_late_35 : decode cX10_late 35 = .ok (.ixor, 1) := by decide +kernel
theorem dX10_late_36 : decode cX10_late 36 = .ok (.iand, 1) := by decide +kernel
theorem dX10_late_37 : decode cX10_late 37 = .ok (.ireturn, 1) := by decide +kernel
theorem dX10_late_10 : decode cX10_late 10 = .ok (.bipush (-2), 2) := by decide +kernel
theorem dX10_late_12 : decode cX10_late 12 = .ok (.ireturn, 1) := by decide +kernel
def FX10_late_0   (f : Mm) : Option (Int × Mm) := (b2 (FX0_stands_4 f) fun y1 f1 => (if y1 = 0 then some ((-2), f1) else ((FX10_asNow f1).bind fun f2 => (b2 (FX1_passedBits_48_4 f2) fun y3 f3 => (b2 (FX1_keptBits_48_4 f3) fun y4 f4 => some ((bAnd y3 (bXor y4 (-1))), f4))))))
set_option maxHeartbeats 4000000 in
set_option maxRecDepth 100000 in
theorem SX10_late_0 {G : GT} {l : Launch} {Q : Option AV → Mem → Prop}   (f : Mm) (h : OkI Q (FX10_late_0   f)) : Ev G l MX10_late (Rm 6 0 0) (ZM G Q 0 0) 0 0 0 [some (vR 0), none] [] (SH, RF, f) := by
  unfold FX10_late_0 at h
  refine ev_aload_n (i := 0) dX10_late_0 rfl rfl ?_
  refine ev_getR dX10_late_1 fl_X10_19 sh_0 (by decide) (by decide) rf_0_1 ?_
  refine ev_cVI (b := 4) (av := []) (S := []) (fun q => q) h dX10_late_4 (fun Q' q => TX0_stands_4 _ q) kvX0_stands ml_X10_140 sh_4 rfl (RRc (by decide) (by decide)) (Nat.le_of_ble_eq_true rfl) ⟨Nat.le_of_ble_eq_true rfl, Nat.le_of_ble_eq_true rfl⟩ (fun y1 f1 h => ?_)
  refine ev_if_ne (tgt := 13) dX10_late_7 (by decide) (fun c5 => ?_) (fun c5 => ?_)
  · rw [if_neg c5] at h
    refine ev_aload_n (i := 0) dX10_late_13 rfl rfl ?_
    refine ev_cVC (b := 0) (av := []) (S := []) (fun q => q) h dX10_late_14 (fun Q' q => TX10_asNow _ q) kvX10_asNow ml_X10_129 sh_0 rfl (RRc (by decide) (by decide)) (Nat.le_of_ble_eq_true rfl) ⟨Nat.le_of_ble_eq_true rfl, Nat.le_of_ble_eq_true rfl⟩ (fun f2 h => ?_)
    refine ev_astore_n (i := 1) (L' := [some (vR 0), some (vR 48)]) dX10_late_17 rfl (by decide) rfl ?_
    refine ev_aload_n (i := 1) dX10_late_18 rfl rfl ?_
    refine ev_aload_n (i := 0) dX10_late_19 rfl rfl ?_
    refine ev_getR dX10_late_20 fl_X10_19 sh_0 (by decide) (by decide) rf_0_1 ?_
    refine ev_cVI (b := 48) (av := [vR 4]) (S := []) (fun q => q) h dX10_late_23 (fun Q' q => TX1_passedBits_48_4 _ q) kvX1_passedBits ml_X10_172 sh_48 rfl (RRc (by decide) (by decide)) (Nat.le_of_ble_eq_true rfl) ⟨Nat.le_of_ble_eq_true rfl, Nat.le_of_ble_eq_true rfl⟩ (fun y3 f3 h => ?_)
    refine ev_aload_n (i := 1) dX10_late_26 rfl rfl ?_
    refine ev_aload_n (i := 0) dX10_late_27 rfl rfl ?_
    refine ev_getR dX10_late_28 fl_X10_19 sh_0 (by decide) (by decide) rf_0_1 ?_
    refine ev_cVI (b := 48) (av := [vR 4]) (S := [vI y3]) (fun q => q) h dX10_late_31 (fun Q' q => TX1_keptBits_48_4 _ q) kvX1_keptBits ml_X10_176 sh_48 rfl (RRc (by decide) (by decide)) (Nat.le_of_ble_eq_true rfl) ⟨Nat.le_of_ble_eq_true rfl, Nat.le_of_ble_eq_true rfl⟩ (fun y4 f4 h => ?_)
    refine ev_iconst dX10_late_34 (r32c rfl) ?_
    refine ev_ixor dX10_late_35 ?_
    refine ev_iand dX10_late_36 ?_
    exact ev_iret rfl dX10_late_37 h
  · rw [if_pos c5] at h
    refine ev_bipush (v := (-2)) dX10_late_10 (r32c rfl) (by decide) ?_
    exact ev_iret rfl dX10_late_12 h
def FX10_late  (f : Mm) : Option (Int × Mm) := FX10_late_0  f
theorem TX10_late {G : GT} {l : Launch} {Q : Option AV → Mem → Prop}  (f : Mm) (h : OkI Q (FX10_late  f)) : Ret G l MX10_late (6) 0 0 [vR 0] (SH, RF, f) Q := by
  refine ret_of (L := [some (vR 0), none]) (by decide) rfl (Nat.le_of_ble_eq_true rfl) ?_
  exact SX10_late_0  f h
theorem dX10_delay_67 : decode cX10_delay 67 = .ok (.iinc 3 1, 3) := by decide +kernel
theorem dX10_delay_70 : decode cX10_delay 70 = .ok (.goto (-48), 3) := by decide +kernel
theorem dX10_delay_22 : decode cX10_delay 22 = .ok (.iload_n 3, 1) := by decide +kernel
theorem dX10_delay_23 : decode cX10_delay 23 = .ok (.aload_n 0, 1) := by decide +kernel
theorem dX10_delay_24 : decode cX10_delay 24 = .ok (.getfield 19, 3) := by decide +kernel
theorem dX10_delay_27 : decode cX10_delay 27 = .ok (.getfield 161, 3) := by decide +kernel
theorem dX10_delay_30 : decode cX10_delay 30 = .ok (.if_icmp .ge 43, 3) := by decide +kernel
theorem dX10_delay_73 : decode cX10_delay 73 = .ok (.iload_n 2, 1) := by decide +kernel
theorem dX10_delay_74 : decode cX10_delay 74 = .ok (.ireturn, 1) := by decide +kernel
theorem dX10_delay_33 : decode cX10_delay 33 = .ok (.aload_n 1, 1) := by decide +kernel
theorem dX10_delay_34 : decode cX10_delay 34 = .ok (.aload_n 0, 1) := by decide +kernel
theorem dX10_delay_35 : decode cX10_delay 35 = .ok (.getfield 19, 3) := by decide +kernel
theorem dX10_delay_38 : decode cX10_delay 38 = .ok (.iload_n 3, 1) := by decide +kernel
theorem dX10_delay_39 : decode cX10_delay 39 = .ok (.invokevirtual 147, 3) := by decide +kernel
theorem dX10_delay_42 : decode cX10_delay 42 = .ok (.istore 4, 2) := by decide +kernel
theorem dX10_delay_44 : decode cX10_delay 44 = .ok (.iload 4, 2) := by decide +kernel
theorem dX10_delay_46 : decode cX10_delay 46 = .ok (.iconst (-1), 1) := by decide +kernel
theorem dX10_delay_47 : decode cX10_delay 47 = .ok (.if_icmp .eq 20, 3) := by decide +kernel
theorem dX10_delay_50 : decode cX10_delay 50 = .ok (.iload_n 2, 1) := by decide +kernel
theorem dX10_delay_51 : decode cX10_delay 51 = .ok (.iload 4, 2) := by decide +kernel
theorem dX10_delay_53 : decode cX10_delay 53 = .ok (.aload_n 0, 1) := by decide +kernel
theorem dX10_delay_54 : decode cX10_delay 54 = .ok (.getfield 19, 3) := by decide +kernel
theorem dX10_delay_57 : decode cX10_delay 57 = .ok (.getfield 120, 3) := by decide +kernel
theorem dX10_delay_60 : decode cX10_delay 60 = .ok (.iload_n 3, 1) := by decide +kernel
theorem dX10_delay_61 : decode cX10_delay 61 = .ok (.aaload, 1) := by decide +kernel
theorem dX10_delay_62 : decode cX10_delay 62 = .ok (.iconst 2, 1) := by decide +kernel
theorem dX10_delay_63 : decode cX10_delay 63 = .ok (.iaload, 1) := by decide +kernel
theorem dX10_delay_64 : decode cX10_delay 64 = .ok (.isub, 1) := by decide +kernel
theorem dX10_delay_65 : decode cX10_delay 65 = .ok (.iadd, 1) := by decide +kernel
theorem dX10_delay_66 : decode cX10_delay 66 = .ok (.istore_n 2, 1) := by decide +kernel
theorem dX10_delay_0 : decode cX10_delay 0 = .ok (.aload_n 0, 1) := by decide +kernel
theorem dX10_delay_1 : decode cX10_delay 1 = .ok (.getfield 19, 3) := by decide +kernel
theorem dX10_delay_4 : decode cX10_delay 4 = .ok (.invokevirtual 140, 3) := by decide +kernel
theorem dX10_delay_7 : decode cX10_delay 7 = .ok (.ifCond .ne 6, 3) := by decide +kernel
theorem dX10_delay_13 : decode cX10_delay 13 = .ok (.aload_n 0, 1) := by decide +kernel
theorem dX10_delay_14 : decode cX10_delay 14 = .ok (.invokevirtual 129, 3) := by decide +kernel
theorem dX10_delay_17 : decode cX10_delay 17 = .ok (.astore_n 1, 1) := by decide +kernel
theorem dX10_delay_18 : decode cX10_delay 18 = .ok (.iconst 0, 1) := by decide +kernel
theorem dX10_delay_19 : decode cX10_delay 19 = .ok (.istore_n 2, 1) := by decide +kernel
theorem dX10_delay_20 : decode cX10_delay 20 = .ok (.iconst 0, 1) := by decide +kernel
theorem dX10_delay_21 : decode cX10_delay 21 = .ok (.istore_n 3, 1) := by decide +kernel
theorem dX10_delay_10 : decode cX10_delay 10 = .ok (.bipush (-2), 2) := by decide +kernel
theorem dX10_delay_12 : decode cX10_delay 12 = .ok (.ireturn, 1) := by decide +kernel
def FX10_delay_67 (k22 : Int → Int → Mm → Option (Int × Mm)) (x2 : Int) (x3 : Int) (f : Mm) : Option (Int × Mm) := k22 x2 (w32 (x3 + 1)) f
set_option maxHeartbeats 4000000 in
set_option maxRecDepth 100000 in
theorem SX10_delay_67 {G : GT} {l : Launch} {Q : Option AV → Mem → Prop} {k22 : Int → Int → Mm → Option (Int × Mm)} (q22 : ∀ (x2 : Int) (x3 : Int) (f : Mm), OkI Q (k22 x2 x3 f) → Ev G l MX10_delay (Rm 6 0 0) (ZM G Q 0 0) 0 0 22 [some (vR 0), some (vR 48), some (vI x2), some (vI x3), none] [] (SH, RF, f)) (x2 : Int) (x3 : Int) (f : Mm) (h : OkI Q (FX10_delay_67 k22 x2 x3 f)) : Ev G l MX10_delay (Rm 6 0 0) (ZM G Q 0 0) 0 0 67 [some (vR 0), some (vR 48), some (vI x2), some (vI x3), none] [] (SH, RF, f) := by
  unfold FX10_delay_67 at h
  refine ev_iinc (L' := [some (vR 0), some (vR 48), some (vI x2), some (vI (w32 (x3 + 1))), none]) dX10_delay_67 rfl (by decide) rfl ?_
  refine ev_goto (tgt := 22) dX10_delay_70 (by decide) ?_
  exact q22 x2 (w32 (x3 + 1)) _ h
def FX10_delay_22  : Nat → Int → Int → Mm → Option (Int × Mm)
  | 0, _, _, _ => none
  | n + 1, x2, x3, f => (if (f 4 5) ≤ x3 then some (x2, f) else (b2 (FX1_dayOf_48_4 x3 f) fun y1 f1 => (if y1 = (-1) then FX10_delay_67 (FX10_delay_22 n) x2 x3 f1 else (if 0 ≤ x3 ∧ x3 < 6 then FX10_delay_67 (FX10_delay_22 n) (w32 (x2 + (w32 (y1 - (f1 (12 + x3.toNat) 2))))) x3 f1 else none))))
set_option maxHeartbeats 4000000 in
set_option maxRecDepth 100000 in
theorem SX10_delay_22 {G : GT} {l : Launch} {Q : Option AV → Mem → Prop}  : ∀ (n : Nat) (x2 : Int) (x3 : Int) (f : Mm), OkI Q (FX10_delay_22  n x2 x3 f) → Ev G l MX10_delay (Rm 6 0 0) (ZM G Q 0 0) 0 0 22 [some (vR 0), some (vR 48), some (vI x2), some (vI x3), none] [] (SH, RF, f) := by
  intro n
  induction n with
  | zero => intro x2 x3 f h; exact absurd h (by rw [FX10_delay_22]; exact fun q => q)
  | succ n ih =>
    intro x2 x3 f h
    rw [FX10_delay_22] at h
    refine ev_iload_n (i := 3) dX10_delay_22 rfl rfl ?_
    refine ev_aload_n (i := 0) dX10_delay_23 rfl rfl ?_
    refine ev_getR dX10_delay_24 fl_X10_19 sh_0 (by decide) (by decide) rf_0_1 ?_
    refine ex_getI (x := (f 4 5)) dX10_delay_27 fl_X10_161 sh_4 (by decide) (by decide) rfl ?_
    refine ev_icmp_ge (tgt := 73) dX10_delay_30 (by decide) (fun c4 => ?_) (fun c4 => ?_)
    · rw [if_pos c4] at h
      refine ev_iload_n (i := 2) dX10_delay_73 rfl rfl ?_
      exact ev_iret rfl dX10_delay_74 h
    · rw [if_neg c4] at h
      refine ev_aload_n (i := 1) dX10_delay_33 rfl rfl ?_
      refine ev_aload_n (i := 0) dX10_delay_34 rfl rfl ?_
      refine ev_getR dX10_delay_35 fl_X10_19 sh_0 (by decide) (by decide) rf_0_1 ?_
      refine ev_iload_n (i := 3) dX10_delay_38 rfl rfl ?_
      refine ev_cVI (b := 48) (av := [vR 4, vI x3]) (S := []) (fun q => q) h dX10_delay_39 (fun Q' q => TX1_dayOf_48_4 x3 _ q) kvX1_dayOf ml_X10_147 sh_48 rfl (RRc (by decide) (by decide)) (Nat.le_of_ble_eq_true rfl) ⟨Nat.le_of_ble_eq_true rfl, Nat.le_of_ble_eq_true rfl⟩ (fun y1 f1 h => ?_)
      refine ev_istore (L' := [some (vR 0), some (vR 48), some (vI x2), some (vI x3), some (vI y1)]) dX10_delay_42 (by decide) rfl ?_
      refine ev_iload dX10_delay_44 rfl ?_
      refine ev_iconst dX10_delay_46 (r32c rfl) ?_
      refine ev_icmp_eq (tgt := 67) dX10_delay_47 (by decide) (fun c3 => ?_) (fun c3 => ?_)
      · rw [if_pos c3] at h
        refine ev_fg [true, true, true, true, false] rfl ?_
        exact SX10_delay_67 ih x2 x3 _ h
      · rw [if_neg c3] at h
        refine ev_iload_n (i := 2) dX10_delay_50 rfl rfl ?_
        refine ev_iload dX10_delay_51 rfl ?_
        refine ev_aload_n (i := 0) dX10_delay_53 rfl rfl ?_
        refine ev_getR dX10_delay_54 fl_X10_19 sh_0 (by decide) (by decide) rf_0_1 ?_
        refine ev_getR dX10_delay_57 fl_X10_120 sh_4 (by decide) (by decide) rf_4_9 ?_
        refine ev_iload_n (i := 3) dX10_delay_60 rfl rfl ?_
        by_cases g2 : 0 ≤ x3 ∧ x3 < 6
        · rw [if_pos g2] at h
          refine ev_aald (b := (12 + x3.toNat)) dX10_delay_61 (Or.inl rfl) sh_11 g2.1 g2.2 (rfr_11 g2) ?_
          refine ev_iconst dX10_delay_62 (r32c rfl) ?_
          refine ex_iald (x := (f1 (12 + x3.toNat) 2)) dX10_delay_63 (shr_11 g2) (by decide) (by decide) rfl ?_
          refine ev_isub dX10_delay_64 ?_
          refine ev_iadd dX10_delay_65 ?_
          refine ev_istore_n (i := 2) (L' := [some (vR 0), some (vR 48), some (vI (w32 (x2 + (w32 (y1 - (f1 (12 + x3.toNat) 2)))))), some (vI x3), some (vI y1)]) dX10_delay_66 rfl (by decide) rfl ?_
          refine ev_fg [true, true, true, true, false] rfl ?_
          exact SX10_delay_67 ih (w32 (x2 + (w32 (y1 - (f1 (12 + x3.toNat) 2))))) x3 _ h
        · rw [if_neg g2] at h; exact h.elim
def FX10_delay_0   (f : Mm) : Option (Int × Mm) := (b2 (FX0_stands_4 f) fun y1 f1 => (if y1 = 0 then some ((-2), f1) else ((FX10_asNow f1).bind fun f2 => FX10_delay_22 fu 0 0 f2)))
set_option maxHeartbeats 4000000 in
set_option maxRecDepth 100000 in
theorem SX10_delay_0 {G : GT} {l : Launch} {Q : Option AV → Mem → Prop}   (f : Mm) (h : OkI Q (FX10_delay_0   f)) : Ev G l MX10_delay (Rm 6 0 0) (ZM G Q 0 0) 0 0 0 [some (vR 0), none, none, none, none] [] (SH, RF, f) := by
  unfold FX10_delay_0 at h
  refine ev_aload_n (i := 0) dX10_delay_0 rfl rfl ?_
  refine ev_getR dX10_delay_1 fl_X10_19 sh_0 (by decide) (by decide) rf_0_1 ?_
  refine ev_cVI (b := 4) (av := []) (S := []) (fun q => q) h dX10_delay_4 (fun Q' q => TX0_stands_4 _ q) kvX0_stands ml_X10_140 sh_4 rfl (RRc (by decide) (by decide)) (Nat.le_of_ble_eq_true rfl) ⟨Nat.le_of_ble_eq_true rfl, Nat.le_of_ble_eq_true rfl⟩ (fun y1 f1 h => ?_)
  refine ev_if_ne (tgt := 13) dX10_delay_7 (by decide) (fun c3 => ?_) (fun c3 => ?_)
  · rw [if_neg c3] at h
    refine ev_aload_n (i := 0) dX10_delay_13 rfl rfl ?_
    refine ev_cVC (b := 0) (av := []) (S := []) (fun q => q) h dX10_delay_14 (fun Q' q => TX10_asNow _ q) kvX10_asNow ml_X10_129 sh_0 rfl (RRc (by decide) (by decide)) (Nat.le_of_ble_eq_true rfl) ⟨Nat.le_of_ble_eq_true rfl, Nat.le_of_ble_eq_true rfl⟩ (fun f2 h => ?_)
    refine ev_astore_n (i := 1) (L' := [some (vR 0), some (vR 48), none, none, none]) dX10_delay_17 rfl (by decide) rfl ?_
    refine ev_iconst dX10_delay_18 (r32c rfl) ?_
    refine ev_istore_n (i := 2) (L' := [some (vR 0), some (vR 48), some (vI 0), none, none]) dX10_delay_19 rfl (by decide) rfl ?_
    refine ev_iconst dX10_delay_20 (r32c rfl) ?_
    refine ev_istore_n (i := 3) (L' := [some (vR 0), some (vR 48), some (vI 0), some (vI 0), none]) dX10_delay_21 rfl (by decide) rfl ?_
    exact SX10_delay_22  fu 0 0 _ h
  · rw [if_pos c3] at h
    refine ev_bipush (v := (-2)) dX10_delay_10 (r32c rfl) (by decide) ?_
    exact ev_iret rfl dX10_delay_12 h
def FX10_delay  (f : Mm) : Option (Int × Mm) := FX10_delay_0  f
theorem TX10_delay {G : GT} {l : Launch} {Q : Option AV → Mem → Prop}  (f : Mm) (h : OkI Q (FX10_delay  f)) : Ret G l MX10_delay (6) 0 0 [vR 0] (SH, RF, f) Q := by
  refine ret_of (L := [some (vR 0), none, none, none, none]) (by decide) rfl (Nat.le_of_ble_eq_true rfl) ?_
  exact SX10_delay_0  f h
theorem dX10_toll_0 : decode cX10_toll 0 = .ok (.aload_n 0, 1) := by decide +kernel
theorem dX10_toll_1 : decode cX10_toll 1 = .ok (.getfield 19, 3) := by decide +kernel
theorem dX10_toll_4 : decode cX10_toll 4 = .ok (.iload_n 1, 1) := by decide +kernel
theorem dX10_toll_5 : decode cX10_toll 5 = .ok (.invokevirtual 126, 3) := by decide +kernel
theorem dX10_toll_8 : decode cX10_toll 8 = .ok (.ifCond .eq 21, 3) := by decide +kernel
theorem dX10_toll_29 : decode cX10_toll 29 = .ok (.bipush (-2), 2) := by decide +kernel
theorem dX10_toll_31 : decode cX10_toll 31 = .ok (.ireturn, 1) := by decide +kernel
theorem dX10_toll_11 : decode cX10_toll 11 = .ok (.aload_n 0, 1) := by decide +kernel
theorem dX10_toll_12 : decode cX10_toll 12 = .ok (.getfield 19, 3) := by decide +kernel
theorem dX10_toll_15 : decode cX10_toll 15 = .ok (.aload_n 0, 1) := by decide +kernel
theorem dX10_toll_16 : decode cX10_toll 16 = .ok (.invokevirtual 129, 3) := by decide +kernel
theorem dX10_toll_19 : decode cX10_toll 19 = .ok (.iload_n 1, 1) := by decide +kernel
theorem dX10_toll_20 : decode cX10_toll 20 = .ok (.invokevirtual 151, 3) := by decide +kernel
theorem dX10_toll_23 : decode cX10_toll 23 = .ok (.invokevirtual 179, 3) := by decide +kernel
theorem dX10_toll_26 : decode cX10_toll 26 = .ok (.goto 5, 3) := by decide +kernel
def FX10_toll_0  (x1 : Int) (f : Mm) : Option (Int × Mm) := (b2 (FX0_hasDay_4 x1 f) fun y1 f1 => (if y1 = 0 then some ((-2), f1) else ((FX10_asNow f1).bind fun f2 => (b2 (FX1_passedOn x1 f2) fun y3 f3 => (b2 (FX0_payOf_4 y3 f3) fun y4 f4 => some (y4, f4))))))
set_option maxHeartbeats 4000000 in
set_option maxRecDepth 100000 in
theorem SX10_toll_0 {G : GT} {l : Launch} {Q : Option AV → Mem → Prop}  (x1 : Int) (f : Mm) (h : OkI Q (FX10_toll_0  x1 f)) : Ev G l MX10_toll (Rm 6 0 0) (ZM G Q 0 0) 0 0 0 [some (vR 0), some (vI x1)] [] (SH, RF, f) := by
  unfold FX10_toll_0 at h
  refine ev_aload_n (i := 0) dX10_toll_0 rfl rfl ?_
  refine ev_getR dX10_toll_1 fl_X10_19 sh_0 (by decide) (by decide) rf_0_1 ?_
  refine ev_iload_n (i := 1) dX10_toll_4 rfl rfl ?_
  refine ev_cVI (b := 4) (av := [vI x1]) (S := []) (fun q => q) h dX10_toll_5 (fun Q' q => TX0_hasDay_4 x1 _ q) kvX0_hasDay ml_X10_126 sh_4 rfl (RRc (by decide) (by decide)) (Nat.le_of_ble_eq_true rfl) ⟨Nat.le_of_ble_eq_true rfl, Nat.le_of_ble_eq_true rfl⟩ (fun y1 f1 h => ?_)
  refine ev_if_eq (tgt := 29) dX10_toll_8 (by decide) (fun c5 => ?_) (fun c5 => ?_)
  · rw [if_pos c5] at h
    refine ev_bipush (v := (-2)) dX10_toll_29 (r32c rfl) (by decide) ?_
    exact ev_iret rfl dX10_toll_31 h
  · rw [if_neg c5] at h
    refine ev_aload_n (i := 0) dX10_toll_11 rfl rfl ?_
    refine ev_getR dX10_toll_12 fl_X10_19 sh_0 (by decide) (by decide) rf_0_1 ?_
    refine ev_aload_n (i := 0) dX10_toll_15 rfl rfl ?_
    refine ev_cVC (b := 0) (av := []) (S := [vR 4]) (fun q => q) h dX10_toll_16 (fun Q' q => TX10_asNow _ q) kvX10_asNow ml_X10_129 sh_0 rfl (RRc (by decide) (by decide)) (Nat.le_of_ble_eq_true rfl) ⟨Nat.le_of_ble_eq_true rfl, Nat.le_of_ble_eq_true rfl⟩ (fun f2 h => ?_)
    refine ev_iload_n (i := 1) dX10_toll_19 rfl rfl ?_
    refine ev_cVI (b := 48) (av := [vI x1]) (S := [vR 4]) (fun q => q) h dX10_toll_20 (fun Q' q => TX1_passedOn x1 _ q) kvX1_passedOn ml_X10_151 sh_48 rfl (RRc (by decide) (by decide)) (Nat.le_of_ble_eq_true rfl) ⟨Nat.le_of_ble_eq_true rfl, Nat.le_of_ble_eq_true rfl⟩ (fun y3 f3 h => ?_)
    refine ev_cVI (b := 4) (av := [vI y3]) (S := []) (fun q => q) h dX10_toll_23 (fun Q' q => TX0_payOf_4 y3 _ q) kvX0_payOf ml_X10_179 sh_4 rfl (RRc (by decide) (by decide)) (Nat.le_of_ble_eq_true rfl) ⟨Nat.le_of_ble_eq_true rfl, Nat.le_of_ble_eq_true rfl⟩ (fun y4 f4 h => ?_)
    refine ev_goto (tgt := 31) dX10_toll_26 (by decide) ?_
    exact ev_iret rfl dX10_toll_31 h
def FX10_toll (x1 : Int) (f : Mm) : Option (Int × Mm) := FX10_toll_0 x1 f
theorem TX10_toll {G : GT} {l : Launch} {Q : Option AV → Mem → Prop} (x1 : Int) (f : Mm) (h : OkI Q (FX10_toll x1 f)) : Ret G l MX10_toll (6) 0 0 [vR 0, vI x1] (SH, RF, f) Q := by
  refine ret_of (L := [some (vR 0), some (vI x1)]) (by decide) rfl (Nat.le_of_ble_eq_true rfl) ?_
  exact SX10_toll_0 x1 f h
theorem dJ9_abs_0f7a4_0 : decode cJ9_abs_0f7a4 0 = .ok (.iload_n 0, 1) := by decide +kernel
theorem dJ9_abs_0f7a4_1 : decode cJ9_abs_0f7a4 1 = .ok (.ifCond .ge 8, 3) := by decide +kernel
theorem dJ9_abs_0f7a4_9 : decode cJ9_abs_0f7a4 9 = .ok (.iload_n 0, 1) := by decide +kernel
theorem dJ9_abs_0f7a4_10 : decode cJ9_abs_0f7a4 10 = .ok (.ireturn, 1) := by decide +kernel
theorem dJ9_abs_0f7a4_4 : decode cJ9_abs_0f7a4 4 = .ok (.iload_n 0, 1) := by decide +kernel
theorem dJ9_abs_0f7a4_5 : decode cJ9_abs_0f7a4 5 = .ok (.ineg, 1) := by decide +kernel
theorem dJ9_abs_0f7a4_6 : decode cJ9_abs_0f7a4 6 = .ok (.goto 4, 3) := by decide +kernel
def FJ9_abs_0f7a4_0  (x0 : Int) (f : Mm) : Option (Int × Mm) := (if 0 ≤ x0 then some (x0, f) else some ((w32 (-x0)), f))
set_option maxHeartbeats 4000000 in
set_option maxRecDepth 100000 in
theorem SJ9_abs_0f7a4_0 {G : GT} {l : Launch} {Q : Option AV → Mem → Prop}  (x0 : Int) (f : Mm) (h : OkI Q (FJ9_abs_0f7a4_0  x0 f)) : Ev G l MJ9_abs_0f7a4 (Rm 1 0 0) (ZM G Q 0 0) 0 0 0 [some (vI x0)] [] (SH, RF, f) := by
  unfold FJ9_abs_0f7a4_0 at h
  refine ev_iload_n (i := 0) dJ9_abs_0f7a4_0 rfl rfl ?_
  refine ev_if_ge (tgt := 9) dJ9_abs_0f7a4_1 (by decide) (fun c1 => ?_) (fun c1 => ?_)
  · rw [if_pos c1] at h
    refine ev_iload_n (i := 0) dJ9_abs_0f7a4_9 rfl rfl ?_
    exact ev_iret rfl dJ9_abs_0f7a4_10 h
  · rw [if_neg c1] at h
    refine ev_iload_n (i := 0) dJ9_abs_0f7a4_4 rfl rfl ?_
    refine ev_ineg dJ9_abs_0f7a4_5 ?_
    refine ev_goto (tgt := 10) dJ9_abs_0f7a4_6 (by decide) ?_
    exact ev_iret rfl dJ9_abs_0f7a4_10 h
def FJ9_abs_0f7a4 (x0 : Int) (f : Mm) : Option (Int × Mm) := FJ9_abs_0f7a4_0 x0 f
theorem TJ9_abs_0f7a4 {G : GT} {l : Launch} {Q : Option AV → Mem → Prop} (x0 : Int) (f : Mm) (h : OkI Q (FJ9_abs_0f7a4 x0 f)) : Ret G l MJ9_abs_0f7a4 (1) 0 0 [vI x0] (SH, RF, f) Q := by
  refine ret_of (L := [some (vI x0)]) (by decide) rfl (Nat.le_of_ble_eq_true rfl) ?_
  exact SJ9_abs_0f7a4_0 x0 f h
theorem dX10_gap_0 : decode cX10_gap 0 = .ok (.aload_n 0, 1) := by decide +kernel
theorem dX10_gap_1 : decode cX10_gap 1 = .ok (.getfield 19, 3) := by decide +kernel
theorem dX10_gap_4 : decode cX10_gap 4 = .ok (.iload_n 1, 1) := by decide +kernel
theorem dX10_gap_5 : decode cX10_gap 5 = .ok (.invokevirtual 126, 3) := by decide +kernel
theorem dX10_gap_8 : decode cX10_gap 8 = .ok (.ifCond .ne 6, 3) := by decide +kernel
theorem dX10_gap_14 : decode cX10_gap 14 = .ok (.aload_n 0, 1) := by decide +kernel
theorem dX10_gap_15 : decode cX10_gap 15 = .ok (.invokevirtual 129, 3) := by decide +kernel
theorem dX10_gap_18 : decode cX10_gap 18 = .ok (.astore_n 2, 1) := by decide +kernel
theorem dX10_gap_19 : decode cX10_gap 19 = .ok (.aload_n 2, 1) := by decide +kernel
theorem dX10_gap_20 : decode cX10_gap 20 = .ok (.getfield 133, 3) := by decide +kernel
theorem dX10_gap_23 : decode cX10_gap 23 = .ok (.iconst 0, 1) := by decide +kernel
theorem dX10_gap_24 : decode cX10_gap 24 = .ok (.aaload, 1) := by decide +kernel
theorem dX10_gap_25 : decode cX10_gap 25 = .ok (.iload_n 1, 1) := by decide +kernel
theorem dX10_gap_26 : decode cX10_gap 26 = .ok (.iaload, 1) := by decide +kernel
theorem dX10_gap_27 : decode cX10_gap 27 = .ok (.aload_n 2, 1) := by decide +kernel
theorem dX10_gap_28 : decode cX10_gap 28 = .ok (.getfield 133, 3) := by decide +kernel
theorem dX10_gap_31 : decode cX10_gap 31 = .ok (.iconst 1, 1) := by decide +kernel
theorem dX10_gap_32 : decode cX10_gap 32 = .ok (.aaload, 1) := by decide +kernel
theorem dX10_gap_33 : decode cX10_gap 33 = .ok (.iload_n 1, 1) := by decide +kernel
theorem dX10_gap_34 : decode cX10_gap 34 = .ok (.iaload, 1) := by decide +kernel
theorem dX10_gap_35 : decode cX10_gap 35 = .ok (.isub, 1) := by decide +kernel
theorem dX10_gap_36 : decode cX10_gap 36 = .ok (.invokestatic 217, 3) := by decide +kernel
theorem dX10_gap_39 : decode cX10_gap 39 = .ok (.ireturn, 1) := by decide +kernel
theorem dX10_gap_11 : decode cX10_gap 11 = .ok (.bipush (-2), 2) := by decide +kernel
theorem dX10_gap_13 : decode cX10_gap 13 = .ok (.ireturn, 1) := by decide +kernel
def FX10_gap_0  (x1 : Int) (f : Mm) : Option (Int × Mm) := (b2 (FX0_hasDay_4 x1 f) fun y1 f1 => (if y1 = 0 then some ((-2), f1) else ((FX10_asNow f1).bind fun f2 => (if 0 ≤ x1 ∧ x1 < 6 then (if 0 ≤ x1 ∧ x1 < 6 then (b2 (FJ9_abs_0f7a4 (w32 ((f2 52 x1.toNat) - (f2 53 x1.toNat))) f2) fun y5 f5 => some (y5, f5)) else none) else none))))
set_option maxHeartbeats 4000000 in
set_option maxRecDepth 100000 in
theorem SX10_gap_0 {G : GT} {l : Launch} {Q : Option AV → Mem → Prop}  (x1 : Int) (f : Mm) (h : OkI Q (FX10_gap_0  x1 f)) : Ev G l MX10_gap (Rm 6 0 0) (ZM G Q 0 0) 0 0 0 [some (vR 0), some (vI x1), none] [] (SH, RF, f) := by
  unfold FX10_gap_0 at h
  refine ev_aload_n (i := 0) dX10_gap_0 rfl rfl ?_
  refine ev_getR dX10_gap_1 fl_X10_19 sh_0 (by decide) (by decide) rf_0_1 ?_
  refine ev_iload_n (i := 1) dX10_gap_4 rfl rfl ?_
  refine ev_cVI (b := 4) (av := [vI x1]) (S := []) (fun q => q) h dX10_gap_5 (fun Q' q => TX0_hasDay_4 x1 _ q) kvX0_hasDay ml_X10_126 sh_4 rfl (RRc (by decide) (by decide)) (Nat.le_of_ble_eq_true rfl) ⟨Nat.le_of_ble_eq_true rfl, Nat.le_of_ble_eq_true rfl⟩ (fun y1 f1 h => ?_)
  refine ev_if_ne (tgt := 14) dX10_gap_8 (by decide) (fun c6 => ?_) (fun c6 => ?_)
  · rw [if_neg c6] at h
    refine ev_aload_n (i := 0) dX10_gap_14 rfl rfl ?_
    refine ev_cVC (b := 0) (av := []) (S := []) (fun q => q) h dX10_gap_15 (fun Q' q => TX10_asNow _ q) kvX10_asNow ml_X10_129 sh_0 rfl (RRc (by decide) (by decide)) (Nat.le_of_ble_eq_true rfl) ⟨Nat.le_of_ble_eq_true rfl, Nat.le_of_ble_eq_true rfl⟩ (fun f2 h => ?_)
    refine ev_astore_n (i := 2) (L' := [some (vR 0), some (vI x1), some (vR 48)]) dX10_gap_18 rfl (by decide) rfl ?_
    refine ev_aload_n (i := 2) dX10_gap_19 rfl rfl ?_
    refine ev_getR dX10_gap_20 fl_X10_133 sh_48 (by decide) (by decide) rf_48_6 ?_
    refine ev_iconst dX10_gap_23 (r32c rfl) ?_
    refine ev_aald (b := 52) dX10_gap_24 (Or.inl rfl) sh_51 (by decide) (by decide) (rfd_51 0 (by decide)) ?_
    refine ev_iload_n (i := 1) dX10_gap_25 rfl rfl ?_
    by_cases g3 : 0 ≤ x1 ∧ x1 < 6
    · rw [if_pos g3] at h
      refine ex_iald (x := (f2 52 x1.toNat)) dX10_gap_26 sh_52 g3.1 g3.2 rfl ?_
      refine ev_aload_n (i := 2) dX10_gap_27 rfl rfl ?_
      refine ev_getR dX10_gap_28 fl_X10_133 sh_48 (by decide) (by decide) rf_48_6 ?_
      refine ev_iconst dX10_gap_31 (r32c rfl) ?_
      refine ev_aald (b := 53) dX10_gap_32 (Or.inl rfl) sh_51 (by decide) (by decide) (rfd_51 1 (by decide)) ?_
      refine ev_iload_n (i := 1) dX10_gap_33 rfl rfl ?_
      by_cases g4 : 0 ≤ x1 ∧ x1 < 6
      · rw [if_pos g4] at h
        refine ex_iald (x := (f2 53 x1.toNat)) dX10_gap_34 sh_53 g4.1 g4.2 rfl ?_
        refine ev_isub dX10_gap_35 ?_
        refine ev_cSI (av := [vI (w32 ((f2 52 x1.toNat) - (f2 53 x1.toNat)))]) (S := []) (fun q => q) h dX10_gap_36 (fun Q' q => TJ9_abs_0f7a4 (w32 ((f2 52 x1.toNat) - (f2 53 x1.toNat))) _ q) ksJ9_abs_0f7a4 ml_X10_217 rfl (RRc (by decide) (by decide)) (Nat.le_of_ble_eq_true rfl) ⟨Nat.le_of_ble_eq_true rfl, Nat.le_of_ble_eq_true rfl⟩ (fun y5 f5 h => ?_)
        exact ev_iret rfl dX10_gap_39 h
      · rw [if_neg g4] at h; exact h.elim
    · rw [if_neg g3] at h; exact h.elim
  · rw [if_pos c6] at h
    refine ev_bipush (v := (-2)) dX10_gap_11 (r32c rfl) (by decide) ?_
    exact ev_iret rfl dX10_gap_13 h
def FX10_gap (x1 : Int) (f : Mm) : Option (Int × Mm) := FX10_gap_0 x1 f
theorem TX10_gap {G : GT} {l : Launch} {Q : Option AV → Mem → Prop} (x1 : Int) (f : Mm) (h : OkI Q (FX10_gap x1 f)) : Ret G l MX10_gap (6) 0 0 [vR 0, vI x1] (SH, RF, f) Q := by
  refine ret_of (L := [some (vR 0), some (vI x1), none]) (by decide) rfl (Nat.le_of_ble_eq_true rfl) ?_
  exact SX10_gap_0 x1 f h
theorem dX1_feelThrough_2 : decode cX1_feelThrough 2 = .ok (.iload_n 3, 1) := by decide +kernel
theorem dX1_feelThrough_3 : decode cX1_feelThrough 3 = .ok (.iload_n 2, 1) := by decide +kernel
theorem dX1_feelThrough_4 : decode cX1_feelThrough 4 = .ok (.if_icmp .gt 21, 3) := by decide +kernel
theorem dX1_feelThrough_25 : decode cX1_feelThrough 25 = .ok (.return_, 1) := by decide +kernel
theorem dX1_feelThrough_7 : decode cX1_feelThrough 7 = .ok (.iload_n 3, 1) := by decide +kernel
theorem dX1_feelThrough_8 : decode cX1_feelThrough 8 = .ok (.bipush 6, 2) := by decide +kernel
theorem dX1_feelThrough_10 : decode cX1_feelThrough 10 = .ok (.if_icmp .ge 15, 3) := by decide +kernel
theorem dX1_feelThrough_13 : decode cX1_feelThrough 13 = .ok (.aload_n 0, 1) := by decide +kernel
theorem dX1_feelThrough_14 : decode cX1_feelThrough 14 = .ok (.aload_n 1, 1) := by decide +kernel
theorem dX1_feelThrough_15 : decode cX1_feelThrough 15 = .ok (.iload_n 3, 1) := by decide +kernel
theorem dX1_feelThrough_16 : decode cX1_feelThrough 16 = .ok (.invokevirtual 54, 3) := by decide +kernel
theorem dX1_feelThrough_19 : decode cX1_feelThrough 19 = .ok (.iinc 3 1, 3) := by decide +kernel
theorem dX1_feelThrough_22 : decode cX1_feelThrough 22 = .ok (.goto (-20), 3) := by decide +kernel
theorem dX1_feelThrough_0 : decode cX1_feelThrough 0 = .ok (.iconst 0, 1) := by decide +kernel
theorem dX1_feelThrough_1 : decode cX1_feelThrough 1 = .ok (.istore_n 3, 1) := by decide +kernel
def FX1_feelThrough_48_4_2  : Nat → Int → Int → Mm → Option Mm
  | 0, _, _, _ => none
  | n + 1, x2, x3, f => (if x2 < x3 then some f else (if 6 ≤ x3 then some f else ((FX1_feelDay_48_4 x3 f).bind fun f1 => FX1_feelThrough_48_4_2 n x2 (w32 (x3 + 1)) f1)))
set_option maxHeartbeats 4000000 in
set_option maxRecDepth 100000 in
theorem SX1_feelThrough_48_4_2 {G : GT} {l : Launch} {Q : Option AV → Mem → Prop}  : ∀ (n : Nat) (x2 : Int) (x3 : Int) (f : Mm), OkV Q (FX1_feelThrough_48_4_2  n x2 x3 f) → Ev G l MX1_feelThrough (Rm 4 0 0) (ZM G Q 0 0) 0 0 2 [some (vR 48), some (vR 4), some (vI x2), some (vI x3)] [] (SH, RF, f) := by
  intro n
  induction n with
  | zero => intro x2 x3 f h; exact absurd h (by rw [FX1_feelThrough_48_4_2]; exact fun q => q)
  | succ n ih =>
    intro x2 x3 f h
    rw [FX1_feelThrough_48_4_2] at h
    refine ev_iload_n (i := 3) dX1_feelThrough_2 rfl rfl ?_
    refine ev_iload_n (i := 2) dX1_feelThrough_3 rfl rfl ?_
    refine ev_icmp_gt (tgt := 25) dX1_feelThrough_4 (by decide) (fun c3 => ?_) (fun c3 => ?_)
    · rw [if_pos c3] at h
      exact ev_vret rfl dX1_feelThrough_25 h
    · rw [if_neg c3] at h
      refine ev_iload_n (i := 3) dX1_feelThrough_7 rfl rfl ?_
      refine ev_bipush (v := 6) dX1_feelThrough_8 (r32c rfl) (by decide) ?_
      refine ev_icmp_ge (tgt := 25) dX1_feelThrough_10 (by decide) (fun c2 => ?_) (fun c2 => ?_)
      · rw [if_pos c2] at h
        exact ev_vret rfl dX1_feelThrough_25 h
      · rw [if_neg c2] at h
        refine ev_aload_n (i := 0) dX1_feelThrough_13 rfl rfl ?_
        refine ev_aload_n (i := 1) dX1_feelThrough_14 rfl rfl ?_
        refine ev_iload_n (i := 3) dX1_feelThrough_15 rfl rfl ?_
        refine ev_cVV (b := 48) (av := [vR 4, vI x3]) (S := []) (fun q => q) h dX1_feelThrough_16 (fun Q' q => TX1_feelDay_48_4 x3 _ q) kvX1_feelDay ml_X1_54 sh_48 rfl (RRc (by decide) (by decide)) (Nat.le_of_ble_eq_true rfl) ⟨Nat.le_of_ble_eq_true rfl, Nat.le_of_ble_eq_true rfl⟩ (fun f1 h => ?_)
        refine ev_iinc (L' := [some (vR 48), some (vR 4), some (vI x2), some (vI (w32 (x3 + 1)))]) dX1_feelThrough_19 rfl (by decide) rfl ?_
        refine ev_goto (tgt := 2) dX1_feelThrough_22 (by decide) ?_
        exact ih x2 (w32 (x3 + 1)) _ h
def FX1_feelThrough_48_4_0  (x2 : Int) (f : Mm) : Option Mm := FX1_feelThrough_48_4_2 fu x2 0 f
set_option maxHeartbeats 4000000 in
set_option maxRecDepth 100000 in
theorem SX1_feelThrough_48_4_0 {G : GT} {l : Launch} {Q : Option AV → Mem → Prop}  (x2 : Int) (f : Mm) (h : OkV Q (FX1_feelThrough_48_4_0  x2 f)) : Ev G l MX1_feelThrough (Rm 4 0 0) (ZM G Q 0 0) 0 0 0 [some (vR 48), some (vR 4), some (vI x2), none] [] (SH, RF, f) := by
  unfold FX1_feelThrough_48_4_0 at h
  refine ev_iconst dX1_feelThrough_0 (r32c rfl) ?_
  refine ev_istore_n (i := 3) (L' := [some (vR 48), some (vR 4), some (vI x2), some (vI 0)]) dX1_feelThrough_1 rfl (by decide) rfl ?_
  exact SX1_feelThrough_48_4_2  fu x2 0 _ h
def FX1_feelThrough_48_4 (x2 : Int) (f : Mm) : Option Mm := FX1_feelThrough_48_4_0 x2 f
theorem TX1_feelThrough_48_4 {G : GT} {l : Launch} {Q : Option AV → Mem → Prop} (x2 : Int) (f : Mm) (h : OkV Q (FX1_feelThrough_48_4 x2 f)) : Ret G l MX1_feelThrough (4) 0 0 [vR 48, vR 4, vI x2] (SH, RF, f) Q := by
  refine ret_of (L := [some (vR 48), some (vR 4), some (vI x2), none]) (by decide) rfl (Nat.le_of_ble_eq_true rfl) ?_
  exact SX1_feelThrough_48_4_0 x2 f h
theorem dX10_kind_87 : decode cX10_kind 87 = .ok (.iinc 4 1, 3) := by decide +kernel
theorem dX10_kind_90 : decode cX10_kind 90 = .ok (.goto (-62), 3) := by decide +kernel
theorem dX10_kind_28 : decode cX10_kind 28 = .ok (.iload 4, 2) := by decide +kernel
theorem dX10_kind_30 : decode cX10_kind 30 = .ok (.aload_n 0, 1) := by decide +kernel
theorem dX10_kind_31 : decode cX10_kind 31 = .ok (.getfield 19, 3) := by decide +kernel
theorem dX10_kind_34 : decode cX10_kind 34 = .ok (.getfield 220, 3) := by decide +kernel
theorem dX10_kind_37 : decode cX10_kind 37 = .ok (.if_icmp .ge 56, 3) := by decide +kernel
theorem dX10_kind_93 : decode cX10_kind 93 = .ok (.iload_n 2, 1) := by decide +kernel
theorem dX10_kind_94 : decode cX10_kind 94 = .ok (.ireturn, 1) := by decide +kernel
theorem dX10_kind_40 : decode cX10_kind 40 = .ok (.aload_n 0, 1) := by decide +kernel
theorem dX10_kind_41 : decode cX10_kind 41 = .ok (.getfield 44, 3) := by decide +kernel
theorem dX10_kind_44 : decode cX10_kind 44 = .ok (.getfield 223, 3) := by decide +kernel
theorem dX10_kind_47 : decode cX10_kind 47 = .ok (.iload_n 1, 1) := by decide +kernel
theorem dX10_kind_48 : decode cX10_kind 48 = .ok (.iload 4, 2) := by decide +kernel
theorem dX10_kind_50 : decode cX10_kind 50 = .ok (.iastore, 1) := by decide +kernel
theorem dX10_kind_51 : decode cX10_kind 51 = .ok (.aload_n 0, 1) := by decide +kernel
theorem dX10_kind_52 : decode cX10_kind 52 = .ok (.getfield 44, 3) := by decide +kernel
theorem dX10_kind_55 : decode cX10_kind 55 = .ok (.aload_n 0, 1) := by decide +kernel
theorem dX10_kind_56 : decode cX10_kind 56 = .ok (.getfield 19, 3) := by decide +kernel
theorem dX10_kind_59 : decode cX10_kind 59 = .ok (.iload_n 1, 1) := by decide +kernel
theorem dX10_kind_60 : decode cX10_kind 60 = .ok (.invokevirtual 226, 3) := by decide +kernel
theorem dX10_kind_63 : decode cX10_kind 63 = .ok (.aload_n 0, 1) := by decide +kernel
theorem dX10_kind_64 : decode cX10_kind 64 = .ok (.getfield 44, 3) := by decide +kernel
theorem dX10_kind_67 : decode cX10_kind 67 = .ok (.iload_n 1, 1) := by decide +kernel
theorem dX10_kind_68 : decode cX10_kind 68 = .ok (.invokevirtual 136, 3) := by decide +kernel
theorem dX10_kind_71 : decode cX10_kind 71 = .ok (.iload_n 3, 1) := by decide +kernel
theorem dX10_kind_72 : decode cX10_kind 72 = .ok (.if_icmp .le 15, 3) := by decide +kernel
theorem dX10_kind_75 : decode cX10_kind 75 = .ok (.aload_n 0, 1) := by decide +kernel
theorem dX10_kind_76 : decode cX10_kind 76 = .ok (.getfield 44, 3) := by decide +kernel
theorem dX10_kind_79 : decode cX10_kind 79 = .ok (.iload_n 1, 1) := by decide +kernel
theorem dX10_kind_80 : decode cX10_kind 80 = .ok (.invokevirtual 136, 3) := by decide +kernel
theorem dX10_kind_83 : decode cX10_kind 83 = .ok (.istore_n 3, 1) := by decide +kernel
theorem dX10_kind_84 : decode cX10_kind 84 = .ok (.iload 4, 2) := by decide +kernel
theorem dX10_kind_86 : decode cX10_kind 86 = .ok (.istore_n 2, 1) := by decide +kernel
theorem dX10_kind_0 : decode cX10_kind 0 = .ok (.aload_n 0, 1) := by decide +kernel
theorem dX10_kind_1 : decode cX10_kind 1 = .ok (.getfield 19, 3) := by decide +kernel
theorem dX10_kind_4 : decode cX10_kind 4 = .ok (.iload_n 1, 1) := by decide +kernel
theorem dX10_kind_5 : decode cX10_kind 5 = .ok (.invokevirtual 126, 3) := by decide +kernel
theorem dX10_kind_8 : decode cX10_kind 8 = .ok (.ifCond .ne 6, 3) := by decide +kernel
theorem dX10_kind_14 : decode cX10_kind 14 = .ok (.iconst (-1), 1) := by decide +kernel
theorem dX10_kind_15 : decode cX10_kind 15 = .ok (.istore_n 2, 1) := by decide +kernel
theorem dX10_kind_16 : decode cX10_kind 16 = .ok (.aload_n 0, 1) := by decide +kernel
theorem dX10_kind_17 : decode cX10_kind 17 = .ok (.invokevirtual 129, 3) := by decide +kernel
theorem dX10_kind_20 : decode cX10_kind 20 = .ok (.iload_n 1, 1) := by decide +kernel
theorem dX10_kind_21 : decode cX10_kind 21 = .ok (.invokevirtual 136, 3) := by decide +kernel
theorem dX10_kind_24 : decode cX10_kind 24 = .ok (.istore_n 3, 1) := by decide +kernel
theorem dX10_kind_25 : decode cX10_kind 25 = .ok (.iconst 0, 1) := by decide +kernel
theorem dX10_kind_26 : decode cX10_kind 26 = .ok (.istore 4, 2) := by decide +kernel
theorem dX10_kind_11 : decode cX10_kind 11 = .ok (.bipush (-2), 2) := by decide +kernel
theorem dX10_kind_13 : decode cX10_kind 13 = .ok (.ireturn, 1) := by decide +kernel
def FX10_kind_87 (k28 : Int → Int → Int → Int → Mm → Option (Int × Mm)) (x1 : Int) (x2 : Int) (x3 : Int) (x4 : Int) (f : Mm) : Option (Int × Mm) := k28 x1 x2 x3 (w32 (x4 + 1)) f
set_option maxHeartbeats 4000000 in
set_option maxRecDepth 100000 in
theorem SX10_kind_87 {G : GT} {l : Launch} {Q : Option AV → Mem → Prop} {k28 : Int → Int → Int → Int → Mm → Option (Int × Mm)} (q28 : ∀ (x1 : Int) (x2 : Int) (x3 : Int) (x4 : Int) (f : Mm), OkI Q (k28 x1 x2 x3 x4 f) → Ev G l MX10_kind (Rm 6 0 0) (ZM G Q 0 0) 0 0 28 [some (vR 0), some (vI x1), some (vI x2), some (vI x3), some (vI x4)] [] (SH, RF, f)) (x1 : Int) (x2 : Int) (x3 : Int) (x4 : Int) (f : Mm) (h : OkI Q (FX10_kind_87 k28 x1 x2 x3 x4 f)) : Ev G l MX10_kind (Rm 6 0 0) (ZM G Q 0 0) 0 0 87 [some (vR 0), some (vI x1), some (vI x2), some (vI x3), some (vI x4)] [] (SH, RF, f) := by
  unfold FX10_kind_87 at h
  refine ev_iinc (L' := [some (vR 0), some (vI x1), some (vI x2), some (vI x3), some (vI (w32 (x4 + 1)))]) dX10_kind_87 rfl (by decide) rfl ?_
  refine ev_goto (tgt := 28) dX10_kind_90 (by decide) ?_
  exact q28 x1 x2 x3 (w32 (x4 + 1)) _ h
def FX10_kind_28  : Nat → Int → Int → Int → Int → Mm → Option (Int × Mm)
  | 0, _, _, _, _, _ => none
  | n + 1, x1, x2, x3, x4, f => (if (f 4 4) ≤ x4 then some (x2, f) else (if 0 ≤ x1 ∧ x1 < 6 then ((FX1_feelThrough_48_4 x1 (up f 49 x1.toNat x4)).bind fun f2 => (b2 (FX1_widthOn x1 f2) fun y3 f3 => (if y3 ≤ x3 then FX10_kind_87 (FX10_kind_28 n) x1 x2 x3 x4 f3 else (b2 (FX1_widthOn x1 f3) fun y4 f4 => FX10_kind_87 (FX10_kind_28 n) x1 x4 y4 x4 f4)))) else none))
set_option maxHeartbeats 4000000 in
set_option maxRecDepth 100000 in
theorem SX10_kind_28 {G : GT} {l : Launch} {Q : Option AV → Mem → Prop}  : ∀ (n : Nat) (x1 : Int) (x2 : Int) (x3 : Int) (x4 : Int) (f : Mm), OkI Q (FX10_kind_28  n x1 x2 x3 x4 f) → Ev G l MX10_kind (Rm 6 0 0) (ZM G Q 0 0) 0 0 28 [some (vR 0), some (vI x1), some (vI x2), some (vI x3), some (vI x4)] [] (SH, RF, f) := by
  intro n
  induction n with
  | zero => intro x1 x2 x3 x4 f h; exact absurd h (by rw [FX10_kind_28]; exact fun q => q)
  | succ n ih =>
    intro x1 x2 x3 x4 f h
    rw [FX10_kind_28] at h
    refine ev_iload dX10_kind_28 rfl ?_
    refine ev_aload_n (i := 0) dX10_kind_30 rfl rfl ?_
    refine ev_getR dX10_kind_31 fl_X10_19 sh_0 (by decide) (by decide) rf_0_1 ?_
    refine ex_getI (x := (f 4 4)) dX10_kind_34 fl_X10_220 sh_4 (by decide) (by decide) rfl ?_
    refine ev_icmp_ge (tgt := 93) dX10_kind_37 (by decide) (fun c6 => ?_) (fun c6 => ?_)
    · rw [if_pos c6] at h
      refine ev_iload_n (i := 2) dX10_kind_93 rfl rfl ?_
      exact ev_iret rfl dX10_kind_94 h
    · rw [if_neg c6] at h
      refine ev_aload_n (i := 0) dX10_kind_40 rfl rfl ?_
      refine ev_getR dX10_kind_41 fl_X10_44 sh_0 (by decide) (by decide) rf_0_6 ?_
      refine ev_getR dX10_kind_44 fl_X10_223 sh_48 (by decide) (by decide) rf_48_0 ?_
      refine ev_iload_n (i := 1) dX10_kind_47 rfl rfl ?_
      refine ev_iload dX10_kind_48 rfl ?_
      by_cases g1 : 0 ≤ x1 ∧ x1 < 6
      · rw [if_pos g1] at h
        refine ex_iast (j := x1.toNat) dX10_kind_50 sh_49 g1.1 g1.2 rfl ?_
        refine ev_aload_n (i := 0) dX10_kind_51 rfl rfl ?_
        refine ev_getR dX10_kind_52 fl_X10_44 sh_0 (by decide) (by decide) rf_0_6 ?_
        refine ev_aload_n (i := 0) dX10_kind_55 rfl rfl ?_
        refine ev_getR dX10_kind_56 fl_X10_19 sh_0 (by decide) (by decide) rf_0_1 ?_
        refine ev_iload_n (i := 1) dX10_kind_59 rfl rfl ?_
        refine ev_cVV (b := 48) (av := [vR 4, vI x1]) (S := []) (fun q => q) h dX10_kind_60 (fun Q' q => TX1_feelThrough_48_4 x1 _ q) kvX1_feelThrough ml_X10_226 sh_48 rfl (RRc (by decide) (by decide)) (Nat.le_of_ble_eq_true rfl) ⟨Nat.le_of_ble_eq_true rfl, Nat.le_of_ble_eq_true rfl⟩ (fun f2 h => ?_)
        refine ev_aload_n (i := 0) dX10_kind_63 rfl rfl ?_
        refine ev_getR dX10_kind_64 fl_X10_44 sh_0 (by decide) (by decide) rf_0_6 ?_
        refine ev_iload_n (i := 1) dX10_kind_67 rfl rfl ?_
        refine ev_cVI (b := 48) (av := [vI x1]) (S := []) (fun q => q) h dX10_kind_68 (fun Q' q => TX1_widthOn x1 _ q) kvX1_widthOn ml_X10_136 sh_48 rfl (RRc (by decide) (by decide)) (Nat.le_of_ble_eq_true rfl) ⟨Nat.le_of_ble_eq_true rfl, Nat.le_of_ble_eq_true rfl⟩ (fun y3 f3 h => ?_)
        refine ev_iload_n (i := 3) dX10_kind_71 rfl rfl ?_
        refine ev_icmp_le (tgt := 87) dX10_kind_72 (by decide) (fun c5 => ?_) (fun c5 => ?_)
        · rw [if_pos c5] at h
          exact SX10_kind_87 ih x1 x2 x3 x4 _ h
        · rw [if_neg c5] at h
          refine ev_aload_n (i := 0) dX10_kind_75 rfl rfl ?_
          refine ev_getR dX10_kind_76 fl_X10_44 sh_0 (by decide) (by decide) rf_0_6 ?_
          refine ev_iload_n (i := 1) dX10_kind_79 rfl rfl ?_
          refine ev_cVI (b := 48) (av := [vI x1]) (S := []) (fun q => q) h dX10_kind_80 (fun Q' q => TX1_widthOn x1 _ q) kvX1_widthOn ml_X10_136 sh_48 rfl (RRc (by decide) (by decide)) (Nat.le_of_ble_eq_true rfl) ⟨Nat.le_of_ble_eq_true rfl, Nat.le_of_ble_eq_true rfl⟩ (fun y4 f4 h => ?_)
          refine ev_istore_n (i := 3) (L' := [some (vR 0), some (vI x1), some (vI x2), some (vI y4), some (vI x4)]) dX10_kind_83 rfl (by decide) rfl ?_
          refine ev_iload dX10_kind_84 rfl ?_
          refine ev_istore_n (i := 2) (L' := [some (vR 0), some (vI x1), some (vI x4), some (vI y4), some (vI x4)]) dX10_kind_86 rfl (by decide) rfl ?_
          exact SX10_kind_87 ih x1 x4 y4 x4 _ h
      · rw [if_neg g1] at h; exact h.elim
def FX10_kind_0  (x1 : Int) (f : Mm) : Option (Int × Mm) := (b2 (FX0_hasDay_4 x1 f) fun y1 f1 => (if y1 = 0 then some ((-2), f1) else ((FX10_asNow f1).bind fun f2 => (b2 (FX1_widthOn x1 f2) fun y3 f3 => FX10_kind_28 fu x1 (-1) y3 0 f3))))
set_option maxHeartbeats 4000000 in
set_option maxRecDepth 100000 in
theorem SX10_kind_0 {G : GT} {l : Launch} {Q : Option AV → Mem → Prop}  (x1 : Int) (f : Mm) (h : OkI Q (FX10_kind_0  x1 f)) : Ev G l MX10_kind (Rm 6 0 0) (ZM G Q 0 0) 0 0 0 [some (vR 0), some (vI x1), none, none, none] [] (SH, RF, f) := by
  unfold FX10_kind_0 at h
  refine ev_aload_n (i := 0) dX10_kind_0 rfl rfl ?_
  refine ev_getR dX10_kind_1 fl_X10_19 sh_0 (by decide) (by decide) rf_0_1 ?_
  refine ev_iload_n (i := 1) dX10_kind_4 rfl rfl ?_
  refine ev_cVI (b := 4) (av := [vI x1]) (S := []) (fun q => q) h dX10_kind_5 (fun Q' q => TX0_hasDay_4 x1 _ q) kvX0_hasDay ml_X10_126 sh_4 rfl (RRc (by decide) (by decide)) (Nat.le_of_ble_eq_true rfl) ⟨Nat.le_of_ble_eq_true rfl, Nat.le_of_ble_eq_true rfl⟩ (fun y1 f1 h => ?_)
  refine ev_if_ne (tgt := 14) dX10_kind_8 (by decide) (fun c4 => ?_) (fun c4 => ?_)
  · rw [if_neg c4] at h
    refine ev_iconst dX10_kind_14 (r32c rfl) ?_
    refine ev_istore_n (i := 2) (L' := [some (vR 0), some (vI x1), some (vI (-1)), none, none]) dX10_kind_15 rfl (by decide) rfl ?_
    refine ev_aload_n (i := 0) dX10_kind_16 rfl rfl ?_
    refine ev_cVC (b := 0) (av := []) (S := []) (fun q => q) h dX10_kind_17 (fun Q' q => TX10_asNow _ q) kvX10_asNow ml_X10_129 sh_0 rfl (RRc (by decide) (by decide)) (Nat.le_of_ble_eq_true rfl) ⟨Nat.le_of_ble_eq_true rfl, Nat.le_of_ble_eq_true rfl⟩ (fun f2 h => ?_)
    refine ev_iload_n (i := 1) dX10_kind_20 rfl rfl ?_
    refine ev_cVI (b := 48) (av := [vI x1]) (S := []) (fun q => q) h dX10_kind_21 (fun Q' q => TX1_widthOn x1 _ q) kvX1_widthOn ml_X10_136 sh_48 rfl (RRc (by decide) (by decide)) (Nat.le_of_ble_eq_true rfl) ⟨Nat.le_of_ble_eq_true rfl, Nat.le_of_ble_eq_true rfl⟩ (fun y3 f3 h => ?_)
    refine ev_istore_n (i := 3) (L' := [some (vR 0), some (vI x1), some (vI (-1)), some (vI y3), none]) dX10_kind_24 rfl (by decide) rfl ?_
    refine ev_iconst dX10_kind_25 (r32c rfl) ?_
    refine ev_istore (L' := [some (vR 0), some (vI x1), some (vI (-1)), some (vI y3), some (vI 0)]) dX10_kind_26 (by decide) rfl ?_
    exact SX10_kind_28  fu x1 (-1) y3 0 _ h
  · rw [if_pos c4] at h
    refine ev_bipush (v := (-2)) dX10_kind_11 (r32c rfl) (by decide) ?_
    exact ev_iret rfl dX10_kind_13 h
def FX10_kind (x1 : Int) (f : Mm) : Option (Int × Mm) := FX10_kind_0 x1 f
theorem TX10_kind {G : GT} {l : Launch} {Q : Option AV → Mem → Prop} (x1 : Int) (f : Mm) (h : OkI Q (FX10_kind x1 f)) : Ret G l MX10_kind (6) 0 0 [vR 0, vI x1] (SH, RF, f) Q := by
  refine ret_of (L := [some (vR 0), some (vI x1), none, none, none]) (by decide) rfl (Nat.le_of_ble_eq_true rfl) ?_
  exact SX10_kind_0 x1 f h
def FX0_costOfAll_4_49_4  : Nat → Int → Int → Mm → Option (Int × Mm)
  | 0, _, _, _ => none
  | n + 1, x2, x3, f => (if (f 4 1) ≤ x3 then some (x2, f) else (if 6 ≤ x3 then some (x2, f) else (if 0 ≤ x3 ∧ x3 < 6 then (b2 (FX0_costOf_4 (f 49 x3.toNat) f) fun y2 f2 => FX0_costOfAll_4_49_4 n (w32 (x2 + y2)) (w32 (x3 + 1)) f2) else none)))
set_option maxHeartbeats 4000000 in
set_option maxRecDepth 100000 in
theorem SX0_costOfAll_4_49_4 {G : GT} {l : Launch} {Q : Option AV → Mem → Prop}  : ∀ (n : Nat) (x2 : Int) (x3 : Int) (f : Mm), OkI Q (FX0_costOfAll_4_49_4  n x2 x3 f) → Ev G l MX0_costOfAll (Rm 3 0 0) (ZM G Q 0 0) 0 0 4 [some (vR 4), some (vR 49), some (vI x2), some (vI x3)] [] (SH, RF, f) := by
  intro n
  induction n with
  | zero => intro x2 x3 f h; exact absurd h (by rw [FX0_costOfAll_4_49_4]; exact fun q => q)
  | succ n ih =>
    intro x2 x3 f h
    rw [FX0_costOfAll_4_49_4] at h
    refine ev_iload_n (i := 3) dX0_costOfAll_4 rfl rfl ?_
    refine ev_aload_n (i := 0) dX0_costOfAll_5 rfl rfl ?_
    refine ex_getI (x := (f 4 1)) dX0_costOfAll_6 fl_X0_36 sh_4 (by decide) (by decide) rfl ?_
    refine ev_icmp_ge (tgt := 34) dX0_costOfAll_9 (by decide) (fun c4 => ?_) (fun c4 => ?_)
    · rw [if_pos c4] at h
      refine ev_iload_n (i := 2) dX0_costOfAll_34 rfl rfl ?_
      exact ev_iret rfl dX0_costOfAll_35 h
    · rw [if_neg c4] at h
      refine ev_iload_n (i := 3) dX0_costOfAll_12 rfl rfl ?_
      refine ev_aload_n (i := 1) dX0_costOfAll_13 rfl rfl ?_
      refine ev_alen dX0_costOfAll_14 (by decide) sh_49 (r32c rfl) ?_
      refine ev_icmp_ge (tgt := 34) dX0_costOfAll_15 (by decide) (fun c3 => ?_) (fun c3 => ?_)
      · rw [if_pos c3] at h
        refine ev_iload_n (i := 2) dX0_costOfAll_34 rfl rfl ?_
        exact ev_iret rfl dX0_costOfAll_35 h
      · rw [if_neg c3] at h
        refine ev_iload_n (i := 2) dX0_costOfAll_18 rfl rfl ?_
        refine ev_aload_n (i := 0) dX0_costOfAll_19 rfl rfl ?_
        refine ev_aload_n (i := 1) dX0_costOfAll_20 rfl rfl ?_
        refine ev_iload_n (i := 3) dX0_costOfAll_21 rfl rfl ?_
        by_cases g1 : 0 ≤ x3 ∧ x3 < 6
        · rw [if_pos g1] at h
          refine ex_iald (x := (f 49 x3.toNat)) dX0_costOfAll_22 sh_49 g1.1 g1.2 rfl ?_
          refine ev_cVI (b := 4) (av := [vI (f 49 x3.toNat)]) (S := [vI x2]) (fun q => q) h dX0_costOfAll_23 (fun Q' q => TX0_costOf_4 (f 49 x3.toNat) _ q) kvX0_costOf ml_X0_81 sh_4 rfl (RRc (by decide) (by decide)) (Nat.le_of_ble_eq_true rfl) ⟨Nat.le_of_ble_eq_true rfl, Nat.le_of_ble_eq_true rfl⟩ (fun y2 f2 h => ?_)
          refine ev_iadd dX0_costOfAll_26 ?_
          refine ev_istore_n (i := 2) (L' := [some (vR 4), some (vR 49), some (vI (w32 (x2 + y2))), some (vI x3)]) dX0_costOfAll_27 rfl (by decide) rfl ?_
          refine ev_iinc (L' := [some (vR 4), some (vR 49), some (vI (w32 (x2 + y2))), some (vI (w32 (x3 + 1)))]) dX0_costOfAll_28 rfl (by decide) rfl ?_
          refine ev_goto (tgt := 4) dX0_costOfAll_31 (by decide) ?_
          exact ih (w32 (x2 + y2)) (w32 (x3 + 1)) _ h
        · rw [if_neg g1] at h; exact h.elim
def FX0_costOfAll_4_49_0   (f : Mm) : Option (Int × Mm) := FX0_costOfAll_4_49_4 fu 0 0 f
set_option maxHeartbeats 4000000 in
set_option maxRecDepth 100000 in
theorem SX0_costOfAll_4_49_0 {G : GT} {l : Launch} {Q : Option AV → Mem → Prop}   (f : Mm) (h : OkI Q (FX0_costOfAll_4_49_0   f)) : Ev G l MX0_costOfAll (Rm 3 0 0) (ZM G Q 0 0) 0 0 0 [some (vR 4), some (vR 49), none, none] [] (SH, RF, f) := by
  unfold FX0_costOfAll_4_49_0 at h
  refine ev_iconst dX0_costOfAll_0 (r32c rfl) ?_
  refine ev_istore_n (i := 2) (L' := [some (vR 4), some (vR 49), some (vI 0), none]) dX0_costOfAll_1 rfl (by decide) rfl ?_
  refine ev_iconst dX0_costOfAll_2 (r32c rfl) ?_
  refine ev_istore_n (i := 3) (L' := [some (vR 4), some (vR 49), some (vI 0), some (vI 0)]) dX0_costOfAll_3 rfl (by decide) rfl ?_
  exact SX0_costOfAll_4_49_4  fu 0 0 _ h
def FX0_costOfAll_4_49  (f : Mm) : Option (Int × Mm) := FX0_costOfAll_4_49_0  f
theorem TX0_costOfAll_4_49 {G : GT} {l : Launch} {Q : Option AV → Mem → Prop}  (f : Mm) (h : OkI Q (FX0_costOfAll_4_49  f)) : Ret G l MX0_costOfAll (3) 0 0 [vR 4, vR 49] (SH, RF, f) Q := by
  refine ret_of (L := [some (vR 4), some (vR 49), none, none]) (by decide) rfl (Nat.le_of_ble_eq_true rfl) ?_
  exact SX0_costOfAll_4_49_0  f h
theorem dX10_alone_88 : decode cX10_alone 88 = .ok (.aload_n 0, 1) := by decide +kernel
theorem dX10_alone_89 : decode cX10_alone 89 = .ok (.getfield 44, 3) := by decide +kernel
theorem dX10_alone_92 : decode cX10_alone 92 = .ok (.aload_n 0, 1) := by decide +kernel
theorem dX10_alone_93 : decode cX10_alone 93 = .ok (.getfield 19, 3) := by decide +kernel
theorem dX10_alone_96 : decode cX10_alone 96 = .ok (.invokevirtual 233, 3) := by decide +kernel
theorem dX10_alone_99 : decode cX10_alone 99 = .ok (.aload_n 0, 1) := by decide +kernel
theorem dX10_alone_100 : decode cX10_alone 100 = .ok (.getfield 19, 3) := by decide +kernel
theorem dX10_alone_103 : decode cX10_alone 103 = .ok (.aload_n 0, 1) := by decide +kernel
theorem dX10_alone_104 : decode cX10_alone 104 = .ok (.getfield 44, 3) := by decide +kernel
theorem dX10_alone_107 : decode cX10_alone 107 = .ok (.aload_n 0, 1) := by decide +kernel
theorem dX10_alone_108 : decode cX10_alone 108 = .ok (.getfield 19, 3) := by decide +kernel
theorem dX10_alone_111 : decode cX10_alone 111 = .ok (.invokevirtual 176, 3) := by decide +kernel
theorem dX10_alone_114 : decode cX10_alone 114 = .ok (.invokevirtual 179, 3) := by decide +kernel
theorem dX10_alone_117 : decode cX10_alone 117 = .ok (.aload_n 0, 1) := by decide +kernel
theorem dX10_alone_118 : decode cX10_alone 118 = .ok (.getfield 19, 3) := by decide +kernel
theorem dX10_alone_121 : decode cX10_alone 121 = .ok (.aload_n 0, 1) := by decide +kernel
theorem dX10_alone_122 : decode cX10_alone 122 = .ok (.getfield 44, 3) := by decide +kernel
theorem dX10_alone_125 : decode cX10_alone 125 = .ok (.getfield 223, 3) := by decide +kernel
theorem dX10_alone_128 : decode cX10_alone 128 = .ok (.invokevirtual 185, 3) := by decide +kernel
theorem dX10_alone_131 : decode cX10_alone 131 = .ok (.isub, 1) := by decide +kernel
theorem dX10_alone_132 : decode cX10_alone 132 = .ok (.istore 4, 2) := by decide +kernel
theorem dX10_alone_134 : decode cX10_alone 134 = .ok (.iload_n 2, 1) := by decide +kernel
theorem dX10_alone_135 : decode cX10_alone 135 = .ok (.iload 4, 2) := by decide +kernel
theorem dX10_alone_137 : decode cX10_alone 137 = .ok (.invokestatic 207, 3) := by decide +kernel
theorem dX10_alone_140 : decode cX10_alone 140 = .ok (.istore_n 2, 1) := by decide +kernel
theorem dX10_alone_141 : decode cX10_alone 141 = .ok (.iinc 3 1, 3) := by decide +kernel
theorem dX10_alone_144 : decode cX10_alone 144 = .ok (.goto (-114), 3) := by decide +kernel
theorem dX10_alone_81 : decode cX10_alone 81 = .ok (.iastore, 1) := by decide +kernel
theorem dX10_alone_82 : decode cX10_alone 82 = .ok (.iinc 4 1, 3) := by decide +kernel
theorem dX10_alone_85 : decode cX10_alone 85 = .ok (.goto (-39), 3) := by decide +kernel
theorem dX10_alone_46 : decode cX10_alone 46 = .ok (.iload 4, 2) := by decide +kernel
theorem dX10_alone_48 : decode cX10_alone 48 = .ok (.aload_n 0, 1) := by decide +kernel
theorem dX10_alone_49 : decode cX10_alone 49 = .ok (.getfield 19, 3) := by decide +kernel
theorem dX10_alone_52 : decode cX10_alone 52 = .ok (.getfield 144, 3) := by decide +kernel
theorem dX10_alone_55 : decode cX10_alone 55 = .ok (.if_icmp .ge 33, 3) := by decide +kernel
theorem dX10_alone_58 : decode cX10_alone 58 = .ok (.aload_n 0, 1) := by decide +kernel
theorem dX10_alone_59 : decode cX10_alone 59 = .ok (.getfield 44, 3) := by decide +kernel
theorem dX10_alone_62 : decode cX10_alone 62 = .ok (.getfield 223, 3) := by decide +kernel
theorem dX10_alone_65 : decode cX10_alone 65 = .ok (.iload 4, 2) := by decide +kernel
theorem dX10_alone_67 : decode cX10_alone 67 = .ok (.iload_n 3, 1) := by decide +kernel
theorem dX10_alone_68 : decode cX10_alone 68 = .ok (.iload 4, 2) := by decide +kernel
theorem dX10_alone_70 : decode cX10_alone 70 = .ok (.invokestatic 164, 3) := by decide +kernel
theorem dX10_alone_73 : decode cX10_alone 73 = .ok (.ifCond .eq 7, 3) := by decide +kernel
theorem dX10_alone_80 : decode cX10_alone 80 = .ok (.iconst (-1), 1) := by decide +kernel
theorem dX10_alone_76 : decode cX10_alone 76 = .ok (.iload_n 1, 1) := by decide +kernel
theorem dX10_alone_77 : decode cX10_alone 77 = .ok (.goto 4, 3) := by decide +kernel
theorem dX10_alone_30 : decode cX10_alone 30 = .ok (.iload_n 3, 1) := by decide +kernel
theorem dX10_alone_31 : decode cX10_alone 31 = .ok (.iconst 1, 1) := by decide +kernel
theorem dX10_alone_32 : decode cX10_alone 32 = .ok (.aload_n 0, 1) := by decide +kernel
theorem dX10_alone_33 : decode cX10_alone 33 = .ok (.getfield 19, 3) := by decide +kernel
theorem dX10_alone_36 : decode cX10_alone 36 = .ok (.getfield 144, 3) := by decide +kernel
theorem dX10_alone_39 : decode cX10_alone 39 = .ok (.ishl, 1) := by decide +kernel
theorem dX10_alone_40 : decode cX10_alone 40 = .ok (.if_icmp .ge 107, 3) := by decide +kernel
theorem dX10_alone_147 : decode cX10_alone 147 = .ok (.iload_n 2, 1) := by decide +kernel
theorem dX10_alone_148 : decode cX10_alone 148 = .ok (.ireturn, 1) := by decide +kernel
theorem dX10_alone_43 : decode cX10_alone 43 = .ok (.iconst 0, 1) := by decide +kernel
theorem dX10_alone_44 : decode cX10_alone 44 = .ok (.istore 4, 2) := by decide +kernel
theorem dX10_alone_0 : decode cX10_alone 0 = .ok (.aload_n 0, 1) := by decide +kernel
theorem dX10_alone_1 : decode cX10_alone 1 = .ok (.getfield 19, 3) := by decide +kernel
theorem dX10_alone_4 : decode cX10_alone 4 = .ok (.iload_n 1, 1) := by decide +kernel
theorem dX10_alone_5 : decode cX10_alone 5 = .ok (.invokevirtual 109, 3) := by decide +kernel
theorem dX10_alone_8 : decode cX10_alone 8 = .ok (.ifCond .ne 6, 3) := by decide +kernel
theorem dX10_alone_14 : decode cX10_alone 14 = .ok (.aload_n 0, 1) := by decide +kernel
theorem dX10_alone_15 : decode cX10_alone 15 = .ok (.getfield 44, 3) := by decide +kernel
theorem dX10_alone_18 : decode cX10_alone 18 = .ok (.aload_n 0, 1) := by decide +kernel
theorem dX10_alone_19 : decode cX10_alone 19 = .ok (.getfield 19, 3) := by decide +kernel
theorem dX10_alone_22 : decode cX10_alone 22 = .ok (.invokevirtual 230, 3) := by decide +kernel
theorem dX10_alone_25 : decode cX10_alone 25 = .ok (.ldc 196, 2) := by decide +kernel
theorem dX10_alone_27 : decode cX10_alone 27 = .ok (.istore_n 2, 1) := by decide +kernel
theorem dX10_alone_28 : decode cX10_alone 28 = .ok (.iconst 0, 1) := by decide +kernel
theorem dX10_alone_29 : decode cX10_alone 29 = .ok (.istore_n 3, 1) := by decide +kernel
theorem dX10_alone_11 : decode cX10_alone 11 = .ok (.ldc 196, 2) := by decide +kernel
theorem dX10_alone_13 : decode cX10_alone 13 = .ok (.ireturn, 1) := by decide +kernel
def FX10_alone_88 (k30 : Int → Int → Int → Mm → Option (Int × Mm)) (x1 : Int) (x2 : Int) (x3 : Int) (f : Mm) : Option (Int × Mm) := ((FX1_walk_48_4 f).bind fun f1 => (b2 (FX1_keptBits_48_4 f1) fun y2 f2 => (b2 (FX0_payOf_4 y2 f2) fun y3 f3 => (b2 (FX0_costOfAll_4_49 f3) fun y4 f4 => (b2 (FJ9_max_7cf53 x2 (w32 (y3 - y4)) f4) fun y5 f5 => k30 x1 y5 (w32 (x3 + 1)) f5)))))
set_option maxHeartbeats 4000000 in
set_option maxRecDepth 100000 in
theorem SX10_alone_88 {G : GT} {l : Launch} {Q : Option AV → Mem → Prop} {k30 : Int → Int → Int → Mm → Option (Int × Mm)} (q30 : ∀ (x1 : Int) (x2 : Int) (x3 : Int) (f : Mm), OkI Q (k30 x1 x2 x3 f) → Ev G l MX10_alone (Rm 5 0 0) (ZM G Q 0 0) 0 0 30 [some (vR 0), some (vI x1), some (vI x2), some (vI x3), none] [] (SH, RF, f)) (x1 : Int) (x2 : Int) (x3 : Int) (f : Mm) (h : OkI Q (FX10_alone_88 k30 x1 x2 x3 f)) : Ev G l MX10_alone (Rm 5 0 0) (ZM G Q 0 0) 0 0 88 [some (vR 0), some (vI x1), some (vI x2), some (vI x3), none] [] (SH, RF, f) := by
  unfold FX10_alone_88 at h
  refine ev_aload_n (i := 0) dX10_alone_88 rfl rfl ?_
  refine ev_getR dX10_alone_89 fl_X10_44 sh_0 (by decide) (by decide) rf_0_6 ?_
  refine ev_aload_n (i := 0) dX10_alone_92 rfl rfl ?_
  refine ev_getR dX10_alone_93 fl_X10_19 sh_0 (by decide) (by decide) rf_0_1 ?_
  refine ev_cVV (b := 48) (av := [vR 4]) (S := []) (fun q => q) h dX10_alone_96 (fun Q' q => TX1_walk_48_4 _ q) kvX1_walk ml_X10_233 sh_48 rfl (RRc (by decide) (by decide)) (Nat.le_of_ble_eq_true rfl) ⟨Nat.le_of_ble_eq_true rfl, Nat.le_of_ble_eq_true rfl⟩ (fun f1 h => ?_)
  refine ev_aload_n (i := 0) dX10_alone_99 rfl rfl ?_
  refine ev_getR dX10_alone_100 fl_X10_19 sh_0 (by decide) (by decide) rf_0_1 ?_
  refine ev_aload_n (i := 0) dX10_alone_103 rfl rfl ?_
  refine ev_getR dX10_alone_104 fl_X10_44 sh_0 (by decide) (by decide) rf_0_6 ?_
  refine ev_aload_n (i := 0) dX10_alone_107 rfl rfl ?_
  refine ev_getR dX10_alone_108 fl_X10_19 sh_0 (by decide) (by decide) rf_0_1 ?_
  refine ev_cVI (b := 48) (av := [vR 4]) (S := [vR 4]) (fun q => q) h dX10_alone_111 (fun Q' q => TX1_keptBits_48_4 _ q) kvX1_keptBits ml_X10_176 sh_48 rfl (RRc (by decide) (by decide)) (Nat.le_of_ble_eq_true rfl) ⟨Nat.le_of_ble_eq_true rfl, Nat.le_of_ble_eq_true rfl⟩ (fun y2 f2 h => ?_)
  refine ev_cVI (b := 4) (av := [vI y2]) (S := []) (fun q => q) h dX10_alone_114 (fun Q' q => TX0_payOf_4 y2 _ q) kvX0_payOf ml_X10_179 sh_4 rfl (RRc (by decide) (by decide)) (Nat.le_of_ble_eq_true rfl) ⟨Nat.le_of_ble_eq_true rfl, Nat.le_of_ble_eq_true rfl⟩ (fun y3 f3 h => ?_)
  refine ev_aload_n (i := 0) dX10_alone_117 rfl rfl ?_
  refine ev_getR dX10_alone_118 fl_X10_19 sh_0 (by decide) (by decide) rf_0_1 ?_
  refine ev_aload_n (i := 0) dX10_alone_121 rfl rfl ?_
  refine ev_getR dX10_alone_122 fl_X10_44 sh_0 (by decide) (by decide) rf_0_6 ?_
  refine ev_getR dX10_alone_125 fl_X10_223 sh_48 (by decide) (by decide) rf_48_0 ?_
  refine ev_cVI (b := 4) (av := [vR 49]) (S := [vI y3]) (fun q => q) h dX10_alone_128 (fun Q' q => TX0_costOfAll_4_49 _ q) kvX0_costOfAll ml_X10_185 sh_4 rfl (RRc (by decide) (by decide)) (Nat.le_of_ble_eq_true rfl) ⟨Nat.le_of_ble_eq_true rfl, Nat.le_of_ble_eq_true rfl⟩ (fun y4 f4 h => ?_)
  refine ev_isub dX10_alone_131 ?_
  refine ev_istore (L' := [some (vR 0), some (vI x1), some (vI x2), some (vI x3), some (vI (w32 (y3 - y4)))]) dX10_alone_132 (by decide) rfl ?_
  refine ev_iload_n (i := 2) dX10_alone_134 rfl rfl ?_
  refine ev_iload dX10_alone_135 rfl ?_
  refine ev_cSI (av := [vI x2, vI (w32 (y3 - y4))]) (S := []) (fun q => q) h dX10_alone_137 (fun Q' q => TJ9_max_7cf53 x2 (w32 (y3 - y4)) _ q) ksJ9_max_7cf53 ml_X10_207 rfl (RRc (by decide) (by decide)) (Nat.le_of_ble_eq_true rfl) ⟨Nat.le_of_ble_eq_true rfl, Nat.le_of_ble_eq_true rfl⟩ (fun y5 f5 h => ?_)
  refine ev_istore_n (i := 2) (L' := [some (vR 0), some (vI x1), some (vI y5), some (vI x3), some (vI (w32 (y3 - y4)))]) dX10_alone_140 rfl (by decide) rfl ?_
  refine ev_iinc (L' := [some (vR 0), some (vI x1), some (vI y5), some (vI (w32 (x3 + 1))), some (vI (w32 (y3 - y4)))]) dX10_alone_141 rfl (by decide) rfl ?_
  refine ev_goto (tgt := 30) dX10_alone_144 (by decide) ?_
  refine ev_fg [true, true, true, true, false] rfl ?_
  exact q30 x1 y5 (w32 (x3 + 1)) _ h
def FX10_alone_81 (k30 : Int → Int → Int → Mm → Option (Int × Mm)) (k46 : Int → Int → Int → Int → Mm → Option (Int × Mm)) (x1 : Int) (x2 : Int) (x3 : Int) (x4 : Int) (s1 : Int) (s2 : Int) (f : Mm) : Option (Int × Mm) := (if 0 ≤ s1 ∧ s1 < 6 then k46 x1 x2 x3 (w32 (x4 + 1)) (up f 49 s1.toNat s2) else none)
set_option maxHeartbeats 4000000 in
set_option maxRecDepth 100000 in
theorem SX10_alone_81 {G : GT} {l : Launch} {Q : Option AV → Mem → Prop} {k30 : Int → Int → Int → Mm → Option (Int × Mm)} {k46 : Int → Int → Int → Int → Mm → Option (Int × Mm)} (q30 : ∀ (x1 : Int) (x2 : Int) (x3 : Int) (f : Mm), OkI Q (k30 x1 x2 x3 f) → Ev G l MX10_alone (Rm 5 0 0) (ZM G Q 0 0) 0 0 30 [some (vR 0), some (vI x1), some (vI x2), some (vI x3), none] [] (SH, RF, f)) (q46 : ∀ (x1 : Int) (x2 : Int) (x3 : Int) (x4 : Int) (f : Mm), OkI Q (k46 x1 x2 x3 x4 f) → Ev G l MX10_alone (Rm 5 0 0) (ZM G Q 0 0) 0 0 46 [some (vR 0), some (vI x1), some (vI x2), some (vI x3), some (vI x4)] [] (SH, RF, f)) (x1 : Int) (x2 : Int) (x3 : Int) (x4 : Int) (s1 : Int) (s2 : Int) (f : Mm) (h : OkI Q (FX10_alone_81 k30 k46 x1 x2 x3 x4 s1 s2 f)) : Ev G l MX10_alone (Rm 5 0 0) (ZM G Q 0 0) 0 0 81 [some (vR 0), some (vI x1), some (vI x2), some (vI x3), some (vI x4)] [vI s2, vI s1, vR 49] (SH, RF, f) := by
  unfold FX10_alone_81 at h
  by_cases g1 : 0 ≤ s1 ∧ s1 < 6
  · rw [if_pos g1] at h
    refine ex_iast (j := s1.toNat) dX10_alone_81 sh_49 g1.1 g1.2 rfl ?_
    refine ev_iinc (L' := [some (vR 0), some (vI x1), some (vI x2), some (vI x3), some (vI (w32 (x4 + 1)))]) dX10_alone_82 rfl (by decide) rfl ?_
    refine ev_goto (tgt := 46) dX10_alone_85 (by decide) ?_
    exact q46 x1 x2 x3 (w32 (x4 + 1)) _ h
  · rw [if_neg g1] at h; exact h.elim
def FX10_alone_46 (k30 : Int → Int → Int → Mm → Option (Int × Mm)) : Nat → Int → Int → Int → Int → Mm → Option (Int × Mm)
  | 0, _, _, _, _, _ => none
  | n + 1, x1, x2, x3, x4, f => (if (f 4 1) ≤ x4 then FX10_alone_88 k30 x1 x2 x3 f else (b2 (FX10_holds x3 x4 f) fun y1 f1 => (if y1 = 0 then FX10_alone_81 k30 (FX10_alone_46 k30 n) x1 x2 x3 x4 x4 (-1) f1 else FX10_alone_81 k30 (FX10_alone_46 k30 n) x1 x2 x3 x4 x4 x1 f1)))
set_option maxHeartbeats 4000000 in
set_option maxRecDepth 100000 in
theorem SX10_alone_46 {G : GT} {l : Launch} {Q : Option AV → Mem → Prop} {k30 : Int → Int → Int → Mm → Option (Int × Mm)} (q30 : ∀ (x1 : Int) (x2 : Int) (x3 : Int) (f : Mm), OkI Q (k30 x1 x2 x3 f) → Ev G l MX10_alone (Rm 5 0 0) (ZM G Q 0 0) 0 0 30 [some (vR 0), some (vI x1), some (vI x2), some (vI x3), none] [] (SH, RF, f)) : ∀ (n : Nat) (x1 : Int) (x2 : Int) (x3 : Int) (x4 : Int) (f : Mm), OkI Q (FX10_alone_46 k30 n x1 x2 x3 x4 f) → Ev G l MX10_alone (Rm 5 0 0) (ZM G Q 0 0) 0 0 46 [some (vR 0), some (vI x1), some (vI x2), some (vI x3), some (vI x4)] [] (SH, RF, f) := by
  intro n
  induction n with
  | zero => intro x1 x2 x3 x4 f h; exact absurd h (by rw [FX10_alone_46]; exact fun q => q)
  | succ n ih =>
    intro x1 x2 x3 x4 f h
    rw [FX10_alone_46] at h
    refine ev_iload dX10_alone_46 rfl ?_
    refine ev_aload_n (i := 0) dX10_alone_48 rfl rfl ?_
    refine ev_getR dX10_alone_49 fl_X10_19 sh_0 (by decide) (by decide) rf_0_1 ?_
    refine ex_getI (x := (f 4 1)) dX10_alone_52 fl_X10_144 sh_4 (by decide) (by decide) rfl ?_
    refine ev_icmp_ge (tgt := 88) dX10_alone_55 (by decide) (fun c3 => ?_) (fun c3 => ?_)
    · rw [if_pos c3] at h
      refine ev_fg [true, true, true, true, false] rfl ?_
      exact SX10_alone_88 q30 x1 x2 x3 _ h
    · rw [if_neg c3] at h
      refine ev_aload_n (i := 0) dX10_alone_58 rfl rfl ?_
      refine ev_getR dX10_alone_59 fl_X10_44 sh_0 (by decide) (by decide) rf_0_6 ?_
      refine ev_getR dX10_alone_62 fl_X10_223 sh_48 (by decide) (by decide) rf_48_0 ?_
      refine ev_iload dX10_alone_65 rfl ?_
      refine ev_iload_n (i := 3) dX10_alone_67 rfl rfl ?_
      refine ev_iload dX10_alone_68 rfl ?_
      refine ev_cSI (av := [vI x3, vI x4]) (S := [vI x4, vR 49]) (fun q => q) h dX10_alone_70 (fun Q' q => TX10_holds x3 x4 _ q) ksX10_holds ml_X10_164 rfl (RRc (by decide) (by decide)) (Nat.le_of_ble_eq_true rfl) ⟨Nat.le_of_ble_eq_true rfl, Nat.le_of_ble_eq_true rfl⟩ (fun y1 f1 h => ?_)
      refine ev_if_eq (tgt := 80) dX10_alone_73 (by decide) (fun c2 => ?_) (fun c2 => ?_)
      · rw [if_pos c2] at h
        refine ev_iconst dX10_alone_80 (r32c rfl) ?_
        exact SX10_alone_81 q30 ih x1 x2 x3 x4 x4 (-1) _ h
      · rw [if_neg c2] at h
        refine ev_iload_n (i := 1) dX10_alone_76 rfl rfl ?_
        refine ev_goto (tgt := 81) dX10_alone_77 (by decide) ?_
        exact SX10_alone_81 q30 ih x1 x2 x3 x4 x4 x1 _ h
def FX10_alone_30  : Nat → Int → Int → Int → Mm → Option (Int × Mm)
  | 0, _, _, _, _ => none
  | n + 1, x1, x2, x3, f => (if (bShl 1 (f 4 1)) ≤ x3 then some (x2, f) else FX10_alone_46 (FX10_alone_30 n) fu x1 x2 x3 0 f)
set_option maxHeartbeats 4000000 in
set_option maxRecDepth 100000 in
theorem SX10_alone_30 {G : GT} {l : Launch} {Q : Option AV → Mem → Prop}  : ∀ (n : Nat) (x1 : Int) (x2 : Int) (x3 : Int) (f : Mm), OkI Q (FX10_alone_30  n x1 x2 x3 f) → Ev G l MX10_alone (Rm 5 0 0) (ZM G Q 0 0) 0 0 30 [some (vR 0), some (vI x1), some (vI x2), some (vI x3), none] [] (SH, RF, f) := by
  intro n
  induction n with
  | zero => intro x1 x2 x3 f h; exact absurd h (by rw [FX10_alone_30]; exact fun q => q)
  | succ n ih =>
    intro x1 x2 x3 f h
    rw [FX10_alone_30] at h
    refine ev_iload_n (i := 3) dX10_alone_30 rfl rfl ?_
    refine ev_iconst dX10_alone_31 (r32c rfl) ?_
    refine ev_aload_n (i := 0) dX10_alone_32 rfl rfl ?_
    refine ev_getR dX10_alone_33 fl_X10_19 sh_0 (by decide) (by decide) rf_0_1 ?_
    refine ex_getI (x := (f 4 1)) dX10_alone_36 fl_X10_144 sh_4 (by decide) (by decide) rfl ?_
    refine ev_ishl dX10_alone_39 ?_
    refine ev_icmp_ge (tgt := 147) dX10_alone_40 (by decide) (fun c1 => ?_) (fun c1 => ?_)
    · rw [if_pos c1] at h
      refine ev_iload_n (i := 2) dX10_alone_147 rfl rfl ?_
      exact ev_iret rfl dX10_alone_148 h
    · rw [if_neg c1] at h
      refine ev_iconst dX10_alone_43 (r32c rfl) ?_
      refine ev_istore (L' := [some (vR 0), some (vI x1), some (vI x2), some (vI x3), some (vI 0)]) dX10_alone_44 (by decide) rfl ?_
      exact SX10_alone_46 ih fu x1 x2 x3 0 _ h
def FX10_alone_0  (x1 : Int) (f : Mm) : Option (Int × Mm) := (b2 (FX0_hasDeed_4 x1 f) fun y1 f1 => (if y1 = 0 then some ((-1000000), f1) else ((FX1_asDone_48_4 f1).bind fun f2 => FX10_alone_30 fu x1 (-1000000) 0 f2)))
set_option maxHeartbeats 4000000 in
set_option maxRecDepth 100000 in
theorem SX10_alone_0 {G : GT} {l : Launch} {Q : Option AV → Mem → Prop}  (x1 : Int) (f : Mm) (h : OkI Q (FX10_alone_0  x1 f)) : Ev G l MX10_alone (Rm 5 0 0) (ZM G Q 0 0) 0 0 0 [some (vR 0), some (vI x1), none, none, none] [] (SH, RF, f) := by
  unfold FX10_alone_0 at h
  refine ev_aload_n (i := 0) dX10_alone_0 rfl rfl ?_
  refine ev_getR dX10_alone_1 fl_X10_19 sh_0 (by decide) (by decide) rf_0_1 ?_
  refine ev_iload_n (i := 1) dX10_alone_4 rfl rfl ?_
  refine ev_cVI (b := 4) (av := [vI x1]) (S := []) (fun q => q) h dX10_alone_5 (fun Q' q => TX0_hasDeed_4 x1 _ q) kvX0_hasDeed ml_X10_109 sh_4 rfl (RRc (by decide) (by decide)) (Nat.le_of_ble_eq_true rfl) ⟨Nat.le_of_ble_eq_true rfl, Nat.le_of_ble_eq_true rfl⟩ (fun y1 f1 h => ?_)
  refine ev_if_ne (tgt := 14) dX10_alone_8 (by decide) (fun c3 => ?_) (fun c3 => ?_)
  · rw [if_neg c3] at h
    refine ev_aload_n (i := 0) dX10_alone_14 rfl rfl ?_
    refine ev_getR dX10_alone_15 fl_X10_44 sh_0 (by decide) (by decide) rf_0_6 ?_
    refine ev_aload_n (i := 0) dX10_alone_18 rfl rfl ?_
    refine ev_getR dX10_alone_19 fl_X10_19 sh_0 (by decide) (by decide) rf_0_1 ?_
    refine ev_cVV (b := 48) (av := [vR 4]) (S := []) (fun q => q) h dX10_alone_22 (fun Q' q => TX1_asDone_48_4 _ q) kvX1_asDone ml_X10_230 sh_48 rfl (RRc (by decide) (by decide)) (Nat.le_of_ble_eq_true rfl) ⟨Nat.le_of_ble_eq_true rfl, Nat.le_of_ble_eq_true rfl⟩ (fun f2 h => ?_)
    refine ev_ldc (v := (-1000000)) dX10_alone_25 (r32c rfl) kc_X10_196 ?_
    refine ev_istore_n (i := 2) (L' := [some (vR 0), some (vI x1), some (vI (-1000000)), none, none]) dX10_alone_27 rfl (by decide) rfl ?_
    refine ev_iconst dX10_alone_28 (r32c rfl) ?_
    refine ev_istore_n (i := 3) (L' := [some (vR 0), some (vI x1), some (vI (-1000000)), some (vI 0), none]) dX10_alone_29 rfl (by decide) rfl ?_
    exact SX10_alone_30  fu x1 (-1000000) 0 _ h
  · rw [if_pos c3] at h
    refine ev_ldc (v := (-1000000)) dX10_alone_11 (r32c rfl) kc_X10_196 ?_
    exact ev_iret rfl dX10_alone_13 h
def FX10_alone (x1 : Int) (f : Mm) : Option (Int × Mm) := FX10_alone_0 x1 f
theorem TX10_alone {G : GT} {l : Launch} {Q : Option AV → Mem → Prop} (x1 : Int) (f : Mm) (h : OkI Q (FX10_alone x1 f)) : Ret G l MX10_alone (5) 0 0 [vR 0, vI x1] (SH, RF, f) Q := by
  refine ret_of (L := [some (vR 0), some (vI x1), none, none, none]) (by decide) rfl (Nat.le_of_ble_eq_true rfl) ?_
  exact SX10_alone_0 x1 f h
theorem dX10_value_0 : decode cX10_value 0 = .ok (.aload_n 0, 1) := by decide +kernel
theorem dX10_value_1 : decode cX10_value 1 = .ok (.getfield 19, 3) := by decide +kernel
theorem dX10_value_4 : decode cX10_value 4 = .ok (.iload_n 1, 1) := by decide +kernel
theorem dX10_value_5 : decode cX10_value 5 = .ok (.invokevirtual 117, 3) := by decide +kernel
theorem dX10_value_8 : decode cX10_value 8 = .ok (.ifCond .ne 6, 3) := by decide +kernel
theorem dX10_value_14 : decode cX10_value 14 = .ok (.aload_n 0, 1) := by decide +kernel
theorem dX10_value_15 : decode cX10_value 15 = .ok (.invokevirtual 189, 3) := by decide +kernel
theorem dX10_value_18 : decode cX10_value 18 = .ok (.astore_n 2, 1) := by decide +kernel
theorem dX10_value_19 : decode cX10_value 19 = .ok (.aload_n 2, 1) := by decide +kernel
theorem dX10_value_20 : decode cX10_value 20 = .ok (.aload_n 0, 1) := by decide +kernel
theorem dX10_value_21 : decode cX10_value 21 = .ok (.getfield 19, 3) := by decide +kernel
theorem dX10_value_24 : decode cX10_value 24 = .ok (.iconst (-1), 1) := by decide +kernel
theorem dX10_value_25 : decode cX10_value 25 = .ok (.invokevirtual 193, 3) := by decide +kernel
theorem dX10_value_28 : decode cX10_value 28 = .ok (.aload_n 2, 1) := by decide +kernel
theorem dX10_value_29 : decode cX10_value 29 = .ok (.aload_n 0, 1) := by decide +kernel
theorem dX10_value_30 : decode cX10_value 30 = .ok (.getfield 19, 3) := by decide +kernel
theorem dX10_value_33 : decode cX10_value 33 = .ok (.iload_n 1, 1) := by decide +kernel
theorem dX10_value_34 : decode cX10_value 34 = .ok (.invokevirtual 193, 3) := by decide +kernel
theorem dX10_value_37 : decode cX10_value 37 = .ok (.isub, 1) := by decide +kernel
theorem dX10_value_38 : decode cX10_value 38 = .ok (.ireturn, 1) := by decide +kernel
theorem dX10_value_11 : decode cX10_value 11 = .ok (.bipush (-2), 2) := by decide +kernel
theorem dX10_value_13 : decode cX10_value 13 = .ok (.ireturn, 1) := by decide +kernel
def FX10_value_0  (x1 : Int) (f : Mm) : Option (Int × Mm) := (b2 (FX0_hasCart_4 x1 f) fun y1 f1 => (if y1 = 0 then some ((-2), f1) else ((FX10_weighed f1).bind fun f2 => (b2 (FX3_bestGain_57_4 (-1) f2) fun y3 f3 => (b2 (FX3_bestGain_57_4 x1 f3) fun y4 f4 => some ((w32 (y3 - y4)), f4))))))
set_option maxHeartbeats 4000000 in
set_option maxRecDepth 100000 in
theorem SX10_value_0 {G : GT} {l : Launch} {Q : Option AV → Mem → Prop}  (x1 : Int) (f : Mm) (h : OkI Q (FX10_value_0  x1 f)) : Ev G l MX10_value (Rm 6 0 0) (ZM G Q 0 0) 0 0 0 [some (vR 0), some (vI x1), none] [] (SH, RF, f) := by
  unfold FX10_value_0 at h
  refine ev_aload_n (i := 0) dX10_value_0 rfl rfl ?_
  refine ev_getR dX10_value_1 fl_X10_19 sh_0 (by decide) (by decide) rf_0_1 ?_
  refine ev_iload_n (i := 1) dX10_value_4 rfl rfl ?_
  refine ev_cVI (b := 4) (av := [vI x1]) (S := []) (fun q => q) h dX10_value_5 (fun Q' q => TX0_hasCart_4 x1 _ q) kvX0_hasCart ml_X10_117 sh_4 rfl (RRc (by decide) (by decide)) (Nat.le_of_ble_eq_true rfl) ⟨Nat.le_of_ble_eq_true rfl, Nat.le_of_ble_eq_true rfl⟩ (fun y1 f1 h => ?_)
  refine ev_if_ne (tgt := 14) dX10_value_8 (by decide) (fun c5 => ?_) (fun c5 => ?_)
  · rw [if_neg c5] at h
    refine ev_aload_n (i := 0) dX10_value_14 rfl rfl ?_
    refine ev_cVC (b := 0) (av := []) (S := []) (fun q => q) h dX10_value_15 (fun Q' q => TX10_weighed _ q) kvX10_weighed ml_X10_189 sh_0 rfl (RRc (by decide) (by decide)) (Nat.le_of_ble_eq_true rfl) ⟨Nat.le_of_ble_eq_true rfl, Nat.le_of_ble_eq_true rfl⟩ (fun f2 h => ?_)
    refine ev_astore_n (i := 2) (L' := [some (vR 0), some (vI x1), some (vR 57)]) dX10_value_18 rfl (by decide) rfl ?_
    refine ev_aload_n (i := 2) dX10_value_19 rfl rfl ?_
    refine ev_aload_n (i := 0) dX10_value_20 rfl rfl ?_
    refine ev_getR dX10_value_21 fl_X10_19 sh_0 (by decide) (by decide) rf_0_1 ?_
    refine ev_iconst dX10_value_24 (r32c rfl) ?_
    refine ev_cVI (b := 57) (av := [vR 4, vI (-1)]) (S := []) (fun q => q) h dX10_value_25 (fun Q' q => TX3_bestGain_57_4 (-1) _ q) kvX3_bestGain ml_X10_193 sh_57 rfl (RRc (by decide) (by decide)) (Nat.le_of_ble_eq_true rfl) ⟨Nat.le_of_ble_eq_true rfl, Nat.le_of_ble_eq_true rfl⟩ (fun y3 f3 h => ?_)
    refine ev_aload_n (i := 2) dX10_value_28 rfl rfl ?_
    refine ev_aload_n (i := 0) dX10_value_29 rfl rfl ?_
    refine ev_getR dX10_value_30 fl_X10_19 sh_0 (by decide) (by decide) rf_0_1 ?_
    refine ev_iload_n (i := 1) dX10_value_33 rfl rfl ?_
    refine ev_cVI (b := 57) (av := [vR 4, vI x1]) (S := [vI y3]) (fun q => q) h dX10_value_34 (fun Q' q => TX3_bestGain_57_4 x1 _ q) kvX3_bestGain ml_X10_193 sh_57 rfl (RRc (by decide) (by decide)) (Nat.le_of_ble_eq_true rfl) ⟨Nat.le_of_ble_eq_true rfl, Nat.le_of_ble_eq_true rfl⟩ (fun y4 f4 h => ?_)
    refine ev_isub dX10_value_37 ?_
    exact ev_iret rfl dX10_value_38 h
  · rw [if_pos c5] at h
    refine ev_bipush (v := (-2)) dX10_value_11 (r32c rfl) (by decide) ?_
    exact ev_iret rfl dX10_value_13 h
def FX10_value (x1 : Int) (f : Mm) : Option (Int × Mm) := FX10_value_0 x1 f
theorem TX10_value {G : GT} {l : Launch} {Q : Option AV → Mem → Prop} (x1 : Int) (f : Mm) (h : OkI Q (FX10_value x1 f)) : Ret G l MX10_value (6) 0 0 [vR 0, vI x1] (SH, RF, f) Q := by
  refine ret_of (L := [some (vR 0), some (vI x1), none]) (by decide) rfl (Nat.le_of_ble_eq_true rfl) ?_
  exact SX10_value_0 x1 f h
theorem dX3_cheapCost_48 : decode cX3_cheapCost 48 = .ok (.iinc 3 1, 3) := by decide +kernel
theorem dX3_cheapCost_51 : decode cX3_cheapCost 51 = .ok (.goto (-47), 3) := by decide +kernel
theorem dX3_cheapCost_41 : decode cX3_cheapCost 41 = .ok (.aload_n 0, 1) := by decide +kernel
theorem dX3_cheapCost_42 : decode cX3_cheapCost 42 = .ok (.getfield 21, 3) := by decide +kernel
theorem dX3_cheapCost_45 : decode cX3_cheapCost 45 = .ok (.iload_n 3, 1) := by decide +kernel
theorem dX3_cheapCost_46 : decode cX3_cheapCost 46 = .ok (.iaload, 1) := by decide +kernel
theorem dX3_cheapCost_47 : decode cX3_cheapCost 47 = .ok (.istore_n 2, 1) := by decide +kernel
theorem dX3_cheapCost_4 : decode cX3_cheapCost 4 = .ok (.iload_n 3, 1) := by decide +kernel
theorem dX3_cheapCost_5 : decode cX3_cheapCost 5 = .ok (.bipush 64, 2) := by decide +kernel
theorem dX3_cheapCost_7 : decode cX3_cheapCost 7 = .ok (.if_icmp .ge 47, 3) := by decide +kernel
theorem dX3_cheapCost_54 : decode cX3_cheapCost 54 = .ok (.iload_n 2, 1) := by decide +kernel
theorem dX3_cheapCost_55 : decode cX3_cheapCost 55 = .ok (.ireturn, 1) := by decide +kernel
theorem dX3_cheapCost_10 : decode cX3_cheapCost 10 = .ok (.iload_n 3, 1) := by decide +kernel
theorem dX3_cheapCost_11 : decode cX3_cheapCost 11 = .ok (.iload_n 1, 1) := by decide +kernel
theorem dX3_cheapCost_12 : decode cX3_cheapCost 12 = .ok (.iand, 1) := by decide +kernel
theorem dX3_cheapCost_13 : decode cX3_cheapCost 13 = .ok (.iload_n 1, 1) := by decide +kernel
theorem dX3_cheapCost_14 : decode cX3_cheapCost 14 = .ok (.if_icmp .ne 34, 3) := by decide +kernel
theorem dX3_cheapCost_17 : decode cX3_cheapCost 17 = .ok (.aload_n 0, 1) := by decide +kernel
theorem dX3_cheapCost_18 : decode cX3_cheapCost 18 = .ok (.getfield 18, 3) := by decide +kernel
theorem dX3_cheapCost_21 : decode cX3_cheapCost 21 = .ok (.iload_n 3, 1) := by decide +kernel
theorem dX3_cheapCost_22 : decode cX3_cheapCost 22 = .ok (.iaload, 1) := by decide +kernel
theorem dX3_cheapCost_23 : decode cX3_cheapCost 23 = .ok (.ifCond .le 25, 3) := by decide +kernel
theorem dX3_cheapCost_26 : decode cX3_cheapCost 26 = .ok (.iload_n 2, 1) := by decide +kernel
theorem dX3_cheapCost_27 : decode cX3_cheapCost 27 = .ok (.iconst (-1), 1) := by decide +kernel
theorem dX3_cheapCost_28 : decode cX3_cheapCost 28 = .ok (.if_icmp .eq 13, 3) := by decide +kernel
theorem dX3_cheapCost_31 : decode cX3_cheapCost 31 = .ok (.aload_n 0, 1) := by decide +kernel
theorem dX3_cheapCost_32 : decode cX3_cheapCost 32 = .ok (.getfield 21, 3) := by decide +kernel
theorem dX3_cheapCost_35 : decode cX3_cheapCost 35 = .ok (.iload_n 3, 1) := by decide +kernel
theorem dX3_cheapCost_36 : decode cX3_cheapCost 36 = .ok (.iaload, 1) := by decide +kernel
theorem dX3_cheapCost_37 : decode cX3_cheapCost 37 = .ok (.iload_n 2, 1) := by decide +kernel
theorem dX3_cheapCost_38 : decode cX3_cheapCost 38 = .ok (.if_icmp .ge 10, 3) := by decide +kernel
theorem dX3_cheapCost_0 : decode cX3_cheapCost 0 = .ok (.iconst (-1), 1) := by decide +kernel
theorem dX3_cheapCost_1 : decode cX3_cheapCost 1 = .ok (.istore_n 2, 1) := by decide +kernel
theorem dX3_cheapCost_2 : decode cX3_cheapCost 2 = .ok (.iload_n 1, 1) := by decide +kernel
theorem dX3_cheapCost_3 : decode cX3_cheapCost 3 = .ok (.istore_n 3, 1) := by decide +kernel
def FX3_cheapCost_48 (k4 : Int → Int → Int → Mm → Option (Int × Mm)) (x1 : Int) (x2 : Int) (x3 : Int) (f : Mm) : Option (Int × Mm) := k4 x1 x2 (w32 (x3 + 1)) f
set_option maxHeartbeats 4000000 in
set_option maxRecDepth 100000 in
theorem SX3_cheapCost_48 {G : GT} {l : Launch} {Q : Option AV → Mem → Prop} {k4 : Int → Int → Int → Mm → Option (Int × Mm)} (q4 : ∀ (x1 : Int) (x2 : Int) (x3 : Int) (f : Mm), OkI Q (k4 x1 x2 x3 f) → Ev G l MX3_cheapCost (Rm 1 0 0) (ZM G Q 0 0) 0 0 4 [some (vR 57), some (vI x1), some (vI x2), some (vI x3)] [] (SH, RF, f)) (x1 : Int) (x2 : Int) (x3 : Int) (f : Mm) (h : OkI Q (FX3_cheapCost_48 k4 x1 x2 x3 f)) : Ev G l MX3_cheapCost (Rm 1 0 0) (ZM G Q 0 0) 0 0 48 [some (vR 57), some (vI x1), some (vI x2), some (vI x3)] [] (SH, RF, f) := by
  unfold FX3_cheapCost_48 at h
  refine ev_iinc (L' := [some (vR 57), some (vI x1), some (vI x2), some (vI (w32 (x3 + 1)))]) dX3_cheapCost_48 rfl (by decide) rfl ?_
  refine ev_goto (tgt := 4) dX3_cheapCost_51 (by decide) ?_
  exact q4 x1 x2 (w32 (x3 + 1)) _ h
def FX3_cheapCost_41 (k4 : Int → Int → Int → Mm → Option (Int × Mm)) (x1 : Int) (x3 : Int) (f : Mm) : Option (Int × Mm) := (if 0 ≤ x3 ∧ x3 < 64 then FX3_cheapCost_48 k4 x1 (f 61 x3.toNat) x3 f else none)
set_option maxHeartbeats 4000000 in
set_option maxRecDepth 100000 in
theorem SX3_cheapCost_41 {G : GT} {l : Launch} {Q : Option AV → Mem → Prop} {k4 : Int → Int → Int → Mm → Option (Int × Mm)} (q4 : ∀ (x1 : Int) (x2 : Int) (x3 : Int) (f : Mm), OkI Q (k4 x1 x2 x3 f) → Ev G l MX3_cheapCost (Rm 1 0 0) (ZM G Q 0 0) 0 0 4 [some (vR 57), some (vI x1), some (vI x2), some (vI x3)] [] (SH, RF, f)) (x1 : Int) (x3 : Int) (f : Mm) (h : OkI Q (FX3_cheapCost_41 k4 x1 x3 f)) : Ev G l MX3_cheapCost (Rm 1 0 0) (ZM G Q 0 0) 0 0 41 [some (vR 57), some (vI x1), none, some (vI x3)] [] (SH, RF, f) := by
  unfold FX3_cheapCost_41 at h
  refine ev_aload_n (i := 0) dX3_cheapCost_41 rfl rfl ?_
  refine ev_getR dX3_cheapCost_42 fl_X3_21 sh_57 (by decide) (by decide) rf_57_6 ?_
  refine ev_iload_n (i := 3) dX3_cheapCost_45 rfl rfl ?_
  by_cases g1 : 0 ≤ x3 ∧ x3 < 64
  · rw [if_pos g1] at h
    refine ex_iald (x := (f 61 x3.toNat)) dX3_cheapCost_46 sh_61 g1.1 g1.2 rfl ?_
    refine ev_istore_n (i := 2) (L' := [some (vR 57), some (vI x1), some (vI (f 61 x3.toNat)), some (vI x3)]) dX3_cheapCost_47 rfl (by decide) rfl ?_
    exact SX3_cheapCost_48 q4 x1 (f 61 x3.toNat) x3 _ h
  · rw [if_neg g1] at h; exact h.elim
def FX3_cheapCost_4  : Nat → Int → Int → Int → Mm → Option (Int × Mm)
  | 0, _, _, _, _ => none
  | n + 1, x1, x2, x3, f => (if 64 ≤ x3 then some (x2, f) else (if (bAnd x3 x1) = x1 then (if 0 ≤ x3 ∧ x3 < 64 then (if (f 60 x3.toNat) ≤ 0 then FX3_cheapCost_48 (FX3_cheapCost_4 n) x1 x2 x3 f else (if x2 = (-1) then FX3_cheapCost_41 (FX3_cheapCost_4 n) x1 x3 f else (if 0 ≤ x3 ∧ x3 < 64 then (if x2 ≤ (f 61 x3.toNat) then FX3_cheapCost_48 (FX3_cheapCost_4 n) x1 x2 x3 f else FX3_cheapCost_41 (FX3_cheapCost_4 n) x1 x3 f) else none))) else none) else FX3_cheapCost_48 (FX3_cheapCost_4 n) x1 x2 x3 f))
set_option maxHeartbeats 4000000 in
set_option maxRecDepth 100000 in
theorem SX3_cheapCost_4 {G : GT} {l : Launch} {Q : Option AV → Mem → Prop}  : ∀ (n : Nat) (x1 : Int) (x2 : Int) (x3 : Int) (f : Mm), OkI Q (FX3_cheapCost_4  n x1 x2 x3 f) → Ev G l MX3_cheapCost (Rm 1 0 0) (ZM G Q 0 0) 0 0 4 [some (vR 57), some (vI x1), some (vI x2), some (vI x3)] [] (SH, RF, f) := by
  intro n
  induction n with
  | zero => intro x1 x2 x3 f h; exact absurd h (by rw [FX3_cheapCost_4]; exact fun q => q)
  | succ n ih =>
    intro x1 x2 x3 f h
    rw [FX3_cheapCost_4] at h
    refine ev_iload_n (i := 3) dX3_cheapCost_4 rfl rfl ?_
    refine ev_bipush (v := 64) dX3_cheapCost_5 (r32c rfl) (by decide) ?_
    refine ev_icmp_ge (tgt := 54) dX3_cheapCost_7 (by decide) (fun c7 => ?_) (fun c7 => ?_)
    · rw [if_pos c7] at h
      refine ev_iload_n (i := 2) dX3_cheapCost_54 rfl rfl ?_
      exact ev_iret rfl dX3_cheapCost_55 h
    · rw [if_neg c7] at h
      refine ev_iload_n (i := 3) dX3_cheapCost_10 rfl rfl ?_
      refine ev_iload_n (i := 1) dX3_cheapCost_11 rfl rfl ?_
      refine ev_iand dX3_cheapCost_12 ?_
      refine ev_iload_n (i := 1) dX3_cheapCost_13 rfl rfl ?_
      refine ev_icmp_ne (tgt := 48) dX3_cheapCost_14 (by decide) (fun c6 => ?_) (fun c6 => ?_)
      · rw [if_neg c6] at h
        exact SX3_cheapCost_48 ih x1 x2 x3 _ h
      · rw [if_pos c6] at h
        refine ev_aload_n (i := 0) dX3_cheapCost_17 rfl rfl ?_
        refine ev_getR dX3_cheapCost_18 fl_X3_18 sh_57 (by decide) (by decide) rf_57_5 ?_
        refine ev_iload_n (i := 3) dX3_cheapCost_21 rfl rfl ?_
        by_cases g1 : 0 ≤ x3 ∧ x3 < 64
        · rw [if_pos g1] at h
          refine ex_iald (x := (f 60 x3.toNat)) dX3_cheapCost_22 sh_60 g1.1 g1.2 rfl ?_
          refine ev_if_le (tgt := 48) dX3_cheapCost_23 (by decide) (fun c5 => ?_) (fun c5 => ?_)
          · rw [if_pos c5] at h
            exact SX3_cheapCost_48 ih x1 x2 x3 _ h
          · rw [if_neg c5] at h
            refine ev_iload_n (i := 2) dX3_cheapCost_26 rfl rfl ?_
            refine ev_iconst dX3_cheapCost_27 (r32c rfl) ?_
            refine ev_icmp_eq (tgt := 41) dX3_cheapCost_28 (by decide) (fun c4 => ?_) (fun c4 => ?_)
            · rw [if_pos c4] at h
              refine ev_fg [true, true, false, true] rfl ?_
              exact SX3_cheapCost_41 ih x1 x3 _ h
            · rw [if_neg c4] at h
              refine ev_aload_n (i := 0) dX3_cheapCost_31 rfl rfl ?_
              refine ev_getR dX3_cheapCost_32 fl_X3_21 sh_57 (by decide) (by decide) rf_57_6 ?_
              refine ev_iload_n (i := 3) dX3_cheapCost_35 rfl rfl ?_
              by_cases g2 : 0 ≤ x3 ∧ x3 < 64
              · rw [if_pos g2] at h
                refine ex_iald (x := (f 61 x3.toNat)) dX3_cheapCost_36 sh_61 g2.1 g2.2 rfl ?_
                refine ev_iload_n (i := 2) dX3_cheapCost_37 rfl rfl ?_
                refine ev_icmp_ge (tgt := 48) dX3_cheapCost_38 (by decide) (fun c3 => ?_) (fun c3 => ?_)
                · rw [if_pos c3] at h
                  exact SX3_cheapCost_48 ih x1 x2 x3 _ h
                · rw [if_neg c3] at h
                  refine ev_fg [true, true, false, true] rfl ?_
                  exact SX3_cheapCost_41 ih x1 x3 _ h
              · rw [if_neg g2] at h; exact h.elim
        · rw [if_neg g1] at h; exact h.elim
def FX3_cheapCost_0  (x1 : Int) (f : Mm) : Option (Int × Mm) := FX3_cheapCost_4 fu x1 (-1) x1 f
set_option maxHeartbeats 4000000 in
set_option maxRecDepth 100000 in
theorem SX3_cheapCost_0 {G : GT} {l : Launch} {Q : Option AV → Mem → Prop}  (x1 : Int) (f : Mm) (h : OkI Q (FX3_cheapCost_0  x1 f)) : Ev G l MX3_cheapCost (Rm 1 0 0) (ZM G Q 0 0) 0 0 0 [some (vR 57), some (vI x1), none, none] [] (SH, RF, f) := by
  unfold FX3_cheapCost_0 at h
  refine ev_iconst dX3_cheapCost_0 (r32c rfl) ?_
  refine ev_istore_n (i := 2) (L' := [some (vR 57), some (vI x1), some (vI (-1)), none]) dX3_cheapCost_1 rfl (by decide) rfl ?_
  refine ev_iload_n (i := 1) dX3_cheapCost_2 rfl rfl ?_
  refine ev_istore_n (i := 3) (L' := [some (vR 57), some (vI x1), some (vI (-1)), some (vI x1)]) dX3_cheapCost_3 rfl (by decide) rfl ?_
  exact SX3_cheapCost_4  fu x1 (-1) x1 _ h
def FX3_cheapCost (x1 : Int) (f : Mm) : Option (Int × Mm) := FX3_cheapCost_0 x1 f
theorem TX3_cheapCost {G : GT} {l : Launch} {Q : Option AV → Mem → Prop} (x1 : Int) (f : Mm) (h : OkI Q (FX3_cheapCost x1 f)) : Ret G l MX3_cheapCost (1) 0 0 [vR 57, vI x1] (SH, RF, f) Q := by
  refine ret_of (L := [some (vR 57), some (vI x1), none, none]) (by decide) rfl (Nat.le_of_ble_eq_true rfl) ?_
  exact SX3_cheapCost_0 x1 f h
theorem dX10_sets_45 : decode cX10_sets 45 = .ok (.iinc 3 1, 3) := by decide +kernel
theorem dX10_sets_48 : decode cX10_sets 48 = .ok (.goto (-26), 3) := by decide +kernel
theorem dX10_sets_22 : decode cX10_sets 22 = .ok (.iload_n 3, 1) := by decide +kernel
theorem dX10_sets_23 : decode cX10_sets 23 = .ok (.aload_n 0, 1) := by decide +kernel
theorem dX10_sets_24 : decode cX10_sets 24 = .ok (.getfield 19, 3) := by decide +kernel
theorem dX10_sets_27 : decode cX10_sets 27 = .ok (.invokevirtual 168, 3) := by decide +kernel
theorem dX10_sets_30 : decode cX10_sets 30 = .ok (.if_icmp .gt 21, 3) := by decide +kernel
theorem dX10_sets_51 : decode cX10_sets 51 = .ok (.iload_n 2, 1) := by decide +kernel
theorem dX10_sets_52 : decode cX10_sets 52 = .ok (.ireturn, 1) := by decide +kernel
theorem dX10_sets_33 : decode cX10_sets 33 = .ok (.aload_n 1, 1) := by decide +kernel
theorem dX10_sets_34 : decode cX10_sets 34 = .ok (.iload_n 3, 1) := by decide +kernel
theorem dX10_sets_35 : decode cX10_sets 35 = .ok (.invokevirtual 236, 3) := by decide +kernel
theorem dX10_sets_38 : decode cX10_sets 38 = .ok (.iconst (-1), 1) := by decide +kernel
theorem dX10_sets_39 : decode cX10_sets 39 = .ok (.if_icmp .eq 6, 3) := by decide +kernel
theorem dX10_sets_42 : decode cX10_sets 42 = .ok (.iinc 2 1, 3) := by decide +kernel
theorem dX10_sets_0 : decode cX10_sets 0 = .ok (.aload_n 0, 1) := by decide +kernel
theorem dX10_sets_1 : decode cX10_sets 1 = .ok (.getfield 19, 3) := by decide +kernel
theorem dX10_sets_4 : decode cX10_sets 4 = .ok (.invokevirtual 140, 3) := by decide +kernel
theorem dX10_sets_7 : decode cX10_sets 7 = .ok (.ifCond .ne 6, 3) := by decide +kernel
theorem dX10_sets_13 : decode cX10_sets 13 = .ok (.aload_n 0, 1) := by decide +kernel
theorem dX10_sets_14 : decode cX10_sets 14 = .ok (.invokevirtual 189, 3) := by decide +kernel
theorem dX10_sets_17 : decode cX10_sets 17 = .ok (.astore_n 1, 1) := by decide +kernel
theorem dX10_sets_18 : decode cX10_sets 18 = .ok (.iconst 0, 1) := by decide +kernel
theorem dX10_sets_19 : decode cX10_sets 19 = .ok (.istore_n 2, 1) := by decide +kernel
theorem dX10_sets_20 : decode cX10_sets 20 = .ok (.iconst 0, 1) := by decide +kernel
theorem dX10_sets_21 : decode cX10_sets 21 = .ok (.istore_n 3, 1) := by decide +kernel
theorem dX10_sets_10 : decode cX10_sets 10 = .ok (.bipush (-2), 2) := by decide +kernel
theorem dX10_sets_12 : decode cX10_sets 12 = .ok (.ireturn, 1) := by decide +kernel
def FX10_sets_45 (k22 : Int → Int → Mm → Option (Int × Mm)) (x2 : Int) (x3 : Int) (f : Mm) : Option (Int × Mm) := k22 x2 (w32 (x3 + 1)) f
set_option maxHeartbeats 4000000 in
set_option maxRecDepth 100000 in
theorem SX10_sets_45 {G : GT} {l : Launch} {Q : Option AV → Mem → Prop} {k22 : Int → Int → Mm → Option (Int × Mm)} (q22 : ∀ (x2 : Int) (x3 : Int) (f : Mm), OkI Q (k22 x2 x3 f) → Ev G l MX10_sets (Rm 6 0 0) (ZM G Q 0 0) 0 0 22 [some (vR 0), some (vR 57), some (vI x2), some (vI x3)] [] (SH, RF, f)) (x2 : Int) (x3 : Int) (f : Mm) (h : OkI Q (FX10_sets_45 k22 x2 x3 f)) : Ev G l MX10_sets (Rm 6 0 0) (ZM G Q 0 0) 0 0 45 [some (vR 0), some (vR 57), some (vI x2), some (vI x3)] [] (SH, RF, f) := by
  unfold FX10_sets_45 at h
  refine ev_iinc (L' := [some (vR 0), some (vR 57), some (vI x2), some (vI (w32 (x3 + 1)))]) dX10_sets_45 rfl (by decide) rfl ?_
  refine ev_goto (tgt := 22) dX10_sets_48 (by decide) ?_
  exact q22 x2 (w32 (x3 + 1)) _ h
def FX10_sets_22  : Nat → Int → Int → Mm → Option (Int × Mm)
  | 0, _, _, _ => none
  | n + 1, x2, x3, f => (b2 (FX0_allCarts_4 f) fun y1 f1 => (if y1 < x3 then some (x2, f1) else (b2 (FX3_cheapCost x3 f1) fun y2 f2 => (if y2 = (-1) then FX10_sets_45 (FX10_sets_22 n) x2 x3 f2 else FX10_sets_45 (FX10_sets_22 n) (w32 (x2 + 1)) x3 f2))))
set_option maxHeartbeats 4000000 in
set_option maxRecDepth 100000 in
theorem SX10_sets_22 {G : GT} {l : Launch} {Q : Option AV → Mem → Prop}  : ∀ (n : Nat) (x2 : Int) (x3 : Int) (f : Mm), OkI Q (FX10_sets_22  n x2 x3 f) → Ev G l MX10_sets (Rm 6 0 0) (ZM G Q 0 0) 0 0 22 [some (vR 0), some (vR 57), some (vI x2), some (vI x3)] [] (SH, RF, f) := by
  intro n
  induction n with
  | zero => intro x2 x3 f h; exact absurd h (by rw [FX10_sets_22]; exact fun q => q)
  | succ n ih =>
    intro x2 x3 f h
    rw [FX10_sets_22] at h
    refine ev_iload_n (i := 3) dX10_sets_22 rfl rfl ?_
    refine ev_aload_n (i := 0) dX10_sets_23 rfl rfl ?_
    refine ev_getR dX10_sets_24 fl_X10_19 sh_0 (by decide) (by decide) rf_0_1 ?_
    refine ev_cVI (b := 4) (av := []) (S := [vI x3]) (fun q => q) h dX10_sets_27 (fun Q' q => TX0_allCarts_4 _ q) kvX0_allCarts ml_X10_168 sh_4 rfl (RRc (by decide) (by decide)) (Nat.le_of_ble_eq_true rfl) ⟨Nat.le_of_ble_eq_true rfl, Nat.le_of_ble_eq_true rfl⟩ (fun y1 f1 h => ?_)
    refine ev_icmp_gt (tgt := 51) dX10_sets_30 (by decide) (fun c4 => ?_) (fun c4 => ?_)
    · rw [if_pos c4] at h
      refine ev_iload_n (i := 2) dX10_sets_51 rfl rfl ?_
      exact ev_iret rfl dX10_sets_52 h
    · rw [if_neg c4] at h
      refine ev_aload_n (i := 1) dX10_sets_33 rfl rfl ?_
      refine ev_iload_n (i := 3) dX10_sets_34 rfl rfl ?_
      refine ev_cVI (b := 57) (av := [vI x3]) (S := []) (fun q => q) h dX10_sets_35 (fun Q' q => TX3_cheapCost x3 _ q) kvX3_cheapCost ml_X10_236 sh_57 rfl (RRc (by decide) (by decide)) (Nat.le_of_ble_eq_true rfl) ⟨Nat.le_of_ble_eq_true rfl, Nat.le_of_ble_eq_true rfl⟩ (fun y2 f2 h => ?_)
      refine ev_iconst dX10_sets_38 (r32c rfl) ?_
      refine ev_icmp_eq (tgt := 45) dX10_sets_39 (by decide) (fun c3 => ?_) (fun c3 => ?_)
      · rw [if_pos c3] at h
        exact SX10_sets_45 ih x2 x3 _ h
      · rw [if_neg c3] at h
        refine ev_iinc (L' := [some (vR 0), some (vR 57), some (vI (w32 (x2 + 1))), some (vI x3)]) dX10_sets_42 rfl (by decide) rfl ?_
        exact SX10_sets_45 ih (w32 (x2 + 1)) x3 _ h
def FX10_sets_0   (f : Mm) : Option (Int × Mm) := (b2 (FX0_stands_4 f) fun y1 f1 => (if y1 = 0 then some ((-2), f1) else ((FX10_weighed f1).bind fun f2 => FX10_sets_22 fu 0 0 f2)))
set_option maxHeartbeats 4000000 in
set_option maxRecDepth 100000 in
theorem SX10_sets_0 {G : GT} {l : Launch} {Q : Option AV → Mem → Prop}   (f : Mm) (h : OkI Q (FX10_sets_0   f)) : Ev G l MX10_sets (Rm 6 0 0) (ZM G Q 0 0) 0 0 0 [some (vR 0), none, none, none] [] (SH, RF, f) := by
  unfold FX10_sets_0 at h
  refine ev_aload_n (i := 0) dX10_sets_0 rfl rfl ?_
  refine ev_getR dX10_sets_1 fl_X10_19 sh_0 (by decide) (by decide) rf_0_1 ?_
  refine ev_cVI (b := 4) (av := []) (S := []) (fun q => q) h dX10_sets_4 (fun Q' q => TX0_stands_4 _ q) kvX0_stands ml_X10_140 sh_4 rfl (RRc (by decide) (by decide)) (Nat.le_of_ble_eq_true rfl) ⟨Nat.le_of_ble_eq_true rfl, Nat.le_of_ble_eq_true rfl⟩ (fun y1 f1 h => ?_)
  refine ev_if_ne (tgt := 13) dX10_sets_7 (by decide) (fun c3 => ?_) (fun c3 => ?_)
  · rw [if_neg c3] at h
    refine ev_aload_n (i := 0) dX10_sets_13 rfl rfl ?_
    refine ev_cVC (b := 0) (av := []) (S := []) (fun q => q) h dX10_sets_14 (fun Q' q => TX10_weighed _ q) kvX10_weighed ml_X10_189 sh_0 rfl (RRc (by decide) (by decide)) (Nat.le_of_ble_eq_true rfl) ⟨Nat.le_of_ble_eq_true rfl, Nat.le_of_ble_eq_true rfl⟩ (fun f2 h => ?_)
    refine ev_astore_n (i := 1) (L' := [some (vR 0), some (vR 57), none, none]) dX10_sets_17 rfl (by decide) rfl ?_
    refine ev_iconst dX10_sets_18 (r32c rfl) ?_
    refine ev_istore_n (i := 2) (L' := [some (vR 0), some (vR 57), some (vI 0), none]) dX10_sets_19 rfl (by decide) rfl ?_
    refine ev_iconst dX10_sets_20 (r32c rfl) ?_
    refine ev_istore_n (i := 3) (L' := [some (vR 0), some (vR 57), some (vI 0), some (vI 0)]) dX10_sets_21 rfl (by decide) rfl ?_
    exact SX10_sets_22  fu 0 0 _ h
  · rw [if_pos c3] at h
    refine ev_bipush (v := (-2)) dX10_sets_10 (r32c rfl) (by decide) ?_
    exact ev_iret rfl dX10_sets_12 h
def FX10_sets  (f : Mm) : Option (Int × Mm) := FX10_sets_0  f
theorem TX10_sets {G : GT} {l : Launch} {Q : Option AV → Mem → Prop}  (f : Mm) (h : OkI Q (FX10_sets  f)) : Ret G l MX10_sets (6) 0 0 [vR 0] (SH, RF, f) Q := by
  refine ret_of (L := [some (vR 0), none, none, none]) (by decide) rfl (Nat.le_of_ble_eq_true rfl) ?_
  exact SX10_sets_0  f h
theorem dX3_plansKeeping_27 : decode cX3_plansKeeping 27 = .ok (.iinc 3 1, 3) := by decide +kernel
theorem dX3_plansKeeping_30 : decode cX3_plansKeeping 30 = .ok (.goto (-26), 3) := by decide +kernel
theorem dX3_plansKeeping_4 : decode cX3_plansKeeping 4 = .ok (.iload_n 3, 1) := by decide +kernel
theorem dX3_plansKeeping_5 : decode cX3_plansKeeping 5 = .ok (.bipush 64, 2) := by decide +kernel
theorem dX3_plansKeeping_7 : decode cX3_plansKeeping 7 = .ok (.if_icmp .ge 26, 3) := by decide +kernel
theorem dX3_plansKeeping_33 : decode cX3_plansKeeping 33 = .ok (.iload_n 2, 1) := by decide +kernel
theorem dX3_plansKeeping_34 : decode cX3_plansKeeping 34 = .ok (.ireturn, 1) := by decide +kernel
theorem dX3_plansKeeping_10 : decode cX3_plansKeeping 10 = .ok (.iload_n 3, 1) := by decide +kernel
theorem dX3_plansKeeping_11 : decode cX3_plansKeeping 11 = .ok (.iload_n 1, 1) := by decide +kernel
theorem dX3_plansKeeping_12 : decode cX3_plansKeeping 12 = .ok (.invokestatic 114, 3) := by decide +kernel
theorem dX3_plansKeeping_15 : decode cX3_plansKeeping 15 = .ok (.ifCond .eq 12, 3) := by decide +kernel
theorem dX3_plansKeeping_18 : decode cX3_plansKeeping 18 = .ok (.iload_n 2, 1) := by decide +kernel
theorem dX3_plansKeeping_19 : decode cX3_plansKeeping 19 = .ok (.aload_n 0, 1) := by decide +kernel
theorem dX3_plansKeeping_20 : decode cX3_plansKeeping 20 = .ok (.getfield 18, 3) := by decide +kernel
theorem dX3_plansKeeping_23 : decode cX3_plansKeeping 23 = .ok (.iload_n 3, 1) := by decide +kernel
theorem dX3_plansKeeping_24 : decode cX3_plansKeeping 24 = .ok (.iaload, 1) := by decide +kernel
theorem dX3_plansKeeping_25 : decode cX3_plansKeeping 25 = .ok (.iadd, 1) := by decide +kernel
theorem dX3_plansKeeping_26 : decode cX3_plansKeeping 26 = .ok (.istore_n 2, 1) := by decide +kernel
theorem dX3_plansKeeping_0 : decode cX3_plansKeeping 0 = .ok (.iconst 0, 1) := by decide +kernel
theorem dX3_plansKeeping_1 : decode cX3_plansKeeping 1 = .ok (.istore_n 2, 1) := by decide +kernel
theorem dX3_plansKeeping_2 : decode cX3_plansKeeping 2 = .ok (.iconst 0, 1) := by decide +kernel
theorem dX3_plansKeeping_3 : decode cX3_plansKeeping 3 = .ok (.istore_n 3, 1) := by decide +kernel
def FX3_plansKeeping_27 (k4 : Int → Int → Int → Mm → Option (Int × Mm)) (x1 : Int) (x2 : Int) (x3 : Int) (f : Mm) : Option (Int × Mm) := k4 x1 x2 (w32 (x3 + 1)) f
set_option maxHeartbeats 4000000 in
set_option maxRecDepth 100000 in
theorem SX3_plansKeeping_27 {G : GT} {l : Launch} {Q : Option AV → Mem → Prop} {k4 : Int → Int → Int → Mm → Option (Int × Mm)} (q4 : ∀ (x1 : Int) (x2 : Int) (x3 : Int) (f : Mm), OkI Q (k4 x1 x2 x3 f) → Ev G l MX3_plansKeeping (Rm 2 0 0) (ZM G Q 0 0) 0 0 4 [some (vR 57), some (vI x1), some (vI x2), some (vI x3)] [] (SH, RF, f)) (x1 : Int) (x2 : Int) (x3 : Int) (f : Mm) (h : OkI Q (FX3_plansKeeping_27 k4 x1 x2 x3 f)) : Ev G l MX3_plansKeeping (Rm 2 0 0) (ZM G Q 0 0) 0 0 27 [some (vR 57), some (vI x1), some (vI x2), some (vI x3)] [] (SH, RF, f) := by
  unfold FX3_plansKeeping_27 at h
  refine ev_iinc (L' := [some (vR 57), some (vI x1), some (vI x2), some (vI (w32 (x3 + 1)))]) dX3_plansKeeping_27 rfl (by decide) rfl ?_
  refine ev_goto (tgt := 4) dX3_plansKeeping_30 (by decide) ?_
  exact q4 x1 x2 (w32 (x3 + 1)) _ h
def FX3_plansKeeping_4  : Nat → Int → Int → Int → Mm → Option (Int × Mm)
  | 0, _, _, _, _ => none
  | n + 1, x1, x2, x3, f => (if 64 ≤ x3 then some (x2, f) else (b2 (FX10_holds x3 x1 f) fun y1 f1 => (if y1 = 0 then FX3_plansKeeping_27 (FX3_plansKeeping_4 n) x1 x2 x3 f1 else (if 0 ≤ x3 ∧ x3 < 64 then FX3_plansKeeping_27 (FX3_plansKeeping_4 n) x1 (w32 (x2 + (f1 60 x3.toNat))) x3 f1 else none))))
set_option maxHeartbeats 4000000 in
set_option maxRecDepth 100000 in
theorem SX3_plansKeeping_4 {G : GT} {l : Launch} {Q : Option AV → Mem → Prop}  : ∀ (n : Nat) (x1 : Int) (x2 : Int) (x3 : Int) (f : Mm), OkI Q (FX3_plansKeeping_4  n x1 x2 x3 f) → Ev G l MX3_plansKeeping (Rm 2 0 0) (ZM G Q 0 0) 0 0 4 [some (vR 57), some (vI x1), some (vI x2), some (vI x3)] [] (SH, RF, f) := by
  intro n
  induction n with
  | zero => intro x1 x2 x3 f h; exact absurd h (by rw [FX3_plansKeeping_4]; exact fun q => q)
  | succ n ih =>
    intro x1 x2 x3 f h
    rw [FX3_plansKeeping_4] at h
    refine ev_iload_n (i := 3) dX3_plansKeeping_4 rfl rfl ?_
    refine ev_bipush (v := 64) dX3_plansKeeping_5 (r32c rfl) (by decide) ?_
    refine ev_icmp_ge (tgt := 33) dX3_plansKeeping_7 (by decide) (fun c4 => ?_) (fun c4 => ?_)
    · rw [if_pos c4] at h
      refine ev_iload_n (i := 2) dX3_plansKeeping_33 rfl rfl ?_
      exact ev_iret rfl dX3_plansKeeping_34 h
    · rw [if_neg c4] at h
      refine ev_iload_n (i := 3) dX3_plansKeeping_10 rfl rfl ?_
      refine ev_iload_n (i := 1) dX3_plansKeeping_11 rfl rfl ?_
      refine ev_cNI (av := [vI x3, vI x1]) (S := []) (fun q => q) h dX3_plansKeeping_12 (fun Q' q => TX10_holds x3 x1 _ q) ksX10_holds nw_X3_114 rfl (RRc (by decide) (by decide)) (Nat.le_of_ble_eq_true rfl) ⟨Nat.le_of_ble_eq_true rfl, Nat.le_of_ble_eq_true rfl⟩ (fun y1 f1 h => ?_)
      refine ev_if_eq (tgt := 27) dX3_plansKeeping_15 (by decide) (fun c3 => ?_) (fun c3 => ?_)
      · rw [if_pos c3] at h
        exact SX3_plansKeeping_27 ih x1 x2 x3 _ h
      · rw [if_neg c3] at h
        refine ev_iload_n (i := 2) dX3_plansKeeping_18 rfl rfl ?_
        refine ev_aload_n (i := 0) dX3_plansKeeping_19 rfl rfl ?_
        refine ev_getR dX3_plansKeeping_20 fl_X3_18 sh_57 (by decide) (by decide) rf_57_5 ?_
        refine ev_iload_n (i := 3) dX3_plansKeeping_23 rfl rfl ?_
        by_cases g2 : 0 ≤ x3 ∧ x3 < 64
        · rw [if_pos g2] at h
          refine ex_iald (x := (f1 60 x3.toNat)) dX3_plansKeeping_24 sh_60 g2.1 g2.2 rfl ?_
          refine ev_iadd dX3_plansKeeping_25 ?_
          refine ev_istore_n (i := 2) (L' := [some (vR 57), some (vI x1), some (vI (w32 (x2 + (f1 60 x3.toNat)))), some (vI x3)]) dX3_plansKeeping_26 rfl (by decide) rfl ?_
          exact SX3_plansKeeping_27 ih x1 (w32 (x2 + (f1 60 x3.toNat))) x3 _ h
        · rw [if_neg g2] at h; exact h.elim
def FX3_plansKeeping_0  (x1 : Int) (f : Mm) : Option (Int × Mm) := FX3_plansKeeping_4 fu x1 0 0 f
set_option maxHeartbeats 4000000 in
set_option maxRecDepth 100000 in
theorem SX3_plansKeeping_0 {G : GT} {l : Launch} {Q : Option AV → Mem → Prop}  (x1 : Int) (f : Mm) (h : OkI Q (FX3_plansKeeping_0  x1 f)) : Ev G l MX3_plansKeeping (Rm 2 0 0) (ZM G Q 0 0) 0 0 0 [some (vR 57), some (vI x1), none, none] [] (SH, RF, f) := by
  unfold FX3_plansKeeping_0 at h
  refine ev_iconst dX3_plansKeeping_0 (r32c rfl) ?_
  refine ev_istore_n (i := 2) (L' := [some (vR 57), some (vI x1), some (vI 0), none]) dX3_plansKeeping_1 rfl (by decide) rfl ?_
  refine ev_iconst dX3_plansKeeping_2 (r32c rfl) ?_
  refine ev_istore_n (i := 3) (L' := [some (vR 57), some (vI x1), some (vI 0), some (vI 0)]) dX3_plansKeeping_3 rfl (by decide) rfl ?_
  exact SX3_plansKeeping_4  fu x1 0 0 _ h
def FX3_plansKeeping (x1 : Int) (f : Mm) : Option (Int × Mm) := FX3_plansKeeping_0 x1 f
theorem TX3_plansKeeping {G : GT} {l : Launch} {Q : Option AV → Mem → Prop} (x1 : Int) (f : Mm) (h : OkI Q (FX3_plansKeeping x1 f)) : Ret G l MX3_plansKeeping (2) 0 0 [vR 57, vI x1] (SH, RF, f) Q := by
  refine ret_of (L := [some (vR 57), some (vI x1), none, none]) (by decide) rfl (Nat.le_of_ble_eq_true rfl) ?_
  exact SX3_plansKeeping_0 x1 f h
theorem dX10_often_0 : decode cX10_often 0 = .ok (.aload_n 0, 1) := by decide +kernel
theorem dX10_often_1 : decode cX10_often 1 = .ok (.getfield 19, 3) := by decide +kernel
theorem dX10_often_4 : decode cX10_often 4 = .ok (.iload_n 1, 1) := by decide +kernel
theorem dX10_often_5 : decode cX10_often 5 = .ok (.invokevirtual 117, 3) := by decide +kernel
theorem dX10_often_8 : decode cX10_often 8 = .ok (.ifCond .eq 14, 3) := by decide +kernel
theorem dX10_often_22 : decode cX10_often 22 = .ok (.bipush (-2), 2) := by decide +kernel
theorem dX10_often_24 : decode cX10_often 24 = .ok (.ireturn, 1) := by decide +kernel
theorem dX10_often_11 : decode cX10_often 11 = .ok (.aload_n 0, 1) := by decide +kernel
theorem dX10_often_12 : decode cX10_often 12 = .ok (.invokevirtual 189, 3) := by decide +kernel
theorem dX10_often_15 : decode cX10_often 15 = .ok (.iload_n 1, 1) := by decide +kernel
theorem dX10_often_16 : decode cX10_often 16 = .ok (.invokevirtual 239, 3) := by decide +kernel
theorem dX10_often_19 : decode cX10_often 19 = .ok (.goto 5, 3) := by decide +kernel
def FX10_often_0  (x1 : Int) (f : Mm) : Option (Int × Mm) := (b2 (FX0_hasCart_4 x1 f) fun y1 f1 => (if y1 = 0 then some ((-2), f1) else ((FX10_weighed f1).bind fun f2 => (b2 (FX3_plansKeeping x1 f2) fun y3 f3 => some (y3, f3)))))
set_option maxHeartbeats 4000000 in
set_option maxRecDepth 100000 in
theorem SX10_often_0 {G : GT} {l : Launch} {Q : Option AV → Mem → Prop}  (x1 : Int) (f : Mm) (h : OkI Q (FX10_often_0  x1 f)) : Ev G l MX10_often (Rm 6 0 0) (ZM G Q 0 0) 0 0 0 [some (vR 0), some (vI x1)] [] (SH, RF, f) := by
  unfold FX10_often_0 at h
  refine ev_aload_n (i := 0) dX10_often_0 rfl rfl ?_
  refine ev_getR dX10_often_1 fl_X10_19 sh_0 (by decide) (by decide) rf_0_1 ?_
  refine ev_iload_n (i := 1) dX10_often_4 rfl rfl ?_
  refine ev_cVI (b := 4) (av := [vI x1]) (S := []) (fun q => q) h dX10_often_5 (fun Q' q => TX0_hasCart_4 x1 _ q) kvX0_hasCart ml_X10_117 sh_4 rfl (RRc (by decide) (by decide)) (Nat.le_of_ble_eq_true rfl) ⟨Nat.le_of_ble_eq_true rfl, Nat.le_of_ble_eq_true rfl⟩ (fun y1 f1 h => ?_)
  refine ev_if_eq (tgt := 22) dX10_often_8 (by decide) (fun c4 => ?_) (fun c4 => ?_)
  · rw [if_pos c4] at h
    refine ev_bipush (v := (-2)) dX10_often_22 (r32c rfl) (by decide) ?_
    exact ev_iret rfl dX10_often_24 h
  · rw [if_neg c4] at h
    refine ev_aload_n (i := 0) dX10_often_11 rfl rfl ?_
    refine ev_cVC (b := 0) (av := []) (S := []) (fun q => q) h dX10_often_12 (fun Q' q => TX10_weighed _ q) kvX10_weighed ml_X10_189 sh_0 rfl (RRc (by decide) (by decide)) (Nat.le_of_ble_eq_true rfl) ⟨Nat.le_of_ble_eq_true rfl, Nat.le_of_ble_eq_true rfl⟩ (fun f2 h => ?_)
    refine ev_iload_n (i := 1) dX10_often_15 rfl rfl ?_
    refine ev_cVI (b := 57) (av := [vI x1]) (S := []) (fun q => q) h dX10_often_16 (fun Q' q => TX3_plansKeeping x1 _ q) kvX3_plansKeeping ml_X10_239 sh_57 rfl (RRc (by decide) (by decide)) (Nat.le_of_ble_eq_true rfl) ⟨Nat.le_of_ble_eq_true rfl, Nat.le_of_ble_eq_true rfl⟩ (fun y3 f3 h => ?_)
    refine ev_goto (tgt := 24) dX10_often_19 (by decide) ?_
    exact ev_iret rfl dX10_often_24 h
def FX10_often (x1 : Int) (f : Mm) : Option (Int × Mm) := FX10_often_0 x1 f
theorem TX10_often {G : GT} {l : Launch} {Q : Option AV → Mem → Prop} (x1 : Int) (f : Mm) (h : OkI Q (FX10_often x1 f)) : Ret G l MX10_often (6) 0 0 [vR 0, vI x1] (SH, RF, f) Q := by
  refine ret_of (L := [some (vR 0), some (vI x1)]) (by decide) rfl (Nat.le_of_ble_eq_true rfl) ?_
  exact SX10_often_0 x1 f h
theorem dX0_hasSet_0 : decode cX0_hasSet 0 = .ok (.aload_n 0, 1) := by decide +kernel
theorem dX0_hasSet_1 : decode cX0_hasSet 1 = .ok (.invokevirtual 61, 3) := by decide +kernel
theorem dX0_hasSet_4 : decode cX0_hasSet 4 = .ok (.ifCond .eq 19, 3) := by decide +kernel
theorem dX0_hasSet_23 : decode cX0_hasSet 23 = .ok (.iconst 0, 1) := by decide +kernel
theorem dX0_hasSet_24 : decode cX0_hasSet 24 = .ok (.ireturn, 1) := by decide +kernel
theorem dX0_hasSet_7 : decode cX0_hasSet 7 = .ok (.iload_n 1, 1) := by decide +kernel
theorem dX0_hasSet_8 : decode cX0_hasSet 8 = .ok (.ifCond .lt 15, 3) := by decide +kernel
theorem dX0_hasSet_11 : decode cX0_hasSet 11 = .ok (.iload_n 1, 1) := by decide +kernel
theorem dX0_hasSet_12 : decode cX0_hasSet 12 = .ok (.aload_n 0, 1) := by decide +kernel
theorem dX0_hasSet_13 : decode cX0_hasSet 13 = .ok (.invokevirtual 65, 3) := by decide +kernel
theorem dX0_hasSet_16 : decode cX0_hasSet 16 = .ok (.if_icmp .gt 7, 3) := by decide +kernel
theorem dX0_hasSet_19 : decode cX0_hasSet 19 = .ok (.iconst 1, 1) := by decide +kernel
theorem dX0_hasSet_20 : decode cX0_hasSet 20 = .ok (.goto 4, 3) := by decide +kernel
def FX0_hasSet_4_0  (x1 : Int) (f : Mm) : Option (Int × Mm) := (b2 (FX0_stands_4 f) fun y1 f1 => (if y1 = 0 then some (0, f1) else (if x1 < 0 then some (0, f1) else (b2 (FX0_allCarts_4 f1) fun y2 f2 => (if y2 < x1 then some (0, f2) else some (1, f2))))))
set_option maxHeartbeats 4000000 in
set_option maxRecDepth 100000 in
theorem SX0_hasSet_4_0 {G : GT} {l : Launch} {Q : Option AV → Mem → Prop}  (x1 : Int) (f : Mm) (h : OkI Q (FX0_hasSet_4_0  x1 f)) : Ev G l MX0_hasSet (Rm 2 0 0) (ZM G Q 0 0) 0 0 0 [some (vR 4), some (vI x1)] [] (SH, RF, f) := by
  unfold FX0_hasSet_4_0 at h
  refine ev_aload_n (i := 0) dX0_hasSet_0 rfl rfl ?_
  refine ev_cVI (b := 4) (av := []) (S := []) (fun q => q) h dX0_hasSet_1 (fun Q' q => TX0_stands_4 _ q) kvX0_stands ml_X0_61 sh_4 rfl (RRc (by decide) (by decide)) (Nat.le_of_ble_eq_true rfl) ⟨Nat.le_of_ble_eq_true rfl, Nat.le_of_ble_eq_true rfl⟩ (fun y1 f1 h => ?_)
  refine ev_if_eq (tgt := 23) dX0_hasSet_4 (by decide) (fun c5 => ?_) (fun c5 => ?_)
  · rw [if_pos c5] at h
    refine ev_iconst dX0_hasSet_23 (r32c rfl) ?_
    exact ev_zret rfl (by decide) dX0_hasSet_24 h
  · rw [if_neg c5] at h
    refine ev_iload_n (i := 1) dX0_hasSet_7 rfl rfl ?_
    refine ev_if_lt (tgt := 23) dX0_hasSet_8 (by decide) (fun c4 => ?_) (fun c4 => ?_)
    · rw [if_pos c4] at h
      refine ev_iconst dX0_hasSet_23 (r32c rfl) ?_
      exact ev_zret rfl (by decide) dX0_hasSet_24 h
    · rw [if_neg c4] at h
      refine ev_iload_n (i := 1) dX0_hasSet_11 rfl rfl ?_
      refine ev_aload_n (i := 0) dX0_hasSet_12 rfl rfl ?_
      refine ev_cVI (b := 4) (av := []) (S := [vI x1]) (fun q => q) h dX0_hasSet_13 (fun Q' q => TX0_allCarts_4 _ q) kvX0_allCarts ml_X0_65 sh_4 rfl (RRc (by decide) (by decide)) (Nat.le_of_ble_eq_true rfl) ⟨Nat.le_of_ble_eq_true rfl, Nat.le_of_ble_eq_true rfl⟩ (fun y2 f2 h => ?_)
      refine ev_icmp_gt (tgt := 23) dX0_hasSet_16 (by decide) (fun c3 => ?_) (fun c3 => ?_)
      · rw [if_pos c3] at h
        refine ev_iconst dX0_hasSet_23 (r32c rfl) ?_
        exact ev_zret rfl (by decide) dX0_hasSet_24 h
      · rw [if_neg c3] at h
        refine ev_iconst dX0_hasSet_19 (r32c rfl) ?_
        refine ev_goto (tgt := 24) dX0_hasSet_20 (by decide) ?_
        exact ev_zret rfl (by decide) dX0_hasSet_24 h
def FX0_hasSet_4 (x1 : Int) (f : Mm) : Option (Int × Mm) := FX0_hasSet_4_0 x1 f
theorem TX0_hasSet_4 {G : GT} {l : Launch} {Q : Option AV → Mem → Prop} (x1 : Int) (f : Mm) (h : OkI Q (FX0_hasSet_4 x1 f)) : Ret G l MX0_hasSet (2) 0 0 [vR 4, vI x1] (SH, RF, f) Q := by
  refine ret_of (L := [some (vR 4), some (vI x1)]) (by decide) rfl (Nat.le_of_ble_eq_true rfl) ?_
  exact SX0_hasSet_4_0 x1 f h
theorem dX10_cheap_0 : decode cX10_cheap 0 = .ok (.aload_n 0, 1) := by decide +kernel
theorem dX10_cheap_1 : decode cX10_cheap 1 = .ok (.getfield 19, 3) := by decide +kernel
theorem dX10_cheap_4 : decode cX10_cheap 4 = .ok (.iload_n 1, 1) := by decide +kernel
theorem dX10_cheap_5 : decode cX10_cheap 5 = .ok (.invokevirtual 242, 3) := by decide +kernel
theorem dX10_cheap_8 : decode cX10_cheap 8 = .ok (.ifCond .eq 14, 3) := by decide +kernel
theorem dX10_cheap_22 : decode cX10_cheap 22 = .ok (.bipush (-2), 2) := by decide +kernel
theorem dX10_cheap_24 : decode cX10_cheap 24 = .ok (.ireturn, 1) := by decide +kernel
theorem dX10_cheap_11 : decode cX10_cheap 11 = .ok (.aload_n 0, 1) := by decide +kernel
theorem dX10_cheap_12 : decode cX10_cheap 12 = .ok (.invokevirtual 189, 3) := by decide +kernel
theorem dX10_cheap_15 : decode cX10_cheap 15 = .ok (.iload_n 1, 1) := by decide +kernel
theorem dX10_cheap_16 : decode cX10_cheap 16 = .ok (.invokevirtual 236, 3) := by decide +kernel
theorem dX10_cheap_19 : decode cX10_cheap 19 = .ok (.goto 5, 3) := by decide +kernel
def FX10_cheap_0  (x1 : Int) (f : Mm) : Option (Int × Mm) := (b2 (FX0_hasSet_4 x1 f) fun y1 f1 => (if y1 = 0 then some ((-2), f1) else ((FX10_weighed f1).bind fun f2 => (b2 (FX3_cheapCost x1 f2) fun y3 f3 => some (y3, f3)))))
set_option maxHeartbeats 4000000 in
set_option maxRecDepth 100000 in
theorem SX10_cheap_0 {G : GT} {l : Launch} {Q : Option AV → Mem → Prop}  (x1 : Int) (f : Mm) (h : OkI Q (FX10_cheap_0  x1 f)) : Ev G l MX10_cheap (Rm 6 0 0) (ZM G Q 0 0) 0 0 0 [some (vR 0), some (vI x1)] [] (SH, RF, f) := by
  unfold FX10_cheap_0 at h
  refine ev_aload_n (i := 0) dX10_cheap_0 rfl rfl ?_
  refine ev_getR dX10_cheap_1 fl_X10_19 sh_0 (by decide) (by decide) rf_0_1 ?_
  refine ev_iload_n (i := 1) dX10_cheap_4 rfl rfl ?_
  refine ev_cVI (b := 4) (av := [vI x1]) (S := []) (fun q => q) h dX10_cheap_5 (fun Q' q => TX0_hasSet_4 x1 _ q) kvX0_hasSet ml_X10_242 sh_4 rfl (RRc (by decide) (by decide)) (Nat.le_of_ble_eq_true rfl) ⟨Nat.le_of_ble_eq_true rfl, Nat.le_of_ble_eq_true rfl⟩ (fun y1 f1 h => ?_)
  refine ev_if_eq (tgt := 22) dX10_cheap_8 (by decide) (fun c4 => ?_) (fun c4 => ?_)
  · rw [if_pos c4] at h
    refine ev_bipush (v := (-2)) dX10_cheap_22 (r32c rfl) (by decide) ?_
    exact ev_iret rfl dX10_cheap_24 h
  · rw [if_neg c4] at h
    refine ev_aload_n (i := 0) dX10_cheap_11 rfl rfl ?_
    refine ev_cVC (b := 0) (av := []) (S := []) (fun q => q) h dX10_cheap_12 (fun Q' q => TX10_weighed _ q) kvX10_weighed ml_X10_189 sh_0 rfl (RRc (by decide) (by decide)) (Nat.le_of_ble_eq_true rfl) ⟨Nat.le_of_ble_eq_true rfl, Nat.le_of_ble_eq_true rfl⟩ (fun f2 h => ?_)
    refine ev_iload_n (i := 1) dX10_cheap_15 rfl rfl ?_
    refine ev_cVI (b := 57) (av := [vI x1]) (S := []) (fun q => q) h dX10_cheap_16 (fun Q' q => TX3_cheapCost x1 _ q) kvX3_cheapCost ml_X10_236 sh_57 rfl (RRc (by decide) (by decide)) (Nat.le_of_ble_eq_true rfl) ⟨Nat.le_of_ble_eq_true rfl, Nat.le_of_ble_eq_true rfl⟩ (fun y3 f3 h => ?_)
    refine ev_goto (tgt := 24) dX10_cheap_19 (by decide) ?_
    exact ev_iret rfl dX10_cheap_24 h
def FX10_cheap (x1 : Int) (f : Mm) : Option (Int × Mm) := FX10_cheap_0 x1 f
theorem TX10_cheap {G : GT} {l : Launch} {Q : Option AV → Mem → Prop} (x1 : Int) (f : Mm) (h : OkI Q (FX10_cheap x1 f)) : Ret G l MX10_cheap (6) 0 0 [vR 0, vI x1] (SH, RF, f) Q := by
  refine ret_of (L := [some (vR 0), some (vI x1)]) (by decide) rfl (Nat.le_of_ble_eq_true rfl) ?_
  exact SX10_cheap_0 x1 f h
theorem dX3_cheapFirst_71 : decode cX3_cheapFirst 71 = .ok (.iinc 4 1, 3) := by decide +kernel
theorem dX3_cheapFirst_74 : decode cX3_cheapFirst 74 = .ok (.goto (-63), 3) := by decide +kernel
theorem dX3_cheapFirst_63 : decode cX3_cheapFirst 63 = .ok (.aload_n 0, 1) := by decide +kernel
theorem dX3_cheapFirst_64 : decode cX3_cheapFirst 64 = .ok (.getfield 27, 3) := by decide +kernel
theorem dX3_cheapFirst_67 : decode cX3_cheapFirst 67 = .ok (.iload 4, 2) := by decide +kernel
theorem dX3_cheapFirst_69 : decode cX3_cheapFirst 69 = .ok (.iaload, 1) := by decide +kernel
theorem dX3_cheapFirst_70 : decode cX3_cheapFirst 70 = .ok (.istore_n 3, 1) := by decide +kernel
theorem dX3_cheapFirst_11 : decode cX3_cheapFirst 11 = .ok (.iload 4, 2) := by decide +kernel
theorem dX3_cheapFirst_13 : decode cX3_cheapFirst 13 = .ok (.bipush 64, 2) := by decide +kernel
theorem dX3_cheapFirst_15 : decode cX3_cheapFirst 15 = .ok (.if_icmp .ge 62, 3) := by decide +kernel
theorem dX3_cheapFirst_77 : decode cX3_cheapFirst 77 = .ok (.iload_n 3, 1) := by decide +kernel
theorem dX3_cheapFirst_78 : decode cX3_cheapFirst 78 = .ok (.ireturn, 1) := by decide +kernel
theorem dX3_cheapFirst_18 : decode cX3_cheapFirst 18 = .ok (.iload 4, 2) := by decide +kernel
theorem dX3_cheapFirst_20 : decode cX3_cheapFirst 20 = .ok (.iload_n 1, 1) := by decide +kernel
theorem dX3_cheapFirst_21 : decode cX3_cheapFirst 21 = .ok (.iand, 1) := by decide +kernel
theorem dX3_cheapFirst_22 : decode cX3_cheapFirst 22 = .ok (.iload_n 1, 1) := by decide +kernel
theorem dX3_cheapFirst_23 : decode cX3_cheapFirst 23 = .ok (.if_icmp .ne 48, 3) := by decide +kernel
theorem dX3_cheapFirst_26 : decode cX3_cheapFirst 26 = .ok (.aload_n 0, 1) := by decide +kernel
theorem dX3_cheapFirst_27 : decode cX3_cheapFirst 27 = .ok (.getfield 18, 3) := by decide +kernel
theorem dX3_cheapFirst_30 : decode cX3_cheapFirst 30 = .ok (.iload 4, 2) := by decide +kernel
theorem dX3_cheapFirst_32 : decode cX3_cheapFirst 32 = .ok (.iaload, 1) := by decide +kernel
theorem dX3_cheapFirst_33 : decode cX3_cheapFirst 33 = .ok (.ifCond .le 38, 3) := by decide +kernel
theorem dX3_cheapFirst_36 : decode cX3_cheapFirst 36 = .ok (.aload_n 0, 1) := by decide +kernel
theorem dX3_cheapFirst_37 : decode cX3_cheapFirst 37 = .ok (.getfield 21, 3) := by decide +kernel
theorem dX3_cheapFirst_40 : decode cX3_cheapFirst 40 = .ok (.iload 4, 2) := by decide +kernel
theorem dX3_cheapFirst_42 : decode cX3_cheapFirst 42 = .ok (.iaload, 1) := by decide +kernel
theorem dX3_cheapFirst_43 : decode cX3_cheapFirst 43 = .ok (.iload_n 2, 1) := by decide +kernel
theorem dX3_cheapFirst_44 : decode cX3_cheapFirst 44 = .ok (.if_icmp .ne 27, 3) := by decide +kernel
theorem dX3_cheapFirst_47 : decode cX3_cheapFirst 47 = .ok (.iload_n 3, 1) := by decide +kernel
theorem dX3_cheapFirst_48 : decode cX3_cheapFirst 48 = .ok (.iconst (-1), 1) := by decide +kernel
theorem dX3_cheapFirst_49 : decode cX3_cheapFirst 49 = .ok (.if_icmp .eq 14, 3) := by decide +kernel
theorem dX3_cheapFirst_52 : decode cX3_cheapFirst 52 = .ok (.aload_n 0, 1) := by decide +kernel
theorem dX3_cheapFirst_53 : decode cX3_cheapFirst 53 = .ok (.getfield 27, 3) := by decide +kernel
theorem dX3_cheapFirst_56 : decode cX3_cheapFirst 56 = .ok (.iload 4, 2) := by decide +kernel
theorem dX3_cheapFirst_58 : decode cX3_cheapFirst 58 = .ok (.iaload, 1) := by decide +kernel
theorem dX3_cheapFirst_59 : decode cX3_cheapFirst 59 = .ok (.iload_n 3, 1) := by decide +kernel
theorem dX3_cheapFirst_60 : decode cX3_cheapFirst 60 = .ok (.if_icmp .ge 11, 3) := by decide +kernel
theorem dX3_cheapFirst_0 : decode cX3_cheapFirst 0 = .ok (.aload_n 0, 1) := by decide +kernel
theorem dX3_cheapFirst_1 : decode cX3_cheapFirst 1 = .ok (.iload_n 1, 1) := by decide +kernel
theorem dX3_cheapFirst_2 : decode cX3_cheapFirst 2 = .ok (.invokevirtual 134, 3) := by decide +kernel
theorem dX3_cheapFirst_5 : decode cX3_cheapFirst 5 = .ok (.istore_n 2, 1) := by decide +kernel
theorem dX3_cheapFirst_6 : decode cX3_cheapFirst 6 = .ok (.iconst (-1), 1) := by decide +kernel
theorem dX3_cheapFirst_7 : decode cX3_cheapFirst 7 = .ok (.istore_n 3, 1) := by decide +kernel
theorem dX3_cheapFirst_8 : decode cX3_cheapFirst 8 = .ok (.iload_n 1, 1) := by decide +kernel
theorem dX3_cheapFirst_9 : decode cX3_cheapFirst 9 = .ok (.istore 4, 2) := by decide +kernel
def FX3_cheapFirst_71 (k11 : Int → Int → Int → Int → Mm → Option (Int × Mm)) (x1 : Int) (x2 : Int) (x3 : Int) (x4 : Int) (f : Mm) : Option (Int × Mm) := k11 x1 x2 x3 (w32 (x4 + 1)) f
set_option maxHeartbeats 4000000 in
set_option maxRecDepth 100000 in
theorem SX3_cheapFirst_71 {G : GT} {l : Launch} {Q : Option AV → Mem → Prop} {k11 : Int → Int → Int → Int → Mm → Option (Int × Mm)} (q11 : ∀ (x1 : Int) (x2 : Int) (x3 : Int) (x4 : Int) (f : Mm), OkI Q (k11 x1 x2 x3 x4 f) → Ev G l MX3_cheapFirst (Rm 2 0 0) (ZM G Q 0 0) 0 0 11 [some (vR 57), some (vI x1), some (vI x2), some (vI x3), some (vI x4)] [] (SH, RF, f)) (x1 : Int) (x2 : Int) (x3 : Int) (x4 : Int) (f : Mm) (h : OkI Q (FX3_cheapFirst_71 k11 x1 x2 x3 x4 f)) : Ev G l MX3_cheapFirst (Rm 2 0 0) (ZM G Q 0 0) 0 0 71 [some (vR 57), some (vI x1), some (vI x2), some (vI x3), some (vI x4)] [] (SH, RF, f) := by
  unfold FX3_cheapFirst_71 at h
  refine ev_iinc (L' := [some (vR 57), some (vI x1), some (vI x2), some (vI x3), some (vI (w32 (x4 + 1)))]) dX3_cheapFirst_71 rfl (by decide) rfl ?_
  refine ev_goto (tgt := 11) dX3_cheapFirst_74 (by decide) ?_
  exact q11 x1 x2 x3 (w32 (x4 + 1)) _ h
def FX3_cheapFirst_63 (k11 : Int → Int → Int → Int → Mm → Option (Int × Mm)) (x1 : Int) (x2 : Int) (x4 : Int) (f : Mm) : Option (Int × Mm) := (if 0 ≤ x4 ∧ x4 < 64 then FX3_cheapFirst_71 k11 x1 x2 (f 63 x4.toNat) x4 f else none)
set_option maxHeartbeats 4000000 in
set_option maxRecDepth 100000 in
theorem SX3_cheapFirst_63 {G : GT} {l : Launch} {Q : Option AV → Mem → Prop} {k11 : Int → Int → Int → Int → Mm → Option (Int × Mm)} (q11 : ∀ (x1 : Int) (x2 : Int) (x3 : Int) (x4 : Int) (f : Mm), OkI Q (k11 x1 x2 x3 x4 f) → Ev G l MX3_cheapFirst (Rm 2 0 0) (ZM G Q 0 0) 0 0 11 [some (vR 57), some (vI x1), some (vI x2), some (vI x3), some (vI x4)] [] (SH, RF, f)) (x1 : Int) (x2 : Int) (x4 : Int) (f : Mm) (h : OkI Q (FX3_cheapFirst_63 k11 x1 x2 x4 f)) : Ev G l MX3_cheapFirst (Rm 2 0 0) (ZM G Q 0 0) 0 0 63 [some (vR 57), some (vI x1), some (vI x2), none, some (vI x4)] [] (SH, RF, f) := by
  unfold FX3_cheapFirst_63 at h
  refine ev_aload_n (i := 0) dX3_cheapFirst_63 rfl rfl ?_
  refine ev_getR dX3_cheapFirst_64 fl_X3_27 sh_57 (by decide) (by decide) rf_57_8 ?_
  refine ev_iload dX3_cheapFirst_67 rfl ?_
  by_cases g1 : 0 ≤ x4 ∧ x4 < 64
  · rw [if_pos g1] at h
    refine ex_iald (x := (f 63 x4.toNat)) dX3_cheapFirst_69 sh_63 g1.1 g1.2 rfl ?_
    refine ev_istore_n (i := 3) (L' := [some (vR 57), some (vI x1), some (vI x2), some (vI (f 63 x4.toNat)), some (vI x4)]) dX3_cheapFirst_70 rfl (by decide) rfl ?_
    exact SX3_cheapFirst_71 q11 x1 x2 (f 63 x4.toNat) x4 _ h
  · rw [if_neg g1] at h; exact h.elim
def FX3_cheapFirst_11  : Nat → Int → Int → Int → Int → Mm → Option (Int × Mm)
  | 0, _, _, _, _, _ => none
  | n + 1, x1, x2, x3, x4, f => (if 64 ≤ x4 then some (x3, f) else (if (bAnd x4 x1) = x1 then (if 0 ≤ x4 ∧ x4 < 64 then (if (f 60 x4.toNat) ≤ 0 then FX3_cheapFirst_71 (FX3_cheapFirst_11 n) x1 x2 x3 x4 f else (if 0 ≤ x4 ∧ x4 < 64 then (if (f 61 x4.toNat) = x2 then (if x3 = (-1) then FX3_cheapFirst_63 (FX3_cheapFirst_11 n) x1 x2 x4 f else (if 0 ≤ x4 ∧ x4 < 64 then (if x3 ≤ (f 63 x4.toNat) then FX3_cheapFirst_71 (FX3_cheapFirst_11 n) x1 x2 x3 x4 f else FX3_cheapFirst_63 (FX3_cheapFirst_11 n) x1 x2 x4 f) else none)) else FX3_cheapFirst_71 (FX3_cheapFirst_11 n) x1 x2 x3 x4 f) else none)) else none) else FX3_cheapFirst_71 (FX3_cheapFirst_11 n) x1 x2 x3 x4 f))
set_option maxHeartbeats 4000000 in
set_option maxRecDepth 100000 in
theorem SX3_cheapFirst_11 {G : GT} {l : Launch} {Q : Option AV → Mem → Prop}  : ∀ (n : Nat) (x1 : Int) (x2 : Int) (x3 : Int) (x4 : Int) (f : Mm), OkI Q (FX3_cheapFirst_11  n x1 x2 x3 x4 f) → Ev G l MX3_cheapFirst (Rm 2 0 0) (ZM G Q 0 0) 0 0 11 [some (vR 57), some (vI x1), some (vI x2), some (vI x3), some (vI x4)] [] (SH, RF, f) := by
  intro n
  induction n with
  | zero => intro x1 x2 x3 x4 f h; exact absurd h (by rw [FX3_cheapFirst_11]; exact fun q => q)
  | succ n ih =>
    intro x1 x2 x3 x4 f h
    rw [FX3_cheapFirst_11] at h
    refine ev_iload dX3_cheapFirst_11 rfl ?_
    refine ev_bipush (v := 64) dX3_cheapFirst_13 (r32c rfl) (by decide) ?_
    refine ev_icmp_ge (tgt := 77) dX3_cheapFirst_15 (by decide) (fun c9 => ?_) (fun c9 => ?_)
    · rw [if_pos c9] at h
      refine ev_iload_n (i := 3) dX3_cheapFirst_77 rfl rfl ?_
      exact ev_iret rfl dX3_cheapFirst_78 h
    · rw [if_neg c9] at h
      refine ev_iload dX3_cheapFirst_18 rfl ?_
      refine ev_iload_n (i := 1) dX3_cheapFirst_20 rfl rfl ?_
      refine ev_iand dX3_cheapFirst_21 ?_
      refine ev_iload_n (i := 1) dX3_cheapFirst_22 rfl rfl ?_
      refine ev_icmp_ne (tgt := 71) dX3_cheapFirst_23 (by decide) (fun c8 => ?_) (fun c8 => ?_)
      · rw [if_neg c8] at h
        exact SX3_cheapFirst_71 ih x1 x2 x3 x4 _ h
      · rw [if_pos c8] at h
        refine ev_aload_n (i := 0) dX3_cheapFirst_26 rfl rfl ?_
        refine ev_getR dX3_cheapFirst_27 fl_X3_18 sh_57 (by decide) (by decide) rf_57_5 ?_
        refine ev_iload dX3_cheapFirst_30 rfl ?_
        by_cases g1 : 0 ≤ x4 ∧ x4 < 64
        · rw [if_pos g1] at h
          refine ex_iald (x := (f 60 x4.toNat)) dX3_cheapFirst_32 sh_60 g1.1 g1.2 rfl ?_
          refine ev_if_le (tgt := 71) dX3_cheapFirst_33 (by decide) (fun c7 => ?_) (fun c7 => ?_)
          · rw [if_pos c7] at h
            exact SX3_cheapFirst_71 ih x1 x2 x3 x4 _ h
          · rw [if_neg c7] at h
            refine ev_aload_n (i := 0) dX3_cheapFirst_36 rfl rfl ?_
            refine ev_getR dX3_cheapFirst_37 fl_X3_21 sh_57 (by decide) (by decide) rf_57_6 ?_
            refine ev_iload dX3_cheapFirst_40 rfl ?_
            by_cases g2 : 0 ≤ x4 ∧ x4 < 64
            · rw [if_pos g2] at h
              refine ex_iald (x := (f 61 x4.toNat)) dX3_cheapFirst_42 sh_61 g2.1 g2.2 rfl ?_
              refine ev_iload_n (i := 2) dX3_cheapFirst_43 rfl rfl ?_
              refine ev_icmp_ne (tgt := 71) dX3_cheapFirst_44 (by decide) (fun c6 => ?_) (fun c6 => ?_)
              · rw [if_neg c6] at h
                exact SX3_cheapFirst_71 ih x1 x2 x3 x4 _ h
              · rw [if_pos c6] at h
                refine ev_iload_n (i := 3) dX3_cheapFirst_47 rfl rfl ?_
                refine ev_iconst dX3_cheapFirst_48 (r32c rfl) ?_
                refine ev_icmp_eq (tgt := 63) dX3_cheapFirst_49 (by decide) (fun c5 => ?_) (fun c5 => ?_)
                · rw [if_pos c5] at h
                  refine ev_fg [true, true, true, false, true] rfl ?_
                  exact SX3_cheapFirst_63 ih x1 x2 x4 _ h
                · rw [if_neg c5] at h
                  refine ev_aload_n (i := 0) dX3_cheapFirst_52 rfl rfl ?_
                  refine ev_getR dX3_cheapFirst_53 fl_X3_27 sh_57 (by decide) (by decide) rf_57_8 ?_
                  refine ev_iload dX3_cheapFirst_56 rfl ?_
                  by_cases g3 : 0 ≤ x4 ∧ x4 < 64
                  · rw [if_pos g3] at h
                    refine ex_iald (x := (f 63 x4.toNat)) dX3_cheapFirst_58 sh_63 g3.1 g3.2 rfl ?_
                    refine ev_iload_n (i := 3) dX3_cheapFirst_59 rfl rfl ?_
                    refine ev_icmp_ge (tgt := 71) dX3_cheapFirst_60 (by decide) (fun c4 => ?_) (fun c4 => ?_)
                    · rw [if_pos c4] at h
                      exact SX3_cheapFirst_71 ih x1 x2 x3 x4 _ h
                    · rw [if_neg c4] at h
                      refine ev_fg [true, true, true, false, true] rfl ?_
                      exact SX3_cheapFirst_63 ih x1 x2 x4 _ h
                  · rw [if_neg g3] at h; exact h.elim
            · rw [if_neg g2] at h; exact h.elim
        · rw [if_neg g1] at h; exact h.elim
def FX3_cheapFirst_0  (x1 : Int) (f : Mm) : Option (Int × Mm) := (b2 (FX3_cheapCost x1 f) fun y1 f1 => FX3_cheapFirst_11 fu x1 y1 (-1) x1 f1)
set_option maxHeartbeats 4000000 in
set_option maxRecDepth 100000 in
theorem SX3_cheapFirst_0 {G : GT} {l : Launch} {Q : Option AV → Mem → Prop}  (x1 : Int) (f : Mm) (h : OkI Q (FX3_cheapFirst_0  x1 f)) : Ev G l MX3_cheapFirst (Rm 2 0 0) (ZM G Q 0 0) 0 0 0 [some (vR 57), some (vI x1), none, none, none] [] (SH, RF, f) := by
  unfold FX3_cheapFirst_0 at h
  refine ev_aload_n (i := 0) dX3_cheapFirst_0 rfl rfl ?_
  refine ev_iload_n (i := 1) dX3_cheapFirst_1 rfl rfl ?_
  refine ev_cVI (b := 57) (av := [vI x1]) (S := []) (fun q => q) h dX3_cheapFirst_2 (fun Q' q => TX3_cheapCost x1 _ q) kvX3_cheapCost ml_X3_134 sh_57 rfl (RRc (by decide) (by decide)) (Nat.le_of_ble_eq_true rfl) ⟨Nat.le_of_ble_eq_true rfl, Nat.le_of_ble_eq_true rfl⟩ (fun y1 f1 h => ?_)
  refine ev_istore_n (i := 2) (L' := [some (vR 57), some (vI x1), some (vI y1), none, none]) dX3_cheapFirst_5 rfl (by decide) rfl ?_
  refine ev_iconst dX3_cheapFirst_6 (r32c rfl) ?_
  refine ev_istore_n (i := 3) (L' := [some (vR 57), some (vI x1), some (vI y1), some (vI (-1)), none]) dX3_cheapFirst_7 rfl (by decide) rfl ?_
  refine ev_iload_n (i := 1) dX3_cheapFirst_8 rfl rfl ?_
  refine ev_istore (L' := [some (vR 57), some (vI x1), some (vI y1), some (vI (-1)), some (vI x1)]) dX3_cheapFirst_9 (by decide) rfl ?_
  exact SX3_cheapFirst_11  fu x1 y1 (-1) x1 _ h
def FX3_cheapFirst (x1 : Int) (f : Mm) : Option (Int × Mm) := FX3_cheapFirst_0 x1 f
theorem TX3_cheapFirst {G : GT} {l : Launch} {Q : Option AV → Mem → Prop} (x1 : Int) (f : Mm) (h : OkI Q (FX3_cheapFirst x1 f)) : Ret G l MX3_cheapFirst (2) 0 0 [vR 57, vI x1] (SH, RF, f) Q := by
  refine ret_of (L := [some (vR 57), some (vI x1), none, none, none]) (by decide) rfl (Nat.le_of_ble_eq_true rfl) ?_
  exact SX3_cheapFirst_0 x1 f h
theorem dX10_cheaply_0 : decode cX10_cheaply 0 = .ok (.aload_n 0, 1) := by decide +kernel
theorem dX10_cheaply_1 : decode cX10_cheaply 1 = .ok (.getfield 19, 3) := by decide +kernel
theorem dX10_cheaply_4 : decode cX10_cheaply 4 = .ok (.iload_n 1, 1) := by decide +kernel
theorem dX10_cheaply_5 : decode cX10_cheaply 5 = .ok (.invokevirtual 242, 3) := by decide +kernel
theorem dX10_cheaply_8 : decode cX10_cheaply 8 = .ok (.ifCond .eq 14, 3) := by decide +kernel
theorem dX10_cheaply_22 : decode cX10_cheaply 22 = .ok (.bipush (-2), 2) := by decide +kernel
theorem dX10_cheaply_24 : decode cX10_cheaply 24 = .ok (.ireturn, 1) := by decide +kernel
theorem dX10_cheaply_11 : decode cX10_cheaply 11 = .ok (.aload_n 0, 1) := by decide +kernel
theorem dX10_cheaply_12 : decode cX10_cheaply 12 = .ok (.getfield 19, 3) := by decide +kernel
theorem dX10_cheaply_15 : decode cX10_cheaply 15 = .ok (.iload_n 2, 1) := by decide +kernel
theorem dX10_cheaply_16 : decode cX10_cheaply 16 = .ok (.invokevirtual 126, 3) := by decide +kernel
theorem dX10_cheaply_19 : decode cX10_cheaply 19 = .ok (.ifCond .ne 6, 3) := by decide +kernel
theorem dX10_cheaply_25 : decode cX10_cheaply 25 = .ok (.aload_n 0, 1) := by decide +kernel
theorem dX10_cheaply_26 : decode cX10_cheaply 26 = .ok (.invokevirtual 189, 3) := by decide +kernel
theorem dX10_cheaply_29 : decode cX10_cheaply 29 = .ok (.astore_n 3, 1) := by decide +kernel
theorem dX10_cheaply_30 : decode cX10_cheaply 30 = .ok (.aload_n 3, 1) := by decide +kernel
theorem dX10_cheaply_31 : decode cX10_cheaply 31 = .ok (.iload_n 1, 1) := by decide +kernel
theorem dX10_cheaply_32 : decode cX10_cheaply 32 = .ok (.invokevirtual 245, 3) := by decide +kernel
theorem dX10_cheaply_35 : decode cX10_cheaply 35 = .ok (.istore 4, 2) := by decide +kernel
theorem dX10_cheaply_37 : decode cX10_cheaply 37 = .ok (.iload 4, 2) := by decide +kernel
theorem dX10_cheaply_39 : decode cX10_cheaply 39 = .ok (.iconst (-1), 1) := by decide +kernel
theorem dX10_cheaply_40 : decode cX10_cheaply 40 = .ok (.if_icmp .ne 7, 3) := by decide +kernel
theorem dX10_cheaply_47 : decode cX10_cheaply 47 = .ok (.aload_n 3, 1) := by decide +kernel
theorem dX10_cheaply_48 : decode cX10_cheaply 48 = .ok (.iload 4, 2) := by decide +kernel
theorem dX10_cheaply_50 : decode cX10_cheaply 50 = .ok (.iload_n 2, 1) := by decide +kernel
theorem dX10_cheaply_51 : decode cX10_cheaply 51 = .ok (.invokevirtual 200, 3) := by decide +kernel
theorem dX10_cheaply_54 : decode cX10_cheaply 54 = .ok (.ireturn, 1) := by decide +kernel
theorem dX10_cheaply_43 : decode cX10_cheaply 43 = .ok (.iconst (-1), 1) := by decide +kernel
theorem dX10_cheaply_44 : decode cX10_cheaply 44 = .ok (.goto 10, 3) := by decide +kernel
def FX10_cheaply_0  (x1 : Int) (x2 : Int) (f : Mm) : Option (Int × Mm) := (b2 (FX0_hasSet_4 x1 f) fun y1 f1 => (if y1 = 0 then some ((-2), f1) else (b2 (FX0_hasDay_4 x2 f1) fun y2 f2 => (if y2 = 0 then some ((-2), f2) else ((FX10_weighed f2).bind fun f3 => (b2 (FX3_cheapFirst x1 f3) fun y4 f4 => (if y4 = (-1) then some ((-1), f4) else (b2 (FX3_deedOn y4 x2 f4) fun y5 f5 => some (y5, f5)))))))))
set_option maxHeartbeats 4000000 in
set_option maxRecDepth 100000 in
theorem SX10_cheaply_0 {G : GT} {l : Launch} {Q : Option AV → Mem → Prop}  (x1 : Int) (x2 : Int) (f : Mm) (h : OkI Q (FX10_cheaply_0  x1 x2 f)) : Ev G l MX10_cheaply (Rm 6 0 0) (ZM G Q 0 0) 0 0 0 [some (vR 0), some (vI x1), some (vI x2), none, none] [] (SH, RF, f) := by
  unfold FX10_cheaply_0 at h
  refine ev_aload_n (i := 0) dX10_cheaply_0 rfl rfl ?_
  refine ev_getR dX10_cheaply_1 fl_X10_19 sh_0 (by decide) (by decide) rf_0_1 ?_
  refine ev_iload_n (i := 1) dX10_cheaply_4 rfl rfl ?_
  refine ev_cVI (b := 4) (av := [vI x1]) (S := []) (fun q => q) h dX10_cheaply_5 (fun Q' q => TX0_hasSet_4 x1 _ q) kvX0_hasSet ml_X10_242 sh_4 rfl (RRc (by decide) (by decide)) (Nat.le_of_ble_eq_true rfl) ⟨Nat.le_of_ble_eq_true rfl, Nat.le_of_ble_eq_true rfl⟩ (fun y1 f1 h => ?_)
  refine ev_if_eq (tgt := 22) dX10_cheaply_8 (by decide) (fun c8 => ?_) (fun c8 => ?_)
  · rw [if_pos c8] at h
    refine ev_bipush (v := (-2)) dX10_cheaply_22 (r32c rfl) (by decide) ?_
    exact ev_iret rfl dX10_cheaply_24 h
  · rw [if_neg c8] at h
    refine ev_aload_n (i := 0) dX10_cheaply_11 rfl rfl ?_
    refine ev_getR dX10_cheaply_12 fl_X10_19 sh_0 (by decide) (by decide) rf_0_1 ?_
    refine ev_iload_n (i := 2) dX10_cheaply_15 rfl rfl ?_
    refine ev_cVI (b := 4) (av := [vI x2]) (S := []) (fun q => q) h dX10_cheaply_16 (fun Q' q => TX0_hasDay_4 x2 _ q) kvX0_hasDay ml_X10_126 sh_4 rfl (RRc (by decide) (by decide)) (Nat.le_of_ble_eq_true rfl) ⟨Nat.le_of_ble_eq_true rfl, Nat.le_of_ble_eq_true rfl⟩ (fun y2 f2 h => ?_)
    refine ev_if_ne (tgt := 25) dX10_cheaply_19 (by decide) (fun c7 => ?_) (fun c7 => ?_)
    · rw [if_neg c7] at h
      refine ev_aload_n (i := 0) dX10_cheaply_25 rfl rfl ?_
      refine ev_cVC (b := 0) (av := []) (S := []) (fun q => q) h dX10_cheaply_26 (fun Q' q => TX10_weighed _ q) kvX10_weighed ml_X10_189 sh_0 rfl (RRc (by decide) (by decide)) (Nat.le_of_ble_eq_true rfl) ⟨Nat.le_of_ble_eq_true rfl, Nat.le_of_ble_eq_true rfl⟩ (fun f3 h => ?_)
      refine ev_astore_n (i := 3) (L' := [some (vR 0), some (vI x1), some (vI x2), some (vR 57), none]) dX10_cheaply_29 rfl (by decide) rfl ?_
      refine ev_aload_n (i := 3) dX10_cheaply_30 rfl rfl ?_
      refine ev_iload_n (i := 1) dX10_cheaply_31 rfl rfl ?_
      refine ev_cVI (b := 57) (av := [vI x1]) (S := []) (fun q => q) h dX10_cheaply_32 (fun Q' q => TX3_cheapFirst x1 _ q) kvX3_cheapFirst ml_X10_245 sh_57 rfl (RRc (by decide) (by decide)) (Nat.le_of_ble_eq_true rfl) ⟨Nat.le_of_ble_eq_true rfl, Nat.le_of_ble_eq_true rfl⟩ (fun y4 f4 h => ?_)
      refine ev_istore (L' := [some (vR 0), some (vI x1), some (vI x2), some (vR 57), some (vI y4)]) dX10_cheaply_35 (by decide) rfl ?_
      refine ev_iload dX10_cheaply_37 rfl ?_
      refine ev_iconst dX10_cheaply_39 (r32c rfl) ?_
      refine ev_icmp_ne (tgt := 47) dX10_cheaply_40 (by decide) (fun c6 => ?_) (fun c6 => ?_)
      · rw [if_neg c6] at h
        refine ev_aload_n (i := 3) dX10_cheaply_47 rfl rfl ?_
        refine ev_iload dX10_cheaply_48 rfl ?_
        refine ev_iload_n (i := 2) dX10_cheaply_50 rfl rfl ?_
        refine ev_cVI (b := 57) (av := [vI y4, vI x2]) (S := []) (fun q => q) h dX10_cheaply_51 (fun Q' q => TX3_deedOn y4 x2 _ q) kvX3_deedOn ml_X10_200 sh_57 rfl (RRc (by decide) (by decide)) (Nat.le_of_ble_eq_true rfl) ⟨Nat.le_of_ble_eq_true rfl, Nat.le_of_ble_eq_true rfl⟩ (fun y5 f5 h => ?_)
        exact ev_iret rfl dX10_cheaply_54 h
      · rw [if_pos c6] at h
        refine ev_iconst dX10_cheaply_43 (r32c rfl) ?_
        refine ev_goto (tgt := 54) dX10_cheaply_44 (by decide) ?_
        exact ev_iret rfl dX10_cheaply_54 h
    · rw [if_pos c7] at h
      refine ev_bipush (v := (-2)) dX10_cheaply_22 (r32c rfl) (by decide) ?_
      exact ev_iret rfl dX10_cheaply_24 h
def FX10_cheaply (x1 : Int) (x2 : Int) (f : Mm) : Option (Int × Mm) := FX10_cheaply_0 x1 x2 f
theorem TX10_cheaply {G : GT} {l : Launch} {Q : Option AV → Mem → Prop} (x1 : Int) (x2 : Int) (f : Mm) (h : OkI Q (FX10_cheaply x1 x2 f)) : Ret G l MX10_cheaply (6) 0 0 [vR 0, vI x1, vI x2] (SH, RF, f) Q := by
  refine ret_of (L := [some (vR 0), some (vI x1), some (vI x2), none, none]) (by decide) rfl (Nat.le_of_ble_eq_true rfl) ?_
  exact SX10_cheaply_0 x1 x2 f h
theorem dX10_soonest_0 : decode cX10_soonest 0 = .ok (.aload_n 0, 1) := by decide +kernel
theorem dX10_soonest_1 : decode cX10_soonest 1 = .ok (.getfield 19, 3) := by decide +kernel
theorem dX10_soonest_4 : decode cX10_soonest 4 = .ok (.iload_n 1, 1) := by decide +kernel
theorem dX10_soonest_5 : decode cX10_soonest 5 = .ok (.invokevirtual 117, 3) := by decide +kernel
theorem dX10_soonest_8 : decode cX10_soonest 8 = .ok (.ifCond .eq 15, 3) := by decide +kernel
theorem dX10_soonest_23 : decode cX10_soonest 23 = .ok (.bipush (-2), 2) := by decide +kernel
theorem dX10_soonest_25 : decode cX10_soonest 25 = .ok (.ireturn, 1) := by decide +kernel
theorem dX10_soonest_11 : decode cX10_soonest 11 = .ok (.aload_n 0, 1) := by decide +kernel
theorem dX10_soonest_12 : decode cX10_soonest 12 = .ok (.invokevirtual 189, 3) := by decide +kernel
theorem dX10_soonest_15 : decode cX10_soonest 15 = .ok (.getfield 248, 3) := by decide +kernel
theorem dX10_soonest_18 : decode cX10_soonest 18 = .ok (.iload_n 1, 1) := by decide +kernel
theorem dX10_soonest_19 : decode cX10_soonest 19 = .ok (.iaload, 1) := by decide +kernel
theorem dX10_soonest_20 : decode cX10_soonest 20 = .ok (.goto 5, 3) := by decide +kernel
def FX10_soonest_0  (x1 : Int) (f : Mm) : Option (Int × Mm) := (b2 (FX0_hasCart_4 x1 f) fun y1 f1 => (if y1 = 0 then some ((-2), f1) else ((FX10_weighed f1).bind fun f2 => (if 0 ≤ x1 ∧ x1 < 6 then some ((f2 66 x1.toNat), f2) else none))))
set_option maxHeartbeats 4000000 in
set_option maxRecDepth 100000 in
theorem SX10_soonest_0 {G : GT} {l : Launch} {Q : Option AV → Mem → Prop}  (x1 : Int) (f : Mm) (h : OkI Q (FX10_soonest_0  x1 f)) : Ev G l MX10_soonest (Rm 6 0 0) (ZM G Q 0 0) 0 0 0 [some (vR 0), some (vI x1)] [] (SH, RF, f) := by
  unfold FX10_soonest_0 at h
  refine ev_aload_n (i := 0) dX10_soonest_0 rfl rfl ?_
  refine ev_getR dX10_soonest_1 fl_X10_19 sh_0 (by decide) (by decide) rf_0_1 ?_
  refine ev_iload_n (i := 1) dX10_soonest_4 rfl rfl ?_
  refine ev_cVI (b := 4) (av := [vI x1]) (S := []) (fun q => q) h dX10_soonest_5 (fun Q' q => TX0_hasCart_4 x1 _ q) kvX0_hasCart ml_X10_117 sh_4 rfl (RRc (by decide) (by decide)) (Nat.le_of_ble_eq_true rfl) ⟨Nat.le_of_ble_eq_true rfl, Nat.le_of_ble_eq_true rfl⟩ (fun y1 f1 h => ?_)
  refine ev_if_eq (tgt := 23) dX10_soonest_8 (by decide) (fun c4 => ?_) (fun c4 => ?_)
  · rw [if_pos c4] at h
    refine ev_bipush (v := (-2)) dX10_soonest_23 (r32c rfl) (by decide) ?_
    exact ev_iret rfl dX10_soonest_25 h
  · rw [if_neg c4] at h
    refine ev_aload_n (i := 0) dX10_soonest_11 rfl rfl ?_
    refine ev_cVC (b := 0) (av := []) (S := []) (fun q => q) h dX10_soonest_12 (fun Q' q => TX10_weighed _ q) kvX10_weighed ml_X10_189 sh_0 rfl (RRc (by decide) (by decide)) (Nat.le_of_ble_eq_true rfl) ⟨Nat.le_of_ble_eq_true rfl, Nat.le_of_ble_eq_true rfl⟩ (fun f2 h => ?_)
    refine ev_getR dX10_soonest_15 fl_X10_248 sh_57 (by decide) (by decide) rf_57_11 ?_
    refine ev_iload_n (i := 1) dX10_soonest_18 rfl rfl ?_
    by_cases g3 : 0 ≤ x1 ∧ x1 < 6
    · rw [if_pos g3] at h
      refine ex_iald (x := (f2 66 x1.toNat)) dX10_soonest_19 sh_66 g3.1 g3.2 rfl ?_
      refine ev_goto (tgt := 25) dX10_soonest_20 (by decide) ?_
      exact ev_iret rfl dX10_soonest_25 h
    · rw [if_neg g3] at h; exact h.elim
def FX10_soonest (x1 : Int) (f : Mm) : Option (Int × Mm) := FX10_soonest_0 x1 f
theorem TX10_soonest {G : GT} {l : Launch} {Q : Option AV → Mem → Prop} (x1 : Int) (f : Mm) (h : OkI Q (FX10_soonest x1 f)) : Ret G l MX10_soonest (6) 0 0 [vR 0, vI x1] (SH, RF, f) Q := by
  refine ret_of (L := [some (vR 0), some (vI x1)]) (by decide) rfl (Nat.le_of_ble_eq_true rfl) ?_
  exact SX10_soonest_0 x1 f h
theorem dX10_isFeeling_0 : decode cX10_isFeeling 0 = .ok (.iload_n 0, 1) := by decide +kernel
theorem dX10_isFeeling_1 : decode cX10_isFeeling 1 = .ok (.ifCond .lt 13, 3) := by decide +kernel
theorem dX10_isFeeling_14 : decode cX10_isFeeling 14 = .ok (.iconst 0, 1) := by decide +kernel
theorem dX10_isFeeling_15 : decode cX10_isFeeling 15 = .ok (.ireturn, 1) := by decide +kernel
theorem dX10_isFeeling_4 : decode cX10_isFeeling 4 = .ok (.iload_n 0, 1) := by decide +kernel
theorem dX10_isFeeling_5 : decode cX10_isFeeling 5 = .ok (.bipush 60, 2) := by decide +kernel
theorem dX10_isFeeling_7 : decode cX10_isFeeling 7 = .ok (.if_icmp .gt 7, 3) := by decide +kernel
theorem dX10_isFeeling_10 : decode cX10_isFeeling 10 = .ok (.iconst 1, 1) := by decide +kernel
theorem dX10_isFeeling_11 : decode cX10_isFeeling 11 = .ok (.goto 4, 3) := by decide +kernel
def FX10_isFeeling_0  (x0 : Int) (f : Mm) : Option (Int × Mm) := (if x0 < 0 then some (0, f) else (if 60 < x0 then some (0, f) else some (1, f)))
set_option maxHeartbeats 4000000 in
set_option maxRecDepth 100000 in
theorem SX10_isFeeling_0 {G : GT} {l : Launch} {Q : Option AV → Mem → Prop}  (x0 : Int) (f : Mm) (h : OkI Q (FX10_isFeeling_0  x0 f)) : Ev G l MX10_isFeeling (Rm 1 0 0) (ZM G Q 0 0) 0 0 0 [some (vI x0)] [] (SH, RF, f) := by
  unfold FX10_isFeeling_0 at h
  refine ev_iload_n (i := 0) dX10_isFeeling_0 rfl rfl ?_
  refine ev_if_lt (tgt := 14) dX10_isFeeling_1 (by decide) (fun c2 => ?_) (fun c2 => ?_)
  · rw [if_pos c2] at h
    refine ev_iconst dX10_isFeeling_14 (r32c rfl) ?_
    exact ev_zret rfl (by decide) dX10_isFeeling_15 h
  · rw [if_neg c2] at h
    refine ev_iload_n (i := 0) dX10_isFeeling_4 rfl rfl ?_
    refine ev_bipush (v := 60) dX10_isFeeling_5 (r32c rfl) (by decide) ?_
    refine ev_icmp_gt (tgt := 14) dX10_isFeeling_7 (by decide) (fun c1 => ?_) (fun c1 => ?_)
    · rw [if_pos c1] at h
      refine ev_iconst dX10_isFeeling_14 (r32c rfl) ?_
      exact ev_zret rfl (by decide) dX10_isFeeling_15 h
    · rw [if_neg c1] at h
      refine ev_iconst dX10_isFeeling_10 (r32c rfl) ?_
      refine ev_goto (tgt := 15) dX10_isFeeling_11 (by decide) ?_
      exact ev_zret rfl (by decide) dX10_isFeeling_15 h
def FX10_isFeeling (x0 : Int) (f : Mm) : Option (Int × Mm) := FX10_isFeeling_0 x0 f
theorem TX10_isFeeling {G : GT} {l : Launch} {Q : Option AV → Mem → Prop} (x0 : Int) (f : Mm) (h : OkI Q (FX10_isFeeling x0 f)) : Ret G l MX10_isFeeling (1) 0 0 [vI x0] (SH, RF, f) Q := by
  refine ret_of (L := [some (vI x0)]) (by decide) rfl (Nat.le_of_ble_eq_true rfl) ?_
  exact SX10_isFeeling_0 x0 f h
theorem dX3_holdCost_42 : decode cX3_holdCost 42 = .ok (.iinc 3 1, 3) := by decide +kernel
theorem dX3_holdCost_45 : decode cX3_holdCost 45 = .ok (.goto (-41), 3) := by decide +kernel
theorem dX3_holdCost_35 : decode cX3_holdCost 35 = .ok (.aload_n 0, 1) := by decide +kernel
theorem dX3_holdCost_36 : decode cX3_holdCost 36 = .ok (.getfield 30, 3) := by decide +kernel
theorem dX3_holdCost_39 : decode cX3_holdCost 39 = .ok (.iload_n 3, 1) := by decide +kernel
theorem dX3_holdCost_40 : decode cX3_holdCost 40 = .ok (.iaload, 1) := by decide +kernel
theorem dX3_holdCost_41 : decode cX3_holdCost 41 = .ok (.istore_n 2, 1) := by decide +kernel
theorem dX3_holdCost_4 : decode cX3_holdCost 4 = .ok (.iload_n 3, 1) := by decide +kernel
theorem dX3_holdCost_5 : decode cX3_holdCost 5 = .ok (.bipush 60, 2) := by decide +kernel
theorem dX3_holdCost_7 : decode cX3_holdCost 7 = .ok (.if_icmp .gt 41, 3) := by decide +kernel
theorem dX3_holdCost_48 : decode cX3_holdCost 48 = .ok (.iload_n 2, 1) := by decide +kernel
theorem dX3_holdCost_49 : decode cX3_holdCost 49 = .ok (.ireturn, 1) := by decide +kernel
theorem dX3_holdCost_10 : decode cX3_holdCost 10 = .ok (.aload_n 0, 1) := by decide +kernel
theorem dX3_holdCost_11 : decode cX3_holdCost 11 = .ok (.getfield 30, 3) := by decide +kernel
theorem dX3_holdCost_14 : decode cX3_holdCost 14 = .ok (.iload_n 3, 1) := by decide +kernel
theorem dX3_holdCost_15 : decode cX3_holdCost 15 = .ok (.iaload, 1) := by decide +kernel
theorem dX3_holdCost_16 : decode cX3_holdCost 16 = .ok (.iconst (-1), 1) := by decide +kernel
theorem dX3_holdCost_17 : decode cX3_holdCost 17 = .ok (.if_icmp .eq 25, 3) := by decide +kernel
theorem dX3_holdCost_20 : decode cX3_holdCost 20 = .ok (.iload_n 2, 1) := by decide +kernel
theorem dX3_holdCost_21 : decode cX3_holdCost 21 = .ok (.iconst (-1), 1) := by decide +kernel
theorem dX3_holdCost_22 : decode cX3_holdCost 22 = .ok (.if_icmp .eq 13, 3) := by decide +kernel
theorem dX3_holdCost_25 : decode cX3_holdCost 25 = .ok (.aload_n 0, 1) := by decide +kernel
theorem dX3_holdCost_26 : decode cX3_holdCost 26 = .ok (.getfield 30, 3) := by decide +kernel
theorem dX3_holdCost_29 : decode cX3_holdCost 29 = .ok (.iload_n 3, 1) := by decide +kernel
theorem dX3_holdCost_30 : decode cX3_holdCost 30 = .ok (.iaload, 1) := by decide +kernel
theorem dX3_holdCost_31 : decode cX3_holdCost 31 = .ok (.iload_n 2, 1) := by decide +kernel
theorem dX3_holdCost_32 : decode cX3_holdCost 32 = .ok (.if_icmp .ge 10, 3) := by decide +kernel
theorem dX3_holdCost_0 : decode cX3_holdCost 0 = .ok (.iconst (-1), 1) := by decide +kernel
theorem dX3_holdCost_1 : decode cX3_holdCost 1 = .ok (.istore_n 2, 1) := by decide +kernel
theorem dX3_holdCost_2 : decode cX3_holdCost 2 = .ok (.iload_n 1, 1) := by decide +kernel
theorem dX3_holdCost_3 : decode cX3_holdCost 3 = .ok (.istore_n 3, 1) := by decide +kernel
def FX3_holdCost_42 (k4 : Int → Int → Mm → Option (Int × Mm)) (x2 : Int) (x3 : Int) (f : Mm) : Option (Int × Mm) := k4 x2 (w32 (x3 + 1)) f
set_option maxHeartbeats 4000000 in
set_option maxRecDepth 100000 in
theorem SX3_holdCost_42 {G : GT} {l : Launch} {Q : Option AV → Mem → Prop} {k4 : Int → Int → Mm → Option (Int × Mm)} (q4 : ∀ (x2 : Int) (x3 : Int) (f : Mm), OkI Q (k4 x2 x3 f) → Ev G l MX3_holdCost (Rm 1 0 0) (ZM G Q 0 0) 0 0 4 [some (vR 57), none, some (vI x2), some (vI x3)] [] (SH, RF, f)) (x2 : Int) (x3 : Int) (f : Mm) (h : OkI Q (FX3_holdCost_42 k4 x2 x3 f)) : Ev G l MX3_holdCost (Rm 1 0 0) (ZM G Q 0 0) 0 0 42 [some (vR 57), none, some (vI x2), some (vI x3)] [] (SH, RF, f) := by
  unfold FX3_holdCost_42 at h
  refine ev_iinc (L' := [some (vR 57), none, some (vI x2), some (vI (w32 (x3 + 1)))]) dX3_holdCost_42 rfl (by decide) rfl ?_
  refine ev_goto (tgt := 4) dX3_holdCost_45 (by decide) ?_
  exact q4 x2 (w32 (x3 + 1)) _ h
def FX3_holdCost_35 (k4 : Int → Int → Mm → Option (Int × Mm)) (x3 : Int) (f : Mm) : Option (Int × Mm) := (if 0 ≤ x3 ∧ x3 < 61 then FX3_holdCost_42 k4 (f 64 x3.toNat) x3 f else none)
set_option maxHeartbeats 4000000 in
set_option maxRecDepth 100000 in
theorem SX3_holdCost_35 {G : GT} {l : Launch} {Q : Option AV → Mem → Prop} {k4 : Int → Int → Mm → Option (Int × Mm)} (q4 : ∀ (x2 : Int) (x3 : Int) (f : Mm), OkI Q (k4 x2 x3 f) → Ev G l MX3_holdCost (Rm 1 0 0) (ZM G Q 0 0) 0 0 4 [some (vR 57), none, some (vI x2), some (vI x3)] [] (SH, RF, f)) (x3 : Int) (f : Mm) (h : OkI Q (FX3_holdCost_35 k4 x3 f)) : Ev G l MX3_holdCost (Rm 1 0 0) (ZM G Q 0 0) 0 0 35 [some (vR 57), none, none, some (vI x3)] [] (SH, RF, f) := by
  unfold FX3_holdCost_35 at h
  refine ev_aload_n (i := 0) dX3_holdCost_35 rfl rfl ?_
  refine ev_getR dX3_holdCost_36 fl_X3_30 sh_57 (by decide) (by decide) rf_57_9 ?_
  refine ev_iload_n (i := 3) dX3_holdCost_39 rfl rfl ?_
  by_cases g1 : 0 ≤ x3 ∧ x3 < 61
  · rw [if_pos g1] at h
    refine ex_iald (x := (f 64 x3.toNat)) dX3_holdCost_40 sh_64 g1.1 g1.2 rfl ?_
    refine ev_istore_n (i := 2) (L' := [some (vR 57), none, some (vI (f 64 x3.toNat)), some (vI x3)]) dX3_holdCost_41 rfl (by decide) rfl ?_
    exact SX3_holdCost_42 q4 (f 64 x3.toNat) x3 _ h
  · rw [if_neg g1] at h; exact h.elim
def FX3_holdCost_4  : Nat → Int → Int → Mm → Option (Int × Mm)
  | 0, _, _, _ => none
  | n + 1, x2, x3, f => (if 60 < x3 then some (x2, f) else (if 0 ≤ x3 ∧ x3 < 61 then (if (f 64 x3.toNat) = (-1) then FX3_holdCost_42 (FX3_holdCost_4 n) x2 x3 f else (if x2 = (-1) then FX3_holdCost_35 (FX3_holdCost_4 n) x3 f else (if 0 ≤ x3 ∧ x3 < 61 then (if x2 ≤ (f 64 x3.toNat) then FX3_holdCost_42 (FX3_holdCost_4 n) x2 x3 f else FX3_holdCost_35 (FX3_holdCost_4 n) x3 f) else none))) else none))
set_option maxHeartbeats 4000000 in
set_option maxRecDepth 100000 in
theorem SX3_holdCost_4 {G : GT} {l : Launch} {Q : Option AV → Mem → Prop}  : ∀ (n : Nat) (x2 : Int) (x3 : Int) (f : Mm), OkI Q (FX3_holdCost_4  n x2 x3 f) → Ev G l MX3_holdCost (Rm 1 0 0) (ZM G Q 0 0) 0 0 4 [some (vR 57), none, some (vI x2), some (vI x3)] [] (SH, RF, f) := by
  intro n
  induction n with
  | zero => intro x2 x3 f h; exact absurd h (by rw [FX3_holdCost_4]; exact fun q => q)
  | succ n ih =>
    intro x2 x3 f h
    rw [FX3_holdCost_4] at h
    refine ev_iload_n (i := 3) dX3_holdCost_4 rfl rfl ?_
    refine ev_bipush (v := 60) dX3_holdCost_5 (r32c rfl) (by decide) ?_
    refine ev_icmp_gt (tgt := 48) dX3_holdCost_7 (by decide) (fun c6 => ?_) (fun c6 => ?_)
    · rw [if_pos c6] at h
      refine ev_iload_n (i := 2) dX3_holdCost_48 rfl rfl ?_
      exact ev_iret rfl dX3_holdCost_49 h
    · rw [if_neg c6] at h
      refine ev_aload_n (i := 0) dX3_holdCost_10 rfl rfl ?_
      refine ev_getR dX3_holdCost_11 fl_X3_30 sh_57 (by decide) (by decide) rf_57_9 ?_
      refine ev_iload_n (i := 3) dX3_holdCost_14 rfl rfl ?_
      by_cases g1 : 0 ≤ x3 ∧ x3 < 61
      · rw [if_pos g1] at h
        refine ex_iald (x := (f 64 x3.toNat)) dX3_holdCost_15 sh_64 g1.1 g1.2 rfl ?_
        refine ev_iconst dX3_holdCost_16 (r32c rfl) ?_
        refine ev_icmp_eq (tgt := 42) dX3_holdCost_17 (by decide) (fun c5 => ?_) (fun c5 => ?_)
        · rw [if_pos c5] at h
          exact SX3_holdCost_42 ih x2 x3 _ h
        · rw [if_neg c5] at h
          refine ev_iload_n (i := 2) dX3_holdCost_20 rfl rfl ?_
          refine ev_iconst dX3_holdCost_21 (r32c rfl) ?_
          refine ev_icmp_eq (tgt := 35) dX3_holdCost_22 (by decide) (fun c4 => ?_) (fun c4 => ?_)
          · rw [if_pos c4] at h
            refine ev_fg [true, true, false, true] rfl ?_
            exact SX3_holdCost_35 ih x3 _ h
          · rw [if_neg c4] at h
            refine ev_aload_n (i := 0) dX3_holdCost_25 rfl rfl ?_
            refine ev_getR dX3_holdCost_26 fl_X3_30 sh_57 (by decide) (by decide) rf_57_9 ?_
            refine ev_iload_n (i := 3) dX3_holdCost_29 rfl rfl ?_
            by_cases g2 : 0 ≤ x3 ∧ x3 < 61
            · rw [if_pos g2] at h
              refine ex_iald (x := (f 64 x3.toNat)) dX3_holdCost_30 sh_64 g2.1 g2.2 rfl ?_
              refine ev_iload_n (i := 2) dX3_holdCost_31 rfl rfl ?_
              refine ev_icmp_ge (tgt := 42) dX3_holdCost_32 (by decide) (fun c3 => ?_) (fun c3 => ?_)
              · rw [if_pos c3] at h
                exact SX3_holdCost_42 ih x2 x3 _ h
              · rw [if_neg c3] at h
                refine ev_fg [true, true, false, true] rfl ?_
                exact SX3_holdCost_35 ih x3 _ h
            · rw [if_neg g2] at h; exact h.elim
      · rw [if_neg g1] at h; exact h.elim
def FX3_holdCost_0  (x1 : Int) (f : Mm) : Option (Int × Mm) := FX3_holdCost_4 fu (-1) x1 f
set_option maxHeartbeats 4000000 in
set_option maxRecDepth 100000 in
theorem SX3_holdCost_0 {G : GT} {l : Launch} {Q : Option AV → Mem → Prop}  (x1 : Int) (f : Mm) (h : OkI Q (FX3_holdCost_0  x1 f)) : Ev G l MX3_holdCost (Rm 1 0 0) (ZM G Q 0 0) 0 0 0 [some (vR 57), some (vI x1), none, none] [] (SH, RF, f) := by
  unfold FX3_holdCost_0 at h
  refine ev_iconst dX3_holdCost_0 (r32c rfl) ?_
  refine ev_istore_n (i := 2) (L' := [some (vR 57), some (vI x1), some (vI (-1)), none]) dX3_holdCost_1 rfl (by decide) rfl ?_
  refine ev_iload_n (i := 1) dX3_holdCost_2 rfl rfl ?_
  refine ev_istore_n (i := 3) (L' := [some (vR 57), some (vI x1), some (vI (-1)), some (vI x1)]) dX3_holdCost_3 rfl (by decide) rfl ?_
  refine ev_fg [true, false, true, true] rfl ?_
  exact SX3_holdCost_4  fu (-1) x1 _ h
def FX3_holdCost (x1 : Int) (f : Mm) : Option (Int × Mm) := FX3_holdCost_0 x1 f
theorem TX3_holdCost {G : GT} {l : Launch} {Q : Option AV → Mem → Prop} (x1 : Int) (f : Mm) (h : OkI Q (FX3_holdCost x1 f)) : Ret G l MX3_holdCost (1) 0 0 [vR 57, vI x1] (SH, RF, f) Q := by
  refine ret_of (L := [some (vR 57), some (vI x1), none, none]) (by decide) rfl (Nat.le_of_ble_eq_true rfl) ?_
  exact SX3_holdCost_0 x1 f h
theorem dX10_hold_0 : decode cX10_hold 0 = .ok (.aload_n 0, 1) := by decide +kernel
theorem dX10_hold_1 : decode cX10_hold 1 = .ok (.getfield 19, 3) := by decide +kernel
theorem dX10_hold_4 : decode cX10_hold 4 = .ok (.invokevirtual 140, 3) := by decide +kernel
theorem dX10_hold_7 : decode cX10_hold 7 = .ok (.ifCond .eq 10, 3) := by decide +kernel
theorem dX10_hold_17 : decode cX10_hold 17 = .ok (.bipush (-2), 2) := by decide +kernel
theorem dX10_hold_19 : decode cX10_hold 19 = .ok (.ireturn, 1) := by decide +kernel
theorem dX10_hold_10 : decode cX10_hold 10 = .ok (.iload_n 1, 1) := by decide +kernel
theorem dX10_hold_11 : decode cX10_hold 11 = .ok (.invokestatic 251, 3) := by decide +kernel
theorem dX10_hold_14 : decode cX10_hold 14 = .ok (.ifCond .ne 6, 3) := by decide +kernel
theorem dX10_hold_20 : decode cX10_hold 20 = .ok (.aload_n 0, 1) := by decide +kernel
theorem dX10_hold_21 : decode cX10_hold 21 = .ok (.invokevirtual 189, 3) := by decide +kernel
theorem dX10_hold_24 : decode cX10_hold 24 = .ok (.iload_n 1, 1) := by decide +kernel
theorem dX10_hold_25 : decode cX10_hold 25 = .ok (.invokevirtual 254, 3) := by decide +kernel
theorem dX10_hold_28 : decode cX10_hold 28 = .ok (.ireturn, 1) := by decide +kernel
def FX10_hold_0  (x1 : Int) (f : Mm) : Option (Int × Mm) := (b2 (FX0_stands_4 f) fun y1 f1 => (if y1 = 0 then some ((-2), f1) else (b2 (FX10_isFeeling x1 f1) fun y2 f2 => (if y2 = 0 then some ((-2), f2) else ((FX10_weighed f2).bind fun f3 => (b2 (FX3_holdCost x1 f3) fun y4 f4 => some (y4, f4)))))))
set_option maxHeartbeats 4000000 in
set_option maxRecDepth 100000 in
theorem SX10_hold_0 {G : GT} {l : Launch} {Q : Option AV → Mem → Prop}  (x1 : Int) (f : Mm) (h : OkI Q (FX10_hold_0  x1 f)) : Ev G l MX10_hold (Rm 6 0 0) (ZM G Q 0 0) 0 0 0 [some (vR 0), some (vI x1)] [] (SH, RF, f) := by
  unfold FX10_hold_0 at h
  refine ev_aload_n (i := 0) dX10_hold_0 rfl rfl ?_
  refine ev_getR dX10_hold_1 fl_X10_19 sh_0 (by decide) (by decide) rf_0_1 ?_
  refine ev_cVI (b := 4) (av := []) (S := []) (fun q => q) h dX10_hold_4 (fun Q' q => TX0_stands_4 _ q) kvX0_stands ml_X10_140 sh_4 rfl (RRc (by decide) (by decide)) (Nat.le_of_ble_eq_true rfl) ⟨Nat.le_of_ble_eq_true rfl, Nat.le_of_ble_eq_true rfl⟩ (fun y1 f1 h => ?_)
  refine ev_if_eq (tgt := 17) dX10_hold_7 (by decide) (fun c6 => ?_) (fun c6 => ?_)
  · rw [if_pos c6] at h
    refine ev_bipush (v := (-2)) dX10_hold_17 (r32c rfl) (by decide) ?_
    exact ev_iret rfl dX10_hold_19 h
  · rw [if_neg c6] at h
    refine ev_iload_n (i := 1) dX10_hold_10 rfl rfl ?_
    refine ev_cSI (av := [vI x1]) (S := []) (fun q => q) h dX10_hold_11 (fun Q' q => TX10_isFeeling x1 _ q) ksX10_isFeeling ml_X10_251 rfl (RRc (by decide) (by decide)) (Nat.le_of_ble_eq_true rfl) ⟨Nat.le_of_ble_eq_true rfl, Nat.le_of_ble_eq_true rfl⟩ (fun y2 f2 h => ?_)
    refine ev_if_ne (tgt := 20) dX10_hold_14 (by decide) (fun c5 => ?_) (fun c5 => ?_)
    · rw [if_neg c5] at h
      refine ev_aload_n (i := 0) dX10_hold_20 rfl rfl ?_
      refine ev_cVC (b := 0) (av := []) (S := []) (fun q => q) h dX10_hold_21 (fun Q' q => TX10_weighed _ q) kvX10_weighed ml_X10_189 sh_0 rfl (RRc (by decide) (by decide)) (Nat.le_of_ble_eq_true rfl) ⟨Nat.le_of_ble_eq_true rfl, Nat.le_of_ble_eq_true rfl⟩ (fun f3 h => ?_)
      refine ev_iload_n (i := 1) dX10_hold_24 rfl rfl ?_
      refine ev_cVI (b := 57) (av := [vI x1]) (S := []) (fun q => q) h dX10_hold_25 (fun Q' q => TX3_holdCost x1 _ q) kvX3_holdCost ml_X10_254 sh_57 rfl (RRc (by decide) (by decide)) (Nat.le_of_ble_eq_true rfl) ⟨Nat.le_of_ble_eq_true rfl, Nat.le_of_ble_eq_true rfl⟩ (fun y4 f4 h => ?_)
      exact ev_iret rfl dX10_hold_28 h
    · rw [if_pos c5] at h
      refine ev_bipush (v := (-2)) dX10_hold_17 (r32c rfl) (by decide) ?_
      exact ev_iret rfl dX10_hold_19 h
def FX10_hold (x1 : Int) (f : Mm) : Option (Int × Mm) := FX10_hold_0 x1 f
theorem TX10_hold {G : GT} {l : Launch} {Q : Option AV → Mem → Prop} (x1 : Int) (f : Mm) (h : OkI Q (FX10_hold x1 f)) : Ret G l MX10_hold (6) 0 0 [vR 0, vI x1] (SH, RF, f) Q := by
  refine ret_of (L := [some (vR 0), some (vI x1)]) (by decide) rfl (Nat.le_of_ble_eq_true rfl) ?_
  exact SX10_hold_0 x1 f h
theorem dX3_widestLeast_22 : decode cX3_widestLeast 22 = .ok (.iinc 2 1, 3) := by decide +kernel
theorem dX3_widestLeast_25 : decode cX3_widestLeast 25 = .ok (.goto (-21), 3) := by decide +kernel
theorem dX3_widestLeast_4 : decode cX3_widestLeast 4 = .ok (.iload_n 2, 1) := by decide +kernel
theorem dX3_widestLeast_5 : decode cX3_widestLeast 5 = .ok (.bipush 60, 2) := by decide +kernel
theorem dX3_widestLeast_7 : decode cX3_widestLeast 7 = .ok (.if_icmp .gt 21, 3) := by decide +kernel
theorem dX3_widestLeast_28 : decode cX3_widestLeast 28 = .ok (.iload_n 1, 1) := by decide +kernel
theorem dX3_widestLeast_29 : decode cX3_widestLeast 29 = .ok (.ireturn, 1) := by decide +kernel
theorem dX3_widestLeast_10 : decode cX3_widestLeast 10 = .ok (.aload_n 0, 1) := by decide +kernel
theorem dX3_widestLeast_11 : decode cX3_widestLeast 11 = .ok (.getfield 30, 3) := by decide +kernel
theorem dX3_widestLeast_14 : decode cX3_widestLeast 14 = .ok (.iload_n 2, 1) := by decide +kernel
theorem dX3_widestLeast_15 : decode cX3_widestLeast 15 = .ok (.iaload, 1) := by decide +kernel
theorem dX3_widestLeast_16 : decode cX3_widestLeast 16 = .ok (.iconst (-1), 1) := by decide +kernel
theorem dX3_widestLeast_17 : decode cX3_widestLeast 17 = .ok (.if_icmp .eq 5, 3) := by decide +kernel
theorem dX3_widestLeast_20 : decode cX3_widestLeast 20 = .ok (.iload_n 2, 1) := by decide +kernel
theorem dX3_widestLeast_21 : decode cX3_widestLeast 21 = .ok (.istore_n 1, 1) := by decide +kernel
theorem dX3_widestLeast_0 : decode cX3_widestLeast 0 = .ok (.iconst 0, 1) := by decide +kernel
theorem dX3_widestLeast_1 : decode cX3_widestLeast 1 = .ok (.istore_n 1, 1) := by decide +kernel
theorem dX3_widestLeast_2 : decode cX3_widestLeast 2 = .ok (.iconst 0, 1) := by decide +kernel
theorem dX3_widestLeast_3 : decode cX3_widestLeast 3 = .ok (.istore_n 2, 1) := by decide +kernel
def FX3_widestLeast_22 (k4 : Int → Int → Mm → Option (Int × Mm)) (x1 : Int) (x2 : Int) (f : Mm) : Option (Int × Mm) := k4 x1 (w32 (x2 + 1)) f
set_option maxHeartbeats 4000000 in
set_option maxRecDepth 100000 in
theorem SX3_widestLeast_22 {G : GT} {l : Launch} {Q : Option AV → Mem → Prop} {k4 : Int → Int → Mm → Option (Int × Mm)} (q4 : ∀ (x1 : Int) (x2 : Int) (f : Mm), OkI Q (k4 x1 x2 f) → Ev G l MX3_widestLeast (Rm 1 0 0) (ZM G Q 0 0) 0 0 4 [some (vR 57), some (vI x1), some (vI x2)] [] (SH, RF, f)) (x1 : Int) (x2 : Int) (f : Mm) (h : OkI Q (FX3_widestLeast_22 k4 x1 x2 f)) : Ev G l MX3_widestLeast (Rm 1 0 0) (ZM G Q 0 0) 0 0 22 [some (vR 57), some (vI x1), some (vI x2)] [] (SH, RF, f) := by
  unfold FX3_widestLeast_22 at h
  refine ev_iinc (L' := [some (vR 57), some (vI x1), some (vI (w32 (x2 + 1)))]) dX3_widestLeast_22 rfl (by decide) rfl ?_
  refine ev_goto (tgt := 4) dX3_widestLeast_25 (by decide) ?_
  exact q4 x1 (w32 (x2 + 1)) _ h
def FX3_widestLeast_4  : Nat → Int → Int → Mm → Option (Int × Mm)
  | 0, _, _, _ => none
  | n + 1, x1, x2, f => (if 60 < x2 then some (x1, f) else (if 0 ≤ x2 ∧ x2 < 61 then (if (f 64 x2.toNat) = (-1) then FX3_widestLeast_22 (FX3_widestLeast_4 n) x1 x2 f else FX3_widestLeast_22 (FX3_widestLeast_4 n) x2 x2 f) else none))
set_option maxHeartbeats 4000000 in
set_option maxRecDepth 100000 in
theorem SX3_widestLeast_4 {G : GT} {l : Launch} {Q : Option AV → Mem → Prop}  : ∀ (n : Nat) (x1 : Int) (x2 : Int) (f : Mm), OkI Q (FX3_widestLeast_4  n x1 x2 f) → Ev G l MX3_widestLeast (Rm 1 0 0) (ZM G Q 0 0) 0 0 4 [some (vR 57), some (vI x1), some (vI x2)] [] (SH, RF, f) := by
  intro n
  induction n with
  | zero => intro x1 x2 f h; exact absurd h (by rw [FX3_widestLeast_4]; exact fun q => q)
  | succ n ih =>
    intro x1 x2 f h
    rw [FX3_widestLeast_4] at h
    refine ev_iload_n (i := 2) dX3_widestLeast_4 rfl rfl ?_
    refine ev_bipush (v := 60) dX3_widestLeast_5 (r32c rfl) (by decide) ?_
    refine ev_icmp_gt (tgt := 28) dX3_widestLeast_7 (by decide) (fun c3 => ?_) (fun c3 => ?_)
    · rw [if_pos c3] at h
      refine ev_iload_n (i := 1) dX3_widestLeast_28 rfl rfl ?_
      exact ev_iret rfl dX3_widestLeast_29 h
    · rw [if_neg c3] at h
      refine ev_aload_n (i := 0) dX3_widestLeast_10 rfl rfl ?_
      refine ev_getR dX3_widestLeast_11 fl_X3_30 sh_57 (by decide) (by decide) rf_57_9 ?_
      refine ev_iload_n (i := 2) dX3_widestLeast_14 rfl rfl ?_
      by_cases g1 : 0 ≤ x2 ∧ x2 < 61
      · rw [if_pos g1] at h
        refine ex_iald (x := (f 64 x2.toNat)) dX3_widestLeast_15 sh_64 g1.1 g1.2 rfl ?_
        refine ev_iconst dX3_widestLeast_16 (r32c rfl) ?_
        refine ev_icmp_eq (tgt := 22) dX3_widestLeast_17 (by decide) (fun c2 => ?_) (fun c2 => ?_)
        · rw [if_pos c2] at h
          exact SX3_widestLeast_22 ih x1 x2 _ h
        · rw [if_neg c2] at h
          refine ev_iload_n (i := 2) dX3_widestLeast_20 rfl rfl ?_
          refine ev_istore_n (i := 1) (L' := [some (vR 57), some (vI x2), some (vI x2)]) dX3_widestLeast_21 rfl (by decide) rfl ?_
          exact SX3_widestLeast_22 ih x2 x2 _ h
      · rw [if_neg g1] at h; exact h.elim
def FX3_widestLeast_0   (f : Mm) : Option (Int × Mm) := FX3_widestLeast_4 fu 0 0 f
set_option maxHeartbeats 4000000 in
set_option maxRecDepth 100000 in
theorem SX3_widestLeast_0 {G : GT} {l : Launch} {Q : Option AV → Mem → Prop}   (f : Mm) (h : OkI Q (FX3_widestLeast_0   f)) : Ev G l MX3_widestLeast (Rm 1 0 0) (ZM G Q 0 0) 0 0 0 [some (vR 57), none, none] [] (SH, RF, f) := by
  unfold FX3_widestLeast_0 at h
  refine ev_iconst dX3_widestLeast_0 (r32c rfl) ?_
  refine ev_istore_n (i := 1) (L' := [some (vR 57), some (vI 0), none]) dX3_widestLeast_1 rfl (by decide) rfl ?_
  refine ev_iconst dX3_widestLeast_2 (r32c rfl) ?_
  refine ev_istore_n (i := 2) (L' := [some (vR 57), some (vI 0), some (vI 0)]) dX3_widestLeast_3 rfl (by decide) rfl ?_
  exact SX3_widestLeast_4  fu 0 0 _ h
def FX3_widestLeast  (f : Mm) : Option (Int × Mm) := FX3_widestLeast_0  f
theorem TX3_widestLeast {G : GT} {l : Launch} {Q : Option AV → Mem → Prop}  (f : Mm) (h : OkI Q (FX3_widestLeast  f)) : Ret G l MX3_widestLeast (1) 0 0 [vR 57] (SH, RF, f) Q := by
  refine ret_of (L := [some (vR 57), none, none]) (by decide) rfl (Nat.le_of_ble_eq_true rfl) ?_
  exact SX3_widestLeast_0  f h
theorem dX10_widest_0 : decode cX10_widest 0 = .ok (.aload_n 0, 1) := by decide +kernel
theorem dX10_widest_1 : decode cX10_widest 1 = .ok (.getfield 19, 3) := by decide +kernel
theorem dX10_widest_4 : decode cX10_widest 4 = .ok (.invokevirtual 140, 3) := by decide +kernel
theorem dX10_widest_7 : decode cX10_widest 7 = .ok (.ifCond .eq 13, 3) := by decide +kernel
theorem dX10_widest_20 : decode cX10_widest 20 = .ok (.bipush (-2), 2) := by decide +kernel
theorem dX10_widest_22 : decode cX10_widest 22 = .ok (.ireturn, 1) := by decide +kernel
theorem dX10_widest_10 : decode cX10_widest 10 = .ok (.aload_n 0, 1) := by decide +kernel
theorem dX10_widest_11 : decode cX10_widest 11 = .ok (.invokevirtual 189, 3) := by decide +kernel
theorem dX10_widest_14 : decode cX10_widest 14 = .ok (.invokevirtual 257, 3) := by decide +kernel
theorem dX10_widest_17 : decode cX10_widest 17 = .ok (.goto 5, 3) := by decide +kernel
def FX10_widest_0   (f : Mm) : Option (Int × Mm) := (b2 (FX0_stands_4 f) fun y1 f1 => (if y1 = 0 then some ((-2), f1) else ((FX10_weighed f1).bind fun f2 => (b2 (FX3_widestLeast f2) fun y3 f3 => some (y3, f3)))))
set_option maxHeartbeats 4000000 in
set_option maxRecDepth 100000 in
theorem SX10_widest_0 {G : GT} {l : Launch} {Q : Option AV → Mem → Prop}   (f : Mm) (h : OkI Q (FX10_widest_0   f)) : Ev G l MX10_widest (Rm 6 0 0) (ZM G Q 0 0) 0 0 0 [some (vR 0)] [] (SH, RF, f) := by
  unfold FX10_widest_0 at h
  refine ev_aload_n (i := 0) dX10_widest_0 rfl rfl ?_
  refine ev_getR dX10_widest_1 fl_X10_19 sh_0 (by decide) (by decide) rf_0_1 ?_
  refine ev_cVI (b := 4) (av := []) (S := []) (fun q => q) h dX10_widest_4 (fun Q' q => TX0_stands_4 _ q) kvX0_stands ml_X10_140 sh_4 rfl (RRc (by decide) (by decide)) (Nat.le_of_ble_eq_true rfl) ⟨Nat.le_of_ble_eq_true rfl, Nat.le_of_ble_eq_true rfl⟩ (fun y1 f1 h => ?_)
  refine ev_if_eq (tgt := 20) dX10_widest_7 (by decide) (fun c4 => ?_) (fun c4 => ?_)
  · rw [if_pos c4] at h
    refine ev_bipush (v := (-2)) dX10_widest_20 (r32c rfl) (by decide) ?_
    exact ev_iret rfl dX10_widest_22 h
  · rw [if_neg c4] at h
    refine ev_aload_n (i := 0) dX10_widest_10 rfl rfl ?_
    refine ev_cVC (b := 0) (av := []) (S := []) (fun q => q) h dX10_widest_11 (fun Q' q => TX10_weighed _ q) kvX10_weighed ml_X10_189 sh_0 rfl (RRc (by decide) (by decide)) (Nat.le_of_ble_eq_true rfl) ⟨Nat.le_of_ble_eq_true rfl, Nat.le_of_ble_eq_true rfl⟩ (fun f2 h => ?_)
    refine ev_cVI (b := 57) (av := []) (S := []) (fun q => q) h dX10_widest_14 (fun Q' q => TX3_widestLeast _ q) kvX3_widestLeast ml_X10_257 sh_57 rfl (RRc (by decide) (by decide)) (Nat.le_of_ble_eq_true rfl) ⟨Nat.le_of_ble_eq_true rfl, Nat.le_of_ble_eq_true rfl⟩ (fun y3 f3 h => ?_)
    refine ev_goto (tgt := 22) dX10_widest_17 (by decide) ?_
    exact ev_iret rfl dX10_widest_22 h
def FX10_widest  (f : Mm) : Option (Int × Mm) := FX10_widest_0  f
theorem TX10_widest {G : GT} {l : Launch} {Q : Option AV → Mem → Prop}  (f : Mm) (h : OkI Q (FX10_widest  f)) : Ret G l MX10_widest (6) 0 0 [vR 0] (SH, RF, f) Q := by
  refine ret_of (L := [some (vR 0)]) (by decide) rfl (Nat.le_of_ble_eq_true rfl) ?_
  exact SX10_widest_0  f h
theorem dX10_most_0 : decode cX10_most 0 = .ok (.aload_n 0, 1) := by decide +kernel
theorem dX10_most_1 : decode cX10_most 1 = .ok (.getfield 19, 3) := by decide +kernel
theorem dX10_most_4 : decode cX10_most 4 = .ok (.iload_n 1, 1) := by decide +kernel
theorem dX10_most_5 : decode cX10_most 5 = .ok (.invokevirtual 126, 3) := by decide +kernel
theorem dX10_most_8 : decode cX10_most 8 = .ok (.ifCond .eq 15, 3) := by decide +kernel
theorem dX10_most_23 : decode cX10_most 23 = .ok (.bipush (-2), 2) := by decide +kernel
theorem dX10_most_25 : decode cX10_most 25 = .ok (.ireturn, 1) := by decide +kernel
theorem dX10_most_11 : decode cX10_most 11 = .ok (.aload_n 0, 1) := by decide +kernel
theorem dX10_most_12 : decode cX10_most 12 = .ok (.invokevirtual 189, 3) := by decide +kernel
theorem dX10_most_15 : decode cX10_most 15 = .ok (.getfield 260, 3) := by decide +kernel
theorem dX10_most_18 : decode cX10_most 18 = .ok (.iload_n 1, 1) := by decide +kernel
theorem dX10_most_19 : decode cX10_most 19 = .ok (.iaload, 1) := by decide +kernel
theorem dX10_most_20 : decode cX10_most 20 = .ok (.goto 5, 3) := by decide +kernel
def FX10_most_0  (x1 : Int) (f : Mm) : Option (Int × Mm) := (b2 (FX0_hasDay_4 x1 f) fun y1 f1 => (if y1 = 0 then some ((-2), f1) else ((FX10_weighed f1).bind fun f2 => (if 0 ≤ x1 ∧ x1 < 6 then some ((f2 65 x1.toNat), f2) else none))))
set_option maxHeartbeats 4000000 in
set_option maxRecDepth 100000 in
theorem SX10_most_0 {G : GT} {l : Launch} {Q : Option AV → Mem → Prop}  (x1 : Int) (f : Mm) (h : OkI Q (FX10_most_0  x1 f)) : Ev G l MX10_most (Rm 6 0 0) (ZM G Q 0 0) 0 0 0 [some (vR 0), some (vI x1)] [] (SH, RF, f) := by
  unfold FX10_most_0 at h
  refine ev_aload_n (i := 0) dX10_most_0 rfl rfl ?_
  refine ev_getR dX10_most_1 fl_X10_19 sh_0 (by decide) (by decide) rf_0_1 ?_
  refine ev_iload_n (i := 1) dX10_most_4 rfl rfl ?_
  refine ev_cVI (b := 4) (av := [vI x1]) (S := []) (fun q => q) h dX10_most_5 (fun Q' q => TX0_hasDay_4 x1 _ q) kvX0_hasDay ml_X10_126 sh_4 rfl (RRc (by decide) (by decide)) (Nat.le_of_ble_eq_true rfl) ⟨Nat.le_of_ble_eq_true rfl, Nat.le_of_ble_eq_true rfl⟩ (fun y1 f1 h => ?_)
  refine ev_if_eq (tgt := 23) dX10_most_8 (by decide) (fun c4 => ?_) (fun c4 => ?_)
  · rw [if_pos c4] at h
    refine ev_bipush (v := (-2)) dX10_most_23 (r32c rfl) (by decide) ?_
    exact ev_iret rfl dX10_most_25 h
  · rw [if_neg c4] at h
    refine ev_aload_n (i := 0) dX10_most_11 rfl rfl ?_
    refine ev_cVC (b := 0) (av := []) (S := []) (fun q => q) h dX10_most_12 (fun Q' q => TX10_weighed _ q) kvX10_weighed ml_X10_189 sh_0 rfl (RRc (by decide) (by decide)) (Nat.le_of_ble_eq_true rfl) ⟨Nat.le_of_ble_eq_true rfl, Nat.le_of_ble_eq_true rfl⟩ (fun f2 h => ?_)
    refine ev_getR dX10_most_15 fl_X10_260 sh_57 (by decide) (by decide) rf_57_10 ?_
    refine ev_iload_n (i := 1) dX10_most_18 rfl rfl ?_
    by_cases g3 : 0 ≤ x1 ∧ x1 < 6
    · rw [if_pos g3] at h
      refine ex_iald (x := (f2 65 x1.toNat)) dX10_most_19 sh_65 g3.1 g3.2 rfl ?_
      refine ev_goto (tgt := 25) dX10_most_20 (by decide) ?_
      exact ev_iret rfl dX10_most_25 h
    · rw [if_neg g3] at h; exact h.elim
def FX10_most (x1 : Int) (f : Mm) : Option (Int × Mm) := FX10_most_0 x1 f
theorem TX10_most {G : GT} {l : Launch} {Q : Option AV → Mem → Prop} (x1 : Int) (f : Mm) (h : OkI Q (FX10_most x1 f)) : Ret G l MX10_most (6) 0 0 [vR 0, vI x1] (SH, RF, f) Q := by
  refine ret_of (L := [some (vR 0), some (vI x1)]) (by decide) rfl (Nat.le_of_ble_eq_true rfl) ?_
  exact SX10_most_0 x1 f h
theorem dX10_isAbreast_0 : decode cX10_isAbreast 0 = .ok (.iload_n 0, 1) := by decide +kernel
theorem dX10_isAbreast_1 : decode cX10_isAbreast 1 = .ok (.ifCond .lt 13, 3) := by decide +kernel
theorem dX10_isAbreast_14 : decode cX10_isAbreast 14 = .ok (.iconst 0, 1) := by decide +kernel
theorem dX10_isAbreast_15 : decode cX10_isAbreast 15 = .ok (.ireturn, 1) := by decide +kernel
theorem dX10_isAbreast_4 : decode cX10_isAbreast 4 = .ok (.iload_n 0, 1) := by decide +kernel
theorem dX10_isAbreast_5 : decode cX10_isAbreast 5 = .ok (.bipush 99, 2) := by decide +kernel
theorem dX10_isAbreast_7 : decode cX10_isAbreast 7 = .ok (.if_icmp .gt 7, 3) := by decide +kernel
theorem dX10_isAbreast_10 : decode cX10_isAbreast 10 = .ok (.iconst 1, 1) := by decide +kernel
theorem dX10_isAbreast_11 : decode cX10_isAbreast 11 = .ok (.goto 4, 3) := by decide +kernel
def FX10_isAbreast_0  (x0 : Int) (f : Mm) : Option (Int × Mm) := (if x0 < 0 then some (0, f) else (if 99 < x0 then some (0, f) else some (1, f)))
set_option maxHeartbeats 4000000 in
set_option maxRecDepth 100000 in
theorem SX10_isAbreast_0 {G : GT} {l : Launch} {Q : Option AV → Mem → Prop}  (x0 : Int) (f : Mm) (h : OkI Q (FX10_isAbreast_0  x0 f)) : Ev G l MX10_isAbreast (Rm 1 0 0) (ZM G Q 0 0) 0 0 0 [some (vI x0)] [] (SH, RF, f) := by
  unfold FX10_isAbreast_0 at h
  refine ev_iload_n (i := 0) dX10_isAbreast_0 rfl rfl ?_
  refine ev_if_lt (tgt := 14) dX10_isAbreast_1 (by decide) (fun c2 => ?_) (fun c2 => ?_)
  · rw [if_pos c2] at h
    refine ev_iconst dX10_isAbreast_14 (r32c rfl) ?_
    exact ev_zret rfl (by decide) dX10_isAbreast_15 h
  · rw [if_neg c2] at h
    refine ev_iload_n (i := 0) dX10_isAbreast_4 rfl rfl ?_
    refine ev_bipush (v := 99) dX10_isAbreast_5 (r32c rfl) (by decide) ?_
    refine ev_icmp_gt (tgt := 14) dX10_isAbreast_7 (by decide) (fun c1 => ?_) (fun c1 => ?_)
    · rw [if_pos c1] at h
      refine ev_iconst dX10_isAbreast_14 (r32c rfl) ?_
      exact ev_zret rfl (by decide) dX10_isAbreast_15 h
    · rw [if_neg c1] at h
      refine ev_iconst dX10_isAbreast_10 (r32c rfl) ?_
      refine ev_goto (tgt := 15) dX10_isAbreast_11 (by decide) ?_
      exact ev_zret rfl (by decide) dX10_isAbreast_15 h
def FX10_isAbreast (x0 : Int) (f : Mm) : Option (Int × Mm) := FX10_isAbreast_0 x0 f
theorem TX10_isAbreast {G : GT} {l : Launch} {Q : Option AV → Mem → Prop} (x0 : Int) (f : Mm) (h : OkI Q (FX10_isAbreast x0 f)) : Ret G l MX10_isAbreast (1) 0 0 [vI x0] (SH, RF, f) Q := by
  refine ret_of (L := [some (vI x0)]) (by decide) rfl (Nat.le_of_ble_eq_true rfl) ?_
  exact SX10_isAbreast_0 x0 f h
theorem dX0_wideOf_0 : decode cX0_wideOf 0 = .ok (.aload_n 0, 1) := by decide +kernel
theorem dX0_wideOf_1 : decode cX0_wideOf 1 = .ok (.iload_n 1, 1) := by decide +kernel
theorem dX0_wideOf_2 : decode cX0_wideOf 2 = .ok (.iconst 1, 1) := by decide +kernel
theorem dX0_wideOf_3 : decode cX0_wideOf 3 = .ok (.invokevirtual 73, 3) := by decide +kernel
theorem dX0_wideOf_6 : decode cX0_wideOf 6 = .ok (.ireturn, 1) := by decide +kernel
def FX0_wideOf_4_0  (x1 : Int) (f : Mm) : Option (Int × Mm) := (b2 (FX0_sumOf_4 x1 1 f) fun y1 f1 => some (y1, f1))
set_option maxHeartbeats 4000000 in
set_option maxRecDepth 100000 in
theorem SX0_wideOf_4_0 {G : GT} {l : Launch} {Q : Option AV → Mem → Prop}  (x1 : Int) (f : Mm) (h : OkI Q (FX0_wideOf_4_0  x1 f)) : Ev G l MX0_wideOf (Rm 3 0 0) (ZM G Q 0 0) 0 0 0 [some (vR 4), some (vI x1)] [] (SH, RF, f) := by
  unfold FX0_wideOf_4_0 at h
  refine ev_aload_n (i := 0) dX0_wideOf_0 rfl rfl ?_
  refine ev_iload_n (i := 1) dX0_wideOf_1 rfl rfl ?_
  refine ev_iconst dX0_wideOf_2 (r32c rfl) ?_
  refine ev_cVI (b := 4) (av := [vI x1, vI 1]) (S := []) (fun q => q) h dX0_wideOf_3 (fun Q' q => TX0_sumOf_4 x1 1 _ q) kvX0_sumOf ml_X0_73 sh_4 rfl (RRc (by decide) (by decide)) (Nat.le_of_ble_eq_true rfl) ⟨Nat.le_of_ble_eq_true rfl, Nat.le_of_ble_eq_true rfl⟩ (fun y1 f1 h => ?_)
  exact ev_iret rfl dX0_wideOf_6 h
def FX0_wideOf_4 (x1 : Int) (f : Mm) : Option (Int × Mm) := FX0_wideOf_4_0 x1 f
theorem TX0_wideOf_4 {G : GT} {l : Launch} {Q : Option AV → Mem → Prop} (x1 : Int) (f : Mm) (h : OkI Q (FX0_wideOf_4 x1 f)) : Ret G l MX0_wideOf (3) 0 0 [vR 4, vI x1] (SH, RF, f) Q := by
  refine ret_of (L := [some (vR 4), some (vI x1)]) (by decide) rfl (Nat.le_of_ble_eq_true rfl) ?_
  exact SX0_wideOf_4_0 x1 f h
theorem dX10_abreast_56 : decode cX10_abreast 56 = .ok (.iinc 3 1, 3) := by decide +kernel
theorem dX10_abreast_59 : decode cX10_abreast 59 = .ok (.goto (-35), 3) := by decide +kernel
theorem dX10_abreast_24 : decode cX10_abreast 24 = .ok (.iload_n 3, 1) := by decide +kernel
theorem dX10_abreast_25 : decode cX10_abreast 25 = .ok (.aload_n 0, 1) := by decide +kernel
theorem dX10_abreast_26 : decode cX10_abreast 26 = .ok (.getfield 19, 3) := by decide +kernel
theorem dX10_abreast_29 : decode cX10_abreast 29 = .ok (.invokevirtual 168, 3) := by decide +kernel
theorem dX10_abreast_32 : decode cX10_abreast 32 = .ok (.if_icmp .gt 30, 3) := by decide +kernel
theorem dX10_abreast_62 : decode cX10_abreast 62 = .ok (.iload_n 2, 1) := by decide +kernel
theorem dX10_abreast_63 : decode cX10_abreast 63 = .ok (.ireturn, 1) := by decide +kernel
theorem dX10_abreast_35 : decode cX10_abreast 35 = .ok (.aload_n 0, 1) := by decide +kernel
theorem dX10_abreast_36 : decode cX10_abreast 36 = .ok (.getfield 19, 3) := by decide +kernel
theorem dX10_abreast_39 : decode cX10_abreast 39 = .ok (.iload_n 3, 1) := by decide +kernel
theorem dX10_abreast_40 : decode cX10_abreast 40 = .ok (.invokevirtual 266, 3) := by decide +kernel
theorem dX10_abreast_43 : decode cX10_abreast 43 = .ok (.iload_n 1, 1) := by decide +kernel
theorem dX10_abreast_44 : decode cX10_abreast 44 = .ok (.if_icmp .gt 12, 3) := by decide +kernel
theorem dX10_abreast_47 : decode cX10_abreast 47 = .ok (.iload_n 2, 1) := by decide +kernel
theorem dX10_abreast_48 : decode cX10_abreast 48 = .ok (.iload_n 3, 1) := by decide +kernel
theorem dX10_abreast_49 : decode cX10_abreast 49 = .ok (.invokestatic 212, 3) := by decide +kernel
theorem dX10_abreast_52 : decode cX10_abreast 52 = .ok (.invokestatic 207, 3) := by decide +kernel
theorem dX10_abreast_55 : decode cX10_abreast 55 = .ok (.istore_n 2, 1) := by decide +kernel
theorem dX10_abreast_0 : decode cX10_abreast 0 = .ok (.aload_n 0, 1) := by decide +kernel
theorem dX10_abreast_1 : decode cX10_abreast 1 = .ok (.getfield 19, 3) := by decide +kernel
theorem dX10_abreast_4 : decode cX10_abreast 4 = .ok (.invokevirtual 140, 3) := by decide +kernel
theorem dX10_abreast_7 : decode cX10_abreast 7 = .ok (.ifCond .eq 10, 3) := by decide +kernel
theorem dX10_abreast_17 : decode cX10_abreast 17 = .ok (.bipush (-2), 2) := by decide +kernel
theorem dX10_abreast_19 : decode cX10_abreast 19 = .ok (.ireturn, 1) := by decide +kernel
theorem dX10_abreast_10 : decode cX10_abreast 10 = .ok (.iload_n 1, 1) := by decide +kernel
theorem dX10_abreast_11 : decode cX10_abreast 11 = .ok (.invokestatic 263, 3) := by decide +kernel
theorem dX10_abreast_14 : decode cX10_abreast 14 = .ok (.ifCond .ne 6, 3) := by decide +kernel
theorem dX10_abreast_20 : decode cX10_abreast 20 = .ok (.iconst 0, 1) := by decide +kernel
theorem dX10_abreast_21 : decode cX10_abreast 21 = .ok (.istore_n 2, 1) := by decide +kernel
theorem dX10_abreast_22 : decode cX10_abreast 22 = .ok (.iconst 0, 1) := by decide +kernel
theorem dX10_abreast_23 : decode cX10_abreast 23 = .ok (.istore_n 3, 1) := by decide +kernel
def FX10_abreast_56 (k24 : Int → Int → Int → Mm → Option (Int × Mm)) (x1 : Int) (x2 : Int) (x3 : Int) (f : Mm) : Option (Int × Mm) := k24 x1 x2 (w32 (x3 + 1)) f
set_option maxHeartbeats 4000000 in
set_option maxRecDepth 100000 in
theorem SX10_abreast_56 {G : GT} {l : Launch} {Q : Option AV → Mem → Prop} {k24 : Int → Int → Int → Mm → Option (Int × Mm)} (q24 : ∀ (x1 : Int) (x2 : Int) (x3 : Int) (f : Mm), OkI Q (k24 x1 x2 x3 f) → Ev G l MX10_abreast (Rm 4 0 0) (ZM G Q 0 0) 0 0 24 [some (vR 0), some (vI x1), some (vI x2), some (vI x3)] [] (SH, RF, f)) (x1 : Int) (x2 : Int) (x3 : Int) (f : Mm) (h : OkI Q (FX10_abreast_56 k24 x1 x2 x3 f)) : Ev G l MX10_abreast (Rm 4 0 0) (ZM G Q 0 0) 0 0 56 [some (vR 0), some (vI x1), some (vI x2), some (vI x3)] [] (SH, RF, f) := by
  unfold FX10_abreast_56 at h
  refine ev_iinc (L' := [some (vR 0), some (vI x1), some (vI x2), some (vI (w32 (x3 + 1)))]) dX10_abreast_56 rfl (by decide) rfl ?_
  refine ev_goto (tgt := 24) dX10_abreast_59 (by decide) ?_
  exact q24 x1 x2 (w32 (x3 + 1)) _ h
def FX10_abreast_24  : Nat → Int → Int → Int → Mm → Option (Int × Mm)
  | 0, _, _, _, _ => none
  | n + 1, x1, x2, x3, f => (b2 (FX0_allCarts_4 f) fun y1 f1 => (if y1 < x3 then some (x2, f1) else (b2 (FX0_wideOf_4 x3 f1) fun y2 f2 => (if x1 < y2 then FX10_abreast_56 (FX10_abreast_24 n) x1 x2 x3 f2 else (b2 (FJ6_bitCount_0f7a4 x3 f2) fun y3 f3 => (b2 (FJ9_max_7cf53 x2 y3 f3) fun y4 f4 => FX10_abreast_56 (FX10_abreast_24 n) x1 y4 x3 f4))))))
set_option maxHeartbeats 4000000 in
set_option maxRecDepth 100000 in
theorem SX10_abreast_24 {G : GT} {l : Launch} {Q : Option AV → Mem → Prop}  : ∀ (n : Nat) (x1 : Int) (x2 : Int) (x3 : Int) (f : Mm), OkI Q (FX10_abreast_24  n x1 x2 x3 f) → Ev G l MX10_abreast (Rm 4 0 0) (ZM G Q 0 0) 0 0 24 [some (vR 0), some (vI x1), some (vI x2), some (vI x3)] [] (SH, RF, f) := by
  intro n
  induction n with
  | zero => intro x1 x2 x3 f h; exact absurd h (by rw [FX10_abreast_24]; exact fun q => q)
  | succ n ih =>
    intro x1 x2 x3 f h
    rw [FX10_abreast_24] at h
    refine ev_iload_n (i := 3) dX10_abreast_24 rfl rfl ?_
    refine ev_aload_n (i := 0) dX10_abreast_25 rfl rfl ?_
    refine ev_getR dX10_abreast_26 fl_X10_19 sh_0 (by decide) (by decide) rf_0_1 ?_
    refine ev_cVI (b := 4) (av := []) (S := [vI x3]) (fun q => q) h dX10_abreast_29 (fun Q' q => TX0_allCarts_4 _ q) kvX0_allCarts ml_X10_168 sh_4 rfl (RRc (by decide) (by decide)) (Nat.le_of_ble_eq_true rfl) ⟨Nat.le_of_ble_eq_true rfl, Nat.le_of_ble_eq_true rfl⟩ (fun y1 f1 h => ?_)
    refine ev_icmp_gt (tgt := 62) dX10_abreast_32 (by decide) (fun c6 => ?_) (fun c6 => ?_)
    · rw [if_pos c6] at h
      refine ev_iload_n (i := 2) dX10_abreast_62 rfl rfl ?_
      exact ev_iret rfl dX10_abreast_63 h
    · rw [if_neg c6] at h
      refine ev_aload_n (i := 0) dX10_abreast_35 rfl rfl ?_
      refine ev_getR dX10_abreast_36 fl_X10_19 sh_0 (by decide) (by decide) rf_0_1 ?_
      refine ev_iload_n (i := 3) dX10_abreast_39 rfl rfl ?_
      refine ev_cVI (b := 4) (av := [vI x3]) (S := []) (fun q => q) h dX10_abreast_40 (fun Q' q => TX0_wideOf_4 x3 _ q) kvX0_wideOf ml_X10_266 sh_4 rfl (RRc (by decide) (by decide)) (Nat.le_of_ble_eq_true rfl) ⟨Nat.le_of_ble_eq_true rfl, Nat.le_of_ble_eq_true rfl⟩ (fun y2 f2 h => ?_)
      refine ev_iload_n (i := 1) dX10_abreast_43 rfl rfl ?_
      refine ev_icmp_gt (tgt := 56) dX10_abreast_44 (by decide) (fun c5 => ?_) (fun c5 => ?_)
      · rw [if_pos c5] at h
        exact SX10_abreast_56 ih x1 x2 x3 _ h
      · rw [if_neg c5] at h
        refine ev_iload_n (i := 2) dX10_abreast_47 rfl rfl ?_
        refine ev_iload_n (i := 3) dX10_abreast_48 rfl rfl ?_
        refine ev_cSI (av := [vI x3]) (S := [vI x2]) (fun q => q) h dX10_abreast_49 (fun Q' q => TJ6_bitCount_0f7a4 x3 _ q) ksJ6_bitCount_0f7a4 ml_X10_212 rfl (RRc (by decide) (by decide)) (Nat.le_of_ble_eq_true rfl) ⟨Nat.le_of_ble_eq_true rfl, Nat.le_of_ble_eq_true rfl⟩ (fun y3 f3 h => ?_)
        refine ev_cSI (av := [vI x2, vI y3]) (S := []) (fun q => q) h dX10_abreast_52 (fun Q' q => TJ9_max_7cf53 x2 y3 _ q) ksJ9_max_7cf53 ml_X10_207 rfl (RRc (by decide) (by decide)) (Nat.le_of_ble_eq_true rfl) ⟨Nat.le_of_ble_eq_true rfl, Nat.le_of_ble_eq_true rfl⟩ (fun y4 f4 h => ?_)
        refine ev_istore_n (i := 2) (L' := [some (vR 0), some (vI x1), some (vI y4), some (vI x3)]) dX10_abreast_55 rfl (by decide) rfl ?_
        exact SX10_abreast_56 ih x1 y4 x3 _ h
def FX10_abreast_0  (x1 : Int) (f : Mm) : Option (Int × Mm) := (b2 (FX0_stands_4 f) fun y1 f1 => (if y1 = 0 then some ((-2), f1) else (b2 (FX10_isAbreast x1 f1) fun y2 f2 => (if y2 = 0 then some ((-2), f2) else FX10_abreast_24 fu x1 0 0 f2))))
set_option maxHeartbeats 4000000 in
set_option maxRecDepth 100000 in
theorem SX10_abreast_0 {G : GT} {l : Launch} {Q : Option AV → Mem → Prop}  (x1 : Int) (f : Mm) (h : OkI Q (FX10_abreast_0  x1 f)) : Ev G l MX10_abreast (Rm 4 0 0) (ZM G Q 0 0) 0 0 0 [some (vR 0), some (vI x1), none, none] [] (SH, RF, f) := by
  unfold FX10_abreast_0 at h
  refine ev_aload_n (i := 0) dX10_abreast_0 rfl rfl ?_
  refine ev_getR dX10_abreast_1 fl_X10_19 sh_0 (by decide) (by decide) rf_0_1 ?_
  refine ev_cVI (b := 4) (av := []) (S := []) (fun q => q) h dX10_abreast_4 (fun Q' q => TX0_stands_4 _ q) kvX0_stands ml_X10_140 sh_4 rfl (RRc (by decide) (by decide)) (Nat.le_of_ble_eq_true rfl) ⟨Nat.le_of_ble_eq_true rfl, Nat.le_of_ble_eq_true rfl⟩ (fun y1 f1 h => ?_)
  refine ev_if_eq (tgt := 17) dX10_abreast_7 (by decide) (fun c4 => ?_) (fun c4 => ?_)
  · rw [if_pos c4] at h
    refine ev_bipush (v := (-2)) dX10_abreast_17 (r32c rfl) (by decide) ?_
    exact ev_iret rfl dX10_abreast_19 h
  · rw [if_neg c4] at h
    refine ev_iload_n (i := 1) dX10_abreast_10 rfl rfl ?_
    refine ev_cSI (av := [vI x1]) (S := []) (fun q => q) h dX10_abreast_11 (fun Q' q => TX10_isAbreast x1 _ q) ksX10_isAbreast ml_X10_263 rfl (RRc (by decide) (by decide)) (Nat.le_of_ble_eq_true rfl) ⟨Nat.le_of_ble_eq_true rfl, Nat.le_of_ble_eq_true rfl⟩ (fun y2 f2 h => ?_)
    refine ev_if_ne (tgt := 20) dX10_abreast_14 (by decide) (fun c3 => ?_) (fun c3 => ?_)
    · rw [if_neg c3] at h
      refine ev_iconst dX10_abreast_20 (r32c rfl) ?_
      refine ev_istore_n (i := 2) (L' := [some (vR 0), some (vI x1), some (vI 0), none]) dX10_abreast_21 rfl (by decide) rfl ?_
      refine ev_iconst dX10_abreast_22 (r32c rfl) ?_
      refine ev_istore_n (i := 3) (L' := [some (vR 0), some (vI x1), some (vI 0), some (vI 0)]) dX10_abreast_23 rfl (by decide) rfl ?_
      exact SX10_abreast_24  fu x1 0 0 _ h
    · rw [if_pos c3] at h
      refine ev_bipush (v := (-2)) dX10_abreast_17 (r32c rfl) (by decide) ?_
      exact ev_iret rfl dX10_abreast_19 h
def FX10_abreast (x1 : Int) (f : Mm) : Option (Int × Mm) := FX10_abreast_0 x1 f
theorem TX10_abreast {G : GT} {l : Launch} {Q : Option AV → Mem → Prop} (x1 : Int) (f : Mm) (h : OkI Q (FX10_abreast x1 f)) : Ret G l MX10_abreast (4) 0 0 [vR 0, vI x1] (SH, RF, f) Q := by
  refine ret_of (L := [some (vR 0), some (vI x1), none, none]) (by decide) rfl (Nat.le_of_ble_eq_true rfl) ?_
  exact SX10_abreast_0 x1 f h

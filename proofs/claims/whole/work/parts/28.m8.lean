theorem dX1_widthOn_0 : decode cX1_widthOn 0 = .ok (.aload_n 0, 1) := by decide +kernel
theorem dX1_widthOn_1 : decode cX1_widthOn 1 = .ok (.getfield 20, 3) := by decide +kernel
theorem dX1_widthOn_4 : decode cX1_widthOn 4 = .ok (.iconst 0, 1) := by decide +kernel
theorem dX1_widthOn_5 : decode cX1_widthOn 5 = .ok (.aaload, 1) := by decide +kernel
theorem dX1_widthOn_6 : decode cX1_widthOn 6 = .ok (.iload_n 1, 1) := by decide +kernel
theorem dX1_widthOn_7 : decode cX1_widthOn 7 = .ok (.iaload, 1) := by decide +kernel
theorem dX1_widthOn_8 : decode cX1_widthOn 8 = .ok (.aload_n 0, 1) := by decide +kernel
theorem dX1_widthOn_9 : decode cX1_widthOn 9 = .ok (.getfield 20, 3) := by decide +kernel
theorem dX1_widthOn_12 : decode cX1_widthOn 12 = .ok (.iconst 1, 1) := by decide +kernel
theorem dX1_widthOn_13 : decode cX1_widthOn 13 = .ok (.aaload, 1) := by decide +kernel
theorem dX1_widthOn_14 : decode cX1_widthOn 14 = .ok (.iload_n 1, 1) := by decide +kernel
theorem dX1_widthOn_15 : decode cX1_widthOn 15 = .ok (.iaload, 1) := by decide +kernel
theorem dX1_widthOn_16 : decode cX1_widthOn 16 = .ok (.invokestatic 98, 3) := by decide +kernel
theorem dX1_widthOn_19 : decode cX1_widthOn 19 = .ok (.ireturn, 1) := by decide +kernel
def FX1_widthOn_0  (x1 : Int) (f : Mm) : Option (Int × Mm) := (if 0 ≤ x1 ∧ x1 < 6 then (if 0 ≤ x1 ∧ x1 < 6 then some ((jMin (f 52 x1.toNat) (f 53 x1.toNat)), f) else none) else none)
set_option maxHeartbeats 4000000 in
set_option maxRecDepth 100000 in
theorem SX1_widthOn_0 {G : GT} {l : Launch} {Q : Option AV → Mem → Prop}  (x1 : Int) (f : Mm) (h : OkI Q (FX1_widthOn_0  x1 f)) : Ev G l MX1_widthOn (Rm 1 0 0) (ZM G Q 0 0) 0 0 0 [some (vR 48), some (vI x1)] [] (SH, RF, f) := by
  unfold FX1_widthOn_0 at h
  refine ev_aload_n (i := 0) dX1_widthOn_0 rfl rfl ?_
  refine ev_getR dX1_widthOn_1 fl_X1_20 sh_48 (by decide) (by decide) rf_48_6 ?_
  refine ev_iconst dX1_widthOn_4 (r32c rfl) ?_
  refine ev_aald (b := 52) dX1_widthOn_5 (Or.inl rfl) sh_51 (by decide) (by decide) (rfd_51 0 (by decide)) ?_
  refine ev_iload_n (i := 1) dX1_widthOn_6 rfl rfl ?_
  by_cases g1 : 0 ≤ x1 ∧ x1 < 6
  · rw [if_pos g1] at h
    refine ex_iald (x := (f 52 x1.toNat)) dX1_widthOn_7 sh_52 g1.1 g1.2 rfl ?_
    refine ev_aload_n (i := 0) dX1_widthOn_8 rfl rfl ?_
    refine ev_getR dX1_widthOn_9 fl_X1_20 sh_48 (by decide) (by decide) rf_48_6 ?_
    refine ev_iconst dX1_widthOn_12 (r32c rfl) ?_
    refine ev_aald (b := 53) dX1_widthOn_13 (Or.inl rfl) sh_51 (by decide) (by decide) (rfd_51 1 (by decide)) ?_
    refine ev_iload_n (i := 1) dX1_widthOn_14 rfl rfl ?_
    by_cases g2 : 0 ≤ x1 ∧ x1 < 6
    · rw [if_pos g2] at h
      refine ex_iald (x := (f 53 x1.toNat)) dX1_widthOn_15 sh_53 g2.1 g2.2 rfl ?_
      refine ev_mmin dX1_widthOn_16 mlm_X1_98 (Nat.le_of_ble_eq_true rfl) (Nat.le_of_ble_eq_true rfl) (Nat.le_of_ble_eq_true rfl) (Nat.le_of_ble_eq_true rfl) ?_
      exact ev_iret rfl dX1_widthOn_19 h
    · rw [if_neg g2] at h; exact h.elim
  · rw [if_neg g1] at h; exact h.elim
def FX1_widthOn (x1 : Int) (f : Mm) : Option (Int × Mm) := FX1_widthOn_0 x1 f
set_option maxRecDepth 100000 in
theorem TX1_widthOn {G : GT} {l : Launch} {Q : Option AV → Mem → Prop} (x1 : Int) (f : Mm) (h : OkI Q (FX1_widthOn x1 f)) : Ret G l MX1_widthOn (1) 0 0 [vR 48, vI x1] (SH, RF, f) Q := by
  refine ret_of (L := [some (vR 48), some (vI x1)]) (by decide) rfl (Nat.le_of_ble_eq_true rfl) ?_
  exact SX1_widthOn_0 x1 f h
theorem dX1_passDay_118 : decode cX1_passDay 118 = .ok (.aload_n 0, 1) := by decide +kernel
theorem dX1_passDay_119 : decode cX1_passDay 119 = .ok (.getfield 23, 3) := by decide +kernel
theorem dX1_passDay_122 : decode cX1_passDay 122 = .ok (.iload_n 2, 1) := by decide +kernel
theorem dX1_passDay_123 : decode cX1_passDay 123 = .ok (.iload 5, 2) := by decide +kernel
theorem dX1_passDay_125 : decode cX1_passDay 125 = .ok (.iastore, 1) := by decide +kernel
theorem dX1_passDay_126 : decode cX1_passDay 126 = .ok (.aload_n 0, 1) := by decide +kernel
theorem dX1_passDay_127 : decode cX1_passDay 127 = .ok (.getfield 26, 3) := by decide +kernel
theorem dX1_passDay_130 : decode cX1_passDay 130 = .ok (.iload_n 2, 1) := by decide +kernel
theorem dX1_passDay_131 : decode cX1_passDay 131 = .ok (.iconst 1, 1) := by decide +kernel
theorem dX1_passDay_132 : decode cX1_passDay 132 = .ok (.iadd, 1) := by decide +kernel
theorem dX1_passDay_133 : decode cX1_passDay 133 = .ok (.iload_n 3, 1) := by decide +kernel
theorem dX1_passDay_134 : decode cX1_passDay 134 = .ok (.iastore, 1) := by decide +kernel
theorem dX1_passDay_135 : decode cX1_passDay 135 = .ok (.aload_n 0, 1) := by decide +kernel
theorem dX1_passDay_136 : decode cX1_passDay 136 = .ok (.getfield 29, 3) := by decide +kernel
theorem dX1_passDay_139 : decode cX1_passDay 139 = .ok (.iload_n 2, 1) := by decide +kernel
theorem dX1_passDay_140 : decode cX1_passDay 140 = .ok (.iconst 1, 1) := by decide +kernel
theorem dX1_passDay_141 : decode cX1_passDay 141 = .ok (.iadd, 1) := by decide +kernel
theorem dX1_passDay_142 : decode cX1_passDay 142 = .ok (.iload 4, 2) := by decide +kernel
theorem dX1_passDay_144 : decode cX1_passDay 144 = .ok (.iastore, 1) := by decide +kernel
theorem dX1_passDay_145 : decode cX1_passDay 145 = .ok (.return_, 1) := by decide +kernel
theorem dX1_passDay_112 : decode cX1_passDay 112 = .ok (.iinc 6 1, 3) := by decide +kernel
theorem dX1_passDay_115 : decode cX1_passDay 115 = .ok (.goto (-90), 3) := by decide +kernel
theorem dX1_passDay_25 : decode cX1_passDay 25 = .ok (.iload 6, 2) := by decide +kernel
theorem dX1_passDay_27 : decode cX1_passDay 27 = .ok (.aload_n 1, 1) := by decide +kernel
theorem dX1_passDay_28 : decode cX1_passDay 28 = .ok (.getfield 92, 3) := by decide +kernel
theorem dX1_passDay_31 : decode cX1_passDay 31 = .ok (.if_icmp .ge 87, 3) := by decide +kernel
theorem dX1_passDay_34 : decode cX1_passDay 34 = .ok (.aload_n 1, 1) := by decide +kernel
theorem dX1_passDay_35 : decode cX1_passDay 35 = .ok (.getfield 95, 3) := by decide +kernel
theorem dX1_passDay_38 : decode cX1_passDay 38 = .ok (.aload_n 0, 1) := by decide +kernel
theorem dX1_passDay_39 : decode cX1_passDay 39 = .ok (.getfield 15, 3) := by decide +kernel
theorem dX1_passDay_42 : decode cX1_passDay 42 = .ok (.iload 6, 2) := by decide +kernel
theorem dX1_passDay_44 : decode cX1_passDay 44 = .ok (.iaload, 1) := by decide +kernel
theorem dX1_passDay_45 : decode cX1_passDay 45 = .ok (.aaload, 1) := by decide +kernel
theorem dX1_passDay_46 : decode cX1_passDay 46 = .ok (.astore 7, 2) := by decide +kernel
theorem dX1_passDay_48 : decode cX1_passDay 48 = .ok (.iconst 1, 1) := by decide +kernel
theorem dX1_passDay_49 : decode cX1_passDay 49 = .ok (.aload_n 0, 1) := by decide +kernel
theorem dX1_passDay_50 : decode cX1_passDay 50 = .ok (.getfield 15, 3) := by decide +kernel
theorem dX1_passDay_53 : decode cX1_passDay 53 = .ok (.iload 6, 2) := by decide +kernel
theorem dX1_passDay_55 : decode cX1_passDay 55 = .ok (.iaload, 1) := by decide +kernel
theorem dX1_passDay_56 : decode cX1_passDay 56 = .ok (.ishl, 1) := by decide +kernel
theorem dX1_passDay_57 : decode cX1_passDay 57 = .ok (.istore 8, 2) := by decide +kernel
theorem dX1_passDay_59 : decode cX1_passDay 59 = .ok (.iload_n 3, 1) := by decide +kernel
theorem dX1_passDay_60 : decode cX1_passDay 60 = .ok (.iload 8, 2) := by decide +kernel
theorem dX1_passDay_62 : decode cX1_passDay 62 = .ok (.iand, 1) := by decide +kernel
theorem dX1_passDay_63 : decode cX1_passDay 63 = .ok (.ifCond .ne 49, 3) := by decide +kernel
theorem dX1_passDay_66 : decode cX1_passDay 66 = .ok (.aload 7, 2) := by decide +kernel
theorem dX1_passDay_68 : decode cX1_passDay 68 = .ok (.iconst 2, 1) := by decide +kernel
theorem dX1_passDay_69 : decode cX1_passDay 69 = .ok (.iaload, 1) := by decide +kernel
theorem dX1_passDay_70 : decode cX1_passDay 70 = .ok (.iload_n 2, 1) := by decide +kernel
theorem dX1_passDay_71 : decode cX1_passDay 71 = .ok (.if_icmp .gt 41, 3) := by decide +kernel
theorem dX1_passDay_74 : decode cX1_passDay 74 = .ok (.aload 7, 2) := by decide +kernel
theorem dX1_passDay_76 : decode cX1_passDay 76 = .ok (.iconst 1, 1) := by decide +kernel
theorem dX1_passDay_77 : decode cX1_passDay 77 = .ok (.iaload, 1) := by decide +kernel
theorem dX1_passDay_78 : decode cX1_passDay 78 = .ok (.iload 5, 2) := by decide +kernel
theorem dX1_passDay_80 : decode cX1_passDay 80 = .ok (.if_icmp .gt 32, 3) := by decide +kernel
theorem dX1_passDay_83 : decode cX1_passDay 83 = .ok (.iload 5, 2) := by decide +kernel
theorem dX1_passDay_85 : decode cX1_passDay 85 = .ok (.aload 7, 2) := by decide +kernel
theorem dX1_passDay_87 : decode cX1_passDay 87 = .ok (.iconst 1, 1) := by decide +kernel
theorem dX1_passDay_88 : decode cX1_passDay 88 = .ok (.iaload, 1) := by decide +kernel
theorem dX1_passDay_89 : decode cX1_passDay 89 = .ok (.isub, 1) := by decide +kernel
theorem dX1_passDay_90 : decode cX1_passDay 90 = .ok (.istore 5, 2) := by decide +kernel
theorem dX1_passDay_92 : decode cX1_passDay 92 = .ok (.iload_n 3, 1) := by decide +kernel
theorem dX1_passDay_93 : decode cX1_passDay 93 = .ok (.iload 8, 2) := by decide +kernel
theorem dX1_passDay_95 : decode cX1_passDay 95 = .ok (.ior, 1) := by decide +kernel
theorem dX1_passDay_96 : decode cX1_passDay 96 = .ok (.istore_n 3, 1) := by decide +kernel
theorem dX1_passDay_97 : decode cX1_passDay 97 = .ok (.iload_n 2, 1) := by decide +kernel
theorem dX1_passDay_98 : decode cX1_passDay 98 = .ok (.aload 7, 2) := by decide +kernel
theorem dX1_passDay_100 : decode cX1_passDay 100 = .ok (.iconst 3, 1) := by decide +kernel
theorem dX1_passDay_101 : decode cX1_passDay 101 = .ok (.iaload, 1) := by decide +kernel
theorem dX1_passDay_102 : decode cX1_passDay 102 = .ok (.if_icmp .gt 10, 3) := by decide +kernel
theorem dX1_passDay_105 : decode cX1_passDay 105 = .ok (.iload 4, 2) := by decide +kernel
theorem dX1_passDay_107 : decode cX1_passDay 107 = .ok (.iload 8, 2) := by decide +kernel
theorem dX1_passDay_109 : decode cX1_passDay 109 = .ok (.ior, 1) := by decide +kernel
theorem dX1_passDay_110 : decode cX1_passDay 110 = .ok (.istore 4, 2) := by decide +kernel
theorem dX1_passDay_0 : decode cX1_passDay 0 = .ok (.aload_n 0, 1) := by decide +kernel
theorem dX1_passDay_1 : decode cX1_passDay 1 = .ok (.getfield 26, 3) := by decide +kernel
theorem dX1_passDay_4 : decode cX1_passDay 4 = .ok (.iload_n 2, 1) := by decide +kernel
theorem dX1_passDay_5 : decode cX1_passDay 5 = .ok (.iaload, 1) := by decide +kernel
theorem dX1_passDay_6 : decode cX1_passDay 6 = .ok (.istore_n 3, 1) := by decide +kernel
theorem dX1_passDay_7 : decode cX1_passDay 7 = .ok (.aload_n 0, 1) := by decide +kernel
theorem dX1_passDay_8 : decode cX1_passDay 8 = .ok (.getfield 29, 3) := by decide +kernel
theorem dX1_passDay_11 : decode cX1_passDay 11 = .ok (.iload_n 2, 1) := by decide +kernel
theorem dX1_passDay_12 : decode cX1_passDay 12 = .ok (.iaload, 1) := by decide +kernel
theorem dX1_passDay_13 : decode cX1_passDay 13 = .ok (.istore 4, 2) := by decide +kernel
theorem dX1_passDay_15 : decode cX1_passDay 15 = .ok (.aload_n 0, 1) := by decide +kernel
theorem dX1_passDay_16 : decode cX1_passDay 16 = .ok (.iload_n 2, 1) := by decide +kernel
theorem dX1_passDay_17 : decode cX1_passDay 17 = .ok (.invokevirtual 89, 3) := by decide +kernel
theorem dX1_passDay_20 : decode cX1_passDay 20 = .ok (.istore 5, 2) := by decide +kernel
theorem dX1_passDay_22 : decode cX1_passDay 22 = .ok (.iconst 0, 1) := by decide +kernel
theorem dX1_passDay_23 : decode cX1_passDay 23 = .ok (.istore 6, 2) := by decide +kernel
def FX1_passDay_48_4_118  (x2 : Int) (x3 : Int) (x4 : Int) (x5 : Int) (f : Mm) : Option Mm := (if 0 ≤ x2 ∧ x2 < 6 then (if 0 ≤ (w32 (x2 + 1)) ∧ (w32 (x2 + 1)) < 7 then (if 0 ≤ (w32 (x2 + 1)) ∧ (w32 (x2 + 1)) < 7 then some (up (up (up f 54 x2.toNat x5) 55 (w32 (x2 + 1)).toNat x3) 56 (w32 (x2 + 1)).toNat x4) else none) else none) else none)
set_option maxHeartbeats 4000000 in
set_option maxRecDepth 100000 in
theorem SX1_passDay_48_4_118 {G : GT} {l : Launch} {Q : Option AV → Mem → Prop}  (x2 : Int) (x3 : Int) (x4 : Int) (x5 : Int) (f : Mm) (h : OkV Q (FX1_passDay_48_4_118  x2 x3 x4 x5 f)) : Ev G l MX1_passDay (Rm 2 0 0) (ZM G Q 0 0) 0 0 118 [some (vR 48), none, some (vI x2), some (vI x3), some (vI x4), some (vI x5), none, none, none] [] (SH, RF, f) := by
  unfold FX1_passDay_48_4_118 at h
  refine ev_aload_n (i := 0) dX1_passDay_118 rfl rfl ?_
  refine ev_getR dX1_passDay_119 fl_X1_23 sh_48 (by decide) (by decide) rf_48_7 ?_
  refine ev_iload_n (i := 2) dX1_passDay_122 rfl rfl ?_
  refine ev_iload dX1_passDay_123 rfl ?_
  by_cases g1 : 0 ≤ x2 ∧ x2 < 6
  · rw [if_pos g1] at h
    refine ex_iast (j := x2.toNat) dX1_passDay_125 sh_54 g1.1 g1.2 rfl ?_
    refine ev_aload_n (i := 0) dX1_passDay_126 rfl rfl ?_
    refine ev_getR dX1_passDay_127 fl_X1_26 sh_48 (by decide) (by decide) rf_48_8 ?_
    refine ev_iload_n (i := 2) dX1_passDay_130 rfl rfl ?_
    refine ev_iconst dX1_passDay_131 (r32c rfl) ?_
    refine ev_iadd dX1_passDay_132 ?_
    refine ev_iload_n (i := 3) dX1_passDay_133 rfl rfl ?_
    by_cases g2 : 0 ≤ (w32 (x2 + 1)) ∧ (w32 (x2 + 1)) < 7
    · rw [if_pos g2] at h
      refine ex_iast (j := (w32 (x2 + 1)).toNat) dX1_passDay_134 sh_55 g2.1 g2.2 rfl ?_
      refine ev_aload_n (i := 0) dX1_passDay_135 rfl rfl ?_
      refine ev_getR dX1_passDay_136 fl_X1_29 sh_48 (by decide) (by decide) rf_48_9 ?_
      refine ev_iload_n (i := 2) dX1_passDay_139 rfl rfl ?_
      refine ev_iconst dX1_passDay_140 (r32c rfl) ?_
      refine ev_iadd dX1_passDay_141 ?_
      refine ev_iload dX1_passDay_142 rfl ?_
      by_cases g3 : 0 ≤ (w32 (x2 + 1)) ∧ (w32 (x2 + 1)) < 7
      · rw [if_pos g3] at h
        refine ex_iast (j := (w32 (x2 + 1)).toNat) dX1_passDay_144 sh_56 g3.1 g3.2 rfl ?_
        exact ev_vret rfl dX1_passDay_145 h
      · rw [if_neg g3] at h; exact h.elim
    · rw [if_neg g2] at h; exact h.elim
  · rw [if_neg g1] at h; exact h.elim
def FX1_passDay_48_4_112 (k25 : Int → Int → Int → Int → Int → Mm → Option Mm) (x2 : Int) (x3 : Int) (x4 : Int) (x5 : Int) (x6 : Int) (f : Mm) : Option Mm := k25 x2 x3 x4 x5 (w32 (x6 + 1)) f
set_option maxHeartbeats 4000000 in
set_option maxRecDepth 100000 in
theorem SX1_passDay_48_4_112 {G : GT} {l : Launch} {Q : Option AV → Mem → Prop} {k25 : Int → Int → Int → Int → Int → Mm → Option Mm} (q25 : ∀ (x2 : Int) (x3 : Int) (x4 : Int) (x5 : Int) (x6 : Int) (f : Mm), OkV Q (k25 x2 x3 x4 x5 x6 f) → Ev G l MX1_passDay (Rm 2 0 0) (ZM G Q 0 0) 0 0 25 [some (vR 48), some (vR 4), some (vI x2), some (vI x3), some (vI x4), some (vI x5), some (vI x6), none, none] [] (SH, RF, f)) (x2 : Int) (x3 : Int) (x4 : Int) (x5 : Int) (x6 : Int) (f : Mm) (h : OkV Q (FX1_passDay_48_4_112 k25 x2 x3 x4 x5 x6 f)) : Ev G l MX1_passDay (Rm 2 0 0) (ZM G Q 0 0) 0 0 112 [some (vR 48), some (vR 4), some (vI x2), some (vI x3), some (vI x4), some (vI x5), some (vI x6), none, none] [] (SH, RF, f) := by
  unfold FX1_passDay_48_4_112 at h
  refine ev_iinc (L' := [some (vR 48), some (vR 4), some (vI x2), some (vI x3), some (vI x4), some (vI x5), some (vI (w32 (x6 + 1))), none, none]) dX1_passDay_112 rfl (by decide) rfl ?_
  refine ev_goto (tgt := 25) dX1_passDay_115 (by decide) ?_
  exact q25 x2 x3 x4 x5 (w32 (x6 + 1)) _ h
def FX1_passDay_48_4_25  : Nat → Int → Int → Int → Int → Int → Mm → Option Mm
  | 0, _, _, _, _, _, _ => none
  | n + 1, x2, x3, x4, x5, x6, f => (if (f 4 5) ≤ x6 then FX1_passDay_48_4_118 x2 x3 x4 x5 f else (if 0 ≤ x6 ∧ x6 < 6 then (if 0 ≤ (f 50 x6.toNat) ∧ (f 50 x6.toNat) < 6 then (if 0 ≤ x6 ∧ x6 < 6 then (if (bAnd x3 (bShl 1 (f 50 x6.toNat))) = 0 then (if x2 < (f (12 + (f 50 x6.toNat).toNat) 2) then FX1_passDay_48_4_112 (FX1_passDay_48_4_25 n) x2 x3 x4 x5 x6 f else (if x5 < (f (12 + (f 50 x6.toNat).toNat) 1) then FX1_passDay_48_4_112 (FX1_passDay_48_4_25 n) x2 x3 x4 x5 x6 f else (if (f (12 + (f 50 x6.toNat).toNat) 3) < x2 then FX1_passDay_48_4_112 (FX1_passDay_48_4_25 n) x2 (bOr x3 (bShl 1 (f 50 x6.toNat))) x4 (w32 (x5 - (f (12 + (f 50 x6.toNat).toNat) 1))) x6 f else FX1_passDay_48_4_112 (FX1_passDay_48_4_25 n) x2 (bOr x3 (bShl 1 (f 50 x6.toNat))) (bOr x4 (bShl 1 (f 50 x6.toNat))) (w32 (x5 - (f (12 + (f 50 x6.toNat).toNat) 1))) x6 f))) else FX1_passDay_48_4_112 (FX1_passDay_48_4_25 n) x2 x3 x4 x5 x6 f) else none) else none) else none))
set_option maxHeartbeats 4000000 in
set_option maxRecDepth 100000 in
theorem SX1_passDay_48_4_25 {G : GT} {l : Launch} {Q : Option AV → Mem → Prop}  : ∀ (n : Nat) (x2 : Int) (x3 : Int) (x4 : Int) (x5 : Int) (x6 : Int) (f : Mm), OkV Q (FX1_passDay_48_4_25  n x2 x3 x4 x5 x6 f) → Ev G l MX1_passDay (Rm 2 0 0) (ZM G Q 0 0) 0 0 25 [some (vR 48), some (vR 4), some (vI x2), some (vI x3), some (vI x4), some (vI x5), some (vI x6), none, none] [] (SH, RF, f) := by
  intro n
  induction n with
  | zero => intro x2 x3 x4 x5 x6 f h; exact absurd h (by rw [FX1_passDay_48_4_25]; exact fun q => q)
  | succ n ih =>
    intro x2 x3 x4 x5 x6 f h
    rw [FX1_passDay_48_4_25] at h
    refine ev_iload dX1_passDay_25 rfl ?_
    refine ev_aload_n (i := 1) dX1_passDay_27 rfl rfl ?_
    refine ex_getI (x := (f 4 5)) dX1_passDay_28 fl_X1_92 sh_4 (by decide) (by decide) rfl ?_
    refine ev_icmp_ge (tgt := 118) dX1_passDay_31 (by decide) (fun c8 => ?_) (fun c8 => ?_)
    · rw [if_pos c8] at h
      refine ev_fg [true, false, true, true, true, true, false, true, true] rfl ?_
      exact SX1_passDay_48_4_118  x2 x3 x4 x5 _ h
    · rw [if_neg c8] at h
      refine ev_aload_n (i := 1) dX1_passDay_34 rfl rfl ?_
      refine ev_getR dX1_passDay_35 fl_X1_95 sh_4 (by decide) (by decide) rf_4_9 ?_
      refine ev_aload_n (i := 0) dX1_passDay_38 rfl rfl ?_
      refine ev_getR dX1_passDay_39 fl_X1_15 sh_48 (by decide) (by decide) rf_48_1 ?_
      refine ev_iload dX1_passDay_42 rfl ?_
      by_cases g1 : 0 ≤ x6 ∧ x6 < 6
      · rw [if_pos g1] at h
        refine ex_iald (x := (f 50 x6.toNat)) dX1_passDay_44 sh_50 g1.1 g1.2 rfl ?_
        by_cases g2 : 0 ≤ (f 50 x6.toNat) ∧ (f 50 x6.toNat) < 6
        · rw [if_pos g2] at h
          refine ev_aald (b := (12 + (f 50 x6.toNat).toNat)) dX1_passDay_45 (Or.inl rfl) sh_11 g2.1 g2.2 (rfr_11 g2) ?_
          refine ev_astore (L' := [some (vR 48), some (vR 4), some (vI x2), some (vI x3), some (vI x4), some (vI x5), some (vI x6), some (vR (12 + (f 50 x6.toNat).toNat)), none]) dX1_passDay_46 (by decide) rfl ?_
          refine ev_iconst dX1_passDay_48 (r32c rfl) ?_
          refine ev_aload_n (i := 0) dX1_passDay_49 rfl rfl ?_
          refine ev_getR dX1_passDay_50 fl_X1_15 sh_48 (by decide) (by decide) rf_48_1 ?_
          refine ev_iload dX1_passDay_53 rfl ?_
          by_cases g3 : 0 ≤ x6 ∧ x6 < 6
          · rw [if_pos g3] at h
            refine ex_iald (x := (f 50 x6.toNat)) dX1_passDay_55 sh_50 g3.1 g3.2 rfl ?_
            refine ev_ishl dX1_passDay_56 ?_
            refine ev_istore (L' := [some (vR 48), some (vR 4), some (vI x2), some (vI x3), some (vI x4), some (vI x5), some (vI x6), some (vR (12 + (f 50 x6.toNat).toNat)), some (vI (bShl 1 (f 50 x6.toNat)))]) dX1_passDay_57 (by decide) rfl ?_
            refine ev_iload_n (i := 3) dX1_passDay_59 rfl rfl ?_
            refine ev_iload dX1_passDay_60 rfl ?_
            refine ev_iand dX1_passDay_62 ?_
            refine ev_if_ne (tgt := 112) dX1_passDay_63 (by decide) (fun c7 => ?_) (fun c7 => ?_)
            · rw [if_neg c7] at h
              refine ev_fg [true, true, true, true, true, true, true, false, false] rfl ?_
              exact SX1_passDay_48_4_112 ih x2 x3 x4 x5 x6 _ h
            · rw [if_pos c7] at h
              refine ev_aload dX1_passDay_66 rfl ?_
              refine ev_iconst dX1_passDay_68 (r32c rfl) ?_
              refine ex_iald (x := (f (12 + (f 50 x6.toNat).toNat) 2)) dX1_passDay_69 (shr_11 g2) (by decide) (by decide) rfl ?_
              refine ev_iload_n (i := 2) dX1_passDay_70 rfl rfl ?_
              refine ev_icmp_gt (tgt := 112) dX1_passDay_71 (by decide) (fun c6 => ?_) (fun c6 => ?_)
              · rw [if_pos c6] at h
                refine ev_fg [true, true, true, true, true, true, true, false, false] rfl ?_
                exact SX1_passDay_48_4_112 ih x2 x3 x4 x5 x6 _ h
              · rw [if_neg c6] at h
                refine ev_aload dX1_passDay_74 rfl ?_
                refine ev_iconst dX1_passDay_76 (r32c rfl) ?_
                refine ex_iald (x := (f (12 + (f 50 x6.toNat).toNat) 1)) dX1_passDay_77 (shr_11 g2) (by decide) (by decide) rfl ?_
                refine ev_iload dX1_passDay_78 rfl ?_
                refine ev_icmp_gt (tgt := 112) dX1_passDay_80 (by decide) (fun c5 => ?_) (fun c5 => ?_)
                · rw [if_pos c5] at h
                  refine ev_fg [true, true, true, true, true, true, true, false, false] rfl ?_
                  exact SX1_passDay_48_4_112 ih x2 x3 x4 x5 x6 _ h
                · rw [if_neg c5] at h
                  refine ev_iload dX1_passDay_83 rfl ?_
                  refine ev_aload dX1_passDay_85 rfl ?_
                  refine ev_iconst dX1_passDay_87 (r32c rfl) ?_
                  refine ex_iald (x := (f (12 + (f 50 x6.toNat).toNat) 1)) dX1_passDay_88 (shr_11 g2) (by decide) (by decide) rfl ?_
                  refine ev_isub dX1_passDay_89 ?_
                  refine ev_istore (L' := [some (vR 48), some (vR 4), some (vI x2), some (vI x3), some (vI x4), some (vI (w32 (x5 - (f (12 + (f 50 x6.toNat).toNat) 1)))), some (vI x6), some (vR (12 + (f 50 x6.toNat).toNat)), some (vI (bShl 1 (f 50 x6.toNat)))]) dX1_passDay_90 (by decide) rfl ?_
                  refine ev_iload_n (i := 3) dX1_passDay_92 rfl rfl ?_
                  refine ev_iload dX1_passDay_93 rfl ?_
                  refine ev_ior dX1_passDay_95 ?_
                  refine ev_istore_n (i := 3) (L' := [some (vR 48), some (vR 4), some (vI x2), some (vI (bOr x3 (bShl 1 (f 50 x6.toNat)))), some (vI x4), some (vI (w32 (x5 - (f (12 + (f 50 x6.toNat).toNat) 1)))), some (vI x6), some (vR (12 + (f 50 x6.toNat).toNat)), some (vI (bShl 1 (f 50 x6.toNat)))]) dX1_passDay_96 rfl (by decide) rfl ?_
                  refine ev_iload_n (i := 2) dX1_passDay_97 rfl rfl ?_
                  refine ev_aload dX1_passDay_98 rfl ?_
                  refine ev_iconst dX1_passDay_100 (r32c rfl) ?_
                  refine ex_iald (x := (f (12 + (f 50 x6.toNat).toNat) 3)) dX1_passDay_101 (shr_11 g2) (by decide) (by decide) rfl ?_
                  refine ev_icmp_gt (tgt := 112) dX1_passDay_102 (by decide) (fun c4 => ?_) (fun c4 => ?_)
                  · rw [if_pos c4] at h
                    refine ev_fg [true, true, true, true, true, true, true, false, false] rfl ?_
                    exact SX1_passDay_48_4_112 ih x2 (bOr x3 (bShl 1 (f 50 x6.toNat))) x4 (w32 (x5 - (f (12 + (f 50 x6.toNat).toNat) 1))) x6 _ h
                  · rw [if_neg c4] at h
                    refine ev_iload dX1_passDay_105 rfl ?_
                    refine ev_iload dX1_passDay_107 rfl ?_
                    refine ev_ior dX1_passDay_109 ?_
                    refine ev_istore (L' := [some (vR 48), some (vR 4), some (vI x2), some (vI (bOr x3 (bShl 1 (f 50 x6.toNat)))), some (vI (bOr x4 (bShl 1 (f 50 x6.toNat)))), some (vI (w32 (x5 - (f (12 + (f 50 x6.toNat).toNat) 1)))), some (vI x6), some (vR (12 + (f 50 x6.toNat).toNat)), some (vI (bShl 1 (f 50 x6.toNat)))]) dX1_passDay_110 (by decide) rfl ?_
                    refine ev_fg [true, true, true, true, true, true, true, false, false] rfl ?_
                    exact SX1_passDay_48_4_112 ih x2 (bOr x3 (bShl 1 (f 50 x6.toNat))) (bOr x4 (bShl 1 (f 50 x6.toNat))) (w32 (x5 - (f (12 + (f 50 x6.toNat).toNat) 1))) x6 _ h
          · rw [if_neg g3] at h; exact h.elim
        · rw [if_neg g2] at h; exact h.elim
      · rw [if_neg g1] at h; exact h.elim
def FX1_passDay_48_4_0  (x2 : Int) (f : Mm) : Option Mm := (if 0 ≤ x2 ∧ x2 < 7 then (if 0 ≤ x2 ∧ x2 < 7 then (b2 (FX1_widthOn x2 f) fun y3 f3 => FX1_passDay_48_4_25 fu x2 (f 55 x2.toNat) (f 56 x2.toNat) y3 0 f3) else none) else none)
set_option maxHeartbeats 4000000 in
set_option maxRecDepth 100000 in
theorem SX1_passDay_48_4_0 {G : GT} {l : Launch} {Q : Option AV → Mem → Prop}  (x2 : Int) (f : Mm) (h : OkV Q (FX1_passDay_48_4_0  x2 f)) : Ev G l MX1_passDay (Rm 2 0 0) (ZM G Q 0 0) 0 0 0 [some (vR 48), some (vR 4), some (vI x2), none, none, none, none, none, none] [] (SH, RF, f) := by
  unfold FX1_passDay_48_4_0 at h
  refine ev_aload_n (i := 0) dX1_passDay_0 rfl rfl ?_
  refine ev_getR dX1_passDay_1 fl_X1_26 sh_48 (by decide) (by decide) rf_48_8 ?_
  refine ev_iload_n (i := 2) dX1_passDay_4 rfl rfl ?_
  by_cases g1 : 0 ≤ x2 ∧ x2 < 7
  · rw [if_pos g1] at h
    refine ex_iald (x := (f 55 x2.toNat)) dX1_passDay_5 sh_55 g1.1 g1.2 rfl ?_
    refine ev_istore_n (i := 3) (L' := [some (vR 48), some (vR 4), some (vI x2), some (vI (f 55 x2.toNat)), none, none, none, none, none]) dX1_passDay_6 rfl (by decide) rfl ?_
    refine ev_aload_n (i := 0) dX1_passDay_7 rfl rfl ?_
    refine ev_getR dX1_passDay_8 fl_X1_29 sh_48 (by decide) (by decide) rf_48_9 ?_
    refine ev_iload_n (i := 2) dX1_passDay_11 rfl rfl ?_
    by_cases g2 : 0 ≤ x2 ∧ x2 < 7
    · rw [if_pos g2] at h
      refine ex_iald (x := (f 56 x2.toNat)) dX1_passDay_12 sh_56 g2.1 g2.2 rfl ?_
      refine ev_istore (L' := [some (vR 48), some (vR 4), some (vI x2), some (vI (f 55 x2.toNat)), some (vI (f 56 x2.toNat)), none, none, none, none]) dX1_passDay_13 (by decide) rfl ?_
      refine ev_aload_n (i := 0) dX1_passDay_15 rfl rfl ?_
      refine ev_iload_n (i := 2) dX1_passDay_16 rfl rfl ?_
      refine ev_cVI (b := 48) (av := [vI x2]) (S := []) (fun q => q) h dX1_passDay_17 (fun Q' q => TX1_widthOn x2 _ q) kvX1_widthOn ml_X1_89 sh_48 rfl (RRc (by decide) (by decide)) (Nat.le_of_ble_eq_true rfl) ⟨Nat.le_of_ble_eq_true rfl, Nat.le_of_ble_eq_true rfl⟩ (fun y3 f3 h => ?_)
      refine ev_istore (L' := [some (vR 48), some (vR 4), some (vI x2), some (vI (f 55 x2.toNat)), some (vI (f 56 x2.toNat)), some (vI y3), none, none, none]) dX1_passDay_20 (by decide) rfl ?_
      refine ev_iconst dX1_passDay_22 (r32c rfl) ?_
      refine ev_istore (L' := [some (vR 48), some (vR 4), some (vI x2), some (vI (f 55 x2.toNat)), some (vI (f 56 x2.toNat)), some (vI y3), some (vI 0), none, none]) dX1_passDay_23 (by decide) rfl ?_
      exact SX1_passDay_48_4_25  fu x2 (f 55 x2.toNat) (f 56 x2.toNat) y3 0 _ h
    · rw [if_neg g2] at h; exact h.elim
  · rw [if_neg g1] at h; exact h.elim
def FX1_passDay_48_4 (x2 : Int) (f : Mm) : Option Mm := FX1_passDay_48_4_0 x2 f
set_option maxRecDepth 100000 in
theorem TX1_passDay_48_4 {G : GT} {l : Launch} {Q : Option AV → Mem → Prop} (x2 : Int) (f : Mm) (h : OkV Q (FX1_passDay_48_4 x2 f)) : Ret G l MX1_passDay (2) 0 0 [vR 48, vR 4, vI x2] (SH, RF, f) Q := by
  refine ret_of (L := [some (vR 48), some (vR 4), some (vI x2), none, none, none, none, none, none]) (by decide) rfl (Nat.le_of_ble_eq_true rfl) ?_
  exact SX1_passDay_48_4_0 x2 f h
theorem dX1_walk_2 : decode cX1_walk 2 = .ok (.iload_n 2, 1) := by decide +kernel
theorem dX1_walk_3 : decode cX1_walk 3 = .ok (.aload_n 1, 1) := by decide +kernel
theorem dX1_walk_4 : decode cX1_walk 4 = .ok (.getfield 51, 3) := by decide +kernel
theorem dX1_walk_7 : decode cX1_walk 7 = .ok (.if_icmp .ge 21, 3) := by decide +kernel
theorem dX1_walk_28 : decode cX1_walk 28 = .ok (.return_, 1) := by decide +kernel
theorem dX1_walk_10 : decode cX1_walk 10 = .ok (.aload_n 0, 1) := by decide +kernel
theorem dX1_walk_11 : decode cX1_walk 11 = .ok (.aload_n 1, 1) := by decide +kernel
theorem dX1_walk_12 : decode cX1_walk 12 = .ok (.iload_n 2, 1) := by decide +kernel
theorem dX1_walk_13 : decode cX1_walk 13 = .ok (.invokevirtual 54, 3) := by decide +kernel
theorem dX1_walk_16 : decode cX1_walk 16 = .ok (.aload_n 0, 1) := by decide +kernel
theorem dX1_walk_17 : decode cX1_walk 17 = .ok (.aload_n 1, 1) := by decide +kernel
theorem dX1_walk_18 : decode cX1_walk 18 = .ok (.iload_n 2, 1) := by decide +kernel
theorem dX1_walk_19 : decode cX1_walk 19 = .ok (.invokevirtual 58, 3) := by decide +kernel
theorem dX1_walk_22 : decode cX1_walk 22 = .ok (.iinc 2 1, 3) := by decide +kernel
theorem dX1_walk_25 : decode cX1_walk 25 = .ok (.goto (-23), 3) := by decide +kernel
theorem dX1_walk_0 : decode cX1_walk 0 = .ok (.iconst 0, 1) := by decide +kernel
theorem dX1_walk_1 : decode cX1_walk 1 = .ok (.istore_n 2, 1) := by decide +kernel
def FX1_walk_48_4_2  : Nat → Int → Mm → Option Mm
  | 0, _, _ => none
  | n + 1, x2, f => (if (f 4 1) ≤ x2 then some f else ((FX1_feelDay_48_4 x2 f).bind fun f1 => ((FX1_passDay_48_4 x2 f1).bind fun f2 => FX1_walk_48_4_2 n (w32 (x2 + 1)) f2)))
set_option maxHeartbeats 4000000 in
set_option maxRecDepth 100000 in
theorem SX1_walk_48_4_2 {G : GT} {l : Launch} {Q : Option AV → Mem → Prop}  : ∀ (n : Nat) (x2 : Int) (f : Mm), OkV Q (FX1_walk_48_4_2  n x2 f) → Ev G l MX1_walk (Rm 4 0 0) (ZM G Q 0 0) 0 0 2 [some (vR 48), some (vR 4), some (vI x2)] [] (SH, RF, f) := by
  intro n
  induction n with
  | zero => intro x2 f h; exact absurd h (by rw [FX1_walk_48_4_2]; exact fun q => q)
  | succ n ih =>
    intro x2 f h
    rw [FX1_walk_48_4_2] at h
    refine ev_iload_n (i := 2) dX1_walk_2 rfl rfl ?_
    refine ev_aload_n (i := 1) dX1_walk_3 rfl rfl ?_
    refine ex_getI (x := (f 4 1)) dX1_walk_4 fl_X1_51 sh_4 (by decide) (by decide) rfl ?_
    refine ev_icmp_ge (tgt := 28) dX1_walk_7 (by decide) (fun c3 => ?_) (fun c3 => ?_)
    · rw [if_pos c3] at h
      exact ev_vret rfl dX1_walk_28 h
    · rw [if_neg c3] at h
      refine ev_aload_n (i := 0) dX1_walk_10 rfl rfl ?_
      refine ev_aload_n (i := 1) dX1_walk_11 rfl rfl ?_
      refine ev_iload_n (i := 2) dX1_walk_12 rfl rfl ?_
      refine ev_cVV (b := 48) (av := [vR 4, vI x2]) (S := []) (fun q => q) h dX1_walk_13 (fun Q' q => TX1_feelDay_48_4 x2 _ q) kvX1_feelDay ml_X1_54 sh_48 rfl (RRc (by decide) (by decide)) (Nat.le_of_ble_eq_true rfl) ⟨Nat.le_of_ble_eq_true rfl, Nat.le_of_ble_eq_true rfl⟩ (fun f1 h => ?_)
      refine ev_aload_n (i := 0) dX1_walk_16 rfl rfl ?_
      refine ev_aload_n (i := 1) dX1_walk_17 rfl rfl ?_
      refine ev_iload_n (i := 2) dX1_walk_18 rfl rfl ?_
      refine ev_cVV (b := 48) (av := [vR 4, vI x2]) (S := []) (fun q => q) h dX1_walk_19 (fun Q' q => TX1_passDay_48_4 x2 _ q) kvX1_passDay ml_X1_58 sh_48 rfl (RRc (by decide) (by decide)) (Nat.le_of_ble_eq_true rfl) ⟨Nat.le_of_ble_eq_true rfl, Nat.le_of_ble_eq_true rfl⟩ (fun f2 h => ?_)
      refine ev_iinc (L' := [some (vR 48), some (vR 4), some (vI (w32 (x2 + 1)))]) dX1_walk_22 rfl (by decide) rfl ?_
      refine ev_goto (tgt := 2) dX1_walk_25 (by decide) ?_
      exact ih (w32 (x2 + 1)) _ h
def FX1_walk_48_4_0   (f : Mm) : Option Mm := FX1_walk_48_4_2 fu 0 f
set_option maxHeartbeats 4000000 in
set_option maxRecDepth 100000 in
theorem SX1_walk_48_4_0 {G : GT} {l : Launch} {Q : Option AV → Mem → Prop}   (f : Mm) (h : OkV Q (FX1_walk_48_4_0   f)) : Ev G l MX1_walk (Rm 4 0 0) (ZM G Q 0 0) 0 0 0 [some (vR 48), some (vR 4), none] [] (SH, RF, f) := by
  unfold FX1_walk_48_4_0 at h
  refine ev_iconst dX1_walk_0 (r32c rfl) ?_
  refine ev_istore_n (i := 2) (L' := [some (vR 48), some (vR 4), some (vI 0)]) dX1_walk_1 rfl (by decide) rfl ?_
  exact SX1_walk_48_4_2  fu 0 _ h
def FX1_walk_48_4  (f : Mm) : Option Mm := FX1_walk_48_4_0  f
set_option maxRecDepth 100000 in
theorem TX1_walk_48_4 {G : GT} {l : Launch} {Q : Option AV → Mem → Prop}  (f : Mm) (h : OkV Q (FX1_walk_48_4  f)) : Ret G l MX1_walk (4) 0 0 [vR 48, vR 4] (SH, RF, f) Q := by
  refine ret_of (L := [some (vR 48), some (vR 4), none]) (by decide) rfl (Nat.le_of_ble_eq_true rfl) ?_
  exact SX1_walk_48_4_0  f h
theorem dX10_asNow_0 : decode cX10_asNow 0 = .ok (.aload_n 0, 1) := by decide +kernel
theorem dX10_asNow_1 : decode cX10_asNow 1 = .ok (.getfield 44, 3) := by decide +kernel
theorem dX10_asNow_4 : decode cX10_asNow 4 = .ok (.aload_n 0, 1) := by decide +kernel
theorem dX10_asNow_5 : decode cX10_asNow 5 = .ok (.getfield 19, 3) := by decide +kernel
theorem dX10_asNow_8 : decode cX10_asNow 8 = .ok (.invokevirtual 230, 3) := by decide +kernel
theorem dX10_asNow_11 : decode cX10_asNow 11 = .ok (.aload_n 0, 1) := by decide +kernel
theorem dX10_asNow_12 : decode cX10_asNow 12 = .ok (.getfield 44, 3) := by decide +kernel
theorem dX10_asNow_15 : decode cX10_asNow 15 = .ok (.aload_n 0, 1) := by decide +kernel
theorem dX10_asNow_16 : decode cX10_asNow 16 = .ok (.getfield 19, 3) := by decide +kernel
theorem dX10_asNow_19 : decode cX10_asNow 19 = .ok (.invokevirtual 233, 3) := by decide +kernel
theorem dX10_asNow_22 : decode cX10_asNow 22 = .ok (.aload_n 0, 1) := by decide +kernel
theorem dX10_asNow_23 : decode cX10_asNow 23 = .ok (.getfield 44, 3) := by decide +kernel
theorem dX10_asNow_26 : decode cX10_asNow 26 = .ok (.areturn, 1) := by decide +kernel
def FX10_asNow_0   (f : Mm) : Option Mm := ((FX1_asDone_48_4 f).bind fun f1 => ((FX1_walk_48_4 f1).bind fun f2 => some f2))
set_option maxHeartbeats 4000000 in
set_option maxRecDepth 100000 in
theorem SX10_asNow_0 {G : GT} {l : Launch} {Q : Option AV → Mem → Prop}   (f : Mm) (h : OkC 48 Q (FX10_asNow_0   f)) : Ev G l MX10_asNow (Rm 5 0 0) (ZM G Q 0 0) 0 0 0 [some (vR 0)] [] (SH, RF, f) := by
  unfold FX10_asNow_0 at h
  refine ev_aload_n (i := 0) dX10_asNow_0 rfl rfl ?_
  refine ev_getR dX10_asNow_1 fl_X10_44 sh_0 (by decide) (by decide) rf_0_6 ?_
  refine ev_aload_n (i := 0) dX10_asNow_4 rfl rfl ?_
  refine ev_getR dX10_asNow_5 fl_X10_19 sh_0 (by decide) (by decide) rf_0_1 ?_
  refine ev_cVV (b := 48) (av := [vR 4]) (S := []) (fun q => q) h dX10_asNow_8 (fun Q' q => TX1_asDone_48_4 _ q) kvX1_asDone ml_X10_230 sh_48 rfl (RRc (by decide) (by decide)) (Nat.le_of_ble_eq_true rfl) ⟨Nat.le_of_ble_eq_true rfl, Nat.le_of_ble_eq_true rfl⟩ (fun f1 h => ?_)
  refine ev_aload_n (i := 0) dX10_asNow_11 rfl rfl ?_
  refine ev_getR dX10_asNow_12 fl_X10_44 sh_0 (by decide) (by decide) rf_0_6 ?_
  refine ev_aload_n (i := 0) dX10_asNow_15 rfl rfl ?_
  refine ev_getR dX10_asNow_16 fl_X10_19 sh_0 (by decide) (by decide) rf_0_1 ?_
  refine ev_cVV (b := 48) (av := [vR 4]) (S := []) (fun q => q) h dX10_asNow_19 (fun Q' q => TX1_walk_48_4 _ q) kvX1_walk ml_X10_233 sh_48 rfl (RRc (by decide) (by decide)) (Nat.le_of_ble_eq_true rfl) ⟨Nat.le_of_ble_eq_true rfl, Nat.le_of_ble_eq_true rfl⟩ (fun f2 h => ?_)
  refine ev_aload_n (i := 0) dX10_asNow_22 rfl rfl ?_
  refine ev_getR dX10_asNow_23 fl_X10_44 sh_0 (by decide) (by decide) rf_0_6 ?_
  exact ev_aret rfl dX10_asNow_26 h
def FX10_asNow  (f : Mm) : Option Mm := FX10_asNow_0  f
set_option maxRecDepth 100000 in
theorem TX10_asNow {G : GT} {l : Launch} {Q : Option AV → Mem → Prop}  (f : Mm) (h : OkC 48 Q (FX10_asNow  f)) : Ret G l MX10_asNow (5) 0 0 [vR 0] (SH, RF, f) Q := by
  refine ret_of (L := [some (vR 0)]) (by decide) rfl (Nat.le_of_ble_eq_true rfl) ?_
  exact SX10_asNow_0  f h
theorem dX10_feels_0 : decode cX10_feels 0 = .ok (.iload_n 1, 1) := by decide +kernel
theorem dX10_feels_1 : decode cX10_feels 1 = .ok (.invokestatic 123, 3) := by decide +kernel
theorem dX10_feels_4 : decode cX10_feels 4 = .ok (.ifCond .eq 14, 3) := by decide +kernel
theorem dX10_feels_18 : decode cX10_feels 18 = .ok (.sipush (-1000), 3) := by decide +kernel
theorem dX10_feels_21 : decode cX10_feels 21 = .ok (.ireturn, 1) := by decide +kernel
theorem dX10_feels_7 : decode cX10_feels 7 = .ok (.aload_n 0, 1) := by decide +kernel
theorem dX10_feels_8 : decode cX10_feels 8 = .ok (.getfield 19, 3) := by decide +kernel
theorem dX10_feels_11 : decode cX10_feels 11 = .ok (.iload_n 2, 1) := by decide +kernel
theorem dX10_feels_12 : decode cX10_feels 12 = .ok (.invokevirtual 126, 3) := by decide +kernel
theorem dX10_feels_15 : decode cX10_feels 15 = .ok (.ifCond .ne 7, 3) := by decide +kernel
theorem dX10_feels_22 : decode cX10_feels 22 = .ok (.aload_n 0, 1) := by decide +kernel
theorem dX10_feels_23 : decode cX10_feels 23 = .ok (.invokevirtual 129, 3) := by decide +kernel
theorem dX10_feels_26 : decode cX10_feels 26 = .ok (.getfield 133, 3) := by decide +kernel
theorem dX10_feels_29 : decode cX10_feels 29 = .ok (.iload_n 1, 1) := by decide +kernel
theorem dX10_feels_30 : decode cX10_feels 30 = .ok (.aaload, 1) := by decide +kernel
theorem dX10_feels_31 : decode cX10_feels 31 = .ok (.iload_n 2, 1) := by decide +kernel
theorem dX10_feels_32 : decode cX10_feels 32 = .ok (.iaload, 1) := by decide +kernel
theorem dX10_feels_33 : decode cX10_feels 33 = .ok (.ireturn, 1) := by decide +kernel
def FX10_feels_0  (x1 : Int) (x2 : Int) (f : Mm) : Option (Int × Mm) := (b2 (FX10_isSide x1 f) fun y1 f1 => (if y1 = 0 then some ((-1000), f1) else (b2 (FX0_hasDay_4 x2 f1) fun y2 f2 => (if y2 = 0 then some ((-1000), f2) else ((FX10_asNow f2).bind fun f3 => (if 0 ≤ x1 ∧ x1 < 2 then (if 0 ≤ x2 ∧ x2 < 6 then some ((f3 (52 + x1.toNat) x2.toNat), f3) else none) else none))))))
set_option maxHeartbeats 4000000 in
set_option maxRecDepth 100000 in
theorem SX10_feels_0 {G : GT} {l : Launch} {Q : Option AV → Mem → Prop}  (x1 : Int) (x2 : Int) (f : Mm) (h : OkI Q (FX10_feels_0  x1 x2 f)) : Ev G l MX10_feels (Rm 6 0 0) (ZM G Q 0 0) 0 0 0 [some (vR 0), some (vI x1), some (vI x2)] [] (SH, RF, f) := by
  unfold FX10_feels_0 at h
  refine ev_iload_n (i := 1) dX10_feels_0 rfl rfl ?_
  refine ev_cSI (av := [vI x1]) (S := []) (fun q => q) h dX10_feels_1 (fun Q' q => TX10_isSide x1 _ q) ksX10_isSide ml_X10_123 rfl (RRc (by decide) (by decide)) (Nat.le_of_ble_eq_true rfl) ⟨Nat.le_of_ble_eq_true rfl, Nat.le_of_ble_eq_true rfl⟩ (fun y1 f1 h => ?_)
  refine ev_if_eq (tgt := 18) dX10_feels_4 (by decide) (fun c7 => ?_) (fun c7 => ?_)
  · rw [if_pos c7] at h
    refine ev_sipush (v := (-1000)) dX10_feels_18 (r32c rfl) (by decide) ?_
    exact ev_iret rfl dX10_feels_21 h
  · rw [if_neg c7] at h
    refine ev_aload_n (i := 0) dX10_feels_7 rfl rfl ?_
    refine ev_getR dX10_feels_8 fl_X10_19 sh_0 (by decide) (by decide) rf_0_1 ?_
    refine ev_iload_n (i := 2) dX10_feels_11 rfl rfl ?_
    refine ev_cVI (b := 4) (av := [vI x2]) (S := []) (fun q => q) h dX10_feels_12 (fun Q' q => TX0_hasDay_4 x2 _ q) kvX0_hasDay ml_X10_126 sh_4 rfl (RRc (by decide) (by decide)) (Nat.le_of_ble_eq_true rfl) ⟨Nat.le_of_ble_eq_true rfl, Nat.le_of_ble_eq_true rfl⟩ (fun y2 f2 h => ?_)
    refine ev_if_ne (tgt := 22) dX10_feels_15 (by decide) (fun c6 => ?_) (fun c6 => ?_)
    · rw [if_neg c6] at h
      refine ev_aload_n (i := 0) dX10_feels_22 rfl rfl ?_
      refine ev_cVC (b := 0) (av := []) (S := []) (fun q => q) h dX10_feels_23 (fun Q' q => TX10_asNow _ q) kvX10_asNow ml_X10_129 sh_0 rfl (RRc (by decide) (by decide)) (Nat.le_of_ble_eq_true rfl) ⟨Nat.le_of_ble_eq_true rfl, Nat.le_of_ble_eq_true rfl⟩ (fun f3 h => ?_)
      refine ev_getR dX10_feels_26 fl_X10_133 sh_48 (by decide) (by decide) rf_48_6 ?_
      refine ev_iload_n (i := 1) dX10_feels_29 rfl rfl ?_
      by_cases g4 : 0 ≤ x1 ∧ x1 < 2
      · rw [if_pos g4] at h
        refine ev_aald (b := (52 + x1.toNat)) dX10_feels_30 (Or.inl rfl) sh_51 g4.1 g4.2 (rfr_51 g4) ?_
        refine ev_iload_n (i := 2) dX10_feels_31 rfl rfl ?_
        by_cases g5 : 0 ≤ x2 ∧ x2 < 6
        · rw [if_pos g5] at h
          refine ex_iald (x := (f3 (52 + x1.toNat) x2.toNat)) dX10_feels_32 (shr_51 g4) g5.1 g5.2 rfl ?_
          exact ev_iret rfl dX10_feels_33 h
        · rw [if_neg g5] at h; exact h.elim
      · rw [if_neg g4] at h; exact h.elim
    · rw [if_pos c6] at h
      refine ev_sipush (v := (-1000)) dX10_feels_18 (r32c rfl) (by decide) ?_
      exact ev_iret rfl dX10_feels_21 h
def FX10_feels (x1 : Int) (x2 : Int) (f : Mm) : Option (Int × Mm) := FX10_feels_0 x1 x2 f
set_option maxRecDepth 100000 in
theorem TX10_feels {G : GT} {l : Launch} {Q : Option AV → Mem → Prop} (x1 : Int) (x2 : Int) (f : Mm) (h : OkI Q (FX10_feels x1 x2 f)) : Ret G l MX10_feels (6) 0 0 [vR 0, vI x1, vI x2] (SH, RF, f) Q := by
  refine ret_of (L := [some (vR 0), some (vI x1), some (vI x2)]) (by decide) rfl (Nat.le_of_ble_eq_true rfl) ?_
  exact SX10_feels_0 x1 x2 f h
theorem dX10_width_0 : decode cX10_width 0 = .ok (.aload_n 0, 1) := by decide +kernel
theorem dX10_width_1 : decode cX10_width 1 = .ok (.getfield 19, 3) := by decide +kernel
theorem dX10_width_4 : decode cX10_width 4 = .ok (.iload_n 1, 1) := by decide +kernel
theorem dX10_width_5 : decode cX10_width 5 = .ok (.invokevirtual 126, 3) := by decide +kernel
theorem dX10_width_8 : decode cX10_width 8 = .ok (.ifCond .eq 14, 3) := by decide +kernel
theorem dX10_width_22 : decode cX10_width 22 = .ok (.bipush (-2), 2) := by decide +kernel
theorem dX10_width_24 : decode cX10_width 24 = .ok (.ireturn, 1) := by decide +kernel
theorem dX10_width_11 : decode cX10_width 11 = .ok (.aload_n 0, 1) := by decide +kernel
theorem dX10_width_12 : decode cX10_width 12 = .ok (.invokevirtual 129, 3) := by decide +kernel
theorem dX10_width_15 : decode cX10_width 15 = .ok (.iload_n 1, 1) := by decide +kernel
theorem dX10_width_16 : decode cX10_width 16 = .ok (.invokevirtual 136, 3) := by decide +kernel
theorem dX10_width_19 : decode cX10_width 19 = .ok (.goto 5, 3) := by decide +kernel
def FX10_width_0  (x1 : Int) (f : Mm) : Option (Int × Mm) := (b2 (FX0_hasDay_4 x1 f) fun y1 f1 => (if y1 = 0 then some ((-2), f1) else ((FX10_asNow f1).bind fun f2 => (b2 (FX1_widthOn x1 f2) fun y3 f3 => some (y3, f3)))))
set_option maxHeartbeats 4000000 in
set_option maxRecDepth 100000 in
theorem SX10_width_0 {G : GT} {l : Launch} {Q : Option AV → Mem → Prop}  (x1 : Int) (f : Mm) (h : OkI Q (FX10_width_0  x1 f)) : Ev G l MX10_width (Rm 6 0 0) (ZM G Q 0 0) 0 0 0 [some (vR 0), some (vI x1)] [] (SH, RF, f) := by
  unfold FX10_width_0 at h
  refine ev_aload_n (i := 0) dX10_width_0 rfl rfl ?_
  refine ev_getR dX10_width_1 fl_X10_19 sh_0 (by decide) (by decide) rf_0_1 ?_
  refine ev_iload_n (i := 1) dX10_width_4 rfl rfl ?_
  refine ev_cVI (b := 4) (av := [vI x1]) (S := []) (fun q => q) h dX10_width_5 (fun Q' q => TX0_hasDay_4 x1 _ q) kvX0_hasDay ml_X10_126 sh_4 rfl (RRc (by decide) (by decide)) (Nat.le_of_ble_eq_true rfl) ⟨Nat.le_of_ble_eq_true rfl, Nat.le_of_ble_eq_true rfl⟩ (fun y1 f1 h => ?_)
  refine ev_if_eq (tgt := 22) dX10_width_8 (by decide) (fun c4 => ?_) (fun c4 => ?_)
  · rw [if_pos c4] at h
    refine ev_bipush (v := (-2)) dX10_width_22 (r32c rfl) (by decide) ?_
    exact ev_iret rfl dX10_width_24 h
  · rw [if_neg c4] at h
    refine ev_aload_n (i := 0) dX10_width_11 rfl rfl ?_
    refine ev_cVC (b := 0) (av := []) (S := []) (fun q => q) h dX10_width_12 (fun Q' q => TX10_asNow _ q) kvX10_asNow ml_X10_129 sh_0 rfl (RRc (by decide) (by decide)) (Nat.le_of_ble_eq_true rfl) ⟨Nat.le_of_ble_eq_true rfl, Nat.le_of_ble_eq_true rfl⟩ (fun f2 h => ?_)
    refine ev_iload_n (i := 1) dX10_width_15 rfl rfl ?_
    refine ev_cVI (b := 48) (av := [vI x1]) (S := []) (fun q => q) h dX10_width_16 (fun Q' q => TX1_widthOn x1 _ q) kvX1_widthOn ml_X10_136 sh_48 rfl (RRc (by decide) (by decide)) (Nat.le_of_ble_eq_true rfl) ⟨Nat.le_of_ble_eq_true rfl, Nat.le_of_ble_eq_true rfl⟩ (fun y3 f3 h => ?_)
    refine ev_goto (tgt := 24) dX10_width_19 (by decide) ?_
    exact ev_iret rfl dX10_width_24 h
def FX10_width (x1 : Int) (f : Mm) : Option (Int × Mm) := FX10_width_0 x1 f
set_option maxRecDepth 100000 in
theorem TX10_width {G : GT} {l : Launch} {Q : Option AV → Mem → Prop} (x1 : Int) (f : Mm) (h : OkI Q (FX10_width x1 f)) : Ret G l MX10_width (6) 0 0 [vR 0, vI x1] (SH, RF, f) Q := by
  refine ret_of (L := [some (vR 0), some (vI x1)]) (by decide) rfl (Nat.le_of_ble_eq_true rfl) ?_
  exact SX10_width_0 x1 f h
theorem dX0_stands_0 : decode cX0_stands 0 = .ok (.aload_n 0, 1) := by decide +kernel
theorem dX0_stands_1 : decode cX0_stands 1 = .ok (.getfield 32, 3) := by decide +kernel
theorem dX0_stands_4 : decode cX0_stands 4 = .ok (.ifCond .le 7, 3) := by decide +kernel
theorem dX0_stands_11 : decode cX0_stands 11 = .ok (.iconst 0, 1) := by decide +kernel
theorem dX0_stands_12 : decode cX0_stands 12 = .ok (.ireturn, 1) := by decide +kernel
theorem dX0_stands_7 : decode cX0_stands 7 = .ok (.iconst 1, 1) := by decide +kernel
theorem dX0_stands_8 : decode cX0_stands 8 = .ok (.goto 4, 3) := by decide +kernel
def FX0_stands_4_0   (f : Mm) : Option (Int × Mm) := (if (f 4 0) ≤ 0 then some (0, f) else some (1, f))
set_option maxHeartbeats 4000000 in
set_option maxRecDepth 100000 in
theorem SX0_stands_4_0 {G : GT} {l : Launch} {Q : Option AV → Mem → Prop}   (f : Mm) (h : OkI Q (FX0_stands_4_0   f)) : Ev G l MX0_stands (Rm 1 0 0) (ZM G Q 0 0) 0 0 0 [some (vR 4)] [] (SH, RF, f) := by
  unfold FX0_stands_4_0 at h
  refine ev_aload_n (i := 0) dX0_stands_0 rfl rfl ?_
  refine ex_getI (x := (f 4 0)) dX0_stands_1 fl_X0_32 sh_4 (by decide) (by decide) rfl ?_
  refine ev_if_le (tgt := 11) dX0_stands_4 (by decide) (fun c1 => ?_) (fun c1 => ?_)
  · rw [if_pos c1] at h
    refine ev_iconst dX0_stands_11 (r32c rfl) ?_
    exact ev_zret rfl (by decide) dX0_stands_12 h
  · rw [if_neg c1] at h
    refine ev_iconst dX0_stands_7 (r32c rfl) ?_
    refine ev_goto (tgt := 12) dX0_stands_8 (by decide) ?_
    exact ev_zret rfl (by decide) dX0_stands_12 h
def FX0_stands_4  (f : Mm) : Option (Int × Mm) := FX0_stands_4_0  f
set_option maxRecDepth 100000 in
theorem TX0_stands_4 {G : GT} {l : Launch} {Q : Option AV → Mem → Prop}  (f : Mm) (h : OkI Q (FX0_stands_4  f)) : Ret G l MX0_stands (1) 0 0 [vR 4] (SH, RF, f) Q := by
  refine ret_of (L := [some (vR 4)]) (by decide) rfl (Nat.le_of_ble_eq_true rfl) ?_
  exact SX0_stands_4_0  f h
theorem dX10_narrow_48 : decode cX10_narrow 48 = .ok (.iinc 3 1, 3) := by decide +kernel
theorem dX10_narrow_51 : decode cX10_narrow 51 = .ok (.goto (-29), 3) := by decide +kernel
theorem dX10_narrow_22 : decode cX10_narrow 22 = .ok (.iload_n 3, 1) := by decide +kernel
theorem dX10_narrow_23 : decode cX10_narrow 23 = .ok (.aload_n 0, 1) := by decide +kernel
theorem dX10_narrow_24 : decode cX10_narrow 24 = .ok (.getfield 19, 3) := by decide +kernel
theorem dX10_narrow_27 : decode cX10_narrow 27 = .ok (.getfield 144, 3) := by decide +kernel
theorem dX10_narrow_30 : decode cX10_narrow 30 = .ok (.if_icmp .ge 24, 3) := by decide +kernel
theorem dX10_narrow_54 : decode cX10_narrow 54 = .ok (.iload_n 2, 1) := by decide +kernel
theorem dX10_narrow_55 : decode cX10_narrow 55 = .ok (.ireturn, 1) := by decide +kernel
theorem dX10_narrow_33 : decode cX10_narrow 33 = .ok (.aload_n 1, 1) := by decide +kernel
theorem dX10_narrow_34 : decode cX10_narrow 34 = .ok (.iload_n 3, 1) := by decide +kernel
theorem dX10_narrow_35 : decode cX10_narrow 35 = .ok (.invokevirtual 136, 3) := by decide +kernel
theorem dX10_narrow_38 : decode cX10_narrow 38 = .ok (.aload_n 1, 1) := by decide +kernel
theorem dX10_narrow_39 : decode cX10_narrow 39 = .ok (.iload_n 2, 1) := by decide +kernel
theorem dX10_narrow_40 : decode cX10_narrow 40 = .ok (.invokevirtual 136, 3) := by decide +kernel
theorem dX10_narrow_43 : decode cX10_narrow 43 = .ok (.if_icmp .ge 5, 3) := by decide +kernel
theorem dX10_narrow_46 : decode cX10_narrow 46 = .ok (.iload_n 3, 1) := by decide +kernel
theorem dX10_narrow_47 : decode cX10_narrow 47 = .ok (.istore_n 2, 1) := by decide +kernel
theorem dX10_narrow_0 : decode cX10_narrow 0 = .ok (.aload_n 0, 1) := by decide +kernel
theorem dX10_narrow_1 : decode cX10_narrow 1 = .ok (.getfield 19, 3) := by decide +kernel
theorem dX10_narrow_4 : decode cX10_narrow 4 = .ok (.invokevirtual 140, 3) := by decide +kernel
theorem dX10_narrow_7 : decode cX10_narrow 7 = .ok (.ifCond .ne 6, 3) := by decide +kernel
theorem dX10_narrow_13 : decode cX10_narrow 13 = .ok (.aload_n 0, 1) := by decide +kernel
theorem dX10_narrow_14 : decode cX10_narrow 14 = .ok (.invokevirtual 129, 3) := by decide +kernel
theorem dX10_narrow_17 : decode cX10_narrow 17 = .ok (.astore_n 1, 1) := by decide +kernel
theorem dX10_narrow_18 : decode cX10_narrow 18 = .ok (.iconst 0, 1) := by decide +kernel
theorem dX10_narrow_19 : decode cX10_narrow 19 = .ok (.istore_n 2, 1) := by decide +kernel
theorem dX10_narrow_20 : decode cX10_narrow 20 = .ok (.iconst 1, 1) := by decide +kernel
theorem dX10_narrow_21 : decode cX10_narrow 21 = .ok (.istore_n 3, 1) := by decide +kernel
theorem dX10_narrow_10 : decode cX10_narrow 10 = .ok (.bipush (-2), 2) := by decide +kernel
theorem dX10_narrow_12 : decode cX10_narrow 12 = .ok (.ireturn, 1) := by decide +kernel
def FX10_narrow_48 (k22 : Int → Int → Mm → Option (Int × Mm)) (x2 : Int) (x3 : Int) (f : Mm) : Option (Int × Mm) := k22 x2 (w32 (x3 + 1)) f
set_option maxHeartbeats 4000000 in
set_option maxRecDepth 100000 in
theorem SX10_narrow_48 {G : GT} {l : Launch} {Q : Option AV → Mem → Prop} {k22 : Int → Int → Mm → Option (Int × Mm)} (q22 : ∀ (x2 : Int) (x3 : Int) (f : Mm), OkI Q (k22 x2 x3 f) → Ev G l MX10_narrow (Rm 6 0 0) (ZM G Q 0 0) 0 0 22 [some (vR 0), some (vR 48), some (vI x2), some (vI x3)] [] (SH, RF, f)) (x2 : Int) (x3 : Int) (f : Mm) (h : OkI Q (FX10_narrow_48 k22 x2 x3 f)) : Ev G l MX10_narrow (Rm 6 0 0) (ZM G Q 0 0) 0 0 48 [some (vR 0), some (vR 48), some (vI x2), some (vI x3)] [] (SH, RF, f) := by
  unfold FX10_narrow_48 at h
  refine ev_iinc (L' := [some (vR 0), some (vR 48), some (vI x2), some (vI (w32 (x3 + 1)))]) dX10_narrow_48 rfl (by decide) rfl ?_
  refine ev_goto (tgt := 22) dX10_narrow_51 (by decide) ?_
  exact q22 x2 (w32 (x3 + 1)) _ h
def FX10_narrow_22  : Nat → Int → Int → Mm → Option (Int × Mm)
  | 0, _, _, _ => none
  | n + 1, x2, x3, f => (if (f 4 1) ≤ x3 then some (x2, f) else (b2 (FX1_widthOn x3 f) fun y1 f1 => (b2 (FX1_widthOn x2 f1) fun y2 f2 => (if y2 ≤ y1 then FX10_narrow_48 (FX10_narrow_22 n) x2 x3 f2 else FX10_narrow_48 (FX10_narrow_22 n) x3 x3 f2))))
set_option maxHeartbeats 4000000 in
set_option maxRecDepth 100000 in
theorem SX10_narrow_22 {G : GT} {l : Launch} {Q : Option AV → Mem → Prop}  : ∀ (n : Nat) (x2 : Int) (x3 : Int) (f : Mm), OkI Q (FX10_narrow_22  n x2 x3 f) → Ev G l MX10_narrow (Rm 6 0 0) (ZM G Q 0 0) 0 0 22 [some (vR 0), some (vR 48), some (vI x2), some (vI x3)] [] (SH, RF, f) := by
  intro n
  induction n with
  | zero => intro x2 x3 f h; exact absurd h (by rw [FX10_narrow_22]; exact fun q => q)
  | succ n ih =>
    intro x2 x3 f h
    rw [FX10_narrow_22] at h
    refine ev_iload_n (i := 3) dX10_narrow_22 rfl rfl ?_
    refine ev_aload_n (i := 0) dX10_narrow_23 rfl rfl ?_
    refine ev_getR dX10_narrow_24 fl_X10_19 sh_0 (by decide) (by decide) rf_0_1 ?_
    refine ex_getI (x := (f 4 1)) dX10_narrow_27 fl_X10_144 sh_4 (by decide) (by decide) rfl ?_
    refine ev_icmp_ge (tgt := 54) dX10_narrow_30 (by decide) (fun c4 => ?_) (fun c4 => ?_)
    · rw [if_pos c4] at h
      refine ev_iload_n (i := 2) dX10_narrow_54 rfl rfl ?_
      exact ev_iret rfl dX10_narrow_55 h
    · rw [if_neg c4] at h
      refine ev_aload_n (i := 1) dX10_narrow_33 rfl rfl ?_
      refine ev_iload_n (i := 3) dX10_narrow_34 rfl rfl ?_
      refine ev_cVI (b := 48) (av := [vI x3]) (S := []) (fun q => q) h dX10_narrow_35 (fun Q' q => TX1_widthOn x3 _ q) kvX1_widthOn ml_X10_136 sh_48 rfl (RRc (by decide) (by decide)) (Nat.le_of_ble_eq_true rfl) ⟨Nat.le_of_ble_eq_true rfl, Nat.le_of_ble_eq_true rfl⟩ (fun y1 f1 h => ?_)
      refine ev_aload_n (i := 1) dX10_narrow_38 rfl rfl ?_
      refine ev_iload_n (i := 2) dX10_narrow_39 rfl rfl ?_
      refine ev_cVI (b := 48) (av := [vI x2]) (S := [vI y1]) (fun q => q) h dX10_narrow_40 (fun Q' q => TX1_widthOn x2 _ q) kvX1_widthOn ml_X10_136 sh_48 rfl (RRc (by decide) (by decide)) (Nat.le_of_ble_eq_true rfl) ⟨Nat.le_of_ble_eq_true rfl, Nat.le_of_ble_eq_true rfl⟩ (fun y2 f2 h => ?_)
      refine ev_icmp_ge (tgt := 48) dX10_narrow_43 (by decide) (fun c3 => ?_) (fun c3 => ?_)
      · rw [if_pos c3] at h
        exact SX10_narrow_48 ih x2 x3 _ h
      · rw [if_neg c3] at h
        refine ev_iload_n (i := 3) dX10_narrow_46 rfl rfl ?_
        refine ev_istore_n (i := 2) (L' := [some (vR 0), some (vR 48), some (vI x3), some (vI x3)]) dX10_narrow_47 rfl (by decide) rfl ?_
        exact SX10_narrow_48 ih x3 x3 _ h
def FX10_narrow_0   (f : Mm) : Option (Int × Mm) := (b2 (FX0_stands_4 f) fun y1 f1 => (if y1 = 0 then some ((-2), f1) else ((FX10_asNow f1).bind fun f2 => FX10_narrow_22 fu 0 1 f2)))
set_option maxHeartbeats 4000000 in
set_option maxRecDepth 100000 in
theorem SX10_narrow_0 {G : GT} {l : Launch} {Q : Option AV → Mem → Prop}   (f : Mm) (h : OkI Q (FX10_narrow_0   f)) : Ev G l MX10_narrow (Rm 6 0 0) (ZM G Q 0 0) 0 0 0 [some (vR 0), none, none, none] [] (SH, RF, f) := by
  unfold FX10_narrow_0 at h
  refine ev_aload_n (i := 0) dX10_narrow_0 rfl rfl ?_
  refine ev_getR dX10_narrow_1 fl_X10_19 sh_0 (by decide) (by decide) rf_0_1 ?_
  refine ev_cVI (b := 4) (av := []) (S := []) (fun q => q) h dX10_narrow_4 (fun Q' q => TX0_stands_4 _ q) kvX0_stands ml_X10_140 sh_4 rfl (RRc (by decide) (by decide)) (Nat.le_of_ble_eq_true rfl) ⟨Nat.le_of_ble_eq_true rfl, Nat.le_of_ble_eq_true rfl⟩ (fun y1 f1 h => ?_)
  refine ev_if_ne (tgt := 13) dX10_narrow_7 (by decide) (fun c3 => ?_) (fun c3 => ?_)
  · rw [if_neg c3] at h
    refine ev_aload_n (i := 0) dX10_narrow_13 rfl rfl ?_
    refine ev_cVC (b := 0) (av := []) (S := []) (fun q => q) h dX10_narrow_14 (fun Q' q => TX10_asNow _ q) kvX10_asNow ml_X10_129 sh_0 rfl (RRc (by decide) (by decide)) (Nat.le_of_ble_eq_true rfl) ⟨Nat.le_of_ble_eq_true rfl, Nat.le_of_ble_eq_true rfl⟩ (fun f2 h => ?_)
    refine ev_astore_n (i := 1) (L' := [some (vR 0), some (vR 48), none, none]) dX10_narrow_17 rfl (by decide) rfl ?_
    refine ev_iconst dX10_narrow_18 (r32c rfl) ?_
    refine ev_istore_n (i := 2) (L' := [some (vR 0), some (vR 48), some (vI 0), none]) dX10_narrow_19 rfl (by decide) rfl ?_
    refine ev_iconst dX10_narrow_20 (r32c rfl) ?_
    refine ev_istore_n (i := 3) (L' := [some (vR 0), some (vR 48), some (vI 0), some (vI 1)]) dX10_narrow_21 rfl (by decide) rfl ?_
    exact SX10_narrow_22  fu 0 1 _ h
  · rw [if_pos c3] at h
    refine ev_bipush (v := (-2)) dX10_narrow_10 (r32c rfl) (by decide) ?_
    exact ev_iret rfl dX10_narrow_12 h
def FX10_narrow  (f : Mm) : Option (Int × Mm) := FX10_narrow_0  f
set_option maxRecDepth 100000 in
theorem TX10_narrow {G : GT} {l : Launch} {Q : Option AV → Mem → Prop}  (f : Mm) (h : OkI Q (FX10_narrow  f)) : Ret G l MX10_narrow (6) 0 0 [vR 0] (SH, RF, f) Q := by
  refine ret_of (L := [some (vR 0), none, none, none]) (by decide) rfl (Nat.le_of_ble_eq_true rfl) ?_
  exact SX10_narrow_0  f h
theorem dX10_shut_47 : decode cX10_shut 47 = .ok (.iinc 3 1, 3) := by decide +kernel
theorem dX10_shut_50 : decode cX10_shut 50 = .ok (.goto (-28), 3) := by decide +kernel
theorem dX10_shut_22 : decode cX10_shut 22 = .ok (.iload_n 3, 1) := by decide +kernel
theorem dX10_shut_23 : decode cX10_shut 23 = .ok (.aload_n 0, 1) := by decide +kernel
theorem dX10_shut_24 : decode cX10_shut 24 = .ok (.getfield 19, 3) := by decide +kernel
theorem dX10_shut_27 : decode cX10_shut 27 = .ok (.getfield 144, 3) := by decide +kernel
theorem dX10_shut_30 : decode cX10_shut 30 = .ok (.if_icmp .ge 23, 3) := by decide +kernel
theorem dX10_shut_53 : decode cX10_shut 53 = .ok (.iload_n 2, 1) := by decide +kernel
theorem dX10_shut_54 : decode cX10_shut 54 = .ok (.ireturn, 1) := by decide +kernel
theorem dX10_shut_33 : decode cX10_shut 33 = .ok (.aload_n 1, 1) := by decide +kernel
theorem dX10_shut_34 : decode cX10_shut 34 = .ok (.iload_n 3, 1) := by decide +kernel
theorem dX10_shut_35 : decode cX10_shut 35 = .ok (.invokevirtual 136, 3) := by decide +kernel
theorem dX10_shut_38 : decode cX10_shut 38 = .ok (.ifCond .ne 9, 3) := by decide +kernel
theorem dX10_shut_41 : decode cX10_shut 41 = .ok (.iload_n 2, 1) := by decide +kernel
theorem dX10_shut_42 : decode cX10_shut 42 = .ok (.iconst 1, 1) := by decide +kernel
theorem dX10_shut_43 : decode cX10_shut 43 = .ok (.iload_n 3, 1) := by decide +kernel
theorem dX10_shut_44 : decode cX10_shut 44 = .ok (.ishl, 1) := by decide +kernel
theorem dX10_shut_45 : decode cX10_shut 45 = .ok (.ior, 1) := by decide +kernel
theorem dX10_shut_46 : decode cX10_shut 46 = .ok (.istore_n 2, 1) := by decide +kernel
theorem dX10_shut_0 : decode cX10_shut 0 = .ok (.aload_n 0, 1) := by decide +kernel
theorem dX10_shut_1 : decode cX10_shut 1 = .ok (.getfield 19, 3) := by decide +kernel
theorem dX10_shut_4 : decode cX10_shut 4 = .ok (.invokevirtual 140, 3) := by decide +kernel
theorem dX10_shut_7 : decode cX10_shut 7 = .ok (.ifCond .ne 6, 3) := by decide +kernel
theorem dX10_shut_13 : decode cX10_shut 13 = .ok (.aload_n 0, 1) := by decide +kernel
theorem dX10_shut_14 : decode cX10_shut 14 = .ok (.invokevirtual 129, 3) := by decide +kernel
theorem dX10_shut_17 : decode cX10_shut 17 = .ok (.astore_n 1, 1) := by decide +kernel
theorem dX10_shut_18 : decode cX10_shut 18 = .ok (.iconst 0, 1) := by decide +kernel
theorem dX10_shut_19 : decode cX10_shut 19 = .ok (.istore_n 2, 1) := by decide +kernel
theorem dX10_shut_20 : decode cX10_shut 20 = .ok (.iconst 0, 1) := by decide +kernel
theorem dX10_shut_21 : decode cX10_shut 21 = .ok (.istore_n 3, 1) := by decide +kernel
theorem dX10_shut_10 : decode cX10_shut 10 = .ok (.bipush (-2), 2) := by decide +kernel
theorem dX10_shut_12 : decode cX10_shut 12 = .ok (.ireturn, 1) := by decide +kernel
def FX10_shut_47 (k22 : Int → Int → Mm → Option (Int × Mm)) (x2 : Int) (x3 : Int) (f : Mm) : Option (Int × Mm) := k22 x2 (w32 (x3 + 1)) f
set_option maxHeartbeats 4000000 in
set_option maxRecDepth 100000 in
theorem SX10_shut_47 {G : GT} {l : Launch} {Q : Option AV → Mem → Prop} {k22 : Int → Int → Mm → Option (Int × Mm)} (q22 : ∀ (x2 : Int) (x3 : Int) (f : Mm), OkI Q (k22 x2 x3 f) → Ev G l MX10_shut (Rm 6 0 0) (ZM G Q 0 0) 0 0 22 [some (vR 0), some (vR 48), some (vI x2), some (vI x3)] [] (SH, RF, f)) (x2 : Int) (x3 : Int) (f : Mm) (h : OkI Q (FX10_shut_47 k22 x2 x3 f)) : Ev G l MX10_shut (Rm 6 0 0) (ZM G Q 0 0) 0 0 47 [some (vR 0), some (vR 48), some (vI x2), some (vI x3)] [] (SH, RF, f) := by
  unfold FX10_shut_47 at h
  refine ev_iinc (L' := [some (vR 0), some (vR 48), some (vI x2), some (vI (w32 (x3 + 1)))]) dX10_shut_47 rfl (by decide) rfl ?_
  refine ev_goto (tgt := 22) dX10_shut_50 (by decide) ?_
  exact q22 x2 (w32 (x3 + 1)) _ h
def FX10_shut_22  : Nat → Int → Int → Mm → Option (Int × Mm)
  | 0, _, _, _ => none
  | n + 1, x2, x3, f => (if (f 4 1) ≤ x3 then some (x2, f) else (b2 (FX1_widthOn x3 f) fun y1 f1 => (if y1 = 0 then FX10_shut_47 (FX10_shut_22 n) (bOr x2 (bShl 1 x3)) x3 f1 else FX10_shut_47 (FX10_shut_22 n) x2 x3 f1)))
set_option maxHeartbeats 4000000 in
set_option maxRecDepth 100000 in
theorem SX10_shut_22 {G : GT} {l : Launch} {Q : Option AV → Mem → Prop}  : ∀ (n : Nat) (x2 : Int) (x3 : Int) (f : Mm), OkI Q (FX10_shut_22  n x2 x3 f) → Ev G l MX10_shut (Rm 6 0 0) (ZM G Q 0 0) 0 0 22 [some (vR 0), some (vR 48), some (vI x2), some (vI x3)] [] (SH, RF, f) := by
  intro n
  induction n with
  | zero => intro x2 x3 f h; exact absurd h (by rw [FX10_shut_22]; exact fun q => q)
  | succ n ih =>
    intro x2 x3 f h
    rw [FX10_shut_22] at h
    refine ev_iload_n (i := 3) dX10_shut_22 rfl rfl ?_
    refine ev_aload_n (i := 0) dX10_shut_23 rfl rfl ?_
    refine ev_getR dX10_shut_24 fl_X10_19 sh_0 (by decide) (by decide) rf_0_1 ?_
    refine ex_getI (x := (f 4 1)) dX10_shut_27 fl_X10_144 sh_4 (by decide) (by decide) rfl ?_
    refine ev_icmp_ge (tgt := 53) dX10_shut_30 (by decide) (fun c3 => ?_) (fun c3 => ?_)
    · rw [if_pos c3] at h
      refine ev_iload_n (i := 2) dX10_shut_53 rfl rfl ?_
      exact ev_iret rfl dX10_shut_54 h
    · rw [if_neg c3] at h
      refine ev_aload_n (i := 1) dX10_shut_33 rfl rfl ?_
      refine ev_iload_n (i := 3) dX10_shut_34 rfl rfl ?_
      refine ev_cVI (b := 48) (av := [vI x3]) (S := []) (fun q => q) h dX10_shut_35 (fun Q' q => TX1_widthOn x3 _ q) kvX1_widthOn ml_X10_136 sh_48 rfl (RRc (by decide) (by decide)) (Nat.le_of_ble_eq_true rfl) ⟨Nat.le_of_ble_eq_true rfl, Nat.le_of_ble_eq_true rfl⟩ (fun y1 f1 h => ?_)
      refine ev_if_ne (tgt := 47) dX10_shut_38 (by decide) (fun c2 => ?_) (fun c2 => ?_)
      · rw [if_neg c2] at h
        exact SX10_shut_47 ih x2 x3 _ h
      · rw [if_pos c2] at h
        refine ev_iload_n (i := 2) dX10_shut_41 rfl rfl ?_
        refine ev_iconst dX10_shut_42 (r32c rfl) ?_
        refine ev_iload_n (i := 3) dX10_shut_43 rfl rfl ?_
        refine ev_ishl dX10_shut_44 ?_
        refine ev_ior dX10_shut_45 ?_
        refine ev_istore_n (i := 2) (L' := [some (vR 0), some (vR 48), some (vI (bOr x2 (bShl 1 x3))), some (vI x3)]) dX10_shut_46 rfl (by decide) rfl ?_
        exact SX10_shut_47 ih (bOr x2 (bShl 1 x3)) x3 _ h
def FX10_shut_0   (f : Mm) : Option (Int × Mm) := (b2 (FX0_stands_4 f) fun y1 f1 => (if y1 = 0 then some ((-2), f1) else ((FX10_asNow f1).bind fun f2 => FX10_shut_22 fu 0 0 f2)))
set_option maxHeartbeats 4000000 in
set_option maxRecDepth 100000 in
theorem SX10_shut_0 {G : GT} {l : Launch} {Q : Option AV → Mem → Prop}   (f : Mm) (h : OkI Q (FX10_shut_0   f)) : Ev G l MX10_shut (Rm 6 0 0) (ZM G Q 0 0) 0 0 0 [some (vR 0), none, none, none] [] (SH, RF, f) := by
  unfold FX10_shut_0 at h
  refine ev_aload_n (i := 0) dX10_shut_0 rfl rfl ?_
  refine ev_getR dX10_shut_1 fl_X10_19 sh_0 (by decide) (by decide) rf_0_1 ?_
  refine ev_cVI (b := 4) (av := []) (S := []) (fun q => q) h dX10_shut_4 (fun Q' q => TX0_stands_4 _ q) kvX0_stands ml_X10_140 sh_4 rfl (RRc (by decide) (by decide)) (Nat.le_of_ble_eq_true rfl) ⟨Nat.le_of_ble_eq_true rfl, Nat.le_of_ble_eq_true rfl⟩ (fun y1 f1 h => ?_)
  refine ev_if_ne (tgt := 13) dX10_shut_7 (by decide) (fun c3 => ?_) (fun c3 => ?_)
  · rw [if_neg c3] at h
    refine ev_aload_n (i := 0) dX10_shut_13 rfl rfl ?_
    refine ev_cVC (b := 0) (av := []) (S := []) (fun q => q) h dX10_shut_14 (fun Q' q => TX10_asNow _ q) kvX10_asNow ml_X10_129 sh_0 rfl (RRc (by decide) (by decide)) (Nat.le_of_ble_eq_true rfl) ⟨Nat.le_of_ble_eq_true rfl, Nat.le_of_ble_eq_true rfl⟩ (fun f2 h => ?_)
    refine ev_astore_n (i := 1) (L' := [some (vR 0), some (vR 48), none, none]) dX10_shut_17 rfl (by decide) rfl ?_
    refine ev_iconst dX10_shut_18 (r32c rfl) ?_
    refine ev_istore_n (i := 2) (L' := [some (vR 0), some (vR 48), some (vI 0), none]) dX10_shut_19 rfl (by decide) rfl ?_
    refine ev_iconst dX10_shut_20 (r32c rfl) ?_
    refine ev_istore_n (i := 3) (L' := [some (vR 0), some (vR 48), some (vI 0), some (vI 0)]) dX10_shut_21 rfl (by decide) rfl ?_
    exact SX10_shut_22  fu 0 0 _ h
  · rw [if_pos c3] at h
    refine ev_bipush (v := (-2)) dX10_shut_10 (r32c rfl) (by decide) ?_
    exact ev_iret rfl dX10_shut_12 h
def FX10_shut  (f : Mm) : Option (Int × Mm) := FX10_shut_0  f
set_option maxRecDepth 100000 in
theorem TX10_shut {G : GT} {l : Launch} {Q : Option AV → Mem → Prop}  (f : Mm) (h : OkI Q (FX10_shut  f)) : Ret G l MX10_shut (6) 0 0 [vR 0] (SH, RF, f) Q := by
  refine ret_of (L := [some (vR 0), none, none, none]) (by decide) rfl (Nat.le_of_ble_eq_true rfl) ?_
  exact SX10_shut_0  f h
theorem dX1_dayOf_2 : decode cX1_dayOf 2 = .ok (.iload_n 3, 1) := by decide +kernel
theorem dX1_dayOf_3 : decode cX1_dayOf 3 = .ok (.aload_n 1, 1) := by decide +kernel
theorem dX1_dayOf_4 : decode cX1_dayOf 4 = .ok (.getfield 51, 3) := by decide +kernel
theorem dX1_dayOf_7 : decode cX1_dayOf 7 = .ok (.if_icmp .ge 26, 3) := by decide +kernel
theorem dX1_dayOf_33 : decode cX1_dayOf 33 = .ok (.iconst (-1), 1) := by decide +kernel
theorem dX1_dayOf_34 : decode cX1_dayOf 34 = .ok (.ireturn, 1) := by decide +kernel
theorem dX1_dayOf_10 : decode cX1_dayOf 10 = .ok (.aload_n 0, 1) := by decide +kernel
theorem dX1_dayOf_11 : decode cX1_dayOf 11 = .ok (.getfield 26, 3) := by decide +kernel
theorem dX1_dayOf_14 : decode cX1_dayOf 14 = .ok (.iload_n 3, 1) := by decide +kernel
theorem dX1_dayOf_15 : decode cX1_dayOf 15 = .ok (.iconst 1, 1) := by decide +kernel
theorem dX1_dayOf_16 : decode cX1_dayOf 16 = .ok (.iadd, 1) := by decide +kernel
theorem dX1_dayOf_17 : decode cX1_dayOf 17 = .ok (.iaload, 1) := by decide +kernel
theorem dX1_dayOf_18 : decode cX1_dayOf 18 = .ok (.iload_n 2, 1) := by decide +kernel
theorem dX1_dayOf_19 : decode cX1_dayOf 19 = .ok (.invokestatic 74, 3) := by decide +kernel
theorem dX1_dayOf_22 : decode cX1_dayOf 22 = .ok (.ifCond .eq 5, 3) := by decide +kernel
theorem dX1_dayOf_27 : decode cX1_dayOf 27 = .ok (.iinc 3 1, 3) := by decide +kernel
theorem dX1_dayOf_30 : decode cX1_dayOf 30 = .ok (.goto (-28), 3) := by decide +kernel
theorem dX1_dayOf_25 : decode cX1_dayOf 25 = .ok (.iload_n 3, 1) := by decide +kernel
theorem dX1_dayOf_26 : decode cX1_dayOf 26 = .ok (.ireturn, 1) := by decide +kernel
theorem dX1_dayOf_0 : decode cX1_dayOf 0 = .ok (.iconst 0, 1) := by decide +kernel
theorem dX1_dayOf_1 : decode cX1_dayOf 1 = .ok (.istore_n 3, 1) := by decide +kernel
def FX1_dayOf_48_4_2  : Nat → Int → Int → Mm → Option (Int × Mm)
  | 0, _, _, _ => none
  | n + 1, x2, x3, f => (if (f 4 1) ≤ x3 then some ((-1), f) else (if 0 ≤ (w32 (x3 + 1)) ∧ (w32 (x3 + 1)) < 7 then (b2 (FX10_holds (f 55 (w32 (x3 + 1)).toNat) x2 f) fun y2 f2 => (if y2 = 0 then FX1_dayOf_48_4_2 n x2 (w32 (x3 + 1)) f2 else some (x3, f2))) else none))
set_option maxHeartbeats 4000000 in
set_option maxRecDepth 100000 in
theorem SX1_dayOf_48_4_2 {G : GT} {l : Launch} {Q : Option AV → Mem → Prop}  : ∀ (n : Nat) (x2 : Int) (x3 : Int) (f : Mm), OkI Q (FX1_dayOf_48_4_2  n x2 x3 f) → Ev G l MX1_dayOf (Rm 2 0 0) (ZM G Q 0 0) 0 0 2 [some (vR 48), some (vR 4), some (vI x2), some (vI x3)] [] (SH, RF, f) := by
  intro n
  induction n with
  | zero => intro x2 x3 f h; exact absurd h (by rw [FX1_dayOf_48_4_2]; exact fun q => q)
  | succ n ih =>
    intro x2 x3 f h
    rw [FX1_dayOf_48_4_2] at h
    refine ev_iload_n (i := 3) dX1_dayOf_2 rfl rfl ?_
    refine ev_aload_n (i := 1) dX1_dayOf_3 rfl rfl ?_
    refine ex_getI (x := (f 4 1)) dX1_dayOf_4 fl_X1_51 sh_4 (by decide) (by decide) rfl ?_
    refine ev_icmp_ge (tgt := 33) dX1_dayOf_7 (by decide) (fun c4 => ?_) (fun c4 => ?_)
    · rw [if_pos c4] at h
      refine ev_iconst dX1_dayOf_33 (r32c rfl) ?_
      exact ev_iret rfl dX1_dayOf_34 h
    · rw [if_neg c4] at h
      refine ev_aload_n (i := 0) dX1_dayOf_10 rfl rfl ?_
      refine ev_getR dX1_dayOf_11 fl_X1_26 sh_48 (by decide) (by decide) rf_48_8 ?_
      refine ev_iload_n (i := 3) dX1_dayOf_14 rfl rfl ?_
      refine ev_iconst dX1_dayOf_15 (r32c rfl) ?_
      refine ev_iadd dX1_dayOf_16 ?_
      by_cases g1 : 0 ≤ (w32 (x3 + 1)) ∧ (w32 (x3 + 1)) < 7
      · rw [if_pos g1] at h
        refine ex_iald (x := (f 55 (w32 (x3 + 1)).toNat)) dX1_dayOf_17 sh_55 g1.1 g1.2 rfl ?_
        refine ev_iload_n (i := 2) dX1_dayOf_18 rfl rfl ?_
        refine ev_cNI (av := [vI (f 55 (w32 (x3 + 1)).toNat), vI x2]) (S := []) (fun q => q) h dX1_dayOf_19 (fun Q' q => TX10_holds (f 55 (w32 (x3 + 1)).toNat) x2 _ q) ksX10_holds nw_X1_74 rfl (RRc (by decide) (by decide)) (Nat.le_of_ble_eq_true rfl) ⟨Nat.le_of_ble_eq_true rfl, Nat.le_of_ble_eq_true rfl⟩ (fun y2 f2 h => ?_)
        refine ev_if_eq (tgt := 27) dX1_dayOf_22 (by decide) (fun c3 => ?_) (fun c3 => ?_)
        · rw [if_pos c3] at h
          refine ev_iinc (L' := [some (vR 48), some (vR 4), some (vI x2), some (vI (w32 (x3 + 1)))]) dX1_dayOf_27 rfl (by decide) rfl ?_
          refine ev_goto (tgt := 2) dX1_dayOf_30 (by decide) ?_
          exact ih x2 (w32 (x3 + 1)) _ h
        · rw [if_neg c3] at h
          refine ev_iload_n (i := 3) dX1_dayOf_25 rfl rfl ?_
          exact ev_iret rfl dX1_dayOf_26 h
      · rw [if_neg g1] at h; exact h.elim
def FX1_dayOf_48_4_0  (x2 : Int) (f : Mm) : Option (Int × Mm) := FX1_dayOf_48_4_2 fu x2 0 f
set_option maxHeartbeats 4000000 in
set_option maxRecDepth 100000 in
theorem SX1_dayOf_48_4_0 {G : GT} {l : Launch} {Q : Option AV → Mem → Prop}  (x2 : Int) (f : Mm) (h : OkI Q (FX1_dayOf_48_4_0  x2 f)) : Ev G l MX1_dayOf (Rm 2 0 0) (ZM G Q 0 0) 0 0 0 [some (vR 48), some (vR 4), some (vI x2), none] [] (SH, RF, f) := by
  unfold FX1_dayOf_48_4_0 at h
  refine ev_iconst dX1_dayOf_0 (r32c rfl) ?_
  refine ev_istore_n (i := 3) (L' := [some (vR 48), some (vR 4), some (vI x2), some (vI 0)]) dX1_dayOf_1 rfl (by decide) rfl ?_
  exact SX1_dayOf_48_4_2  fu x2 0 _ h
def FX1_dayOf_48_4 (x2 : Int) (f : Mm) : Option (Int × Mm) := FX1_dayOf_48_4_0 x2 f
set_option maxRecDepth 100000 in
theorem TX1_dayOf_48_4 {G : GT} {l : Launch} {Q : Option AV → Mem → Prop} (x2 : Int) (f : Mm) (h : OkI Q (FX1_dayOf_48_4 x2 f)) : Ret G l MX1_dayOf (2) 0 0 [vR 48, vR 4, vI x2] (SH, RF, f) Q := by
  refine ret_of (L := [some (vR 48), some (vR 4), some (vI x2), none]) (by decide) rfl (Nat.le_of_ble_eq_true rfl) ?_
  exact SX1_dayOf_48_4_0 x2 f h
theorem dX10_passes_0 : decode cX10_passes 0 = .ok (.aload_n 0, 1) := by decide +kernel
theorem dX10_passes_1 : decode cX10_passes 1 = .ok (.getfield 19, 3) := by decide +kernel
theorem dX10_passes_4 : decode cX10_passes 4 = .ok (.iload_n 1, 1) := by decide +kernel
theorem dX10_passes_5 : decode cX10_passes 5 = .ok (.invokevirtual 117, 3) := by decide +kernel
theorem dX10_passes_8 : decode cX10_passes 8 = .ok (.ifCond .eq 18, 3) := by decide +kernel
theorem dX10_passes_26 : decode cX10_passes 26 = .ok (.bipush (-2), 2) := by decide +kernel
theorem dX10_passes_28 : decode cX10_passes 28 = .ok (.ireturn, 1) := by decide +kernel
theorem dX10_passes_11 : decode cX10_passes 11 = .ok (.aload_n 0, 1) := by decide +kernel
theorem dX10_passes_12 : decode cX10_passes 12 = .ok (.invokevirtual 129, 3) := by decide +kernel
theorem dX10_passes_15 : decode cX10_passes 15 = .ok (.aload_n 0, 1) := by decide +kernel
theorem dX10_passes_16 : decode cX10_passes 16 = .ok (.getfield 19, 3) := by decide +kernel
theorem dX10_passes_19 : decode cX10_passes 19 = .ok (.iload_n 1, 1) := by decide +kernel
theorem dX10_passes_20 : decode cX10_passes 20 = .ok (.invokevirtual 147, 3) := by decide +kernel
theorem dX10_passes_23 : decode cX10_passes 23 = .ok (.goto 5, 3) := by decide +kernel
def FX10_passes_0  (x1 : Int) (f : Mm) : Option (Int × Mm) := (b2 (FX0_hasCart_4 x1 f) fun y1 f1 => (if y1 = 0 then some ((-2), f1) else ((FX10_asNow f1).bind fun f2 => (b2 (FX1_dayOf_48_4 x1 f2) fun y3 f3 => some (y3, f3)))))
set_option maxHeartbeats 4000000 in
set_option maxRecDepth 100000 in
theorem SX10_passes_0 {G : GT} {l : Launch} {Q : Option AV → Mem → Prop}  (x1 : Int) (f : Mm) (h : OkI Q (FX10_passes_0  x1 f)) : Ev G l MX10_passes (Rm 6 0 0) (ZM G Q 0 0) 0 0 0 [some (vR 0), some (vI x1)] [] (SH, RF, f) := by
  unfold FX10_passes_0 at h
  refine ev_aload_n (i := 0) dX10_passes_0 rfl rfl ?_
  refine ev_getR dX10_passes_1 fl_X10_19 sh_0 (by decide) (by decide) rf_0_1 ?_
  refine ev_iload_n (i := 1) dX10_passes_4 rfl rfl ?_
  refine ev_cVI (b := 4) (av := [vI x1]) (S := []) (fun q => q) h dX10_passes_5 (fun Q' q => TX0_hasCart_4 x1 _ q) kvX0_hasCart ml_X10_117 sh_4 rfl (RRc (by decide) (by decide)) (Nat.le_of_ble_eq_true rfl) ⟨Nat.le_of_ble_eq_true rfl, Nat.le_of_ble_eq_true rfl⟩ (fun y1 f1 h => ?_)
  refine ev_if_eq (tgt := 26) dX10_passes_8 (by decide) (fun c4 => ?_) (fun c4 => ?_)
  · rw [if_pos c4] at h
    refine ev_bipush (v := (-2)) dX10_passes_26 (r32c rfl) (by decide) ?_
    exact ev_iret rfl dX10_passes_28 h
  · rw [if_neg c4] at h
    refine ev_aload_n (i := 0) dX10_passes_11 rfl rfl ?_
    refine ev_cVC (b := 0) (av := []) (S := []) (fun q => q) h dX10_passes_12 (fun Q' q => TX10_asNow _ q) kvX10_asNow ml_X10_129 sh_0 rfl (RRc (by decide) (by decide)) (Nat.le_of_ble_eq_true rfl) ⟨Nat.le_of_ble_eq_true rfl, Nat.le_of_ble_eq_true rfl⟩ (fun f2 h => ?_)
    refine ev_aload_n (i := 0) dX10_passes_15 rfl rfl ?_
    refine ev_getR dX10_passes_16 fl_X10_19 sh_0 (by decide) (by decide) rf_0_1 ?_
    refine ev_iload_n (i := 1) dX10_passes_19 rfl rfl ?_
    refine ev_cVI (b := 48) (av := [vR 4, vI x1]) (S := []) (fun q => q) h dX10_passes_20 (fun Q' q => TX1_dayOf_48_4 x1 _ q) kvX1_dayOf ml_X10_147 sh_48 rfl (RRc (by decide) (by decide)) (Nat.le_of_ble_eq_true rfl) ⟨Nat.le_of_ble_eq_true rfl, Nat.le_of_ble_eq_true rfl⟩ (fun y3 f3 h => ?_)
    refine ev_goto (tgt := 28) dX10_passes_23 (by decide) ?_
    exact ev_iret rfl dX10_passes_28 h
def FX10_passes (x1 : Int) (f : Mm) : Option (Int × Mm) := FX10_passes_0 x1 f
set_option maxRecDepth 100000 in
theorem TX10_passes {G : GT} {l : Launch} {Q : Option AV → Mem → Prop} (x1 : Int) (f : Mm) (h : OkI Q (FX10_passes x1 f)) : Ret G l MX10_passes (6) 0 0 [vR 0, vI x1] (SH, RF, f) Q := by
  refine ret_of (L := [some (vR 0), some (vI x1)]) (by decide) rfl (Nat.le_of_ble_eq_true rfl) ?_
  exact SX10_passes_0 x1 f h
theorem dX1_passedOn_0 : decode cX1_passedOn 0 = .ok (.aload_n 0, 1) := by decide +kernel
theorem dX1_passedOn_1 : decode cX1_passedOn 1 = .ok (.getfield 26, 3) := by decide +kernel
theorem dX1_passedOn_4 : decode cX1_passedOn 4 = .ok (.iload_n 1, 1) := by decide +kernel
theorem dX1_passedOn_5 : decode cX1_passedOn 5 = .ok (.iconst 1, 1) := by decide +kernel
theorem dX1_passedOn_6 : decode cX1_passedOn 6 = .ok (.iadd, 1) := by decide +kernel
theorem dX1_passedOn_7 : decode cX1_passedOn 7 = .ok (.iaload, 1) := by decide +kernel
theorem dX1_passedOn_8 : decode cX1_passedOn 8 = .ok (.aload_n 0, 1) := by decide +kernel
theorem dX1_passedOn_9 : decode cX1_passedOn 9 = .ok (.getfield 26, 3) := by decide +kernel
theorem dX1_passedOn_12 : decode cX1_passedOn 12 = .ok (.iload_n 1, 1) := by decide +kernel
theorem dX1_passedOn_13 : decode cX1_passedOn 13 = .ok (.iaload, 1) := by decide +kernel
theorem dX1_passedOn_14 : decode cX1_passedOn 14 = .ok (.iconst (-1), 1) := by decide +kernel
theorem dX1_passedOn_15 : decode cX1_passedOn 15 = .ok (.ixor, 1) := by decide +kernel
theorem dX1_passedOn_16 : decode cX1_passedOn 16 = .ok (.iand, 1) := by decide +kernel
theorem dX1_passedOn_17 : decode cX1_passedOn 17 = .ok (.ireturn, 1) := by decide +kernel
def FX1_passedOn_0  (x1 : Int) (f : Mm) : Option (Int × Mm) := (if 0 ≤ (w32 (x1 + 1)) ∧ (w32 (x1 + 1)) < 7 then (if 0 ≤ x1 ∧ x1 < 7 then some ((bAnd (f 55 (w32 (x1 + 1)).toNat) (bXor (f 55 x1.toNat) (-1))), f) else none) else none)
set_option maxHeartbeats 4000000 in
set_option maxRecDepth 100000 in
theorem SX1_passedOn_0 {G : GT} {l : Launch} {Q : Option AV → Mem → Prop}  (x1 : Int) (f : Mm) (h : OkI Q (FX1_passedOn_0  x1 f)) : Ev G l MX1_passedOn (Rm 1 0 0) (ZM G Q 0 0) 0 0 0 [some (vR 48), some (vI x1)] [] (SH, RF, f) := by
  unfold FX1_passedOn_0 at h
  refine ev_aload_n (i := 0) dX1_passedOn_0 rfl rfl ?_
  refine ev_getR dX1_passedOn_1 fl_X1_26 sh_48 (by decide) (by decide) rf_48_8 ?_
  refine ev_iload_n (i := 1) dX1_passedOn_4 rfl rfl ?_
  refine ev_iconst dX1_passedOn_5 (r32c rfl) ?_
  refine ev_iadd dX1_passedOn_6 ?_
  by_cases g1 : 0 ≤ (w32 (x1 + 1)) ∧ (w32 (x1 + 1)) < 7
  · rw [if_pos g1] at h
    refine ex_iald (x := (f 55 (w32 (x1 + 1)).toNat)) dX1_passedOn_7 sh_55 g1.1 g1.2 rfl ?_
    refine ev_aload_n (i := 0) dX1_passedOn_8 rfl rfl ?_
    refine ev_getR dX1_passedOn_9 fl_X1_26 sh_48 (by decide) (by decide) rf_48_8 ?_
    refine ev_iload_n (i := 1) dX1_passedOn_12 rfl rfl ?_
    by_cases g2 : 0 ≤ x1 ∧ x1 < 7
    · rw [if_pos g2] at h
      refine ex_iald (x := (f 55 x1.toNat)) dX1_passedOn_13 sh_55 g2.1 g2.2 rfl ?_
      refine ev_iconst dX1_passedOn_14 (r32c rfl) ?_
      refine ev_ixor dX1_passedOn_15 ?_
      refine ev_iand dX1_passedOn_16 ?_
      exact ev_iret rfl dX1_passedOn_17 h
    · rw [if_neg g2] at h; exact h.elim
  · rw [if_neg g1] at h; exact h.elim
def FX1_passedOn (x1 : Int) (f : Mm) : Option (Int × Mm) := FX1_passedOn_0 x1 f
set_option maxRecDepth 100000 in
theorem TX1_passedOn {G : GT} {l : Launch} {Q : Option AV → Mem → Prop} (x1 : Int) (f : Mm) (h : OkI Q (FX1_passedOn x1 f)) : Ret G l MX1_passedOn (1) 0 0 [vR 48, vI x1] (SH, RF, f) Q := by
  refine ret_of (L := [some (vR 48), some (vI x1)]) (by decide) rfl (Nat.le_of_ble_eq_true rfl) ?_
  exact SX1_passedOn_0 x1 f h
theorem dX10_over_0 : decode cX10_over 0 = .ok (.aload_n 0, 1) := by decide +kernel
theorem dX10_over_1 : decode cX10_over 1 = .ok (.getfield 19, 3) := by decide +kernel
theorem dX10_over_4 : decode cX10_over 4 = .ok (.iload_n 1, 1) := by decide +kernel
theorem dX10_over_5 : decode cX10_over 5 = .ok (.invokevirtual 126, 3) := by decide +kernel
theorem dX10_over_8 : decode cX10_over 8 = .ok (.ifCond .eq 14, 3) := by decide +kernel
theorem dX10_over_22 : decode cX10_over 22 = .ok (.bipush (-2), 2) := by decide +kernel
theorem dX10_over_24 : decode cX10_over 24 = .ok (.ireturn, 1) := by decide +kernel
theorem dX10_over_11 : decode cX10_over 11 = .ok (.aload_n 0, 1) := by decide +kernel
theorem dX10_over_12 : decode cX10_over 12 = .ok (.invokevirtual 129, 3) := by decide +kernel
theorem dX10_over_15 : decode cX10_over 15 = .ok (.iload_n 1, 1) := by decide +kernel
theorem dX10_over_16 : decode cX10_over 16 = .ok (.invokevirtual 151, 3) := by decide +kernel
theorem dX10_over_19 : decode cX10_over 19 = .ok (.goto 5, 3) := by decide +kernel
def FX10_over_0  (x1 : Int) (f : Mm) : Option (Int × Mm) := (b2 (FX0_hasDay_4 x1 f) fun y1 f1 => (if y1 = 0 then some ((-2), f1) else ((FX10_asNow f1).bind fun f2 => (b2 (FX1_passedOn x1 f2) fun y3 f3 => some (y3, f3)))))
set_option maxHeartbeats 4000000 in
set_option maxRecDepth 100000 in
theorem SX10_over_0 {G : GT} {l : Launch} {Q : Option AV → Mem → Prop}  (x1 : Int) (f : Mm) (h : OkI Q (FX10_over_0  x1 f)) : Ev G l MX10_over (Rm 6 0 0) (ZM G Q 0 0) 0 0 0 [some (vR 0), some (vI x1)] [] (SH, RF, f) := by
  unfold FX10_over_0 at h
  refine ev_aload_n (i := 0) dX10_over_0 rfl rfl ?_
  refine ev_getR dX10_over_1 fl_X10_19 sh_0 (by decide) (by decide) rf_0_1 ?_
  refine ev_iload_n (i := 1) dX10_over_4 rfl rfl ?_
  refine ev_cVI (b := 4) (av := [vI x1]) (S := []) (fun q => q) h dX10_over_5 (fun Q' q => TX0_hasDay_4 x1 _ q) kvX0_hasDay ml_X10_126 sh_4 rfl (RRc (by decide) (by decide)) (Nat.le_of_ble_eq_true rfl) ⟨Nat.le_of_ble_eq_true rfl, Nat.le_of_ble_eq_true rfl⟩ (fun y1 f1 h => ?_)
  refine ev_if_eq (tgt := 22) dX10_over_8 (by decide) (fun c4 => ?_) (fun c4 => ?_)
  · rw [if_pos c4] at h
    refine ev_bipush (v := (-2)) dX10_over_22 (r32c rfl) (by decide) ?_
    exact ev_iret rfl dX10_over_24 h
  · rw [if_neg c4] at h
    refine ev_aload_n (i := 0) dX10_over_11 rfl rfl ?_
    refine ev_cVC (b := 0) (av := []) (S := []) (fun q => q) h dX10_over_12 (fun Q' q => TX10_asNow _ q) kvX10_asNow ml_X10_129 sh_0 rfl (RRc (by decide) (by decide)) (Nat.le_of_ble_eq_true rfl) ⟨Nat.le_of_ble_eq_true rfl, Nat.le_of_ble_eq_true rfl⟩ (fun f2 h => ?_)
    refine ev_iload_n (i := 1) dX10_over_15 rfl rfl ?_
    refine ev_cVI (b := 48) (av := [vI x1]) (S := []) (fun q => q) h dX10_over_16 (fun Q' q => TX1_passedOn x1 _ q) kvX1_passedOn ml_X10_151 sh_48 rfl (RRc (by decide) (by decide)) (Nat.le_of_ble_eq_true rfl) ⟨Nat.le_of_ble_eq_true rfl, Nat.le_of_ble_eq_true rfl⟩ (fun y3 f3 h => ?_)
    refine ev_goto (tgt := 24) dX10_over_19 (by decide) ?_
    exact ev_iret rfl dX10_over_24 h
def FX10_over (x1 : Int) (f : Mm) : Option (Int × Mm) := FX10_over_0 x1 f
set_option maxRecDepth 100000 in
theorem TX10_over {G : GT} {l : Launch} {Q : Option AV → Mem → Prop} (x1 : Int) (f : Mm) (h : OkI Q (FX10_over x1 f)) : Ret G l MX10_over (6) 0 0 [vR 0, vI x1] (SH, RF, f) Q := by
  refine ret_of (L := [some (vR 0), some (vI x1)]) (by decide) rfl (Nat.le_of_ble_eq_true rfl) ?_
  exact SX10_over_0 x1 f h
theorem dX1_waitingOn_50 : decode cX1_waitingOn 50 = .ok (.iinc 4 1, 3) := by decide +kernel
theorem dX1_waitingOn_53 : decode cX1_waitingOn 53 = .ok (.goto (-48), 3) := by decide +kernel
theorem dX1_waitingOn_5 : decode cX1_waitingOn 5 = .ok (.iload 4, 2) := by decide +kernel
theorem dX1_waitingOn_7 : decode cX1_waitingOn 7 = .ok (.aload_n 1, 1) := by decide +kernel
theorem dX1_waitingOn_8 : decode cX1_waitingOn 8 = .ok (.getfield 92, 3) := by decide +kernel
theorem dX1_waitingOn_11 : decode cX1_waitingOn 11 = .ok (.if_icmp .ge 45, 3) := by decide +kernel
theorem dX1_waitingOn_56 : decode cX1_waitingOn 56 = .ok (.iload_n 3, 1) := by decide +kernel
theorem dX1_waitingOn_57 : decode cX1_waitingOn 57 = .ok (.ireturn, 1) := by decide +kernel
theorem dX1_waitingOn_14 : decode cX1_waitingOn 14 = .ok (.aload_n 1, 1) := by decide +kernel
theorem dX1_waitingOn_15 : decode cX1_waitingOn 15 = .ok (.getfield 95, 3) := by decide +kernel
theorem dX1_waitingOn_18 : decode cX1_waitingOn 18 = .ok (.iload 4, 2) := by decide +kernel
theorem dX1_waitingOn_20 : decode cX1_waitingOn 20 = .ok (.aaload, 1) := by decide +kernel
theorem dX1_waitingOn_21 : decode cX1_waitingOn 21 = .ok (.iconst 2, 1) := by decide +kernel
theorem dX1_waitingOn_22 : decode cX1_waitingOn 22 = .ok (.iaload, 1) := by decide +kernel
theorem dX1_waitingOn_23 : decode cX1_waitingOn 23 = .ok (.iload_n 2, 1) := by decide +kernel
theorem dX1_waitingOn_24 : decode cX1_waitingOn 24 = .ok (.if_icmp .gt 26, 3) := by decide +kernel
theorem dX1_waitingOn_27 : decode cX1_waitingOn 27 = .ok (.aload_n 0, 1) := by decide +kernel
theorem dX1_waitingOn_28 : decode cX1_waitingOn 28 = .ok (.getfield 26, 3) := by decide +kernel
theorem dX1_waitingOn_31 : decode cX1_waitingOn 31 = .ok (.iload_n 2, 1) := by decide +kernel
theorem dX1_waitingOn_32 : decode cX1_waitingOn 32 = .ok (.iconst 1, 1) := by decide +kernel
theorem dX1_waitingOn_33 : decode cX1_waitingOn 33 = .ok (.iadd, 1) := by decide +kernel
theorem dX1_waitingOn_34 : decode cX1_waitingOn 34 = .ok (.iaload, 1) := by decide +kernel
theorem dX1_waitingOn_35 : decode cX1_waitingOn 35 = .ok (.iload 4, 2) := by decide +kernel
theorem dX1_waitingOn_37 : decode cX1_waitingOn 37 = .ok (.invokestatic 74, 3) := by decide +kernel
theorem dX1_waitingOn_40 : decode cX1_waitingOn 40 = .ok (.ifCond .ne 10, 3) := by decide +kernel
theorem dX1_waitingOn_43 : decode cX1_waitingOn 43 = .ok (.iload_n 3, 1) := by decide +kernel
theorem dX1_waitingOn_44 : decode cX1_waitingOn 44 = .ok (.iconst 1, 1) := by decide +kernel
theorem dX1_waitingOn_45 : decode cX1_waitingOn 45 = .ok (.iload 4, 2) := by decide +kernel
theorem dX1_waitingOn_47 : decode cX1_waitingOn 47 = .ok (.ishl, 1) := by decide +kernel
theorem dX1_waitingOn_48 : decode cX1_waitingOn 48 = .ok (.ior, 1) := by decide +kernel
theorem dX1_waitingOn_49 : decode cX1_waitingOn 49 = .ok (.istore_n 3, 1) := by decide +kernel
theorem dX1_waitingOn_0 : decode cX1_waitingOn 0 = .ok (.iconst 0, 1) := by decide +kernel
theorem dX1_waitingOn_1 : decode cX1_waitingOn 1 = .ok (.istore_n 3, 1) := by decide +kernel
theorem dX1_waitingOn_2 : decode cX1_waitingOn 2 = .ok (.iconst 0, 1) := by decide +kernel
theorem dX1_waitingOn_3 : decode cX1_waitingOn 3 = .ok (.istore 4, 2) := by decide +kernel
def FX1_waitingOn_48_4_50 (k5 : Int → Int → Int → Mm → Option (Int × Mm)) (x2 : Int) (x3 : Int) (x4 : Int) (f : Mm) : Option (Int × Mm) := k5 x2 x3 (w32 (x4 + 1)) f
set_option maxHeartbeats 4000000 in
set_option maxRecDepth 100000 in
theorem SX1_waitingOn_48_4_50 {G : GT} {l : Launch} {Q : Option AV → Mem → Prop} {k5 : Int → Int → Int → Mm → Option (Int × Mm)} (q5 : ∀ (x2 : Int) (x3 : Int) (x4 : Int) (f : Mm), OkI Q (k5 x2 x3 x4 f) → Ev G l MX1_waitingOn (Rm 2 0 0) (ZM G Q 0 0) 0 0 5 [some (vR 48), some (vR 4), some (vI x2), some (vI x3), some (vI x4)] [] (SH, RF, f)) (x2 : Int) (x3 : Int) (x4 : Int) (f : Mm) (h : OkI Q (FX1_waitingOn_48_4_50 k5 x2 x3 x4 f)) : Ev G l MX1_waitingOn (Rm 2 0 0) (ZM G Q 0 0) 0 0 50 [some (vR 48), some (vR 4), some (vI x2), some (vI x3), some (vI x4)] [] (SH, RF, f) := by
  unfold FX1_waitingOn_48_4_50 at h
  refine ev_iinc (L' := [some (vR 48), some (vR 4), some (vI x2), some (vI x3), some (vI (w32 (x4 + 1)))]) dX1_waitingOn_50 rfl (by decide) rfl ?_
  refine ev_goto (tgt := 5) dX1_waitingOn_53 (by decide) ?_
  exact q5 x2 x3 (w32 (x4 + 1)) _ h
def FX1_waitingOn_48_4_5  : Nat → Int → Int → Int → Mm → Option (Int × Mm)
  | 0, _, _, _, _ => none
  | n + 1, x2, x3, x4, f => (if (f 4 5) ≤ x4 then some (x3, f) else (if 0 ≤ x4 ∧ x4 < 6 then (if x2 < (f (12 + x4.toNat) 2) then FX1_waitingOn_48_4_50 (FX1_waitingOn_48_4_5 n) x2 x3 x4 f else (if 0 ≤ (w32 (x2 + 1)) ∧ (w32 (x2 + 1)) < 7 then (b2 (FX10_holds (f 55 (w32 (x2 + 1)).toNat) x4 f) fun y3 f3 => (if y3 = 0 then FX1_waitingOn_48_4_50 (FX1_waitingOn_48_4_5 n) x2 (bOr x3 (bShl 1 x4)) x4 f3 else FX1_waitingOn_48_4_50 (FX1_waitingOn_48_4_5 n) x2 x3 x4 f3)) else none)) else none))
set_option maxHeartbeats 4000000 in
set_option maxRecDepth 100000 in
theorem SX1_waitingOn_48_4_5 {G : GT} {l : Launch} {Q : Option AV → Mem → Prop}  : ∀ (n : Nat) (x2 : Int) (x3 : Int) (x4 : Int) (f : Mm), OkI Q (FX1_waitingOn_48_4_5  n x2 x3 x4 f) → Ev G l MX1_waitingOn (Rm 2 0 0) (ZM G Q 0 0) 0 0 5 [some (vR 48), some (vR 4), some (vI x2), some (vI x3), some (vI x4)] [] (SH, RF, f) := by
  intro n
  induction n with
  | zero => intro x2 x3 x4 f h; exact absurd h (by rw [FX1_waitingOn_48_4_5]; exact fun q => q)
  | succ n ih =>
    intro x2 x3 x4 f h
    rw [FX1_waitingOn_48_4_5] at h
    refine ev_iload dX1_waitingOn_5 rfl ?_
    refine ev_aload_n (i := 1) dX1_waitingOn_7 rfl rfl ?_
    refine ex_getI (x := (f 4 5)) dX1_waitingOn_8 fl_X1_92 sh_4 (by decide) (by decide) rfl ?_
    refine ev_icmp_ge (tgt := 56) dX1_waitingOn_11 (by decide) (fun c6 => ?_) (fun c6 => ?_)
    · rw [if_pos c6] at h
      refine ev_iload_n (i := 3) dX1_waitingOn_56 rfl rfl ?_
      exact ev_iret rfl dX1_waitingOn_57 h
    · rw [if_neg c6] at h
      refine ev_aload_n (i := 1) dX1_waitingOn_14 rfl rfl ?_
      refine ev_getR dX1_waitingOn_15 fl_X1_95 sh_4 (by decide) (by decide) rf_4_9 ?_
      refine ev_iload dX1_waitingOn_18 rfl ?_
      by_cases g1 : 0 ≤ x4 ∧ x4 < 6
      · rw [if_pos g1] at h
        refine ev_aald (b := (12 + x4.toNat)) dX1_waitingOn_20 (Or.inl rfl) sh_11 g1.1 g1.2 (rfr_11 g1) ?_
        refine ev_iconst dX1_waitingOn_21 (r32c rfl) ?_
        refine ex_iald (x := (f (12 + x4.toNat) 2)) dX1_waitingOn_22 (shr_11 g1) (by decide) (by decide) rfl ?_
        refine ev_iload_n (i := 2) dX1_waitingOn_23 rfl rfl ?_
        refine ev_icmp_gt (tgt := 50) dX1_waitingOn_24 (by decide) (fun c5 => ?_) (fun c5 => ?_)
        · rw [if_pos c5] at h
          exact SX1_waitingOn_48_4_50 ih x2 x3 x4 _ h
        · rw [if_neg c5] at h
          refine ev_aload_n (i := 0) dX1_waitingOn_27 rfl rfl ?_
          refine ev_getR dX1_waitingOn_28 fl_X1_26 sh_48 (by decide) (by decide) rf_48_8 ?_
          refine ev_iload_n (i := 2) dX1_waitingOn_31 rfl rfl ?_
          refine ev_iconst dX1_waitingOn_32 (r32c rfl) ?_
          refine ev_iadd dX1_waitingOn_33 ?_
          by_cases g2 : 0 ≤ (w32 (x2 + 1)) ∧ (w32 (x2 + 1)) < 7
          · rw [if_pos g2] at h
            refine ex_iald (x := (f 55 (w32 (x2 + 1)).toNat)) dX1_waitingOn_34 sh_55 g2.1 g2.2 rfl ?_
            refine ev_iload dX1_waitingOn_35 rfl ?_
            refine ev_cNI (av := [vI (f 55 (w32 (x2 + 1)).toNat), vI x4]) (S := []) (fun q => q) h dX1_waitingOn_37 (fun Q' q => TX10_holds (f 55 (w32 (x2 + 1)).toNat) x4 _ q) ksX10_holds nw_X1_74 rfl (RRc (by decide) (by decide)) (Nat.le_of_ble_eq_true rfl) ⟨Nat.le_of_ble_eq_true rfl, Nat.le_of_ble_eq_true rfl⟩ (fun y3 f3 h => ?_)
            refine ev_if_ne (tgt := 50) dX1_waitingOn_40 (by decide) (fun c4 => ?_) (fun c4 => ?_)
            · rw [if_neg c4] at h
              exact SX1_waitingOn_48_4_50 ih x2 x3 x4 _ h
            · rw [if_pos c4] at h
              refine ev_iload_n (i := 3) dX1_waitingOn_43 rfl rfl ?_
              refine ev_iconst dX1_waitingOn_44 (r32c rfl) ?_
              refine ev_iload dX1_waitingOn_45 rfl ?_
              refine ev_ishl dX1_waitingOn_47 ?_
              refine ev_ior dX1_waitingOn_48 ?_
              refine ev_istore_n (i := 3) (L' := [some (vR 48), some (vR 4), some (vI x2), some (vI (bOr x3 (bShl 1 x4))), some (vI x4)]) dX1_waitingOn_49 rfl (by decide) rfl ?_
              exact SX1_waitingOn_48_4_50 ih x2 (bOr x3 (bShl 1 x4)) x4 _ h
          · rw [if_neg g2] at h; exact h.elim
      · rw [if_neg g1] at h; exact h.elim
def FX1_waitingOn_48_4_0  (x2 : Int) (f : Mm) : Option (Int × Mm) := FX1_waitingOn_48_4_5 fu x2 0 0 f
set_option maxHeartbeats 4000000 in
set_option maxRecDepth 100000 in
theorem SX1_waitingOn_48_4_0 {G : GT} {l : Launch} {Q : Option AV → Mem → Prop}  (x2 : Int) (f : Mm) (h : OkI Q (FX1_waitingOn_48_4_0  x2 f)) : Ev G l MX1_waitingOn (Rm 2 0 0) (ZM G Q 0 0) 0 0 0 [some (vR 48), some (vR 4), some (vI x2), none, none] [] (SH, RF, f) := by
  unfold FX1_waitingOn_48_4_0 at h
  refine ev_iconst dX1_waitingOn_0 (r32c rfl) ?_
  refine ev_istore_n (i := 3) (L' := [some (vR 48), some (vR 4), some (vI x2), some (vI 0), none]) dX1_waitingOn_1 rfl (by decide) rfl ?_
  refine ev_iconst dX1_waitingOn_2 (r32c rfl) ?_
  refine ev_istore (L' := [some (vR 48), some (vR 4), some (vI x2), some (vI 0), some (vI 0)]) dX1_waitingOn_3 (by decide) rfl ?_
  exact SX1_waitingOn_48_4_5  fu x2 0 0 _ h
def FX1_waitingOn_48_4 (x2 : Int) (f : Mm) : Option (Int × Mm) := FX1_waitingOn_48_4_0 x2 f
set_option maxRecDepth 100000 in
theorem TX1_waitingOn_48_4 {G : GT} {l : Launch} {Q : Option AV → Mem → Prop} (x2 : Int) (f : Mm) (h : OkI Q (FX1_waitingOn_48_4 x2 f)) : Ret G l MX1_waitingOn (2) 0 0 [vR 48, vR 4, vI x2] (SH, RF, f) Q := by
  refine ret_of (L := [some (vR 48), some (vR 4), some (vI x2), none, none]) (by decide) rfl (Nat.le_of_ble_eq_true rfl) ?_
  exact SX1_waitingOn_48_4_0 x2 f h
theorem dX10_waits_0 : decode cX10_waits 0 = .ok (.aload_n 0, 1) := by decide +kernel
theorem dX10_waits_1 : decode cX10_waits 1 = .ok (.getfield 19, 3) := by decide +kernel
theorem dX10_waits_4 : decode cX10_waits 4 = .ok (.iload_n 1, 1) := by decide +kernel
theorem dX10_waits_5 : decode cX10_waits 5 = .ok (.invokevirtual 126, 3) := by decide +kernel
theorem dX10_waits_8 : decode cX10_waits 8 = .ok (.ifCond .eq 18, 3) := by decide +kernel
theorem dX10_waits_26 : decode cX10_waits 26 = .ok (.bipush (-2), 2) := by decide +kernel
theorem dX10_waits_28 : decode cX10_waits 28 = .ok (.ireturn, 1) := by decide +kernel
theorem dX10_waits_11 : decode cX10_waits 11 = .ok (.aload_n 0, 1) := by decide +kernel
theorem dX10_waits_12 : decode cX10_waits 12 = .ok (.invokevirtual 129, 3) := by decide +kernel
theorem dX10_waits_15 : decode cX10_waits 15 = .ok (.aload_n 0, 1) := by decide +kernel
theorem dX10_waits_16 : decode cX10_waits 16 = .ok (.getfield 19, 3) := by decide +kernel
theorem dX10_waits_19 : decode cX10_waits 19 = .ok (.iload_n 1, 1) := by decide +kernel
theorem dX10_waits_20 : decode cX10_waits 20 = .ok (.invokevirtual 154, 3) := by decide +kernel
theorem dX10_waits_23 : decode cX10_waits 23 = .ok (.goto 5, 3) := by decide +kernel
def FX10_waits_0  (x1 : Int) (f : Mm) : Option (Int × Mm) := (b2 (FX0_hasDay_4 x1 f) fun y1 f1 => (if y1 = 0 then some ((-2), f1) else ((FX10_asNow f1).bind fun f2 => (b2 (FX1_waitingOn_48_4 x1 f2) fun y3 f3 => some (y3, f3)))))
set_option maxHeartbeats 4000000 in
set_option maxRecDepth 100000 in
theorem SX10_waits_0 {G : GT} {l : Launch} {Q : Option AV → Mem → Prop}  (x1 : Int) (f : Mm) (h : OkI Q (FX10_waits_0  x1 f)) : Ev G l MX10_waits (Rm 6 0 0) (ZM G Q 0 0) 0 0 0 [some (vR 0), some (vI x1)] [] (SH, RF, f) := by
  unfold FX10_waits_0 at h
  refine ev_aload_n (i := 0) dX10_waits_0 rfl rfl ?_
  refine ev_getR dX10_waits_1 fl_X10_19 sh_0 (by decide) (by decide) rf_0_1 ?_
  refine ev_iload_n (i := 1) dX10_waits_4 rfl rfl ?_
  refine ev_cVI (b := 4) (av := [vI x1]) (S := []) (fun q => q) h dX10_waits_5 (fun Q' q => TX0_hasDay_4 x1 _ q) kvX0_hasDay ml_X10_126 sh_4 rfl (RRc (by decide) (by decide)) (Nat.le_of_ble_eq_true rfl) ⟨Nat.le_of_ble_eq_true rfl, Nat.le_of_ble_eq_true rfl⟩ (fun y1 f1 h => ?_)
  refine ev_if_eq (tgt := 26) dX10_waits_8 (by decide) (fun c4 => ?_) (fun c4 => ?_)
  · rw [if_pos c4] at h
    refine ev_bipush (v := (-2)) dX10_waits_26 (r32c rfl) (by decide) ?_
    exact ev_iret rfl dX10_waits_28 h
  · rw [if_neg c4] at h
    refine ev_aload_n (i := 0) dX10_waits_11 rfl rfl ?_
    refine ev_cVC (b := 0) (av := []) (S := []) (fun q => q) h dX10_waits_12 (fun Q' q => TX10_asNow _ q) kvX10_asNow ml_X10_129 sh_0 rfl (RRc (by decide) (by decide)) (Nat.le_of_ble_eq_true rfl) ⟨Nat.le_of_ble_eq_true rfl, Nat.le_of_ble_eq_true rfl⟩ (fun f2 h => ?_)
    refine ev_aload_n (i := 0) dX10_waits_15 rfl rfl ?_
    refine ev_getR dX10_waits_16 fl_X10_19 sh_0 (by decide) (by decide) rf_0_1 ?_
    refine ev_iload_n (i := 1) dX10_waits_19 rfl rfl ?_
    refine ev_cVI (b := 48) (av := [vR 4, vI x1]) (S := []) (fun q => q) h dX10_waits_20 (fun Q' q => TX1_waitingOn_48_4 x1 _ q) kvX1_waitingOn ml_X10_154 sh_48 rfl (RRc (by decide) (by decide)) (Nat.le_of_ble_eq_true rfl) ⟨Nat.le_of_ble_eq_true rfl, Nat.le_of_ble_eq_true rfl⟩ (fun y3 f3 h => ?_)
    refine ev_goto (tgt := 28) dX10_waits_23 (by decide) ?_
    exact ev_iret rfl dX10_waits_28 h
def FX10_waits (x1 : Int) (f : Mm) : Option (Int × Mm) := FX10_waits_0 x1 f
set_option maxRecDepth 100000 in
theorem TX10_waits {G : GT} {l : Launch} {Q : Option AV → Mem → Prop} (x1 : Int) (f : Mm) (h : OkI Q (FX10_waits x1 f)) : Ret G l MX10_waits (6) 0 0 [vR 0, vI x1] (SH, RF, f) Q := by
  refine ret_of (L := [some (vR 0), some (vI x1)]) (by decide) rfl (Nat.le_of_ble_eq_true rfl) ?_
  exact SX10_waits_0 x1 f h
theorem dX10_room_0 : decode cX10_room 0 = .ok (.aload_n 0, 1) := by decide +kernel
theorem dX10_room_1 : decode cX10_room 1 = .ok (.getfield 19, 3) := by decide +kernel
theorem dX10_room_4 : decode cX10_room 4 = .ok (.iload_n 1, 1) := by decide +kernel
theorem dX10_room_5 : decode cX10_room 5 = .ok (.invokevirtual 126, 3) := by decide +kernel
theorem dX10_room_8 : decode cX10_room 8 = .ok (.ifCond .eq 15, 3) := by decide +kernel
theorem dX10_room_23 : decode cX10_room 23 = .ok (.bipush (-2), 2) := by decide +kernel
theorem dX10_room_25 : decode cX10_room 25 = .ok (.ireturn, 1) := by decide +kernel
theorem dX10_room_11 : decode cX10_room 11 = .ok (.aload_n 0, 1) := by decide +kernel
theorem dX10_room_12 : decode cX10_room 12 = .ok (.invokevirtual 129, 3) := by decide +kernel
theorem dX10_room_15 : decode cX10_room 15 = .ok (.getfield 157, 3) := by decide +kernel
theorem dX10_room_18 : decode cX10_room 18 = .ok (.iload_n 1, 1) := by decide +kernel
theorem dX10_room_19 : decode cX10_room 19 = .ok (.iaload, 1) := by decide +kernel
theorem dX10_room_20 : decode cX10_room 20 = .ok (.goto 5, 3) := by decide +kernel
def FX10_room_0  (x1 : Int) (f : Mm) : Option (Int × Mm) := (b2 (FX0_hasDay_4 x1 f) fun y1 f1 => (if y1 = 0 then some ((-2), f1) else ((FX10_asNow f1).bind fun f2 => (if 0 ≤ x1 ∧ x1 < 6 then some ((f2 54 x1.toNat), f2) else none))))
set_option maxHeartbeats 4000000 in
set_option maxRecDepth 100000 in
theorem SX10_room_0 {G : GT} {l : Launch} {Q : Option AV → Mem → Prop}  (x1 : Int) (f : Mm) (h : OkI Q (FX10_room_0  x1 f)) : Ev G l MX10_room (Rm 6 0 0) (ZM G Q 0 0) 0 0 0 [some (vR 0), some (vI x1)] [] (SH, RF, f) := by
  unfold FX10_room_0 at h
  refine ev_aload_n (i := 0) dX10_room_0 rfl rfl ?_
  refine ev_getR dX10_room_1 fl_X10_19 sh_0 (by decide) (by decide) rf_0_1 ?_
  refine ev_iload_n (i := 1) dX10_room_4 rfl rfl ?_
  refine ev_cVI (b := 4) (av := [vI x1]) (S := []) (fun q => q) h dX10_room_5 (fun Q' q => TX0_hasDay_4 x1 _ q) kvX0_hasDay ml_X10_126 sh_4 rfl (RRc (by decide) (by decide)) (Nat.le_of_ble_eq_true rfl) ⟨Nat.le_of_ble_eq_true rfl, Nat.le_of_ble_eq_true rfl⟩ (fun y1 f1 h => ?_)
  refine ev_if_eq (tgt := 23) dX10_room_8 (by decide) (fun c4 => ?_) (fun c4 => ?_)
  · rw [if_pos c4] at h
    refine ev_bipush (v := (-2)) dX10_room_23 (r32c rfl) (by decide) ?_
    exact ev_iret rfl dX10_room_25 h
  · rw [if_neg c4] at h
    refine ev_aload_n (i := 0) dX10_room_11 rfl rfl ?_
    refine ev_cVC (b := 0) (av := []) (S := []) (fun q => q) h dX10_room_12 (fun Q' q => TX10_asNow _ q) kvX10_asNow ml_X10_129 sh_0 rfl (RRc (by decide) (by decide)) (Nat.le_of_ble_eq_true rfl) ⟨Nat.le_of_ble_eq_true rfl, Nat.le_of_ble_eq_true rfl⟩ (fun f2 h => ?_)
    refine ev_getR dX10_room_15 fl_X10_157 sh_48 (by decide) (by decide) rf_48_7 ?_
    refine ev_iload_n (i := 1) dX10_room_18 rfl rfl ?_
    by_cases g3 : 0 ≤ x1 ∧ x1 < 6
    · rw [if_pos g3] at h
      refine ex_iald (x := (f2 54 x1.toNat)) dX10_room_19 sh_54 g3.1 g3.2 rfl ?_
      refine ev_goto (tgt := 25) dX10_room_20 (by decide) ?_
      exact ev_iret rfl dX10_room_25 h
    · rw [if_neg g3] at h; exact h.elim
def FX10_room (x1 : Int) (f : Mm) : Option (Int × Mm) := FX10_room_0 x1 f
set_option maxRecDepth 100000 in
theorem TX10_room {G : GT} {l : Launch} {Q : Option AV → Mem → Prop} (x1 : Int) (f : Mm) (h : OkI Q (FX10_room x1 f)) : Ret G l MX10_room (6) 0 0 [vR 0, vI x1] (SH, RF, f) Q := by
  refine ret_of (L := [some (vR 0), some (vI x1)]) (by decide) rfl (Nat.le_of_ble_eq_true rfl) ?_
  exact SX10_room_0 x1 f h
theorem dX10_stuck_79 : decode cX10_stuck 79 = .ok (.iinc 2 1, 3) := by decide +kernel
theorem dX10_stuck_82 : decode cX10_stuck 82 = .ok (.goto (-62), 3) := by decide +kernel
theorem dX10_stuck_73 : decode cX10_stuck 73 = .ok (.iinc 3 1, 3) := by decide +kernel
theorem dX10_stuck_76 : decode cX10_stuck 76 = .ok (.goto (-43), 3) := by decide +kernel
theorem dX10_stuck_33 : decode cX10_stuck 33 = .ok (.iload_n 3, 1) := by decide +kernel
theorem dX10_stuck_34 : decode cX10_stuck 34 = .ok (.aload_n 0, 1) := by decide +kernel
theorem dX10_stuck_35 : decode cX10_stuck 35 = .ok (.getfield 19, 3) := by decide +kernel
theorem dX10_stuck_38 : decode cX10_stuck 38 = .ok (.getfield 161, 3) := by decide +kernel
theorem dX10_stuck_41 : decode cX10_stuck 41 = .ok (.if_icmp .ge 38, 3) := by decide +kernel
theorem dX10_stuck_44 : decode cX10_stuck 44 = .ok (.aload_n 0, 1) := by decide +kernel
theorem dX10_stuck_45 : decode cX10_stuck 45 = .ok (.getfield 19, 3) := by decide +kernel
theorem dX10_stuck_48 : decode cX10_stuck 48 = .ok (.getfield 120, 3) := by decide +kernel
theorem dX10_stuck_51 : decode cX10_stuck 51 = .ok (.iload_n 3, 1) := by decide +kernel
theorem dX10_stuck_52 : decode cX10_stuck 52 = .ok (.aaload, 1) := by decide +kernel
theorem dX10_stuck_53 : decode cX10_stuck 53 = .ok (.iconst 2, 1) := by decide +kernel
theorem dX10_stuck_54 : decode cX10_stuck 54 = .ok (.iaload, 1) := by decide +kernel
theorem dX10_stuck_55 : decode cX10_stuck 55 = .ok (.iload_n 2, 1) := by decide +kernel
theorem dX10_stuck_56 : decode cX10_stuck 56 = .ok (.if_icmp .ne 17, 3) := by decide +kernel
theorem dX10_stuck_59 : decode cX10_stuck 59 = .ok (.aload_n 1, 1) := by decide +kernel
theorem dX10_stuck_60 : decode cX10_stuck 60 = .ok (.iload_n 2, 1) := by decide +kernel
theorem dX10_stuck_61 : decode cX10_stuck 61 = .ok (.invokevirtual 151, 3) := by decide +kernel
theorem dX10_stuck_64 : decode cX10_stuck 64 = .ok (.iload_n 3, 1) := by decide +kernel
theorem dX10_stuck_65 : decode cX10_stuck 65 = .ok (.invokestatic 164, 3) := by decide +kernel
theorem dX10_stuck_68 : decode cX10_stuck 68 = .ok (.ifCond .ne 5, 3) := by decide +kernel
theorem dX10_stuck_71 : decode cX10_stuck 71 = .ok (.iload_n 3, 1) := by decide +kernel
theorem dX10_stuck_72 : decode cX10_stuck 72 = .ok (.ireturn, 1) := by decide +kernel
theorem dX10_stuck_20 : decode cX10_stuck 20 = .ok (.iload_n 2, 1) := by decide +kernel
theorem dX10_stuck_21 : decode cX10_stuck 21 = .ok (.aload_n 0, 1) := by decide +kernel
theorem dX10_stuck_22 : decode cX10_stuck 22 = .ok (.getfield 19, 3) := by decide +kernel
theorem dX10_stuck_25 : decode cX10_stuck 25 = .ok (.getfield 144, 3) := by decide +kernel
theorem dX10_stuck_28 : decode cX10_stuck 28 = .ok (.if_icmp .ge 57, 3) := by decide +kernel
theorem dX10_stuck_85 : decode cX10_stuck 85 = .ok (.iconst (-1), 1) := by decide +kernel
theorem dX10_stuck_86 : decode cX10_stuck 86 = .ok (.ireturn, 1) := by decide +kernel
theorem dX10_stuck_31 : decode cX10_stuck 31 = .ok (.iconst 0, 1) := by decide +kernel
theorem dX10_stuck_32 : decode cX10_stuck 32 = .ok (.istore_n 3, 1) := by decide +kernel
theorem dX10_stuck_0 : decode cX10_stuck 0 = .ok (.aload_n 0, 1) := by decide +kernel
theorem dX10_stuck_1 : decode cX10_stuck 1 = .ok (.getfield 19, 3) := by decide +kernel
theorem dX10_stuck_4 : decode cX10_stuck 4 = .ok (.invokevirtual 140, 3) := by decide +kernel
theorem dX10_stuck_7 : decode cX10_stuck 7 = .ok (.ifCond .ne 6, 3) := by decide +kernel
theorem dX10_stuck_13 : decode cX10_stuck 13 = .ok (.aload_n 0, 1) := by decide +kernel
theorem dX10_stuck_14 : decode cX10_stuck 14 = .ok (.invokevirtual 129, 3) := by decide +kernel
theorem dX10_stuck_17 : decode cX10_stuck 17 = .ok (.astore_n 1, 1) := by decide +kernel
theorem dX10_stuck_18 : decode cX10_stuck 18 = .ok (.iconst 0, 1) := by decide +kernel
theorem dX10_stuck_19 : decode cX10_stuck 19 = .ok (.istore_n 2, 1) := by decide +kernel
theorem dX10_stuck_10 : decode cX10_stuck 10 = .ok (.bipush (-2), 2) := by decide +kernel
theorem dX10_stuck_12 : decode cX10_stuck 12 = .ok (.ireturn, 1) := by decide +kernel
def FX10_stuck_79 (k20 : Int → Mm → Option (Int × Mm)) (x2 : Int) (f : Mm) : Option (Int × Mm) := k20 (w32 (x2 + 1)) f
set_option maxHeartbeats 4000000 in
set_option maxRecDepth 100000 in
theorem SX10_stuck_79 {G : GT} {l : Launch} {Q : Option AV → Mem → Prop} {k20 : Int → Mm → Option (Int × Mm)} (q20 : ∀ (x2 : Int) (f : Mm), OkI Q (k20 x2 f) → Ev G l MX10_stuck (Rm 6 0 0) (ZM G Q 0 0) 0 0 20 [some (vR 0), some (vR 48), some (vI x2), none] [] (SH, RF, f)) (x2 : Int) (f : Mm) (h : OkI Q (FX10_stuck_79 k20 x2 f)) : Ev G l MX10_stuck (Rm 6 0 0) (ZM G Q 0 0) 0 0 79 [some (vR 0), some (vR 48), some (vI x2), none] [] (SH, RF, f) := by
  unfold FX10_stuck_79 at h
  refine ev_iinc (L' := [some (vR 0), some (vR 48), some (vI (w32 (x2 + 1))), none]) dX10_stuck_79 rfl (by decide) rfl ?_
  refine ev_goto (tgt := 20) dX10_stuck_82 (by decide) ?_
  exact q20 (w32 (x2 + 1)) _ h
def FX10_stuck_73 (k20 : Int → Mm → Option (Int × Mm)) (k33 : Int → Int → Mm → Option (Int × Mm)) (x2 : Int) (x3 : Int) (f : Mm) : Option (Int × Mm) := k33 x2 (w32 (x3 + 1)) f
set_option maxHeartbeats 4000000 in
set_option maxRecDepth 100000 in
theorem SX10_stuck_73 {G : GT} {l : Launch} {Q : Option AV → Mem → Prop} {k20 : Int → Mm → Option (Int × Mm)} {k33 : Int → Int → Mm → Option (Int × Mm)} (q20 : ∀ (x2 : Int) (f : Mm), OkI Q (k20 x2 f) → Ev G l MX10_stuck (Rm 6 0 0) (ZM G Q 0 0) 0 0 20 [some (vR 0), some (vR 48), some (vI x2), none] [] (SH, RF, f)) (q33 : ∀ (x2 : Int) (x3 : Int) (f : Mm), OkI Q (k33 x2 x3 f) → Ev G l MX10_stuck (Rm 6 0 0) (ZM G Q 0 0) 0 0 33 [some (vR 0), some (vR 48), some (vI x2), some (vI x3)] [] (SH, RF, f)) (x2 : Int) (x3 : Int) (f : Mm) (h : OkI Q (FX10_stuck_73 k20 k33 x2 x3 f)) : Ev G l MX10_stuck (Rm 6 0 0) (ZM G Q 0 0) 0 0 73 [some (vR 0), some (vR 48), some (vI x2), some (vI x3)] [] (SH, RF, f) := by
  unfold FX10_stuck_73 at h
  refine ev_iinc (L' := [some (vR 0), some (vR 48), some (vI x2), some (vI (w32 (x3 + 1)))]) dX10_stuck_73 rfl (by decide) rfl ?_
  refine ev_goto (tgt := 33) dX10_stuck_76 (by decide) ?_
  exact q33 x2 (w32 (x3 + 1)) _ h
def FX10_stuck_33 (k20 : Int → Mm → Option (Int × Mm)) : Nat → Int → Int → Mm → Option (Int × Mm)
  | 0, _, _, _ => none
  | n + 1, x2, x3, f => (if (f 4 5) ≤ x3 then FX10_stuck_79 k20 x2 f else (if 0 ≤ x3 ∧ x3 < 6 then (if (f (12 + x3.toNat) 2) = x2 then (b2 (FX1_passedOn x2 f) fun y2 f2 => (b2 (FX10_holds y2 x3 f2) fun y3 f3 => (if y3 = 0 then some (x3, f3) else FX10_stuck_73 k20 (FX10_stuck_33 k20 n) x2 x3 f3))) else FX10_stuck_73 k20 (FX10_stuck_33 k20 n) x2 x3 f) else none))
set_option maxHeartbeats 4000000 in
set_option maxRecDepth 100000 in
theorem SX10_stuck_33 {G : GT} {l : Launch} {Q : Option AV → Mem → Prop} {k20 : Int → Mm → Option (Int × Mm)} (q20 : ∀ (x2 : Int) (f : Mm), OkI Q (k20 x2 f) → Ev G l MX10_stuck (Rm 6 0 0) (ZM G Q 0 0) 0 0 20 [some (vR 0), some (vR 48), some (vI x2), none] [] (SH, RF, f)) : ∀ (n : Nat) (x2 : Int) (x3 : Int) (f : Mm), OkI Q (FX10_stuck_33 k20 n x2 x3 f) → Ev G l MX10_stuck (Rm 6 0 0) (ZM G Q 0 0) 0 0 33 [some (vR 0), some (vR 48), some (vI x2), some (vI x3)] [] (SH, RF, f) := by
  intro n
  induction n with
  | zero => intro x2 x3 f h; exact absurd h (by rw [FX10_stuck_33]; exact fun q => q)
  | succ n ih =>
    intro x2 x3 f h
    rw [FX10_stuck_33] at h
    refine ev_iload_n (i := 3) dX10_stuck_33 rfl rfl ?_
    refine ev_aload_n (i := 0) dX10_stuck_34 rfl rfl ?_
    refine ev_getR dX10_stuck_35 fl_X10_19 sh_0 (by decide) (by decide) rf_0_1 ?_
    refine ex_getI (x := (f 4 5)) dX10_stuck_38 fl_X10_161 sh_4 (by decide) (by decide) rfl ?_
    refine ev_icmp_ge (tgt := 79) dX10_stuck_41 (by decide) (fun c6 => ?_) (fun c6 => ?_)
    · rw [if_pos c6] at h
      refine ev_fg [true, true, true, false] rfl ?_
      exact SX10_stuck_79 q20 x2 _ h
    · rw [if_neg c6] at h
      refine ev_aload_n (i := 0) dX10_stuck_44 rfl rfl ?_
      refine ev_getR dX10_stuck_45 fl_X10_19 sh_0 (by decide) (by decide) rf_0_1 ?_
      refine ev_getR dX10_stuck_48 fl_X10_120 sh_4 (by decide) (by decide) rf_4_9 ?_
      refine ev_iload_n (i := 3) dX10_stuck_51 rfl rfl ?_
      by_cases g1 : 0 ≤ x3 ∧ x3 < 6
      · rw [if_pos g1] at h
        refine ev_aald (b := (12 + x3.toNat)) dX10_stuck_52 (Or.inl rfl) sh_11 g1.1 g1.2 (rfr_11 g1) ?_
        refine ev_iconst dX10_stuck_53 (r32c rfl) ?_
        refine ex_iald (x := (f (12 + x3.toNat) 2)) dX10_stuck_54 (shr_11 g1) (by decide) (by decide) rfl ?_
        refine ev_iload_n (i := 2) dX10_stuck_55 rfl rfl ?_
        refine ev_icmp_ne (tgt := 73) dX10_stuck_56 (by decide) (fun c5 => ?_) (fun c5 => ?_)
        · rw [if_neg c5] at h
          exact SX10_stuck_73 q20 ih x2 x3 _ h
        · rw [if_pos c5] at h
          refine ev_aload_n (i := 1) dX10_stuck_59 rfl rfl ?_
          refine ev_iload_n (i := 2) dX10_stuck_60 rfl rfl ?_
          refine ev_cVI (b := 48) (av := [vI x2]) (S := []) (fun q => q) h dX10_stuck_61 (fun Q' q => TX1_passedOn x2 _ q) kvX1_passedOn ml_X10_151 sh_48 rfl (RRc (by decide) (by decide)) (Nat.le_of_ble_eq_true rfl) ⟨Nat.le_of_ble_eq_true rfl, Nat.le_of_ble_eq_true rfl⟩ (fun y2 f2 h => ?_)
          refine ev_iload_n (i := 3) dX10_stuck_64 rfl rfl ?_
          refine ev_cSI (av := [vI y2, vI x3]) (S := []) (fun q => q) h dX10_stuck_65 (fun Q' q => TX10_holds y2 x3 _ q) ksX10_holds ml_X10_164 rfl (RRc (by decide) (by decide)) (Nat.le_of_ble_eq_true rfl) ⟨Nat.le_of_ble_eq_true rfl, Nat.le_of_ble_eq_true rfl⟩ (fun y3 f3 h => ?_)
          refine ev_if_ne (tgt := 73) dX10_stuck_68 (by decide) (fun c4 => ?_) (fun c4 => ?_)
          · rw [if_neg c4] at h
            exact SX10_stuck_73 q20 ih x2 x3 _ h
          · rw [if_pos c4] at h
            refine ev_iload_n (i := 3) dX10_stuck_71 rfl rfl ?_
            exact ev_iret rfl dX10_stuck_72 h
      · rw [if_neg g1] at h; exact h.elim
def FX10_stuck_20  : Nat → Int → Mm → Option (Int × Mm)
  | 0, _, _ => none
  | n + 1, x2, f => (if (f 4 1) ≤ x2 then some ((-1), f) else FX10_stuck_33 (FX10_stuck_20 n) fu x2 0 f)
set_option maxHeartbeats 4000000 in
set_option maxRecDepth 100000 in
theorem SX10_stuck_20 {G : GT} {l : Launch} {Q : Option AV → Mem → Prop}  : ∀ (n : Nat) (x2 : Int) (f : Mm), OkI Q (FX10_stuck_20  n x2 f) → Ev G l MX10_stuck (Rm 6 0 0) (ZM G Q 0 0) 0 0 20 [some (vR 0), some (vR 48), some (vI x2), none] [] (SH, RF, f) := by
  intro n
  induction n with
  | zero => intro x2 f h; exact absurd h (by rw [FX10_stuck_20]; exact fun q => q)
  | succ n ih =>
    intro x2 f h
    rw [FX10_stuck_20] at h
    refine ev_iload_n (i := 2) dX10_stuck_20 rfl rfl ?_
    refine ev_aload_n (i := 0) dX10_stuck_21 rfl rfl ?_
    refine ev_getR dX10_stuck_22 fl_X10_19 sh_0 (by decide) (by decide) rf_0_1 ?_
    refine ex_getI (x := (f 4 1)) dX10_stuck_25 fl_X10_144 sh_4 (by decide) (by decide) rfl ?_
    refine ev_icmp_ge (tgt := 85) dX10_stuck_28 (by decide) (fun c1 => ?_) (fun c1 => ?_)
    · rw [if_pos c1] at h
      refine ev_iconst dX10_stuck_85 (r32c rfl) ?_
      exact ev_iret rfl dX10_stuck_86 h
    · rw [if_neg c1] at h
      refine ev_iconst dX10_stuck_31 (r32c rfl) ?_
      refine ev_istore_n (i := 3) (L' := [some (vR 0), some (vR 48), some (vI x2), some (vI 0)]) dX10_stuck_32 rfl (by decide) rfl ?_
      exact SX10_stuck_33 ih fu x2 0 _ h
def FX10_stuck_0   (f : Mm) : Option (Int × Mm) := (b2 (FX0_stands_4 f) fun y1 f1 => (if y1 = 0 then some ((-2), f1) else ((FX10_asNow f1).bind fun f2 => FX10_stuck_20 fu 0 f2)))
set_option maxHeartbeats 4000000 in
set_option maxRecDepth 100000 in
theorem SX10_stuck_0 {G : GT} {l : Launch} {Q : Option AV → Mem → Prop}   (f : Mm) (h : OkI Q (FX10_stuck_0   f)) : Ev G l MX10_stuck (Rm 6 0 0) (ZM G Q 0 0) 0 0 0 [some (vR 0), none, none, none] [] (SH, RF, f) := by
  unfold FX10_stuck_0 at h
  refine ev_aload_n (i := 0) dX10_stuck_0 rfl rfl ?_
  refine ev_getR dX10_stuck_1 fl_X10_19 sh_0 (by decide) (by decide) rf_0_1 ?_
  refine ev_cVI (b := 4) (av := []) (S := []) (fun q => q) h dX10_stuck_4 (fun Q' q => TX0_stands_4 _ q) kvX0_stands ml_X10_140 sh_4 rfl (RRc (by decide) (by decide)) (Nat.le_of_ble_eq_true rfl) ⟨Nat.le_of_ble_eq_true rfl, Nat.le_of_ble_eq_true rfl⟩ (fun y1 f1 h => ?_)
  refine ev_if_ne (tgt := 13) dX10_stuck_7 (by decide) (fun c3 => ?_) (fun c3 => ?_)
  · rw [if_neg c3] at h
    refine ev_aload_n (i := 0) dX10_stuck_13 rfl rfl ?_
    refine ev_cVC (b := 0) (av := []) (S := []) (fun q => q) h dX10_stuck_14 (fun Q' q => TX10_asNow _ q) kvX10_asNow ml_X10_129 sh_0 rfl (RRc (by decide) (by decide)) (Nat.le_of_ble_eq_true rfl) ⟨Nat.le_of_ble_eq_true rfl, Nat.le_of_ble_eq_true rfl⟩ (fun f2 h => ?_)
    refine ev_astore_n (i := 1) (L' := [some (vR 0), some (vR 48), none, none]) dX10_stuck_17 rfl (by decide) rfl ?_
    refine ev_iconst dX10_stuck_18 (r32c rfl) ?_
    refine ev_istore_n (i := 2) (L' := [some (vR 0), some (vR 48), some (vI 0), none]) dX10_stuck_19 rfl (by decide) rfl ?_
    exact SX10_stuck_20  fu 0 _ h
  · rw [if_pos c3] at h
    refine ev_bipush (v := (-2)) dX10_stuck_10 (r32c rfl) (by decide) ?_
    exact ev_iret rfl dX10_stuck_12 h
def FX10_stuck  (f : Mm) : Option (Int × Mm) := FX10_stuck_0  f
set_option maxRecDepth 100000 in
theorem TX10_stuck {G : GT} {l : Launch} {Q : Option AV → Mem → Prop}  (f : Mm) (h : OkI Q (FX10_stuck  f)) : Ret G l MX10_stuck (6) 0 0 [vR 0] (SH, RF, f) Q := by
  refine ret_of (L := [some (vR 0), none, none, none]) (by decide) rfl (Nat.le_of_ble_eq_true rfl) ?_
  exact SX10_stuck_0  f h
theorem dX0_allCarts_0 : decode cX0_allCarts 0 = .ok (.iconst 1, 1) := by decide +kernel
theorem dX0_allCarts_1 : decode cX0_allCarts 1 = .ok (.aload_n 0, 1) := by decide +kernel
theorem dX0_allCarts_2 : decode cX0_allCarts 2 = .ok (.getfield 48, 3) := by decide +kernel
theorem dX0_allCarts_5 : decode cX0_allCarts 5 = .ok (.ishl, 1) := by decide +kernel
theorem dX0_allCarts_6 : decode cX0_allCarts 6 = .ok (.iconst 1, 1) := by decide +kernel
theorem dX0_allCarts_7 : decode cX0_allCarts 7 = .ok (.isub, 1) := by decide +kernel
theorem dX0_allCarts_8 : decode cX0_allCarts 8 = .ok (.ireturn, 1) := by decide +kernel
def FX0_allCarts_4_0   (f : Mm) : Option (Int × Mm) := some ((w32 ((bShl 1 (f 4 5)) - 1)), f)
set_option maxHeartbeats 4000000 in
set_option maxRecDepth 100000 in
theorem SX0_allCarts_4_0 {G : GT} {l : Launch} {Q : Option AV → Mem → Prop}   (f : Mm) (h : OkI Q (FX0_allCarts_4_0   f)) : Ev G l MX0_allCarts (Rm 1 0 0) (ZM G Q 0 0) 0 0 0 [some (vR 4)] [] (SH, RF, f) := by
  unfold FX0_allCarts_4_0 at h
  refine ev_iconst dX0_allCarts_0 (r32c rfl) ?_
  refine ev_aload_n (i := 0) dX0_allCarts_1 rfl rfl ?_
  refine ex_getI (x := (f 4 5)) dX0_allCarts_2 fl_X0_48 sh_4 (by decide) (by decide) rfl ?_
  refine ev_ishl dX0_allCarts_5 ?_
  refine ev_iconst dX0_allCarts_6 (r32c rfl) ?_
  refine ev_isub dX0_allCarts_7 ?_
  exact ev_iret rfl dX0_allCarts_8 h
def FX0_allCarts_4  (f : Mm) : Option (Int × Mm) := FX0_allCarts_4_0  f
set_option maxRecDepth 100000 in
theorem TX0_allCarts_4 {G : GT} {l : Launch} {Q : Option AV → Mem → Prop}  (f : Mm) (h : OkI Q (FX0_allCarts_4  f)) : Ret G l MX0_allCarts (1) 0 0 [vR 4] (SH, RF, f) Q := by
  refine ret_of (L := [some (vR 4)]) (by decide) rfl (Nat.le_of_ble_eq_true rfl) ?_
  exact SX0_allCarts_4_0  f h
theorem dX1_passedBits_0 : decode cX1_passedBits 0 = .ok (.aload_n 0, 1) := by decide +kernel
theorem dX1_passedBits_1 : decode cX1_passedBits 1 = .ok (.getfield 26, 3) := by decide +kernel
theorem dX1_passedBits_4 : decode cX1_passedBits 4 = .ok (.aload_n 1, 1) := by decide +kernel
theorem dX1_passedBits_5 : decode cX1_passedBits 5 = .ok (.getfield 51, 3) := by decide +kernel
theorem dX1_passedBits_8 : decode cX1_passedBits 8 = .ok (.iaload, 1) := by decide +kernel
theorem dX1_passedBits_9 : decode cX1_passedBits 9 = .ok (.ireturn, 1) := by decide +kernel
def FX1_passedBits_48_4_0   (f : Mm) : Option (Int × Mm) := (if 0 ≤ (f 4 1) ∧ (f 4 1) < 7 then some ((f 55 (f 4 1).toNat), f) else none)
set_option maxHeartbeats 4000000 in
set_option maxRecDepth 100000 in
theorem SX1_passedBits_48_4_0 {G : GT} {l : Launch} {Q : Option AV → Mem → Prop}   (f : Mm) (h : OkI Q (FX1_passedBits_48_4_0   f)) : Ev G l MX1_passedBits (Rm 1 0 0) (ZM G Q 0 0) 0 0 0 [some (vR 48), some (vR 4)] [] (SH, RF, f) := by
  unfold FX1_passedBits_48_4_0 at h
  refine ev_aload_n (i := 0) dX1_passedBits_0 rfl rfl ?_
  refine ev_getR dX1_passedBits_1 fl_X1_26 sh_48 (by decide) (by decide) rf_48_8 ?_
  refine ev_aload_n (i := 1) dX1_passedBits_4 rfl rfl ?_
  refine ex_getI (x := (f 4 1)) dX1_passedBits_5 fl_X1_51 sh_4 (by decide) (by decide) rfl ?_
  by_cases g1 : 0 ≤ (f 4 1) ∧ (f 4 1) < 7
  · rw [if_pos g1] at h
    refine ex_iald (x := (f 55 (f 4 1).toNat)) dX1_passedBits_8 sh_55 g1.1 g1.2 rfl ?_
    exact ev_iret rfl dX1_passedBits_9 h
  · rw [if_neg g1] at h; exact h.elim
def FX1_passedBits_48_4  (f : Mm) : Option (Int × Mm) := FX1_passedBits_48_4_0  f
set_option maxRecDepth 100000 in
theorem TX1_passedBits_48_4 {G : GT} {l : Launch} {Q : Option AV → Mem → Prop}  (f : Mm) (h : OkI Q (FX1_passedBits_48_4  f)) : Ret G l MX1_passedBits (1) 0 0 [vR 48, vR 4] (SH, RF, f) Q := by
  refine ret_of (L := [some (vR 48), some (vR 4)]) (by decide) rfl (Nat.le_of_ble_eq_true rfl) ?_
  exact SX1_passedBits_48_4_0  f h
theorem dX10_lost_0 : decode cX10_lost 0 = .ok (.aload_n 0, 1) := by decide +kernel
theorem dX10_lost_1 : decode cX10_lost 1 = .ok (.getfield 19, 3) := by decide +kernel
theorem dX10_lost_4 : decode cX10_lost 4 = .ok (.invokevirtual 140, 3) := by decide +kernel
theorem dX10_lost_7 : decode cX10_lost 7 = .ok (.ifCond .eq 27, 3) := by decide +kernel
theorem dX10_lost_34 : decode cX10_lost 34 = .ok (.bipush (-2), 2) := by decide +kernel
theorem dX10_lost_36 : decode cX10_lost 36 = .ok (.ireturn, 1) := by decide +kernel
theorem dX10_lost_10 : decode cX10_lost 10 = .ok (.aload_n 0, 1) := by decide +kernel
theorem dX10_lost_11 : decode cX10_lost 11 = .ok (.getfield 19, 3) := by decide +kernel
theorem dX10_lost_14 : decode cX10_lost 14 = .ok (.invokevirtual 168, 3) := by decide +kernel
theorem dX10_lost_17 : decode cX10_lost 17 = .ok (.aload_n 0, 1) := by decide +kernel
theorem dX10_lost_18 : decode cX10_lost 18 = .ok (.invokevirtual 129, 3) := by decide +kernel
theorem dX10_lost_21 : decode cX10_lost 21 = .ok (.aload_n 0, 1) := by decide +kernel
theorem dX10_lost_22 : decode cX10_lost 22 = .ok (.getfield 19, 3) := by decide +kernel
theorem dX10_lost_25 : decode cX10_lost 25 = .ok (.invokevirtual 172, 3) := by decide +kernel
theorem dX10_lost_28 : decode cX10_lost 28 = .ok (.iconst (-1), 1) := by decide +kernel
theorem dX10_lost_29 : decode cX10_lost 29 = .ok (.ixor, 1) := by decide +kernel
theorem dX10_lost_30 : decode cX10_lost 30 = .ok (.iand, 1) := by decide +kernel
theorem dX10_lost_31 : decode cX10_lost 31 = .ok (.goto 5, 3) := by decide +kernel
def FX10_lost_0   (f : Mm) : Option (Int × Mm) := (b2 (FX0_stands_4 f) fun y1 f1 => (if y1 = 0 then some ((-2), f1) else (b2 (FX0_allCarts_4 f1) fun y2 f2 => ((FX10_asNow f2).bind fun f3 => (b2 (FX1_passedBits_48_4 f3) fun y4 f4 => some ((bAnd y2 (bXor y4 (-1))), f4))))))
set_option maxHeartbeats 4000000 in
set_option maxRecDepth 100000 in
theorem SX10_lost_0 {G : GT} {l : Launch} {Q : Option AV → Mem → Prop}   (f : Mm) (h : OkI Q (FX10_lost_0   f)) : Ev G l MX10_lost (Rm 6 0 0) (ZM G Q 0 0) 0 0 0 [some (vR 0)] [] (SH, RF, f) := by
  unfold FX10_lost_0 at h
  refine ev_aload_n (i := 0) dX10_lost_0 rfl rfl ?_
  refine ev_getR dX10_lost_1 fl_X10_19 sh_0 (by decide) (by decide) rf_0_1 ?_
  refine ev_cVI (b := 4) (av := []) (S := []) (fun q => q) h dX10_lost_4 (fun Q' q => TX0_stands_4 _ q) kvX0_stands ml_X10_140 sh_4 rfl (RRc (by decide) (by decide)) (Nat.le_of_ble_eq_true rfl) ⟨Nat.le_of_ble_eq_true rfl, Nat.le_of_ble_eq_true rfl⟩ (fun y1 f1 h => ?_)
  refine ev_if_eq (tgt := 34) dX10_lost_7 (by decide) (fun c5 => ?_) (fun c5 => ?_)
  · rw [if_pos c5] at h
    refine ev_bipush (v := (-2)) dX10_lost_34 (r32c rfl) (by decide) ?_
    exact ev_iret rfl dX10_lost_36 h
  · rw [if_neg c5] at h
    refine ev_aload_n (i := 0) dX10_lost_10 rfl rfl ?_
    refine ev_getR dX10_lost_11 fl_X10_19 sh_0 (by decide) (by decide) rf_0_1 ?_
    refine ev_cVI (b := 4) (av := []) (S := []) (fun q => q) h dX10_lost_14 (fun Q' q => TX0_allCarts_4 _ q) kvX0_allCarts ml_X10_168 sh_4 rfl (RRc (by decide) (by decide)) (Nat.le_of_ble_eq_true rfl) ⟨Nat.le_of_ble_eq_true rfl, Nat.le_of_ble_eq_true rfl⟩ (fun y2 f2 h => ?_)
    refine ev_aload_n (i := 0) dX10_lost_17 rfl rfl ?_
    refine ev_cVC (b := 0) (av := []) (S := [vI y2]) (fun q => q) h dX10_lost_18 (fun Q' q => TX10_asNow _ q) kvX10_asNow ml_X10_129 sh_0 rfl (RRc (by decide) (by decide)) (Nat.le_of_ble_eq_true rfl) ⟨Nat.le_of_ble_eq_true rfl, Nat.le_of_ble_eq_true rfl⟩ (fun f3 h => ?_)
    refine ev_aload_n (i := 0) dX10_lost_21 rfl rfl ?_
    refine ev_getR dX10_lost_22 fl_X10_19 sh_0 (by decide) (by decide) rf_0_1 ?_
    refine ev_cVI (b := 48) (av := [vR 4]) (S := [vI y2]) (fun q => q) h dX10_lost_25 (fun Q' q => TX1_passedBits_48_4 _ q) kvX1_passedBits ml_X10_172 sh_48 rfl (RRc (by decide) (by decide)) (Nat.le_of_ble_eq_true rfl) ⟨Nat.le_of_ble_eq_true rfl, Nat.le_of_ble_eq_true rfl⟩ (fun y4 f4 h => ?_)
    refine ev_iconst dX10_lost_28 (r32c rfl) ?_
    refine ev_ixor dX10_lost_29 ?_
    refine ev_iand dX10_lost_30 ?_
    refine ev_goto (tgt := 36) dX10_lost_31 (by decide) ?_
    exact ev_iret rfl dX10_lost_36 h
def FX10_lost  (f : Mm) : Option (Int × Mm) := FX10_lost_0  f
set_option maxRecDepth 100000 in
theorem TX10_lost {G : GT} {l : Launch} {Q : Option AV → Mem → Prop}  (f : Mm) (h : OkI Q (FX10_lost  f)) : Ret G l MX10_lost (6) 0 0 [vR 0] (SH, RF, f) Q := by
  refine ret_of (L := [some (vR 0)]) (by decide) rfl (Nat.le_of_ble_eq_true rfl) ?_
  exact SX10_lost_0  f h
theorem dX1_keptBits_0 : decode cX1_keptBits 0 = .ok (.aload_n 0, 1) := by decide +kernel
theorem dX1_keptBits_1 : decode cX1_keptBits 1 = .ok (.getfield 29, 3) := by decide +kernel
theorem dX1_keptBits_4 : decode cX1_keptBits 4 = .ok (.aload_n 1, 1) := by decide +kernel
theorem dX1_keptBits_5 : decode cX1_keptBits 5 = .ok (.getfield 51, 3) := by decide +kernel
theorem dX1_keptBits_8 : decode cX1_keptBits 8 = .ok (.iaload, 1) := by decide +kernel
theorem dX1_keptBits_9 : decode cX1_keptBits 9 = .ok (.ireturn, 1) := by decide +kernel
def FX1_keptBits_48_4_0   (f : Mm) : Option (Int × Mm) := (if 0 ≤ (f 4 1) ∧ (f 4 1) < 7 then some ((f 56 (f 4 1).toNat), f) else none)
set_option maxHeartbeats 4000000 in
set_option maxRecDepth 100000 in
theorem SX1_keptBits_48_4_0 {G : GT} {l : Launch} {Q : Option AV → Mem → Prop}   (f : Mm) (h : OkI Q (FX1_keptBits_48_4_0   f)) : Ev G l MX1_keptBits (Rm 1 0 0) (ZM G Q 0 0) 0 0 0 [some (vR 48), some (vR 4)] [] (SH, RF, f) := by
  unfold FX1_keptBits_48_4_0 at h
  refine ev_aload_n (i := 0) dX1_keptBits_0 rfl rfl ?_
  refine ev_getR dX1_keptBits_1 fl_X1_29 sh_48 (by decide) (by decide) rf_48_9 ?_
  refine ev_aload_n (i := 1) dX1_keptBits_4 rfl rfl ?_
  refine ex_getI (x := (f 4 1)) dX1_keptBits_5 fl_X1_51 sh_4 (by decide) (by decide) rfl ?_
  by_cases g1 : 0 ≤ (f 4 1) ∧ (f 4 1) < 7
  · rw [if_pos g1] at h
    refine ex_iald (x := (f 56 (f 4 1).toNat)) dX1_keptBits_8 sh_56 g1.1 g1.2 rfl ?_
    exact ev_iret rfl dX1_keptBits_9 h
  · rw [if_neg g1] at h; exact h.elim
def FX1_keptBits_48_4  (f : Mm) : Option (Int × Mm) := FX1_keptBits_48_4_0  f
set_option maxRecDepth 100000 in
theorem TX1_keptBits_48_4 {G : GT} {l : Launch} {Q : Option AV → Mem → Prop}  (f : Mm) (h : OkI Q (FX1_keptBits_48_4  f)) : Ret G l MX1_keptBits (1) 0 0 [vR 48, vR 4] (SH, RF, f) Q := by
  refine ret_of (L := [some (vR 48), some (vR 4)]) (by decide) rfl (Nat.le_of_ble_eq_true rfl) ?_
  exact SX1_keptBits_48_4_0  f h
theorem dX10_kept_0 : decode cX10_kept 0 = .ok (.aload_n 0, 1) := by decide +kernel
theorem dX10_kept_1 : decode cX10_kept 1 = .ok (.getfield 19, 3) := by decide +kernel
theorem dX10_kept_4 : decode cX10_kept 4 = .ok (.invokevirtual 140, 3) := by decide +kernel
theorem dX10_kept_7 : decode cX10_kept 7 = .ok (.ifCond .eq 17, 3) := by decide +kernel
theorem dX10_kept_24 : decode cX10_kept 24 = .ok (.bipush (-2), 2) := by decide +kernel
theorem dX10_kept_26 : decode cX10_kept 26 = .ok (.ireturn, 1) := by decide +kernel
theorem dX10_kept_10 : decode cX10_kept 10 = .ok (.aload_n 0, 1) := by decide +kernel
theorem dX10_kept_11 : decode cX10_kept 11 = .ok (.invokevirtual 129, 3) := by decide +kernel
theorem dX10_kept_14 : decode cX10_kept 14 = .ok (.aload_n 0, 1) := by decide +kernel
theorem dX10_kept_15 : decode cX10_kept 15 = .ok (.getfield 19, 3) := by decide +kernel
theorem dX10_kept_18 : decode cX10_kept 18 = .ok (.invokevirtual 176, 3) := by decide +kernel
theorem dX10_kept_21 : decode cX10_kept 21 = .ok (.goto 5, 3) := by decide +kernel
def FX10_kept_0   (f : Mm) : Option (Int × Mm) := (b2 (FX0_stands_4 f) fun y1 f1 => (if y1 = 0 then some ((-2), f1) else ((FX10_asNow f1).bind fun f2 => (b2 (FX1_keptBits_48_4 f2) fun y3 f3 => some (y3, f3)))))
set_option maxHeartbeats 4000000 in
set_option maxRecDepth 100000 in
theorem SX10_kept_0 {G : GT} {l : Launch} {Q : Option AV → Mem → Prop}   (f : Mm) (h : OkI Q (FX10_kept_0   f)) : Ev G l MX10_kept (Rm 6 0 0) (ZM G Q 0 0) 0 0 0 [some (vR 0)] [] (SH, RF, f) := by
  unfold FX10_kept_0 at h
  refine ev_aload_n (i := 0) dX10_kept_0 rfl rfl ?_
  refine ev_getR dX10_kept_1 fl_X10_19 sh_0 (by decide) (by decide) rf_0_1 ?_
  refine ev_cVI (b := 4) (av := []) (S := []) (fun q => q) h dX10_kept_4 (fun Q' q => TX0_stands_4 _ q) kvX0_stands ml_X10_140 sh_4 rfl (RRc (by decide) (by decide)) (Nat.le_of_ble_eq_true rfl) ⟨Nat.le_of_ble_eq_true rfl, Nat.le_of_ble_eq_true rfl⟩ (fun y1 f1 h => ?_)
  refine ev_if_eq (tgt := 24) dX10_kept_7 (by decide) (fun c4 => ?_) (fun c4 => ?_)
  · rw [if_pos c4] at h
    refine ev_bipush (v := (-2)) dX10_kept_24 (r32c rfl) (by decide) ?_
    exact ev_iret rfl dX10_kept_26 h
  · rw [if_neg c4] at h
    refine ev_aload_n (i := 0) dX10_kept_10 rfl rfl ?_
    refine ev_cVC (b := 0) (av := []) (S := []) (fun q => q) h dX10_kept_11 (fun Q' q => TX10_asNow _ q) kvX10_asNow ml_X10_129 sh_0 rfl (RRc (by decide) (by decide)) (Nat.le_of_ble_eq_true rfl) ⟨Nat.le_of_ble_eq_true rfl, Nat.le_of_ble_eq_true rfl⟩ (fun f2 h => ?_)
    refine ev_aload_n (i := 0) dX10_kept_14 rfl rfl ?_
    refine ev_getR dX10_kept_15 fl_X10_19 sh_0 (by decide) (by decide) rf_0_1 ?_
    refine ev_cVI (b := 48) (av := [vR 4]) (S := []) (fun q => q) h dX10_kept_18 (fun Q' q => TX1_keptBits_48_4 _ q) kvX1_keptBits ml_X10_176 sh_48 rfl (RRc (by decide) (by decide)) (Nat.le_of_ble_eq_true rfl) ⟨Nat.le_of_ble_eq_true rfl, Nat.le_of_ble_eq_true rfl⟩ (fun y3 f3 h => ?_)
    refine ev_goto (tgt := 26) dX10_kept_21 (by decide) ?_
    exact ev_iret rfl dX10_kept_26 h
def FX10_kept  (f : Mm) : Option (Int × Mm) := FX10_kept_0  f
set_option maxRecDepth 100000 in
theorem TX10_kept {G : GT} {l : Launch} {Q : Option AV → Mem → Prop}  (f : Mm) (h : OkI Q (FX10_kept  f)) : Ret G l MX10_kept (6) 0 0 [vR 0] (SH, RF, f) Q := by
  refine ret_of (L := [some (vR 0)]) (by decide) rfl (Nat.le_of_ble_eq_true rfl) ?_
  exact SX10_kept_0  f h
theorem dX0_sumOf_35 : decode cX0_sumOf 35 = .ok (.iinc 4 1, 3) := by decide +kernel
theorem dX0_sumOf_38 : decode cX0_sumOf 38 = .ok (.goto (-33), 3) := by decide +kernel
theorem dX0_sumOf_5 : decode cX0_sumOf 5 = .ok (.iload 4, 2) := by decide +kernel
theorem dX0_sumOf_7 : decode cX0_sumOf 7 = .ok (.aload_n 0, 1) := by decide +kernel
theorem dX0_sumOf_8 : decode cX0_sumOf 8 = .ok (.getfield 48, 3) := by decide +kernel
theorem dX0_sumOf_11 : decode cX0_sumOf 11 = .ok (.if_icmp .ge 30, 3) := by decide +kernel
theorem dX0_sumOf_41 : decode cX0_sumOf 41 = .ok (.iload_n 3, 1) := by decide +kernel
theorem dX0_sumOf_42 : decode cX0_sumOf 42 = .ok (.ireturn, 1) := by decide +kernel
theorem dX0_sumOf_14 : decode cX0_sumOf 14 = .ok (.iload_n 1, 1) := by decide +kernel
theorem dX0_sumOf_15 : decode cX0_sumOf 15 = .ok (.iload 4, 2) := by decide +kernel
theorem dX0_sumOf_17 : decode cX0_sumOf 17 = .ok (.invokestatic 77, 3) := by decide +kernel
theorem dX0_sumOf_20 : decode cX0_sumOf 20 = .ok (.ifCond .eq 15, 3) := by decide +kernel
theorem dX0_sumOf_23 : decode cX0_sumOf 23 = .ok (.iload_n 3, 1) := by decide +kernel
theorem dX0_sumOf_24 : decode cX0_sumOf 24 = .ok (.aload_n 0, 1) := by decide +kernel
theorem dX0_sumOf_25 : decode cX0_sumOf 25 = .ok (.getfield 20, 3) := by decide +kernel
theorem dX0_sumOf_28 : decode cX0_sumOf 28 = .ok (.iload 4, 2) := by decide +kernel
theorem dX0_sumOf_30 : decode cX0_sumOf 30 = .ok (.aaload, 1) := by decide +kernel
theorem dX0_sumOf_31 : decode cX0_sumOf 31 = .ok (.iload_n 2, 1) := by decide +kernel
theorem dX0_sumOf_32 : decode cX0_sumOf 32 = .ok (.iaload, 1) := by decide +kernel
theorem dX0_sumOf_33 : decode cX0_sumOf 33 = .ok (.iadd, 1) := by decide +kernel
theorem dX0_sumOf_34 : decode cX0_sumOf 34 = .ok (.istore_n 3, 1) := by decide +kernel
theorem dX0_sumOf_0 : decode cX0_sumOf 0 = .ok (.iconst 0, 1) := by decide +kernel
theorem dX0_sumOf_1 : decode cX0_sumOf 1 = .ok (.istore_n 3, 1) := by decide +kernel
theorem dX0_sumOf_2 : decode cX0_sumOf 2 = .ok (.iconst 0, 1) := by decide +kernel
theorem dX0_sumOf_3 : decode cX0_sumOf 3 = .ok (.istore 4, 2) := by decide +kernel
def FX0_sumOf_4_35 (k5 : Int → Int → Int → Int → Mm → Option (Int × Mm)) (x1 : Int) (x2 : Int) (x3 : Int) (x4 : Int) (f : Mm) : Option (Int × Mm) := k5 x1 x2 x3 (w32 (x4 + 1)) f
set_option maxHeartbeats 4000000 in
set_option maxRecDepth 100000 in
theorem SX0_sumOf_4_35 {G : GT} {l : Launch} {Q : Option AV → Mem → Prop} {k5 : Int → Int → Int → Int → Mm → Option (Int × Mm)} (q5 : ∀ (x1 : Int) (x2 : Int) (x3 : Int) (x4 : Int) (f : Mm), OkI Q (k5 x1 x2 x3 x4 f) → Ev G l MX0_sumOf (Rm 2 0 0) (ZM G Q 0 0) 0 0 5 [some (vR 4), some (vI x1), some (vI x2), some (vI x3), some (vI x4)] [] (SH, RF, f)) (x1 : Int) (x2 : Int) (x3 : Int) (x4 : Int) (f : Mm) (h : OkI Q (FX0_sumOf_4_35 k5 x1 x2 x3 x4 f)) : Ev G l MX0_sumOf (Rm 2 0 0) (ZM G Q 0 0) 0 0 35 [some (vR 4), some (vI x1), some (vI x2), some (vI x3), some (vI x4)] [] (SH, RF, f) := by
  unfold FX0_sumOf_4_35 at h
  refine ev_iinc (L' := [some (vR 4), some (vI x1), some (vI x2), some (vI x3), some (vI (w32 (x4 + 1)))]) dX0_sumOf_35 rfl (by decide) rfl ?_
  refine ev_goto (tgt := 5) dX0_sumOf_38 (by decide) ?_
  exact q5 x1 x2 x3 (w32 (x4 + 1)) _ h
def FX0_sumOf_4_5  : Nat → Int → Int → Int → Int → Mm → Option (Int × Mm)
  | 0, _, _, _, _, _ => none
  | n + 1, x1, x2, x3, x4, f => (if (f 4 5) ≤ x4 then some (x3, f) else (b2 (FX10_holds x1 x4 f) fun y1 f1 => (if y1 = 0 then FX0_sumOf_4_35 (FX0_sumOf_4_5 n) x1 x2 x3 x4 f1 else (if 0 ≤ x4 ∧ x4 < 6 then (if 0 ≤ x2 ∧ x2 < 5 then FX0_sumOf_4_35 (FX0_sumOf_4_5 n) x1 x2 (w32 (x3 + (f1 (12 + x4.toNat) x2.toNat))) x4 f1 else none) else none))))
set_option maxHeartbeats 4000000 in
set_option maxRecDepth 100000 in
theorem SX0_sumOf_4_5 {G : GT} {l : Launch} {Q : Option AV → Mem → Prop}  : ∀ (n : Nat) (x1 : Int) (x2 : Int) (x3 : Int) (x4 : Int) (f : Mm), OkI Q (FX0_sumOf_4_5  n x1 x2 x3 x4 f) → Ev G l MX0_sumOf (Rm 2 0 0) (ZM G Q 0 0) 0 0 5 [some (vR 4), some (vI x1), some (vI x2), some (vI x3), some (vI x4)] [] (SH, RF, f) := by
  intro n
  induction n with
  | zero => intro x1 x2 x3 x4 f h; exact absurd h (by rw [FX0_sumOf_4_5]; exact fun q => q)
  | succ n ih =>
    intro x1 x2 x3 x4 f h
    rw [FX0_sumOf_4_5] at h
    refine ev_iload dX0_sumOf_5 rfl ?_
    refine ev_aload_n (i := 0) dX0_sumOf_7 rfl rfl ?_
    refine ex_getI (x := (f 4 5)) dX0_sumOf_8 fl_X0_48 sh_4 (by decide) (by decide) rfl ?_
    refine ev_icmp_ge (tgt := 41) dX0_sumOf_11 (by decide) (fun c5 => ?_) (fun c5 => ?_)
    · rw [if_pos c5] at h
      refine ev_iload_n (i := 3) dX0_sumOf_41 rfl rfl ?_
      exact ev_iret rfl dX0_sumOf_42 h
    · rw [if_neg c5] at h
      refine ev_iload_n (i := 1) dX0_sumOf_14 rfl rfl ?_
      refine ev_iload dX0_sumOf_15 rfl ?_
      refine ev_cNI (av := [vI x1, vI x4]) (S := []) (fun q => q) h dX0_sumOf_17 (fun Q' q => TX10_holds x1 x4 _ q) ksX10_holds nw_X0_77 rfl (RRc (by decide) (by decide)) (Nat.le_of_ble_eq_true rfl) ⟨Nat.le_of_ble_eq_true rfl, Nat.le_of_ble_eq_true rfl⟩ (fun y1 f1 h => ?_)
      refine ev_if_eq (tgt := 35) dX0_sumOf_20 (by decide) (fun c4 => ?_) (fun c4 => ?_)
      · rw [if_pos c4] at h
        exact SX0_sumOf_4_35 ih x1 x2 x3 x4 _ h
      · rw [if_neg c4] at h
        refine ev_iload_n (i := 3) dX0_sumOf_23 rfl rfl ?_
        refine ev_aload_n (i := 0) dX0_sumOf_24 rfl rfl ?_
        refine ev_getR dX0_sumOf_25 fl_X0_20 sh_4 (by decide) (by decide) rf_4_9 ?_
        refine ev_iload dX0_sumOf_28 rfl ?_
        by_cases g2 : 0 ≤ x4 ∧ x4 < 6
        · rw [if_pos g2] at h
          refine ev_aald (b := (12 + x4.toNat)) dX0_sumOf_30 (Or.inl rfl) sh_11 g2.1 g2.2 (rfr_11 g2) ?_
          refine ev_iload_n (i := 2) dX0_sumOf_31 rfl rfl ?_
          by_cases g3 : 0 ≤ x2 ∧ x2 < 5
          · rw [if_pos g3] at h
            refine ex_iald (x := (f1 (12 + x4.toNat) x2.toNat)) dX0_sumOf_32 (shr_11 g2) g3.1 g3.2 rfl ?_
            refine ev_iadd dX0_sumOf_33 ?_
            refine ev_istore_n (i := 3) (L' := [some (vR 4), some (vI x1), some (vI x2), some (vI (w32 (x3 + (f1 (12 + x4.toNat) x2.toNat)))), some (vI x4)]) dX0_sumOf_34 rfl (by decide) rfl ?_
            exact SX0_sumOf_4_35 ih x1 x2 (w32 (x3 + (f1 (12 + x4.toNat) x2.toNat))) x4 _ h
          · rw [if_neg g3] at h; exact h.elim
        · rw [if_neg g2] at h; exact h.elim
def FX0_sumOf_4_0  (x1 : Int) (x2 : Int) (f : Mm) : Option (Int × Mm) := FX0_sumOf_4_5 fu x1 x2 0 0 f
set_option maxHeartbeats 4000000 in
set_option maxRecDepth 100000 in
theorem SX0_sumOf_4_0 {G : GT} {l : Launch} {Q : Option AV → Mem → Prop}  (x1 : Int) (x2 : Int) (f : Mm) (h : OkI Q (FX0_sumOf_4_0  x1 x2 f)) : Ev G l MX0_sumOf (Rm 2 0 0) (ZM G Q 0 0) 0 0 0 [some (vR 4), some (vI x1), some (vI x2), none, none] [] (SH, RF, f) := by
  unfold FX0_sumOf_4_0 at h
  refine ev_iconst dX0_sumOf_0 (r32c rfl) ?_
  refine ev_istore_n (i := 3) (L' := [some (vR 4), some (vI x1), some (vI x2), some (vI 0), none]) dX0_sumOf_1 rfl (by decide) rfl ?_
  refine ev_iconst dX0_sumOf_2 (r32c rfl) ?_
  refine ev_istore (L' := [some (vR 4), some (vI x1), some (vI x2), some (vI 0), some (vI 0)]) dX0_sumOf_3 (by decide) rfl ?_
  exact SX0_sumOf_4_5  fu x1 x2 0 0 _ h
def FX0_sumOf_4 (x1 : Int) (x2 : Int) (f : Mm) : Option (Int × Mm) := FX0_sumOf_4_0 x1 x2 f
set_option maxRecDepth 100000 in
theorem TX0_sumOf_4 {G : GT} {l : Launch} {Q : Option AV → Mem → Prop} (x1 : Int) (x2 : Int) (f : Mm) (h : OkI Q (FX0_sumOf_4 x1 x2 f)) : Ret G l MX0_sumOf (2) 0 0 [vR 4, vI x1, vI x2] (SH, RF, f) Q := by
  refine ret_of (L := [some (vR 4), some (vI x1), some (vI x2), none, none]) (by decide) rfl (Nat.le_of_ble_eq_true rfl) ?_
  exact SX0_sumOf_4_0 x1 x2 f h
theorem dX0_payOf_0 : decode cX0_payOf 0 = .ok (.aload_n 0, 1) := by decide +kernel
theorem dX0_payOf_1 : decode cX0_payOf 1 = .ok (.iload_n 1, 1) := by decide +kernel
theorem dX0_payOf_2 : decode cX0_payOf 2 = .ok (.iconst 4, 1) := by decide +kernel
theorem dX0_payOf_3 : decode cX0_payOf 3 = .ok (.invokevirtual 73, 3) := by decide +kernel
theorem dX0_payOf_6 : decode cX0_payOf 6 = .ok (.ireturn, 1) := by decide +kernel
def FX0_payOf_4_0  (x1 : Int) (f : Mm) : Option (Int × Mm) := (b2 (FX0_sumOf_4 x1 4 f) fun y1 f1 => some (y1, f1))
set_option maxHeartbeats 4000000 in
set_option maxRecDepth 100000 in
theorem SX0_payOf_4_0 {G : GT} {l : Launch} {Q : Option AV → Mem → Prop}  (x1 : Int) (f : Mm) (h : OkI Q (FX0_payOf_4_0  x1 f)) : Ev G l MX0_payOf (Rm 3 0 0) (ZM G Q 0 0) 0 0 0 [some (vR 4), some (vI x1)] [] (SH, RF, f) := by
  unfold FX0_payOf_4_0 at h
  refine ev_aload_n (i := 0) dX0_payOf_0 rfl rfl ?_
  refine ev_iload_n (i := 1) dX0_payOf_1 rfl rfl ?_
  refine ev_iconst dX0_payOf_2 (r32c rfl) ?_
  refine ev_cVI (b := 4) (av := [vI x1, vI 4]) (S := []) (fun q => q) h dX0_payOf_3 (fun Q' q => TX0_sumOf_4 x1 4 _ q) kvX0_sumOf ml_X0_73 sh_4 rfl (RRc (by decide) (by decide)) (Nat.le_of_ble_eq_true rfl) ⟨Nat.le_of_ble_eq_true rfl, Nat.le_of_ble_eq_true rfl⟩ (fun y1 f1 h => ?_)
  exact ev_iret rfl dX0_payOf_6 h
def FX0_payOf_4 (x1 : Int) (f : Mm) : Option (Int × Mm) := FX0_payOf_4_0 x1 f
set_option maxRecDepth 100000 in
theorem TX0_payOf_4 {G : GT} {l : Launch} {Q : Option AV → Mem → Prop} (x1 : Int) (f : Mm) (h : OkI Q (FX0_payOf_4 x1 f)) : Ret G l MX0_payOf (3) 0 0 [vR 4, vI x1] (SH, RF, f) Q := by
  refine ret_of (L := [some (vR 4), some (vI x1)]) (by decide) rfl (Nat.le_of_ble_eq_true rfl) ?_
  exact SX0_payOf_4_0 x1 f h
theorem dX10_pays_0 : decode cX10_pays 0 = .ok (.aload_n 0, 1) := by decide +kernel
theorem dX10_pays_1 : decode cX10_pays 1 = .ok (.getfield 19, 3) := by decide +kernel
theorem dX10_pays_4 : decode cX10_pays 4 = .ok (.invokevirtual 140, 3) := by decide +kernel
theorem dX10_pays_7 : decode cX10_pays 7 = .ok (.ifCond .eq 24, 3) := by decide +kernel
theorem dX10_pays_31 : decode cX10_pays 31 = .ok (.bipush (-2), 2) := by decide +kernel
theorem dX10_pays_33 : decode cX10_pays 33 = .ok (.ireturn, 1) := by decide +kernel
theorem dX10_pays_10 : decode cX10_pays 10 = .ok (.aload_n 0, 1) := by decide +kernel
theorem dX10_pays_11 : decode cX10_pays 11 = .ok (.getfield 19, 3) := by decide +kernel
theorem dX10_pays_14 : decode cX10_pays 14 = .ok (.aload_n 0, 1) := by decide +kernel
theorem dX10_pays_15 : decode cX10_pays 15 = .ok (.invokevirtual 129, 3) := by decide +kernel
theorem dX10_pays_18 : decode cX10_pays 18 = .ok (.aload_n 0, 1) := by decide +kernel
theorem dX10_pays_19 : decode cX10_pays 19 = .ok (.getfield 19, 3) := by decide +kernel
theorem dX10_pays_22 : decode cX10_pays 22 = .ok (.invokevirtual 176, 3) := by decide +kernel
theorem dX10_pays_25 : decode cX10_pays 25 = .ok (.invokevirtual 179, 3) := by decide +kernel
theorem dX10_pays_28 : decode cX10_pays 28 = .ok (.goto 5, 3) := by decide +kernel
def FX10_pays_0   (f : Mm) : Option (Int × Mm) := (b2 (FX0_stands_4 f) fun y1 f1 => (if y1 = 0 then some ((-2), f1) else ((FX10_asNow f1).bind fun f2 => (b2 (FX1_keptBits_48_4 f2) fun y3 f3 => (b2 (FX0_payOf_4 y3 f3) fun y4 f4 => some (y4, f4))))))
set_option maxHeartbeats 4000000 in
set_option maxRecDepth 100000 in
theorem SX10_pays_0 {G : GT} {l : Launch} {Q : Option AV → Mem → Prop}   (f : Mm) (h : OkI Q (FX10_pays_0   f)) : Ev G l MX10_pays (Rm 6 0 0) (ZM G Q 0 0) 0 0 0 [some (vR 0)] [] (SH, RF, f) := by
  unfold FX10_pays_0 at h
  refine ev_aload_n (i := 0) dX10_pays_0 rfl rfl ?_
  refine ev_getR dX10_pays_1 fl_X10_19 sh_0 (by decide) (by decide) rf_0_1 ?_
  refine ev_cVI (b := 4) (av := []) (S := []) (fun q => q) h dX10_pays_4 (fun Q' q => TX0_stands_4 _ q) kvX0_stands ml_X10_140 sh_4 rfl (RRc (by decide) (by decide)) (Nat.le_of_ble_eq_true rfl) ⟨Nat.le_of_ble_eq_true rfl, Nat.le_of_ble_eq_true rfl⟩ (fun y1 f1 h => ?_)
  refine ev_if_eq (tgt := 31) dX10_pays_7 (by decide) (fun c5 => ?_) (fun c5 => ?_)
  · rw [if_pos c5] at h
    refine ev_bipush (v := (-2)) dX10_pays_31 (r32c rfl) (by decide) ?_
    exact ev_iret rfl dX10_pays_33 h
  · rw [if_neg c5] at h
    refine ev_aload_n (i := 0) dX10_pays_10 rfl rfl ?_
    refine ev_getR dX10_pays_11 fl_X10_19 sh_0 (by decide) (by decide) rf_0_1 ?_
    refine ev_aload_n (i := 0) dX10_pays_14 rfl rfl ?_
    refine ev_cVC (b := 0) (av := []) (S := [vR 4]) (fun q => q) h dX10_pays_15 (fun Q' q => TX10_asNow _ q) kvX10_asNow ml_X10_129 sh_0 rfl (RRc (by decide) (by decide)) (Nat.le_of_ble_eq_true rfl) ⟨Nat.le_of_ble_eq_true rfl, Nat.le_of_ble_eq_true rfl⟩ (fun f2 h => ?_)
    refine ev_aload_n (i := 0) dX10_pays_18 rfl rfl ?_
    refine ev_getR dX10_pays_19 fl_X10_19 sh_0 (by decide) (by decide) rf_0_1 ?_
    refine ev_cVI (b := 48) (av := [vR 4]) (S := [vR 4]) (fun q => q) h dX10_pays_22 (fun Q' q => TX1_keptBits_48_4 _ q) kvX1_keptBits ml_X10_176 sh_48 rfl (RRc (by decide) (by decide)) (Nat.le_of_ble_eq_true rfl) ⟨Nat.le_of_ble_eq_true rfl, Nat.le_of_ble_eq_true rfl⟩ (fun y3 f3 h => ?_)
    refine ev_cVI (b := 4) (av := [vI y3]) (S := []) (fun q => q) h dX10_pays_25 (fun Q' q => TX0_payOf_4 y3 _ q) kvX0_payOf ml_X10_179 sh_4 rfl (RRc (by decide) (by decide)) (Nat.le_of_ble_eq_true rfl) ⟨Nat.le_of_ble_eq_true rfl, Nat.le_of_ble_eq_true rfl⟩ (fun y4 f4 h => ?_)
    refine ev_goto (tgt := 33) dX10_pays_28 (by decide) ?_
    exact ev_iret rfl dX10_pays_33 h
def FX10_pays  (f : Mm) : Option (Int × Mm) := FX10_pays_0  f
set_option maxRecDepth 100000 in
theorem TX10_pays {G : GT} {l : Launch} {Q : Option AV → Mem → Prop}  (f : Mm) (h : OkI Q (FX10_pays  f)) : Ret G l MX10_pays (6) 0 0 [vR 0] (SH, RF, f) Q := by
  refine ret_of (L := [some (vR 0)]) (by decide) rfl (Nat.le_of_ble_eq_true rfl) ?_
  exact SX10_pays_0  f h
theorem dX0_costOf_0 : decode cX0_costOf 0 = .ok (.aload_n 0, 1) := by decide +kernel
theorem dX0_costOf_1 : decode cX0_costOf 1 = .ok (.iload_n 1, 1) := by decide +kernel
theorem dX0_costOf_2 : decode cX0_costOf 2 = .ok (.invokevirtual 69, 3) := by decide +kernel
theorem dX0_costOf_5 : decode cX0_costOf 5 = .ok (.ifCond .eq 14, 3) := by decide +kernel
theorem dX0_costOf_19 : decode cX0_costOf 19 = .ok (.iconst 0, 1) := by decide +kernel
theorem dX0_costOf_20 : decode cX0_costOf 20 = .ok (.ireturn, 1) := by decide +kernel
theorem dX0_costOf_8 : decode cX0_costOf 8 = .ok (.aload_n 0, 1) := by decide +kernel
theorem dX0_costOf_9 : decode cX0_costOf 9 = .ok (.getfield 17, 3) := by decide +kernel
theorem dX0_costOf_12 : decode cX0_costOf 12 = .ok (.iload_n 1, 1) := by decide +kernel
theorem dX0_costOf_13 : decode cX0_costOf 13 = .ok (.aaload, 1) := by decide +kernel
theorem dX0_costOf_14 : decode cX0_costOf 14 = .ok (.iconst 1, 1) := by decide +kernel
theorem dX0_costOf_15 : decode cX0_costOf 15 = .ok (.iaload, 1) := by decide +kernel
theorem dX0_costOf_16 : decode cX0_costOf 16 = .ok (.goto 4, 3) := by decide +kernel
def FX0_costOf_4_0  (x1 : Int) (f : Mm) : Option (Int × Mm) := (b2 (FX0_hasDeed_4 x1 f) fun y1 f1 => (if y1 = 0 then some (0, f1) else (if 0 ≤ x1 ∧ x1 < 4 then some ((f1 (7 + x1.toNat) 1), f1) else none)))
set_option maxHeartbeats 4000000 in
set_option maxRecDepth 100000 in
theorem SX0_costOf_4_0 {G : GT} {l : Launch} {Q : Option AV → Mem → Prop}  (x1 : Int) (f : Mm) (h : OkI Q (FX0_costOf_4_0  x1 f)) : Ev G l MX0_costOf (Rm 2 0 0) (ZM G Q 0 0) 0 0 0 [some (vR 4), some (vI x1)] [] (SH, RF, f) := by
  unfold FX0_costOf_4_0 at h
  refine ev_aload_n (i := 0) dX0_costOf_0 rfl rfl ?_
  refine ev_iload_n (i := 1) dX0_costOf_1 rfl rfl ?_
  refine ev_cVI (b := 4) (av := [vI x1]) (S := []) (fun q => q) h dX0_costOf_2 (fun Q' q => TX0_hasDeed_4 x1 _ q) kvX0_hasDeed ml_X0_69 sh_4 rfl (RRc (by decide) (by decide)) (Nat.le_of_ble_eq_true rfl) ⟨Nat.le_of_ble_eq_true rfl, Nat.le_of_ble_eq_true rfl⟩ (fun y1 f1 h => ?_)
  refine ev_if_eq (tgt := 19) dX0_costOf_5 (by decide) (fun c3 => ?_) (fun c3 => ?_)
  · rw [if_pos c3] at h
    refine ev_iconst dX0_costOf_19 (r32c rfl) ?_
    exact ev_iret rfl dX0_costOf_20 h
  · rw [if_neg c3] at h
    refine ev_aload_n (i := 0) dX0_costOf_8 rfl rfl ?_
    refine ev_getR dX0_costOf_9 fl_X0_17 sh_4 (by decide) (by decide) rf_4_8 ?_
    refine ev_iload_n (i := 1) dX0_costOf_12 rfl rfl ?_
    by_cases g2 : 0 ≤ x1 ∧ x1 < 4
    · rw [if_pos g2] at h
      refine ev_aald (b := (7 + x1.toNat)) dX0_costOf_13 (Or.inl rfl) sh_6 g2.1 g2.2 (rfr_6 g2) ?_
      refine ev_iconst dX0_costOf_14 (r32c rfl) ?_
      refine ex_iald (x := (f1 (7 + x1.toNat) 1)) dX0_costOf_15 (shr_6 g2) (by decide) (by decide) rfl ?_
      refine ev_goto (tgt := 20) dX0_costOf_16 (by decide) ?_
      exact ev_iret rfl dX0_costOf_20 h
    · rw [if_neg g2] at h; exact h.elim
def FX0_costOf_4 (x1 : Int) (f : Mm) : Option (Int × Mm) := FX0_costOf_4_0 x1 f
set_option maxRecDepth 100000 in
theorem TX0_costOf_4 {G : GT} {l : Launch} {Q : Option AV → Mem → Prop} (x1 : Int) (f : Mm) (h : OkI Q (FX0_costOf_4 x1 f)) : Ret G l MX0_costOf (2) 0 0 [vR 4, vI x1] (SH, RF, f) Q := by
  refine ret_of (L := [some (vR 4), some (vI x1)]) (by decide) rfl (Nat.le_of_ble_eq_true rfl) ?_
  exact SX0_costOf_4_0 x1 f h
theorem dX0_costOfAll_4 : decode cX0_costOfAll 4 = .ok (.iload_n 3, 1) := by decide +kernel
theorem dX0_costOfAll_5 : decode cX0_costOfAll 5 = .ok (.aload_n 0, 1) := by decide +kernel
theorem dX0_costOfAll_6 : decode cX0_costOfAll 6 = .ok (.getfield 36, 3) := by decide +kernel
theorem dX0_costOfAll_9 : decode cX0_costOfAll 9 = .ok (.if_icmp .ge 25, 3) := by decide +kernel
theorem dX0_costOfAll_34 : decode cX0_costOfAll 34 = .ok (.iload_n 2, 1) := by decide +kernel
theorem dX0_costOfAll_35 : decode cX0_costOfAll 35 = .ok (.ireturn, 1) := by decide +kernel
theorem dX0_costOfAll_12 : decode cX0_costOfAll 12 = .ok (.iload_n 3, 1) := by decide +kernel
theorem dX0_costOfAll_13 : decode cX0_costOfAll 13 = .ok (.aload_n 1, 1) := by decide +kernel
theorem dX0_costOfAll_14 : decode cX0_costOfAll 14 = .ok (.arraylength, 1) := by decide +kernel
theorem dX0_costOfAll_15 : decode cX0_costOfAll 15 = .ok (.if_icmp .ge 19, 3) := by decide +kernel
theorem dX0_costOfAll_18 : decode cX0_costOfAll 18 = .ok (.iload_n 2, 1) := by decide +kernel
theorem dX0_costOfAll_19 : decode cX0_costOfAll 19 = .ok (.aload_n 0, 1) := by decide +kernel
theorem dX0_costOfAll_20 : decode cX0_costOfAll 20 = .ok (.aload_n 1, 1) := by decide +kernel
theorem dX0_costOfAll_21 : decode cX0_costOfAll 21 = .ok (.iload_n 3, 1) := by decide +kernel
theorem dX0_costOfAll_22 : decode cX0_costOfAll 22 = .ok (.iaload, 1) := by decide +kernel
theorem dX0_costOfAll_23 : decode cX0_costOfAll 23 = .ok (.invokevirtual 81, 3) := by decide +kernel
theorem dX0_costOfAll_26 : decode cX0_costOfAll 26 = .ok (.iadd, 1) := by decide +kernel
theorem dX0_costOfAll_27 : decode cX0_costOfAll 27 = .ok (.istore_n 2, 1) := by decide +kernel
theorem dX0_costOfAll_28 : decode cX0_costOfAll 28 = .ok (.iinc 3 1, 3) := by decide +kernel
theorem dX0_costOfAll_31 : decode cX0_costOfAll 31 = .ok (.goto (-27), 3) := by decide +kernel
theorem dX0_costOfAll_0 : decode cX0_costOfAll 0 = .ok (.iconst 0, 1) := by decide +kernel
theorem dX0_costOfAll_1 : decode cX0_costOfAll 1 = .ok (.istore_n 2, 1) := by decide +kernel
theorem dX0_costOfAll_2 : decode cX0_costOfAll 2 = .ok (.iconst 0, 1) := by decide +kernel
theorem dX0_costOfAll_3 : decode cX0_costOfAll 3 = .ok (.istore_n 3, 1) := by decide +kernel
def FX0_costOfAll_4_18_4  : Nat → Int → Int → Mm → Option (Int × Mm)
  | 0, _, _, _ => none
  | n + 1, x2, x3, f => (if (f 4 1) ≤ x3 then some (x2, f) else (if 6 ≤ x3 then some (x2, f) else (if 0 ≤ x3 ∧ x3 < 6 then (b2 (FX0_costOf_4 (f 18 x3.toNat) f) fun y2 f2 => FX0_costOfAll_4_18_4 n (w32 (x2 + y2)) (w32 (x3 + 1)) f2) else none)))
set_option maxHeartbeats 4000000 in
set_option maxRecDepth 100000 in
theorem SX0_costOfAll_4_18_4 {G : GT} {l : Launch} {Q : Option AV → Mem → Prop}  : ∀ (n : Nat) (x2 : Int) (x3 : Int) (f : Mm), OkI Q (FX0_costOfAll_4_18_4  n x2 x3 f) → Ev G l MX0_costOfAll (Rm 3 0 0) (ZM G Q 0 0) 0 0 4 [some (vR 4), some (vR 18), some (vI x2), some (vI x3)] [] (SH, RF, f) := by
  intro n
  induction n with
  | zero => intro x2 x3 f h; exact absurd h (by rw [FX0_costOfAll_4_18_4]; exact fun q => q)
  | succ n ih =>
    intro x2 x3 f h
    rw [FX0_costOfAll_4_18_4] at h
    refine ev_iload_n (i := 3) dX0_costOfAll_4 rfl rfl ?_
    refine ev_aload_n (i := 0) dX0_costOfAll_5 rfl rfl ?_
    refine ex_getI (x := (f 4 1)) dX0_costOfAll_6 fl_X0_36 sh_4 (by decide) (by decide) rfl ?_
    refine ev_icmp_ge (tgt := 34) dX0_costOfAll_9 (by decide) (fun c4 => ?_) (fun c4 => ?_)
    · rw [if_pos c4] at h
      refine ev_iload_n (i := 2) dX0_costOfAll_34 rfl rfl ?_
      exact ev_iret rfl dX0_costOfAll_35 h
    · rw [if_neg c4] at h
      refine ev_iload_n (i := 3) dX0_costOfAll_12 rfl rfl ?_
      refine ev_aload_n (i := 1) dX0_costOfAll_13 rfl rfl ?_
      refine ex_alen (x := 6) dX0_costOfAll_14 (by decide) sh_18 (r32c rfl) rfl ?_
      refine ev_icmp_ge (tgt := 34) dX0_costOfAll_15 (by decide) (fun c3 => ?_) (fun c3 => ?_)
      · rw [if_pos c3] at h
        refine ev_iload_n (i := 2) dX0_costOfAll_34 rfl rfl ?_
        exact ev_iret rfl dX0_costOfAll_35 h
      · rw [if_neg c3] at h
        refine ev_iload_n (i := 2) dX0_costOfAll_18 rfl rfl ?_
        refine ev_aload_n (i := 0) dX0_costOfAll_19 rfl rfl ?_
        refine ev_aload_n (i := 1) dX0_costOfAll_20 rfl rfl ?_
        refine ev_iload_n (i := 3) dX0_costOfAll_21 rfl rfl ?_
        by_cases g1 : 0 ≤ x3 ∧ x3 < 6
        · rw [if_pos g1] at h
          refine ex_iald (x := (f 18 x3.toNat)) dX0_costOfAll_22 sh_18 g1.1 g1.2 rfl ?_
          refine ev_cVI (b := 4) (av := [vI (f 18 x3.toNat)]) (S := [vI x2]) (fun q => q) h dX0_costOfAll_23 (fun Q' q => TX0_costOf_4 (f 18 x3.toNat) _ q) kvX0_costOf ml_X0_81 sh_4 rfl (RRc (by decide) (by decide)) (Nat.le_of_ble_eq_true rfl) ⟨Nat.le_of_ble_eq_true rfl, Nat.le_of_ble_eq_true rfl⟩ (fun y2 f2 h => ?_)
          refine ev_iadd dX0_costOfAll_26 ?_
          refine ev_istore_n (i := 2) (L' := [some (vR 4), some (vR 18), some (vI (w32 (x2 + y2))), some (vI x3)]) dX0_costOfAll_27 rfl (by decide) rfl ?_
          refine ev_iinc (L' := [some (vR 4), some (vR 18), some (vI (w32 (x2 + y2))), some (vI (w32 (x3 + 1)))]) dX0_costOfAll_28 rfl (by decide) rfl ?_
          refine ev_goto (tgt := 4) dX0_costOfAll_31 (by decide) ?_
          exact ih (w32 (x2 + y2)) (w32 (x3 + 1)) _ h
        · rw [if_neg g1] at h; exact h.elim
def FX0_costOfAll_4_18_0   (f : Mm) : Option (Int × Mm) := FX0_costOfAll_4_18_4 fu 0 0 f
set_option maxHeartbeats 4000000 in
set_option maxRecDepth 100000 in
theorem SX0_costOfAll_4_18_0 {G : GT} {l : Launch} {Q : Option AV → Mem → Prop}   (f : Mm) (h : OkI Q (FX0_costOfAll_4_18_0   f)) : Ev G l MX0_costOfAll (Rm 3 0 0) (ZM G Q 0 0) 0 0 0 [some (vR 4), some (vR 18), none, none] [] (SH, RF, f) := by
  unfold FX0_costOfAll_4_18_0 at h
  refine ev_iconst dX0_costOfAll_0 (r32c rfl) ?_
  refine ev_istore_n (i := 2) (L' := [some (vR 4), some (vR 18), some (vI 0), none]) dX0_costOfAll_1 rfl (by decide) rfl ?_
  refine ev_iconst dX0_costOfAll_2 (r32c rfl) ?_
  refine ev_istore_n (i := 3) (L' := [some (vR 4), some (vR 18), some (vI 0), some (vI 0)]) dX0_costOfAll_3 rfl (by decide) rfl ?_
  exact SX0_costOfAll_4_18_4  fu 0 0 _ h
def FX0_costOfAll_4_18  (f : Mm) : Option (Int × Mm) := FX0_costOfAll_4_18_0  f
set_option maxRecDepth 100000 in
theorem TX0_costOfAll_4_18 {G : GT} {l : Launch} {Q : Option AV → Mem → Prop}  (f : Mm) (h : OkI Q (FX0_costOfAll_4_18  f)) : Ret G l MX0_costOfAll (3) 0 0 [vR 4, vR 18] (SH, RF, f) Q := by
  refine ret_of (L := [some (vR 4), some (vR 18), none, none]) (by decide) rfl (Nat.le_of_ble_eq_true rfl) ?_
  exact SX0_costOfAll_4_18_0  f h
theorem dX10_costs_0 : decode cX10_costs 0 = .ok (.aload_n 0, 1) := by decide +kernel
theorem dX10_costs_1 : decode cX10_costs 1 = .ok (.getfield 19, 3) := by decide +kernel
theorem dX10_costs_4 : decode cX10_costs 4 = .ok (.invokevirtual 140, 3) := by decide +kernel
theorem dX10_costs_7 : decode cX10_costs 7 = .ok (.ifCond .eq 20, 3) := by decide +kernel
theorem dX10_costs_27 : decode cX10_costs 27 = .ok (.bipush (-2), 2) := by decide +kernel
theorem dX10_costs_29 : decode cX10_costs 29 = .ok (.ireturn, 1) := by decide +kernel
theorem dX10_costs_10 : decode cX10_costs 10 = .ok (.aload_n 0, 1) := by decide +kernel
theorem dX10_costs_11 : decode cX10_costs 11 = .ok (.getfield 19, 3) := by decide +kernel
theorem dX10_costs_14 : decode cX10_costs 14 = .ok (.aload_n 0, 1) := by decide +kernel
theorem dX10_costs_15 : decode cX10_costs 15 = .ok (.getfield 19, 3) := by decide +kernel
theorem dX10_costs_18 : decode cX10_costs 18 = .ok (.getfield 182, 3) := by decide +kernel
theorem dX10_costs_21 : decode cX10_costs 21 = .ok (.invokevirtual 185, 3) := by decide +kernel
theorem dX10_costs_24 : decode cX10_costs 24 = .ok (.goto 5, 3) := by decide +kernel
def FX10_costs_0   (f : Mm) : Option (Int × Mm) := (b2 (FX0_stands_4 f) fun y1 f1 => (if y1 = 0 then some ((-2), f1) else (b2 (FX0_costOfAll_4_18 f1) fun y2 f2 => some (y2, f2))))
set_option maxHeartbeats 4000000 in
set_option maxRecDepth 100000 in
theorem SX10_costs_0 {G : GT} {l : Launch} {Q : Option AV → Mem → Prop}   (f : Mm) (h : OkI Q (FX10_costs_0   f)) : Ev G l MX10_costs (Rm 4 0 0) (ZM G Q 0 0) 0 0 0 [some (vR 0)] [] (SH, RF, f) := by
  unfold FX10_costs_0 at h
  refine ev_aload_n (i := 0) dX10_costs_0 rfl rfl ?_
  refine ev_getR dX10_costs_1 fl_X10_19 sh_0 (by decide) (by decide) rf_0_1 ?_
  refine ev_cVI (b := 4) (av := []) (S := []) (fun q => q) h dX10_costs_4 (fun Q' q => TX0_stands_4 _ q) kvX0_stands ml_X10_140 sh_4 rfl (RRc (by decide) (by decide)) (Nat.le_of_ble_eq_true rfl) ⟨Nat.le_of_ble_eq_true rfl, Nat.le_of_ble_eq_true rfl⟩ (fun y1 f1 h => ?_)
  refine ev_if_eq (tgt := 27) dX10_costs_7 (by decide) (fun c3 => ?_) (fun c3 => ?_)
  · rw [if_pos c3] at h
    refine ev_bipush (v := (-2)) dX10_costs_27 (r32c rfl) (by decide) ?_
    exact ev_iret rfl dX10_costs_29 h
  · rw [if_neg c3] at h
    refine ev_aload_n (i := 0) dX10_costs_10 rfl rfl ?_
    refine ev_getR dX10_costs_11 fl_X10_19 sh_0 (by decide) (by decide) rf_0_1 ?_
    refine ev_aload_n (i := 0) dX10_costs_14 rfl rfl ?_
    refine ev_getR dX10_costs_15 fl_X10_19 sh_0 (by decide) (by decide) rf_0_1 ?_
    refine ev_getR dX10_costs_18 fl_X10_182 sh_4 (by decide) (by decide) rf_4_10 ?_
    refine ev_cVI (b := 4) (av := [vR 18]) (S := []) (fun q => q) h dX10_costs_21 (fun Q' q => TX0_costOfAll_4_18 _ q) kvX0_costOfAll ml_X10_185 sh_4 rfl (RRc (by decide) (by decide)) (Nat.le_of_ble_eq_true rfl) ⟨Nat.le_of_ble_eq_true rfl, Nat.le_of_ble_eq_true rfl⟩ (fun y2 f2 h => ?_)
    refine ev_goto (tgt := 29) dX10_costs_24 (by decide) ?_
    exact ev_iret rfl dX10_costs_29 h
def FX10_costs  (f : Mm) : Option (Int × Mm) := FX10_costs_0  f
set_option maxRecDepth 100000 in
theorem TX10_costs {G : GT} {l : Launch} {Q : Option AV → Mem → Prop}  (f : Mm) (h : OkI Q (FX10_costs  f)) : Ret G l MX10_costs (4) 0 0 [vR 0] (SH, RF, f) Q := by
  refine ret_of (L := [some (vR 0)]) (by decide) rfl (Nat.le_of_ble_eq_true rfl) ?_
  exact SX10_costs_0  f h
theorem dX3_begin_135 : decode cX3_begin 135 = .ok (.aload_n 0, 1) := by decide +kernel
theorem dX3_begin_136 : decode cX3_begin 136 = .ok (.getfield 9, 3) := by decide +kernel
theorem dX3_begin_139 : decode cX3_begin 139 = .ok (.iconst 0, 1) := by decide +kernel
theorem dX3_begin_140 : decode cX3_begin 140 = .ok (.iconst 0, 1) := by decide +kernel
theorem dX3_begin_141 : decode cX3_begin 141 = .ok (.iastore, 1) := by decide +kernel
theorem dX3_begin_142 : decode cX3_begin 142 = .ok (.aload_n 0, 1) := by decide +kernel
theorem dX3_begin_143 : decode cX3_begin 143 = .ok (.getfield 15, 3) := by decide +kernel
theorem dX3_begin_146 : decode cX3_begin 146 = .ok (.iconst 0, 1) := by decide +kernel
theorem dX3_begin_147 : decode cX3_begin 147 = .ok (.bipush 60, 2) := by decide +kernel
theorem dX3_begin_149 : decode cX3_begin 149 = .ok (.iastore, 1) := by decide +kernel
theorem dX3_begin_150 : decode cX3_begin 150 = .ok (.return_, 1) := by decide +kernel
theorem dX3_begin_116 : decode cX3_begin 116 = .ok (.iload_n 3, 1) := by decide +kernel
theorem dX3_begin_117 : decode cX3_begin 117 = .ok (.bipush 60, 2) := by decide +kernel
theorem dX3_begin_119 : decode cX3_begin 119 = .ok (.if_icmp .gt 16, 3) := by decide +kernel
theorem dX3_begin_122 : decode cX3_begin 122 = .ok (.aload_n 0, 1) := by decide +kernel
theorem dX3_begin_123 : decode cX3_begin 123 = .ok (.getfield 30, 3) := by decide +kernel
theorem dX3_begin_126 : decode cX3_begin 126 = .ok (.iload_n 3, 1) := by decide +kernel
theorem dX3_begin_127 : decode cX3_begin 127 = .ok (.iconst (-1), 1) := by decide +kernel
theorem dX3_begin_128 : decode cX3_begin 128 = .ok (.iastore, 1) := by decide +kernel
theorem dX3_begin_129 : decode cX3_begin 129 = .ok (.iinc 3 1, 3) := by decide +kernel
theorem dX3_begin_132 : decode cX3_begin 132 = .ok (.goto (-16), 3) := by decide +kernel
theorem dX3_begin_114 : decode cX3_begin 114 = .ok (.iconst 0, 1) := by decide +kernel
theorem dX3_begin_115 : decode cX3_begin 115 = .ok (.istore_n 3, 1) := by decide +kernel
theorem dX3_begin_74 : decode cX3_begin 74 = .ok (.iload_n 3, 1) := by decide +kernel
theorem dX3_begin_75 : decode cX3_begin 75 = .ok (.bipush 64, 2) := by decide +kernel
theorem dX3_begin_77 : decode cX3_begin 77 = .ok (.if_icmp .ge 37, 3) := by decide +kernel
theorem dX3_begin_80 : decode cX3_begin 80 = .ok (.aload_n 0, 1) := by decide +kernel
theorem dX3_begin_81 : decode cX3_begin 81 = .ok (.getfield 18, 3) := by decide +kernel
theorem dX3_begin_84 : decode cX3_begin 84 = .ok (.iload_n 3, 1) := by decide +kernel
theorem dX3_begin_85 : decode cX3_begin 85 = .ok (.iconst 0, 1) := by decide +kernel
theorem dX3_begin_86 : decode cX3_begin 86 = .ok (.iastore, 1) := by decide +kernel
theorem dX3_begin_87 : decode cX3_begin 87 = .ok (.aload_n 0, 1) := by decide +kernel
theorem dX3_begin_88 : decode cX3_begin 88 = .ok (.getfield 21, 3) := by decide +kernel
theorem dX3_begin_91 : decode cX3_begin 91 = .ok (.iload_n 3, 1) := by decide +kernel
theorem dX3_begin_92 : decode cX3_begin 92 = .ok (.iconst (-1), 1) := by decide +kernel
theorem dX3_begin_93 : decode cX3_begin 93 = .ok (.iastore, 1) := by decide +kernel
theorem dX3_begin_94 : decode cX3_begin 94 = .ok (.aload_n 0, 1) := by decide +kernel
theorem dX3_begin_95 : decode cX3_begin 95 = .ok (.getfield 24, 3) := by decide +kernel
theorem dX3_begin_98 : decode cX3_begin 98 = .ok (.iload_n 3, 1) := by decide +kernel
theorem dX3_begin_99 : decode cX3_begin 99 = .ok (.iconst 0, 1) := by decide +kernel
theorem dX3_begin_100 : decode cX3_begin 100 = .ok (.iastore, 1) := by decide +kernel
theorem dX3_begin_101 : decode cX3_begin 101 = .ok (.aload_n 0, 1) := by decide +kernel
theorem dX3_begin_102 : decode cX3_begin 102 = .ok (.getfield 27, 3) := by decide +kernel
theorem dX3_begin_105 : decode cX3_begin 105 = .ok (.iload_n 3, 1) := by decide +kernel
theorem dX3_begin_106 : decode cX3_begin 106 = .ok (.iconst (-1), 1) := by decide +kernel
theorem dX3_begin_107 : decode cX3_begin 107 = .ok (.iastore, 1) := by decide +kernel
theorem dX3_begin_108 : decode cX3_begin 108 = .ok (.iinc 3 1, 3) := by decide +kernel
theorem dX3_begin_111 : decode cX3_begin 111 = .ok (.goto (-37), 3) := by decide +kernel
theorem dX3_begin_72 : decode cX3_begin 72 = .ok (.iconst 0, 1) := by decide +kernel
theorem dX3_begin_73 : decode cX3_begin 73 = .ok (.istore_n 3, 1) := by decide +kernel
theorem dX3_begin_53 : decode cX3_begin 53 = .ok (.iload_n 3, 1) := by decide +kernel
theorem dX3_begin_54 : decode cX3_begin 54 = .ok (.bipush 6, 2) := by decide +kernel
theorem dX3_begin_56 : decode cX3_begin 56 = .ok (.if_icmp .ge 16, 3) := by decide +kernel
theorem dX3_begin_59 : decode cX3_begin 59 = .ok (.aload_n 0, 1) := by decide +kernel
theorem dX3_begin_60 : decode cX3_begin 60 = .ok (.getfield 36, 3) := by decide +kernel
theorem dX3_begin_63 : decode cX3_begin 63 = .ok (.iload_n 3, 1) := by decide +kernel
theorem dX3_begin_64 : decode cX3_begin 64 = .ok (.iconst (-1), 1) := by decide +kernel
theorem dX3_begin_65 : decode cX3_begin 65 = .ok (.iastore, 1) := by decide +kernel
theorem dX3_begin_66 : decode cX3_begin 66 = .ok (.iinc 3 1, 3) := by decide +kernel
theorem dX3_begin_69 : decode cX3_begin 69 = .ok (.goto (-16), 3) := by decide +kernel
theorem dX3_begin_51 : decode cX3_begin 51 = .ok (.iconst 0, 1) := by decide +kernel
theorem dX3_begin_52 : decode cX3_begin 52 = .ok (.istore_n 3, 1) := by decide +kernel
theorem dX3_begin_25 : decode cX3_begin 25 = .ok (.iload_n 3, 1) := by decide +kernel
theorem dX3_begin_26 : decode cX3_begin 26 = .ok (.bipush 6, 2) := by decide +kernel
theorem dX3_begin_28 : decode cX3_begin 28 = .ok (.if_icmp .ge 23, 3) := by decide +kernel
theorem dX3_begin_31 : decode cX3_begin 31 = .ok (.aload_n 2, 1) := by decide +kernel
theorem dX3_begin_32 : decode cX3_begin 32 = .ok (.getfield 89, 3) := by decide +kernel
theorem dX3_begin_35 : decode cX3_begin 35 = .ok (.iload_n 3, 1) := by decide +kernel
theorem dX3_begin_36 : decode cX3_begin 36 = .ok (.iconst (-1), 1) := by decide +kernel
theorem dX3_begin_37 : decode cX3_begin 37 = .ok (.iastore, 1) := by decide +kernel
theorem dX3_begin_38 : decode cX3_begin 38 = .ok (.aload_n 0, 1) := by decide +kernel
theorem dX3_begin_39 : decode cX3_begin 39 = .ok (.getfield 33, 3) := by decide +kernel
theorem dX3_begin_42 : decode cX3_begin 42 = .ok (.iload_n 3, 1) := by decide +kernel
theorem dX3_begin_43 : decode cX3_begin 43 = .ok (.iconst 0, 1) := by decide +kernel
theorem dX3_begin_44 : decode cX3_begin 44 = .ok (.iastore, 1) := by decide +kernel
theorem dX3_begin_45 : decode cX3_begin 45 = .ok (.iinc 3 1, 3) := by decide +kernel
theorem dX3_begin_48 : decode cX3_begin 48 = .ok (.goto (-23), 3) := by decide +kernel
theorem dX3_begin_0 : decode cX3_begin 0 = .ok (.aload_n 0, 1) := by decide +kernel
theorem dX3_begin_1 : decode cX3_begin 1 = .ok (.aload_n 1, 1) := by decide +kernel
theorem dX3_begin_2 : decode cX3_begin 2 = .ok (.getfield 79, 3) := by decide +kernel
theorem dX3_begin_5 : decode cX3_begin 5 = .ok (.putfield 47, 3) := by decide +kernel
theorem dX3_begin_8 : decode cX3_begin 8 = .ok (.aload_n 0, 1) := by decide +kernel
theorem dX3_begin_9 : decode cX3_begin 9 = .ok (.aload_n 1, 1) := by decide +kernel
theorem dX3_begin_10 : decode cX3_begin 10 = .ok (.getfield 82, 3) := by decide +kernel
theorem dX3_begin_13 : decode cX3_begin 13 = .ok (.iconst 1, 1) := by decide +kernel
theorem dX3_begin_14 : decode cX3_begin 14 = .ok (.iadd, 1) := by decide +kernel
theorem dX3_begin_15 : decode cX3_begin 15 = .ok (.putfield 51, 3) := by decide +kernel
theorem dX3_begin_18 : decode cX3_begin 18 = .ok (.aload_n 2, 1) := by decide +kernel
theorem dX3_begin_19 : decode cX3_begin 19 = .ok (.aload_n 1, 1) := by decide +kernel
theorem dX3_begin_20 : decode cX3_begin 20 = .ok (.invokevirtual 85, 3) := by decide +kernel
theorem dX3_begin_23 : decode cX3_begin 23 = .ok (.iconst 0, 1) := by decide +kernel
theorem dX3_begin_24 : decode cX3_begin 24 = .ok (.istore_n 3, 1) := by decide +kernel
def FX3_begin_57_4_48_135   (f : Mm) : Option Mm := some (up (up f 58 0 0) 59 0 60)
set_option maxHeartbeats 4000000 in
set_option maxRecDepth 100000 in
theorem SX3_begin_57_4_48_135 {G : GT} {l : Launch} {Q : Option AV → Mem → Prop}   (f : Mm) (h : OkV Q (FX3_begin_57_4_48_135   f)) : Ev G l MX3_begin (Rm 2 0 0) (ZM G Q 0 0) 0 0 135 [some (vR 57), none, none, none] [] (SH, RF, f) := by
  unfold FX3_begin_57_4_48_135 at h
  refine ev_aload_n (i := 0) dX3_begin_135 rfl rfl ?_
  refine ev_getR dX3_begin_136 fl_X3_9 sh_57 (by decide) (by decide) rf_57_3 ?_
  refine ev_iconst dX3_begin_139 (r32c rfl) ?_
  refine ev_iconst dX3_begin_140 (r32c rfl) ?_
  refine ex_iast (j := 0) dX3_begin_141 sh_58 (by decide) (by decide) rfl ?_
  refine ev_aload_n (i := 0) dX3_begin_142 rfl rfl ?_
  refine ev_getR dX3_begin_143 fl_X3_15 sh_57 (by decide) (by decide) rf_57_4 ?_
  refine ev_iconst dX3_begin_146 (r32c rfl) ?_
  refine ev_bipush (v := 60) dX3_begin_147 (r32c rfl) (by decide) ?_
  refine ex_iast (j := 0) dX3_begin_149 sh_59 (by decide) (by decide) rfl ?_
  exact ev_vret rfl dX3_begin_150 h
def FX3_begin_57_4_48_116  : Nat → Int → Mm → Option Mm
  | 0, _, _ => none
  | n + 1, x3, f => (if 60 < x3 then FX3_begin_57_4_48_135 f else (if 0 ≤ x3 ∧ x3 < 61 then FX3_begin_57_4_48_116 n (w32 (x3 + 1)) (up f 64 x3.toNat (-1)) else none))
set_option maxHeartbeats 4000000 in
set_option maxRecDepth 100000 in
theorem SX3_begin_57_4_48_116 {G : GT} {l : Launch} {Q : Option AV → Mem → Prop}  : ∀ (n : Nat) (x3 : Int) (f : Mm), OkV Q (FX3_begin_57_4_48_116  n x3 f) → Ev G l MX3_begin (Rm 2 0 0) (ZM G Q 0 0) 0 0 116 [some (vR 57), none, none, some (vI x3)] [] (SH, RF, f) := by
  intro n
  induction n with
  | zero => intro x3 f h; exact absurd h (by rw [FX3_begin_57_4_48_116]; exact fun q => q)
  | succ n ih =>
    intro x3 f h
    rw [FX3_begin_57_4_48_116] at h
    refine ev_iload_n (i := 3) dX3_begin_116 rfl rfl ?_
    refine ev_bipush (v := 60) dX3_begin_117 (r32c rfl) (by decide) ?_
    refine ev_icmp_gt (tgt := 135) dX3_begin_119 (by decide) (fun c2 => ?_) (fun c2 => ?_)
    · rw [if_pos c2] at h
      refine ev_fg [true, true, true, false] rfl ?_
      exact SX3_begin_57_4_48_135   _ h
    · rw [if_neg c2] at h
      refine ev_aload_n (i := 0) dX3_begin_122 rfl rfl ?_
      refine ev_getR dX3_begin_123 fl_X3_30 sh_57 (by decide) (by decide) rf_57_9 ?_
      refine ev_iload_n (i := 3) dX3_begin_126 rfl rfl ?_
      refine ev_iconst dX3_begin_127 (r32c rfl) ?_
      by_cases g1 : 0 ≤ x3 ∧ x3 < 61
      · rw [if_pos g1] at h
        refine ex_iast (j := x3.toNat) dX3_begin_128 sh_64 g1.1 g1.2 rfl ?_
        refine ev_iinc (L' := [some (vR 57), none, none, some (vI (w32 (x3 + 1)))]) dX3_begin_129 rfl (by decide) rfl ?_
        refine ev_goto (tgt := 116) dX3_begin_132 (by decide) ?_
        exact ih (w32 (x3 + 1)) _ h
      · rw [if_neg g1] at h; exact h.elim
def FX3_begin_57_4_48_114   (f : Mm) : Option Mm := FX3_begin_57_4_48_116 fu 0 f
set_option maxHeartbeats 4000000 in
set_option maxRecDepth 100000 in
theorem SX3_begin_57_4_48_114 {G : GT} {l : Launch} {Q : Option AV → Mem → Prop}   (f : Mm) (h : OkV Q (FX3_begin_57_4_48_114   f)) : Ev G l MX3_begin (Rm 2 0 0) (ZM G Q 0 0) 0 0 114 [some (vR 57), none, none, none] [] (SH, RF, f) := by
  unfold FX3_begin_57_4_48_114 at h
  refine ev_iconst dX3_begin_114 (r32c rfl) ?_
  refine ev_istore_n (i := 3) (L' := [some (vR 57), none, none, some (vI 0)]) dX3_begin_115 rfl (by decide) rfl ?_
  exact SX3_begin_57_4_48_116  fu 0 _ h
def FX3_begin_57_4_48_74  : Nat → Int → Mm → Option Mm
  | 0, _, _ => none
  | n + 1, x3, f => (if 64 ≤ x3 then FX3_begin_57_4_48_114 f else (if 0 ≤ x3 ∧ x3 < 64 then (if 0 ≤ x3 ∧ x3 < 64 then (if 0 ≤ x3 ∧ x3 < 64 then (if 0 ≤ x3 ∧ x3 < 64 then FX3_begin_57_4_48_74 n (w32 (x3 + 1)) (up (up (up (up f 60 x3.toNat 0) 61 x3.toNat (-1)) 62 x3.toNat 0) 63 x3.toNat (-1)) else none) else none) else none) else none))
set_option maxHeartbeats 4000000 in
set_option maxRecDepth 100000 in
theorem SX3_begin_57_4_48_74 {G : GT} {l : Launch} {Q : Option AV → Mem → Prop}  : ∀ (n : Nat) (x3 : Int) (f : Mm), OkV Q (FX3_begin_57_4_48_74  n x3 f) → Ev G l MX3_begin (Rm 2 0 0) (ZM G Q 0 0) 0 0 74 [some (vR 57), none, none, some (vI x3)] [] (SH, RF, f) := by
  intro n
  induction n with
  | zero => intro x3 f h; exact absurd h (by rw [FX3_begin_57_4_48_74]; exact fun q => q)
  | succ n ih =>
    intro x3 f h
    rw [FX3_begin_57_4_48_74] at h
    refine ev_iload_n (i := 3) dX3_begin_74 rfl rfl ?_
    refine ev_bipush (v := 64) dX3_begin_75 (r32c rfl) (by decide) ?_
    refine ev_icmp_ge (tgt := 114) dX3_begin_77 (by decide) (fun c5 => ?_) (fun c5 => ?_)
    · rw [if_pos c5] at h
      refine ev_fg [true, true, true, false] rfl ?_
      exact SX3_begin_57_4_48_114   _ h
    · rw [if_neg c5] at h
      refine ev_aload_n (i := 0) dX3_begin_80 rfl rfl ?_
      refine ev_getR dX3_begin_81 fl_X3_18 sh_57 (by decide) (by decide) rf_57_5 ?_
      refine ev_iload_n (i := 3) dX3_begin_84 rfl rfl ?_
      refine ev_iconst dX3_begin_85 (r32c rfl) ?_
      by_cases g1 : 0 ≤ x3 ∧ x3 < 64
      · rw [if_pos g1] at h
        refine ex_iast (j := x3.toNat) dX3_begin_86 sh_60 g1.1 g1.2 rfl ?_
        refine ev_aload_n (i := 0) dX3_begin_87 rfl rfl ?_
        refine ev_getR dX3_begin_88 fl_X3_21 sh_57 (by decide) (by decide) rf_57_6 ?_
        refine ev_iload_n (i := 3) dX3_begin_91 rfl rfl ?_
        refine ev_iconst dX3_begin_92 (r32c rfl) ?_
        by_cases g2 : 0 ≤ x3 ∧ x3 < 64
        · rw [if_pos g2] at h
          refine ex_iast (j := x3.toNat) dX3_begin_93 sh_61 g2.1 g2.2 rfl ?_
          refine ev_aload_n (i := 0) dX3_begin_94 rfl rfl ?_
          refine ev_getR dX3_begin_95 fl_X3_24 sh_57 (by decide) (by decide) rf_57_7 ?_
          refine ev_iload_n (i := 3) dX3_begin_98 rfl rfl ?_
          refine ev_iconst dX3_begin_99 (r32c rfl) ?_
          by_cases g3 : 0 ≤ x3 ∧ x3 < 64
          · rw [if_pos g3] at h
            refine ex_iast (j := x3.toNat) dX3_begin_100 sh_62 g3.1 g3.2 rfl ?_
            refine ev_aload_n (i := 0) dX3_begin_101 rfl rfl ?_
            refine ev_getR dX3_begin_102 fl_X3_27 sh_57 (by decide) (by decide) rf_57_8 ?_
            refine ev_iload_n (i := 3) dX3_begin_105 rfl rfl ?_
            refine ev_iconst dX3_begin_106 (r32c rfl) ?_
            by_cases g4 : 0 ≤ x3 ∧ x3 < 64
            · rw [if_pos g4] at h
              refine ex_iast (j := x3.toNat) dX3_begin_107 sh_63 g4.1 g4.2 rfl ?_
              refine ev_iinc (L' := [some (vR 57), none, none, some (vI (w32 (x3 + 1)))]) dX3_begin_108 rfl (by decide) rfl ?_
              refine ev_goto (tgt := 74) dX3_begin_111 (by decide) ?_
              exact ih (w32 (x3 + 1)) _ h
            · rw [if_neg g4] at h; exact h.elim
          · rw [if_neg g3] at h; exact h.elim
        · rw [if_neg g2] at h; exact h.elim
      · rw [if_neg g1] at h; exact h.elim
def FX3_begin_57_4_48_72   (f : Mm) : Option Mm := FX3_begin_57_4_48_74 fu 0 f
set_option maxHeartbeats 4000000 in
set_option maxRecDepth 100000 in
theorem SX3_begin_57_4_48_72 {G : GT} {l : Launch} {Q : Option AV → Mem → Prop}   (f : Mm) (h : OkV Q (FX3_begin_57_4_48_72   f)) : Ev G l MX3_begin (Rm 2 0 0) (ZM G Q 0 0) 0 0 72 [some (vR 57), none, none, none] [] (SH, RF, f) := by
  unfold FX3_begin_57_4_48_72 at h
  refine ev_iconst dX3_begin_72 (r32c rfl) ?_
  refine ev_istore_n (i := 3) (L' := [some (vR 57), none, none, some (vI 0)]) dX3_begin_73 rfl (by decide) rfl ?_
  exact SX3_begin_57_4_48_74  fu 0 _ h
def FX3_begin_57_4_48_53  : Nat → Int → Mm → Option Mm
  | 0, _, _ => none
  | n + 1, x3, f => (if 6 ≤ x3 then FX3_begin_57_4_48_72 f else (if 0 ≤ x3 ∧ x3 < 6 then FX3_begin_57_4_48_53 n (w32 (x3 + 1)) (up f 66 x3.toNat (-1)) else none))
set_option maxHeartbeats 4000000 in
set_option maxRecDepth 100000 in
theorem SX3_begin_57_4_48_53 {G : GT} {l : Launch} {Q : Option AV → Mem → Prop}  : ∀ (n : Nat) (x3 : Int) (f : Mm), OkV Q (FX3_begin_57_4_48_53  n x3 f) → Ev G l MX3_begin (Rm 2 0 0) (ZM G Q 0 0) 0 0 53 [some (vR 57), none, none, some (vI x3)] [] (SH, RF, f) := by
  intro n
  induction n with
  | zero => intro x3 f h; exact absurd h (by rw [FX3_begin_57_4_48_53]; exact fun q => q)
  | succ n ih =>
    intro x3 f h
    rw [FX3_begin_57_4_48_53] at h
    refine ev_iload_n (i := 3) dX3_begin_53 rfl rfl ?_
    refine ev_bipush (v := 6) dX3_begin_54 (r32c rfl) (by decide) ?_
    refine ev_icmp_ge (tgt := 72) dX3_begin_56 (by decide) (fun c2 => ?_) (fun c2 => ?_)
    · rw [if_pos c2] at h
      refine ev_fg [true, true, true, false] rfl ?_
      exact SX3_begin_57_4_48_72   _ h
    · rw [if_neg c2] at h
      refine ev_aload_n (i := 0) dX3_begin_59 rfl rfl ?_
      refine ev_getR dX3_begin_60 fl_X3_36 sh_57 (by decide) (by decide) rf_57_11 ?_
      refine ev_iload_n (i := 3) dX3_begin_63 rfl rfl ?_
      refine ev_iconst dX3_begin_64 (r32c rfl) ?_
      by_cases g1 : 0 ≤ x3 ∧ x3 < 6
      · rw [if_pos g1] at h
        refine ex_iast (j := x3.toNat) dX3_begin_65 sh_66 g1.1 g1.2 rfl ?_
        refine ev_iinc (L' := [some (vR 57), none, none, some (vI (w32 (x3 + 1)))]) dX3_begin_66 rfl (by decide) rfl ?_
        refine ev_goto (tgt := 53) dX3_begin_69 (by decide) ?_
        exact ih (w32 (x3 + 1)) _ h
      · rw [if_neg g1] at h; exact h.elim
def FX3_begin_57_4_48_51   (f : Mm) : Option Mm := FX3_begin_57_4_48_53 fu 0 f
set_option maxHeartbeats 4000000 in
set_option maxRecDepth 100000 in
theorem SX3_begin_57_4_48_51 {G : GT} {l : Launch} {Q : Option AV → Mem → Prop}   (f : Mm) (h : OkV Q (FX3_begin_57_4_48_51   f)) : Ev G l MX3_begin (Rm 2 0 0) (ZM G Q 0 0) 0 0 51 [some (vR 57), none, none, none] [] (SH, RF, f) := by
  unfold FX3_begin_57_4_48_51 at h
  refine ev_iconst dX3_begin_51 (r32c rfl) ?_
  refine ev_istore_n (i := 3) (L' := [some (vR 57), none, none, some (vI 0)]) dX3_begin_52 rfl (by decide) rfl ?_
  exact SX3_begin_57_4_48_53  fu 0 _ h
def FX3_begin_57_4_48_25  : Nat → Int → Mm → Option Mm
  | 0, _, _ => none
  | n + 1, x3, f => (if 6 ≤ x3 then FX3_begin_57_4_48_51 f else (if 0 ≤ x3 ∧ x3 < 6 then (if 0 ≤ x3 ∧ x3 < 6 then FX3_begin_57_4_48_25 n (w32 (x3 + 1)) (up (up f 49 x3.toNat (-1)) 65 x3.toNat 0) else none) else none))
set_option maxHeartbeats 4000000 in
set_option maxRecDepth 100000 in
theorem SX3_begin_57_4_48_25 {G : GT} {l : Launch} {Q : Option AV → Mem → Prop}  : ∀ (n : Nat) (x3 : Int) (f : Mm), OkV Q (FX3_begin_57_4_48_25  n x3 f) → Ev G l MX3_begin (Rm 2 0 0) (ZM G Q 0 0) 0 0 25 [some (vR 57), none, some (vR 48), some (vI x3)] [] (SH, RF, f) := by
  intro n
  induction n with
  | zero => intro x3 f h; exact absurd h (by rw [FX3_begin_57_4_48_25]; exact fun q => q)
  | succ n ih =>
    intro x3 f h
    rw [FX3_begin_57_4_48_25] at h
    refine ev_iload_n (i := 3) dX3_begin_25 rfl rfl ?_
    refine ev_bipush (v := 6) dX3_begin_26 (r32c rfl) (by decide) ?_
    refine ev_icmp_ge (tgt := 51) dX3_begin_28 (by decide) (fun c3 => ?_) (fun c3 => ?_)
    · rw [if_pos c3] at h
      refine ev_fg [true, true, false, false] rfl ?_
      exact SX3_begin_57_4_48_51   _ h
    · rw [if_neg c3] at h
      refine ev_aload_n (i := 2) dX3_begin_31 rfl rfl ?_
      refine ev_getR dX3_begin_32 fl_X3_89 sh_48 (by decide) (by decide) rf_48_0 ?_
      refine ev_iload_n (i := 3) dX3_begin_35 rfl rfl ?_
      refine ev_iconst dX3_begin_36 (r32c rfl) ?_
      by_cases g1 : 0 ≤ x3 ∧ x3 < 6
      · rw [if_pos g1] at h
        refine ex_iast (j := x3.toNat) dX3_begin_37 sh_49 g1.1 g1.2 rfl ?_
        refine ev_aload_n (i := 0) dX3_begin_38 rfl rfl ?_
        refine ev_getR dX3_begin_39 fl_X3_33 sh_57 (by decide) (by decide) rf_57_10 ?_
        refine ev_iload_n (i := 3) dX3_begin_42 rfl rfl ?_
        refine ev_iconst dX3_begin_43 (r32c rfl) ?_
        by_cases g2 : 0 ≤ x3 ∧ x3 < 6
        · rw [if_pos g2] at h
          refine ex_iast (j := x3.toNat) dX3_begin_44 sh_65 g2.1 g2.2 rfl ?_
          refine ev_iinc (L' := [some (vR 57), none, some (vR 48), some (vI (w32 (x3 + 1)))]) dX3_begin_45 rfl (by decide) rfl ?_
          refine ev_goto (tgt := 25) dX3_begin_48 (by decide) ?_
          exact ih (w32 (x3 + 1)) _ h
        · rw [if_neg g2] at h; exact h.elim
      · rw [if_neg g1] at h; exact h.elim
def FX3_begin_57_4_48_0   (f : Mm) : Option Mm := ((FX1_asDone_48_4 (up (up f 57 1 (f 4 1)) 57 2 (w32 ((f 4 4) + 1)))).bind fun f1 => FX3_begin_57_4_48_25 fu 0 f1)
set_option maxHeartbeats 4000000 in
set_option maxRecDepth 100000 in
theorem SX3_begin_57_4_48_0 {G : GT} {l : Launch} {Q : Option AV → Mem → Prop}   (f : Mm) (h : OkV Q (FX3_begin_57_4_48_0   f)) : Ev G l MX3_begin (Rm 2 0 0) (ZM G Q 0 0) 0 0 0 [some (vR 57), some (vR 4), some (vR 48), none] [] (SH, RF, f) := by
  unfold FX3_begin_57_4_48_0 at h
  refine ev_aload_n (i := 0) dX3_begin_0 rfl rfl ?_
  refine ev_aload_n (i := 1) dX3_begin_1 rfl rfl ?_
  refine ex_getI (x := (f 4 1)) dX3_begin_2 fl_X3_79 sh_4 (by decide) (by decide) rfl ?_
  refine ev_putI dX3_begin_5 fl_X3_47 sh_57 (by decide) (by decide) ?_
  refine ev_aload_n (i := 0) dX3_begin_8 rfl rfl ?_
  refine ev_aload_n (i := 1) dX3_begin_9 rfl rfl ?_
  refine ex_getI (x := (f 4 4)) dX3_begin_10 fl_X3_82 sh_4 (by decide) (by decide) rfl ?_
  refine ev_iconst dX3_begin_13 (r32c rfl) ?_
  refine ev_iadd dX3_begin_14 ?_
  refine ev_putI dX3_begin_15 fl_X3_51 sh_57 (by decide) (by decide) ?_
  refine ev_aload_n (i := 2) dX3_begin_18 rfl rfl ?_
  refine ev_aload_n (i := 1) dX3_begin_19 rfl rfl ?_
  refine ev_cVV (b := 48) (av := [vR 4]) (S := []) (fun q => q) h dX3_begin_20 (fun Q' q => TX1_asDone_48_4 _ q) kvX1_asDone ml_X3_85 sh_48 rfl (RRc (by decide) (by decide)) (Nat.le_of_ble_eq_true rfl) ⟨Nat.le_of_ble_eq_true rfl, Nat.le_of_ble_eq_true rfl⟩ (fun f1 h => ?_)
  refine ev_iconst dX3_begin_23 (r32c rfl) ?_
  refine ev_istore_n (i := 3) (L' := [some (vR 57), some (vR 4), some (vR 48), some (vI 0)]) dX3_begin_24 rfl (by decide) rfl ?_
  refine ev_fg [true, false, true, true] rfl ?_
  exact SX3_begin_57_4_48_25  fu 0 _ h
def FX3_begin_57_4_48  (f : Mm) : Option Mm := FX3_begin_57_4_48_0  f
set_option maxRecDepth 100000 in
theorem TX3_begin_57_4_48 {G : GT} {l : Launch} {Q : Option AV → Mem → Prop}  (f : Mm) (h : OkV Q (FX3_begin_57_4_48  f)) : Ret G l MX3_begin (2) 0 0 [vR 57, vR 4, vR 48] (SH, RF, f) Q := by
  refine ret_of (L := [some (vR 57), some (vR 4), some (vR 48), none]) (by decide) rfl (Nat.le_of_ble_eq_true rfl) ?_
  exact SX3_begin_57_4_48_0  f h
theorem dX3_note_132 : decode cX3_note 132 = .ok (.iinc 6 1, 3) := by decide +kernel
theorem dX3_note_135 : decode cX3_note 135 = .ok (.goto (-57), 3) := by decide +kernel
theorem dX3_note_124 : decode cX3_note 124 = .ok (.aload_n 0, 1) := by decide +kernel
theorem dX3_note_125 : decode cX3_note 125 = .ok (.getfield 36, 3) := by decide +kernel
theorem dX3_note_128 : decode cX3_note 128 = .ok (.iload 6, 2) := by decide +kernel
theorem dX3_note_130 : decode cX3_note 130 = .ok (.iload_n 3, 1) := by decide +kernel
theorem dX3_note_131 : decode cX3_note 131 = .ok (.iastore, 1) := by decide +kernel
theorem dX3_note_78 : decode cX3_note 78 = .ok (.iload 6, 2) := by decide +kernel
theorem dX3_note_80 : decode cX3_note 80 = .ok (.aload_n 1, 1) := by decide +kernel
theorem dX3_note_81 : decode cX3_note 81 = .ok (.getfield 111, 3) := by decide +kernel
theorem dX3_note_84 : decode cX3_note 84 = .ok (.if_icmp .ge 54, 3) := by decide +kernel
theorem dX3_note_138 : decode cX3_note 138 = .ok (.return_, 1) := by decide +kernel
theorem dX3_note_87 : decode cX3_note 87 = .ok (.iload 5, 2) := by decide +kernel
theorem dX3_note_89 : decode cX3_note 89 = .ok (.ifCond .eq 49, 3) := by decide +kernel
theorem dX3_note_92 : decode cX3_note 92 = .ok (.iload 5, 2) := by decide +kernel
theorem dX3_note_94 : decode cX3_note 94 = .ok (.iload 6, 2) := by decide +kernel
theorem dX3_note_96 : decode cX3_note 96 = .ok (.invokestatic 114, 3) := by decide +kernel
theorem dX3_note_99 : decode cX3_note 99 = .ok (.ifCond .eq 33, 3) := by decide +kernel
theorem dX3_note_102 : decode cX3_note 102 = .ok (.aload_n 0, 1) := by decide +kernel
theorem dX3_note_103 : decode cX3_note 103 = .ok (.getfield 36, 3) := by decide +kernel
theorem dX3_note_106 : decode cX3_note 106 = .ok (.iload 6, 2) := by decide +kernel
theorem dX3_note_108 : decode cX3_note 108 = .ok (.iaload, 1) := by decide +kernel
theorem dX3_note_109 : decode cX3_note 109 = .ok (.iconst (-1), 1) := by decide +kernel
theorem dX3_note_110 : decode cX3_note 110 = .ok (.if_icmp .eq 14, 3) := by decide +kernel
theorem dX3_note_113 : decode cX3_note 113 = .ok (.iload_n 3, 1) := by decide +kernel
theorem dX3_note_114 : decode cX3_note 114 = .ok (.aload_n 0, 1) := by decide +kernel
theorem dX3_note_115 : decode cX3_note 115 = .ok (.getfield 36, 3) := by decide +kernel
theorem dX3_note_118 : decode cX3_note 118 = .ok (.iload 6, 2) := by decide +kernel
theorem dX3_note_120 : decode cX3_note 120 = .ok (.iaload, 1) := by decide +kernel
theorem dX3_note_121 : decode cX3_note 121 = .ok (.if_icmp .ge 11, 3) := by decide +kernel
theorem dX3_note_0 : decode cX3_note 0 = .ok (.aload_n 2, 1) := by decide +kernel
theorem dX3_note_1 : decode cX3_note 1 = .ok (.iload_n 3, 1) := by decide +kernel
theorem dX3_note_2 : decode cX3_note 2 = .ok (.invokevirtual 92, 3) := by decide +kernel
theorem dX3_note_5 : decode cX3_note 5 = .ok (.istore 4, 2) := by decide +kernel
theorem dX3_note_7 : decode cX3_note 7 = .ok (.aload_n 0, 1) := by decide +kernel
theorem dX3_note_8 : decode cX3_note 8 = .ok (.getfield 9, 3) := by decide +kernel
theorem dX3_note_11 : decode cX3_note 11 = .ok (.iload_n 3, 1) := by decide +kernel
theorem dX3_note_12 : decode cX3_note 12 = .ok (.iconst 1, 1) := by decide +kernel
theorem dX3_note_13 : decode cX3_note 13 = .ok (.iadd, 1) := by decide +kernel
theorem dX3_note_14 : decode cX3_note 14 = .ok (.aload_n 0, 1) := by decide +kernel
theorem dX3_note_15 : decode cX3_note 15 = .ok (.getfield 9, 3) := by decide +kernel
theorem dX3_note_18 : decode cX3_note 18 = .ok (.iload_n 3, 1) := by decide +kernel
theorem dX3_note_19 : decode cX3_note 19 = .ok (.iaload, 1) := by decide +kernel
theorem dX3_note_20 : decode cX3_note 20 = .ok (.aload_n 1, 1) := by decide +kernel
theorem dX3_note_21 : decode cX3_note 21 = .ok (.aload_n 2, 1) := by decide +kernel
theorem dX3_note_22 : decode cX3_note 22 = .ok (.getfield 89, 3) := by decide +kernel
theorem dX3_note_25 : decode cX3_note 25 = .ok (.iload_n 3, 1) := by decide +kernel
theorem dX3_note_26 : decode cX3_note 26 = .ok (.iaload, 1) := by decide +kernel
theorem dX3_note_27 : decode cX3_note 27 = .ok (.invokevirtual 96, 3) := by decide +kernel
theorem dX3_note_30 : decode cX3_note 30 = .ok (.iadd, 1) := by decide +kernel
theorem dX3_note_31 : decode cX3_note 31 = .ok (.iastore, 1) := by decide +kernel
theorem dX3_note_32 : decode cX3_note 32 = .ok (.aload_n 0, 1) := by decide +kernel
theorem dX3_note_33 : decode cX3_note 33 = .ok (.getfield 15, 3) := by decide +kernel
theorem dX3_note_36 : decode cX3_note 36 = .ok (.iload_n 3, 1) := by decide +kernel
theorem dX3_note_37 : decode cX3_note 37 = .ok (.iconst 1, 1) := by decide +kernel
theorem dX3_note_38 : decode cX3_note 38 = .ok (.iadd, 1) := by decide +kernel
theorem dX3_note_39 : decode cX3_note 39 = .ok (.aload_n 0, 1) := by decide +kernel
theorem dX3_note_40 : decode cX3_note 40 = .ok (.getfield 15, 3) := by decide +kernel
theorem dX3_note_43 : decode cX3_note 43 = .ok (.iload_n 3, 1) := by decide +kernel
theorem dX3_note_44 : decode cX3_note 44 = .ok (.iaload, 1) := by decide +kernel
theorem dX3_note_45 : decode cX3_note 45 = .ok (.iload 4, 2) := by decide +kernel
theorem dX3_note_47 : decode cX3_note 47 = .ok (.invokestatic 99, 3) := by decide +kernel
theorem dX3_note_50 : decode cX3_note 50 = .ok (.iastore, 1) := by decide +kernel
theorem dX3_note_51 : decode cX3_note 51 = .ok (.aload_n 0, 1) := by decide +kernel
theorem dX3_note_52 : decode cX3_note 52 = .ok (.getfield 33, 3) := by decide +kernel
theorem dX3_note_55 : decode cX3_note 55 = .ok (.iload_n 3, 1) := by decide +kernel
theorem dX3_note_56 : decode cX3_note 56 = .ok (.aload_n 0, 1) := by decide +kernel
theorem dX3_note_57 : decode cX3_note 57 = .ok (.getfield 33, 3) := by decide +kernel
theorem dX3_note_60 : decode cX3_note 60 = .ok (.iload_n 3, 1) := by decide +kernel
theorem dX3_note_61 : decode cX3_note 61 = .ok (.iaload, 1) := by decide +kernel
theorem dX3_note_62 : decode cX3_note 62 = .ok (.iload 4, 2) := by decide +kernel
theorem dX3_note_64 : decode cX3_note 64 = .ok (.invokestatic 105, 3) := by decide +kernel
theorem dX3_note_67 : decode cX3_note 67 = .ok (.iastore, 1) := by decide +kernel
theorem dX3_note_68 : decode cX3_note 68 = .ok (.aload_n 2, 1) := by decide +kernel
theorem dX3_note_69 : decode cX3_note 69 = .ok (.iload_n 3, 1) := by decide +kernel
theorem dX3_note_70 : decode cX3_note 70 = .ok (.invokevirtual 108, 3) := by decide +kernel
theorem dX3_note_73 : decode cX3_note 73 = .ok (.istore 5, 2) := by decide +kernel
theorem dX3_note_75 : decode cX3_note 75 = .ok (.iconst 0, 1) := by decide +kernel
theorem dX3_note_76 : decode cX3_note 76 = .ok (.istore 6, 2) := by decide +kernel
def FX3_note_57_4_48_132 (k78 : Int → Int → Int → Mm → Option Mm) (x3 : Int) (x5 : Int) (x6 : Int) (f : Mm) : Option Mm := k78 x3 x5 (w32 (x6 + 1)) f
set_option maxHeartbeats 4000000 in
set_option maxRecDepth 100000 in
theorem SX3_note_57_4_48_132 {G : GT} {l : Launch} {Q : Option AV → Mem → Prop} {k78 : Int → Int → Int → Mm → Option Mm} (q78 : ∀ (x3 : Int) (x5 : Int) (x6 : Int) (f : Mm), OkV Q (k78 x3 x5 x6 f) → Ev G l MX3_note (Rm 3 0 0) (ZM G Q 0 0) 0 0 78 [some (vR 57), some (vR 4), none, some (vI x3), none, some (vI x5), some (vI x6)] [] (SH, RF, f)) (x3 : Int) (x5 : Int) (x6 : Int) (f : Mm) (h : OkV Q (FX3_note_57_4_48_132 k78 x3 x5 x6 f)) : Ev G l MX3_note (Rm 3 0 0) (ZM G Q 0 0) 0 0 132 [some (vR 57), some (vR 4), none, some (vI x3), none, some (vI x5), some (vI x6)] [] (SH, RF, f) := by
  unfold FX3_note_57_4_48_132 at h
  refine ev_iinc (L' := [some (vR 57), some (vR 4), none, some (vI x3), none, some (vI x5), some (vI (w32 (x6 + 1)))]) dX3_note_132 rfl (by decide) rfl ?_
  refine ev_goto (tgt := 78) dX3_note_135 (by decide) ?_
  exact q78 x3 x5 (w32 (x6 + 1)) _ h
def FX3_note_57_4_48_124 (k78 : Int → Int → Int → Mm → Option Mm) (x3 : Int) (x5 : Int) (x6 : Int) (f : Mm) : Option Mm := (if 0 ≤ x6 ∧ x6 < 6 then FX3_note_57_4_48_132 k78 x3 x5 x6 (up f 66 x6.toNat x3) else none)
set_option maxHeartbeats 4000000 in
set_option maxRecDepth 100000 in
theorem SX3_note_57_4_48_124 {G : GT} {l : Launch} {Q : Option AV → Mem → Prop} {k78 : Int → Int → Int → Mm → Option Mm} (q78 : ∀ (x3 : Int) (x5 : Int) (x6 : Int) (f : Mm), OkV Q (k78 x3 x5 x6 f) → Ev G l MX3_note (Rm 3 0 0) (ZM G Q 0 0) 0 0 78 [some (vR 57), some (vR 4), none, some (vI x3), none, some (vI x5), some (vI x6)] [] (SH, RF, f)) (x3 : Int) (x5 : Int) (x6 : Int) (f : Mm) (h : OkV Q (FX3_note_57_4_48_124 k78 x3 x5 x6 f)) : Ev G l MX3_note (Rm 3 0 0) (ZM G Q 0 0) 0 0 124 [some (vR 57), some (vR 4), none, some (vI x3), none, some (vI x5), some (vI x6)] [] (SH, RF, f) := by
  unfold FX3_note_57_4_48_124 at h
  refine ev_aload_n (i := 0) dX3_note_124 rfl rfl ?_
  refine ev_getR dX3_note_125 fl_X3_36 sh_57 (by decide) (by decide) rf_57_11 ?_
  refine ev_iload dX3_note_128 rfl ?_
  refine ev_iload_n (i := 3) dX3_note_130 rfl rfl ?_
  by_cases g1 : 0 ≤ x6 ∧ x6 < 6
  · rw [if_pos g1] at h
    refine ex_iast (j := x6.toNat) dX3_note_131 sh_66 g1.1 g1.2 rfl ?_
    exact SX3_note_57_4_48_132 q78 x3 x5 x6 _ h
  · rw [if_neg g1] at h; exact h.elim
def FX3_note_57_4_48_78  : Nat → Int → Int → Int → Mm → Option Mm
  | 0, _, _, _, _ => none
  | n + 1, x3, x5, x6, f => (if (f 4 5) ≤ x6 then some f else (if x5 = 0 then some f else (b2 (FX10_holds x5 x6 f) fun y1 f1 => (if y1 = 0 then FX3_note_57_4_48_132 (FX3_note_57_4_48_78 n) x3 x5 x6 f1 else (if 0 ≤ x6 ∧ x6 < 6 then (if (f1 66 x6.toNat) = (-1) then FX3_note_57_4_48_124 (FX3_note_57_4_48_78 n) x3 x5 x6 f1 else (if 0 ≤ x6 ∧ x6 < 6 then (if (f1 66 x6.toNat) ≤ x3 then FX3_note_57_4_48_132 (FX3_note_57_4_48_78 n) x3 x5 x6 f1 else FX3_note_57_4_48_124 (FX3_note_57_4_48_78 n) x3 x5 x6 f1) else none)) else none)))))
set_option maxHeartbeats 4000000 in
set_option maxRecDepth 100000 in
theorem SX3_note_57_4_48_78 {G : GT} {l : Launch} {Q : Option AV → Mem → Prop}  : ∀ (n : Nat) (x3 : Int) (x5 : Int) (x6 : Int) (f : Mm), OkV Q (FX3_note_57_4_48_78  n x3 x5 x6 f) → Ev G l MX3_note (Rm 3 0 0) (ZM G Q 0 0) 0 0 78 [some (vR 57), some (vR 4), none, some (vI x3), none, some (vI x5), some (vI x6)] [] (SH, RF, f) := by
  intro n
  induction n with
  | zero => intro x3 x5 x6 f h; exact absurd h (by rw [FX3_note_57_4_48_78]; exact fun q => q)
  | succ n ih =>
    intro x3 x5 x6 f h
    rw [FX3_note_57_4_48_78] at h
    refine ev_iload dX3_note_78 rfl ?_
    refine ev_aload_n (i := 1) dX3_note_80 rfl rfl ?_
    refine ex_getI (x := (f 4 5)) dX3_note_81 fl_X3_111 sh_4 (by decide) (by decide) rfl ?_
    refine ev_icmp_ge (tgt := 138) dX3_note_84 (by decide) (fun c8 => ?_) (fun c8 => ?_)
    · rw [if_pos c8] at h
      exact ev_vret rfl dX3_note_138 h
    · rw [if_neg c8] at h
      refine ev_iload dX3_note_87 rfl ?_
      refine ev_if_eq (tgt := 138) dX3_note_89 (by decide) (fun c7 => ?_) (fun c7 => ?_)
      · rw [if_pos c7] at h
        exact ev_vret rfl dX3_note_138 h
      · rw [if_neg c7] at h
        refine ev_iload dX3_note_92 rfl ?_
        refine ev_iload dX3_note_94 rfl ?_
        refine ev_cNI (av := [vI x5, vI x6]) (S := []) (fun q => q) h dX3_note_96 (fun Q' q => TX10_holds x5 x6 _ q) ksX10_holds nw_X3_114 rfl (RRc (by decide) (by decide)) (Nat.le_of_ble_eq_true rfl) ⟨Nat.le_of_ble_eq_true rfl, Nat.le_of_ble_eq_true rfl⟩ (fun y1 f1 h => ?_)
        refine ev_if_eq (tgt := 132) dX3_note_99 (by decide) (fun c6 => ?_) (fun c6 => ?_)
        · rw [if_pos c6] at h
          exact SX3_note_57_4_48_132 ih x3 x5 x6 _ h
        · rw [if_neg c6] at h
          refine ev_aload_n (i := 0) dX3_note_102 rfl rfl ?_
          refine ev_getR dX3_note_103 fl_X3_36 sh_57 (by decide) (by decide) rf_57_11 ?_
          refine ev_iload dX3_note_106 rfl ?_
          by_cases g2 : 0 ≤ x6 ∧ x6 < 6
          · rw [if_pos g2] at h
            refine ex_iald (x := (f1 66 x6.toNat)) dX3_note_108 sh_66 g2.1 g2.2 rfl ?_
            refine ev_iconst dX3_note_109 (r32c rfl) ?_
            refine ev_icmp_eq (tgt := 124) dX3_note_110 (by decide) (fun c5 => ?_) (fun c5 => ?_)
            · rw [if_pos c5] at h
              exact SX3_note_57_4_48_124 ih x3 x5 x6 _ h
            · rw [if_neg c5] at h
              refine ev_iload_n (i := 3) dX3_note_113 rfl rfl ?_
              refine ev_aload_n (i := 0) dX3_note_114 rfl rfl ?_
              refine ev_getR dX3_note_115 fl_X3_36 sh_57 (by decide) (by decide) rf_57_11 ?_
              refine ev_iload dX3_note_118 rfl ?_
              by_cases g3 : 0 ≤ x6 ∧ x6 < 6
              · rw [if_pos g3] at h
                refine ex_iald (x := (f1 66 x6.toNat)) dX3_note_120 sh_66 g3.1 g3.2 rfl ?_
                refine ev_icmp_ge (tgt := 132) dX3_note_121 (by decide) (fun c4 => ?_) (fun c4 => ?_)
                · rw [if_pos c4] at h
                  exact SX3_note_57_4_48_132 ih x3 x5 x6 _ h
                · rw [if_neg c4] at h
                  exact SX3_note_57_4_48_124 ih x3 x5 x6 _ h
              · rw [if_neg g3] at h; exact h.elim
          · rw [if_neg g2] at h; exact h.elim
def FX3_note_57_4_48_0  (x3 : Int) (f : Mm) : Option Mm := (b2 (FX1_widthOn x3 f) fun y1 f1 => (if 0 ≤ x3 ∧ x3 < 7 then (if 0 ≤ x3 ∧ x3 < 6 then (b2 (FX0_costOf_4 (f1 49 x3.toNat) f1) fun y4 f4 => (if 0 ≤ (w32 (x3 + 1)) ∧ (w32 (x3 + 1)) < 7 then (if 0 ≤ x3 ∧ x3 < 7 then (if 0 ≤ (w32 (x3 + 1)) ∧ (w32 (x3 + 1)) < 7 then (if 0 ≤ x3 ∧ x3 < 6 then (if 0 ≤ x3 ∧ x3 < 6 then (b2 (FX1_passedOn x3 (up (up (up f4 58 (w32 (x3 + 1)).toNat (w32 ((f1 58 x3.toNat) + y4))) 59 (w32 (x3 + 1)).toNat (jMin (f4 59 x3.toNat) y1)) 65 x3.toNat (jMax (f4 65 x3.toNat) y1))) fun y10 f10 => FX3_note_57_4_48_78 fu x3 y10 0 f10) else none) else none) else none) else none) else none)) else none) else none))
set_option maxHeartbeats 4000000 in
set_option maxRecDepth 100000 in
theorem SX3_note_57_4_48_0 {G : GT} {l : Launch} {Q : Option AV → Mem → Prop}  (x3 : Int) (f : Mm) (h : OkV Q (FX3_note_57_4_48_0  x3 f)) : Ev G l MX3_note (Rm 3 0 0) (ZM G Q 0 0) 0 0 0 [some (vR 57), some (vR 4), some (vR 48), some (vI x3), none, none, none] [] (SH, RF, f) := by
  unfold FX3_note_57_4_48_0 at h
  refine ev_aload_n (i := 2) dX3_note_0 rfl rfl ?_
  refine ev_iload_n (i := 3) dX3_note_1 rfl rfl ?_
  refine ev_cVI (b := 48) (av := [vI x3]) (S := []) (fun q => q) h dX3_note_2 (fun Q' q => TX1_widthOn x3 _ q) kvX1_widthOn ml_X3_92 sh_48 rfl (RRc (by decide) (by decide)) (Nat.le_of_ble_eq_true rfl) ⟨Nat.le_of_ble_eq_true rfl, Nat.le_of_ble_eq_true rfl⟩ (fun y1 f1 h => ?_)
  refine ev_istore (L' := [some (vR 57), some (vR 4), some (vR 48), some (vI x3), some (vI y1), none, none]) dX3_note_5 (by decide) rfl ?_
  refine ev_aload_n (i := 0) dX3_note_7 rfl rfl ?_
  refine ev_getR dX3_note_8 fl_X3_9 sh_57 (by decide) (by decide) rf_57_3 ?_
  refine ev_iload_n (i := 3) dX3_note_11 rfl rfl ?_
  refine ev_iconst dX3_note_12 (r32c rfl) ?_
  refine ev_iadd dX3_note_13 ?_
  refine ev_aload_n (i := 0) dX3_note_14 rfl rfl ?_
  refine ev_getR dX3_note_15 fl_X3_9 sh_57 (by decide) (by decide) rf_57_3 ?_
  refine ev_iload_n (i := 3) dX3_note_18 rfl rfl ?_
  by_cases g2 : 0 ≤ x3 ∧ x3 < 7
  · rw [if_pos g2] at h
    refine ex_iald (x := (f1 58 x3.toNat)) dX3_note_19 sh_58 g2.1 g2.2 rfl ?_
    refine ev_aload_n (i := 1) dX3_note_20 rfl rfl ?_
    refine ev_aload_n (i := 2) dX3_note_21 rfl rfl ?_
    refine ev_getR dX3_note_22 fl_X3_89 sh_48 (by decide) (by decide) rf_48_0 ?_
    refine ev_iload_n (i := 3) dX3_note_25 rfl rfl ?_
    by_cases g3 : 0 ≤ x3 ∧ x3 < 6
    · rw [if_pos g3] at h
      refine ex_iald (x := (f1 49 x3.toNat)) dX3_note_26 sh_49 g3.1 g3.2 rfl ?_
      refine ev_cVI (b := 4) (av := [vI (f1 49 x3.toNat)]) (S := [vI (f1 58 x3.toNat), vI (w32 (x3 + 1)), vR 58]) (fun q => q) h dX3_note_27 (fun Q' q => TX0_costOf_4 (f1 49 x3.toNat) _ q) kvX0_costOf ml_X3_96 sh_4 rfl (RRc (by decide) (by decide)) (Nat.le_of_ble_eq_true rfl) ⟨Nat.le_of_ble_eq_true rfl, Nat.le_of_ble_eq_true rfl⟩ (fun y4 f4 h => ?_)
      refine ev_iadd dX3_note_30 ?_
      by_cases g5 : 0 ≤ (w32 (x3 + 1)) ∧ (w32 (x3 + 1)) < 7
      · rw [if_pos g5] at h
        refine ex_iast (j := (w32 (x3 + 1)).toNat) dX3_note_31 sh_58 g5.1 g5.2 rfl ?_
        refine ev_aload_n (i := 0) dX3_note_32 rfl rfl ?_
        refine ev_getR dX3_note_33 fl_X3_15 sh_57 (by decide) (by decide) rf_57_4 ?_
        refine ev_iload_n (i := 3) dX3_note_36 rfl rfl ?_
        refine ev_iconst dX3_note_37 (r32c rfl) ?_
        refine ev_iadd dX3_note_38 ?_
        refine ev_aload_n (i := 0) dX3_note_39 rfl rfl ?_
        refine ev_getR dX3_note_40 fl_X3_15 sh_57 (by decide) (by decide) rf_57_4 ?_
        refine ev_iload_n (i := 3) dX3_note_43 rfl rfl ?_
        by_cases g6 : 0 ≤ x3 ∧ x3 < 7
        · rw [if_pos g6] at h
          refine ex_iald (x := (f4 59 x3.toNat)) dX3_note_44 sh_59 g6.1 g6.2 rfl ?_
          refine ev_iload dX3_note_45 rfl ?_
          refine ev_mmin dX3_note_47 mlm_X3_99 (Nat.le_of_ble_eq_true rfl) (Nat.le_of_ble_eq_true rfl) (Nat.le_of_ble_eq_true rfl) (Nat.le_of_ble_eq_true rfl) ?_
          by_cases g7 : 0 ≤ (w32 (x3 + 1)) ∧ (w32 (x3 + 1)) < 7
          · rw [if_pos g7] at h
            refine ex_iast (j := (w32 (x3 + 1)).toNat) dX3_note_50 sh_59 g7.1 g7.2 rfl ?_
            refine ev_aload_n (i := 0) dX3_note_51 rfl rfl ?_
            refine ev_getR dX3_note_52 fl_X3_33 sh_57 (by decide) (by decide) rf_57_10 ?_
            refine ev_iload_n (i := 3) dX3_note_55 rfl rfl ?_
            refine ev_aload_n (i := 0) dX3_note_56 rfl rfl ?_
            refine ev_getR dX3_note_57 fl_X3_33 sh_57 (by decide) (by decide) rf_57_10 ?_
            refine ev_iload_n (i := 3) dX3_note_60 rfl rfl ?_
            by_cases g8 : 0 ≤ x3 ∧ x3 < 6
            · rw [if_pos g8] at h
              refine ex_iald (x := (f4 65 x3.toNat)) dX3_note_61 sh_65 g8.1 g8.2 rfl ?_
              refine ev_iload dX3_note_62 rfl ?_
              refine ev_mmax dX3_note_64 mlm_X3_105 (Nat.le_of_ble_eq_true rfl) (Nat.le_of_ble_eq_true rfl) (Nat.le_of_ble_eq_true rfl) (Nat.le_of_ble_eq_true rfl) ?_
              by_cases g9 : 0 ≤ x3 ∧ x3 < 6
              · rw [if_pos g9] at h
                refine ex_iast (j := x3.toNat) dX3_note_67 sh_65 g9.1 g9.2 rfl ?_
                refine ev_aload_n (i := 2) dX3_note_68 rfl rfl ?_
                refine ev_iload_n (i := 3) dX3_note_69 rfl rfl ?_
                refine ev_cVI (b := 48) (av := [vI x3]) (S := []) (fun q => q) h dX3_note_70 (fun Q' q => TX1_passedOn x3 _ q) kvX1_passedOn ml_X3_108 sh_48 rfl (RRc (by decide) (by decide)) (Nat.le_of_ble_eq_true rfl) ⟨Nat.le_of_ble_eq_true rfl, Nat.le_of_ble_eq_true rfl⟩ (fun y10 f10 h => ?_)
                refine ev_istore (L' := [some (vR 57), some (vR 4), some (vR 48), some (vI x3), some (vI y1), some (vI y10), none]) dX3_note_73 (by decide) rfl ?_
                refine ev_iconst dX3_note_75 (r32c rfl) ?_
                refine ev_istore (L' := [some (vR 57), some (vR 4), some (vR 48), some (vI x3), some (vI y1), some (vI y10), some (vI 0)]) dX3_note_76 (by decide) rfl ?_
                refine ev_fg [true, true, false, true, false, true, true] rfl ?_
                exact SX3_note_57_4_48_78  fu x3 y10 0 _ h
              · rw [if_neg g9] at h; exact h.elim
            · rw [if_neg g8] at h; exact h.elim
          · rw [if_neg g7] at h; exact h.elim
        · rw [if_neg g6] at h; exact h.elim
      · rw [if_neg g5] at h; exact h.elim
    · rw [if_neg g3] at h; exact h.elim
  · rw [if_neg g2] at h; exact h.elim
def FX3_note_57_4_48 (x3 : Int) (f : Mm) : Option Mm := FX3_note_57_4_48_0 x3 f
set_option maxRecDepth 100000 in
theorem TX3_note_57_4_48 {G : GT} {l : Launch} {Q : Option AV → Mem → Prop} (x3 : Int) (f : Mm) (h : OkV Q (FX3_note_57_4_48 x3 f)) : Ret G l MX3_note (3) 0 0 [vR 57, vR 4, vR 48, vI x3] (SH, RF, f) Q := by
  refine ret_of (L := [some (vR 57), some (vR 4), some (vR 48), some (vI x3), none, none, none]) (by decide) rfl (Nat.le_of_ble_eq_true rfl) ?_
  exact SX3_note_57_4_48_0 x3 f h

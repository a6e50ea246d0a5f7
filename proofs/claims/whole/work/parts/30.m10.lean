def FX0_costOfAll_4_49_4  : Nat → Int → Int → Mm → Option (Int × Mm)
  | 0, _, _, _ => none
  | n + 1, x2, x3, f => (if (f 4 1) ≤ x3 then some (x2, f) else (if 6 ≤ x3 then some (x2, f) else (if 0 ≤ x3 ∧ x3 < 6 then (b2 (FX0_costOf_4 (f 49 x3.toNat) f) fun y2 f2 => FX0_costOfAll_4_49_4 n (w32 (x2 + y2)) (w32 (x3 + 1)) f2) else none)))
set_option maxHeartbeats 4000000 in
set_option maxRecDepth 100000 in
theorem SX0_costOfAll_4_49_4 {G : GT} {l : Launch} {Q : Option AV → Mem → Prop}  : ∀ (n : Nat) (x2 : Int) (x3 : Int) (f : Mm), OkI Q (FX0_costOfAll_4_49_4  n x2 x3 f) → Ev G l MX0_costOfAll (Rm 3 0 0) (ZM G Q 0 0) 0 0 4 [some (vR 4), some (vR 49), some (vI x2), some (vI x3)] [] (SH, RF, f) := by
  intro n
  induction n with
  | zero => intro x2 x3 f h; exact absurd h (by rw [FX0_costOfAll_4_49_4]; exact fun q => q)
  | succ n ih =>
    intro x2 x3 f h
    rw [FX0_costOfAll_4_49_4] at h
    refine ev_iload_n (i := 3) dX0_costOfAll_4 rfl rfl ?_
    refine ev_aload_n (i := 0) dX0_costOfAll_5 rfl rfl ?_
    refine ex_getI (x := (f 4 1)) dX0_costOfAll_6 fl_X0_36 sh_4 (by decide) (by decide) rfl ?_
    refine ev_icmp_ge (tgt := 34) dX0_costOfAll_9 (by decide) (fun c4 => ?_) (fun c4 => ?_)
    · rw [if_pos c4] at h
      refine ev_iload_n (i := 2) dX0_costOfAll_34 rfl rfl ?_
      exact ev_iret rfl dX0_costOfAll_35 h
    · rw [if_neg c4] at h
      refine ev_iload_n (i := 3) dX0_costOfAll_12 rfl rfl ?_
      refine ev_aload_n (i := 1) dX0_costOfAll_13 rfl rfl ?_
      refine ex_alen (x := 6) dX0_costOfAll_14 (by decide) sh_49 (r32c rfl) rfl ?_
      refine ev_icmp_ge (tgt := 34) dX0_costOfAll_15 (by decide) (fun c3 => ?_) (fun c3 => ?_)
      · rw [if_pos c3] at h
        refine ev_iload_n (i := 2) dX0_costOfAll_34 rfl rfl ?_
        exact ev_iret rfl dX0_costOfAll_35 h
      · rw [if_neg c3] at h
        refine ev_iload_n (i := 2) dX0_costOfAll_18 rfl rfl ?_
        refine ev_aload_n (i := 0) dX0_costOfAll_19 rfl rfl ?_
        refine ev_aload_n (i := 1) dX0_costOfAll_20 rfl rfl ?_
        refine ev_iload_n (i := 3) dX0_costOfAll_21 rfl rfl ?_
        by_cases g1 : 0 ≤ x3 ∧ x3 < 6
        · rw [if_pos g1] at h
          refine ex_iald (x := (f 49 x3.toNat)) dX0_costOfAll_22 sh_49 g1.1 g1.2 rfl ?_
          refine ev_cVI (b := 4) (av := [vI (f 49 x3.toNat)]) (S := [vI x2]) (fun q => q) h dX0_costOfAll_23 (fun Q' q => TX0_costOf_4 (f 49 x3.toNat) _ q) kvX0_costOf ml_X0_81 sh_4 rfl (RRc (by decide) (by decide)) (Nat.le_of_ble_eq_true rfl) ⟨Nat.le_of_ble_eq_true rfl, Nat.le_of_ble_eq_true rfl⟩ (fun y2 f2 h => ?_)
          refine ev_iadd dX0_costOfAll_26 ?_
          refine ev_istore_n (i := 2) (L' := [some (vR 4), some (vR 49), some (vI (w32 (x2 + y2))), some (vI x3)]) dX0_costOfAll_27 rfl (by decide) rfl ?_
          refine ev_iinc (L' := [some (vR 4), some (vR 49), some (vI (w32 (x2 + y2))), some (vI (w32 (x3 + 1)))]) dX0_costOfAll_28 rfl (by decide) rfl ?_
          refine ev_goto (tgt := 4) dX0_costOfAll_31 (by decide) ?_
          exact ih (w32 (x2 + y2)) (w32 (x3 + 1)) _ h
        · rw [if_neg g1] at h; exact h.elim
def FX0_costOfAll_4_49_0   (f : Mm) : Option (Int × Mm) := FX0_costOfAll_4_49_4 fu 0 0 f
set_option maxHeartbeats 4000000 in
set_option maxRecDepth 100000 in
theorem SX0_costOfAll_4_49_0 {G : GT} {l : Launch} {Q : Option AV → Mem → Prop}   (f : Mm) (h : OkI Q (FX0_costOfAll_4_49_0   f)) : Ev G l MX0_costOfAll (Rm 3 0 0) (ZM G Q 0 0) 0 0 0 [some (vR 4), some (vR 49), none, none] [] (SH, RF, f) := by
  unfold FX0_costOfAll_4_49_0 at h
  refine ev_iconst dX0_costOfAll_0 (r32c rfl) ?_
  refine ev_istore_n (i := 2) (L' := [some (vR 4), some (vR 49), some (vI 0), none]) dX0_costOfAll_1 rfl (by decide) rfl ?_
  refine ev_iconst dX0_costOfAll_2 (r32c rfl) ?_
  refine ev_istore_n (i := 3) (L' := [some (vR 4), some (vR 49), some (vI 0), some (vI 0)]) dX0_costOfAll_3 rfl (by decide) rfl ?_
  exact SX0_costOfAll_4_49_4  fu 0 0 _ h
def FX0_costOfAll_4_49  (f : Mm) : Option (Int × Mm) := FX0_costOfAll_4_49_0  f
set_option maxRecDepth 100000 in
theorem TX0_costOfAll_4_49 {G : GT} {l : Launch} {Q : Option AV → Mem → Prop}  (f : Mm) (h : OkI Q (FX0_costOfAll_4_49  f)) : Ret G l MX0_costOfAll (3) 0 0 [vR 4, vR 49] (SH, RF, f) Q := by
  refine ret_of (L := [some (vR 4), some (vR 49), none, none]) (by decide) rfl (Nat.le_of_ble_eq_true rfl) ?_
  exact SX0_costOfAll_4_49_0  f h
theorem dX10_alone_88 : decode cX10_alone 88 = .ok (.aload_n 0, 1) := by decide +kernel
theorem dX10_alone_89 : decode cX10_alone 89 = .ok (.getfield 44, 3) := by decide +kernel
theorem dX10_alone_92 : decode cX10_alone 92 = .ok (.aload_n 0, 1) := by decide +kernel
theorem dX10_alone_93 : decode cX10_alone 93 = .ok (.getfield 19, 3) := by decide +kernel
theorem dX10_alone_96 : decode cX10_alone 96 = .ok (.invokevirtual 233, 3) := by decide +kernel
theorem dX10_alone_99 : decode cX10_alone 99 = .ok (.aload_n 0, 1) := by decide +kernel
theorem dX10_alone_100 : decode cX10_alone 100 = .ok (.getfield 19, 3) := by decide +kernel
theorem dX10_alone_103 : decode cX10_alone 103 = .ok (.aload_n 0, 1) := by decide +kernel
theorem dX10_alone_104 : decode cX10_alone 104 = .ok (.getfield 44, 3) := by decide +kernel
theorem dX10_alone_107 : decode cX10_alone 107 = .ok (.aload_n 0, 1) := by decide +kernel
theorem dX10_alone_108 : decode cX10_alone 108 = .ok (.getfield 19, 3) := by decide +kernel
theorem dX10_alone_111 : decode cX10_alone 111 = .ok (.invokevirtual 176, 3) := by decide +kernel
theorem dX10_alone_114 : decode cX10_alone 114 = .ok (.invokevirtual 179, 3) := by decide +kernel
theorem dX10_alone_117 : decode cX10_alone 117 = .ok (.aload_n 0, 1) := by decide +kernel
theorem dX10_alone_118 : decode cX10_alone 118 = .ok (.getfield 19, 3) := by decide +kernel
theorem dX10_alone_121 : decode cX10_alone 121 = .ok (.aload_n 0, 1) := by decide +kernel
theorem dX10_alone_122 : decode cX10_alone 122 = .ok (.getfield 44, 3) := by decide +kernel
theorem dX10_alone_125 : decode cX10_alone 125 = .ok (.getfield 223, 3) := by decide +kernel
theorem dX10_alone_128 : decode cX10_alone 128 = .ok (.invokevirtual 185, 3) := by decide +kernel
theorem dX10_alone_131 : decode cX10_alone 131 = .ok (.isub, 1) := by decide +kernel
theorem dX10_alone_132 : decode cX10_alone 132 = .ok (.istore 4, 2) := by decide +kernel
theorem dX10_alone_134 : decode cX10_alone 134 = .ok (.iload_n 2, 1) := by decide +kernel
theorem dX10_alone_135 : decode cX10_alone 135 = .ok (.iload 4, 2) := by decide +kernel
theorem dX10_alone_137 : decode cX10_alone 137 = .ok (.invokestatic 207, 3) := by decide +kernel
theorem dX10_alone_140 : decode cX10_alone 140 = .ok (.istore_n 2, 1) := by decide +kernel
theorem dX10_alone_141 : decode cX10_alone 141 = .ok (.iinc 3 1, 3) := by decide +kernel
theorem dX10_alone_144 : decode cX10_alone 144 = .ok (.goto (-114), 3) := by decide +kernel
theorem dX10_alone_81 : decode cX10_alone 81 = .ok (.iastore, 1) := by decide +kernel
theorem dX10_alone_82 : decode cX10_alone 82 = .ok (.iinc 4 1, 3) := by decide +kernel
theorem dX10_alone_85 : decode cX10_alone 85 = .ok (.goto (-39), 3) := by decide +kernel
theorem dX10_alone_46 : decode cX10_alone 46 = .ok (.iload 4, 2) := by decide +kernel
theorem dX10_alone_48 : decode cX10_alone 48 = .ok (.aload_n 0, 1) := by decide +kernel
theorem dX10_alone_49 : decode cX10_alone 49 = .ok (.getfield 19, 3) := by decide +kernel
theorem dX10_alone_52 : decode cX10_alone 52 = .ok (.getfield 144, 3) := by decide +kernel
theorem dX10_alone_55 : decode cX10_alone 55 = .ok (.if_icmp .ge 33, 3) := by decide +kernel
theorem dX10_alone_58 : decode cX10_alone 58 = .ok (.aload_n 0, 1) := by decide +kernel
theorem dX10_alone_59 : decode cX10_alone 59 = .ok (.getfield 44, 3) := by decide +kernel
theorem dX10_alone_62 : decode cX10_alone 62 = .ok (.getfield 223, 3) := by decide +kernel
theorem dX10_alone_65 : decode cX10_alone 65 = .ok (.iload 4, 2) := by decide +kernel
theorem dX10_alone_67 : decode cX10_alone 67 = .ok (.iload_n 3, 1) := by decide +kernel
theorem dX10_alone_68 : decode cX10_alone 68 = .ok (.iload 4, 2) := by decide +kernel
theorem dX10_alone_70 : decode cX10_alone 70 = .ok (.invokestatic 164, 3) := by decide +kernel
theorem dX10_alone_73 : decode cX10_alone 73 = .ok (.ifCond .eq 7, 3) := by decide +kernel
theorem dX10_alone_80 : decode cX10_alone 80 = .ok (.iconst (-1), 1) := by decide +kernel
theorem dX10_alone_76 : decode cX10_alone 76 = .ok (.iload_n 1, 1) := by decide +kernel
theorem dX10_alone_77 : decode cX10_alone 77 = .ok (.goto 4, 3) := by decide +kernel
theorem dX10_alone_30 : decode cX10_alone 30 = .ok (.iload_n 3, 1) := by decide +kernel
theorem dX10_alone_31 : decode cX10_alone 31 = .ok (.iconst 1, 1) := by decide +kernel
theorem dX10_alone_32 : decode cX10_alone 32 = .ok (.aload_n 0, 1) := by decide +kernel
theorem dX10_alone_33 : decode cX10_alone 33 = .ok (.getfield 19, 3) := by decide +kernel
theorem dX10_alone_36 : decode cX10_alone 36 = .ok (.getfield 144, 3) := by decide +kernel
theorem dX10_alone_39 : decode cX10_alone 39 = .ok (.ishl, 1) := by decide +kernel
theorem dX10_alone_40 : decode cX10_alone 40 = .ok (.if_icmp .ge 107, 3) := by decide +kernel
theorem dX10_alone_147 : decode cX10_alone 147 = .ok (.iload_n 2, 1) := by decide +kernel
theorem dX10_alone_148 : decode cX10_alone 148 = .ok (.ireturn, 1) := by decide +kernel
theorem dX10_alone_43 : decode cX10_alone 43 = .ok (.iconst 0, 1) := by decide +kernel
theorem dX10_alone_44 : decode cX10_alone 44 = .ok (.istore 4, 2) := by decide +kernel
theorem dX10_alone_0 : decode cX10_alone 0 = .ok (.aload_n 0, 1) := by decide +kernel
theorem dX10_alone_1 : decode cX10_alone 1 = .ok (.getfield 19, 3) := by decide +kernel
theorem dX10_alone_4 : decode cX10_alone 4 = .ok (.iload_n 1, 1) := by decide +kernel
theorem dX10_alone_5 : decode cX10_alone 5 = .ok (.invokevirtual 109, 3) := by decide +kernel
theorem dX10_alone_8 : decode cX10_alone 8 = .ok (.ifCond .ne 6, 3) := by decide +kernel
theorem dX10_alone_14 : decode cX10_alone 14 = .ok (.aload_n 0, 1) := by decide +kernel
theorem dX10_alone_15 : decode cX10_alone 15 = .ok (.getfield 44, 3) := by decide +kernel
theorem dX10_alone_18 : decode cX10_alone 18 = .ok (.aload_n 0, 1) := by decide +kernel
theorem dX10_alone_19 : decode cX10_alone 19 = .ok (.getfield 19, 3) := by decide +kernel
theorem dX10_alone_22 : decode cX10_alone 22 = .ok (.invokevirtual 230, 3) := by decide +kernel
theorem dX10_alone_25 : decode cX10_alone 25 = .ok (.ldc 196, 2) := by decide +kernel
theorem dX10_alone_27 : decode cX10_alone 27 = .ok (.istore_n 2, 1) := by decide +kernel
theorem dX10_alone_28 : decode cX10_alone 28 = .ok (.iconst 0, 1) := by decide +kernel
theorem dX10_alone_29 : decode cX10_alone 29 = .ok (.istore_n 3, 1) := by decide +kernel
theorem dX10_alone_11 : decode cX10_alone 11 = .ok (.ldc 196, 2) := by decide +kernel
theorem dX10_alone_13 : decode cX10_alone 13 = .ok (.ireturn, 1) := by decide +kernel
def FX10_alone_88 (k30 : Int → Int → Int → Mm → Option (Int × Mm)) (x1 : Int) (x2 : Int) (x3 : Int) (f : Mm) : Option (Int × Mm) := ((FX1_walk_48_4 f).bind fun f1 => (b2 (FX1_keptBits_48_4 f1) fun y2 f2 => (b2 (FX0_payOf_4 y2 f2) fun y3 f3 => (b2 (FX0_costOfAll_4_49 f3) fun y4 f4 => k30 x1 (jMax x2 (w32 (y3 - y4))) (w32 (x3 + 1)) f4))))
set_option maxHeartbeats 4000000 in
set_option maxRecDepth 100000 in
theorem SX10_alone_88 {G : GT} {l : Launch} {Q : Option AV → Mem → Prop} {k30 : Int → Int → Int → Mm → Option (Int × Mm)} (q30 : ∀ (x1 : Int) (x2 : Int) (x3 : Int) (f : Mm), OkI Q (k30 x1 x2 x3 f) → Ev G l MX10_alone (Rm 5 0 0) (ZM G Q 0 0) 0 0 30 [some (vR 0), some (vI x1), some (vI x2), some (vI x3), none] [] (SH, RF, f)) (x1 : Int) (x2 : Int) (x3 : Int) (f : Mm) (h : OkI Q (FX10_alone_88 k30 x1 x2 x3 f)) : Ev G l MX10_alone (Rm 5 0 0) (ZM G Q 0 0) 0 0 88 [some (vR 0), some (vI x1), some (vI x2), some (vI x3), none] [] (SH, RF, f) := by
  unfold FX10_alone_88 at h
  refine ev_aload_n (i := 0) dX10_alone_88 rfl rfl ?_
  refine ev_getR dX10_alone_89 fl_X10_44 sh_0 (by decide) (by decide) rf_0_6 ?_
  refine ev_aload_n (i := 0) dX10_alone_92 rfl rfl ?_
  refine ev_getR dX10_alone_93 fl_X10_19 sh_0 (by decide) (by decide) rf_0_1 ?_
  refine ev_cVV (b := 48) (av := [vR 4]) (S := []) (fun q => q) h dX10_alone_96 (fun Q' q => TX1_walk_48_4 _ q) kvX1_walk ml_X10_233 sh_48 rfl (RRc (by decide) (by decide)) (Nat.le_of_ble_eq_true rfl) ⟨Nat.le_of_ble_eq_true rfl, Nat.le_of_ble_eq_true rfl⟩ (fun f1 h => ?_)
  refine ev_aload_n (i := 0) dX10_alone_99 rfl rfl ?_
  refine ev_getR dX10_alone_100 fl_X10_19 sh_0 (by decide) (by decide) rf_0_1 ?_
  refine ev_aload_n (i := 0) dX10_alone_103 rfl rfl ?_
  refine ev_getR dX10_alone_104 fl_X10_44 sh_0 (by decide) (by decide) rf_0_6 ?_
  refine ev_aload_n (i := 0) dX10_alone_107 rfl rfl ?_
  refine ev_getR dX10_alone_108 fl_X10_19 sh_0 (by decide) (by decide) rf_0_1 ?_
  refine ev_cVI (b := 48) (av := [vR 4]) (S := [vR 4]) (fun q => q) h dX10_alone_111 (fun Q' q => TX1_keptBits_48_4 _ q) kvX1_keptBits ml_X10_176 sh_48 rfl (RRc (by decide) (by decide)) (Nat.le_of_ble_eq_true rfl) ⟨Nat.le_of_ble_eq_true rfl, Nat.le_of_ble_eq_true rfl⟩ (fun y2 f2 h => ?_)
  refine ev_cVI (b := 4) (av := [vI y2]) (S := []) (fun q => q) h dX10_alone_114 (fun Q' q => TX0_payOf_4 y2 _ q) kvX0_payOf ml_X10_179 sh_4 rfl (RRc (by decide) (by decide)) (Nat.le_of_ble_eq_true rfl) ⟨Nat.le_of_ble_eq_true rfl, Nat.le_of_ble_eq_true rfl⟩ (fun y3 f3 h => ?_)
  refine ev_aload_n (i := 0) dX10_alone_117 rfl rfl ?_
  refine ev_getR dX10_alone_118 fl_X10_19 sh_0 (by decide) (by decide) rf_0_1 ?_
  refine ev_aload_n (i := 0) dX10_alone_121 rfl rfl ?_
  refine ev_getR dX10_alone_122 fl_X10_44 sh_0 (by decide) (by decide) rf_0_6 ?_
  refine ev_getR dX10_alone_125 fl_X10_223 sh_48 (by decide) (by decide) rf_48_0 ?_
  refine ev_cVI (b := 4) (av := [vR 49]) (S := [vI y3]) (fun q => q) h dX10_alone_128 (fun Q' q => TX0_costOfAll_4_49 _ q) kvX0_costOfAll ml_X10_185 sh_4 rfl (RRc (by decide) (by decide)) (Nat.le_of_ble_eq_true rfl) ⟨Nat.le_of_ble_eq_true rfl, Nat.le_of_ble_eq_true rfl⟩ (fun y4 f4 h => ?_)
  refine ev_isub dX10_alone_131 ?_
  refine ev_istore (L' := [some (vR 0), some (vI x1), some (vI x2), some (vI x3), some (vI (w32 (y3 - y4)))]) dX10_alone_132 (by decide) rfl ?_
  refine ev_iload_n (i := 2) dX10_alone_134 rfl rfl ?_
  refine ev_iload dX10_alone_135 rfl ?_
  refine ev_mmax dX10_alone_137 mlm_X10_207 (Nat.le_of_ble_eq_true rfl) (Nat.le_of_ble_eq_true rfl) (Nat.le_of_ble_eq_true rfl) (Nat.le_of_ble_eq_true rfl) ?_
  refine ev_istore_n (i := 2) (L' := [some (vR 0), some (vI x1), some (vI (jMax x2 (w32 (y3 - y4)))), some (vI x3), some (vI (w32 (y3 - y4)))]) dX10_alone_140 rfl (by decide) rfl ?_
  refine ev_iinc (L' := [some (vR 0), some (vI x1), some (vI (jMax x2 (w32 (y3 - y4)))), some (vI (w32 (x3 + 1))), some (vI (w32 (y3 - y4)))]) dX10_alone_141 rfl (by decide) rfl ?_
  refine ev_goto (tgt := 30) dX10_alone_144 (by decide) ?_
  refine ev_fg [true, true, true, true, false] rfl ?_
  exact q30 x1 (jMax x2 (w32 (y3 - y4))) (w32 (x3 + 1)) _ h
def FX10_alone_81 (k30 : Int → Int → Int → Mm → Option (Int × Mm)) (k46 : Int → Int → Int → Int → Mm → Option (Int × Mm)) (x1 : Int) (x2 : Int) (x3 : Int) (x4 : Int) (s1 : Int) (s2 : Int) (f : Mm) : Option (Int × Mm) := (if 0 ≤ s1 ∧ s1 < 6 then k46 x1 x2 x3 (w32 (x4 + 1)) (up f 49 s1.toNat s2) else none)
set_option maxHeartbeats 4000000 in
set_option maxRecDepth 100000 in
theorem SX10_alone_81 {G : GT} {l : Launch} {Q : Option AV → Mem → Prop} {k30 : Int → Int → Int → Mm → Option (Int × Mm)} {k46 : Int → Int → Int → Int → Mm → Option (Int × Mm)} (q30 : ∀ (x1 : Int) (x2 : Int) (x3 : Int) (f : Mm), OkI Q (k30 x1 x2 x3 f) → Ev G l MX10_alone (Rm 5 0 0) (ZM G Q 0 0) 0 0 30 [some (vR 0), some (vI x1), some (vI x2), some (vI x3), none] [] (SH, RF, f)) (q46 : ∀ (x1 : Int) (x2 : Int) (x3 : Int) (x4 : Int) (f : Mm), OkI Q (k46 x1 x2 x3 x4 f) → Ev G l MX10_alone (Rm 5 0 0) (ZM G Q 0 0) 0 0 46 [some (vR 0), some (vI x1), some (vI x2), some (vI x3), some (vI x4)] [] (SH, RF, f)) (x1 : Int) (x2 : Int) (x3 : Int) (x4 : Int) (s1 : Int) (s2 : Int) (f : Mm) (h : OkI Q (FX10_alone_81 k30 k46 x1 x2 x3 x4 s1 s2 f)) : Ev G l MX10_alone (Rm 5 0 0) (ZM G Q 0 0) 0 0 81 [some (vR 0), some (vI x1), some (vI x2), some (vI x3), some (vI x4)] [vI s2, vI s1, vR 49] (SH, RF, f) := by
  unfold FX10_alone_81 at h
  by_cases g1 : 0 ≤ s1 ∧ s1 < 6
  · rw [if_pos g1] at h
    refine ex_iast (j := s1.toNat) dX10_alone_81 sh_49 g1.1 g1.2 rfl ?_
    refine ev_iinc (L' := [some (vR 0), some (vI x1), some (vI x2), some (vI x3), some (vI (w32 (x4 + 1)))]) dX10_alone_82 rfl (by decide) rfl ?_
    refine ev_goto (tgt := 46) dX10_alone_85 (by decide) ?_
    exact q46 x1 x2 x3 (w32 (x4 + 1)) _ h
  · rw [if_neg g1] at h; exact h.elim
def FX10_alone_46 (k30 : Int → Int → Int → Mm → Option (Int × Mm)) : Nat → Int → Int → Int → Int → Mm → Option (Int × Mm)
  | 0, _, _, _, _, _ => none
  | n + 1, x1, x2, x3, x4, f => (if (f 4 1) ≤ x4 then FX10_alone_88 k30 x1 x2 x3 f else (b2 (FX10_holds x3 x4 f) fun y1 f1 => (if y1 = 0 then FX10_alone_81 k30 (FX10_alone_46 k30 n) x1 x2 x3 x4 x4 (-1) f1 else FX10_alone_81 k30 (FX10_alone_46 k30 n) x1 x2 x3 x4 x4 x1 f1)))
set_option maxHeartbeats 4000000 in
set_option maxRecDepth 100000 in
theorem SX10_alone_46 {G : GT} {l : Launch} {Q : Option AV → Mem → Prop} {k30 : Int → Int → Int → Mm → Option (Int × Mm)} (q30 : ∀ (x1 : Int) (x2 : Int) (x3 : Int) (f : Mm), OkI Q (k30 x1 x2 x3 f) → Ev G l MX10_alone (Rm 5 0 0) (ZM G Q 0 0) 0 0 30 [some (vR 0), some (vI x1), some (vI x2), some (vI x3), none] [] (SH, RF, f)) : ∀ (n : Nat) (x1 : Int) (x2 : Int) (x3 : Int) (x4 : Int) (f : Mm), OkI Q (FX10_alone_46 k30 n x1 x2 x3 x4 f) → Ev G l MX10_alone (Rm 5 0 0) (ZM G Q 0 0) 0 0 46 [some (vR 0), some (vI x1), some (vI x2), some (vI x3), some (vI x4)] [] (SH, RF, f) := by
  intro n
  induction n with
  | zero => intro x1 x2 x3 x4 f h; exact absurd h (by rw [FX10_alone_46]; exact fun q => q)
  | succ n ih =>
    intro x1 x2 x3 x4 f h
    rw [FX10_alone_46] at h
    refine ev_iload dX10_alone_46 rfl ?_
    refine ev_aload_n (i := 0) dX10_alone_48 rfl rfl ?_
    refine ev_getR dX10_alone_49 fl_X10_19 sh_0 (by decide) (by decide) rf_0_1 ?_
    refine ex_getI (x := (f 4 1)) dX10_alone_52 fl_X10_144 sh_4 (by decide) (by decide) rfl ?_
    refine ev_icmp_ge (tgt := 88) dX10_alone_55 (by decide) (fun c3 => ?_) (fun c3 => ?_)
    · rw [if_pos c3] at h
      refine ev_fg [true, true, true, true, false] rfl ?_
      exact SX10_alone_88 q30 x1 x2 x3 _ h
    · rw [if_neg c3] at h
      refine ev_aload_n (i := 0) dX10_alone_58 rfl rfl ?_
      refine ev_getR dX10_alone_59 fl_X10_44 sh_0 (by decide) (by decide) rf_0_6 ?_
      refine ev_getR dX10_alone_62 fl_X10_223 sh_48 (by decide) (by decide) rf_48_0 ?_
      refine ev_iload dX10_alone_65 rfl ?_
      refine ev_iload_n (i := 3) dX10_alone_67 rfl rfl ?_
      refine ev_iload dX10_alone_68 rfl ?_
      refine ev_cSI (av := [vI x3, vI x4]) (S := [vI x4, vR 49]) (fun q => q) h dX10_alone_70 (fun Q' q => TX10_holds x3 x4 _ q) ksX10_holds ml_X10_164 rfl (RRc (by decide) (by decide)) (Nat.le_of_ble_eq_true rfl) ⟨Nat.le_of_ble_eq_true rfl, Nat.le_of_ble_eq_true rfl⟩ (fun y1 f1 h => ?_)
      refine ev_if_eq (tgt := 80) dX10_alone_73 (by decide) (fun c2 => ?_) (fun c2 => ?_)
      · rw [if_pos c2] at h
        refine ev_iconst dX10_alone_80 (r32c rfl) ?_
        exact SX10_alone_81 q30 ih x1 x2 x3 x4 x4 (-1) _ h
      · rw [if_neg c2] at h
        refine ev_iload_n (i := 1) dX10_alone_76 rfl rfl ?_
        refine ev_goto (tgt := 81) dX10_alone_77 (by decide) ?_
        exact SX10_alone_81 q30 ih x1 x2 x3 x4 x4 x1 _ h
def FX10_alone_30  : Nat → Int → Int → Int → Mm → Option (Int × Mm)
  | 0, _, _, _, _ => none
  | n + 1, x1, x2, x3, f => (if (bShl 1 (f 4 1)) ≤ x3 then some (x2, f) else FX10_alone_46 (FX10_alone_30 n) fu x1 x2 x3 0 f)
set_option maxHeartbeats 4000000 in
set_option maxRecDepth 100000 in
theorem SX10_alone_30 {G : GT} {l : Launch} {Q : Option AV → Mem → Prop}  : ∀ (n : Nat) (x1 : Int) (x2 : Int) (x3 : Int) (f : Mm), OkI Q (FX10_alone_30  n x1 x2 x3 f) → Ev G l MX10_alone (Rm 5 0 0) (ZM G Q 0 0) 0 0 30 [some (vR 0), some (vI x1), some (vI x2), some (vI x3), none] [] (SH, RF, f) := by
  intro n
  induction n with
  | zero => intro x1 x2 x3 f h; exact absurd h (by rw [FX10_alone_30]; exact fun q => q)
  | succ n ih =>
    intro x1 x2 x3 f h
    rw [FX10_alone_30] at h
    refine ev_iload_n (i := 3) dX10_alone_30 rfl rfl ?_
    refine ev_iconst dX10_alone_31 (r32c rfl) ?_
    refine ev_aload_n (i := 0) dX10_alone_32 rfl rfl ?_
    refine ev_getR dX10_alone_33 fl_X10_19 sh_0 (by decide) (by decide) rf_0_1 ?_
    refine ex_getI (x := (f 4 1)) dX10_alone_36 fl_X10_144 sh_4 (by decide) (by decide) rfl ?_
    refine ev_ishl dX10_alone_39 ?_
    refine ev_icmp_ge (tgt := 147) dX10_alone_40 (by decide) (fun c1 => ?_) (fun c1 => ?_)
    · rw [if_pos c1] at h
      refine ev_iload_n (i := 2) dX10_alone_147 rfl rfl ?_
      exact ev_iret rfl dX10_alone_148 h
    · rw [if_neg c1] at h
      refine ev_iconst dX10_alone_43 (r32c rfl) ?_
      refine ev_istore (L' := [some (vR 0), some (vI x1), some (vI x2), some (vI x3), some (vI 0)]) dX10_alone_44 (by decide) rfl ?_
      exact SX10_alone_46 ih fu x1 x2 x3 0 _ h
def FX10_alone_0  (x1 : Int) (f : Mm) : Option (Int × Mm) := (b2 (FX0_hasDeed_4 x1 f) fun y1 f1 => (if y1 = 0 then some ((-1000000), f1) else ((FX1_asDone_48_4 f1).bind fun f2 => FX10_alone_30 fu x1 (-1000000) 0 f2)))
set_option maxHeartbeats 4000000 in
set_option maxRecDepth 100000 in
theorem SX10_alone_0 {G : GT} {l : Launch} {Q : Option AV → Mem → Prop}  (x1 : Int) (f : Mm) (h : OkI Q (FX10_alone_0  x1 f)) : Ev G l MX10_alone (Rm 5 0 0) (ZM G Q 0 0) 0 0 0 [some (vR 0), some (vI x1), none, none, none] [] (SH, RF, f) := by
  unfold FX10_alone_0 at h
  refine ev_aload_n (i := 0) dX10_alone_0 rfl rfl ?_
  refine ev_getR dX10_alone_1 fl_X10_19 sh_0 (by decide) (by decide) rf_0_1 ?_
  refine ev_iload_n (i := 1) dX10_alone_4 rfl rfl ?_
  refine ev_cVI (b := 4) (av := [vI x1]) (S := []) (fun q => q) h dX10_alone_5 (fun Q' q => TX0_hasDeed_4 x1 _ q) kvX0_hasDeed ml_X10_109 sh_4 rfl (RRc (by decide) (by decide)) (Nat.le_of_ble_eq_true rfl) ⟨Nat.le_of_ble_eq_true rfl, Nat.le_of_ble_eq_true rfl⟩ (fun y1 f1 h => ?_)
  refine ev_if_ne (tgt := 14) dX10_alone_8 (by decide) (fun c3 => ?_) (fun c3 => ?_)
  · rw [if_neg c3] at h
    refine ev_aload_n (i := 0) dX10_alone_14 rfl rfl ?_
    refine ev_getR dX10_alone_15 fl_X10_44 sh_0 (by decide) (by decide) rf_0_6 ?_
    refine ev_aload_n (i := 0) dX10_alone_18 rfl rfl ?_
    refine ev_getR dX10_alone_19 fl_X10_19 sh_0 (by decide) (by decide) rf_0_1 ?_
    refine ev_cVV (b := 48) (av := [vR 4]) (S := []) (fun q => q) h dX10_alone_22 (fun Q' q => TX1_asDone_48_4 _ q) kvX1_asDone ml_X10_230 sh_48 rfl (RRc (by decide) (by decide)) (Nat.le_of_ble_eq_true rfl) ⟨Nat.le_of_ble_eq_true rfl, Nat.le_of_ble_eq_true rfl⟩ (fun f2 h => ?_)
    refine ev_ldc (v := (-1000000)) dX10_alone_25 (r32c rfl) kc_X10_196 ?_
    refine ev_istore_n (i := 2) (L' := [some (vR 0), some (vI x1), some (vI (-1000000)), none, none]) dX10_alone_27 rfl (by decide) rfl ?_
    refine ev_iconst dX10_alone_28 (r32c rfl) ?_
    refine ev_istore_n (i := 3) (L' := [some (vR 0), some (vI x1), some (vI (-1000000)), some (vI 0), none]) dX10_alone_29 rfl (by decide) rfl ?_
    exact SX10_alone_30  fu x1 (-1000000) 0 _ h
  · rw [if_pos c3] at h
    refine ev_ldc (v := (-1000000)) dX10_alone_11 (r32c rfl) kc_X10_196 ?_
    exact ev_iret rfl dX10_alone_13 h
def FX10_alone (x1 : Int) (f : Mm) : Option (Int × Mm) := FX10_alone_0 x1 f
set_option maxRecDepth 100000 in
theorem TX10_alone {G : GT} {l : Launch} {Q : Option AV → Mem → Prop} (x1 : Int) (f : Mm) (h : OkI Q (FX10_alone x1 f)) : Ret G l MX10_alone (5) 0 0 [vR 0, vI x1] (SH, RF, f) Q := by
  refine ret_of (L := [some (vR 0), some (vI x1), none, none, none]) (by decide) rfl (Nat.le_of_ble_eq_true rfl) ?_
  exact SX10_alone_0 x1 f h
theorem dX10_value_0 : decode cX10_value 0 = .ok (.aload_n 0, 1) := by decide +kernel
theorem dX10_value_1 : decode cX10_value 1 = .ok (.getfield 19, 3) := by decide +kernel
theorem dX10_value_4 : decode cX10_value 4 = .ok (.iload_n 1, 1) := by decide +kernel
theorem dX10_value_5 : decode cX10_value 5 = .ok (.invokevirtual 117, 3) := by decide +kernel
theorem dX10_value_8 : decode cX10_value 8 = .ok (.ifCond .ne 6, 3) := by decide +kernel
theorem dX10_value_14 : decode cX10_value 14 = .ok (.aload_n 0, 1) := by decide +kernel
theorem dX10_value_15 : decode cX10_value 15 = .ok (.invokevirtual 189, 3) := by decide +kernel
theorem dX10_value_18 : decode cX10_value 18 = .ok (.astore_n 2, 1) := by decide +kernel
theorem dX10_value_19 : decode cX10_value 19 = .ok (.aload_n 2, 1) := by decide +kernel
theorem dX10_value_20 : decode cX10_value 20 = .ok (.aload_n 0, 1) := by decide +kernel
theorem dX10_value_21 : decode cX10_value 21 = .ok (.getfield 19, 3) := by decide +kernel
theorem dX10_value_24 : decode cX10_value 24 = .ok (.iconst (-1), 1) := by decide +kernel
theorem dX10_value_25 : decode cX10_value 25 = .ok (.invokevirtual 193, 3) := by decide +kernel
theorem dX10_value_28 : decode cX10_value 28 = .ok (.aload_n 2, 1) := by decide +kernel
theorem dX10_value_29 : decode cX10_value 29 = .ok (.aload_n 0, 1) := by decide +kernel
theorem dX10_value_30 : decode cX10_value 30 = .ok (.getfield 19, 3) := by decide +kernel
theorem dX10_value_33 : decode cX10_value 33 = .ok (.iload_n 1, 1) := by decide +kernel
theorem dX10_value_34 : decode cX10_value 34 = .ok (.invokevirtual 193, 3) := by decide +kernel
theorem dX10_value_37 : decode cX10_value 37 = .ok (.isub, 1) := by decide +kernel
theorem dX10_value_38 : decode cX10_value 38 = .ok (.ireturn, 1) := by decide +kernel
theorem dX10_value_11 : decode cX10_value 11 = .ok (.bipush (-2), 2) := by decide +kernel
theorem dX10_value_13 : decode cX10_value 13 = .ok (.ireturn, 1) := by decide +kernel
def FX10_value_0  (x1 : Int) (f : Mm) : Option (Int × Mm) := (b2 (FX0_hasCart_4 x1 f) fun y1 f1 => (if y1 = 0 then some ((-2), f1) else ((FX10_weighed f1).bind fun f2 => (b2 (FX3_bestGain_57_4 (-1) f2) fun y3 f3 => (b2 (FX3_bestGain_57_4 x1 f3) fun y4 f4 => some ((w32 (y3 - y4)), f4))))))
set_option maxHeartbeats 4000000 in
set_option maxRecDepth 100000 in
theorem SX10_value_0 {G : GT} {l : Launch} {Q : Option AV → Mem → Prop}  (x1 : Int) (f : Mm) (h : OkI Q (FX10_value_0  x1 f)) : Ev G l MX10_value (Rm 6 0 0) (ZM G Q 0 0) 0 0 0 [some (vR 0), some (vI x1), none] [] (SH, RF, f) := by
  unfold FX10_value_0 at h
  refine ev_aload_n (i := 0) dX10_value_0 rfl rfl ?_
  refine ev_getR dX10_value_1 fl_X10_19 sh_0 (by decide) (by decide) rf_0_1 ?_
  refine ev_iload_n (i := 1) dX10_value_4 rfl rfl ?_
  refine ev_cVI (b := 4) (av := [vI x1]) (S := []) (fun q => q) h dX10_value_5 (fun Q' q => TX0_hasCart_4 x1 _ q) kvX0_hasCart ml_X10_117 sh_4 rfl (RRc (by decide) (by decide)) (Nat.le_of_ble_eq_true rfl) ⟨Nat.le_of_ble_eq_true rfl, Nat.le_of_ble_eq_true rfl⟩ (fun y1 f1 h => ?_)
  refine ev_if_ne (tgt := 14) dX10_value_8 (by decide) (fun c5 => ?_) (fun c5 => ?_)
  · rw [if_neg c5] at h
    refine ev_aload_n (i := 0) dX10_value_14 rfl rfl ?_
    refine ev_cVC (b := 0) (av := []) (S := []) (fun q => q) h dX10_value_15 (fun Q' q => TX10_weighed _ q) kvX10_weighed ml_X10_189 sh_0 rfl (RRc (by decide) (by decide)) (Nat.le_of_ble_eq_true rfl) ⟨Nat.le_of_ble_eq_true rfl, Nat.le_of_ble_eq_true rfl⟩ (fun f2 h => ?_)
    refine ev_astore_n (i := 2) (L' := [some (vR 0), some (vI x1), some (vR 57)]) dX10_value_18 rfl (by decide) rfl ?_
    refine ev_aload_n (i := 2) dX10_value_19 rfl rfl ?_
    refine ev_aload_n (i := 0) dX10_value_20 rfl rfl ?_
    refine ev_getR dX10_value_21 fl_X10_19 sh_0 (by decide) (by decide) rf_0_1 ?_
    refine ev_iconst dX10_value_24 (r32c rfl) ?_
    refine ev_cVI (b := 57) (av := [vR 4, vI (-1)]) (S := []) (fun q => q) h dX10_value_25 (fun Q' q => TX3_bestGain_57_4 (-1) _ q) kvX3_bestGain ml_X10_193 sh_57 rfl (RRc (by decide) (by decide)) (Nat.le_of_ble_eq_true rfl) ⟨Nat.le_of_ble_eq_true rfl, Nat.le_of_ble_eq_true rfl⟩ (fun y3 f3 h => ?_)
    refine ev_aload_n (i := 2) dX10_value_28 rfl rfl ?_
    refine ev_aload_n (i := 0) dX10_value_29 rfl rfl ?_
    refine ev_getR dX10_value_30 fl_X10_19 sh_0 (by decide) (by decide) rf_0_1 ?_
    refine ev_iload_n (i := 1) dX10_value_33 rfl rfl ?_
    refine ev_cVI (b := 57) (av := [vR 4, vI x1]) (S := [vI y3]) (fun q => q) h dX10_value_34 (fun Q' q => TX3_bestGain_57_4 x1 _ q) kvX3_bestGain ml_X10_193 sh_57 rfl (RRc (by decide) (by decide)) (Nat.le_of_ble_eq_true rfl) ⟨Nat.le_of_ble_eq_true rfl, Nat.le_of_ble_eq_true rfl⟩ (fun y4 f4 h => ?_)
    refine ev_isub dX10_value_37 ?_
    exact ev_iret rfl dX10_value_38 h
  · rw [if_pos c5] at h
    refine ev_bipush (v := (-2)) dX10_value_11 (r32c rfl) (by decide) ?_
    exact ev_iret rfl dX10_value_13 h
def FX10_value (x1 : Int) (f : Mm) : Option (Int × Mm) := FX10_value_0 x1 f
set_option maxRecDepth 100000 in
theorem TX10_value {G : GT} {l : Launch} {Q : Option AV → Mem → Prop} (x1 : Int) (f : Mm) (h : OkI Q (FX10_value x1 f)) : Ret G l MX10_value (6) 0 0 [vR 0, vI x1] (SH, RF, f) Q := by
  refine ret_of (L := [some (vR 0), some (vI x1), none]) (by decide) rfl (Nat.le_of_ble_eq_true rfl) ?_
  exact SX10_value_0 x1 f h
theorem dX3_cheapCost_48 : decode cX3_cheapCost 48 = .ok (.iinc 3 1, 3) := by decide +kernel
theorem dX3_cheapCost_51 : decode cX3_cheapCost 51 = .ok (.goto (-47), 3) := by decide +kernel
theorem dX3_cheapCost_41 : decode cX3_cheapCost 41 = .ok (.aload_n 0, 1) := by decide +kernel
theorem dX3_cheapCost_42 : decode cX3_cheapCost 42 = .ok (.getfield 21, 3) := by decide +kernel
theorem dX3_cheapCost_45 : decode cX3_cheapCost 45 = .ok (.iload_n 3, 1) := by decide +kernel
theorem dX3_cheapCost_46 : decode cX3_cheapCost 46 = .ok (.iaload, 1) := by decide +kernel
theorem dX3_cheapCost_47 : decode cX3_cheapCost 47 = .ok (.istore_n 2, 1) := by decide +kernel
theorem dX3_cheapCost_4 : decode cX3_cheapCost 4 = .ok (.iload_n 3, 1) := by decide +kernel
theorem dX3_cheapCost_5 : decode cX3_cheapCost 5 = .ok (.bipush 64, 2) := by decide +kernel
theorem dX3_cheapCost_7 : decode cX3_cheapCost 7 = .ok (.if_icmp .ge 47, 3) := by decide +kernel
theorem dX3_cheapCost_54 : decode cX3_cheapCost 54 = .ok (.iload_n 2, 1) := by decide +kernel
theorem dX3_cheapCost_55 : decode cX3_cheapCost 55 = .ok (.ireturn, 1) := by decide +kernel
theorem dX3_cheapCost_10 : decode cX3_cheapCost 10 = .ok (.iload_n 3, 1) := by decide +kernel
theorem dX3_cheapCost_11 : decode cX3_cheapCost 11 = .ok (.iload_n 1, 1) := by decide +kernel
theorem dX3_cheapCost_12 : decode cX3_cheapCost 12 = .ok (.iand, 1) := by decide +kernel
theorem dX3_cheapCost_13 : decode cX3_cheapCost 13 = .ok (.iload_n 1, 1) := by decide +kernel
theorem dX3_cheapCost_14 : decode cX3_cheapCost 14 = .ok (.if_icmp .ne 34, 3) := by decide +kernel
theorem dX3_cheapCost_17 : decode cX3_cheapCost 17 = .ok (.aload_n 0, 1) := by decide +kernel
theorem dX3_cheapCost_18 : decode cX3_cheapCost 18 = .ok (.getfield 18, 3) := by decide +kernel
theorem dX3_cheapCost_21 : decode cX3_cheapCost 21 = .ok (.iload_n 3, 1) := by decide +kernel
theorem dX3_cheapCost_22 : decode cX3_cheapCost 22 = .ok (.iaload, 1) := by decide +kernel
theorem dX3_cheapCost_23 : decode cX3_cheapCost 23 = .ok (.ifCond .le 25, 3) := by decide +kernel
theorem dX3_cheapCost_26 : decode cX3_cheapCost 26 = .ok (.iload_n 2, 1) := by decide +kernel
theorem dX3_cheapCost_27 : decode cX3_cheapCost 27 = .ok (.iconst (-1), 1) := by decide +kernel
theorem dX3_cheapCost_28 : decode cX3_cheapCost 28 = .ok (.if_icmp .eq 13, 3) := by decide +kernel
theorem dX3_cheapCost_31 : decode cX3_cheapCost 31 = .ok (.aload_n 0, 1) := by decide +kernel
theorem dX3_cheapCost_32 : decode cX3_cheapCost 32 = .ok (.getfield 21, 3) := by decide +kernel
theorem dX3_cheapCost_35 : decode cX3_cheapCost 35 = .ok (.iload_n 3, 1) := by decide +kernel
theorem dX3_cheapCost_36 : decode cX3_cheapCost 36 = .ok (.iaload, 1) := by decide +kernel
theorem dX3_cheapCost_37 : decode cX3_cheapCost 37 = .ok (.iload_n 2, 1) := by decide +kernel
theorem dX3_cheapCost_38 : decode cX3_cheapCost 38 = .ok (.if_icmp .ge 10, 3) := by decide +kernel
theorem dX3_cheapCost_0 : decode cX3_cheapCost 0 = .ok (.iconst (-1), 1) := by decide +kernel
theorem dX3_cheapCost_1 : decode cX3_cheapCost 1 = .ok (.istore_n 2, 1) := by decide +kernel
theorem dX3_cheapCost_2 : decode cX3_cheapCost 2 = .ok (.iload_n 1, 1) := by decide +kernel
theorem dX3_cheapCost_3 : decode cX3_cheapCost 3 = .ok (.istore_n 3, 1) := by decide +kernel
def FX3_cheapCost_48 (k4 : Int → Int → Int → Mm → Option (Int × Mm)) (x1 : Int) (x2 : Int) (x3 : Int) (f : Mm) : Option (Int × Mm) := k4 x1 x2 (w32 (x3 + 1)) f
set_option maxHeartbeats 4000000 in
set_option maxRecDepth 100000 in
theorem SX3_cheapCost_48 {G : GT} {l : Launch} {Q : Option AV → Mem → Prop} {k4 : Int → Int → Int → Mm → Option (Int × Mm)} (q4 : ∀ (x1 : Int) (x2 : Int) (x3 : Int) (f : Mm), OkI Q (k4 x1 x2 x3 f) → Ev G l MX3_cheapCost (Rm 1 0 0) (ZM G Q 0 0) 0 0 4 [some (vR 57), some (vI x1), some (vI x2), some (vI x3)] [] (SH, RF, f)) (x1 : Int) (x2 : Int) (x3 : Int) (f : Mm) (h : OkI Q (FX3_cheapCost_48 k4 x1 x2 x3 f)) : Ev G l MX3_cheapCost (Rm 1 0 0) (ZM G Q 0 0) 0 0 48 [some (vR 57), some (vI x1), some (vI x2), some (vI x3)] [] (SH, RF, f) := by
  unfold FX3_cheapCost_48 at h
  refine ev_iinc (L' := [some (vR 57), some (vI x1), some (vI x2), some (vI (w32 (x3 + 1)))]) dX3_cheapCost_48 rfl (by decide) rfl ?_
  refine ev_goto (tgt := 4) dX3_cheapCost_51 (by decide) ?_
  exact q4 x1 x2 (w32 (x3 + 1)) _ h
def FX3_cheapCost_41 (k4 : Int → Int → Int → Mm → Option (Int × Mm)) (x1 : Int) (x3 : Int) (f : Mm) : Option (Int × Mm) := (if 0 ≤ x3 ∧ x3 < 64 then FX3_cheapCost_48 k4 x1 (f 61 x3.toNat) x3 f else none)
set_option maxHeartbeats 4000000 in
set_option maxRecDepth 100000 in
theorem SX3_cheapCost_41 {G : GT} {l : Launch} {Q : Option AV → Mem → Prop} {k4 : Int → Int → Int → Mm → Option (Int × Mm)} (q4 : ∀ (x1 : Int) (x2 : Int) (x3 : Int) (f : Mm), OkI Q (k4 x1 x2 x3 f) → Ev G l MX3_cheapCost (Rm 1 0 0) (ZM G Q 0 0) 0 0 4 [some (vR 57), some (vI x1), some (vI x2), some (vI x3)] [] (SH, RF, f)) (x1 : Int) (x3 : Int) (f : Mm) (h : OkI Q (FX3_cheapCost_41 k4 x1 x3 f)) : Ev G l MX3_cheapCost (Rm 1 0 0) (ZM G Q 0 0) 0 0 41 [some (vR 57), some (vI x1), none, some (vI x3)] [] (SH, RF, f) := by
  unfold FX3_cheapCost_41 at h
  refine ev_aload_n (i := 0) dX3_cheapCost_41 rfl rfl ?_
  refine ev_getR dX3_cheapCost_42 fl_X3_21 sh_57 (by decide) (by decide) rf_57_6 ?_
  refine ev_iload_n (i := 3) dX3_cheapCost_45 rfl rfl ?_
  by_cases g1 : 0 ≤ x3 ∧ x3 < 64
  · rw [if_pos g1] at h
    refine ex_iald (x := (f 61 x3.toNat)) dX3_cheapCost_46 sh_61 g1.1 g1.2 rfl ?_
    refine ev_istore_n (i := 2) (L' := [some (vR 57), some (vI x1), some (vI (f 61 x3.toNat)), some (vI x3)]) dX3_cheapCost_47 rfl (by decide) rfl ?_
    exact SX3_cheapCost_48 q4 x1 (f 61 x3.toNat) x3 _ h
  · rw [if_neg g1] at h; exact h.elim
def FX3_cheapCost_4  : Nat → Int → Int → Int → Mm → Option (Int × Mm)
  | 0, _, _, _, _ => none
  | n + 1, x1, x2, x3, f => (if 64 ≤ x3 then some (x2, f) else (if (bAnd x3 x1) = x1 then (if 0 ≤ x3 ∧ x3 < 64 then (if (f 60 x3.toNat) ≤ 0 then FX3_cheapCost_48 (FX3_cheapCost_4 n) x1 x2 x3 f else (if x2 = (-1) then FX3_cheapCost_41 (FX3_cheapCost_4 n) x1 x3 f else (if 0 ≤ x3 ∧ x3 < 64 then (if x2 ≤ (f 61 x3.toNat) then FX3_cheapCost_48 (FX3_cheapCost_4 n) x1 x2 x3 f else FX3_cheapCost_41 (FX3_cheapCost_4 n) x1 x3 f) else none))) else none) else FX3_cheapCost_48 (FX3_cheapCost_4 n) x1 x2 x3 f))
set_option maxHeartbeats 4000000 in
set_option maxRecDepth 100000 in
theorem SX3_cheapCost_4 {G : GT} {l : Launch} {Q : Option AV → Mem → Prop}  : ∀ (n : Nat) (x1 : Int) (x2 : Int) (x3 : Int) (f : Mm), OkI Q (FX3_cheapCost_4  n x1 x2 x3 f) → Ev G l MX3_cheapCost (Rm 1 0 0) (ZM G Q 0 0) 0 0 4 [some (vR 57), some (vI x1), some (vI x2), some (vI x3)] [] (SH, RF, f) := by
  intro n
  induction n with
  | zero => intro x1 x2 x3 f h; exact absurd h (by rw [FX3_cheapCost_4]; exact fun q => q)
  | succ n ih =>
    intro x1 x2 x3 f h
    rw [FX3_cheapCost_4] at h
    refine ev_iload_n (i := 3) dX3_cheapCost_4 rfl rfl ?_
    refine ev_bipush (v := 64) dX3_cheapCost_5 (r32c rfl) (by decide) ?_
    refine ev_icmp_ge (tgt := 54) dX3_cheapCost_7 (by decide) (fun c7 => ?_) (fun c7 => ?_)
    · rw [if_pos c7] at h
      refine ev_iload_n (i := 2) dX3_cheapCost_54 rfl rfl ?_
      exact ev_iret rfl dX3_cheapCost_55 h
    · rw [if_neg c7] at h
      refine ev_iload_n (i := 3) dX3_cheapCost_10 rfl rfl ?_
      refine ev_iload_n (i := 1) dX3_cheapCost_11 rfl rfl ?_
      refine ev_iand dX3_cheapCost_12 ?_
      refine ev_iload_n (i := 1) dX3_cheapCost_13 rfl rfl ?_
      refine ev_icmp_ne (tgt := 48) dX3_cheapCost_14 (by decide) (fun c6 => ?_) (fun c6 => ?_)
      · rw [if_neg c6] at h
        exact SX3_cheapCost_48 ih x1 x2 x3 _ h
      · rw [if_pos c6] at h
        refine ev_aload_n (i := 0) dX3_cheapCost_17 rfl rfl ?_
        refine ev_getR dX3_cheapCost_18 fl_X3_18 sh_57 (by decide) (by decide) rf_57_5 ?_
        refine ev_iload_n (i := 3) dX3_cheapCost_21 rfl rfl ?_
        by_cases g1 : 0 ≤ x3 ∧ x3 < 64
        · rw [if_pos g1] at h
          refine ex_iald (x := (f 60 x3.toNat)) dX3_cheapCost_22 sh_60 g1.1 g1.2 rfl ?_
          refine ev_if_le (tgt := 48) dX3_cheapCost_23 (by decide) (fun c5 => ?_) (fun c5 => ?_)
          · rw [if_pos c5] at h
            exact SX3_cheapCost_48 ih x1 x2 x3 _ h
          · rw [if_neg c5] at h
            refine ev_iload_n (i := 2) dX3_cheapCost_26 rfl rfl ?_
            refine ev_iconst dX3_cheapCost_27 (r32c rfl) ?_
            refine ev_icmp_eq (tgt := 41) dX3_cheapCost_28 (by decide) (fun c4 => ?_) (fun c4 => ?_)
            · rw [if_pos c4] at h
              refine ev_fg [true, true, false, true] rfl ?_
              exact SX3_cheapCost_41 ih x1 x3 _ h
            · rw [if_neg c4] at h
              refine ev_aload_n (i := 0) dX3_cheapCost_31 rfl rfl ?_
              refine ev_getR dX3_cheapCost_32 fl_X3_21 sh_57 (by decide) (by decide) rf_57_6 ?_
              refine ev_iload_n (i := 3) dX3_cheapCost_35 rfl rfl ?_
              by_cases g2 : 0 ≤ x3 ∧ x3 < 64
              · rw [if_pos g2] at h
                refine ex_iald (x := (f 61 x3.toNat)) dX3_cheapCost_36 sh_61 g2.1 g2.2 rfl ?_
                refine ev_iload_n (i := 2) dX3_cheapCost_37 rfl rfl ?_
                refine ev_icmp_ge (tgt := 48) dX3_cheapCost_38 (by decide) (fun c3 => ?_) (fun c3 => ?_)
                · rw [if_pos c3] at h
                  exact SX3_cheapCost_48 ih x1 x2 x3 _ h
                · rw [if_neg c3] at h
                  refine ev_fg [true, true, false, true] rfl ?_
                  exact SX3_cheapCost_41 ih x1 x3 _ h
              · rw [if_neg g2] at h; exact h.elim
        · rw [if_neg g1] at h; exact h.elim
def FX3_cheapCost_0  (x1 : Int) (f : Mm) : Option (Int × Mm) := FX3_cheapCost_4 fu x1 (-1) x1 f
set_option maxHeartbeats 4000000 in
set_option maxRecDepth 100000 in
theorem SX3_cheapCost_0 {G : GT} {l : Launch} {Q : Option AV → Mem → Prop}  (x1 : Int) (f : Mm) (h : OkI Q (FX3_cheapCost_0  x1 f)) : Ev G l MX3_cheapCost (Rm 1 0 0) (ZM G Q 0 0) 0 0 0 [some (vR 57), some (vI x1), none, none] [] (SH, RF, f) := by
  unfold FX3_cheapCost_0 at h
  refine ev_iconst dX3_cheapCost_0 (r32c rfl) ?_
  refine ev_istore_n (i := 2) (L' := [some (vR 57), some (vI x1), some (vI (-1)), none]) dX3_cheapCost_1 rfl (by decide) rfl ?_
  refine ev_iload_n (i := 1) dX3_cheapCost_2 rfl rfl ?_
  refine ev_istore_n (i := 3) (L' := [some (vR 57), some (vI x1), some (vI (-1)), some (vI x1)]) dX3_cheapCost_3 rfl (by decide) rfl ?_
  exact SX3_cheapCost_4  fu x1 (-1) x1 _ h
def FX3_cheapCost (x1 : Int) (f : Mm) : Option (Int × Mm) := FX3_cheapCost_0 x1 f
set_option maxRecDepth 100000 in
theorem TX3_cheapCost {G : GT} {l : Launch} {Q : Option AV → Mem → Prop} (x1 : Int) (f : Mm) (h : OkI Q (FX3_cheapCost x1 f)) : Ret G l MX3_cheapCost (1) 0 0 [vR 57, vI x1] (SH, RF, f) Q := by
  refine ret_of (L := [some (vR 57), some (vI x1), none, none]) (by decide) rfl (Nat.le_of_ble_eq_true rfl) ?_
  exact SX3_cheapCost_0 x1 f h
theorem dX10_sets_45 : decode cX10_sets 45 = .ok (.iinc 3 1, 3) := by decide +kernel
theorem dX10_sets_48 : decode cX10_sets 48 = .ok (.goto (-26), 3) := by decide +kernel
theorem dX10_sets_22 : decode cX10_sets 22 = .ok (.iload_n 3, 1) := by decide +kernel
theorem dX10_sets_23 : decode cX10_sets 23 = .ok (.aload_n 0, 1) := by decide +kernel
theorem dX10_sets_24 : decode cX10_sets 24 = .ok (.getfield 19, 3) := by decide +kernel
theorem dX10_sets_27 : decode cX10_sets 27 = .ok (.invokevirtual 168, 3) := by decide +kernel
theorem dX10_sets_30 : decode cX10_sets 30 = .ok (.if_icmp .gt 21, 3) := by decide +kernel
theorem dX10_sets_51 : decode cX10_sets 51 = .ok (.iload_n 2, 1) := by decide +kernel
theorem dX10_sets_52 : decode cX10_sets 52 = .ok (.ireturn, 1) := by decide +kernel
theorem dX10_sets_33 : decode cX10_sets 33 = .ok (.aload_n 1, 1) := by decide +kernel
theorem dX10_sets_34 : decode cX10_sets 34 = .ok (.iload_n 3, 1) := by decide +kernel
theorem dX10_sets_35 : decode cX10_sets 35 = .ok (.invokevirtual 236, 3) := by decide +kernel
theorem dX10_sets_38 : decode cX10_sets 38 = .ok (.iconst (-1), 1) := by decide +kernel
theorem dX10_sets_39 : decode cX10_sets 39 = .ok (.if_icmp .eq 6, 3) := by decide +kernel
theorem dX10_sets_42 : decode cX10_sets 42 = .ok (.iinc 2 1, 3) := by decide +kernel
theorem dX10_sets_0 : decode cX10_sets 0 = .ok (.aload_n 0, 1) := by decide +kernel
theorem dX10_sets_1 : decode cX10_sets 1 = .ok (.getfield 19, 3) := by decide +kernel
theorem dX10_sets_4 : decode cX10_sets 4 = .ok (.invokevirtual 140, 3) := by decide +kernel
theorem dX10_sets_7 : decode cX10_sets 7 = .ok (.ifCond .ne 6, 3) := by decide +kernel
theorem dX10_sets_13 : decode cX10_sets 13 = .ok (.aload_n 0, 1) := by decide +kernel
theorem dX10_sets_14 : decode cX10_sets 14 = .ok (.invokevirtual 189, 3) := by decide +kernel
theorem dX10_sets_17 : decode cX10_sets 17 = .ok (.astore_n 1, 1) := by decide +kernel
theorem dX10_sets_18 : decode cX10_sets 18 = .ok (.iconst 0, 1) := by decide +kernel
theorem dX10_sets_19 : decode cX10_sets 19 = .ok (.istore_n 2, 1) := by decide +kernel
theorem dX10_sets_20 : decode cX10_sets 20 = .ok (.iconst 0, 1) := by decide +kernel
theorem dX10_sets_21 : decode cX10_sets 21 = .ok (.istore_n 3, 1) := by decide +kernel
theorem dX10_sets_10 : decode cX10_sets 10 = .ok (.bipush (-2), 2) := by decide +kernel
theorem dX10_sets_12 : decode cX10_sets 12 = .ok (.ireturn, 1) := by decide +kernel
def FX10_sets_45 (k22 : Int → Int → Mm → Option (Int × Mm)) (x2 : Int) (x3 : Int) (f : Mm) : Option (Int × Mm) := k22 x2 (w32 (x3 + 1)) f
set_option maxHeartbeats 4000000 in
set_option maxRecDepth 100000 in
theorem SX10_sets_45 {G : GT} {l : Launch} {Q : Option AV → Mem → Prop} {k22 : Int → Int → Mm → Option (Int × Mm)} (q22 : ∀ (x2 : Int) (x3 : Int) (f : Mm), OkI Q (k22 x2 x3 f) → Ev G l MX10_sets (Rm 6 0 0) (ZM G Q 0 0) 0 0 22 [some (vR 0), some (vR 57), some (vI x2), some (vI x3)] [] (SH, RF, f)) (x2 : Int) (x3 : Int) (f : Mm) (h : OkI Q (FX10_sets_45 k22 x2 x3 f)) : Ev G l MX10_sets (Rm 6 0 0) (ZM G Q 0 0) 0 0 45 [some (vR 0), some (vR 57), some (vI x2), some (vI x3)] [] (SH, RF, f) := by
  unfold FX10_sets_45 at h
  refine ev_iinc (L' := [some (vR 0), some (vR 57), some (vI x2), some (vI (w32 (x3 + 1)))]) dX10_sets_45 rfl (by decide) rfl ?_
  refine ev_goto (tgt := 22) dX10_sets_48 (by decide) ?_
  exact q22 x2 (w32 (x3 + 1)) _ h
def FX10_sets_22  : Nat → Int → Int → Mm → Option (Int × Mm)
  | 0, _, _, _ => none
  | n + 1, x2, x3, f => (b2 (FX0_allCarts_4 f) fun y1 f1 => (if y1 < x3 then some (x2, f1) else (b2 (FX3_cheapCost x3 f1) fun y2 f2 => (if y2 = (-1) then FX10_sets_45 (FX10_sets_22 n) x2 x3 f2 else FX10_sets_45 (FX10_sets_22 n) (w32 (x2 + 1)) x3 f2))))
set_option maxHeartbeats 4000000 in
set_option maxRecDepth 100000 in
theorem SX10_sets_22 {G : GT} {l : Launch} {Q : Option AV → Mem → Prop}  : ∀ (n : Nat) (x2 : Int) (x3 : Int) (f : Mm), OkI Q (FX10_sets_22  n x2 x3 f) → Ev G l MX10_sets (Rm 6 0 0) (ZM G Q 0 0) 0 0 22 [some (vR 0), some (vR 57), some (vI x2), some (vI x3)] [] (SH, RF, f) := by
  intro n
  induction n with
  | zero => intro x2 x3 f h; exact absurd h (by rw [FX10_sets_22]; exact fun q => q)
  | succ n ih =>
    intro x2 x3 f h
    rw [FX10_sets_22] at h
    refine ev_iload_n (i := 3) dX10_sets_22 rfl rfl ?_
    refine ev_aload_n (i := 0) dX10_sets_23 rfl rfl ?_
    refine ev_getR dX10_sets_24 fl_X10_19 sh_0 (by decide) (by decide) rf_0_1 ?_
    refine ev_cVI (b := 4) (av := []) (S := [vI x3]) (fun q => q) h dX10_sets_27 (fun Q' q => TX0_allCarts_4 _ q) kvX0_allCarts ml_X10_168 sh_4 rfl (RRc (by decide) (by decide)) (Nat.le_of_ble_eq_true rfl) ⟨Nat.le_of_ble_eq_true rfl, Nat.le_of_ble_eq_true rfl⟩ (fun y1 f1 h => ?_)
    refine ev_icmp_gt (tgt := 51) dX10_sets_30 (by decide) (fun c4 => ?_) (fun c4 => ?_)
    · rw [if_pos c4] at h
      refine ev_iload_n (i := 2) dX10_sets_51 rfl rfl ?_
      exact ev_iret rfl dX10_sets_52 h
    · rw [if_neg c4] at h
      refine ev_aload_n (i := 1) dX10_sets_33 rfl rfl ?_
      refine ev_iload_n (i := 3) dX10_sets_34 rfl rfl ?_
      refine ev_cVI (b := 57) (av := [vI x3]) (S := []) (fun q => q) h dX10_sets_35 (fun Q' q => TX3_cheapCost x3 _ q) kvX3_cheapCost ml_X10_236 sh_57 rfl (RRc (by decide) (by decide)) (Nat.le_of_ble_eq_true rfl) ⟨Nat.le_of_ble_eq_true rfl, Nat.le_of_ble_eq_true rfl⟩ (fun y2 f2 h => ?_)
      refine ev_iconst dX10_sets_38 (r32c rfl) ?_
      refine ev_icmp_eq (tgt := 45) dX10_sets_39 (by decide) (fun c3 => ?_) (fun c3 => ?_)
      · rw [if_pos c3] at h
        exact SX10_sets_45 ih x2 x3 _ h
      · rw [if_neg c3] at h
        refine ev_iinc (L' := [some (vR 0), some (vR 57), some (vI (w32 (x2 + 1))), some (vI x3)]) dX10_sets_42 rfl (by decide) rfl ?_
        exact SX10_sets_45 ih (w32 (x2 + 1)) x3 _ h
def FX10_sets_0   (f : Mm) : Option (Int × Mm) := (b2 (FX0_stands_4 f) fun y1 f1 => (if y1 = 0 then some ((-2), f1) else ((FX10_weighed f1).bind fun f2 => FX10_sets_22 fu 0 0 f2)))
set_option maxHeartbeats 4000000 in
set_option maxRecDepth 100000 in
theorem SX10_sets_0 {G : GT} {l : Launch} {Q : Option AV → Mem → Prop}   (f : Mm) (h : OkI Q (FX10_sets_0   f)) : Ev G l MX10_sets (Rm 6 0 0) (ZM G Q 0 0) 0 0 0 [some (vR 0), none, none, none] [] (SH, RF, f) := by
  unfold FX10_sets_0 at h
  refine ev_aload_n (i := 0) dX10_sets_0 rfl rfl ?_
  refine ev_getR dX10_sets_1 fl_X10_19 sh_0 (by decide) (by decide) rf_0_1 ?_
  refine ev_cVI (b := 4) (av := []) (S := []) (fun q => q) h dX10_sets_4 (fun Q' q => TX0_stands_4 _ q) kvX0_stands ml_X10_140 sh_4 rfl (RRc (by decide) (by decide)) (Nat.le_of_ble_eq_true rfl) ⟨Nat.le_of_ble_eq_true rfl, Nat.le_of_ble_eq_true rfl⟩ (fun y1 f1 h => ?_)
  refine ev_if_ne (tgt := 13) dX10_sets_7 (by decide) (fun c3 => ?_) (fun c3 => ?_)
  · rw [if_neg c3] at h
    refine ev_aload_n (i := 0) dX10_sets_13 rfl rfl ?_
    refine ev_cVC (b := 0) (av := []) (S := []) (fun q => q) h dX10_sets_14 (fun Q' q => TX10_weighed _ q) kvX10_weighed ml_X10_189 sh_0 rfl (RRc (by decide) (by decide)) (Nat.le_of_ble_eq_true rfl) ⟨Nat.le_of_ble_eq_true rfl, Nat.le_of_ble_eq_true rfl⟩ (fun f2 h => ?_)
    refine ev_astore_n (i := 1) (L' := [some (vR 0), some (vR 57), none, none]) dX10_sets_17 rfl (by decide) rfl ?_
    refine ev_iconst dX10_sets_18 (r32c rfl) ?_
    refine ev_istore_n (i := 2) (L' := [some (vR 0), some (vR 57), some (vI 0), none]) dX10_sets_19 rfl (by decide) rfl ?_
    refine ev_iconst dX10_sets_20 (r32c rfl) ?_
    refine ev_istore_n (i := 3) (L' := [some (vR 0), some (vR 57), some (vI 0), some (vI 0)]) dX10_sets_21 rfl (by decide) rfl ?_
    exact SX10_sets_22  fu 0 0 _ h
  · rw [if_pos c3] at h
    refine ev_bipush (v := (-2)) dX10_sets_10 (r32c rfl) (by decide) ?_
    exact ev_iret rfl dX10_sets_12 h
def FX10_sets  (f : Mm) : Option (Int × Mm) := FX10_sets_0  f
set_option maxRecDepth 100000 in
theorem TX10_sets {G : GT} {l : Launch} {Q : Option AV → Mem → Prop}  (f : Mm) (h : OkI Q (FX10_sets  f)) : Ret G l MX10_sets (6) 0 0 [vR 0] (SH, RF, f) Q := by
  refine ret_of (L := [some (vR 0), none, none, none]) (by decide) rfl (Nat.le_of_ble_eq_true rfl) ?_
  exact SX10_sets_0  f h
theorem dX3_plansKeeping_27 : decode cX3_plansKeeping 27 = .ok (.iinc 3 1, 3) := by decide +kernel
theorem dX3_plansKeeping_30 : decode cX3_plansKeeping 30 = .ok (.goto (-26), 3) := by decide +kernel
theorem dX3_plansKeeping_4 : decode cX3_plansKeeping 4 = .ok (.iload_n 3, 1) := by decide +kernel
theorem dX3_plansKeeping_5 : decode cX3_plansKeeping 5 = .ok (.bipush 64, 2) := by decide +kernel
theorem dX3_plansKeeping_7 : decode cX3_plansKeeping 7 = .ok (.if_icmp .ge 26, 3) := by decide +kernel
theorem dX3_plansKeeping_33 : decode cX3_plansKeeping 33 = .ok (.iload_n 2, 1) := by decide +kernel
theorem dX3_plansKeeping_34 : decode cX3_plansKeeping 34 = .ok (.ireturn, 1) := by decide +kernel
theorem dX3_plansKeeping_10 : decode cX3_plansKeeping 10 = .ok (.iload_n 3, 1) := by decide +kernel
theorem dX3_plansKeeping_11 : decode cX3_plansKeeping 11 = .ok (.iload_n 1, 1) := by decide +kernel
theorem dX3_plansKeeping_12 : decode cX3_plansKeeping 12 = .ok (.invokestatic 114, 3) := by decide +kernel
theorem dX3_plansKeeping_15 : decode cX3_plansKeeping 15 = .ok (.ifCond .eq 12, 3) := by decide +kernel
theorem dX3_plansKeeping_18 : decode cX3_plansKeeping 18 = .ok (.iload_n 2, 1) := by decide +kernel
theorem dX3_plansKeeping_19 : decode cX3_plansKeeping 19 = .ok (.aload_n 0, 1) := by decide +kernel
theorem dX3_plansKeeping_20 : decode cX3_plansKeeping 20 = .ok (.getfield 18, 3) := by decide +kernel
theorem dX3_plansKeeping_23 : decode cX3_plansKeeping 23 = .ok (.iload_n 3, 1) := by decide +kernel
theorem dX3_plansKeeping_24 : decode cX3_plansKeeping 24 = .ok (.iaload, 1) := by decide +kernel
theorem dX3_plansKeeping_25 : decode cX3_plansKeeping 25 = .ok (.iadd, 1) := by decide +kernel
theorem dX3_plansKeeping_26 : decode cX3_plansKeeping 26 = .ok (.istore_n 2, 1) := by decide +kernel
theorem dX3_plansKeeping_0 : decode cX3_plansKeeping 0 = .ok (.iconst 0, 1) := by decide +kernel
theorem dX3_plansKeeping_1 : decode cX3_plansKeeping 1 = .ok (.istore_n 2, 1) := by decide +kernel
theorem dX3_plansKeeping_2 : decode cX3_plansKeeping 2 = .ok (.iconst 0, 1) := by decide +kernel
theorem dX3_plansKeeping_3 : decode cX3_plansKeeping 3 = .ok (.istore_n 3, 1) := by decide +kernel
def FX3_plansKeeping_27 (k4 : Int → Int → Int → Mm → Option (Int × Mm)) (x1 : Int) (x2 : Int) (x3 : Int) (f : Mm) : Option (Int × Mm) := k4 x1 x2 (w32 (x3 + 1)) f
set_option maxHeartbeats 4000000 in
set_option maxRecDepth 100000 in
theorem SX3_plansKeeping_27 {G : GT} {l : Launch} {Q : Option AV → Mem → Prop} {k4 : Int → Int → Int → Mm → Option (Int × Mm)} (q4 : ∀ (x1 : Int) (x2 : Int) (x3 : Int) (f : Mm), OkI Q (k4 x1 x2 x3 f) → Ev G l MX3_plansKeeping (Rm 2 0 0) (ZM G Q 0 0) 0 0 4 [some (vR 57), some (vI x1), some (vI x2), some (vI x3)] [] (SH, RF, f)) (x1 : Int) (x2 : Int) (x3 : Int) (f : Mm) (h : OkI Q (FX3_plansKeeping_27 k4 x1 x2 x3 f)) : Ev G l MX3_plansKeeping (Rm 2 0 0) (ZM G Q 0 0) 0 0 27 [some (vR 57), some (vI x1), some (vI x2), some (vI x3)] [] (SH, RF, f) := by
  unfold FX3_plansKeeping_27 at h
  refine ev_iinc (L' := [some (vR 57), some (vI x1), some (vI x2), some (vI (w32 (x3 + 1)))]) dX3_plansKeeping_27 rfl (by decide) rfl ?_
  refine ev_goto (tgt := 4) dX3_plansKeeping_30 (by decide) ?_
  exact q4 x1 x2 (w32 (x3 + 1)) _ h
def FX3_plansKeeping_4  : Nat → Int → Int → Int → Mm → Option (Int × Mm)
  | 0, _, _, _, _ => none
  | n + 1, x1, x2, x3, f => (if 64 ≤ x3 then some (x2, f) else (b2 (FX10_holds x3 x1 f) fun y1 f1 => (if y1 = 0 then FX3_plansKeeping_27 (FX3_plansKeeping_4 n) x1 x2 x3 f1 else (if 0 ≤ x3 ∧ x3 < 64 then FX3_plansKeeping_27 (FX3_plansKeeping_4 n) x1 (w32 (x2 + (f1 60 x3.toNat))) x3 f1 else none))))
set_option maxHeartbeats 4000000 in
set_option maxRecDepth 100000 in
theorem SX3_plansKeeping_4 {G : GT} {l : Launch} {Q : Option AV → Mem → Prop}  : ∀ (n : Nat) (x1 : Int) (x2 : Int) (x3 : Int) (f : Mm), OkI Q (FX3_plansKeeping_4  n x1 x2 x3 f) → Ev G l MX3_plansKeeping (Rm 2 0 0) (ZM G Q 0 0) 0 0 4 [some (vR 57), some (vI x1), some (vI x2), some (vI x3)] [] (SH, RF, f) := by
  intro n
  induction n with
  | zero => intro x1 x2 x3 f h; exact absurd h (by rw [FX3_plansKeeping_4]; exact fun q => q)
  | succ n ih =>
    intro x1 x2 x3 f h
    rw [FX3_plansKeeping_4] at h
    refine ev_iload_n (i := 3) dX3_plansKeeping_4 rfl rfl ?_
    refine ev_bipush (v := 64) dX3_plansKeeping_5 (r32c rfl) (by decide) ?_
    refine ev_icmp_ge (tgt := 33) dX3_plansKeeping_7 (by decide) (fun c4 => ?_) (fun c4 => ?_)
    · rw [if_pos c4] at h
      refine ev_iload_n (i := 2) dX3_plansKeeping_33 rfl rfl ?_
      exact ev_iret rfl dX3_plansKeeping_34 h
    · rw [if_neg c4] at h
      refine ev_iload_n (i := 3) dX3_plansKeeping_10 rfl rfl ?_
      refine ev_iload_n (i := 1) dX3_plansKeeping_11 rfl rfl ?_
      refine ev_cNI (av := [vI x3, vI x1]) (S := []) (fun q => q) h dX3_plansKeeping_12 (fun Q' q => TX10_holds x3 x1 _ q) ksX10_holds nw_X3_114 rfl (RRc (by decide) (by decide)) (Nat.le_of_ble_eq_true rfl) ⟨Nat.le_of_ble_eq_true rfl, Nat.le_of_ble_eq_true rfl⟩ (fun y1 f1 h => ?_)
      refine ev_if_eq (tgt := 27) dX3_plansKeeping_15 (by decide) (fun c3 => ?_) (fun c3 => ?_)
      · rw [if_pos c3] at h
        exact SX3_plansKeeping_27 ih x1 x2 x3 _ h
      · rw [if_neg c3] at h
        refine ev_iload_n (i := 2) dX3_plansKeeping_18 rfl rfl ?_
        refine ev_aload_n (i := 0) dX3_plansKeeping_19 rfl rfl ?_
        refine ev_getR dX3_plansKeeping_20 fl_X3_18 sh_57 (by decide) (by decide) rf_57_5 ?_
        refine ev_iload_n (i := 3) dX3_plansKeeping_23 rfl rfl ?_
        by_cases g2 : 0 ≤ x3 ∧ x3 < 64
        · rw [if_pos g2] at h
          refine ex_iald (x := (f1 60 x3.toNat)) dX3_plansKeeping_24 sh_60 g2.1 g2.2 rfl ?_
          refine ev_iadd dX3_plansKeeping_25 ?_
          refine ev_istore_n (i := 2) (L' := [some (vR 57), some (vI x1), some (vI (w32 (x2 + (f1 60 x3.toNat)))), some (vI x3)]) dX3_plansKeeping_26 rfl (by decide) rfl ?_
          exact SX3_plansKeeping_27 ih x1 (w32 (x2 + (f1 60 x3.toNat))) x3 _ h
        · rw [if_neg g2] at h; exact h.elim
def FX3_plansKeeping_0  (x1 : Int) (f : Mm) : Option (Int × Mm) := FX3_plansKeeping_4 fu x1 0 0 f
set_option maxHeartbeats 4000000 in
set_option maxRecDepth 100000 in
theorem SX3_plansKeeping_0 {G : GT} {l : Launch} {Q : Option AV → Mem → Prop}  (x1 : Int) (f : Mm) (h : OkI Q (FX3_plansKeeping_0  x1 f)) : Ev G l MX3_plansKeeping (Rm 2 0 0) (ZM G Q 0 0) 0 0 0 [some (vR 57), some (vI x1), none, none] [] (SH, RF, f) := by
  unfold FX3_plansKeeping_0 at h
  refine ev_iconst dX3_plansKeeping_0 (r32c rfl) ?_
  refine ev_istore_n (i := 2) (L' := [some (vR 57), some (vI x1), some (vI 0), none]) dX3_plansKeeping_1 rfl (by decide) rfl ?_
  refine ev_iconst dX3_plansKeeping_2 (r32c rfl) ?_
  refine ev_istore_n (i := 3) (L' := [some (vR 57), some (vI x1), some (vI 0), some (vI 0)]) dX3_plansKeeping_3 rfl (by decide) rfl ?_
  exact SX3_plansKeeping_4  fu x1 0 0 _ h
def FX3_plansKeeping (x1 : Int) (f : Mm) : Option (Int × Mm) := FX3_plansKeeping_0 x1 f
set_option maxRecDepth 100000 in
theorem TX3_plansKeeping {G : GT} {l : Launch} {Q : Option AV → Mem → Prop} (x1 : Int) (f : Mm) (h : OkI Q (FX3_plansKeeping x1 f)) : Ret G l MX3_plansKeeping (2) 0 0 [vR 57, vI x1] (SH, RF, f) Q := by
  refine ret_of (L := [some (vR 57), some (vI x1), none, none]) (by decide) rfl (Nat.le_of_ble_eq_true rfl) ?_
  exact SX3_plansKeeping_0 x1 f h
theorem dX10_often_0 : decode cX10_often 0 = .ok (.aload_n 0, 1) := by decide +kernel
theorem dX10_often_1 : decode cX10_often 1 = .ok (.getfield 19, 3) := by decide +kernel
theorem dX10_often_4 : decode cX10_often 4 = .ok (.iload_n 1, 1) := by decide +kernel
theorem dX10_often_5 : decode cX10_often 5 = .ok (.invokevirtual 117, 3) := by decide +kernel
theorem dX10_often_8 : decode cX10_often 8 = .ok (.ifCond .eq 14, 3) := by decide +kernel
theorem dX10_often_22 : decode cX10_often 22 = .ok (.bipush (-2), 2) := by decide +kernel
theorem dX10_often_24 : decode cX10_often 24 = .ok (.ireturn, 1) := by decide +kernel
theorem dX10_often_11 : decode cX10_often 11 = .ok (.aload_n 0, 1) := by decide +kernel
theorem dX10_often_12 : decode cX10_often 12 = .ok (.invokevirtual 189, 3) := by decide +kernel
theorem dX10_often_15 : decode cX10_often 15 = .ok (.iload_n 1, 1) := by decide +kernel
theorem dX10_often_16 : decode cX10_often 16 = .ok (.invokevirtual 239, 3) := by decide +kernel
theorem dX10_often_19 : decode cX10_often 19 = .ok (.goto 5, 3) := by decide +kernel
def FX10_often_0  (x1 : Int) (f : Mm) : Option (Int × Mm) := (b2 (FX0_hasCart_4 x1 f) fun y1 f1 => (if y1 = 0 then some ((-2), f1) else ((FX10_weighed f1).bind fun f2 => (b2 (FX3_plansKeeping x1 f2) fun y3 f3 => some (y3, f3)))))
set_option maxHeartbeats 4000000 in
set_option maxRecDepth 100000 in
theorem SX10_often_0 {G : GT} {l : Launch} {Q : Option AV → Mem → Prop}  (x1 : Int) (f : Mm) (h : OkI Q (FX10_often_0  x1 f)) : Ev G l MX10_often (Rm 6 0 0) (ZM G Q 0 0) 0 0 0 [some (vR 0), some (vI x1)] [] (SH, RF, f) := by
  unfold FX10_often_0 at h
  refine ev_aload_n (i := 0) dX10_often_0 rfl rfl ?_
  refine ev_getR dX10_often_1 fl_X10_19 sh_0 (by decide) (by decide) rf_0_1 ?_
  refine ev_iload_n (i := 1) dX10_often_4 rfl rfl ?_
  refine ev_cVI (b := 4) (av := [vI x1]) (S := []) (fun q => q) h dX10_often_5 (fun Q' q => TX0_hasCart_4 x1 _ q) kvX0_hasCart ml_X10_117 sh_4 rfl (RRc (by decide) (by decide)) (Nat.le_of_ble_eq_true rfl) ⟨Nat.le_of_ble_eq_true rfl, Nat.le_of_ble_eq_true rfl⟩ (fun y1 f1 h => ?_)
  refine ev_if_eq (tgt := 22) dX10_often_8 (by decide) (fun c4 => ?_) (fun c4 => ?_)
  · rw [if_pos c4] at h
    refine ev_bipush (v := (-2)) dX10_often_22 (r32c rfl) (by decide) ?_
    exact ev_iret rfl dX10_often_24 h
  · rw [if_neg c4] at h
    refine ev_aload_n (i := 0) dX10_often_11 rfl rfl ?_
    refine ev_cVC (b := 0) (av := []) (S := []) (fun q => q) h dX10_often_12 (fun Q' q => TX10_weighed _ q) kvX10_weighed ml_X10_189 sh_0 rfl (RRc (by decide) (by decide)) (Nat.le_of_ble_eq_true rfl) ⟨Nat.le_of_ble_eq_true rfl, Nat.le_of_ble_eq_true rfl⟩ (fun f2 h => ?_)
    refine ev_iload_n (i := 1) dX10_often_15 rfl rfl ?_
    refine ev_cVI (b := 57) (av := [vI x1]) (S := []) (fun q => q) h dX10_often_16 (fun Q' q => TX3_plansKeeping x1 _ q) kvX3_plansKeeping ml_X10_239 sh_57 rfl (RRc (by decide) (by decide)) (Nat.le_of_ble_eq_true rfl) ⟨Nat.le_of_ble_eq_true rfl, Nat.le_of_ble_eq_true rfl⟩ (fun y3 f3 h => ?_)
    refine ev_goto (tgt := 24) dX10_often_19 (by decide) ?_
    exact ev_iret rfl dX10_often_24 h
def FX10_often (x1 : Int) (f : Mm) : Option (Int × Mm) := FX10_often_0 x1 f
set_option maxRecDepth 100000 in
theorem TX10_often {G : GT} {l : Launch} {Q : Option AV → Mem → Prop} (x1 : Int) (f : Mm) (h : OkI Q (FX10_often x1 f)) : Ret G l MX10_often (6) 0 0 [vR 0, vI x1] (SH, RF, f) Q := by
  refine ret_of (L := [some (vR 0), some (vI x1)]) (by decide) rfl (Nat.le_of_ble_eq_true rfl) ?_
  exact SX10_often_0 x1 f h
theorem dX0_hasSet_0 : decode cX0_hasSet 0 = .ok (.aload_n 0, 1) := by decide +kernel
theorem dX0_hasSet_1 : decode cX0_hasSet 1 = .ok (.invokevirtual 61, 3) := by decide +kernel
theorem dX0_hasSet_4 : decode cX0_hasSet 4 = .ok (.ifCond .eq 19, 3) := by decide +kernel
theorem dX0_hasSet_23 : decode cX0_hasSet 23 = .ok (.iconst 0, 1) := by decide +kernel
theorem dX0_hasSet_24 : decode cX0_hasSet 24 = .ok (.ireturn, 1) := by decide +kernel
theorem dX0_hasSet_7 : decode cX0_hasSet 7 = .ok (.iload_n 1, 1) := by decide +kernel
theorem dX0_hasSet_8 : decode cX0_hasSet 8 = .ok (.ifCond .lt 15, 3) := by decide +kernel
theorem dX0_hasSet_11 : decode cX0_hasSet 11 = .ok (.iload_n 1, 1) := by decide +kernel
theorem dX0_hasSet_12 : decode cX0_hasSet 12 = .ok (.aload_n 0, 1) := by decide +kernel
theorem dX0_hasSet_13 : decode cX0_hasSet 13 = .ok (.invokevirtual 65, 3) := by decide +kernel
theorem dX0_hasSet_16 : decode cX0_hasSet 16 = .ok (.if_icmp .gt 7, 3) := by decide +kernel
theorem dX0_hasSet_19 : decode cX0_hasSet 19 = .ok (.iconst 1, 1) := by decide +kernel
theorem dX0_hasSet_20 : decode cX0_hasSet 20 = .ok (.goto 4, 3) := by decide +kernel
def FX0_hasSet_4_0  (x1 : Int) (f : Mm) : Option (Int × Mm) := (b2 (FX0_stands_4 f) fun y1 f1 => (if y1 = 0 then some (0, f1) else (if x1 < 0 then some (0, f1) else (b2 (FX0_allCarts_4 f1) fun y2 f2 => (if y2 < x1 then some (0, f2) else some (1, f2))))))
set_option maxHeartbeats 4000000 in
set_option maxRecDepth 100000 in
theorem SX0_hasSet_4_0 {G : GT} {l : Launch} {Q : Option AV → Mem → Prop}  (x1 : Int) (f : Mm) (h : OkI Q (FX0_hasSet_4_0  x1 f)) : Ev G l MX0_hasSet (Rm 2 0 0) (ZM G Q 0 0) 0 0 0 [some (vR 4), some (vI x1)] [] (SH, RF, f) := by
  unfold FX0_hasSet_4_0 at h
  refine ev_aload_n (i := 0) dX0_hasSet_0 rfl rfl ?_
  refine ev_cVI (b := 4) (av := []) (S := []) (fun q => q) h dX0_hasSet_1 (fun Q' q => TX0_stands_4 _ q) kvX0_stands ml_X0_61 sh_4 rfl (RRc (by decide) (by decide)) (Nat.le_of_ble_eq_true rfl) ⟨Nat.le_of_ble_eq_true rfl, Nat.le_of_ble_eq_true rfl⟩ (fun y1 f1 h => ?_)
  refine ev_if_eq (tgt := 23) dX0_hasSet_4 (by decide) (fun c5 => ?_) (fun c5 => ?_)
  · rw [if_pos c5] at h
    refine ev_iconst dX0_hasSet_23 (r32c rfl) ?_
    exact ev_zret rfl (by decide) dX0_hasSet_24 h
  · rw [if_neg c5] at h
    refine ev_iload_n (i := 1) dX0_hasSet_7 rfl rfl ?_
    refine ev_if_lt (tgt := 23) dX0_hasSet_8 (by decide) (fun c4 => ?_) (fun c4 => ?_)
    · rw [if_pos c4] at h
      refine ev_iconst dX0_hasSet_23 (r32c rfl) ?_
      exact ev_zret rfl (by decide) dX0_hasSet_24 h
    · rw [if_neg c4] at h
      refine ev_iload_n (i := 1) dX0_hasSet_11 rfl rfl ?_
      refine ev_aload_n (i := 0) dX0_hasSet_12 rfl rfl ?_
      refine ev_cVI (b := 4) (av := []) (S := [vI x1]) (fun q => q) h dX0_hasSet_13 (fun Q' q => TX0_allCarts_4 _ q) kvX0_allCarts ml_X0_65 sh_4 rfl (RRc (by decide) (by decide)) (Nat.le_of_ble_eq_true rfl) ⟨Nat.le_of_ble_eq_true rfl, Nat.le_of_ble_eq_true rfl⟩ (fun y2 f2 h => ?_)
      refine ev_icmp_gt (tgt := 23) dX0_hasSet_16 (by decide) (fun c3 => ?_) (fun c3 => ?_)
      · rw [if_pos c3] at h
        refine ev_iconst dX0_hasSet_23 (r32c rfl) ?_
        exact ev_zret rfl (by decide) dX0_hasSet_24 h
      · rw [if_neg c3] at h
        refine ev_iconst dX0_hasSet_19 (r32c rfl) ?_
        refine ev_goto (tgt := 24) dX0_hasSet_20 (by decide) ?_
        exact ev_zret rfl (by decide) dX0_hasSet_24 h
def FX0_hasSet_4 (x1 : Int) (f : Mm) : Option (Int × Mm) := FX0_hasSet_4_0 x1 f
set_option maxRecDepth 100000 in
theorem TX0_hasSet_4 {G : GT} {l : Launch} {Q : Option AV → Mem → Prop} (x1 : Int) (f : Mm) (h : OkI Q (FX0_hasSet_4 x1 f)) : Ret G l MX0_hasSet (2) 0 0 [vR 4, vI x1] (SH, RF, f) Q := by
  refine ret_of (L := [some (vR 4), some (vI x1)]) (by decide) rfl (Nat.le_of_ble_eq_true rfl) ?_
  exact SX0_hasSet_4_0 x1 f h
theorem dX10_cheap_0 : decode cX10_cheap 0 = .ok (.aload_n 0, 1) := by decide +kernel
theorem dX10_cheap_1 : decode cX10_cheap 1 = .ok (.getfield 19, 3) := by decide +kernel
theorem dX10_cheap_4 : decode cX10_cheap 4 = .ok (.iload_n 1, 1) := by decide +kernel
theorem dX10_cheap_5 : decode cX10_cheap 5 = .ok (.invokevirtual 242, 3) := by decide +kernel
theorem dX10_cheap_8 : decode cX10_cheap 8 = .ok (.ifCond .eq 14, 3) := by decide +kernel
theorem dX10_cheap_22 : decode cX10_cheap 22 = .ok (.bipush (-2), 2) := by decide +kernel
theorem dX10_cheap_24 : decode cX10_cheap 24 = .ok (.ireturn, 1) := by decide +kernel
theorem dX10_cheap_11 : decode cX10_cheap 11 = .ok (.aload_n 0, 1) := by decide +kernel
theorem dX10_cheap_12 : decode cX10_cheap 12 = .ok (.invokevirtual 189, 3) := by decide +kernel
theorem dX10_cheap_15 : decode cX10_cheap 15 = .ok (.iload_n 1, 1) := by decide +kernel
theorem dX10_cheap_16 : decode cX10_cheap 16 = .ok (.invokevirtual 236, 3) := by decide +kernel
theorem dX10_cheap_19 : decode cX10_cheap 19 = .ok (.goto 5, 3) := by decide +kernel
def FX10_cheap_0  (x1 : Int) (f : Mm) : Option (Int × Mm) := (b2 (FX0_hasSet_4 x1 f) fun y1 f1 => (if y1 = 0 then some ((-2), f1) else ((FX10_weighed f1).bind fun f2 => (b2 (FX3_cheapCost x1 f2) fun y3 f3 => some (y3, f3)))))
set_option maxHeartbeats 4000000 in
set_option maxRecDepth 100000 in
theorem SX10_cheap_0 {G : GT} {l : Launch} {Q : Option AV → Mem → Prop}  (x1 : Int) (f : Mm) (h : OkI Q (FX10_cheap_0  x1 f)) : Ev G l MX10_cheap (Rm 6 0 0) (ZM G Q 0 0) 0 0 0 [some (vR 0), some (vI x1)] [] (SH, RF, f) := by
  unfold FX10_cheap_0 at h
  refine ev_aload_n (i := 0) dX10_cheap_0 rfl rfl ?_
  refine ev_getR dX10_cheap_1 fl_X10_19 sh_0 (by decide) (by decide) rf_0_1 ?_
  refine ev_iload_n (i := 1) dX10_cheap_4 rfl rfl ?_
  refine ev_cVI (b := 4) (av := [vI x1]) (S := []) (fun q => q) h dX10_cheap_5 (fun Q' q => TX0_hasSet_4 x1 _ q) kvX0_hasSet ml_X10_242 sh_4 rfl (RRc (by decide) (by decide)) (Nat.le_of_ble_eq_true rfl) ⟨Nat.le_of_ble_eq_true rfl, Nat.le_of_ble_eq_true rfl⟩ (fun y1 f1 h => ?_)
  refine ev_if_eq (tgt := 22) dX10_cheap_8 (by decide) (fun c4 => ?_) (fun c4 => ?_)
  · rw [if_pos c4] at h
    refine ev_bipush (v := (-2)) dX10_cheap_22 (r32c rfl) (by decide) ?_
    exact ev_iret rfl dX10_cheap_24 h
  · rw [if_neg c4] at h
    refine ev_aload_n (i := 0) dX10_cheap_11 rfl rfl ?_
    refine ev_cVC (b := 0) (av := []) (S := []) (fun q => q) h dX10_cheap_12 (fun Q' q => TX10_weighed _ q) kvX10_weighed ml_X10_189 sh_0 rfl (RRc (by decide) (by decide)) (Nat.le_of_ble_eq_true rfl) ⟨Nat.le_of_ble_eq_true rfl, Nat.le_of_ble_eq_true rfl⟩ (fun f2 h => ?_)
    refine ev_iload_n (i := 1) dX10_cheap_15 rfl rfl ?_
    refine ev_cVI (b := 57) (av := [vI x1]) (S := []) (fun q => q) h dX10_cheap_16 (fun Q' q => TX3_cheapCost x1 _ q) kvX3_cheapCost ml_X10_236 sh_57 rfl (RRc (by decide) (by decide)) (Nat.le_of_ble_eq_true rfl) ⟨Nat.le_of_ble_eq_true rfl, Nat.le_of_ble_eq_true rfl⟩ (fun y3 f3 h => ?_)
    refine ev_goto (tgt := 24) dX10_cheap_19 (by decide) ?_
    exact ev_iret rfl dX10_cheap_24 h
def FX10_cheap (x1 : Int) (f : Mm) : Option (Int × Mm) := FX10_cheap_0 x1 f
set_option maxRecDepth 100000 in
theorem TX10_cheap {G : GT} {l : Launch} {Q : Option AV → Mem → Prop} (x1 : Int) (f : Mm) (h : OkI Q (FX10_cheap x1 f)) : Ret G l MX10_cheap (6) 0 0 [vR 0, vI x1] (SH, RF, f) Q := by
  refine ret_of (L := [some (vR 0), some (vI x1)]) (by decide) rfl (Nat.le_of_ble_eq_true rfl) ?_
  exact SX10_cheap_0 x1 f h
theorem dX3_cheapFirst_71 : decode cX3_cheapFirst 71 = .ok (.iinc 4 1, 3) := by decide +kernel
theorem dX3_cheapFirst_74 : decode cX3_cheapFirst 74 = .ok (.goto (-63), 3) := by decide +kernel
theorem dX3_cheapFirst_63 : decode cX3_cheapFirst 63 = .ok (.aload_n 0, 1) := by decide +kernel
theorem dX3_cheapFirst_64 : decode cX3_cheapFirst 64 = .ok (.getfield 27, 3) := by decide +kernel
theorem dX3_cheapFirst_67 : decode cX3_cheapFirst 67 = .ok (.iload 4, 2) := by decide +kernel
theorem dX3_cheapFirst_69 : decode cX3_cheapFirst 69 = .ok (.iaload, 1) := by decide +kernel
theorem dX3_cheapFirst_70 : decode cX3_cheapFirst 70 = .ok (.istore_n 3, 1) := by decide +kernel
theorem dX3_cheapFirst_11 : decode cX3_cheapFirst 11 = .ok (.iload 4, 2) := by decide +kernel
theorem dX3_cheapFirst_13 : decode cX3_cheapFirst 13 = .ok (.bipush 64, 2) := by decide +kernel
theorem dX3_cheapFirst_15 : decode cX3_cheapFirst 15 = .ok (.if_icmp .ge 62, 3) := by decide +kernel
theorem dX3_cheapFirst_77 : decode cX3_cheapFirst 77 = .ok (.iload_n 3, 1) := by decide +kernel
theorem dX3_cheapFirst_78 : decode cX3_cheapFirst 78 = .ok (.ireturn, 1) := by decide +kernel
theorem dX3_cheapFirst_18 : decode cX3_cheapFirst 18 = .ok (.iload 4, 2) := by decide +kernel
theorem dX3_cheapFirst_20 : decode cX3_cheapFirst 20 = .ok (.iload_n 1, 1) := by decide +kernel
theorem dX3_cheapFirst_21 : decode cX3_cheapFirst 21 = .ok (.iand, 1) := by decide +kernel
theorem dX3_cheapFirst_22 : decode cX3_cheapFirst 22 = .ok (.iload_n 1, 1) := by decide +kernel
theorem dX3_cheapFirst_23 : decode cX3_cheapFirst 23 = .ok (.if_icmp .ne 48, 3) := by decide +kernel
theorem dX3_cheapFirst_26 : decode cX3_cheapFirst 26 = .ok (.aload_n 0, 1) := by decide +kernel
theorem dX3_cheapFirst_27 : decode cX3_cheapFirst 27 = .ok (.getfield 18, 3) := by decide +kernel
theorem dX3_cheapFirst_30 : decode cX3_cheapFirst 30 = .ok (.iload 4, 2) := by decide +kernel
theorem dX3_cheapFirst_32 : decode cX3_cheapFirst 32 = .ok (.iaload, 1) := by decide +kernel
theorem dX3_cheapFirst_33 : decode cX3_cheapFirst 33 = .ok (.ifCond .le 38, 3) := by decide +kernel
theorem dX3_cheapFirst_36 : decode cX3_cheapFirst 36 = .ok (.aload_n 0, 1) := by decide +kernel
theorem dX3_cheapFirst_37 : decode cX3_cheapFirst 37 = .ok (.getfield 21, 3) := by decide +kernel
theorem dX3_cheapFirst_40 : decode cX3_cheapFirst 40 = .ok (.iload 4, 2) := by decide +kernel
theorem dX3_cheapFirst_42 : decode cX3_cheapFirst 42 = .ok (.iaload, 1) := by decide +kernel
theorem dX3_cheapFirst_43 : decode cX3_cheapFirst 43 = .ok (.iload_n 2, 1) := by decide +kernel
theorem dX3_cheapFirst_44 : decode cX3_cheapFirst 44 = .ok (.if_icmp .ne 27, 3) := by decide +kernel
theorem dX3_cheapFirst_47 : decode cX3_cheapFirst 47 = .ok (.iload_n 3, 1) := by decide +kernel
theorem dX3_cheapFirst_48 : decode cX3_cheapFirst 48 = .ok (.iconst (-1), 1) := by decide +kernel
theorem dX3_cheapFirst_49 : decode cX3_cheapFirst 49 = .ok (.if_icmp .eq 14, 3) := by decide +kernel
theorem dX3_cheapFirst_52 : decode cX3_cheapFirst 52 = .ok (.aload_n 0, 1) := by decide +kernel
theorem dX3_cheapFirst_53 : decode cX3_cheapFirst 53 = .ok (.getfield 27, 3) := by decide +kernel
theorem dX3_cheapFirst_56 : decode cX3_cheapFirst 56 = .ok (.iload 4, 2) := by decide +kernel
theorem dX3_cheapFirst_58 : decode cX3_cheapFirst 58 = .ok (.iaload, 1) := by decide +kernel
theorem dX3_cheapFirst_59 : decode cX3_cheapFirst 59 = .ok (.iload_n 3, 1) := by decide +kernel
theorem dX3_cheapFirst_60 : decode cX3_cheapFirst 60 = .ok (.if_icmp .ge 11, 3) := by decide +kernel
theorem dX3_cheapFirst_0 : decode cX3_cheapFirst 0 = .ok (.aload_n 0, 1) := by decide +kernel
theorem dX3_cheapFirst_1 : decode cX3_cheapFirst 1 = .ok (.iload_n 1, 1) := by decide +kernel
theorem dX3_cheapFirst_2 : decode cX3_cheapFirst 2 = .ok (.invokevirtual 134, 3) := by decide +kernel
theorem dX3_cheapFirst_5 : decode cX3_cheapFirst 5 = .ok (.istore_n 2, 1) := by decide +kernel
theorem dX3_cheapFirst_6 : decode cX3_cheapFirst 6 = .ok (.iconst (-1), 1) := by decide +kernel
theorem dX3_cheapFirst_7 : decode cX3_cheapFirst 7 = .ok (.istore_n 3, 1) := by decide +kernel
theorem dX3_cheapFirst_8 : decode cX3_cheapFirst 8 = .ok (.iload_n 1, 1) := by decide +kernel
theorem dX3_cheapFirst_9 : decode cX3_cheapFirst 9 = .ok (.istore 4, 2) := by decide +kernel
def FX3_cheapFirst_71 (k11 : Int → Int → Int → Int → Mm → Option (Int × Mm)) (x1 : Int) (x2 : Int) (x3 : Int) (x4 : Int) (f : Mm) : Option (Int × Mm) := k11 x1 x2 x3 (w32 (x4 + 1)) f
set_option maxHeartbeats 4000000 in
set_option maxRecDepth 100000 in
theorem SX3_cheapFirst_71 {G : GT} {l : Launch} {Q : Option AV → Mem → Prop} {k11 : Int → Int → Int → Int → Mm → Option (Int × Mm)} (q11 : ∀ (x1 : Int) (x2 : Int) (x3 : Int) (x4 : Int) (f : Mm), OkI Q (k11 x1 x2 x3 x4 f) → Ev G l MX3_cheapFirst (Rm 2 0 0) (ZM G Q 0 0) 0 0 11 [some (vR 57), some (vI x1), some (vI x2), some (vI x3), some (vI x4)] [] (SH, RF, f)) (x1 : Int) (x2 : Int) (x3 : Int) (x4 : Int) (f : Mm) (h : OkI Q (FX3_cheapFirst_71 k11 x1 x2 x3 x4 f)) : Ev G l MX3_cheapFirst (Rm 2 0 0) (ZM G Q 0 0) 0 0 71 [some (vR 57), some (vI x1), some (vI x2), some (vI x3), some (vI x4)] [] (SH, RF, f) := by
  unfold FX3_cheapFirst_71 at h
  refine ev_iinc (L' := [some (vR 57), some (vI x1), some (vI x2), some (vI x3), some (vI (w32 (x4 + 1)))]) dX3_cheapFirst_71 rfl (by decide) rfl ?_
  refine ev_goto (tgt := 11) dX3_cheapFirst_74 (by decide) ?_
  exact q11 x1 x2 x3 (w32 (x4 + 1)) _ h
def FX3_cheapFirst_63 (k11 : Int → Int → Int → Int → Mm → Option (Int × Mm)) (x1 : Int) (x2 : Int) (x4 : Int) (f : Mm) : Option (Int × Mm) := (if 0 ≤ x4 ∧ x4 < 64 then FX3_cheapFirst_71 k11 x1 x2 (f 63 x4.toNat) x4 f else none)
set_option maxHeartbeats 4000000 in
set_option maxRecDepth 100000 in
theorem SX3_cheapFirst_63 {G : GT} {l : Launch} {Q : Option AV → Mem → Prop} {k11 : Int → Int → Int → Int → Mm → Option (Int × Mm)} (q11 : ∀ (x1 : Int) (x2 : Int) (x3 : Int) (x4 : Int) (f : Mm), OkI Q (k11 x1 x2 x3 x4 f) → Ev G l MX3_cheapFirst (Rm 2 0 0) (ZM G Q 0 0) 0 0 11 [some (vR 57), some (vI x1), some (vI x2), some (vI x3), some (vI x4)] [] (SH, RF, f)) (x1 : Int) (x2 : Int) (x4 : Int) (f : Mm) (h : OkI Q (FX3_cheapFirst_63 k11 x1 x2 x4 f)) : Ev G l MX3_cheapFirst (Rm 2 0 0) (ZM G Q 0 0) 0 0 63 [some (vR 57), some (vI x1), some (vI x2), none, some (vI x4)] [] (SH, RF, f) := by
  unfold FX3_cheapFirst_63 at h
  refine ev_aload_n (i := 0) dX3_cheapFirst_63 rfl rfl ?_
  refine ev_getR dX3_cheapFirst_64 fl_X3_27 sh_57 (by decide) (by decide) rf_57_8 ?_
  refine ev_iload dX3_cheapFirst_67 rfl ?_
  by_cases g1 : 0 ≤ x4 ∧ x4 < 64
  · rw [if_pos g1] at h
    refine ex_iald (x := (f 63 x4.toNat)) dX3_cheapFirst_69 sh_63 g1.1 g1.2 rfl ?_
    refine ev_istore_n (i := 3) (L' := [some (vR 57), some (vI x1), some (vI x2), some (vI (f 63 x4.toNat)), some (vI x4)]) dX3_cheapFirst_70 rfl (by decide) rfl ?_
    exact SX3_cheapFirst_71 q11 x1 x2 (f 63 x4.toNat) x4 _ h
  · rw [if_neg g1] at h; exact h.elim
def FX3_cheapFirst_11  : Nat → Int → Int → Int → Int → Mm → Option (Int × Mm)
  | 0, _, _, _, _, _ => none
  | n + 1, x1, x2, x3, x4, f => (if 64 ≤ x4 then some (x3, f) else (if (bAnd x4 x1) = x1 then (if 0 ≤ x4 ∧ x4 < 64 then (if (f 60 x4.toNat) ≤ 0 then FX3_cheapFirst_71 (FX3_cheapFirst_11 n) x1 x2 x3 x4 f else (if 0 ≤ x4 ∧ x4 < 64 then (if (f 61 x4.toNat) = x2 then (if x3 = (-1) then FX3_cheapFirst_63 (FX3_cheapFirst_11 n) x1 x2 x4 f else (if 0 ≤ x4 ∧ x4 < 64 then (if x3 ≤ (f 63 x4.toNat) then FX3_cheapFirst_71 (FX3_cheapFirst_11 n) x1 x2 x3 x4 f else FX3_cheapFirst_63 (FX3_cheapFirst_11 n) x1 x2 x4 f) else none)) else FX3_cheapFirst_71 (FX3_cheapFirst_11 n) x1 x2 x3 x4 f) else none)) else none) else FX3_cheapFirst_71 (FX3_cheapFirst_11 n) x1 x2 x3 x4 f))
set_option maxHeartbeats 4000000 in
set_option maxRecDepth 100000 in
theorem SX3_cheapFirst_11 {G : GT} {l : Launch} {Q : Option AV → Mem → Prop}  : ∀ (n : Nat) (x1 : Int) (x2 : Int) (x3 : Int) (x4 : Int) (f : Mm), OkI Q (FX3_cheapFirst_11  n x1 x2 x3 x4 f) → Ev G l MX3_cheapFirst (Rm 2 0 0) (ZM G Q 0 0) 0 0 11 [some (vR 57), some (vI x1), some (vI x2), some (vI x3), some (vI x4)] [] (SH, RF, f) := by
  intro n
  induction n with
  | zero => intro x1 x2 x3 x4 f h; exact absurd h (by rw [FX3_cheapFirst_11]; exact fun q => q)
  | succ n ih =>
    intro x1 x2 x3 x4 f h
    rw [FX3_cheapFirst_11] at h
    refine ev_iload dX3_cheapFirst_11 rfl ?_
    refine ev_bipush (v := 64) dX3_cheapFirst_13 (r32c rfl) (by decide) ?_
    refine ev_icmp_ge (tgt := 77) dX3_cheapFirst_15 (by decide) (fun c9 => ?_) (fun c9 => ?_)
    · rw [if_pos c9] at h
      refine ev_iload_n (i := 3) dX3_cheapFirst_77 rfl rfl ?_
      exact ev_iret rfl dX3_cheapFirst_78 h
    · rw [if_neg c9] at h
      refine ev_iload dX3_cheapFirst_18 rfl ?_
      refine ev_iload_n (i := 1) dX3_cheapFirst_20 rfl rfl ?_
      refine ev_iand dX3_cheapFirst_21 ?_
      refine ev_iload_n (i := 1) dX3_cheapFirst_22 rfl rfl ?_
      refine ev_icmp_ne (tgt := 71) dX3_cheapFirst_23 (by decide) (fun c8 => ?_) (fun c8 => ?_)
      · rw [if_neg c8] at h
        exact SX3_cheapFirst_71 ih x1 x2 x3 x4 _ h
      · rw [if_pos c8] at h
        refine ev_aload_n (i := 0) dX3_cheapFirst_26 rfl rfl ?_
        refine ev_getR dX3_cheapFirst_27 fl_X3_18 sh_57 (by decide) (by decide) rf_57_5 ?_
        refine ev_iload dX3_cheapFirst_30 rfl ?_
        by_cases g1 : 0 ≤ x4 ∧ x4 < 64
        · rw [if_pos g1] at h
          refine ex_iald (x := (f 60 x4.toNat)) dX3_cheapFirst_32 sh_60 g1.1 g1.2 rfl ?_
          refine ev_if_le (tgt := 71) dX3_cheapFirst_33 (by decide) (fun c7 => ?_) (fun c7 => ?_)
          · rw [if_pos c7] at h
            exact SX3_cheapFirst_71 ih x1 x2 x3 x4 _ h
          · rw [if_neg c7] at h
            refine ev_aload_n (i := 0) dX3_cheapFirst_36 rfl rfl ?_
            refine ev_getR dX3_cheapFirst_37 fl_X3_21 sh_57 (by decide) (by decide) rf_57_6 ?_
            refine ev_iload dX3_cheapFirst_40 rfl ?_
            by_cases g2 : 0 ≤ x4 ∧ x4 < 64
            · rw [if_pos g2] at h
              refine ex_iald (x := (f 61 x4.toNat)) dX3_cheapFirst_42 sh_61 g2.1 g2.2 rfl ?_
              refine ev_iload_n (i := 2) dX3_cheapFirst_43 rfl rfl ?_
              refine ev_icmp_ne (tgt := 71) dX3_cheapFirst_44 (by decide) (fun c6 => ?_) (fun c6 => ?_)
              · rw [if_neg c6] at h
                exact SX3_cheapFirst_71 ih x1 x2 x3 x4 _ h
              · rw [if_pos c6] at h
                refine ev_iload_n (i := 3) dX3_cheapFirst_47 rfl rfl ?_
                refine ev_iconst dX3_cheapFirst_48 (r32c rfl) ?_
                refine ev_icmp_eq (tgt := 63) dX3_cheapFirst_49 (by decide) (fun c5 => ?_) (fun c5 => ?_)
                · rw [if_pos c5] at h
                  refine ev_fg [true, true, true, false, true] rfl ?_
                  exact SX3_cheapFirst_63 ih x1 x2 x4 _ h
                · rw [if_neg c5] at h
                  refine ev_aload_n (i := 0) dX3_cheapFirst_52 rfl rfl ?_
                  refine ev_getR dX3_cheapFirst_53 fl_X3_27 sh_57 (by decide) (by decide) rf_57_8 ?_
                  refine ev_iload dX3_cheapFirst_56 rfl ?_
                  by_cases g3 : 0 ≤ x4 ∧ x4 < 64
                  · rw [if_pos g3] at h
                    refine ex_iald (x := (f 63 x4.toNat)) dX3_cheapFirst_58 sh_63 g3.1 g3.2 rfl ?_
                    refine ev_iload_n (i := 3) dX3_cheapFirst_59 rfl rfl ?_
                    refine ev_icmp_ge (tgt := 71) dX3_cheapFirst_60 (by decide) (fun c4 => ?_) (fun c4 => ?_)
                    · rw [if_pos c4] at h
                      exact SX3_cheapFirst_71 ih x1 x2 x3 x4 _ h
                    · rw [if_neg c4] at h
                      refine ev_fg [true, true, true, false, true] rfl ?_
                      exact SX3_cheapFirst_63 ih x1 x2 x4 _ h
                  · rw [if_neg g3] at h; exact h.elim
            · rw [if_neg g2] at h; exact h.elim
        · rw [if_neg g1] at h; exact h.elim
def FX3_cheapFirst_0  (x1 : Int) (f : Mm) : Option (Int × Mm) := (b2 (FX3_cheapCost x1 f) fun y1 f1 => FX3_cheapFirst_11 fu x1 y1 (-1) x1 f1)
set_option maxHeartbeats 4000000 in
set_option maxRecDepth 100000 in
theorem SX3_cheapFirst_0 {G : GT} {l : Launch} {Q : Option AV → Mem → Prop}  (x1 : Int) (f : Mm) (h : OkI Q (FX3_cheapFirst_0  x1 f)) : Ev G l MX3_cheapFirst (Rm 2 0 0) (ZM G Q 0 0) 0 0 0 [some (vR 57), some (vI x1), none, none, none] [] (SH, RF, f) := by
  unfold FX3_cheapFirst_0 at h
  refine ev_aload_n (i := 0) dX3_cheapFirst_0 rfl rfl ?_
  refine ev_iload_n (i := 1) dX3_cheapFirst_1 rfl rfl ?_
  refine ev_cVI (b := 57) (av := [vI x1]) (S := []) (fun q => q) h dX3_cheapFirst_2 (fun Q' q => TX3_cheapCost x1 _ q) kvX3_cheapCost ml_X3_134 sh_57 rfl (RRc (by decide) (by decide)) (Nat.le_of_ble_eq_true rfl) ⟨Nat.le_of_ble_eq_true rfl, Nat.le_of_ble_eq_true rfl⟩ (fun y1 f1 h => ?_)
  refine ev_istore_n (i := 2) (L' := [some (vR 57), some (vI x1), some (vI y1), none, none]) dX3_cheapFirst_5 rfl (by decide) rfl ?_
  refine ev_iconst dX3_cheapFirst_6 (r32c rfl) ?_
  refine ev_istore_n (i := 3) (L' := [some (vR 57), some (vI x1), some (vI y1), some (vI (-1)), none]) dX3_cheapFirst_7 rfl (by decide) rfl ?_
  refine ev_iload_n (i := 1) dX3_cheapFirst_8 rfl rfl ?_
  refine ev_istore (L' := [some (vR 57), some (vI x1), some (vI y1), some (vI (-1)), some (vI x1)]) dX3_cheapFirst_9 (by decide) rfl ?_
  exact SX3_cheapFirst_11  fu x1 y1 (-1) x1 _ h
def FX3_cheapFirst (x1 : Int) (f : Mm) : Option (Int × Mm) := FX3_cheapFirst_0 x1 f
set_option maxRecDepth 100000 in
theorem TX3_cheapFirst {G : GT} {l : Launch} {Q : Option AV → Mem → Prop} (x1 : Int) (f : Mm) (h : OkI Q (FX3_cheapFirst x1 f)) : Ret G l MX3_cheapFirst (2) 0 0 [vR 57, vI x1] (SH, RF, f) Q := by
  refine ret_of (L := [some (vR 57), some (vI x1), none, none, none]) (by decide) rfl (Nat.le_of_ble_eq_true rfl) ?_
  exact SX3_cheapFirst_0 x1 f h
theorem dX10_cheaply_0 : decode cX10_cheaply 0 = .ok (.aload_n 0, 1) := by decide +kernel
theorem dX10_cheaply_1 : decode cX10_cheaply 1 = .ok (.getfield 19, 3) := by decide +kernel
theorem dX10_cheaply_4 : decode cX10_cheaply 4 = .ok (.iload_n 1, 1) := by decide +kernel
theorem dX10_cheaply_5 : decode cX10_cheaply 5 = .ok (.invokevirtual 242, 3) := by decide +kernel
theorem dX10_cheaply_8 : decode cX10_cheaply 8 = .ok (.ifCond .eq 14, 3) := by decide +kernel
theorem dX10_cheaply_22 : decode cX10_cheaply 22 = .ok (.bipush (-2), 2) := by decide +kernel
theorem dX10_cheaply_24 : decode cX10_cheaply 24 = .ok (.ireturn, 1) := by decide +kernel
theorem dX10_cheaply_11 : decode cX10_cheaply 11 = .ok (.aload_n 0, 1) := by decide +kernel
theorem dX10_cheaply_12 : decode cX10_cheaply 12 = .ok (.getfield 19, 3) := by decide +kernel
theorem dX10_cheaply_15 : decode cX10_cheaply 15 = .ok (.iload_n 2, 1) := by decide +kernel
theorem dX10_cheaply_16 : decode cX10_cheaply 16 = .ok (.invokevirtual 126, 3) := by decide +kernel
theorem dX10_cheaply_19 : decode cX10_cheaply 19 = .ok (.ifCond .ne 6, 3) := by decide +kernel
theorem dX10_cheaply_25 : decode cX10_cheaply 25 = .ok (.aload_n 0, 1) := by decide +kernel
theorem dX10_cheaply_26 : decode cX10_cheaply 26 = .ok (.invokevirtual 189, 3) := by decide +kernel
theorem dX10_cheaply_29 : decode cX10_cheaply 29 = .ok (.astore_n 3, 1) := by decide +kernel
theorem dX10_cheaply_30 : decode cX10_cheaply 30 = .ok (.aload_n 3, 1) := by decide +kernel
theorem dX10_cheaply_31 : decode cX10_cheaply 31 = .ok (.iload_n 1, 1) := by decide +kernel
theorem dX10_cheaply_32 : decode cX10_cheaply 32 = .ok (.invokevirtual 245, 3) := by decide +kernel
theorem dX10_cheaply_35 : decode cX10_cheaply 35 = .ok (.istore 4, 2) := by decide +kernel
theorem dX10_cheaply_37 : decode cX10_cheaply 37 = .ok (.iload 4, 2) := by decide +kernel
theorem dX10_cheaply_39 : decode cX10_cheaply 39 = .ok (.iconst (-1), 1) := by decide +kernel
theorem dX10_cheaply_40 : decode cX10_cheaply 40 = .ok (.if_icmp .ne 7, 3) := by decide +kernel
theorem dX10_cheaply_47 : decode cX10_cheaply 47 = .ok (.aload_n 3, 1) := by decide +kernel
theorem dX10_cheaply_48 : decode cX10_cheaply 48 = .ok (.iload 4, 2) := by decide +kernel
theorem dX10_cheaply_50 : decode cX10_cheaply 50 = .ok (.iload_n 2, 1) := by decide +kernel
theorem dX10_cheaply_51 : decode cX10_cheaply 51 = .ok (.invokevirtual 200, 3) := by decide +kernel
theorem dX10_cheaply_54 : decode cX10_cheaply 54 = .ok (.ireturn, 1) := by decide +kernel
theorem dX10_cheaply_43 : decode cX10_cheaply 43 = .ok (.iconst (-1), 1) := by decide +kernel
theorem dX10_cheaply_44 : decode cX10_cheaply 44 = .ok (.goto 10, 3) := by decide +kernel
def FX10_cheaply_0  (x1 : Int) (x2 : Int) (f : Mm) : Option (Int × Mm) := (b2 (FX0_hasSet_4 x1 f) fun y1 f1 => (if y1 = 0 then some ((-2), f1) else (b2 (FX0_hasDay_4 x2 f1) fun y2 f2 => (if y2 = 0 then some ((-2), f2) else ((FX10_weighed f2).bind fun f3 => (b2 (FX3_cheapFirst x1 f3) fun y4 f4 => (if y4 = (-1) then some ((-1), f4) else (b2 (FX3_deedOn y4 x2 f4) fun y5 f5 => some (y5, f5)))))))))
set_option maxHeartbeats 4000000 in
set_option maxRecDepth 100000 in
theorem SX10_cheaply_0 {G : GT} {l : Launch} {Q : Option AV → Mem → Prop}  (x1 : Int) (x2 : Int) (f : Mm) (h : OkI Q (FX10_cheaply_0  x1 x2 f)) : Ev G l MX10_cheaply (Rm 6 0 0) (ZM G Q 0 0) 0 0 0 [some (vR 0), some (vI x1), some (vI x2), none, none] [] (SH, RF, f) := by
  unfold FX10_cheaply_0 at h
  refine ev_aload_n (i := 0) dX10_cheaply_0 rfl rfl ?_
  refine ev_getR dX10_cheaply_1 fl_X10_19 sh_0 (by decide) (by decide) rf_0_1 ?_
  refine ev_iload_n (i := 1) dX10_cheaply_4 rfl rfl ?_
  refine ev_cVI (b := 4) (av := [vI x1]) (S := []) (fun q => q) h dX10_cheaply_5 (fun Q' q => TX0_hasSet_4 x1 _ q) kvX0_hasSet ml_X10_242 sh_4 rfl (RRc (by decide) (by decide)) (Nat.le_of_ble_eq_true rfl) ⟨Nat.le_of_ble_eq_true rfl, Nat.le_of_ble_eq_true rfl⟩ (fun y1 f1 h => ?_)
  refine ev_if_eq (tgt := 22) dX10_cheaply_8 (by decide) (fun c8 => ?_) (fun c8 => ?_)
  · rw [if_pos c8] at h
    refine ev_bipush (v := (-2)) dX10_cheaply_22 (r32c rfl) (by decide) ?_
    exact ev_iret rfl dX10_cheaply_24 h
  · rw [if_neg c8] at h
    refine ev_aload_n (i := 0) dX10_cheaply_11 rfl rfl ?_
    refine ev_getR dX10_cheaply_12 fl_X10_19 sh_0 (by decide) (by decide) rf_0_1 ?_
    refine ev_iload_n (i := 2) dX10_cheaply_15 rfl rfl ?_
    refine ev_cVI (b := 4) (av := [vI x2]) (S := []) (fun q => q) h dX10_cheaply_16 (fun Q' q => TX0_hasDay_4 x2 _ q) kvX0_hasDay ml_X10_126 sh_4 rfl (RRc (by decide) (by decide)) (Nat.le_of_ble_eq_true rfl) ⟨Nat.le_of_ble_eq_true rfl, Nat.le_of_ble_eq_true rfl⟩ (fun y2 f2 h => ?_)
    refine ev_if_ne (tgt := 25) dX10_cheaply_19 (by decide) (fun c7 => ?_) (fun c7 => ?_)
    · rw [if_neg c7] at h
      refine ev_aload_n (i := 0) dX10_cheaply_25 rfl rfl ?_
      refine ev_cVC (b := 0) (av := []) (S := []) (fun q => q) h dX10_cheaply_26 (fun Q' q => TX10_weighed _ q) kvX10_weighed ml_X10_189 sh_0 rfl (RRc (by decide) (by decide)) (Nat.le_of_ble_eq_true rfl) ⟨Nat.le_of_ble_eq_true rfl, Nat.le_of_ble_eq_true rfl⟩ (fun f3 h => ?_)
      refine ev_astore_n (i := 3) (L' := [some (vR 0), some (vI x1), some (vI x2), some (vR 57), none]) dX10_cheaply_29 rfl (by decide) rfl ?_
      refine ev_aload_n (i := 3) dX10_cheaply_30 rfl rfl ?_
      refine ev_iload_n (i := 1) dX10_cheaply_31 rfl rfl ?_
      refine ev_cVI (b := 57) (av := [vI x1]) (S := []) (fun q => q) h dX10_cheaply_32 (fun Q' q => TX3_cheapFirst x1 _ q) kvX3_cheapFirst ml_X10_245 sh_57 rfl (RRc (by decide) (by decide)) (Nat.le_of_ble_eq_true rfl) ⟨Nat.le_of_ble_eq_true rfl, Nat.le_of_ble_eq_true rfl⟩ (fun y4 f4 h => ?_)
      refine ev_istore (L' := [some (vR 0), some (vI x1), some (vI x2), some (vR 57), some (vI y4)]) dX10_cheaply_35 (by decide) rfl ?_
      refine ev_iload dX10_cheaply_37 rfl ?_
      refine ev_iconst dX10_cheaply_39 (r32c rfl) ?_
      refine ev_icmp_ne (tgt := 47) dX10_cheaply_40 (by decide) (fun c6 => ?_) (fun c6 => ?_)
      · rw [if_neg c6] at h
        refine ev_aload_n (i := 3) dX10_cheaply_47 rfl rfl ?_
        refine ev_iload dX10_cheaply_48 rfl ?_
        refine ev_iload_n (i := 2) dX10_cheaply_50 rfl rfl ?_
        refine ev_cVI (b := 57) (av := [vI y4, vI x2]) (S := []) (fun q => q) h dX10_cheaply_51 (fun Q' q => TX3_deedOn y4 x2 _ q) kvX3_deedOn ml_X10_200 sh_57 rfl (RRc (by decide) (by decide)) (Nat.le_of_ble_eq_true rfl) ⟨Nat.le_of_ble_eq_true rfl, Nat.le_of_ble_eq_true rfl⟩ (fun y5 f5 h => ?_)
        exact ev_iret rfl dX10_cheaply_54 h
      · rw [if_pos c6] at h
        refine ev_iconst dX10_cheaply_43 (r32c rfl) ?_
        refine ev_goto (tgt := 54) dX10_cheaply_44 (by decide) ?_
        exact ev_iret rfl dX10_cheaply_54 h
    · rw [if_pos c7] at h
      refine ev_bipush (v := (-2)) dX10_cheaply_22 (r32c rfl) (by decide) ?_
      exact ev_iret rfl dX10_cheaply_24 h
def FX10_cheaply (x1 : Int) (x2 : Int) (f : Mm) : Option (Int × Mm) := FX10_cheaply_0 x1 x2 f
set_option maxRecDepth 100000 in
theorem TX10_cheaply {G : GT} {l : Launch} {Q : Option AV → Mem → Prop} (x1 : Int) (x2 : Int) (f : Mm) (h : OkI Q (FX10_cheaply x1 x2 f)) : Ret G l MX10_cheaply (6) 0 0 [vR 0, vI x1, vI x2] (SH, RF, f) Q := by
  refine ret_of (L := [some (vR 0), some (vI x1), some (vI x2), none, none]) (by decide) rfl (Nat.le_of_ble_eq_true rfl) ?_
  exact SX10_cheaply_0 x1 x2 f h
theorem dX10_soonest_0 : decode cX10_soonest 0 = .ok (.aload_n 0, 1) := by decide +kernel
theorem dX10_soonest_1 : decode cX10_soonest 1 = .ok (.getfield 19, 3) := by decide +kernel
theorem dX10_soonest_4 : decode cX10_soonest 4 = .ok (.iload_n 1, 1) := by decide +kernel
theorem dX10_soonest_5 : decode cX10_soonest 5 = .ok (.invokevirtual 117, 3) := by decide +kernel
theorem dX10_soonest_8 : decode cX10_soonest 8 = .ok (.ifCond .eq 15, 3) := by decide +kernel
theorem dX10_soonest_23 : decode cX10_soonest 23 = .ok (.bipush (-2), 2) := by decide +kernel
theorem dX10_soonest_25 : decode cX10_soonest 25 = .ok (.ireturn, 1) := by decide +kernel
theorem dX10_soonest_11 : decode cX10_soonest 11 = .ok (.aload_n 0, 1) := by decide +kernel
theorem dX10_soonest_12 : decode cX10_soonest 12 = .ok (.invokevirtual 189, 3) := by decide +kernel
theorem dX10_soonest_15 : decode cX10_soonest 15 = .ok (.getfield 248, 3) := by decide +kernel
theorem dX10_soonest_18 : decode cX10_soonest 18 = .ok (.iload_n 1, 1) := by decide +kernel
theorem dX10_soonest_19 : decode cX10_soonest 19 = .ok (.iaload, 1) := by decide +kernel
theorem dX10_soonest_20 : decode cX10_soonest 20 = .ok (.goto 5, 3) := by decide +kernel
def FX10_soonest_0  (x1 : Int) (f : Mm) : Option (Int × Mm) := (b2 (FX0_hasCart_4 x1 f) fun y1 f1 => (if y1 = 0 then some ((-2), f1) else ((FX10_weighed f1).bind fun f2 => (if 0 ≤ x1 ∧ x1 < 6 then some ((f2 66 x1.toNat), f2) else none))))
set_option maxHeartbeats 4000000 in
set_option maxRecDepth 100000 in
theorem SX10_soonest_0 {G : GT} {l : Launch} {Q : Option AV → Mem → Prop}  (x1 : Int) (f : Mm) (h : OkI Q (FX10_soonest_0  x1 f)) : Ev G l MX10_soonest (Rm 6 0 0) (ZM G Q 0 0) 0 0 0 [some (vR 0), some (vI x1)] [] (SH, RF, f) := by
  unfold FX10_soonest_0 at h
  refine ev_aload_n (i := 0) dX10_soonest_0 rfl rfl ?_
  refine ev_getR dX10_soonest_1 fl_X10_19 sh_0 (by decide) (by decide) rf_0_1 ?_
  refine ev_iload_n (i := 1) dX10_soonest_4 rfl rfl ?_
  refine ev_cVI (b := 4) (av := [vI x1]) (S := []) (fun q => q) h dX10_soonest_5 (fun Q' q => TX0_hasCart_4 x1 _ q) kvX0_hasCart ml_X10_117 sh_4 rfl (RRc (by decide) (by decide)) (Nat.le_of_ble_eq_true rfl) ⟨Nat.le_of_ble_eq_true rfl, Nat.le_of_ble_eq_true rfl⟩ (fun y1 f1 h => ?_)
  refine ev_if_eq (tgt := 23) dX10_soonest_8 (by decide) (fun c4 => ?_) (fun c4 => ?_)
  · rw [if_pos c4] at h
    refine ev_bipush (v := (-2)) dX10_soonest_23 (r32c rfl) (by decide) ?_
    exact ev_iret rfl dX10_soonest_25 h
  · rw [if_neg c4] at h
    refine ev_aload_n (i := 0) dX10_soonest_11 rfl rfl ?_
    refine ev_cVC (b := 0) (av := []) (S := []) (fun q => q) h dX10_soonest_12 (fun Q' q => TX10_weighed _ q) kvX10_weighed ml_X10_189 sh_0 rfl (RRc (by decide) (by decide)) (Nat.le_of_ble_eq_true rfl) ⟨Nat.le_of_ble_eq_true rfl, Nat.le_of_ble_eq_true rfl⟩ (fun f2 h => ?_)
    refine ev_getR dX10_soonest_15 fl_X10_248 sh_57 (by decide) (by decide) rf_57_11 ?_
    refine ev_iload_n (i := 1) dX10_soonest_18 rfl rfl ?_
    by_cases g3 : 0 ≤ x1 ∧ x1 < 6
    · rw [if_pos g3] at h
      refine ex_iald (x := (f2 66 x1.toNat)) dX10_soonest_19 sh_66 g3.1 g3.2 rfl ?_
      refine ev_goto (tgt := 25) dX10_soonest_20 (by decide) ?_
      exact ev_iret rfl dX10_soonest_25 h
    · rw [if_neg g3] at h; exact h.elim
def FX10_soonest (x1 : Int) (f : Mm) : Option (Int × Mm) := FX10_soonest_0 x1 f
set_option maxRecDepth 100000 in
theorem TX10_soonest {G : GT} {l : Launch} {Q : Option AV → Mem → Prop} (x1 : Int) (f : Mm) (h : OkI Q (FX10_soonest x1 f)) : Ret G l MX10_soonest (6) 0 0 [vR 0, vI x1] (SH, RF, f) Q := by
  refine ret_of (L := [some (vR 0), some (vI x1)]) (by decide) rfl (Nat.le_of_ble_eq_true rfl) ?_
  exact SX10_soonest_0 x1 f h
theorem dX10_isFeeling_0 : decode cX10_isFeeling 0 = .ok (.iload_n 0, 1) := by decide +kernel
theorem dX10_isFeeling_1 : decode cX10_isFeeling 1 = .ok (.ifCond .lt 13, 3) := by decide +kernel
theorem dX10_isFeeling_14 : decode cX10_isFeeling 14 = .ok (.iconst 0, 1) := by decide +kernel
theorem dX10_isFeeling_15 : decode cX10_isFeeling 15 = .ok (.ireturn, 1) := by decide +kernel
theorem dX10_isFeeling_4 : decode cX10_isFeeling 4 = .ok (.iload_n 0, 1) := by decide +kernel
theorem dX10_isFeeling_5 : decode cX10_isFeeling 5 = .ok (.bipush 60, 2) := by decide +kernel
theorem dX10_isFeeling_7 : decode cX10_isFeeling 7 = .ok (.if_icmp .gt 7, 3) := by decide +kernel
theorem dX10_isFeeling_10 : decode cX10_isFeeling 10 = .ok (.iconst 1, 1) := by decide +kernel
theorem dX10_isFeeling_11 : decode cX10_isFeeling 11 = .ok (.goto 4, 3) := by decide +kernel
def FX10_isFeeling_0  (x0 : Int) (f : Mm) : Option (Int × Mm) := (if x0 < 0 then some (0, f) else (if 60 < x0 then some (0, f) else some (1, f)))
set_option maxHeartbeats 4000000 in
set_option maxRecDepth 100000 in
theorem SX10_isFeeling_0 {G : GT} {l : Launch} {Q : Option AV → Mem → Prop}  (x0 : Int) (f : Mm) (h : OkI Q (FX10_isFeeling_0  x0 f)) : Ev G l MX10_isFeeling (Rm 1 0 0) (ZM G Q 0 0) 0 0 0 [some (vI x0)] [] (SH, RF, f) := by
  unfold FX10_isFeeling_0 at h
  refine ev_iload_n (i := 0) dX10_isFeeling_0 rfl rfl ?_
  refine ev_if_lt (tgt := 14) dX10_isFeeling_1 (by decide) (fun c2 => ?_) (fun c2 => ?_)
  · rw [if_pos c2] at h
    refine ev_iconst dX10_isFeeling_14 (r32c rfl) ?_
    exact ev_zret rfl (by decide) dX10_isFeeling_15 h
  · rw [if_neg c2] at h
    refine ev_iload_n (i := 0) dX10_isFeeling_4 rfl rfl ?_
    refine ev_bipush (v := 60) dX10_isFeeling_5 (r32c rfl) (by decide) ?_
    refine ev_icmp_gt (tgt := 14) dX10_isFeeling_7 (by decide) (fun c1 => ?_) (fun c1 => ?_)
    · rw [if_pos c1] at h
      refine ev_iconst dX10_isFeeling_14 (r32c rfl) ?_
      exact ev_zret rfl (by decide) dX10_isFeeling_15 h
    · rw [if_neg c1] at h
      refine ev_iconst dX10_isFeeling_10 (r32c rfl) ?_
      refine ev_goto (tgt := 15) dX10_isFeeling_11 (by decide) ?_
      exact ev_zret rfl (by decide) dX10_isFeeling_15 h
def FX10_isFeeling (x0 : Int) (f : Mm) : Option (Int × Mm) := FX10_isFeeling_0 x0 f
set_option maxRecDepth 100000 in
theorem TX10_isFeeling {G : GT} {l : Launch} {Q : Option AV → Mem → Prop} (x0 : Int) (f : Mm) (h : OkI Q (FX10_isFeeling x0 f)) : Ret G l MX10_isFeeling (1) 0 0 [vI x0] (SH, RF, f) Q := by
  refine ret_of (L := [some (vI x0)]) (by decide) rfl (Nat.le_of_ble_eq_true rfl) ?_
  exact SX10_isFeeling_0 x0 f h
theorem dX3_holdCost_42 : decode cX3_holdCost 42 = .ok (.iinc 3 1, 3) := by decide +kernel
theorem dX3_holdCost_45 : decode cX3_holdCost 45 = .ok (.goto (-41), 3) := by decide +kernel
theorem dX3_holdCost_35 : decode cX3_holdCost 35 = .ok (.aload_n 0, 1) := by decide +kernel
theorem dX3_holdCost_36 : decode cX3_holdCost 36 = .ok (.getfield 30, 3) := by decide +kernel
theorem dX3_holdCost_39 : decode cX3_holdCost 39 = .ok (.iload_n 3, 1) := by decide +kernel
theorem dX3_holdCost_40 : decode cX3_holdCost 40 = .ok (.iaload, 1) := by decide +kernel
theorem dX3_holdCost_41 : decode cX3_holdCost 41 = .ok (.istore_n 2, 1) := by decide +kernel
theorem dX3_holdCost_4 : decode cX3_holdCost 4 = .ok (.iload_n 3, 1) := by decide +kernel
theorem dX3_holdCost_5 : decode cX3_holdCost 5 = .ok (.bipush 60, 2) := by decide +kernel
theorem dX3_holdCost_7 : decode cX3_holdCost 7 = .ok (.if_icmp .gt 41, 3) := by decide +kernel
theorem dX3_holdCost_48 : decode cX3_holdCost 48 = .ok (.iload_n 2, 1) := by decide +kernel
theorem dX3_holdCost_49 : decode cX3_holdCost 49 = .ok (.ireturn, 1) := by decide +kernel
theorem dX3_holdCost_10 : decode cX3_holdCost 10 = .ok (.aload_n 0, 1) := by decide +kernel
theorem dX3_holdCost_11 : decode cX3_holdCost 11 = .ok (.getfield 30, 3) := by decide +kernel
theorem dX3_holdCost_14 : decode cX3_holdCost 14 = .ok (.iload_n 3, 1) := by decide +kernel
theorem dX3_holdCost_15 : decode cX3_holdCost 15 = .ok (.iaload, 1) := by decide +kernel
theorem dX3_holdCost_16 : decode cX3_holdCost 16 = .ok (.iconst (-1), 1) := by decide +kernel
theorem dX3_holdCost_17 : decode cX3_holdCost 17 = .ok (.if_icmp .eq 25, 3) := by decide +kernel
theorem dX3_holdCost_20 : decode cX3_holdCost 20 = .ok (.iload_n 2, 1) := by decide +kernel
theorem dX3_holdCost_21 : decode cX3_holdCost 21 = .ok (.iconst (-1), 1) := by decide +kernel
theorem dX3_holdCost_22 : decode cX3_holdCost 22 = .ok (.if_icmp .eq 13, 3) := by decide +kernel
theorem dX3_holdCost_25 : decode cX3_holdCost 25 = .ok (.aload_n 0, 1) := by decide +kernel
theorem dX3_holdCost_26 : decode cX3_holdCost 26 = .ok (.getfield 30, 3) := by decide +kernel
theorem dX3_holdCost_29 : decode cX3_holdCost 29 = .ok (.iload_n 3, 1) := by decide +kernel
theorem dX3_holdCost_30 : decode cX3_holdCost 30 = .ok (.iaload, 1) := by decide +kernel
theorem dX3_holdCost_31 : decode cX3_holdCost 31 = .ok (.iload_n 2, 1) := by decide +kernel
theorem dX3_holdCost_32 : decode cX3_holdCost 32 = .ok (.if_icmp .ge 10, 3) := by decide +kernel
theorem dX3_holdCost_0 : decode cX3_holdCost 0 = .ok (.iconst (-1), 1) := by decide +kernel
theorem dX3_holdCost_1 : decode cX3_holdCost 1 = .ok (.istore_n 2, 1) := by decide +kernel
theorem dX3_holdCost_2 : decode cX3_holdCost 2 = .ok (.iload_n 1, 1) := by decide +kernel
theorem dX3_holdCost_3 : decode cX3_holdCost 3 = .ok (.istore_n 3, 1) := by decide +kernel
def FX3_holdCost_42 (k4 : Int → Int → Mm → Option (Int × Mm)) (x2 : Int) (x3 : Int) (f : Mm) : Option (Int × Mm) := k4 x2 (w32 (x3 + 1)) f
set_option maxHeartbeats 4000000 in
set_option maxRecDepth 100000 in
theorem SX3_holdCost_42 {G : GT} {l : Launch} {Q : Option AV → Mem → Prop} {k4 : Int → Int → Mm → Option (Int × Mm)} (q4 : ∀ (x2 : Int) (x3 : Int) (f : Mm), OkI Q (k4 x2 x3 f) → Ev G l MX3_holdCost (Rm 1 0 0) (ZM G Q 0 0) 0 0 4 [some (vR 57), none, some (vI x2), some (vI x3)] [] (SH, RF, f)) (x2 : Int) (x3 : Int) (f : Mm) (h : OkI Q (FX3_holdCost_42 k4 x2 x3 f)) : Ev G l MX3_holdCost (Rm 1 0 0) (ZM G Q 0 0) 0 0 42 [some (vR 57), none, some (vI x2), some (vI x3)] [] (SH, RF, f) := by
  unfold FX3_holdCost_42 at h
  refine ev_iinc (L' := [some (vR 57), none, some (vI x2), some (vI (w32 (x3 + 1)))]) dX3_holdCost_42 rfl (by decide) rfl ?_
  refine ev_goto (tgt := 4) dX3_holdCost_45 (by decide) ?_
  exact q4 x2 (w32 (x3 + 1)) _ h
def FX3_holdCost_35 (k4 : Int → Int → Mm → Option (Int × Mm)) (x3 : Int) (f : Mm) : Option (Int × Mm) := (if 0 ≤ x3 ∧ x3 < 61 then FX3_holdCost_42 k4 (f 64 x3.toNat) x3 f else none)
set_option maxHeartbeats 4000000 in
set_option maxRecDepth 100000 in
theorem SX3_holdCost_35 {G : GT} {l : Launch} {Q : Option AV → Mem → Prop} {k4 : Int → Int → Mm → Option (Int × Mm)} (q4 : ∀ (x2 : Int) (x3 : Int) (f : Mm), OkI Q (k4 x2 x3 f) → Ev G l MX3_holdCost (Rm 1 0 0) (ZM G Q 0 0) 0 0 4 [some (vR 57), none, some (vI x2), some (vI x3)] [] (SH, RF, f)) (x3 : Int) (f : Mm) (h : OkI Q (FX3_holdCost_35 k4 x3 f)) : Ev G l MX3_holdCost (Rm 1 0 0) (ZM G Q 0 0) 0 0 35 [some (vR 57), none, none, some (vI x3)] [] (SH, RF, f) := by
  unfold FX3_holdCost_35 at h
  refine ev_aload_n (i := 0) dX3_holdCost_35 rfl rfl ?_
  refine ev_getR dX3_holdCost_36 fl_X3_30 sh_57 (by decide) (by decide) rf_57_9 ?_
  refine ev_iload_n (i := 3) dX3_holdCost_39 rfl rfl ?_
  by_cases g1 : 0 ≤ x3 ∧ x3 < 61
  · rw [if_pos g1] at h
    refine ex_iald (x := (f 64 x3.toNat)) dX3_holdCost_40 sh_64 g1.1 g1.2 rfl ?_
    refine ev_istore_n (i := 2) (L' := [some (vR 57), none, some (vI (f 64 x3.toNat)), some (vI x3)]) dX3_holdCost_41 rfl (by decide) rfl ?_
    exact SX3_holdCost_42 q4 (f 64 x3.toNat) x3 _ h
  · rw [if_neg g1] at h; exact h.elim
def FX3_holdCost_4  : Nat → Int → Int → Mm → Option (Int × Mm)
  | 0, _, _, _ => none
  | n + 1, x2, x3, f => (if 60 < x3 then some (x2, f) else (if 0 ≤ x3 ∧ x3 < 61 then (if (f 64 x3.toNat) = (-1) then FX3_holdCost_42 (FX3_holdCost_4 n) x2 x3 f else (if x2 = (-1) then FX3_holdCost_35 (FX3_holdCost_4 n) x3 f else (if 0 ≤ x3 ∧ x3 < 61 then (if x2 ≤ (f 64 x3.toNat) then FX3_holdCost_42 (FX3_holdCost_4 n) x2 x3 f else FX3_holdCost_35 (FX3_holdCost_4 n) x3 f) else none))) else none))
set_option maxHeartbeats 4000000 in
set_option maxRecDepth 100000 in
theorem SX3_holdCost_4 {G : GT} {l : Launch} {Q : Option AV → Mem → Prop}  : ∀ (n : Nat) (x2 : Int) (x3 : Int) (f : Mm), OkI Q (FX3_holdCost_4  n x2 x3 f) → Ev G l MX3_holdCost (Rm 1 0 0) (ZM G Q 0 0) 0 0 4 [some (vR 57), none, some (vI x2), some (vI x3)] [] (SH, RF, f) := by
  intro n
  induction n with
  | zero => intro x2 x3 f h; exact absurd h (by rw [FX3_holdCost_4]; exact fun q => q)
  | succ n ih =>
    intro x2 x3 f h
    rw [FX3_holdCost_4] at h
    refine ev_iload_n (i := 3) dX3_holdCost_4 rfl rfl ?_
    refine ev_bipush (v := 60) dX3_holdCost_5 (r32c rfl) (by decide) ?_
    refine ev_icmp_gt (tgt := 48) dX3_holdCost_7 (by decide) (fun c6 => ?_) (fun c6 => ?_)
    · rw [if_pos c6] at h
      refine ev_iload_n (i := 2) dX3_holdCost_48 rfl rfl ?_
      exact ev_iret rfl dX3_holdCost_49 h
    · rw [if_neg c6] at h
      refine ev_aload_n (i := 0) dX3_holdCost_10 rfl rfl ?_
      refine ev_getR dX3_holdCost_11 fl_X3_30 sh_57 (by decide) (by decide) rf_57_9 ?_
      refine ev_iload_n (i := 3) dX3_holdCost_14 rfl rfl ?_
      by_cases g1 : 0 ≤ x3 ∧ x3 < 61
      · rw [if_pos g1] at h
        refine ex_iald (x := (f 64 x3.toNat)) dX3_holdCost_15 sh_64 g1.1 g1.2 rfl ?_
        refine ev_iconst dX3_holdCost_16 (r32c rfl) ?_
        refine ev_icmp_eq (tgt := 42) dX3_holdCost_17 (by decide) (fun c5 => ?_) (fun c5 => ?_)
        · rw [if_pos c5] at h
          exact SX3_holdCost_42 ih x2 x3 _ h
        · rw [if_neg c5] at h
          refine ev_iload_n (i := 2) dX3_holdCost_20 rfl rfl ?_
          refine ev_iconst dX3_holdCost_21 (r32c rfl) ?_
          refine ev_icmp_eq (tgt := 35) dX3_holdCost_22 (by decide) (fun c4 => ?_) (fun c4 => ?_)
          · rw [if_pos c4] at h
            refine ev_fg [true, true, false, true] rfl ?_
            exact SX3_holdCost_35 ih x3 _ h
          · rw [if_neg c4] at h
            refine ev_aload_n (i := 0) dX3_holdCost_25 rfl rfl ?_
            refine ev_getR dX3_holdCost_26 fl_X3_30 sh_57 (by decide) (by decide) rf_57_9 ?_
            refine ev_iload_n (i := 3) dX3_holdCost_29 rfl rfl ?_
            by_cases g2 : 0 ≤ x3 ∧ x3 < 61
            · rw [if_pos g2] at h
              refine ex_iald (x := (f 64 x3.toNat)) dX3_holdCost_30 sh_64 g2.1 g2.2 rfl ?_
              refine ev_iload_n (i := 2) dX3_holdCost_31 rfl rfl ?_
              refine ev_icmp_ge (tgt := 42) dX3_holdCost_32 (by decide) (fun c3 => ?_) (fun c3 => ?_)
              · rw [if_pos c3] at h
                exact SX3_holdCost_42 ih x2 x3 _ h
              · rw [if_neg c3] at h
                refine ev_fg [true, true, false, true] rfl ?_
                exact SX3_holdCost_35 ih x3 _ h
            · rw [if_neg g2] at h; exact h.elim
      · rw [if_neg g1] at h; exact h.elim
def FX3_holdCost_0  (x1 : Int) (f : Mm) : Option (Int × Mm) := FX3_holdCost_4 fu (-1) x1 f
set_option maxHeartbeats 4000000 in
set_option maxRecDepth 100000 in
theorem SX3_holdCost_0 {G : GT} {l : Launch} {Q : Option AV → Mem → Prop}  (x1 : Int) (f : Mm) (h : OkI Q (FX3_holdCost_0  x1 f)) : Ev G l MX3_holdCost (Rm 1 0 0) (ZM G Q 0 0) 0 0 0 [some (vR 57), some (vI x1), none, none] [] (SH, RF, f) := by
  unfold FX3_holdCost_0 at h
  refine ev_iconst dX3_holdCost_0 (r32c rfl) ?_
  refine ev_istore_n (i := 2) (L' := [some (vR 57), some (vI x1), some (vI (-1)), none]) dX3_holdCost_1 rfl (by decide) rfl ?_
  refine ev_iload_n (i := 1) dX3_holdCost_2 rfl rfl ?_
  refine ev_istore_n (i := 3) (L' := [some (vR 57), some (vI x1), some (vI (-1)), some (vI x1)]) dX3_holdCost_3 rfl (by decide) rfl ?_
  refine ev_fg [true, false, true, true] rfl ?_
  exact SX3_holdCost_4  fu (-1) x1 _ h
def FX3_holdCost (x1 : Int) (f : Mm) : Option (Int × Mm) := FX3_holdCost_0 x1 f
set_option maxRecDepth 100000 in
theorem TX3_holdCost {G : GT} {l : Launch} {Q : Option AV → Mem → Prop} (x1 : Int) (f : Mm) (h : OkI Q (FX3_holdCost x1 f)) : Ret G l MX3_holdCost (1) 0 0 [vR 57, vI x1] (SH, RF, f) Q := by
  refine ret_of (L := [some (vR 57), some (vI x1), none, none]) (by decide) rfl (Nat.le_of_ble_eq_true rfl) ?_
  exact SX3_holdCost_0 x1 f h
theorem dX10_hold_0 : decode cX10_hold 0 = .ok (.aload_n 0, 1) := by decide +kernel
theorem dX10_hold_1 : decode cX10_hold 1 = .ok (.getfield 19, 3) := by decide +kernel
theorem dX10_hold_4 : decode cX10_hold 4 = .ok (.invokevirtual 140, 3) := by decide +kernel
theorem dX10_hold_7 : decode cX10_hold 7 = .ok (.ifCond .eq 10, 3) := by decide +kernel
theorem dX10_hold_17 : decode cX10_hold 17 = .ok (.bipush (-2), 2) := by decide +kernel
theorem dX10_hold_19 : decode cX10_hold 19 = .ok (.ireturn, 1) := by decide +kernel
theorem dX10_hold_10 : decode cX10_hold 10 = .ok (.iload_n 1, 1) := by decide +kernel
theorem dX10_hold_11 : decode cX10_hold 11 = .ok (.invokestatic 251, 3) := by decide +kernel
theorem dX10_hold_14 : decode cX10_hold 14 = .ok (.ifCond .ne 6, 3) := by decide +kernel
theorem dX10_hold_20 : decode cX10_hold 20 = .ok (.aload_n 0, 1) := by decide +kernel
theorem dX10_hold_21 : decode cX10_hold 21 = .ok (.invokevirtual 189, 3) := by decide +kernel
theorem dX10_hold_24 : decode cX10_hold 24 = .ok (.iload_n 1, 1) := by decide +kernel
theorem dX10_hold_25 : decode cX10_hold 25 = .ok (.invokevirtual 254, 3) := by decide +kernel
theorem dX10_hold_28 : decode cX10_hold 28 = .ok (.ireturn, 1) := by decide +kernel
def FX10_hold_0  (x1 : Int) (f : Mm) : Option (Int × Mm) := (b2 (FX0_stands_4 f) fun y1 f1 => (if y1 = 0 then some ((-2), f1) else (b2 (FX10_isFeeling x1 f1) fun y2 f2 => (if y2 = 0 then some ((-2), f2) else ((FX10_weighed f2).bind fun f3 => (b2 (FX3_holdCost x1 f3) fun y4 f4 => some (y4, f4)))))))
set_option maxHeartbeats 4000000 in
set_option maxRecDepth 100000 in
theorem SX10_hold_0 {G : GT} {l : Launch} {Q : Option AV → Mem → Prop}  (x1 : Int) (f : Mm) (h : OkI Q (FX10_hold_0  x1 f)) : Ev G l MX10_hold (Rm 6 0 0) (ZM G Q 0 0) 0 0 0 [some (vR 0), some (vI x1)] [] (SH, RF, f) := by
  unfold FX10_hold_0 at h
  refine ev_aload_n (i := 0) dX10_hold_0 rfl rfl ?_
  refine ev_getR dX10_hold_1 fl_X10_19 sh_0 (by decide) (by decide) rf_0_1 ?_
  refine ev_cVI (b := 4) (av := []) (S := []) (fun q => q) h dX10_hold_4 (fun Q' q => TX0_stands_4 _ q) kvX0_stands ml_X10_140 sh_4 rfl (RRc (by decide) (by decide)) (Nat.le_of_ble_eq_true rfl) ⟨Nat.le_of_ble_eq_true rfl, Nat.le_of_ble_eq_true rfl⟩ (fun y1 f1 h => ?_)
  refine ev_if_eq (tgt := 17) dX10_hold_7 (by decide) (fun c6 => ?_) (fun c6 => ?_)
  · rw [if_pos c6] at h
    refine ev_bipush (v := (-2)) dX10_hold_17 (r32c rfl) (by decide) ?_
    exact ev_iret rfl dX10_hold_19 h
  · rw [if_neg c6] at h
    refine ev_iload_n (i := 1) dX10_hold_10 rfl rfl ?_
    refine ev_cSI (av := [vI x1]) (S := []) (fun q => q) h dX10_hold_11 (fun Q' q => TX10_isFeeling x1 _ q) ksX10_isFeeling ml_X10_251 rfl (RRc (by decide) (by decide)) (Nat.le_of_ble_eq_true rfl) ⟨Nat.le_of_ble_eq_true rfl, Nat.le_of_ble_eq_true rfl⟩ (fun y2 f2 h => ?_)
    refine ev_if_ne (tgt := 20) dX10_hold_14 (by decide) (fun c5 => ?_) (fun c5 => ?_)
    · rw [if_neg c5] at h
      refine ev_aload_n (i := 0) dX10_hold_20 rfl rfl ?_
      refine ev_cVC (b := 0) (av := []) (S := []) (fun q => q) h dX10_hold_21 (fun Q' q => TX10_weighed _ q) kvX10_weighed ml_X10_189 sh_0 rfl (RRc (by decide) (by decide)) (Nat.le_of_ble_eq_true rfl) ⟨Nat.le_of_ble_eq_true rfl, Nat.le_of_ble_eq_true rfl⟩ (fun f3 h => ?_)
      refine ev_iload_n (i := 1) dX10_hold_24 rfl rfl ?_
      refine ev_cVI (b := 57) (av := [vI x1]) (S := []) (fun q => q) h dX10_hold_25 (fun Q' q => TX3_holdCost x1 _ q) kvX3_holdCost ml_X10_254 sh_57 rfl (RRc (by decide) (by decide)) (Nat.le_of_ble_eq_true rfl) ⟨Nat.le_of_ble_eq_true rfl, Nat.le_of_ble_eq_true rfl⟩ (fun y4 f4 h => ?_)
      exact ev_iret rfl dX10_hold_28 h
    · rw [if_pos c5] at h
      refine ev_bipush (v := (-2)) dX10_hold_17 (r32c rfl) (by decide) ?_
      exact ev_iret rfl dX10_hold_19 h
def FX10_hold (x1 : Int) (f : Mm) : Option (Int × Mm) := FX10_hold_0 x1 f
set_option maxRecDepth 100000 in
theorem TX10_hold {G : GT} {l : Launch} {Q : Option AV → Mem → Prop} (x1 : Int) (f : Mm) (h : OkI Q (FX10_hold x1 f)) : Ret G l MX10_hold (6) 0 0 [vR 0, vI x1] (SH, RF, f) Q := by
  refine ret_of (L := [some (vR 0), some (vI x1)]) (by decide) rfl (Nat.le_of_ble_eq_true rfl) ?_
  exact SX10_hold_0 x1 f h
theorem dX3_widestLeast_22 : decode cX3_widestLeast 22 = .ok (.iinc 2 1, 3) := by decide +kernel
theorem dX3_widestLeast_25 : decode cX3_widestLeast 25 = .ok (.goto (-21), 3) := by decide +kernel
theorem dX3_widestLeast_4 : decode cX3_widestLeast 4 = .ok (.iload_n 2, 1) := by decide +kernel
theorem dX3_widestLeast_5 : decode cX3_widestLeast 5 = .ok (.bipush 60, 2) := by decide +kernel
theorem dX3_widestLeast_7 : decode cX3_widestLeast 7 = .ok (.if_icmp .gt 21, 3) := by decide +kernel
theorem dX3_widestLeast_28 : decode cX3_widestLeast 28 = .ok (.iload_n 1, 1) := by decide +kernel
theorem dX3_widestLeast_29 : decode cX3_widestLeast 29 = .ok (.ireturn, 1) := by decide +kernel
theorem dX3_widestLeast_10 : decode cX3_widestLeast 10 = .ok (.aload_n 0, 1) := by decide +kernel
theorem dX3_widestLeast_11 : decode cX3_widestLeast 11 = .ok (.getfield 30, 3) := by decide +kernel
theorem dX3_widestLeast_14 : decode cX3_widestLeast 14 = .ok (.iload_n 2, 1) := by decide +kernel
theorem dX3_widestLeast_15 : decode cX3_widestLeast 15 = .ok (.iaload, 1) := by decide +kernel
theorem dX3_widestLeast_16 : decode cX3_widestLeast 16 = .ok (.iconst (-1), 1) := by decide +kernel
theorem dX3_widestLeast_17 : decode cX3_widestLeast 17 = .ok (.if_icmp .eq 5, 3) := by decide +kernel
theorem dX3_widestLeast_20 : decode cX3_widestLeast 20 = .ok (.iload_n 2, 1) := by decide +kernel
theorem dX3_widestLeast_21 : decode cX3_widestLeast 21 = .ok (.istore_n 1, 1) := by decide +kernel
theorem dX3_widestLeast_0 : decode cX3_widestLeast 0 = .ok (.iconst 0, 1) := by decide +kernel
theorem dX3_widestLeast_1 : decode cX3_widestLeast 1 = .ok (.istore_n 1, 1) := by decide +kernel
theorem dX3_widestLeast_2 : decode cX3_widestLeast 2 = .ok (.iconst 0, 1) := by decide +kernel
theorem dX3_widestLeast_3 : decode cX3_widestLeast 3 = .ok (.istore_n 2, 1) := by decide +kernel
def FX3_widestLeast_22 (k4 : Int → Int → Mm → Option (Int × Mm)) (x1 : Int) (x2 : Int) (f : Mm) : Option (Int × Mm) := k4 x1 (w32 (x2 + 1)) f
set_option maxHeartbeats 4000000 in
set_option maxRecDepth 100000 in
theorem SX3_widestLeast_22 {G : GT} {l : Launch} {Q : Option AV → Mem → Prop} {k4 : Int → Int → Mm → Option (Int × Mm)} (q4 : ∀ (x1 : Int) (x2 : Int) (f : Mm), OkI Q (k4 x1 x2 f) → Ev G l MX3_widestLeast (Rm 1 0 0) (ZM G Q 0 0) 0 0 4 [some (vR 57), some (vI x1), some (vI x2)] [] (SH, RF, f)) (x1 : Int) (x2 : Int) (f : Mm) (h : OkI Q (FX3_widestLeast_22 k4 x1 x2 f)) : Ev G l MX3_widestLeast (Rm 1 0 0) (ZM G Q 0 0) 0 0 22 [some (vR 57), some (vI x1), some (vI x2)] [] (SH, RF, f) := by
  unfold FX3_widestLeast_22 at h
  refine ev_iinc (L' := [some (vR 57), some (vI x1), some (vI (w32 (x2 + 1)))]) dX3_widestLeast_22 rfl (by decide) rfl ?_
  refine ev_goto (tgt := 4) dX3_widestLeast_25 (by decide) ?_
  exact q4 x1 (w32 (x2 + 1)) _ h
def FX3_widestLeast_4  : Nat → Int → Int → Mm → Option (Int × Mm)
  | 0, _, _, _ => none
  | n + 1, x1, x2, f => (if 60 < x2 then some (x1, f) else (if 0 ≤ x2 ∧ x2 < 61 then (if (f 64 x2.toNat) = (-1) then FX3_widestLeast_22 (FX3_widestLeast_4 n) x1 x2 f else FX3_widestLeast_22 (FX3_widestLeast_4 n) x2 x2 f) else none))
set_option maxHeartbeats 4000000 in
set_option maxRecDepth 100000 in
theorem SX3_widestLeast_4 {G : GT} {l : Launch} {Q : Option AV → Mem → Prop}  : ∀ (n : Nat) (x1 : Int) (x2 : Int) (f : Mm), OkI Q (FX3_widestLeast_4  n x1 x2 f) → Ev G l MX3_widestLeast (Rm 1 0 0) (ZM G Q 0 0) 0 0 4 [some (vR 57), some (vI x1), some (vI x2)] [] (SH, RF, f) := by
  intro n
  induction n with
  | zero => intro x1 x2 f h; exact absurd h (by rw [FX3_widestLeast_4]; exact fun q => q)
  | succ n ih =>
    intro x1 x2 f h
    rw [FX3_widestLeast_4] at h
    refine ev_iload_n (i := 2) dX3_widestLeast_4 rfl rfl ?_
    refine ev_bipush (v := 60) dX3_widestLeast_5 (r32c rfl) (by decide) ?_
    refine ev_icmp_gt (tgt := 28) dX3_widestLeast_7 (by decide) (fun c3 => ?_) (fun c3 => ?_)
    · rw [if_pos c3] at h
      refine ev_iload_n (i := 1) dX3_widestLeast_28 rfl rfl ?_
      exact ev_iret rfl dX3_widestLeast_29 h
    · rw [if_neg c3] at h
      refine ev_aload_n (i := 0) dX3_widestLeast_10 rfl rfl ?_
      refine ev_getR dX3_widestLeast_11 fl_X3_30 sh_57 (by decide) (by decide) rf_57_9 ?_
      refine ev_iload_n (i := 2) dX3_widestLeast_14 rfl rfl ?_
      by_cases g1 : 0 ≤ x2 ∧ x2 < 61
      · rw [if_pos g1] at h
        refine ex_iald (x := (f 64 x2.toNat)) dX3_widestLeast_15 sh_64 g1.1 g1.2 rfl ?_
        refine ev_iconst dX3_widestLeast_16 (r32c rfl) ?_
        refine ev_icmp_eq (tgt := 22) dX3_widestLeast_17 (by decide) (fun c2 => ?_) (fun c2 => ?_)
        · rw [if_pos c2] at h
          exact SX3_widestLeast_22 ih x1 x2 _ h
        · rw [if_neg c2] at h
          refine ev_iload_n (i := 2) dX3_widestLeast_20 rfl rfl ?_
          refine ev_istore_n (i := 1) (L' := [some (vR 57), some (vI x2), some (vI x2)]) dX3_widestLeast_21 rfl (by decide) rfl ?_
          exact SX3_widestLeast_22 ih x2 x2 _ h
      · rw [if_neg g1] at h; exact h.elim
def FX3_widestLeast_0   (f : Mm) : Option (Int × Mm) := FX3_widestLeast_4 fu 0 0 f
set_option maxHeartbeats 4000000 in
set_option maxRecDepth 100000 in
theorem SX3_widestLeast_0 {G : GT} {l : Launch} {Q : Option AV → Mem → Prop}   (f : Mm) (h : OkI Q (FX3_widestLeast_0   f)) : Ev G l MX3_widestLeast (Rm 1 0 0) (ZM G Q 0 0) 0 0 0 [some (vR 57), none, none] [] (SH, RF, f) := by
  unfold FX3_widestLeast_0 at h
  refine ev_iconst dX3_widestLeast_0 (r32c rfl) ?_
  refine ev_istore_n (i := 1) (L' := [some (vR 57), some (vI 0), none]) dX3_widestLeast_1 rfl (by decide) rfl ?_
  refine ev_iconst dX3_widestLeast_2 (r32c rfl) ?_
  refine ev_istore_n (i := 2) (L' := [some (vR 57), some (vI 0), some (vI 0)]) dX3_widestLeast_3 rfl (by decide) rfl ?_
  exact SX3_widestLeast_4  fu 0 0 _ h
def FX3_widestLeast  (f : Mm) : Option (Int × Mm) := FX3_widestLeast_0  f
set_option maxRecDepth 100000 in
theorem TX3_widestLeast {G : GT} {l : Launch} {Q : Option AV → Mem → Prop}  (f : Mm) (h : OkI Q (FX3_widestLeast  f)) : Ret G l MX3_widestLeast (1) 0 0 [vR 57] (SH, RF, f) Q := by
  refine ret_of (L := [some (vR 57), none, none]) (by decide) rfl (Nat.le_of_ble_eq_true rfl) ?_
  exact SX3_widestLeast_0  f h
theorem dX10_widest_0 : decode cX10_widest 0 = .ok (.aload_n 0, 1) := by decide +kernel
theorem dX10_widest_1 : decode cX10_widest 1 = .ok (.getfield 19, 3) := by decide +kernel
theorem dX10_widest_4 : decode cX10_widest 4 = .ok (.invokevirtual 140, 3) := by decide +kernel
theorem dX10_widest_7 : decode cX10_widest 7 = .ok (.ifCond .eq 13, 3) := by decide +kernel
theorem dX10_widest_20 : decode cX10_widest 20 = .ok (.bipush (-2), 2) := by decide +kernel
theorem dX10_widest_22 : decode cX10_widest 22 = .ok (.ireturn, 1) := by decide +kernel
theorem dX10_widest_10 : decode cX10_widest 10 = .ok (.aload_n 0, 1) := by decide +kernel
theorem dX10_widest_11 : decode cX10_widest 11 = .ok (.invokevirtual 189, 3) := by decide +kernel
theorem dX10_widest_14 : decode cX10_widest 14 = .ok (.invokevirtual 257, 3) := by decide +kernel
theorem dX10_widest_17 : decode cX10_widest 17 = .ok (.goto 5, 3) := by decide +kernel
def FX10_widest_0   (f : Mm) : Option (Int × Mm) := (b2 (FX0_stands_4 f) fun y1 f1 => (if y1 = 0 then some ((-2), f1) else ((FX10_weighed f1).bind fun f2 => (b2 (FX3_widestLeast f2) fun y3 f3 => some (y3, f3)))))
set_option maxHeartbeats 4000000 in
set_option maxRecDepth 100000 in
theorem SX10_widest_0 {G : GT} {l : Launch} {Q : Option AV → Mem → Prop}   (f : Mm) (h : OkI Q (FX10_widest_0   f)) : Ev G l MX10_widest (Rm 6 0 0) (ZM G Q 0 0) 0 0 0 [some (vR 0)] [] (SH, RF, f) := by
  unfold FX10_widest_0 at h
  refine ev_aload_n (i := 0) dX10_widest_0 rfl rfl ?_
  refine ev_getR dX10_widest_1 fl_X10_19 sh_0 (by decide) (by decide) rf_0_1 ?_
  refine ev_cVI (b := 4) (av := []) (S := []) (fun q => q) h dX10_widest_4 (fun Q' q => TX0_stands_4 _ q) kvX0_stands ml_X10_140 sh_4 rfl (RRc (by decide) (by decide)) (Nat.le_of_ble_eq_true rfl) ⟨Nat.le_of_ble_eq_true rfl, Nat.le_of_ble_eq_true rfl⟩ (fun y1 f1 h => ?_)
  refine ev_if_eq (tgt := 20) dX10_widest_7 (by decide) (fun c4 => ?_) (fun c4 => ?_)
  · rw [if_pos c4] at h
    refine ev_bipush (v := (-2)) dX10_widest_20 (r32c rfl) (by decide) ?_
    exact ev_iret rfl dX10_widest_22 h
  · rw [if_neg c4] at h
    refine ev_aload_n (i := 0) dX10_widest_10 rfl rfl ?_
    refine ev_cVC (b := 0) (av := []) (S := []) (fun q => q) h dX10_widest_11 (fun Q' q => TX10_weighed _ q) kvX10_weighed ml_X10_189 sh_0 rfl (RRc (by decide) (by decide)) (Nat.le_of_ble_eq_true rfl) ⟨Nat.le_of_ble_eq_true rfl, Nat.le_of_ble_eq_true rfl⟩ (fun f2 h => ?_)
    refine ev_cVI (b := 57) (av := []) (S := []) (fun q => q) h dX10_widest_14 (fun Q' q => TX3_widestLeast _ q) kvX3_widestLeast ml_X10_257 sh_57 rfl (RRc (by decide) (by decide)) (Nat.le_of_ble_eq_true rfl) ⟨Nat.le_of_ble_eq_true rfl, Nat.le_of_ble_eq_true rfl⟩ (fun y3 f3 h => ?_)
    refine ev_goto (tgt := 22) dX10_widest_17 (by decide) ?_
    exact ev_iret rfl dX10_widest_22 h
def FX10_widest  (f : Mm) : Option (Int × Mm) := FX10_widest_0  f
set_option maxRecDepth 100000 in
theorem TX10_widest {G : GT} {l : Launch} {Q : Option AV → Mem → Prop}  (f : Mm) (h : OkI Q (FX10_widest  f)) : Ret G l MX10_widest (6) 0 0 [vR 0] (SH, RF, f) Q := by
  refine ret_of (L := [some (vR 0)]) (by decide) rfl (Nat.le_of_ble_eq_true rfl) ?_
  exact SX10_widest_0  f h
theorem dX10_most_0 : decode cX10_most 0 = .ok (.aload_n 0, 1) := by decide +kernel
theorem dX10_most_1 : decode cX10_most 1 = .ok (.getfield 19, 3) := by decide +kernel
theorem dX10_most_4 : decode cX10_most 4 = .ok (.iload_n 1, 1) := by decide +kernel
theorem dX10_most_5 : decode cX10_most 5 = .ok (.invokevirtual 126, 3) := by decide +kernel
theorem dX10_most_8 : decode cX10_most 8 = .ok (.ifCond .eq 15, 3) := by decide +kernel
theorem dX10_most_23 : decode cX10_most 23 = .ok (.bipush (-2), 2) := by decide +kernel
theorem dX10_most_25 : decode cX10_most 25 = .ok (.ireturn, 1) := by decide +kernel
theorem dX10_most_11 : decode cX10_most 11 = .ok (.aload_n 0, 1) := by decide +kernel
theorem dX10_most_12 : decode cX10_most 12 = .ok (.invokevirtual 189, 3) := by decide +kernel
theorem dX10_most_15 : decode cX10_most 15 = .ok (.getfield 260, 3) := by decide +kernel
theorem dX10_most_18 : decode cX10_most 18 = .ok (.iload_n 1, 1) := by decide +kernel
theorem dX10_most_19 : decode cX10_most 19 = .ok (.iaload, 1) := by decide +kernel
theorem dX10_most_20 : decode cX10_most 20 = .ok (.goto 5, 3) := by decide +kernel
def FX10_most_0  (x1 : Int) (f : Mm) : Option (Int × Mm) := (b2 (FX0_hasDay_4 x1 f) fun y1 f1 => (if y1 = 0 then some ((-2), f1) else ((FX10_weighed f1).bind fun f2 => (if 0 ≤ x1 ∧ x1 < 6 then some ((f2 65 x1.toNat), f2) else none))))
set_option maxHeartbeats 4000000 in
set_option maxRecDepth 100000 in
theorem SX10_most_0 {G : GT} {l : Launch} {Q : Option AV → Mem → Prop}  (x1 : Int) (f : Mm) (h : OkI Q (FX10_most_0  x1 f)) : Ev G l MX10_most (Rm 6 0 0) (ZM G Q 0 0) 0 0 0 [some (vR 0), some (vI x1)] [] (SH, RF, f) := by
  unfold FX10_most_0 at h
  refine ev_aload_n (i := 0) dX10_most_0 rfl rfl ?_
  refine ev_getR dX10_most_1 fl_X10_19 sh_0 (by decide) (by decide) rf_0_1 ?_
  refine ev_iload_n (i := 1) dX10_most_4 rfl rfl ?_
  refine ev_cVI (b := 4) (av := [vI x1]) (S := []) (fun q => q) h dX10_most_5 (fun Q' q => TX0_hasDay_4 x1 _ q) kvX0_hasDay ml_X10_126 sh_4 rfl (RRc (by decide) (by decide)) (Nat.le_of_ble_eq_true rfl) ⟨Nat.le_of_ble_eq_true rfl, Nat.le_of_ble_eq_true rfl⟩ (fun y1 f1 h => ?_)
  refine ev_if_eq (tgt := 23) dX10_most_8 (by decide) (fun c4 => ?_) (fun c4 => ?_)
  · rw [if_pos c4] at h
    refine ev_bipush (v := (-2)) dX10_most_23 (r32c rfl) (by decide) ?_
    exact ev_iret rfl dX10_most_25 h
  · rw [if_neg c4] at h
    refine ev_aload_n (i := 0) dX10_most_11 rfl rfl ?_
    refine ev_cVC (b := 0) (av := []) (S := []) (fun q => q) h dX10_most_12 (fun Q' q => TX10_weighed _ q) kvX10_weighed ml_X10_189 sh_0 rfl (RRc (by decide) (by decide)) (Nat.le_of_ble_eq_true rfl) ⟨Nat.le_of_ble_eq_true rfl, Nat.le_of_ble_eq_true rfl⟩ (fun f2 h => ?_)
    refine ev_getR dX10_most_15 fl_X10_260 sh_57 (by decide) (by decide) rf_57_10 ?_
    refine ev_iload_n (i := 1) dX10_most_18 rfl rfl ?_
    by_cases g3 : 0 ≤ x1 ∧ x1 < 6
    · rw [if_pos g3] at h
      refine ex_iald (x := (f2 65 x1.toNat)) dX10_most_19 sh_65 g3.1 g3.2 rfl ?_
      refine ev_goto (tgt := 25) dX10_most_20 (by decide) ?_
      exact ev_iret rfl dX10_most_25 h
    · rw [if_neg g3] at h; exact h.elim
def FX10_most (x1 : Int) (f : Mm) : Option (Int × Mm) := FX10_most_0 x1 f
set_option maxRecDepth 100000 in
theorem TX10_most {G : GT} {l : Launch} {Q : Option AV → Mem → Prop} (x1 : Int) (f : Mm) (h : OkI Q (FX10_most x1 f)) : Ret G l MX10_most (6) 0 0 [vR 0, vI x1] (SH, RF, f) Q := by
  refine ret_of (L := [some (vR 0), some (vI x1)]) (by decide) rfl (Nat.le_of_ble_eq_true rfl) ?_
  exact SX10_most_0 x1 f h
theorem dX10_isAbreast_0 : decode cX10_isAbreast 0 = .ok (.iload_n 0, 1) := by decide +kernel
theorem dX10_isAbreast_1 : decode cX10_isAbreast 1 = .ok (.ifCond .lt 13, 3) := by decide +kernel
theorem dX10_isAbreast_14 : decode cX10_isAbreast 14 = .ok (.iconst 0, 1) := by decide +kernel
theorem dX10_isAbreast_15 : decode cX10_isAbreast 15 = .ok (.ireturn, 1) := by decide +kernel
theorem dX10_isAbreast_4 : decode cX10_isAbreast 4 = .ok (.iload_n 0, 1) := by decide +kernel
theorem dX10_isAbreast_5 : decode cX10_isAbreast 5 = .ok (.bipush 99, 2) := by decide +kernel
theorem dX10_isAbreast_7 : decode cX10_isAbreast 7 = .ok (.if_icmp .gt 7, 3) := by decide +kernel
theorem dX10_isAbreast_10 : decode cX10_isAbreast 10 = .ok (.iconst 1, 1) := by decide +kernel
theorem dX10_isAbreast_11 : decode cX10_isAbreast 11 = .ok (.goto 4, 3) := by decide +kernel
def FX10_isAbreast_0  (x0 : Int) (f : Mm) : Option (Int × Mm) := (if x0 < 0 then some (0, f) else (if 99 < x0 then some (0, f) else some (1, f)))
set_option maxHeartbeats 4000000 in
set_option maxRecDepth 100000 in
theorem SX10_isAbreast_0 {G : GT} {l : Launch} {Q : Option AV → Mem → Prop}  (x0 : Int) (f : Mm) (h : OkI Q (FX10_isAbreast_0  x0 f)) : Ev G l MX10_isAbreast (Rm 1 0 0) (ZM G Q 0 0) 0 0 0 [some (vI x0)] [] (SH, RF, f) := by
  unfold FX10_isAbreast_0 at h
  refine ev_iload_n (i := 0) dX10_isAbreast_0 rfl rfl ?_
  refine ev_if_lt (tgt := 14) dX10_isAbreast_1 (by decide) (fun c2 => ?_) (fun c2 => ?_)
  · rw [if_pos c2] at h
    refine ev_iconst dX10_isAbreast_14 (r32c rfl) ?_
    exact ev_zret rfl (by decide) dX10_isAbreast_15 h
  · rw [if_neg c2] at h
    refine ev_iload_n (i := 0) dX10_isAbreast_4 rfl rfl ?_
    refine ev_bipush (v := 99) dX10_isAbreast_5 (r32c rfl) (by decide) ?_
    refine ev_icmp_gt (tgt := 14) dX10_isAbreast_7 (by decide) (fun c1 => ?_) (fun c1 => ?_)
    · rw [if_pos c1] at h
      refine ev_iconst dX10_isAbreast_14 (r32c rfl) ?_
      exact ev_zret rfl (by decide) dX10_isAbreast_15 h
    · rw [if_neg c1] at h
      refine ev_iconst dX10_isAbreast_10 (r32c rfl) ?_
      refine ev_goto (tgt := 15) dX10_isAbreast_11 (by decide) ?_
      exact ev_zret rfl (by decide) dX10_isAbreast_15 h
def FX10_isAbreast (x0 : Int) (f : Mm) : Option (Int × Mm) := FX10_isAbreast_0 x0 f
set_option maxRecDepth 100000 in
theorem TX10_isAbreast {G : GT} {l : Launch} {Q : Option AV → Mem → Prop} (x0 : Int) (f : Mm) (h : OkI Q (FX10_isAbreast x0 f)) : Ret G l MX10_isAbreast (1) 0 0 [vI x0] (SH, RF, f) Q := by
  refine ret_of (L := [some (vI x0)]) (by decide) rfl (Nat.le_of_ble_eq_true rfl) ?_
  exact SX10_isAbreast_0 x0 f h
theorem dX0_wideOf_0 : decode cX0_wideOf 0 = .ok (.aload_n 0, 1) := by decide +kernel
theorem dX0_wideOf_1 : decode cX0_wideOf 1 = .ok (.iload_n 1, 1) := by decide +kernel
theorem dX0_wideOf_2 : decode cX0_wideOf 2 = .ok (.iconst 1, 1) := by decide +kernel
theorem dX0_wideOf_3 : decode cX0_wideOf 3 = .ok (.invokevirtual 73, 3) := by decide +kernel
theorem dX0_wideOf_6 : decode cX0_wideOf 6 = .ok (.ireturn, 1) := by decide +kernel
def FX0_wideOf_4_0  (x1 : Int) (f : Mm) : Option (Int × Mm) := (b2 (FX0_sumOf_4 x1 1 f) fun y1 f1 => some (y1, f1))
set_option maxHeartbeats 4000000 in
set_option maxRecDepth 100000 in
theorem SX0_wideOf_4_0 {G : GT} {l : Launch} {Q : Option AV → Mem → Prop}  (x1 : Int) (f : Mm) (h : OkI Q (FX0_wideOf_4_0  x1 f)) : Ev G l MX0_wideOf (Rm 3 0 0) (ZM G Q 0 0) 0 0 0 [some (vR 4), some (vI x1)] [] (SH, RF, f) := by
  unfold FX0_wideOf_4_0 at h
  refine ev_aload_n (i := 0) dX0_wideOf_0 rfl rfl ?_
  refine ev_iload_n (i := 1) dX0_wideOf_1 rfl rfl ?_
  refine ev_iconst dX0_wideOf_2 (r32c rfl) ?_
  refine ev_cVI (b := 4) (av := [vI x1, vI 1]) (S := []) (fun q => q) h dX0_wideOf_3 (fun Q' q => TX0_sumOf_4 x1 1 _ q) kvX0_sumOf ml_X0_73 sh_4 rfl (RRc (by decide) (by decide)) (Nat.le_of_ble_eq_true rfl) ⟨Nat.le_of_ble_eq_true rfl, Nat.le_of_ble_eq_true rfl⟩ (fun y1 f1 h => ?_)
  exact ev_iret rfl dX0_wideOf_6 h
def FX0_wideOf_4 (x1 : Int) (f : Mm) : Option (Int × Mm) := FX0_wideOf_4_0 x1 f
set_option maxRecDepth 100000 in
theorem TX0_wideOf_4 {G : GT} {l : Launch} {Q : Option AV → Mem → Prop} (x1 : Int) (f : Mm) (h : OkI Q (FX0_wideOf_4 x1 f)) : Ret G l MX0_wideOf (3) 0 0 [vR 4, vI x1] (SH, RF, f) Q := by
  refine ret_of (L := [some (vR 4), some (vI x1)]) (by decide) rfl (Nat.le_of_ble_eq_true rfl) ?_
  exact SX0_wideOf_4_0 x1 f h
theorem dX10_abreast_56 : decode cX10_abreast 56 = .ok (.iinc 3 1, 3) := by decide +kernel
theorem dX10_abreast_59 : decode cX10_abreast 59 = .ok (.goto (-35), 3) := by decide +kernel
theorem dX10_abreast_24 : decode cX10_abreast 24 = .ok (.iload_n 3, 1) := by decide +kernel
theorem dX10_abreast_25 : decode cX10_abreast 25 = .ok (.aload_n 0, 1) := by decide +kernel
theorem dX10_abreast_26 : decode cX10_abreast 26 = .ok (.getfield 19, 3) := by decide +kernel
theorem dX10_abreast_29 : decode cX10_abreast 29 = .ok (.invokevirtual 168, 3) := by decide +kernel
theorem dX10_abreast_32 : decode cX10_abreast 32 = .ok (.if_icmp .gt 30, 3) := by decide +kernel
theorem dX10_abreast_62 : decode cX10_abreast 62 = .ok (.iload_n 2, 1) := by decide +kernel
theorem dX10_abreast_63 : decode cX10_abreast 63 = .ok (.ireturn, 1) := by decide +kernel
theorem dX10_abreast_35 : decode cX10_abreast 35 = .ok (.aload_n 0, 1) := by decide +kernel
theorem dX10_abreast_36 : decode cX10_abreast 36 = .ok (.getfield 19, 3) := by decide +kernel
theorem dX10_abreast_39 : decode cX10_abreast 39 = .ok (.iload_n 3, 1) := by decide +kernel
theorem dX10_abreast_40 : decode cX10_abreast 40 = .ok (.invokevirtual 266, 3) := by decide +kernel
theorem dX10_abreast_43 : decode cX10_abreast 43 = .ok (.iload_n 1, 1) := by decide +kernel
theorem dX10_abreast_44 : decode cX10_abreast 44 = .ok (.if_icmp .gt 12, 3) := by decide +kernel
theorem dX10_abreast_47 : decode cX10_abreast 47 = .ok (.iload_n 2, 1) := by decide +kernel
theorem dX10_abreast_48 : decode cX10_abreast 48 = .ok (.iload_n 3, 1) := by decide +kernel
theorem dX10_abreast_49 : decode cX10_abreast 49 = .ok (.invokestatic 212, 3) := by decide +kernel
theorem dX10_abreast_52 : decode cX10_abreast 52 = .ok (.invokestatic 207, 3) := by decide +kernel
theorem dX10_abreast_55 : decode cX10_abreast 55 = .ok (.istore_n 2, 1) := by decide +kernel
theorem dX10_abreast_0 : decode cX10_abreast 0 = .ok (.aload_n 0, 1) := by decide +kernel
theorem dX10_abreast_1 : decode cX10_abreast 1 = .ok (.getfield 19, 3) := by decide +kernel
theorem dX10_abreast_4 : decode cX10_abreast 4 = .ok (.invokevirtual 140, 3) := by decide +kernel
theorem dX10_abreast_7 : decode cX10_abreast 7 = .ok (.ifCond .eq 10, 3) := by decide +kernel
theorem dX10_abreast_17 : decode cX10_abreast 17 = .ok (.bipush (-2), 2) := by decide +kernel
theorem dX10_abreast_19 : decode cX10_abreast 19 = .ok (.ireturn, 1) := by decide +kernel
theorem dX10_abreast_10 : decode cX10_abreast 10 = .ok (.iload_n 1, 1) := by decide +kernel
theorem dX10_abreast_11 : decode cX10_abreast 11 = .ok (.invokestatic 263, 3) := by decide +kernel
theorem dX10_abreast_14 : decode cX10_abreast 14 = .ok (.ifCond .ne 6, 3) := by decide +kernel
theorem dX10_abreast_20 : decode cX10_abreast 20 = .ok (.iconst 0, 1) := by decide +kernel
theorem dX10_abreast_21 : decode cX10_abreast 21 = .ok (.istore_n 2, 1) := by decide +kernel
theorem dX10_abreast_22 : decode cX10_abreast 22 = .ok (.iconst 0, 1) := by decide +kernel
theorem dX10_abreast_23 : decode cX10_abreast 23 = .ok (.istore_n 3, 1) := by decide +kernel
def FX10_abreast_56 (k24 : Int → Int → Int → Mm → Option (Int × Mm)) (x1 : Int) (x2 : Int) (x3 : Int) (f : Mm) : Option (Int × Mm) := k24 x1 x2 (w32 (x3 + 1)) f
set_option maxHeartbeats 4000000 in
set_option maxRecDepth 100000 in
theorem SX10_abreast_56 {G : GT} {l : Launch} {Q : Option AV → Mem → Prop} {k24 : Int → Int → Int → Mm → Option (Int × Mm)} (q24 : ∀ (x1 : Int) (x2 : Int) (x3 : Int) (f : Mm), OkI Q (k24 x1 x2 x3 f) → Ev G l MX10_abreast (Rm 4 0 0) (ZM G Q 0 0) 0 0 24 [some (vR 0), some (vI x1), some (vI x2), some (vI x3)] [] (SH, RF, f)) (x1 : Int) (x2 : Int) (x3 : Int) (f : Mm) (h : OkI Q (FX10_abreast_56 k24 x1 x2 x3 f)) : Ev G l MX10_abreast (Rm 4 0 0) (ZM G Q 0 0) 0 0 56 [some (vR 0), some (vI x1), some (vI x2), some (vI x3)] [] (SH, RF, f) := by
  unfold FX10_abreast_56 at h
  refine ev_iinc (L' := [some (vR 0), some (vI x1), some (vI x2), some (vI (w32 (x3 + 1)))]) dX10_abreast_56 rfl (by decide) rfl ?_
  refine ev_goto (tgt := 24) dX10_abreast_59 (by decide) ?_
  exact q24 x1 x2 (w32 (x3 + 1)) _ h
def FX10_abreast_24  : Nat → Int → Int → Int → Mm → Option (Int × Mm)
  | 0, _, _, _, _ => none
  | n + 1, x1, x2, x3, f => (b2 (FX0_allCarts_4 f) fun y1 f1 => (if y1 < x3 then some (x2, f1) else (b2 (FX0_wideOf_4 x3 f1) fun y2 f2 => (if x1 < y2 then FX10_abreast_56 (FX10_abreast_24 n) x1 x2 x3 f2 else (b2 (FJ6_bitCount_0f7a4 x3 f2) fun y3 f3 => FX10_abreast_56 (FX10_abreast_24 n) x1 (jMax x2 y3) x3 f3)))))
set_option maxHeartbeats 4000000 in
set_option maxRecDepth 100000 in
theorem SX10_abreast_24 {G : GT} {l : Launch} {Q : Option AV → Mem → Prop}  : ∀ (n : Nat) (x1 : Int) (x2 : Int) (x3 : Int) (f : Mm), OkI Q (FX10_abreast_24  n x1 x2 x3 f) → Ev G l MX10_abreast (Rm 4 0 0) (ZM G Q 0 0) 0 0 24 [some (vR 0), some (vI x1), some (vI x2), some (vI x3)] [] (SH, RF, f) := by
  intro n
  induction n with
  | zero => intro x1 x2 x3 f h; exact absurd h (by rw [FX10_abreast_24]; exact fun q => q)
  | succ n ih =>
    intro x1 x2 x3 f h
    rw [FX10_abreast_24] at h
    refine ev_iload_n (i := 3) dX10_abreast_24 rfl rfl ?_
    refine ev_aload_n (i := 0) dX10_abreast_25 rfl rfl ?_
    refine ev_getR dX10_abreast_26 fl_X10_19 sh_0 (by decide) (by decide) rf_0_1 ?_
    refine ev_cVI (b := 4) (av := []) (S := [vI x3]) (fun q => q) h dX10_abreast_29 (fun Q' q => TX0_allCarts_4 _ q) kvX0_allCarts ml_X10_168 sh_4 rfl (RRc (by decide) (by decide)) (Nat.le_of_ble_eq_true rfl) ⟨Nat.le_of_ble_eq_true rfl, Nat.le_of_ble_eq_true rfl⟩ (fun y1 f1 h => ?_)
    refine ev_icmp_gt (tgt := 62) dX10_abreast_32 (by decide) (fun c5 => ?_) (fun c5 => ?_)
    · rw [if_pos c5] at h
      refine ev_iload_n (i := 2) dX10_abreast_62 rfl rfl ?_
      exact ev_iret rfl dX10_abreast_63 h
    · rw [if_neg c5] at h
      refine ev_aload_n (i := 0) dX10_abreast_35 rfl rfl ?_
      refine ev_getR dX10_abreast_36 fl_X10_19 sh_0 (by decide) (by decide) rf_0_1 ?_
      refine ev_iload_n (i := 3) dX10_abreast_39 rfl rfl ?_
      refine ev_cVI (b := 4) (av := [vI x3]) (S := []) (fun q => q) h dX10_abreast_40 (fun Q' q => TX0_wideOf_4 x3 _ q) kvX0_wideOf ml_X10_266 sh_4 rfl (RRc (by decide) (by decide)) (Nat.le_of_ble_eq_true rfl) ⟨Nat.le_of_ble_eq_true rfl, Nat.le_of_ble_eq_true rfl⟩ (fun y2 f2 h => ?_)
      refine ev_iload_n (i := 1) dX10_abreast_43 rfl rfl ?_
      refine ev_icmp_gt (tgt := 56) dX10_abreast_44 (by decide) (fun c4 => ?_) (fun c4 => ?_)
      · rw [if_pos c4] at h
        exact SX10_abreast_56 ih x1 x2 x3 _ h
      · rw [if_neg c4] at h
        refine ev_iload_n (i := 2) dX10_abreast_47 rfl rfl ?_
        refine ev_iload_n (i := 3) dX10_abreast_48 rfl rfl ?_
        refine ev_cSI (av := [vI x3]) (S := [vI x2]) (fun q => q) h dX10_abreast_49 (fun Q' q => TJ6_bitCount_0f7a4 x3 _ q) ksJ6_bitCount_0f7a4 ml_X10_212 rfl (RRc (by decide) (by decide)) (Nat.le_of_ble_eq_true rfl) ⟨Nat.le_of_ble_eq_true rfl, Nat.le_of_ble_eq_true rfl⟩ (fun y3 f3 h => ?_)
        refine ev_mmax dX10_abreast_52 mlm_X10_207 (Nat.le_of_ble_eq_true rfl) (Nat.le_of_ble_eq_true rfl) (Nat.le_of_ble_eq_true rfl) (Nat.le_of_ble_eq_true rfl) ?_
        refine ev_istore_n (i := 2) (L' := [some (vR 0), some (vI x1), some (vI (jMax x2 y3)), some (vI x3)]) dX10_abreast_55 rfl (by decide) rfl ?_
        exact SX10_abreast_56 ih x1 (jMax x2 y3) x3 _ h
def FX10_abreast_0  (x1 : Int) (f : Mm) : Option (Int × Mm) := (b2 (FX0_stands_4 f) fun y1 f1 => (if y1 = 0 then some ((-2), f1) else (b2 (FX10_isAbreast x1 f1) fun y2 f2 => (if y2 = 0 then some ((-2), f2) else FX10_abreast_24 fu x1 0 0 f2))))
set_option maxHeartbeats 4000000 in
set_option maxRecDepth 100000 in
theorem SX10_abreast_0 {G : GT} {l : Launch} {Q : Option AV → Mem → Prop}  (x1 : Int) (f : Mm) (h : OkI Q (FX10_abreast_0  x1 f)) : Ev G l MX10_abreast (Rm 4 0 0) (ZM G Q 0 0) 0 0 0 [some (vR 0), some (vI x1), none, none] [] (SH, RF, f) := by
  unfold FX10_abreast_0 at h
  refine ev_aload_n (i := 0) dX10_abreast_0 rfl rfl ?_
  refine ev_getR dX10_abreast_1 fl_X10_19 sh_0 (by decide) (by decide) rf_0_1 ?_
  refine ev_cVI (b := 4) (av := []) (S := []) (fun q => q) h dX10_abreast_4 (fun Q' q => TX0_stands_4 _ q) kvX0_stands ml_X10_140 sh_4 rfl (RRc (by decide) (by decide)) (Nat.le_of_ble_eq_true rfl) ⟨Nat.le_of_ble_eq_true rfl, Nat.le_of_ble_eq_true rfl⟩ (fun y1 f1 h => ?_)
  refine ev_if_eq (tgt := 17) dX10_abreast_7 (by decide) (fun c4 => ?_) (fun c4 => ?_)
  · rw [if_pos c4] at h
    refine ev_bipush (v := (-2)) dX10_abreast_17 (r32c rfl) (by decide) ?_
    exact ev_iret rfl dX10_abreast_19 h
  · rw [if_neg c4] at h
    refine ev_iload_n (i := 1) dX10_abreast_10 rfl rfl ?_
    refine ev_cSI (av := [vI x1]) (S := []) (fun q => q) h dX10_abreast_11 (fun Q' q => TX10_isAbreast x1 _ q) ksX10_isAbreast ml_X10_263 rfl (RRc (by decide) (by decide)) (Nat.le_of_ble_eq_true rfl) ⟨Nat.le_of_ble_eq_true rfl, Nat.le_of_ble_eq_true rfl⟩ (fun y2 f2 h => ?_)
    refine ev_if_ne (tgt := 20) dX10_abreast_14 (by decide) (fun c3 => ?_) (fun c3 => ?_)
    · rw [if_neg c3] at h
      refine ev_iconst dX10_abreast_20 (r32c rfl) ?_
      refine ev_istore_n (i := 2) (L' := [some (vR 0), some (vI x1), some (vI 0), none]) dX10_abreast_21 rfl (by decide) rfl ?_
      refine ev_iconst dX10_abreast_22 (r32c rfl) ?_
      refine ev_istore_n (i := 3) (L' := [some (vR 0), some (vI x1), some (vI 0), some (vI 0)]) dX10_abreast_23 rfl (by decide) rfl ?_
      exact SX10_abreast_24  fu x1 0 0 _ h
    · rw [if_pos c3] at h
      refine ev_bipush (v := (-2)) dX10_abreast_17 (r32c rfl) (by decide) ?_
      exact ev_iret rfl dX10_abreast_19 h
def FX10_abreast (x1 : Int) (f : Mm) : Option (Int × Mm) := FX10_abreast_0 x1 f
set_option maxRecDepth 100000 in
theorem TX10_abreast {G : GT} {l : Launch} {Q : Option AV → Mem → Prop} (x1 : Int) (f : Mm) (h : OkI Q (FX10_abreast x1 f)) : Ret G l MX10_abreast (4) 0 0 [vR 0, vI x1] (SH, RF, f) Q := by
  refine ret_of (L := [some (vR 0), some (vI x1), none, none]) (by decide) rfl (Nat.le_of_ble_eq_true rfl) ?_
  exact SX10_abreast_0 x1 f h
theorem dX10_richestSet_48 : decode cX10_richestSet 48 = .ok (.iinc 3 1, 3) := by decide +kernel
theorem dX10_richestSet_51 : decode cX10_richestSet 51 = .ok (.goto (-47), 3) := by decide +kernel
theorem dX10_richestSet_4 : decode cX10_richestSet 4 = .ok (.iload_n 3, 1) := by decide +kernel
theorem dX10_richestSet_5 : decode cX10_richestSet 5 = .ok (.aload_n 0, 1) := by decide +kernel
theorem dX10_richestSet_6 : decode cX10_richestSet 6 = .ok (.getfield 19, 3) := by decide +kernel
theorem dX10_richestSet_9 : decode cX10_richestSet 9 = .ok (.invokevirtual 168, 3) := by decide +kernel
theorem dX10_richestSet_12 : decode cX10_richestSet 12 = .ok (.if_icmp .gt 42, 3) := by decide +kernel
theorem dX10_richestSet_54 : decode cX10_richestSet 54 = .ok (.iload_n 2, 1) := by decide +kernel
theorem dX10_richestSet_55 : decode cX10_richestSet 55 = .ok (.ireturn, 1) := by decide +kernel
theorem dX10_richestSet_15 : decode cX10_richestSet 15 = .ok (.aload_n 0, 1) := by decide +kernel
theorem dX10_richestSet_16 : decode cX10_richestSet 16 = .ok (.getfield 19, 3) := by decide +kernel
theorem dX10_richestSet_19 : decode cX10_richestSet 19 = .ok (.iload_n 3, 1) := by decide +kernel
theorem dX10_richestSet_20 : decode cX10_richestSet 20 = .ok (.invokevirtual 266, 3) := by decide +kernel
theorem dX10_richestSet_23 : decode cX10_richestSet 23 = .ok (.iload_n 1, 1) := by decide +kernel
theorem dX10_richestSet_24 : decode cX10_richestSet 24 = .ok (.if_icmp .gt 24, 3) := by decide +kernel
theorem dX10_richestSet_27 : decode cX10_richestSet 27 = .ok (.aload_n 0, 1) := by decide +kernel
theorem dX10_richestSet_28 : decode cX10_richestSet 28 = .ok (.getfield 19, 3) := by decide +kernel
theorem dX10_richestSet_31 : decode cX10_richestSet 31 = .ok (.iload_n 3, 1) := by decide +kernel
theorem dX10_richestSet_32 : decode cX10_richestSet 32 = .ok (.invokevirtual 179, 3) := by decide +kernel
theorem dX10_richestSet_35 : decode cX10_richestSet 35 = .ok (.aload_n 0, 1) := by decide +kernel
theorem dX10_richestSet_36 : decode cX10_richestSet 36 = .ok (.getfield 19, 3) := by decide +kernel
theorem dX10_richestSet_39 : decode cX10_richestSet 39 = .ok (.iload_n 2, 1) := by decide +kernel
theorem dX10_richestSet_40 : decode cX10_richestSet 40 = .ok (.invokevirtual 179, 3) := by decide +kernel
theorem dX10_richestSet_43 : decode cX10_richestSet 43 = .ok (.if_icmp .le 5, 3) := by decide +kernel
theorem dX10_richestSet_46 : decode cX10_richestSet 46 = .ok (.iload_n 3, 1) := by decide +kernel
theorem dX10_richestSet_47 : decode cX10_richestSet 47 = .ok (.istore_n 2, 1) := by decide +kernel
theorem dX10_richestSet_0 : decode cX10_richestSet 0 = .ok (.iconst 0, 1) := by decide +kernel
theorem dX10_richestSet_1 : decode cX10_richestSet 1 = .ok (.istore_n 2, 1) := by decide +kernel
theorem dX10_richestSet_2 : decode cX10_richestSet 2 = .ok (.iconst 1, 1) := by decide +kernel
theorem dX10_richestSet_3 : decode cX10_richestSet 3 = .ok (.istore_n 3, 1) := by decide +kernel
def FX10_richestSet_48 (k4 : Int → Int → Int → Mm → Option (Int × Mm)) (x1 : Int) (x2 : Int) (x3 : Int) (f : Mm) : Option (Int × Mm) := k4 x1 x2 (w32 (x3 + 1)) f
set_option maxHeartbeats 4000000 in
set_option maxRecDepth 100000 in
theorem SX10_richestSet_48 {G : GT} {l : Launch} {Q : Option AV → Mem → Prop} {k4 : Int → Int → Int → Mm → Option (Int × Mm)} (q4 : ∀ (x1 : Int) (x2 : Int) (x3 : Int) (f : Mm), OkI Q (k4 x1 x2 x3 f) → Ev G l MX10_richestSet (Rm 4 0 0) (ZM G Q 0 0) 0 0 4 [some (vR 0), some (vI x1), some (vI x2), some (vI x3)] [] (SH, RF, f)) (x1 : Int) (x2 : Int) (x3 : Int) (f : Mm) (h : OkI Q (FX10_richestSet_48 k4 x1 x2 x3 f)) : Ev G l MX10_richestSet (Rm 4 0 0) (ZM G Q 0 0) 0 0 48 [some (vR 0), some (vI x1), some (vI x2), some (vI x3)] [] (SH, RF, f) := by
  unfold FX10_richestSet_48 at h
  refine ev_iinc (L' := [some (vR 0), some (vI x1), some (vI x2), some (vI (w32 (x3 + 1)))]) dX10_richestSet_48 rfl (by decide) rfl ?_
  refine ev_goto (tgt := 4) dX10_richestSet_51 (by decide) ?_
  exact q4 x1 x2 (w32 (x3 + 1)) _ h
def FX10_richestSet_4  : Nat → Int → Int → Int → Mm → Option (Int × Mm)
  | 0, _, _, _, _ => none
  | n + 1, x1, x2, x3, f => (b2 (FX0_allCarts_4 f) fun y1 f1 => (if y1 < x3 then some (x2, f1) else (b2 (FX0_wideOf_4 x3 f1) fun y2 f2 => (if x1 < y2 then FX10_richestSet_48 (FX10_richestSet_4 n) x1 x2 x3 f2 else (b2 (FX0_payOf_4 x3 f2) fun y3 f3 => (b2 (FX0_payOf_4 x2 f3) fun y4 f4 => (if y3 ≤ y4 then FX10_richestSet_48 (FX10_richestSet_4 n) x1 x2 x3 f4 else FX10_richestSet_48 (FX10_richestSet_4 n) x1 x3 x3 f4)))))))
set_option maxHeartbeats 4000000 in
set_option maxRecDepth 100000 in
theorem SX10_richestSet_4 {G : GT} {l : Launch} {Q : Option AV → Mem → Prop}  : ∀ (n : Nat) (x1 : Int) (x2 : Int) (x3 : Int) (f : Mm), OkI Q (FX10_richestSet_4  n x1 x2 x3 f) → Ev G l MX10_richestSet (Rm 4 0 0) (ZM G Q 0 0) 0 0 4 [some (vR 0), some (vI x1), some (vI x2), some (vI x3)] [] (SH, RF, f) := by
  intro n
  induction n with
  | zero => intro x1 x2 x3 f h; exact absurd h (by rw [FX10_richestSet_4]; exact fun q => q)
  | succ n ih =>
    intro x1 x2 x3 f h
    rw [FX10_richestSet_4] at h
    refine ev_iload_n (i := 3) dX10_richestSet_4 rfl rfl ?_
    refine ev_aload_n (i := 0) dX10_richestSet_5 rfl rfl ?_
    refine ev_getR dX10_richestSet_6 fl_X10_19 sh_0 (by decide) (by decide) rf_0_1 ?_
    refine ev_cVI (b := 4) (av := []) (S := [vI x3]) (fun q => q) h dX10_richestSet_9 (fun Q' q => TX0_allCarts_4 _ q) kvX0_allCarts ml_X10_168 sh_4 rfl (RRc (by decide) (by decide)) (Nat.le_of_ble_eq_true rfl) ⟨Nat.le_of_ble_eq_true rfl, Nat.le_of_ble_eq_true rfl⟩ (fun y1 f1 h => ?_)
    refine ev_icmp_gt (tgt := 54) dX10_richestSet_12 (by decide) (fun c7 => ?_) (fun c7 => ?_)
    · rw [if_pos c7] at h
      refine ev_iload_n (i := 2) dX10_richestSet_54 rfl rfl ?_
      exact ev_iret rfl dX10_richestSet_55 h
    · rw [if_neg c7] at h
      refine ev_aload_n (i := 0) dX10_richestSet_15 rfl rfl ?_
      refine ev_getR dX10_richestSet_16 fl_X10_19 sh_0 (by decide) (by decide) rf_0_1 ?_
      refine ev_iload_n (i := 3) dX10_richestSet_19 rfl rfl ?_
      refine ev_cVI (b := 4) (av := [vI x3]) (S := []) (fun q => q) h dX10_richestSet_20 (fun Q' q => TX0_wideOf_4 x3 _ q) kvX0_wideOf ml_X10_266 sh_4 rfl (RRc (by decide) (by decide)) (Nat.le_of_ble_eq_true rfl) ⟨Nat.le_of_ble_eq_true rfl, Nat.le_of_ble_eq_true rfl⟩ (fun y2 f2 h => ?_)
      refine ev_iload_n (i := 1) dX10_richestSet_23 rfl rfl ?_
      refine ev_icmp_gt (tgt := 48) dX10_richestSet_24 (by decide) (fun c6 => ?_) (fun c6 => ?_)
      · rw [if_pos c6] at h
        exact SX10_richestSet_48 ih x1 x2 x3 _ h
      · rw [if_neg c6] at h
        refine ev_aload_n (i := 0) dX10_richestSet_27 rfl rfl ?_
        refine ev_getR dX10_richestSet_28 fl_X10_19 sh_0 (by decide) (by decide) rf_0_1 ?_
        refine ev_iload_n (i := 3) dX10_richestSet_31 rfl rfl ?_
        refine ev_cVI (b := 4) (av := [vI x3]) (S := []) (fun q => q) h dX10_richestSet_32 (fun Q' q => TX0_payOf_4 x3 _ q) kvX0_payOf ml_X10_179 sh_4 rfl (RRc (by decide) (by decide)) (Nat.le_of_ble_eq_true rfl) ⟨Nat.le_of_ble_eq_true rfl, Nat.le_of_ble_eq_true rfl⟩ (fun y3 f3 h => ?_)
        refine ev_aload_n (i := 0) dX10_richestSet_35 rfl rfl ?_
        refine ev_getR dX10_richestSet_36 fl_X10_19 sh_0 (by decide) (by decide) rf_0_1 ?_
        refine ev_iload_n (i := 2) dX10_richestSet_39 rfl rfl ?_
        refine ev_cVI (b := 4) (av := [vI x2]) (S := [vI y3]) (fun q => q) h dX10_richestSet_40 (fun Q' q => TX0_payOf_4 x2 _ q) kvX0_payOf ml_X10_179 sh_4 rfl (RRc (by decide) (by decide)) (Nat.le_of_ble_eq_true rfl) ⟨Nat.le_of_ble_eq_true rfl, Nat.le_of_ble_eq_true rfl⟩ (fun y4 f4 h => ?_)
        refine ev_icmp_le (tgt := 48) dX10_richestSet_43 (by decide) (fun c5 => ?_) (fun c5 => ?_)
        · rw [if_pos c5] at h
          exact SX10_richestSet_48 ih x1 x2 x3 _ h
        · rw [if_neg c5] at h
          refine ev_iload_n (i := 3) dX10_richestSet_46 rfl rfl ?_
          refine ev_istore_n (i := 2) (L' := [some (vR 0), some (vI x1), some (vI x3), some (vI x3)]) dX10_richestSet_47 rfl (by decide) rfl ?_
          exact SX10_richestSet_48 ih x1 x3 x3 _ h
def FX10_richestSet_0  (x1 : Int) (f : Mm) : Option (Int × Mm) := FX10_richestSet_4 fu x1 0 1 f
set_option maxHeartbeats 4000000 in
set_option maxRecDepth 100000 in
theorem SX10_richestSet_0 {G : GT} {l : Launch} {Q : Option AV → Mem → Prop}  (x1 : Int) (f : Mm) (h : OkI Q (FX10_richestSet_0  x1 f)) : Ev G l MX10_richestSet (Rm 4 0 0) (ZM G Q 0 0) 0 0 0 [some (vR 0), some (vI x1), none, none] [] (SH, RF, f) := by
  unfold FX10_richestSet_0 at h
  refine ev_iconst dX10_richestSet_0 (r32c rfl) ?_
  refine ev_istore_n (i := 2) (L' := [some (vR 0), some (vI x1), some (vI 0), none]) dX10_richestSet_1 rfl (by decide) rfl ?_
  refine ev_iconst dX10_richestSet_2 (r32c rfl) ?_
  refine ev_istore_n (i := 3) (L' := [some (vR 0), some (vI x1), some (vI 0), some (vI 1)]) dX10_richestSet_3 rfl (by decide) rfl ?_
  exact SX10_richestSet_4  fu x1 0 1 _ h
def FX10_richestSet (x1 : Int) (f : Mm) : Option (Int × Mm) := FX10_richestSet_0 x1 f
set_option maxRecDepth 100000 in
theorem TX10_richestSet {G : GT} {l : Launch} {Q : Option AV → Mem → Prop} (x1 : Int) (f : Mm) (h : OkI Q (FX10_richestSet x1 f)) : Ret G l MX10_richestSet (4) 0 0 [vR 0, vI x1] (SH, RF, f) Q := by
  refine ret_of (L := [some (vR 0), some (vI x1), none, none]) (by decide) rfl (Nat.le_of_ble_eq_true rfl) ?_
  exact SX10_richestSet_0 x1 f h
theorem dX10_load_0 : decode cX10_load 0 = .ok (.aload_n 0, 1) := by decide +kernel
theorem dX10_load_1 : decode cX10_load 1 = .ok (.getfield 19, 3) := by decide +kernel
theorem dX10_load_4 : decode cX10_load 4 = .ok (.invokevirtual 140, 3) := by decide +kernel
theorem dX10_load_7 : decode cX10_load 7 = .ok (.ifCond .eq 10, 3) := by decide +kernel
theorem dX10_load_17 : decode cX10_load 17 = .ok (.bipush (-2), 2) := by decide +kernel
theorem dX10_load_19 : decode cX10_load 19 = .ok (.ireturn, 1) := by decide +kernel
theorem dX10_load_10 : decode cX10_load 10 = .ok (.iload_n 1, 1) := by decide +kernel
theorem dX10_load_11 : decode cX10_load 11 = .ok (.invokestatic 263, 3) := by decide +kernel
theorem dX10_load_14 : decode cX10_load 14 = .ok (.ifCond .ne 6, 3) := by decide +kernel
theorem dX10_load_20 : decode cX10_load 20 = .ok (.aload_n 0, 1) := by decide +kernel
theorem dX10_load_21 : decode cX10_load 21 = .ok (.getfield 19, 3) := by decide +kernel
theorem dX10_load_24 : decode cX10_load 24 = .ok (.aload_n 0, 1) := by decide +kernel
theorem dX10_load_25 : decode cX10_load 25 = .ok (.iload_n 1, 1) := by decide +kernel
theorem dX10_load_26 : decode cX10_load 26 = .ok (.invokevirtual 269, 3) := by decide +kernel
theorem dX10_load_29 : decode cX10_load 29 = .ok (.invokevirtual 179, 3) := by decide +kernel
theorem dX10_load_32 : decode cX10_load 32 = .ok (.ireturn, 1) := by decide +kernel
def FX10_load_0  (x1 : Int) (f : Mm) : Option (Int × Mm) := (b2 (FX0_stands_4 f) fun y1 f1 => (if y1 = 0 then some ((-2), f1) else (b2 (FX10_isAbreast x1 f1) fun y2 f2 => (if y2 = 0 then some ((-2), f2) else (b2 (FX10_richestSet x1 f2) fun y3 f3 => (b2 (FX0_payOf_4 y3 f3) fun y4 f4 => some (y4, f4)))))))
set_option maxHeartbeats 4000000 in
set_option maxRecDepth 100000 in
theorem SX10_load_0 {G : GT} {l : Launch} {Q : Option AV → Mem → Prop}  (x1 : Int) (f : Mm) (h : OkI Q (FX10_load_0  x1 f)) : Ev G l MX10_load (Rm 5 0 0) (ZM G Q 0 0) 0 0 0 [some (vR 0), some (vI x1)] [] (SH, RF, f) := by
  unfold FX10_load_0 at h
  refine ev_aload_n (i := 0) dX10_load_0 rfl rfl ?_
  refine ev_getR dX10_load_1 fl_X10_19 sh_0 (by decide) (by decide) rf_0_1 ?_
  refine ev_cVI (b := 4) (av := []) (S := []) (fun q => q) h dX10_load_4 (fun Q' q => TX0_stands_4 _ q) kvX0_stands ml_X10_140 sh_4 rfl (RRc (by decide) (by decide)) (Nat.le_of_ble_eq_true rfl) ⟨Nat.le_of_ble_eq_true rfl, Nat.le_of_ble_eq_true rfl⟩ (fun y1 f1 h => ?_)
  refine ev_if_eq (tgt := 17) dX10_load_7 (by decide) (fun c6 => ?_) (fun c6 => ?_)
  · rw [if_pos c6] at h
    refine ev_bipush (v := (-2)) dX10_load_17 (r32c rfl) (by decide) ?_
    exact ev_iret rfl dX10_load_19 h
  · rw [if_neg c6] at h
    refine ev_iload_n (i := 1) dX10_load_10 rfl rfl ?_
    refine ev_cSI (av := [vI x1]) (S := []) (fun q => q) h dX10_load_11 (fun Q' q => TX10_isAbreast x1 _ q) ksX10_isAbreast ml_X10_263 rfl (RRc (by decide) (by decide)) (Nat.le_of_ble_eq_true rfl) ⟨Nat.le_of_ble_eq_true rfl, Nat.le_of_ble_eq_true rfl⟩ (fun y2 f2 h => ?_)
    refine ev_if_ne (tgt := 20) dX10_load_14 (by decide) (fun c5 => ?_) (fun c5 => ?_)
    · rw [if_neg c5] at h
      refine ev_aload_n (i := 0) dX10_load_20 rfl rfl ?_
      refine ev_getR dX10_load_21 fl_X10_19 sh_0 (by decide) (by decide) rf_0_1 ?_
      refine ev_aload_n (i := 0) dX10_load_24 rfl rfl ?_
      refine ev_iload_n (i := 1) dX10_load_25 rfl rfl ?_
      refine ev_cVI (b := 0) (av := [vI x1]) (S := [vR 4]) (fun q => q) h dX10_load_26 (fun Q' q => TX10_richestSet x1 _ q) kvX10_richestSet ml_X10_269 sh_0 rfl (RRc (by decide) (by decide)) (Nat.le_of_ble_eq_true rfl) ⟨Nat.le_of_ble_eq_true rfl, Nat.le_of_ble_eq_true rfl⟩ (fun y3 f3 h => ?_)
      refine ev_cVI (b := 4) (av := [vI y3]) (S := []) (fun q => q) h dX10_load_29 (fun Q' q => TX0_payOf_4 y3 _ q) kvX0_payOf ml_X10_179 sh_4 rfl (RRc (by decide) (by decide)) (Nat.le_of_ble_eq_true rfl) ⟨Nat.le_of_ble_eq_true rfl, Nat.le_of_ble_eq_true rfl⟩ (fun y4 f4 h => ?_)
      exact ev_iret rfl dX10_load_32 h
    · rw [if_pos c5] at h
      refine ev_bipush (v := (-2)) dX10_load_17 (r32c rfl) (by decide) ?_
      exact ev_iret rfl dX10_load_19 h
def FX10_load (x1 : Int) (f : Mm) : Option (Int × Mm) := FX10_load_0 x1 f
set_option maxRecDepth 100000 in
theorem TX10_load {G : GT} {l : Launch} {Q : Option AV → Mem → Prop} (x1 : Int) (f : Mm) (h : OkI Q (FX10_load x1 f)) : Ret G l MX10_load (5) 0 0 [vR 0, vI x1] (SH, RF, f) Q := by
  refine ret_of (L := [some (vR 0), some (vI x1)]) (by decide) rfl (Nat.le_of_ble_eq_true rfl) ?_
  exact SX10_load_0 x1 f h
theorem dX10_loads_0 : decode cX10_loads 0 = .ok (.aload_n 0, 1) := by decide +kernel
theorem dX10_loads_1 : decode cX10_loads 1 = .ok (.getfield 19, 3) := by decide +kernel
theorem dX10_loads_4 : decode cX10_loads 4 = .ok (.invokevirtual 140, 3) := by decide +kernel
theorem dX10_loads_7 : decode cX10_loads 7 = .ok (.ifCond .eq 10, 3) := by decide +kernel
theorem dX10_loads_17 : decode cX10_loads 17 = .ok (.bipush (-2), 2) := by decide +kernel
theorem dX10_loads_19 : decode cX10_loads 19 = .ok (.ireturn, 1) := by decide +kernel
theorem dX10_loads_10 : decode cX10_loads 10 = .ok (.iload_n 1, 1) := by decide +kernel
theorem dX10_loads_11 : decode cX10_loads 11 = .ok (.invokestatic 263, 3) := by decide +kernel
theorem dX10_loads_14 : decode cX10_loads 14 = .ok (.ifCond .ne 6, 3) := by decide +kernel
theorem dX10_loads_20 : decode cX10_loads 20 = .ok (.aload_n 0, 1) := by decide +kernel
theorem dX10_loads_21 : decode cX10_loads 21 = .ok (.iload_n 1, 1) := by decide +kernel
theorem dX10_loads_22 : decode cX10_loads 22 = .ok (.invokevirtual 269, 3) := by decide +kernel
theorem dX10_loads_25 : decode cX10_loads 25 = .ok (.ireturn, 1) := by decide +kernel
def FX10_loads_0  (x1 : Int) (f : Mm) : Option (Int × Mm) := (b2 (FX0_stands_4 f) fun y1 f1 => (if y1 = 0 then some ((-2), f1) else (b2 (FX10_isAbreast x1 f1) fun y2 f2 => (if y2 = 0 then some ((-2), f2) else (b2 (FX10_richestSet x1 f2) fun y3 f3 => some (y3, f3))))))
set_option maxHeartbeats 4000000 in
set_option maxRecDepth 100000 in
theorem SX10_loads_0 {G : GT} {l : Launch} {Q : Option AV → Mem → Prop}  (x1 : Int) (f : Mm) (h : OkI Q (FX10_loads_0  x1 f)) : Ev G l MX10_loads (Rm 5 0 0) (ZM G Q 0 0) 0 0 0 [some (vR 0), some (vI x1)] [] (SH, RF, f) := by
  unfold FX10_loads_0 at h
  refine ev_aload_n (i := 0) dX10_loads_0 rfl rfl ?_
  refine ev_getR dX10_loads_1 fl_X10_19 sh_0 (by decide) (by decide) rf_0_1 ?_
  refine ev_cVI (b := 4) (av := []) (S := []) (fun q => q) h dX10_loads_4 (fun Q' q => TX0_stands_4 _ q) kvX0_stands ml_X10_140 sh_4 rfl (RRc (by decide) (by decide)) (Nat.le_of_ble_eq_true rfl) ⟨Nat.le_of_ble_eq_true rfl, Nat.le_of_ble_eq_true rfl⟩ (fun y1 f1 h => ?_)
  refine ev_if_eq (tgt := 17) dX10_loads_7 (by decide) (fun c5 => ?_) (fun c5 => ?_)
  · rw [if_pos c5] at h
    refine ev_bipush (v := (-2)) dX10_loads_17 (r32c rfl) (by decide) ?_
    exact ev_iret rfl dX10_loads_19 h
  · rw [if_neg c5] at h
    refine ev_iload_n (i := 1) dX10_loads_10 rfl rfl ?_
    refine ev_cSI (av := [vI x1]) (S := []) (fun q => q) h dX10_loads_11 (fun Q' q => TX10_isAbreast x1 _ q) ksX10_isAbreast ml_X10_263 rfl (RRc (by decide) (by decide)) (Nat.le_of_ble_eq_true rfl) ⟨Nat.le_of_ble_eq_true rfl, Nat.le_of_ble_eq_true rfl⟩ (fun y2 f2 h => ?_)
    refine ev_if_ne (tgt := 20) dX10_loads_14 (by decide) (fun c4 => ?_) (fun c4 => ?_)
    · rw [if_neg c4] at h
      refine ev_aload_n (i := 0) dX10_loads_20 rfl rfl ?_
      refine ev_iload_n (i := 1) dX10_loads_21 rfl rfl ?_
      refine ev_cVI (b := 0) (av := [vI x1]) (S := []) (fun q => q) h dX10_loads_22 (fun Q' q => TX10_richestSet x1 _ q) kvX10_richestSet ml_X10_269 sh_0 rfl (RRc (by decide) (by decide)) (Nat.le_of_ble_eq_true rfl) ⟨Nat.le_of_ble_eq_true rfl, Nat.le_of_ble_eq_true rfl⟩ (fun y3 f3 h => ?_)
      exact ev_iret rfl dX10_loads_25 h
    · rw [if_pos c4] at h
      refine ev_bipush (v := (-2)) dX10_loads_17 (r32c rfl) (by decide) ?_
      exact ev_iret rfl dX10_loads_19 h
def FX10_loads (x1 : Int) (f : Mm) : Option (Int × Mm) := FX10_loads_0 x1 f
set_option maxRecDepth 100000 in
theorem TX10_loads {G : GT} {l : Launch} {Q : Option AV → Mem → Prop} (x1 : Int) (f : Mm) (h : OkI Q (FX10_loads x1 f)) : Ret G l MX10_loads (5) 0 0 [vR 0, vI x1] (SH, RF, f) Q := by
  refine ret_of (L := [some (vR 0), some (vI x1)]) (by decide) rfl (Nat.le_of_ble_eq_true rfl) ?_
  exact SX10_loads_0 x1 f h
theorem dX1_passAll_2 : decode cX1_passAll 2 = .ok (.iload_n 2, 1) := by decide +kernel
theorem dX1_passAll_3 : decode cX1_passAll 3 = .ok (.aload_n 1, 1) := by decide +kernel
theorem dX1_passAll_4 : decode cX1_passAll 4 = .ok (.getfield 51, 3) := by decide +kernel
theorem dX1_passAll_7 : decode cX1_passAll 7 = .ok (.if_icmp .ge 15, 3) := by decide +kernel
theorem dX1_passAll_22 : decode cX1_passAll 22 = .ok (.return_, 1) := by decide +kernel
theorem dX1_passAll_10 : decode cX1_passAll 10 = .ok (.aload_n 0, 1) := by decide +kernel
theorem dX1_passAll_11 : decode cX1_passAll 11 = .ok (.aload_n 1, 1) := by decide +kernel
theorem dX1_passAll_12 : decode cX1_passAll 12 = .ok (.iload_n 2, 1) := by decide +kernel
theorem dX1_passAll_13 : decode cX1_passAll 13 = .ok (.invokevirtual 58, 3) := by decide +kernel
theorem dX1_passAll_16 : decode cX1_passAll 16 = .ok (.iinc 2 1, 3) := by decide +kernel
theorem dX1_passAll_19 : decode cX1_passAll 19 = .ok (.goto (-17), 3) := by decide +kernel
theorem dX1_passAll_0 : decode cX1_passAll 0 = .ok (.iconst 0, 1) := by decide +kernel
theorem dX1_passAll_1 : decode cX1_passAll 1 = .ok (.istore_n 2, 1) := by decide +kernel
def FX1_passAll_48_4_2  : Nat → Int → Mm → Option Mm
  | 0, _, _ => none
  | n + 1, x2, f => (if (f 4 1) ≤ x2 then some f else ((FX1_passDay_48_4 x2 f).bind fun f1 => FX1_passAll_48_4_2 n (w32 (x2 + 1)) f1))
set_option maxHeartbeats 4000000 in
set_option maxRecDepth 100000 in
theorem SX1_passAll_48_4_2 {G : GT} {l : Launch} {Q : Option AV → Mem → Prop}  : ∀ (n : Nat) (x2 : Int) (f : Mm), OkV Q (FX1_passAll_48_4_2  n x2 f) → Ev G l MX1_passAll (Rm 3 0 0) (ZM G Q 0 0) 0 0 2 [some (vR 48), some (vR 4), some (vI x2)] [] (SH, RF, f) := by
  intro n
  induction n with
  | zero => intro x2 f h; exact absurd h (by rw [FX1_passAll_48_4_2]; exact fun q => q)
  | succ n ih =>
    intro x2 f h
    rw [FX1_passAll_48_4_2] at h
    refine ev_iload_n (i := 2) dX1_passAll_2 rfl rfl ?_
    refine ev_aload_n (i := 1) dX1_passAll_3 rfl rfl ?_
    refine ex_getI (x := (f 4 1)) dX1_passAll_4 fl_X1_51 sh_4 (by decide) (by decide) rfl ?_
    refine ev_icmp_ge (tgt := 22) dX1_passAll_7 (by decide) (fun c2 => ?_) (fun c2 => ?_)
    · rw [if_pos c2] at h
      exact ev_vret rfl dX1_passAll_22 h
    · rw [if_neg c2] at h
      refine ev_aload_n (i := 0) dX1_passAll_10 rfl rfl ?_
      refine ev_aload_n (i := 1) dX1_passAll_11 rfl rfl ?_
      refine ev_iload_n (i := 2) dX1_passAll_12 rfl rfl ?_
      refine ev_cVV (b := 48) (av := [vR 4, vI x2]) (S := []) (fun q => q) h dX1_passAll_13 (fun Q' q => TX1_passDay_48_4 x2 _ q) kvX1_passDay ml_X1_58 sh_48 rfl (RRc (by decide) (by decide)) (Nat.le_of_ble_eq_true rfl) ⟨Nat.le_of_ble_eq_true rfl, Nat.le_of_ble_eq_true rfl⟩ (fun f1 h => ?_)
      refine ev_iinc (L' := [some (vR 48), some (vR 4), some (vI (w32 (x2 + 1)))]) dX1_passAll_16 rfl (by decide) rfl ?_
      refine ev_goto (tgt := 2) dX1_passAll_19 (by decide) ?_
      exact ih (w32 (x2 + 1)) _ h
def FX1_passAll_48_4_0   (f : Mm) : Option Mm := FX1_passAll_48_4_2 fu 0 f
set_option maxHeartbeats 4000000 in
set_option maxRecDepth 100000 in
theorem SX1_passAll_48_4_0 {G : GT} {l : Launch} {Q : Option AV → Mem → Prop}   (f : Mm) (h : OkV Q (FX1_passAll_48_4_0   f)) : Ev G l MX1_passAll (Rm 3 0 0) (ZM G Q 0 0) 0 0 0 [some (vR 48), some (vR 4), none] [] (SH, RF, f) := by
  unfold FX1_passAll_48_4_0 at h
  refine ev_iconst dX1_passAll_0 (r32c rfl) ?_
  refine ev_istore_n (i := 2) (L' := [some (vR 48), some (vR 4), some (vI 0)]) dX1_passAll_1 rfl (by decide) rfl ?_
  exact SX1_passAll_48_4_2  fu 0 _ h
def FX1_passAll_48_4  (f : Mm) : Option Mm := FX1_passAll_48_4_0  f
set_option maxRecDepth 100000 in
theorem TX1_passAll_48_4 {G : GT} {l : Launch} {Q : Option AV → Mem → Prop}  (f : Mm) (h : OkV Q (FX1_passAll_48_4  f)) : Ret G l MX1_passAll (3) 0 0 [vR 48, vR 4] (SH, RF, f) Q := by
  refine ret_of (L := [some (vR 48), some (vR 4), none]) (by decide) rfl (Nat.le_of_ble_eq_true rfl) ?_
  exact SX1_passAll_48_4_0  f h
theorem dX1_dayOfAll_2 : decode cX1_dayOfAll 2 = .ok (.iload_n 3, 1) := by decide +kernel
theorem dX1_dayOfAll_3 : decode cX1_dayOfAll 3 = .ok (.aload_n 1, 1) := by decide +kernel
theorem dX1_dayOfAll_4 : decode cX1_dayOfAll 4 = .ok (.getfield 51, 3) := by decide +kernel
theorem dX1_dayOfAll_7 : decode cX1_dayOfAll 7 = .ok (.if_icmp .ge 25, 3) := by decide +kernel
theorem dX1_dayOfAll_32 : decode cX1_dayOfAll 32 = .ok (.iconst (-1), 1) := by decide +kernel
theorem dX1_dayOfAll_33 : decode cX1_dayOfAll 33 = .ok (.ireturn, 1) := by decide +kernel
theorem dX1_dayOfAll_10 : decode cX1_dayOfAll 10 = .ok (.aload_n 0, 1) := by decide +kernel
theorem dX1_dayOfAll_11 : decode cX1_dayOfAll 11 = .ok (.getfield 26, 3) := by decide +kernel
theorem dX1_dayOfAll_14 : decode cX1_dayOfAll 14 = .ok (.iload_n 3, 1) := by decide +kernel
theorem dX1_dayOfAll_15 : decode cX1_dayOfAll 15 = .ok (.iconst 1, 1) := by decide +kernel
theorem dX1_dayOfAll_16 : decode cX1_dayOfAll 16 = .ok (.iadd, 1) := by decide +kernel
theorem dX1_dayOfAll_17 : decode cX1_dayOfAll 17 = .ok (.iaload, 1) := by decide +kernel
theorem dX1_dayOfAll_18 : decode cX1_dayOfAll 18 = .ok (.iload_n 2, 1) := by decide +kernel
theorem dX1_dayOfAll_19 : decode cX1_dayOfAll 19 = .ok (.iand, 1) := by decide +kernel
theorem dX1_dayOfAll_20 : decode cX1_dayOfAll 20 = .ok (.iload_n 2, 1) := by decide +kernel
theorem dX1_dayOfAll_21 : decode cX1_dayOfAll 21 = .ok (.if_icmp .ne 5, 3) := by decide +kernel
theorem dX1_dayOfAll_26 : decode cX1_dayOfAll 26 = .ok (.iinc 3 1, 3) := by decide +kernel
theorem dX1_dayOfAll_29 : decode cX1_dayOfAll 29 = .ok (.goto (-27), 3) := by decide +kernel
theorem dX1_dayOfAll_24 : decode cX1_dayOfAll 24 = .ok (.iload_n 3, 1) := by decide +kernel
theorem dX1_dayOfAll_25 : decode cX1_dayOfAll 25 = .ok (.ireturn, 1) := by decide +kernel
theorem dX1_dayOfAll_0 : decode cX1_dayOfAll 0 = .ok (.iconst 0, 1) := by decide +kernel
theorem dX1_dayOfAll_1 : decode cX1_dayOfAll 1 = .ok (.istore_n 3, 1) := by decide +kernel
def FX1_dayOfAll_48_4_2  : Nat → Int → Int → Mm → Option (Int × Mm)
  | 0, _, _, _ => none
  | n + 1, x2, x3, f => (if (f 4 1) ≤ x3 then some ((-1), f) else (if 0 ≤ (w32 (x3 + 1)) ∧ (w32 (x3 + 1)) < 7 then (if (bAnd (f 55 (w32 (x3 + 1)).toNat) x2) = x2 then some (x3, f) else FX1_dayOfAll_48_4_2 n x2 (w32 (x3 + 1)) f) else none))
set_option maxHeartbeats 4000000 in
set_option maxRecDepth 100000 in
theorem SX1_dayOfAll_48_4_2 {G : GT} {l : Launch} {Q : Option AV → Mem → Prop}  : ∀ (n : Nat) (x2 : Int) (x3 : Int) (f : Mm), OkI Q (FX1_dayOfAll_48_4_2  n x2 x3 f) → Ev G l MX1_dayOfAll (Rm 1 0 0) (ZM G Q 0 0) 0 0 2 [some (vR 48), some (vR 4), some (vI x2), some (vI x3)] [] (SH, RF, f) := by
  intro n
  induction n with
  | zero => intro x2 x3 f h; exact absurd h (by rw [FX1_dayOfAll_48_4_2]; exact fun q => q)
  | succ n ih =>
    intro x2 x3 f h
    rw [FX1_dayOfAll_48_4_2] at h
    refine ev_iload_n (i := 3) dX1_dayOfAll_2 rfl rfl ?_
    refine ev_aload_n (i := 1) dX1_dayOfAll_3 rfl rfl ?_
    refine ex_getI (x := (f 4 1)) dX1_dayOfAll_4 fl_X1_51 sh_4 (by decide) (by decide) rfl ?_
    refine ev_icmp_ge (tgt := 32) dX1_dayOfAll_7 (by decide) (fun c3 => ?_) (fun c3 => ?_)
    · rw [if_pos c3] at h
      refine ev_iconst dX1_dayOfAll_32 (r32c rfl) ?_
      exact ev_iret rfl dX1_dayOfAll_33 h
    · rw [if_neg c3] at h
      refine ev_aload_n (i := 0) dX1_dayOfAll_10 rfl rfl ?_
      refine ev_getR dX1_dayOfAll_11 fl_X1_26 sh_48 (by decide) (by decide) rf_48_8 ?_
      refine ev_iload_n (i := 3) dX1_dayOfAll_14 rfl rfl ?_
      refine ev_iconst dX1_dayOfAll_15 (r32c rfl) ?_
      refine ev_iadd dX1_dayOfAll_16 ?_
      by_cases g1 : 0 ≤ (w32 (x3 + 1)) ∧ (w32 (x3 + 1)) < 7
      · rw [if_pos g1] at h
        refine ex_iald (x := (f 55 (w32 (x3 + 1)).toNat)) dX1_dayOfAll_17 sh_55 g1.1 g1.2 rfl ?_
        refine ev_iload_n (i := 2) dX1_dayOfAll_18 rfl rfl ?_
        refine ev_iand dX1_dayOfAll_19 ?_
        refine ev_iload_n (i := 2) dX1_dayOfAll_20 rfl rfl ?_
        refine ev_icmp_ne (tgt := 26) dX1_dayOfAll_21 (by decide) (fun c2 => ?_) (fun c2 => ?_)
        · rw [if_neg c2] at h
          refine ev_iinc (L' := [some (vR 48), some (vR 4), some (vI x2), some (vI (w32 (x3 + 1)))]) dX1_dayOfAll_26 rfl (by decide) rfl ?_
          refine ev_goto (tgt := 2) dX1_dayOfAll_29 (by decide) ?_
          exact ih x2 (w32 (x3 + 1)) _ h
        · rw [if_pos c2] at h
          refine ev_iload_n (i := 3) dX1_dayOfAll_24 rfl rfl ?_
          exact ev_iret rfl dX1_dayOfAll_25 h
      · rw [if_neg g1] at h; exact h.elim
def FX1_dayOfAll_48_4_0  (x2 : Int) (f : Mm) : Option (Int × Mm) := FX1_dayOfAll_48_4_2 fu x2 0 f
set_option maxHeartbeats 4000000 in
set_option maxRecDepth 100000 in
theorem SX1_dayOfAll_48_4_0 {G : GT} {l : Launch} {Q : Option AV → Mem → Prop}  (x2 : Int) (f : Mm) (h : OkI Q (FX1_dayOfAll_48_4_0  x2 f)) : Ev G l MX1_dayOfAll (Rm 1 0 0) (ZM G Q 0 0) 0 0 0 [some (vR 48), some (vR 4), some (vI x2), none] [] (SH, RF, f) := by
  unfold FX1_dayOfAll_48_4_0 at h
  refine ev_iconst dX1_dayOfAll_0 (r32c rfl) ?_
  refine ev_istore_n (i := 3) (L' := [some (vR 48), some (vR 4), some (vI x2), some (vI 0)]) dX1_dayOfAll_1 rfl (by decide) rfl ?_
  exact SX1_dayOfAll_48_4_2  fu x2 0 _ h
def FX1_dayOfAll_48_4 (x2 : Int) (f : Mm) : Option (Int × Mm) := FX1_dayOfAll_48_4_0 x2 f
set_option maxRecDepth 100000 in
theorem TX1_dayOfAll_48_4 {G : GT} {l : Launch} {Q : Option AV → Mem → Prop} (x2 : Int) (f : Mm) (h : OkI Q (FX1_dayOfAll_48_4 x2 f)) : Ret G l MX1_dayOfAll (1) 0 0 [vR 48, vR 4, vI x2] (SH, RF, f) Q := by
  refine ret_of (L := [some (vR 48), some (vR 4), some (vI x2), none]) (by decide) rfl (Nat.le_of_ble_eq_true rfl) ?_
  exact SX1_dayOfAll_48_4_0 x2 f h
theorem dX2_keepIfSooner_29 : decode cX2_keepIfSooner 29 = .ok (.iload_n 3, 1) := by decide +kernel
theorem dX2_keepIfSooner_30 : decode cX2_keepIfSooner 30 = .ok (.bipush 6, 2) := by decide +kernel
theorem dX2_keepIfSooner_32 : decode cX2_keepIfSooner 32 = .ok (.if_icmp .ge 21, 3) := by decide +kernel
theorem dX2_keepIfSooner_53 : decode cX2_keepIfSooner 53 = .ok (.return_, 1) := by decide +kernel
theorem dX2_keepIfSooner_35 : decode cX2_keepIfSooner 35 = .ok (.aload_n 0, 1) := by decide +kernel
theorem dX2_keepIfSooner_36 : decode cX2_keepIfSooner 36 = .ok (.getfield 9, 3) := by decide +kernel
theorem dX2_keepIfSooner_39 : decode cX2_keepIfSooner 39 = .ok (.iload_n 3, 1) := by decide +kernel
theorem dX2_keepIfSooner_40 : decode cX2_keepIfSooner 40 = .ok (.aload_n 1, 1) := by decide +kernel
theorem dX2_keepIfSooner_41 : decode cX2_keepIfSooner 41 = .ok (.getfield 59, 3) := by decide +kernel
theorem dX2_keepIfSooner_44 : decode cX2_keepIfSooner 44 = .ok (.iload_n 3, 1) := by decide +kernel
theorem dX2_keepIfSooner_45 : decode cX2_keepIfSooner 45 = .ok (.iaload, 1) := by decide +kernel
theorem dX2_keepIfSooner_46 : decode cX2_keepIfSooner 46 = .ok (.iastore, 1) := by decide +kernel
theorem dX2_keepIfSooner_47 : decode cX2_keepIfSooner 47 = .ok (.iinc 3 1, 3) := by decide +kernel
theorem dX2_keepIfSooner_50 : decode cX2_keepIfSooner 50 = .ok (.goto (-21), 3) := by decide +kernel
theorem dX2_keepIfSooner_22 : decode cX2_keepIfSooner 22 = .ok (.aload_n 0, 1) := by decide +kernel
theorem dX2_keepIfSooner_23 : decode cX2_keepIfSooner 23 = .ok (.iload_n 2, 1) := by decide +kernel
theorem dX2_keepIfSooner_24 : decode cX2_keepIfSooner 24 = .ok (.putfield 15, 3) := by decide +kernel
theorem dX2_keepIfSooner_27 : decode cX2_keepIfSooner 27 = .ok (.iconst 0, 1) := by decide +kernel
theorem dX2_keepIfSooner_28 : decode cX2_keepIfSooner 28 = .ok (.istore_n 3, 1) := by decide +kernel
theorem dX2_keepIfSooner_0 : decode cX2_keepIfSooner 0 = .ok (.iload_n 2, 1) := by decide +kernel
theorem dX2_keepIfSooner_1 : decode cX2_keepIfSooner 1 = .ok (.iconst (-1), 1) := by decide +kernel
theorem dX2_keepIfSooner_2 : decode cX2_keepIfSooner 2 = .ok (.if_icmp .eq 19, 3) := by decide +kernel
theorem dX2_keepIfSooner_21 : decode cX2_keepIfSooner 21 = .ok (.return_, 1) := by decide +kernel
theorem dX2_keepIfSooner_5 : decode cX2_keepIfSooner 5 = .ok (.aload_n 0, 1) := by decide +kernel
theorem dX2_keepIfSooner_6 : decode cX2_keepIfSooner 6 = .ok (.getfield 15, 3) := by decide +kernel
theorem dX2_keepIfSooner_9 : decode cX2_keepIfSooner 9 = .ok (.iconst (-1), 1) := by decide +kernel
theorem dX2_keepIfSooner_10 : decode cX2_keepIfSooner 10 = .ok (.if_icmp .eq 12, 3) := by decide +kernel
theorem dX2_keepIfSooner_13 : decode cX2_keepIfSooner 13 = .ok (.iload_n 2, 1) := by decide +kernel
theorem dX2_keepIfSooner_14 : decode cX2_keepIfSooner 14 = .ok (.aload_n 0, 1) := by decide +kernel
theorem dX2_keepIfSooner_15 : decode cX2_keepIfSooner 15 = .ok (.getfield 15, 3) := by decide +kernel
theorem dX2_keepIfSooner_18 : decode cX2_keepIfSooner 18 = .ok (.if_icmp .lt 4, 3) := by decide +kernel
def FX2_keepIfSooner_67_48_29  : Nat → Int → Mm → Option Mm
  | 0, _, _ => none
  | n + 1, x3, f => (if 6 ≤ x3 then some f else (if 0 ≤ x3 ∧ x3 < 6 then (if 0 ≤ x3 ∧ x3 < 6 then FX2_keepIfSooner_67_48_29 n (w32 (x3 + 1)) (up f 68 x3.toNat (f 50 x3.toNat)) else none) else none))
set_option maxHeartbeats 4000000 in
set_option maxRecDepth 100000 in
theorem SX2_keepIfSooner_67_48_29 {G : GT} {l : Launch} {Q : Option AV → Mem → Prop}  : ∀ (n : Nat) (x3 : Int) (f : Mm), OkV Q (FX2_keepIfSooner_67_48_29  n x3 f) → Ev G l MX2_keepIfSooner (Rm 1 0 0) (ZM G Q 0 0) 0 0 29 [some (vR 67), some (vR 48), none, some (vI x3)] [] (SH, RF, f) := by
  intro n
  induction n with
  | zero => intro x3 f h; exact absurd h (by rw [FX2_keepIfSooner_67_48_29]; exact fun q => q)
  | succ n ih =>
    intro x3 f h
    rw [FX2_keepIfSooner_67_48_29] at h
    refine ev_iload_n (i := 3) dX2_keepIfSooner_29 rfl rfl ?_
    refine ev_bipush (v := 6) dX2_keepIfSooner_30 (r32c rfl) (by decide) ?_
    refine ev_icmp_ge (tgt := 53) dX2_keepIfSooner_32 (by decide) (fun c3 => ?_) (fun c3 => ?_)
    · rw [if_pos c3] at h
      exact ev_vret rfl dX2_keepIfSooner_53 h
    · rw [if_neg c3] at h
      refine ev_aload_n (i := 0) dX2_keepIfSooner_35 rfl rfl ?_
      refine ev_getR dX2_keepIfSooner_36 fl_X2_9 sh_67 (by decide) (by decide) rf_67_2 ?_
      refine ev_iload_n (i := 3) dX2_keepIfSooner_39 rfl rfl ?_
      refine ev_aload_n (i := 1) dX2_keepIfSooner_40 rfl rfl ?_
      refine ev_getR dX2_keepIfSooner_41 fl_X2_59 sh_48 (by decide) (by decide) rf_48_1 ?_
      refine ev_iload_n (i := 3) dX2_keepIfSooner_44 rfl rfl ?_
      by_cases g1 : 0 ≤ x3 ∧ x3 < 6
      · rw [if_pos g1] at h
        refine ex_iald (x := (f 50 x3.toNat)) dX2_keepIfSooner_45 sh_50 g1.1 g1.2 rfl ?_
        by_cases g2 : 0 ≤ x3 ∧ x3 < 6
        · rw [if_pos g2] at h
          refine ex_iast (j := x3.toNat) dX2_keepIfSooner_46 sh_68 g2.1 g2.2 rfl ?_
          refine ev_iinc (L' := [some (vR 67), some (vR 48), none, some (vI (w32 (x3 + 1)))]) dX2_keepIfSooner_47 rfl (by decide) rfl ?_
          refine ev_goto (tgt := 29) dX2_keepIfSooner_50 (by decide) ?_
          exact ih (w32 (x3 + 1)) _ h
        · rw [if_neg g2] at h; exact h.elim
      · rw [if_neg g1] at h; exact h.elim
def FX2_keepIfSooner_67_48_22  (x2 : Int) (f : Mm) : Option Mm := FX2_keepIfSooner_67_48_29 fu 0 (up f 67 0 x2)
set_option maxHeartbeats 4000000 in
set_option maxRecDepth 100000 in
theorem SX2_keepIfSooner_67_48_22 {G : GT} {l : Launch} {Q : Option AV → Mem → Prop}  (x2 : Int) (f : Mm) (h : OkV Q (FX2_keepIfSooner_67_48_22  x2 f)) : Ev G l MX2_keepIfSooner (Rm 1 0 0) (ZM G Q 0 0) 0 0 22 [some (vR 67), some (vR 48), some (vI x2), none] [] (SH, RF, f) := by
  unfold FX2_keepIfSooner_67_48_22 at h
  refine ev_aload_n (i := 0) dX2_keepIfSooner_22 rfl rfl ?_
  refine ev_iload_n (i := 2) dX2_keepIfSooner_23 rfl rfl ?_
  refine ev_putI dX2_keepIfSooner_24 fl_X2_15 sh_67 (by decide) (by decide) ?_
  refine ev_iconst dX2_keepIfSooner_27 (r32c rfl) ?_
  refine ev_istore_n (i := 3) (L' := [some (vR 67), some (vR 48), some (vI x2), some (vI 0)]) dX2_keepIfSooner_28 rfl (by decide) rfl ?_
  refine ev_fg [true, true, false, true] rfl ?_
  exact SX2_keepIfSooner_67_48_29  fu 0 _ h
def FX2_keepIfSooner_67_48_0  (x2 : Int) (f : Mm) : Option Mm := (if x2 = (-1) then some f else (if (f 67 0) = (-1) then FX2_keepIfSooner_67_48_22 x2 f else (if x2 < (f 67 0) then FX2_keepIfSooner_67_48_22 x2 f else some f)))
set_option maxHeartbeats 4000000 in
set_option maxRecDepth 100000 in
theorem SX2_keepIfSooner_67_48_0 {G : GT} {l : Launch} {Q : Option AV → Mem → Prop}  (x2 : Int) (f : Mm) (h : OkV Q (FX2_keepIfSooner_67_48_0  x2 f)) : Ev G l MX2_keepIfSooner (Rm 1 0 0) (ZM G Q 0 0) 0 0 0 [some (vR 67), some (vR 48), some (vI x2), none] [] (SH, RF, f) := by
  unfold FX2_keepIfSooner_67_48_0 at h
  refine ev_iload_n (i := 2) dX2_keepIfSooner_0 rfl rfl ?_
  refine ev_iconst dX2_keepIfSooner_1 (r32c rfl) ?_
  refine ev_icmp_eq (tgt := 21) dX2_keepIfSooner_2 (by decide) (fun c3 => ?_) (fun c3 => ?_)
  · rw [if_pos c3] at h
    exact ev_vret rfl dX2_keepIfSooner_21 h
  · rw [if_neg c3] at h
    refine ev_aload_n (i := 0) dX2_keepIfSooner_5 rfl rfl ?_
    refine ex_getI (x := (f 67 0)) dX2_keepIfSooner_6 fl_X2_15 sh_67 (by decide) (by decide) rfl ?_
    refine ev_iconst dX2_keepIfSooner_9 (r32c rfl) ?_
    refine ev_icmp_eq (tgt := 22) dX2_keepIfSooner_10 (by decide) (fun c2 => ?_) (fun c2 => ?_)
    · rw [if_pos c2] at h
      exact SX2_keepIfSooner_67_48_22  x2 _ h
    · rw [if_neg c2] at h
      refine ev_iload_n (i := 2) dX2_keepIfSooner_13 rfl rfl ?_
      refine ev_aload_n (i := 0) dX2_keepIfSooner_14 rfl rfl ?_
      refine ex_getI (x := (f 67 0)) dX2_keepIfSooner_15 fl_X2_15 sh_67 (by decide) (by decide) rfl ?_
      refine ev_icmp_lt (tgt := 22) dX2_keepIfSooner_18 (by decide) (fun c1 => ?_) (fun c1 => ?_)
      · rw [if_pos c1] at h
        exact SX2_keepIfSooner_67_48_22  x2 _ h
      · rw [if_neg c1] at h
        exact ev_vret rfl dX2_keepIfSooner_21 h
def FX2_keepIfSooner_67_48 (x2 : Int) (f : Mm) : Option Mm := FX2_keepIfSooner_67_48_0 x2 f
set_option maxRecDepth 100000 in
theorem TX2_keepIfSooner_67_48 {G : GT} {l : Launch} {Q : Option AV → Mem → Prop} (x2 : Int) (f : Mm) (h : OkV Q (FX2_keepIfSooner_67_48 x2 f)) : Ret G l MX2_keepIfSooner (1) 0 0 [vR 67, vR 48, vI x2] (SH, RF, f) Q := by
  refine ret_of (L := [some (vR 67), some (vR 48), some (vI x2), none]) (by decide) rfl (Nat.le_of_ble_eq_true rfl) ?_
  exact SX2_keepIfSooner_67_48_0 x2 f h
theorem dX2_swap_0 : decode cX2_swap 0 = .ok (.aload_n 0, 1) := by decide +kernel
theorem dX2_swap_1 : decode cX2_swap 1 = .ok (.iload_n 1, 1) := by decide +kernel
theorem dX2_swap_2 : decode cX2_swap 2 = .ok (.iaload, 1) := by decide +kernel
theorem dX2_swap_3 : decode cX2_swap 3 = .ok (.istore_n 3, 1) := by decide +kernel
theorem dX2_swap_4 : decode cX2_swap 4 = .ok (.aload_n 0, 1) := by decide +kernel
theorem dX2_swap_5 : decode cX2_swap 5 = .ok (.iload_n 1, 1) := by decide +kernel
theorem dX2_swap_6 : decode cX2_swap 6 = .ok (.aload_n 0, 1) := by decide +kernel
theorem dX2_swap_7 : decode cX2_swap 7 = .ok (.iload_n 2, 1) := by decide +kernel
theorem dX2_swap_8 : decode cX2_swap 8 = .ok (.iaload, 1) := by decide +kernel
theorem dX2_swap_9 : decode cX2_swap 9 = .ok (.iastore, 1) := by decide +kernel
theorem dX2_swap_10 : decode cX2_swap 10 = .ok (.aload_n 0, 1) := by decide +kernel
theorem dX2_swap_11 : decode cX2_swap 11 = .ok (.iload_n 2, 1) := by decide +kernel
theorem dX2_swap_12 : decode cX2_swap 12 = .ok (.iload_n 3, 1) := by decide +kernel
theorem dX2_swap_13 : decode cX2_swap 13 = .ok (.iastore, 1) := by decide +kernel
theorem dX2_swap_14 : decode cX2_swap 14 = .ok (.return_, 1) := by decide +kernel
def FX2_swap_50_0  (x1 : Int) (x2 : Int) (f : Mm) : Option Mm := (if 0 ≤ x1 ∧ x1 < 6 then (if 0 ≤ x2 ∧ x2 < 6 then (if 0 ≤ x1 ∧ x1 < 6 then (if 0 ≤ x2 ∧ x2 < 6 then some (up (up f 50 x1.toNat (f 50 x2.toNat)) 50 x2.toNat (f 50 x1.toNat)) else none) else none) else none) else none)
set_option maxHeartbeats 4000000 in
set_option maxRecDepth 100000 in
theorem SX2_swap_50_0 {G : GT} {l : Launch} {Q : Option AV → Mem → Prop}  (x1 : Int) (x2 : Int) (f : Mm) (h : OkV Q (FX2_swap_50_0  x1 x2 f)) : Ev G l MX2_swap (Rm 1 0 0) (ZM G Q 0 0) 0 0 0 [some (vR 50), some (vI x1), some (vI x2), none] [] (SH, RF, f) := by
  unfold FX2_swap_50_0 at h
  refine ev_aload_n (i := 0) dX2_swap_0 rfl rfl ?_
  refine ev_iload_n (i := 1) dX2_swap_1 rfl rfl ?_
  by_cases g1 : 0 ≤ x1 ∧ x1 < 6
  · rw [if_pos g1] at h
    refine ex_iald (x := (f 50 x1.toNat)) dX2_swap_2 sh_50 g1.1 g1.2 rfl ?_
    refine ev_istore_n (i := 3) (L' := [some (vR 50), some (vI x1), some (vI x2), some (vI (f 50 x1.toNat))]) dX2_swap_3 rfl (by decide) rfl ?_
    refine ev_aload_n (i := 0) dX2_swap_4 rfl rfl ?_
    refine ev_iload_n (i := 1) dX2_swap_5 rfl rfl ?_
    refine ev_aload_n (i := 0) dX2_swap_6 rfl rfl ?_
    refine ev_iload_n (i := 2) dX2_swap_7 rfl rfl ?_
    by_cases g2 : 0 ≤ x2 ∧ x2 < 6
    · rw [if_pos g2] at h
      refine ex_iald (x := (f 50 x2.toNat)) dX2_swap_8 sh_50 g2.1 g2.2 rfl ?_
      by_cases g3 : 0 ≤ x1 ∧ x1 < 6
      · rw [if_pos g3] at h
        refine ex_iast (j := x1.toNat) dX2_swap_9 sh_50 g3.1 g3.2 rfl ?_
        refine ev_aload_n (i := 0) dX2_swap_10 rfl rfl ?_
        refine ev_iload_n (i := 2) dX2_swap_11 rfl rfl ?_
        refine ev_iload_n (i := 3) dX2_swap_12 rfl rfl ?_
        by_cases g4 : 0 ≤ x2 ∧ x2 < 6
        · rw [if_pos g4] at h
          refine ex_iast (j := x2.toNat) dX2_swap_13 sh_50 g4.1 g4.2 rfl ?_
          exact ev_vret rfl dX2_swap_14 h
        · rw [if_neg g4] at h; exact h.elim
      · rw [if_neg g3] at h; exact h.elim
    · rw [if_neg g2] at h; exact h.elim
  · rw [if_neg g1] at h; exact h.elim
def FX2_swap_50 (x1 : Int) (x2 : Int) (f : Mm) : Option Mm := FX2_swap_50_0 x1 x2 f
set_option maxRecDepth 100000 in
theorem TX2_swap_50 {G : GT} {l : Launch} {Q : Option AV → Mem → Prop} (x1 : Int) (x2 : Int) (f : Mm) (h : OkV Q (FX2_swap_50 x1 x2 f)) : Ret G l MX2_swap (1) 0 0 [vR 50, vI x1, vI x2] (SH, RF, f) Q := by
  refine ret_of (L := [some (vR 50), some (vI x1), some (vI x2), none]) (by decide) rfl (Nat.le_of_ble_eq_true rfl) ?_
  exact SX2_swap_50_0 x1 x2 f h
theorem dX2_turnOrder_70 : decode cX2_turnOrder 70 = .ok (.iload 4, 2) := by decide +kernel
theorem dX2_turnOrder_72 : decode cX2_turnOrder 72 = .ok (.iload 5, 2) := by decide +kernel
theorem dX2_turnOrder_74 : decode cX2_turnOrder 74 = .ok (.if_icmp .ge 20, 3) := by decide +kernel
theorem dX2_turnOrder_94 : decode cX2_turnOrder 94 = .ok (.return_, 1) := by decide +kernel
theorem dX2_turnOrder_77 : decode cX2_turnOrder 77 = .ok (.aload_n 0, 1) := by decide +kernel
theorem dX2_turnOrder_78 : decode cX2_turnOrder 78 = .ok (.iload 4, 2) := by decide +kernel
theorem dX2_turnOrder_80 : decode cX2_turnOrder 80 = .ok (.iload 5, 2) := by decide +kernel
theorem dX2_turnOrder_82 : decode cX2_turnOrder 82 = .ok (.invokestatic 66, 3) := by decide +kernel
theorem dX2_turnOrder_85 : decode cX2_turnOrder 85 = .ok (.iinc 4 1, 3) := by decide +kernel
theorem dX2_turnOrder_88 : decode cX2_turnOrder 88 = .ok (.iinc 5 (-1), 3) := by decide +kernel
theorem dX2_turnOrder_91 : decode cX2_turnOrder 91 = .ok (.goto (-21), 3) := by decide +kernel
theorem dX2_turnOrder_54 : decode cX2_turnOrder 54 = .ok (.aload_n 0, 1) := by decide +kernel
theorem dX2_turnOrder_55 : decode cX2_turnOrder 55 = .ok (.iload_n 2, 1) := by decide +kernel
theorem dX2_turnOrder_56 : decode cX2_turnOrder 56 = .ok (.iload_n 3, 1) := by decide +kernel
theorem dX2_turnOrder_57 : decode cX2_turnOrder 57 = .ok (.invokestatic 66, 3) := by decide +kernel
theorem dX2_turnOrder_60 : decode cX2_turnOrder 60 = .ok (.iload_n 2, 1) := by decide +kernel
theorem dX2_turnOrder_61 : decode cX2_turnOrder 61 = .ok (.iconst 1, 1) := by decide +kernel
theorem dX2_turnOrder_62 : decode cX2_turnOrder 62 = .ok (.iadd, 1) := by decide +kernel
theorem dX2_turnOrder_63 : decode cX2_turnOrder 63 = .ok (.istore 4, 2) := by decide +kernel
theorem dX2_turnOrder_65 : decode cX2_turnOrder 65 = .ok (.iload_n 1, 1) := by decide +kernel
theorem dX2_turnOrder_66 : decode cX2_turnOrder 66 = .ok (.iconst 1, 1) := by decide +kernel
theorem dX2_turnOrder_67 : decode cX2_turnOrder 67 = .ok (.isub, 1) := by decide +kernel
theorem dX2_turnOrder_68 : decode cX2_turnOrder 68 = .ok (.istore 5, 2) := by decide +kernel
theorem dX2_turnOrder_34 : decode cX2_turnOrder 34 = .ok (.iload_n 3, 1) := by decide +kernel
theorem dX2_turnOrder_35 : decode cX2_turnOrder 35 = .ok (.iload_n 2, 1) := by decide +kernel
theorem dX2_turnOrder_36 : decode cX2_turnOrder 36 = .ok (.if_icmp .le 18, 3) := by decide +kernel
theorem dX2_turnOrder_39 : decode cX2_turnOrder 39 = .ok (.aload_n 0, 1) := by decide +kernel
theorem dX2_turnOrder_40 : decode cX2_turnOrder 40 = .ok (.iload_n 3, 1) := by decide +kernel
theorem dX2_turnOrder_41 : decode cX2_turnOrder 41 = .ok (.iaload, 1) := by decide +kernel
theorem dX2_turnOrder_42 : decode cX2_turnOrder 42 = .ok (.aload_n 0, 1) := by decide +kernel
theorem dX2_turnOrder_43 : decode cX2_turnOrder 43 = .ok (.iload_n 2, 1) := by decide +kernel
theorem dX2_turnOrder_44 : decode cX2_turnOrder 44 = .ok (.iaload, 1) := by decide +kernel
theorem dX2_turnOrder_45 : decode cX2_turnOrder 45 = .ok (.if_icmp .ge 9, 3) := by decide +kernel
theorem dX2_turnOrder_48 : decode cX2_turnOrder 48 = .ok (.iinc 3 (-1), 3) := by decide +kernel
theorem dX2_turnOrder_51 : decode cX2_turnOrder 51 = .ok (.goto (-17), 3) := by decide +kernel
theorem dX2_turnOrder_25 : decode cX2_turnOrder 25 = .ok (.iload_n 2, 1) := by decide +kernel
theorem dX2_turnOrder_26 : decode cX2_turnOrder 26 = .ok (.ifCond .ge 4, 3) := by decide +kernel
theorem dX2_turnOrder_30 : decode cX2_turnOrder 30 = .ok (.iload_n 1, 1) := by decide +kernel
theorem dX2_turnOrder_31 : decode cX2_turnOrder 31 = .ok (.iconst 1, 1) := by decide +kernel
theorem dX2_turnOrder_32 : decode cX2_turnOrder 32 = .ok (.isub, 1) := by decide +kernel
theorem dX2_turnOrder_33 : decode cX2_turnOrder 33 = .ok (.istore_n 3, 1) := by decide +kernel
theorem dX2_turnOrder_29 : decode cX2_turnOrder 29 = .ok (.return_, 1) := by decide +kernel
theorem dX2_turnOrder_4 : decode cX2_turnOrder 4 = .ok (.iload_n 2, 1) := by decide +kernel
theorem dX2_turnOrder_5 : decode cX2_turnOrder 5 = .ok (.ifCond .lt 20, 3) := by decide +kernel
theorem dX2_turnOrder_8 : decode cX2_turnOrder 8 = .ok (.aload_n 0, 1) := by decide +kernel
theorem dX2_turnOrder_9 : decode cX2_turnOrder 9 = .ok (.iload_n 2, 1) := by decide +kernel
theorem dX2_turnOrder_10 : decode cX2_turnOrder 10 = .ok (.iaload, 1) := by decide +kernel
theorem dX2_turnOrder_11 : decode cX2_turnOrder 11 = .ok (.aload_n 0, 1) := by decide +kernel
theorem dX2_turnOrder_12 : decode cX2_turnOrder 12 = .ok (.iload_n 2, 1) := by decide +kernel
theorem dX2_turnOrder_13 : decode cX2_turnOrder 13 = .ok (.iconst 1, 1) := by decide +kernel
theorem dX2_turnOrder_14 : decode cX2_turnOrder 14 = .ok (.iadd, 1) := by decide +kernel
theorem dX2_turnOrder_15 : decode cX2_turnOrder 15 = .ok (.iaload, 1) := by decide +kernel
theorem dX2_turnOrder_16 : decode cX2_turnOrder 16 = .ok (.if_icmp .le 9, 3) := by decide +kernel
theorem dX2_turnOrder_19 : decode cX2_turnOrder 19 = .ok (.iinc 2 (-1), 3) := by decide +kernel
theorem dX2_turnOrder_22 : decode cX2_turnOrder 22 = .ok (.goto (-18), 3) := by decide +kernel
theorem dX2_turnOrder_0 : decode cX2_turnOrder 0 = .ok (.iload_n 1, 1) := by decide +kernel
theorem dX2_turnOrder_1 : decode cX2_turnOrder 1 = .ok (.iconst 2, 1) := by decide +kernel
theorem dX2_turnOrder_2 : decode cX2_turnOrder 2 = .ok (.isub, 1) := by decide +kernel
theorem dX2_turnOrder_3 : decode cX2_turnOrder 3 = .ok (.istore_n 2, 1) := by decide +kernel
def FX2_turnOrder_50_70  : Nat → Int → Int → Mm → Option Mm
  | 0, _, _, _ => none
  | n + 1, x4, x5, f => (if x5 ≤ x4 then some f else ((FX2_swap_50 x4 x5 f).bind fun f1 => FX2_turnOrder_50_70 n (w32 (x4 + 1)) (w32 (x5 + (-1))) f1))
set_option maxHeartbeats 4000000 in
set_option maxRecDepth 100000 in
theorem SX2_turnOrder_50_70 {G : GT} {l : Launch} {Q : Option AV → Mem → Prop}  : ∀ (n : Nat) (x4 : Int) (x5 : Int) (f : Mm), OkV Q (FX2_turnOrder_50_70  n x4 x5 f) → Ev G l MX2_turnOrder (Rm 2 0 0) (ZM G Q 0 0) 0 0 70 [some (vR 50), none, none, none, some (vI x4), some (vI x5)] [] (SH, RF, f) := by
  intro n
  induction n with
  | zero => intro x4 x5 f h; exact absurd h (by rw [FX2_turnOrder_50_70]; exact fun q => q)
  | succ n ih =>
    intro x4 x5 f h
    rw [FX2_turnOrder_50_70] at h
    refine ev_iload dX2_turnOrder_70 rfl ?_
    refine ev_iload dX2_turnOrder_72 rfl ?_
    refine ev_icmp_ge (tgt := 94) dX2_turnOrder_74 (by decide) (fun c2 => ?_) (fun c2 => ?_)
    · rw [if_pos c2] at h
      exact ev_vret rfl dX2_turnOrder_94 h
    · rw [if_neg c2] at h
      refine ev_aload_n (i := 0) dX2_turnOrder_77 rfl rfl ?_
      refine ev_iload dX2_turnOrder_78 rfl ?_
      refine ev_iload dX2_turnOrder_80 rfl ?_
      refine ev_cSV (av := [vR 50, vI x4, vI x5]) (S := []) (fun q => q) h dX2_turnOrder_82 (fun Q' q => TX2_swap_50 x4 x5 _ q) ksX2_swap ml_X2_66 rfl (RRc (by decide) (by decide)) (Nat.le_of_ble_eq_true rfl) ⟨Nat.le_of_ble_eq_true rfl, Nat.le_of_ble_eq_true rfl⟩ (fun f1 h => ?_)
      refine ev_iinc (L' := [some (vR 50), none, none, none, some (vI (w32 (x4 + 1))), some (vI x5)]) dX2_turnOrder_85 rfl (by decide) rfl ?_
      refine ev_iinc (L' := [some (vR 50), none, none, none, some (vI (w32 (x4 + 1))), some (vI (w32 (x5 + (-1))))]) dX2_turnOrder_88 rfl (by decide) rfl ?_
      refine ev_goto (tgt := 70) dX2_turnOrder_91 (by decide) ?_
      exact ih (w32 (x4 + 1)) (w32 (x5 + (-1))) _ h
def FX2_turnOrder_50_54  (x1 : Int) (x2 : Int) (x3 : Int) (f : Mm) : Option Mm := ((FX2_swap_50 x2 x3 f).bind fun f1 => FX2_turnOrder_50_70 fu (w32 (x2 + 1)) (w32 (x1 - 1)) f1)
set_option maxHeartbeats 4000000 in
set_option maxRecDepth 100000 in
theorem SX2_turnOrder_50_54 {G : GT} {l : Launch} {Q : Option AV → Mem → Prop}  (x1 : Int) (x2 : Int) (x3 : Int) (f : Mm) (h : OkV Q (FX2_turnOrder_50_54  x1 x2 x3 f)) : Ev G l MX2_turnOrder (Rm 2 0 0) (ZM G Q 0 0) 0 0 54 [some (vR 50), some (vI x1), some (vI x2), some (vI x3), none, none] [] (SH, RF, f) := by
  unfold FX2_turnOrder_50_54 at h
  refine ev_aload_n (i := 0) dX2_turnOrder_54 rfl rfl ?_
  refine ev_iload_n (i := 2) dX2_turnOrder_55 rfl rfl ?_
  refine ev_iload_n (i := 3) dX2_turnOrder_56 rfl rfl ?_
  refine ev_cSV (av := [vR 50, vI x2, vI x3]) (S := []) (fun q => q) h dX2_turnOrder_57 (fun Q' q => TX2_swap_50 x2 x3 _ q) ksX2_swap ml_X2_66 rfl (RRc (by decide) (by decide)) (Nat.le_of_ble_eq_true rfl) ⟨Nat.le_of_ble_eq_true rfl, Nat.le_of_ble_eq_true rfl⟩ (fun f1 h => ?_)
  refine ev_iload_n (i := 2) dX2_turnOrder_60 rfl rfl ?_
  refine ev_iconst dX2_turnOrder_61 (r32c rfl) ?_
  refine ev_iadd dX2_turnOrder_62 ?_
  refine ev_istore (L' := [some (vR 50), some (vI x1), some (vI x2), some (vI x3), some (vI (w32 (x2 + 1))), none]) dX2_turnOrder_63 (by decide) rfl ?_
  refine ev_iload_n (i := 1) dX2_turnOrder_65 rfl rfl ?_
  refine ev_iconst dX2_turnOrder_66 (r32c rfl) ?_
  refine ev_isub dX2_turnOrder_67 ?_
  refine ev_istore (L' := [some (vR 50), some (vI x1), some (vI x2), some (vI x3), some (vI (w32 (x2 + 1))), some (vI (w32 (x1 - 1)))]) dX2_turnOrder_68 (by decide) rfl ?_
  refine ev_fg [true, false, false, false, true, true] rfl ?_
  exact SX2_turnOrder_50_70  fu (w32 (x2 + 1)) (w32 (x1 - 1)) _ h
def FX2_turnOrder_50_34  : Nat → Int → Int → Int → Mm → Option Mm
  | 0, _, _, _, _ => none
  | n + 1, x1, x2, x3, f => (if x3 ≤ x2 then FX2_turnOrder_50_54 x1 x2 x3 f else (if 0 ≤ x3 ∧ x3 < 6 then (if 0 ≤ x2 ∧ x2 < 6 then (if (f 50 x2.toNat) ≤ (f 50 x3.toNat) then FX2_turnOrder_50_54 x1 x2 x3 f else FX2_turnOrder_50_34 n x1 x2 (w32 (x3 + (-1))) f) else none) else none))
set_option maxHeartbeats 4000000 in
set_option maxRecDepth 100000 in
theorem SX2_turnOrder_50_34 {G : GT} {l : Launch} {Q : Option AV → Mem → Prop}  : ∀ (n : Nat) (x1 : Int) (x2 : Int) (x3 : Int) (f : Mm), OkV Q (FX2_turnOrder_50_34  n x1 x2 x3 f) → Ev G l MX2_turnOrder (Rm 2 0 0) (ZM G Q 0 0) 0 0 34 [some (vR 50), some (vI x1), some (vI x2), some (vI x3), none, none] [] (SH, RF, f) := by
  intro n
  induction n with
  | zero => intro x1 x2 x3 f h; exact absurd h (by rw [FX2_turnOrder_50_34]; exact fun q => q)
  | succ n ih =>
    intro x1 x2 x3 f h
    rw [FX2_turnOrder_50_34] at h
    refine ev_iload_n (i := 3) dX2_turnOrder_34 rfl rfl ?_
    refine ev_iload_n (i := 2) dX2_turnOrder_35 rfl rfl ?_
    refine ev_icmp_le (tgt := 54) dX2_turnOrder_36 (by decide) (fun c4 => ?_) (fun c4 => ?_)
    · rw [if_pos c4] at h
      exact SX2_turnOrder_50_54  x1 x2 x3 _ h
    · rw [if_neg c4] at h
      refine ev_aload_n (i := 0) dX2_turnOrder_39 rfl rfl ?_
      refine ev_iload_n (i := 3) dX2_turnOrder_40 rfl rfl ?_
      by_cases g1 : 0 ≤ x3 ∧ x3 < 6
      · rw [if_pos g1] at h
        refine ex_iald (x := (f 50 x3.toNat)) dX2_turnOrder_41 sh_50 g1.1 g1.2 rfl ?_
        refine ev_aload_n (i := 0) dX2_turnOrder_42 rfl rfl ?_
        refine ev_iload_n (i := 2) dX2_turnOrder_43 rfl rfl ?_
        by_cases g2 : 0 ≤ x2 ∧ x2 < 6
        · rw [if_pos g2] at h
          refine ex_iald (x := (f 50 x2.toNat)) dX2_turnOrder_44 sh_50 g2.1 g2.2 rfl ?_
          refine ev_icmp_ge (tgt := 54) dX2_turnOrder_45 (by decide) (fun c3 => ?_) (fun c3 => ?_)
          · rw [if_pos c3] at h
            exact SX2_turnOrder_50_54  x1 x2 x3 _ h
          · rw [if_neg c3] at h
            refine ev_iinc (L' := [some (vR 50), some (vI x1), some (vI x2), some (vI (w32 (x3 + (-1)))), none, none]) dX2_turnOrder_48 rfl (by decide) rfl ?_
            refine ev_goto (tgt := 34) dX2_turnOrder_51 (by decide) ?_
            exact ih x1 x2 (w32 (x3 + (-1))) _ h
        · rw [if_neg g2] at h; exact h.elim
      · rw [if_neg g1] at h; exact h.elim
def FX2_turnOrder_50_25  (x1 : Int) (x2 : Int) (f : Mm) : Option Mm := (if 0 ≤ x2 then FX2_turnOrder_50_34 fu x1 x2 (w32 (x1 - 1)) f else some f)
set_option maxHeartbeats 4000000 in
set_option maxRecDepth 100000 in
theorem SX2_turnOrder_50_25 {G : GT} {l : Launch} {Q : Option AV → Mem → Prop}  (x1 : Int) (x2 : Int) (f : Mm) (h : OkV Q (FX2_turnOrder_50_25  x1 x2 f)) : Ev G l MX2_turnOrder (Rm 2 0 0) (ZM G Q 0 0) 0 0 25 [some (vR 50), some (vI x1), some (vI x2), none, none, none] [] (SH, RF, f) := by
  unfold FX2_turnOrder_50_25 at h
  refine ev_iload_n (i := 2) dX2_turnOrder_25 rfl rfl ?_
  refine ev_if_ge (tgt := 30) dX2_turnOrder_26 (by decide) (fun c1 => ?_) (fun c1 => ?_)
  · rw [if_pos c1] at h
    refine ev_iload_n (i := 1) dX2_turnOrder_30 rfl rfl ?_
    refine ev_iconst dX2_turnOrder_31 (r32c rfl) ?_
    refine ev_isub dX2_turnOrder_32 ?_
    refine ev_istore_n (i := 3) (L' := [some (vR 50), some (vI x1), some (vI x2), some (vI (w32 (x1 - 1))), none, none]) dX2_turnOrder_33 rfl (by decide) rfl ?_
    exact SX2_turnOrder_50_34  fu x1 x2 (w32 (x1 - 1)) _ h
  · rw [if_neg c1] at h
    exact ev_vret rfl dX2_turnOrder_29 h
def FX2_turnOrder_50_4  : Nat → Int → Int → Mm → Option Mm
  | 0, _, _, _ => none
  | n + 1, x1, x2, f => (if x2 < 0 then FX2_turnOrder_50_25 x1 x2 f else (if 0 ≤ x2 ∧ x2 < 6 then (if 0 ≤ (w32 (x2 + 1)) ∧ (w32 (x2 + 1)) < 6 then (if (f 50 x2.toNat) ≤ (f 50 (w32 (x2 + 1)).toNat) then FX2_turnOrder_50_25 x1 x2 f else FX2_turnOrder_50_4 n x1 (w32 (x2 + (-1))) f) else none) else none))
set_option maxHeartbeats 4000000 in
set_option maxRecDepth 100000 in
theorem SX2_turnOrder_50_4 {G : GT} {l : Launch} {Q : Option AV → Mem → Prop}  : ∀ (n : Nat) (x1 : Int) (x2 : Int) (f : Mm), OkV Q (FX2_turnOrder_50_4  n x1 x2 f) → Ev G l MX2_turnOrder (Rm 2 0 0) (ZM G Q 0 0) 0 0 4 [some (vR 50), some (vI x1), some (vI x2), none, none, none] [] (SH, RF, f) := by
  intro n
  induction n with
  | zero => intro x1 x2 f h; exact absurd h (by rw [FX2_turnOrder_50_4]; exact fun q => q)
  | succ n ih =>
    intro x1 x2 f h
    rw [FX2_turnOrder_50_4] at h
    refine ev_iload_n (i := 2) dX2_turnOrder_4 rfl rfl ?_
    refine ev_if_lt (tgt := 25) dX2_turnOrder_5 (by decide) (fun c4 => ?_) (fun c4 => ?_)
    · rw [if_pos c4] at h
      exact SX2_turnOrder_50_25  x1 x2 _ h
    · rw [if_neg c4] at h
      refine ev_aload_n (i := 0) dX2_turnOrder_8 rfl rfl ?_
      refine ev_iload_n (i := 2) dX2_turnOrder_9 rfl rfl ?_
      by_cases g1 : 0 ≤ x2 ∧ x2 < 6
      · rw [if_pos g1] at h
        refine ex_iald (x := (f 50 x2.toNat)) dX2_turnOrder_10 sh_50 g1.1 g1.2 rfl ?_
        refine ev_aload_n (i := 0) dX2_turnOrder_11 rfl rfl ?_
        refine ev_iload_n (i := 2) dX2_turnOrder_12 rfl rfl ?_
        refine ev_iconst dX2_turnOrder_13 (r32c rfl) ?_
        refine ev_iadd dX2_turnOrder_14 ?_
        by_cases g2 : 0 ≤ (w32 (x2 + 1)) ∧ (w32 (x2 + 1)) < 6
        · rw [if_pos g2] at h
          refine ex_iald (x := (f 50 (w32 (x2 + 1)).toNat)) dX2_turnOrder_15 sh_50 g2.1 g2.2 rfl ?_
          refine ev_icmp_le (tgt := 25) dX2_turnOrder_16 (by decide) (fun c3 => ?_) (fun c3 => ?_)
          · rw [if_pos c3] at h
            exact SX2_turnOrder_50_25  x1 x2 _ h
          · rw [if_neg c3] at h
            refine ev_iinc (L' := [some (vR 50), some (vI x1), some (vI (w32 (x2 + (-1)))), none, none, none]) dX2_turnOrder_19 rfl (by decide) rfl ?_
            refine ev_goto (tgt := 4) dX2_turnOrder_22 (by decide) ?_
            exact ih x1 (w32 (x2 + (-1))) _ h
        · rw [if_neg g2] at h; exact h.elim
      · rw [if_neg g1] at h; exact h.elim
def FX2_turnOrder_50_0  (x1 : Int) (f : Mm) : Option Mm := FX2_turnOrder_50_4 fu x1 (w32 (x1 - 2)) f
set_option maxHeartbeats 4000000 in
set_option maxRecDepth 100000 in
theorem SX2_turnOrder_50_0 {G : GT} {l : Launch} {Q : Option AV → Mem → Prop}  (x1 : Int) (f : Mm) (h : OkV Q (FX2_turnOrder_50_0  x1 f)) : Ev G l MX2_turnOrder (Rm 2 0 0) (ZM G Q 0 0) 0 0 0 [some (vR 50), some (vI x1), none, none, none, none] [] (SH, RF, f) := by
  unfold FX2_turnOrder_50_0 at h
  refine ev_iload_n (i := 1) dX2_turnOrder_0 rfl rfl ?_
  refine ev_iconst dX2_turnOrder_1 (r32c rfl) ?_
  refine ev_isub dX2_turnOrder_2 ?_
  refine ev_istore_n (i := 2) (L' := [some (vR 50), some (vI x1), some (vI (w32 (x1 - 2))), none, none, none]) dX2_turnOrder_3 rfl (by decide) rfl ?_
  exact SX2_turnOrder_50_4  fu x1 (w32 (x1 - 2)) _ h
def FX2_turnOrder_50 (x1 : Int) (f : Mm) : Option Mm := FX2_turnOrder_50_0 x1 f
set_option maxRecDepth 100000 in
theorem TX2_turnOrder_50 {G : GT} {l : Launch} {Q : Option AV → Mem → Prop} (x1 : Int) (f : Mm) (h : OkV Q (FX2_turnOrder_50 x1 f)) : Ret G l MX2_turnOrder (2) 0 0 [vR 50, vI x1] (SH, RF, f) Q := by
  refine ret_of (L := [some (vR 50), some (vI x1), none, none, none, none]) (by decide) rfl (Nat.le_of_ble_eq_true rfl) ?_
  exact SX2_turnOrder_50_0 x1 f h
theorem dX2_tryAll_51 : decode cX2_tryAll 51 = .ok (.iload 4, 2) := by decide +kernel
theorem dX2_tryAll_53 : decode cX2_tryAll 53 = .ok (.iload_n 3, 1) := by decide +kernel
theorem dX2_tryAll_54 : decode cX2_tryAll 54 = .ok (.if_icmp .ge 59, 3) := by decide +kernel
theorem dX2_tryAll_113 : decode cX2_tryAll 113 = .ok (.return_, 1) := by decide +kernel
theorem dX2_tryAll_57 : decode cX2_tryAll 57 = .ok (.aload_n 2, 1) := by decide +kernel
theorem dX2_tryAll_58 : decode cX2_tryAll 58 = .ok (.aload_n 1, 1) := by decide +kernel
theorem dX2_tryAll_59 : decode cX2_tryAll 59 = .ok (.invokevirtual 27, 3) := by decide +kernel
theorem dX2_tryAll_62 : decode cX2_tryAll 62 = .ok (.aload_n 0, 1) := by decide +kernel
theorem dX2_tryAll_63 : decode cX2_tryAll 63 = .ok (.aload_n 0, 1) := by decide +kernel
theorem dX2_tryAll_64 : decode cX2_tryAll 64 = .ok (.getfield 19, 3) := by decide +kernel
theorem dX2_tryAll_67 : decode cX2_tryAll 67 = .ok (.aload_n 1, 1) := by decide +kernel
theorem dX2_tryAll_68 : decode cX2_tryAll 68 = .ok (.aload_n 2, 1) := by decide +kernel
theorem dX2_tryAll_69 : decode cX2_tryAll 69 = .ok (.aload_n 1, 1) := by decide +kernel
theorem dX2_tryAll_70 : decode cX2_tryAll 70 = .ok (.invokevirtual 33, 3) := by decide +kernel
theorem dX2_tryAll_73 : decode cX2_tryAll 73 = .ok (.invokevirtual 37, 3) := by decide +kernel
theorem dX2_tryAll_76 : decode cX2_tryAll 76 = .ok (.invokestatic 41, 3) := by decide +kernel
theorem dX2_tryAll_79 : decode cX2_tryAll 79 = .ok (.putfield 19, 3) := by decide +kernel
theorem dX2_tryAll_82 : decode cX2_tryAll 82 = .ok (.aload_n 0, 1) := by decide +kernel
theorem dX2_tryAll_83 : decode cX2_tryAll 83 = .ok (.aload_n 2, 1) := by decide +kernel
theorem dX2_tryAll_84 : decode cX2_tryAll 84 = .ok (.aload_n 2, 1) := by decide +kernel
theorem dX2_tryAll_85 : decode cX2_tryAll 85 = .ok (.aload_n 1, 1) := by decide +kernel
theorem dX2_tryAll_86 : decode cX2_tryAll 86 = .ok (.aload_n 1, 1) := by decide +kernel
theorem dX2_tryAll_87 : decode cX2_tryAll 87 = .ok (.invokevirtual 47, 3) := by decide +kernel
theorem dX2_tryAll_90 : decode cX2_tryAll 90 = .ok (.invokevirtual 51, 3) := by decide +kernel
theorem dX2_tryAll_93 : decode cX2_tryAll 93 = .ok (.invokevirtual 55, 3) := by decide +kernel
theorem dX2_tryAll_96 : decode cX2_tryAll 96 = .ok (.aload_n 2, 1) := by decide +kernel
theorem dX2_tryAll_97 : decode cX2_tryAll 97 = .ok (.getfield 59, 3) := by decide +kernel
theorem dX2_tryAll_100 : decode cX2_tryAll 100 = .ok (.aload_n 1, 1) := by decide +kernel
theorem dX2_tryAll_101 : decode cX2_tryAll 101 = .ok (.getfield 22, 3) := by decide +kernel
theorem dX2_tryAll_104 : decode cX2_tryAll 104 = .ok (.invokestatic 62, 3) := by decide +kernel
theorem dX2_tryAll_107 : decode cX2_tryAll 107 = .ok (.iinc 4 1, 3) := by decide +kernel
theorem dX2_tryAll_110 : decode cX2_tryAll 110 = .ok (.goto (-59), 3) := by decide +kernel
theorem dX2_tryAll_48 : decode cX2_tryAll 48 = .ok (.iconst 0, 1) := by decide +kernel
theorem dX2_tryAll_49 : decode cX2_tryAll 49 = .ok (.istore 4, 2) := by decide +kernel
theorem dX2_tryAll_28 : decode cX2_tryAll 28 = .ok (.iload 4, 2) := by decide +kernel
theorem dX2_tryAll_30 : decode cX2_tryAll 30 = .ok (.aload_n 1, 1) := by decide +kernel
theorem dX2_tryAll_31 : decode cX2_tryAll 31 = .ok (.getfield 22, 3) := by decide +kernel
theorem dX2_tryAll_34 : decode cX2_tryAll 34 = .ok (.if_icmp .gt 14, 3) := by decide +kernel
theorem dX2_tryAll_37 : decode cX2_tryAll 37 = .ok (.iload_n 3, 1) := by decide +kernel
theorem dX2_tryAll_38 : decode cX2_tryAll 38 = .ok (.iload 4, 2) := by decide +kernel
theorem dX2_tryAll_40 : decode cX2_tryAll 40 = .ok (.imul, 1) := by decide +kernel
theorem dX2_tryAll_41 : decode cX2_tryAll 41 = .ok (.istore_n 3, 1) := by decide +kernel
theorem dX2_tryAll_42 : decode cX2_tryAll 42 = .ok (.iinc 4 1, 3) := by decide +kernel
theorem dX2_tryAll_45 : decode cX2_tryAll 45 = .ok (.goto (-17), 3) := by decide +kernel
theorem dX2_tryAll_0 : decode cX2_tryAll 0 = .ok (.aload_n 0, 1) := by decide +kernel
theorem dX2_tryAll_1 : decode cX2_tryAll 1 = .ok (.iconst (-1), 1) := by decide +kernel
theorem dX2_tryAll_2 : decode cX2_tryAll 2 = .ok (.putfield 15, 3) := by decide +kernel
theorem dX2_tryAll_5 : decode cX2_tryAll 5 = .ok (.aload_n 0, 1) := by decide +kernel
theorem dX2_tryAll_6 : decode cX2_tryAll 6 = .ok (.iconst 0, 1) := by decide +kernel
theorem dX2_tryAll_7 : decode cX2_tryAll 7 = .ok (.putfield 19, 3) := by decide +kernel
theorem dX2_tryAll_10 : decode cX2_tryAll 10 = .ok (.aload_n 1, 1) := by decide +kernel
theorem dX2_tryAll_11 : decode cX2_tryAll 11 = .ok (.getfield 22, 3) := by decide +kernel
theorem dX2_tryAll_14 : decode cX2_tryAll 14 = .ok (.ifCond .ne 9, 3) := by decide +kernel
theorem dX2_tryAll_23 : decode cX2_tryAll 23 = .ok (.iconst 1, 1) := by decide +kernel
theorem dX2_tryAll_24 : decode cX2_tryAll 24 = .ok (.istore_n 3, 1) := by decide +kernel
theorem dX2_tryAll_25 : decode cX2_tryAll 25 = .ok (.iconst 2, 1) := by decide +kernel
theorem dX2_tryAll_26 : decode cX2_tryAll 26 = .ok (.istore 4, 2) := by decide +kernel
theorem dX2_tryAll_17 : decode cX2_tryAll 17 = .ok (.aload_n 0, 1) := by decide +kernel
theorem dX2_tryAll_18 : decode cX2_tryAll 18 = .ok (.iconst 0, 1) := by decide +kernel
theorem dX2_tryAll_19 : decode cX2_tryAll 19 = .ok (.putfield 15, 3) := by decide +kernel
theorem dX2_tryAll_22 : decode cX2_tryAll 22 = .ok (.return_, 1) := by decide +kernel
def FX2_tryAll_67_4_48_51  : Nat → Int → Int → Mm → Option Mm
  | 0, _, _, _ => none
  | n + 1, x3, x4, f => (if x3 ≤ x4 then some f else ((FX1_passAll_48_4 f).bind fun f1 => (b2 (FX1_keptBits_48_4 f1) fun y2 f2 => (b2 (FX0_payOf_4 y2 f2) fun y3 f3 => (b2 (FX0_allCarts_4 (up f3 67 1 (jMax (f1 67 1) y3))) fun y4 f4 => (b2 (FX1_dayOfAll_48_4 y4 f4) fun y5 f5 => ((FX2_keepIfSooner_67_48 y5 f5).bind fun f6 => ((FX2_turnOrder_50 (f6 4 5) f6).bind fun f7 => FX2_tryAll_67_4_48_51 n x3 (w32 (x4 + 1)) f7))))))))
set_option maxHeartbeats 4000000 in
set_option maxRecDepth 100000 in
theorem SX2_tryAll_67_4_48_51 {G : GT} {l : Launch} {Q : Option AV → Mem → Prop}  : ∀ (n : Nat) (x3 : Int) (x4 : Int) (f : Mm), OkV Q (FX2_tryAll_67_4_48_51  n x3 x4 f) → Ev G l MX2_tryAll (Rm 4 0 0) (ZM G Q 0 0) 0 0 51 [some (vR 67), some (vR 4), some (vR 48), some (vI x3), some (vI x4)] [] (SH, RF, f) := by
  intro n
  induction n with
  | zero => intro x3 x4 f h; exact absurd h (by rw [FX2_tryAll_67_4_48_51]; exact fun q => q)
  | succ n ih =>
    intro x3 x4 f h
    rw [FX2_tryAll_67_4_48_51] at h
    refine ev_iload dX2_tryAll_51 rfl ?_
    refine ev_iload_n (i := 3) dX2_tryAll_53 rfl rfl ?_
    refine ev_icmp_ge (tgt := 113) dX2_tryAll_54 (by decide) (fun c8 => ?_) (fun c8 => ?_)
    · rw [if_pos c8] at h
      exact ev_vret rfl dX2_tryAll_113 h
    · rw [if_neg c8] at h
      refine ev_aload_n (i := 2) dX2_tryAll_57 rfl rfl ?_
      refine ev_aload_n (i := 1) dX2_tryAll_58 rfl rfl ?_
      refine ev_cVV (b := 48) (av := [vR 4]) (S := []) (fun q => q) h dX2_tryAll_59 (fun Q' q => TX1_passAll_48_4 _ q) kvX1_passAll ml_X2_27 sh_48 rfl (RRc (by decide) (by decide)) (Nat.le_of_ble_eq_true rfl) ⟨Nat.le_of_ble_eq_true rfl, Nat.le_of_ble_eq_true rfl⟩ (fun f1 h => ?_)
      refine ev_aload_n (i := 0) dX2_tryAll_62 rfl rfl ?_
      refine ev_aload_n (i := 0) dX2_tryAll_63 rfl rfl ?_
      refine ex_getI (x := (f1 67 1)) dX2_tryAll_64 fl_X2_19 sh_67 (by decide) (by decide) rfl ?_
      refine ev_aload_n (i := 1) dX2_tryAll_67 rfl rfl ?_
      refine ev_aload_n (i := 2) dX2_tryAll_68 rfl rfl ?_
      refine ev_aload_n (i := 1) dX2_tryAll_69 rfl rfl ?_
      refine ev_cVI (b := 48) (av := [vR 4]) (S := [vR 4, vI (f1 67 1), vR 67]) (fun q => q) h dX2_tryAll_70 (fun Q' q => TX1_keptBits_48_4 _ q) kvX1_keptBits ml_X2_33 sh_48 rfl (RRc (by decide) (by decide)) (Nat.le_of_ble_eq_true rfl) ⟨Nat.le_of_ble_eq_true rfl, Nat.le_of_ble_eq_true rfl⟩ (fun y2 f2 h => ?_)
      refine ev_cVI (b := 4) (av := [vI y2]) (S := [vI (f1 67 1), vR 67]) (fun q => q) h dX2_tryAll_73 (fun Q' q => TX0_payOf_4 y2 _ q) kvX0_payOf ml_X2_37 sh_4 rfl (RRc (by decide) (by decide)) (Nat.le_of_ble_eq_true rfl) ⟨Nat.le_of_ble_eq_true rfl, Nat.le_of_ble_eq_true rfl⟩ (fun y3 f3 h => ?_)
      refine ev_mmax dX2_tryAll_76 mlm_X2_41 (Nat.le_of_ble_eq_true rfl) (Nat.le_of_ble_eq_true rfl) (Nat.le_of_ble_eq_true rfl) (Nat.le_of_ble_eq_true rfl) ?_
      refine ev_putI dX2_tryAll_79 fl_X2_19 sh_67 (by decide) (by decide) ?_
      refine ev_aload_n (i := 0) dX2_tryAll_82 rfl rfl ?_
      refine ev_aload_n (i := 2) dX2_tryAll_83 rfl rfl ?_
      refine ev_aload_n (i := 2) dX2_tryAll_84 rfl rfl ?_
      refine ev_aload_n (i := 1) dX2_tryAll_85 rfl rfl ?_
      refine ev_aload_n (i := 1) dX2_tryAll_86 rfl rfl ?_
      refine ev_cVI (b := 4) (av := []) (S := [vR 4, vR 48, vR 48, vR 67]) (fun q => q) h dX2_tryAll_87 (fun Q' q => TX0_allCarts_4 _ q) kvX0_allCarts ml_X2_47 sh_4 rfl (RRc (by decide) (by decide)) (Nat.le_of_ble_eq_true rfl) ⟨Nat.le_of_ble_eq_true rfl, Nat.le_of_ble_eq_true rfl⟩ (fun y4 f4 h => ?_)
      refine ev_cVI (b := 48) (av := [vR 4, vI y4]) (S := [vR 48, vR 67]) (fun q => q) h dX2_tryAll_90 (fun Q' q => TX1_dayOfAll_48_4 y4 _ q) kvX1_dayOfAll ml_X2_51 sh_48 rfl (RRc (by decide) (by decide)) (Nat.le_of_ble_eq_true rfl) ⟨Nat.le_of_ble_eq_true rfl, Nat.le_of_ble_eq_true rfl⟩ (fun y5 f5 h => ?_)
      refine ev_cVV (b := 67) (av := [vR 48, vI y5]) (S := []) (fun q => q) h dX2_tryAll_93 (fun Q' q => TX2_keepIfSooner_67_48 y5 _ q) kvX2_keepIfSooner ml_X2_55 sh_67 rfl (RRc (by decide) (by decide)) (Nat.le_of_ble_eq_true rfl) ⟨Nat.le_of_ble_eq_true rfl, Nat.le_of_ble_eq_true rfl⟩ (fun f6 h => ?_)
      refine ev_aload_n (i := 2) dX2_tryAll_96 rfl rfl ?_
      refine ev_getR dX2_tryAll_97 fl_X2_59 sh_48 (by decide) (by decide) rf_48_1 ?_
      refine ev_aload_n (i := 1) dX2_tryAll_100 rfl rfl ?_
      refine ex_getI (x := (f6 4 5)) dX2_tryAll_101 fl_X2_22 sh_4 (by decide) (by decide) rfl ?_
      refine ev_cSV (av := [vR 50, vI (f6 4 5)]) (S := []) (fun q => q) h dX2_tryAll_104 (fun Q' q => TX2_turnOrder_50 (f6 4 5) _ q) ksX2_turnOrder ml_X2_62 rfl (RRc (by decide) (by decide)) (Nat.le_of_ble_eq_true rfl) ⟨Nat.le_of_ble_eq_true rfl, Nat.le_of_ble_eq_true rfl⟩ (fun f7 h => ?_)
      refine ev_iinc (L' := [some (vR 67), some (vR 4), some (vR 48), some (vI x3), some (vI (w32 (x4 + 1)))]) dX2_tryAll_107 rfl (by decide) rfl ?_
      refine ev_goto (tgt := 51) dX2_tryAll_110 (by decide) ?_
      exact ih x3 (w32 (x4 + 1)) _ h
def FX2_tryAll_67_4_48_48  (x3 : Int) (f : Mm) : Option Mm := FX2_tryAll_67_4_48_51 fu x3 0 f
set_option maxHeartbeats 4000000 in
set_option maxRecDepth 100000 in
theorem SX2_tryAll_67_4_48_48 {G : GT} {l : Launch} {Q : Option AV → Mem → Prop}  (x3 : Int) (f : Mm) (h : OkV Q (FX2_tryAll_67_4_48_48  x3 f)) : Ev G l MX2_tryAll (Rm 4 0 0) (ZM G Q 0 0) 0 0 48 [some (vR 67), some (vR 4), some (vR 48), some (vI x3), none] [] (SH, RF, f) := by
  unfold FX2_tryAll_67_4_48_48 at h
  refine ev_iconst dX2_tryAll_48 (r32c rfl) ?_
  refine ev_istore (L' := [some (vR 67), some (vR 4), some (vR 48), some (vI x3), some (vI 0)]) dX2_tryAll_49 (by decide) rfl ?_
  exact SX2_tryAll_67_4_48_51  fu x3 0 _ h
def FX2_tryAll_67_4_48_28  : Nat → Int → Int → Mm → Option Mm
  | 0, _, _, _ => none
  | n + 1, x3, x4, f => (if (f 4 5) < x4 then FX2_tryAll_67_4_48_48 x3 f else FX2_tryAll_67_4_48_28 n (w32 (x3 * x4)) (w32 (x4 + 1)) f)
set_option maxHeartbeats 4000000 in
set_option maxRecDepth 100000 in
theorem SX2_tryAll_67_4_48_28 {G : GT} {l : Launch} {Q : Option AV → Mem → Prop}  : ∀ (n : Nat) (x3 : Int) (x4 : Int) (f : Mm), OkV Q (FX2_tryAll_67_4_48_28  n x3 x4 f) → Ev G l MX2_tryAll (Rm 4 0 0) (ZM G Q 0 0) 0 0 28 [some (vR 67), some (vR 4), some (vR 48), some (vI x3), some (vI x4)] [] (SH, RF, f) := by
  intro n
  induction n with
  | zero => intro x3 x4 f h; exact absurd h (by rw [FX2_tryAll_67_4_48_28]; exact fun q => q)
  | succ n ih =>
    intro x3 x4 f h
    rw [FX2_tryAll_67_4_48_28] at h
    refine ev_iload dX2_tryAll_28 rfl ?_
    refine ev_aload_n (i := 1) dX2_tryAll_30 rfl rfl ?_
    refine ex_getI (x := (f 4 5)) dX2_tryAll_31 fl_X2_22 sh_4 (by decide) (by decide) rfl ?_
    refine ev_icmp_gt (tgt := 48) dX2_tryAll_34 (by decide) (fun c1 => ?_) (fun c1 => ?_)
    · rw [if_pos c1] at h
      refine ev_fg [true, true, true, true, false] rfl ?_
      exact SX2_tryAll_67_4_48_48  x3 _ h
    · rw [if_neg c1] at h
      refine ev_iload_n (i := 3) dX2_tryAll_37 rfl rfl ?_
      refine ev_iload dX2_tryAll_38 rfl ?_
      refine ev_imul dX2_tryAll_40 ?_
      refine ev_istore_n (i := 3) (L' := [some (vR 67), some (vR 4), some (vR 48), some (vI (w32 (x3 * x4))), some (vI x4)]) dX2_tryAll_41 rfl (by decide) rfl ?_
      refine ev_iinc (L' := [some (vR 67), some (vR 4), some (vR 48), some (vI (w32 (x3 * x4))), some (vI (w32 (x4 + 1)))]) dX2_tryAll_42 rfl (by decide) rfl ?_
      refine ev_goto (tgt := 28) dX2_tryAll_45 (by decide) ?_
      exact ih (w32 (x3 * x4)) (w32 (x4 + 1)) _ h
def FX2_tryAll_67_4_48_0   (f : Mm) : Option Mm := (if (f 4 5) = 0 then some (up (up (up f 67 0 (-1)) 67 1 0) 67 0 0) else FX2_tryAll_67_4_48_28 fu 1 2 (up (up f 67 0 (-1)) 67 1 0))
set_option maxHeartbeats 4000000 in
set_option maxRecDepth 100000 in
theorem SX2_tryAll_67_4_48_0 {G : GT} {l : Launch} {Q : Option AV → Mem → Prop}   (f : Mm) (h : OkV Q (FX2_tryAll_67_4_48_0   f)) : Ev G l MX2_tryAll (Rm 4 0 0) (ZM G Q 0 0) 0 0 0 [some (vR 67), some (vR 4), some (vR 48), none, none] [] (SH, RF, f) := by
  unfold FX2_tryAll_67_4_48_0 at h
  refine ev_aload_n (i := 0) dX2_tryAll_0 rfl rfl ?_
  refine ev_iconst dX2_tryAll_1 (r32c rfl) ?_
  refine ev_putI dX2_tryAll_2 fl_X2_15 sh_67 (by decide) (by decide) ?_
  refine ev_aload_n (i := 0) dX2_tryAll_5 rfl rfl ?_
  refine ev_iconst dX2_tryAll_6 (r32c rfl) ?_
  refine ev_putI dX2_tryAll_7 fl_X2_19 sh_67 (by decide) (by decide) ?_
  refine ev_aload_n (i := 1) dX2_tryAll_10 rfl rfl ?_
  refine ex_getI (x := (f 4 5)) dX2_tryAll_11 fl_X2_22 sh_4 (by decide) (by decide) rfl ?_
  refine ev_if_ne (tgt := 23) dX2_tryAll_14 (by decide) (fun c1 => ?_) (fun c1 => ?_)
  · rw [if_neg c1] at h
    refine ev_iconst dX2_tryAll_23 (r32c rfl) ?_
    refine ev_istore_n (i := 3) (L' := [some (vR 67), some (vR 4), some (vR 48), some (vI 1), none]) dX2_tryAll_24 rfl (by decide) rfl ?_
    refine ev_iconst dX2_tryAll_25 (r32c rfl) ?_
    refine ev_istore (L' := [some (vR 67), some (vR 4), some (vR 48), some (vI 1), some (vI 2)]) dX2_tryAll_26 (by decide) rfl ?_
    exact SX2_tryAll_67_4_48_28  fu 1 2 _ h
  · rw [if_pos c1] at h
    refine ev_aload_n (i := 0) dX2_tryAll_17 rfl rfl ?_
    refine ev_iconst dX2_tryAll_18 (r32c rfl) ?_
    refine ev_putI dX2_tryAll_19 fl_X2_15 sh_67 (by decide) (by decide) ?_
    exact ev_vret rfl dX2_tryAll_22 h
def FX2_tryAll_67_4_48  (f : Mm) : Option Mm := FX2_tryAll_67_4_48_0  f
set_option maxRecDepth 100000 in
theorem TX2_tryAll_67_4_48 {G : GT} {l : Launch} {Q : Option AV → Mem → Prop}  (f : Mm) (h : OkV Q (FX2_tryAll_67_4_48  f)) : Ret G l MX2_tryAll (4) 0 0 [vR 67, vR 4, vR 48] (SH, RF, f) Q := by
  refine ret_of (L := [some (vR 67), some (vR 4), some (vR 48), none, none]) (by decide) rfl (Nat.le_of_ble_eq_true rfl) ?_
  exact SX2_tryAll_67_4_48_0  f h

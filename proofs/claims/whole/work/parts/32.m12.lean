theorem dX10_commonDivisor_7 : decode cX10_commonDivisor 7 = .ok (.iload 4, 2) := by decide +kernel
theorem dX10_commonDivisor_9 : decode cX10_commonDivisor 9 = .ok (.bipush 64, 2) := by decide +kernel
theorem dX10_commonDivisor_11 : decode cX10_commonDivisor 11 = .ok (.if_icmp .ge 23, 3) := by decide +kernel
theorem dX10_commonDivisor_34 : decode cX10_commonDivisor 34 = .ok (.iload_n 2, 1) := by decide +kernel
theorem dX10_commonDivisor_35 : decode cX10_commonDivisor 35 = .ok (.ireturn, 1) := by decide +kernel
theorem dX10_commonDivisor_14 : decode cX10_commonDivisor 14 = .ok (.iload_n 3, 1) := by decide +kernel
theorem dX10_commonDivisor_15 : decode cX10_commonDivisor 15 = .ok (.ifCond .eq 19, 3) := by decide +kernel
theorem dX10_commonDivisor_18 : decode cX10_commonDivisor 18 = .ok (.iload_n 2, 1) := by decide +kernel
theorem dX10_commonDivisor_19 : decode cX10_commonDivisor 19 = .ok (.iload_n 3, 1) := by decide +kernel
theorem dX10_commonDivisor_20 : decode cX10_commonDivisor 20 = .ok (.irem, 1) := by decide +kernel
theorem dX10_commonDivisor_21 : decode cX10_commonDivisor 21 = .ok (.istore 5, 2) := by decide +kernel
theorem dX10_commonDivisor_23 : decode cX10_commonDivisor 23 = .ok (.iload_n 3, 1) := by decide +kernel
theorem dX10_commonDivisor_24 : decode cX10_commonDivisor 24 = .ok (.istore_n 2, 1) := by decide +kernel
theorem dX10_commonDivisor_25 : decode cX10_commonDivisor 25 = .ok (.iload 5, 2) := by decide +kernel
theorem dX10_commonDivisor_27 : decode cX10_commonDivisor 27 = .ok (.istore_n 3, 1) := by decide +kernel
theorem dX10_commonDivisor_28 : decode cX10_commonDivisor 28 = .ok (.iinc 4 1, 3) := by decide +kernel
theorem dX10_commonDivisor_31 : decode cX10_commonDivisor 31 = .ok (.goto (-24), 3) := by decide +kernel
theorem dX10_commonDivisor_0 : decode cX10_commonDivisor 0 = .ok (.iload_n 0, 1) := by decide +kernel
theorem dX10_commonDivisor_1 : decode cX10_commonDivisor 1 = .ok (.istore_n 2, 1) := by decide +kernel
theorem dX10_commonDivisor_2 : decode cX10_commonDivisor 2 = .ok (.iload_n 1, 1) := by decide +kernel
theorem dX10_commonDivisor_3 : decode cX10_commonDivisor 3 = .ok (.istore_n 3, 1) := by decide +kernel
theorem dX10_commonDivisor_4 : decode cX10_commonDivisor 4 = .ok (.iconst 0, 1) := by decide +kernel
theorem dX10_commonDivisor_5 : decode cX10_commonDivisor 5 = .ok (.istore 4, 2) := by decide +kernel
def FX10_commonDivisor_7  : Nat → Int → Int → Int → Mm → Option (Int × Mm)
  | 0, _, _, _, _ => none
  | n + 1, x2, x3, x4, f => (if 64 ≤ x4 then some (x2, f) else (if x3 = 0 then some (x2, f) else (if x3 ≠ 0 then FX10_commonDivisor_7 n x3 (iRem x2 x3) (w32 (x4 + 1)) f else none)))
set_option maxHeartbeats 4000000 in
set_option maxRecDepth 100000 in
theorem SX10_commonDivisor_7 {G : GT} {l : Launch} {Q : Option AV → Mem → Prop}  : ∀ (n : Nat) (x2 : Int) (x3 : Int) (x4 : Int) (f : Mm), OkI Q (FX10_commonDivisor_7  n x2 x3 x4 f) → Ev G l MX10_commonDivisor (Rm 1 0 0) (ZM G Q 0 0) 0 0 7 [none, none, some (vI x2), some (vI x3), some (vI x4), none] [] (SH, RF, f) := by
  intro n
  induction n with
  | zero => intro x2 x3 x4 f h; exact absurd h (by rw [FX10_commonDivisor_7]; exact fun q => q)
  | succ n ih =>
    intro x2 x3 x4 f h
    rw [FX10_commonDivisor_7] at h
    refine ev_iload dX10_commonDivisor_7 rfl ?_
    refine ev_bipush (v := 64) dX10_commonDivisor_9 (r32c rfl) (by decide) ?_
    refine ev_icmp_ge (tgt := 34) dX10_commonDivisor_11 (by decide) (fun c3 => ?_) (fun c3 => ?_)
    · rw [if_pos c3] at h
      refine ev_iload_n (i := 2) dX10_commonDivisor_34 rfl rfl ?_
      exact ev_iret rfl dX10_commonDivisor_35 h
    · rw [if_neg c3] at h
      refine ev_iload_n (i := 3) dX10_commonDivisor_14 rfl rfl ?_
      refine ev_if_eq (tgt := 34) dX10_commonDivisor_15 (by decide) (fun c2 => ?_) (fun c2 => ?_)
      · rw [if_pos c2] at h
        refine ev_iload_n (i := 2) dX10_commonDivisor_34 rfl rfl ?_
        exact ev_iret rfl dX10_commonDivisor_35 h
      · rw [if_neg c2] at h
        refine ev_iload_n (i := 2) dX10_commonDivisor_18 rfl rfl ?_
        refine ev_iload_n (i := 3) dX10_commonDivisor_19 rfl rfl ?_
        by_cases g1 : x3 ≠ 0
        · rw [if_pos g1] at h
          refine ev_irem dX10_commonDivisor_20 g1 ?_
          refine ev_istore (L' := [none, none, some (vI x2), some (vI x3), some (vI x4), some (vI (iRem x2 x3))]) dX10_commonDivisor_21 (by decide) rfl ?_
          refine ev_iload_n (i := 3) dX10_commonDivisor_23 rfl rfl ?_
          refine ev_istore_n (i := 2) (L' := [none, none, some (vI x3), some (vI x3), some (vI x4), some (vI (iRem x2 x3))]) dX10_commonDivisor_24 rfl (by decide) rfl ?_
          refine ev_iload dX10_commonDivisor_25 rfl ?_
          refine ev_istore_n (i := 3) (L' := [none, none, some (vI x3), some (vI (iRem x2 x3)), some (vI x4), some (vI (iRem x2 x3))]) dX10_commonDivisor_27 rfl (by decide) rfl ?_
          refine ev_iinc (L' := [none, none, some (vI x3), some (vI (iRem x2 x3)), some (vI (w32 (x4 + 1))), some (vI (iRem x2 x3))]) dX10_commonDivisor_28 rfl (by decide) rfl ?_
          refine ev_goto (tgt := 7) dX10_commonDivisor_31 (by decide) ?_
          refine ev_fg [true, true, true, true, true, false] rfl ?_
          exact ih x3 (iRem x2 x3) (w32 (x4 + 1)) _ h
        · rw [if_neg g1] at h; exact h.elim
def FX10_commonDivisor_0  (x0 : Int) (x1 : Int) (f : Mm) : Option (Int × Mm) := FX10_commonDivisor_7 fu x0 x1 0 f
set_option maxHeartbeats 4000000 in
set_option maxRecDepth 100000 in
theorem SX10_commonDivisor_0 {G : GT} {l : Launch} {Q : Option AV → Mem → Prop}  (x0 : Int) (x1 : Int) (f : Mm) (h : OkI Q (FX10_commonDivisor_0  x0 x1 f)) : Ev G l MX10_commonDivisor (Rm 1 0 0) (ZM G Q 0 0) 0 0 0 [some (vI x0), some (vI x1), none, none, none, none] [] (SH, RF, f) := by
  unfold FX10_commonDivisor_0 at h
  refine ev_iload_n (i := 0) dX10_commonDivisor_0 rfl rfl ?_
  refine ev_istore_n (i := 2) (L' := [some (vI x0), some (vI x1), some (vI x0), none, none, none]) dX10_commonDivisor_1 rfl (by decide) rfl ?_
  refine ev_iload_n (i := 1) dX10_commonDivisor_2 rfl rfl ?_
  refine ev_istore_n (i := 3) (L' := [some (vI x0), some (vI x1), some (vI x0), some (vI x1), none, none]) dX10_commonDivisor_3 rfl (by decide) rfl ?_
  refine ev_iconst dX10_commonDivisor_4 (r32c rfl) ?_
  refine ev_istore (L' := [some (vI x0), some (vI x1), some (vI x0), some (vI x1), some (vI 0), none]) dX10_commonDivisor_5 (by decide) rfl ?_
  refine ev_fg [false, false, true, true, true, true] rfl ?_
  exact SX10_commonDivisor_7  fu x0 x1 0 _ h
def FX10_commonDivisor (x0 : Int) (x1 : Int) (f : Mm) : Option (Int × Mm) := FX10_commonDivisor_0 x0 x1 f
theorem TX10_commonDivisor {G : GT} {l : Launch} {Q : Option AV → Mem → Prop} (x0 : Int) (x1 : Int) (f : Mm) (h : OkI Q (FX10_commonDivisor x0 x1 f)) : Ret G l MX10_commonDivisor (1) 0 0 [vI x0, vI x1] (SH, RF, f) Q := by
  refine ret_of (L := [some (vI x0), some (vI x1), none, none, none, none]) (by decide) rfl (Nat.le_of_ble_eq_true rfl) ?_
  exact SX10_commonDivisor_0 x0 x1 f h
theorem dX10_chance_0 : decode cX10_chance 0 = .ok (.aload_n 0, 1) := by decide +kernel
theorem dX10_chance_1 : decode cX10_chance 1 = .ok (.getfield 19, 3) := by decide +kernel
theorem dX10_chance_4 : decode cX10_chance 4 = .ok (.iload_n 1, 1) := by decide +kernel
theorem dX10_chance_5 : decode cX10_chance 5 = .ok (.invokevirtual 126, 3) := by decide +kernel
theorem dX10_chance_8 : decode cX10_chance 8 = .ok (.ifCond .eq 19, 3) := by decide +kernel
theorem dX10_chance_27 : decode cX10_chance 27 = .ok (.ldc2_w 342, 3) := by decide +kernel
theorem dX10_chance_30 : decode cX10_chance 30 = .ok (.lreturn, 1) := by decide +kernel
theorem dX10_chance_11 : decode cX10_chance 11 = .ok (.iload_n 2, 1) := by decide +kernel
theorem dX10_chance_12 : decode cX10_chance 12 = .ok (.invokestatic 251, 3) := by decide +kernel
theorem dX10_chance_15 : decode cX10_chance 15 = .ok (.ifCond .eq 12, 3) := by decide +kernel
theorem dX10_chance_18 : decode cX10_chance 18 = .ok (.iload_n 3, 1) := by decide +kernel
theorem dX10_chance_19 : decode cX10_chance 19 = .ok (.ifCond .lt 8, 3) := by decide +kernel
theorem dX10_chance_22 : decode cX10_chance 22 = .ok (.iload_n 3, 1) := by decide +kernel
theorem dX10_chance_23 : decode cX10_chance 23 = .ok (.iconst 1, 1) := by decide +kernel
theorem dX10_chance_24 : decode cX10_chance 24 = .ok (.if_icmp .le 7, 3) := by decide +kernel
theorem dX10_chance_31 : decode cX10_chance 31 = .ok (.aload_n 0, 1) := by decide +kernel
theorem dX10_chance_32 : decode cX10_chance 32 = .ok (.getfield 19, 3) := by decide +kernel
theorem dX10_chance_35 : decode cX10_chance 35 = .ok (.aload_n 0, 1) := by decide +kernel
theorem dX10_chance_36 : decode cX10_chance 36 = .ok (.getfield 44, 3) := by decide +kernel
theorem dX10_chance_39 : decode cX10_chance 39 = .ok (.iload_n 1, 1) := by decide +kernel
theorem dX10_chance_40 : decode cX10_chance 40 = .ok (.iload_n 2, 1) := by decide +kernel
theorem dX10_chance_41 : decode cX10_chance 41 = .ok (.invokestatic 344, 3) := by decide +kernel
theorem dX10_chance_44 : decode cX10_chance 44 = .ok (.istore 4, 2) := by decide +kernel
theorem dX10_chance_46 : decode cX10_chance 46 = .ok (.iload_n 1, 1) := by decide +kernel
theorem dX10_chance_47 : decode cX10_chance 47 = .ok (.iconst 1, 1) := by decide +kernel
theorem dX10_chance_48 : decode cX10_chance 48 = .ok (.iadd, 1) := by decide +kernel
theorem dX10_chance_49 : decode cX10_chance 49 = .ok (.invokestatic 349, 3) := by decide +kernel
theorem dX10_chance_52 : decode cX10_chance 52 = .ok (.istore 5, 2) := by decide +kernel
theorem dX10_chance_54 : decode cX10_chance 54 = .ok (.iload 4, 2) := by decide +kernel
theorem dX10_chance_56 : decode cX10_chance 56 = .ok (.iload 5, 2) := by decide +kernel
theorem dX10_chance_58 : decode cX10_chance 58 = .ok (.invokestatic 352, 3) := by decide +kernel
theorem dX10_chance_61 : decode cX10_chance 61 = .ok (.istore 6, 2) := by decide +kernel
theorem dX10_chance_63 : decode cX10_chance 63 = .ok (.iload 6, 2) := by decide +kernel
theorem dX10_chance_65 : decode cX10_chance 65 = .ok (.ifCond .ne 7, 3) := by decide +kernel
theorem dX10_chance_72 : decode cX10_chance 72 = .ok (.iload_n 3, 1) := by decide +kernel
theorem dX10_chance_73 : decode cX10_chance 73 = .ok (.ifCond .ne 12, 3) := by decide +kernel
theorem dX10_chance_85 : decode cX10_chance 85 = .ok (.iload 5, 2) := by decide +kernel
theorem dX10_chance_87 : decode cX10_chance 87 = .ok (.iload 6, 2) := by decide +kernel
theorem dX10_chance_89 : decode cX10_chance 89 = .ok (.idiv, 1) := by decide +kernel
theorem dX10_chance_90 : decode cX10_chance 90 = .ok (.i2l, 1) := by decide +kernel
theorem dX10_chance_91 : decode cX10_chance 91 = .ok (.lreturn, 1) := by decide +kernel
theorem dX10_chance_76 : decode cX10_chance 76 = .ok (.iload 4, 2) := by decide +kernel
theorem dX10_chance_78 : decode cX10_chance 78 = .ok (.iload 6, 2) := by decide +kernel
theorem dX10_chance_80 : decode cX10_chance 80 = .ok (.idiv, 1) := by decide +kernel
theorem dX10_chance_81 : decode cX10_chance 81 = .ok (.i2l, 1) := by decide +kernel
theorem dX10_chance_82 : decode cX10_chance 82 = .ok (.goto 9, 3) := by decide +kernel
theorem dX10_chance_68 : decode cX10_chance 68 = .ok (.ldc2_w 342, 3) := by decide +kernel
theorem dX10_chance_71 : decode cX10_chance 71 = .ok (.lreturn, 1) := by decide +kernel
def FX10_chance_0  (x1 : Int) (x2 : Int) (x3 : Int) (f : Mm) : Option (Int × Mm) := (b2 (FX0_hasDay_4 x1 f) fun y1 f1 => (if y1 = 0 then some ((-2), f1) else (b2 (FX10_isFeeling x2 f1) fun y2 f2 => (if y2 = 0 then some ((-2), f2) else (if x3 < 0 then some ((-2), f2) else (if x3 ≤ 1 then (b2 (FX8_weightOf_4_48 x1 x2 f2) fun y3 f3 => (b2 (FX10_tenTo (w32 (x1 + 1)) f3) fun y4 f4 => (b2 (FX10_commonDivisor y3 y4 f4) fun y5 f5 => (if y5 = 0 then some ((-2), f5) else (if x3 = 0 then (if y5 ≠ 0 then some ((iDiv y3 y5), f5) else none) else (if y5 ≠ 0 then some ((iDiv y4 y5), f5) else none)))))) else some ((-2), f2)))))))
set_option maxHeartbeats 4000000 in
set_option maxRecDepth 100000 in
theorem SX10_chance_0 {G : GT} {l : Launch} {Q : Option AV → Mem → Prop}  (x1 : Int) (x2 : Int) (x3 : Int) (f : Mm) (h : OkJ Q (FX10_chance_0  x1 x2 x3 f)) : Ev G l MX10_chance (Rm 6 0 0) (ZM G Q 0 0) 0 0 0 [some (vR 0), some (vI x1), some (vI x2), some (vI x3), none, none, none] [] (SH, RF, f) := by
  unfold FX10_chance_0 at h
  refine ev_aload_n (i := 0) dX10_chance_0 rfl rfl ?_
  refine ev_getR dX10_chance_1 fl_X10_19 sh_0 (by decide) (by decide) rf_0_1 ?_
  refine ev_iload_n (i := 1) dX10_chance_4 rfl rfl ?_
  refine ev_cVI (b := 4) (av := [vI x1]) (S := []) (fun q => q) h dX10_chance_5 (fun Q' q => TX0_hasDay_4 x1 _ q) kvX0_hasDay ml_X10_126 sh_4 rfl (RRc (by decide) (by decide)) (Nat.le_of_ble_eq_true rfl) ⟨Nat.le_of_ble_eq_true rfl, Nat.le_of_ble_eq_true rfl⟩ (fun y1 f1 h => ?_)
  refine ev_if_eq (tgt := 27) dX10_chance_8 (by decide) (fun c13 => ?_) (fun c13 => ?_)
  · rw [if_pos c13] at h
    refine ev_ldc2 (v := (-2)) dX10_chance_27 (r64c rfl) kc_X10_342 ?_
    exact ev_lret rfl dX10_chance_30 h
  · rw [if_neg c13] at h
    refine ev_iload_n (i := 2) dX10_chance_11 rfl rfl ?_
    refine ev_cSI (av := [vI x2]) (S := []) (fun q => q) h dX10_chance_12 (fun Q' q => TX10_isFeeling x2 _ q) ksX10_isFeeling ml_X10_251 rfl (RRc (by decide) (by decide)) (Nat.le_of_ble_eq_true rfl) ⟨Nat.le_of_ble_eq_true rfl, Nat.le_of_ble_eq_true rfl⟩ (fun y2 f2 h => ?_)
    refine ev_if_eq (tgt := 27) dX10_chance_15 (by decide) (fun c12 => ?_) (fun c12 => ?_)
    · rw [if_pos c12] at h
      refine ev_ldc2 (v := (-2)) dX10_chance_27 (r64c rfl) kc_X10_342 ?_
      exact ev_lret rfl dX10_chance_30 h
    · rw [if_neg c12] at h
      refine ev_iload_n (i := 3) dX10_chance_18 rfl rfl ?_
      refine ev_if_lt (tgt := 27) dX10_chance_19 (by decide) (fun c11 => ?_) (fun c11 => ?_)
      · rw [if_pos c11] at h
        refine ev_ldc2 (v := (-2)) dX10_chance_27 (r64c rfl) kc_X10_342 ?_
        exact ev_lret rfl dX10_chance_30 h
      · rw [if_neg c11] at h
        refine ev_iload_n (i := 3) dX10_chance_22 rfl rfl ?_
        refine ev_iconst dX10_chance_23 (r32c rfl) ?_
        refine ev_icmp_le (tgt := 31) dX10_chance_24 (by decide) (fun c10 => ?_) (fun c10 => ?_)
        · rw [if_pos c10] at h
          refine ev_aload_n (i := 0) dX10_chance_31 rfl rfl ?_
          refine ev_getR dX10_chance_32 fl_X10_19 sh_0 (by decide) (by decide) rf_0_1 ?_
          refine ev_aload_n (i := 0) dX10_chance_35 rfl rfl ?_
          refine ev_getR dX10_chance_36 fl_X10_44 sh_0 (by decide) (by decide) rf_0_6 ?_
          refine ev_iload_n (i := 1) dX10_chance_39 rfl rfl ?_
          refine ev_iload_n (i := 2) dX10_chance_40 rfl rfl ?_
          refine ev_cSI (av := [vR 4, vR 48, vI x1, vI x2]) (S := []) (fun q => q) h dX10_chance_41 (fun Q' q => TX8_weightOf_4_48 x1 x2 _ q) ksX8_weightOf ml_X10_344 rfl (RRc (by decide) (by decide)) (Nat.le_of_ble_eq_true rfl) ⟨Nat.le_of_ble_eq_true rfl, Nat.le_of_ble_eq_true rfl⟩ (fun y3 f3 h => ?_)
          refine ev_istore (L' := [some (vR 0), some (vI x1), some (vI x2), some (vI x3), some (vI y3), none, none]) dX10_chance_44 (by decide) rfl ?_
          refine ev_iload_n (i := 1) dX10_chance_46 rfl rfl ?_
          refine ev_iconst dX10_chance_47 (r32c rfl) ?_
          refine ev_iadd dX10_chance_48 ?_
          refine ev_cSI (av := [vI (w32 (x1 + 1))]) (S := []) (fun q => q) h dX10_chance_49 (fun Q' q => TX10_tenTo (w32 (x1 + 1)) _ q) ksX10_tenTo ml_X10_349 rfl (RRc (by decide) (by decide)) (Nat.le_of_ble_eq_true rfl) ⟨Nat.le_of_ble_eq_true rfl, Nat.le_of_ble_eq_true rfl⟩ (fun y4 f4 h => ?_)
          refine ev_istore (L' := [some (vR 0), some (vI x1), some (vI x2), some (vI x3), some (vI y3), some (vI y4), none]) dX10_chance_52 (by decide) rfl ?_
          refine ev_iload dX10_chance_54 rfl ?_
          refine ev_iload dX10_chance_56 rfl ?_
          refine ev_cSI (av := [vI y3, vI y4]) (S := []) (fun q => q) h dX10_chance_58 (fun Q' q => TX10_commonDivisor y3 y4 _ q) ksX10_commonDivisor ml_X10_352 rfl (RRc (by decide) (by decide)) (Nat.le_of_ble_eq_true rfl) ⟨Nat.le_of_ble_eq_true rfl, Nat.le_of_ble_eq_true rfl⟩ (fun y5 f5 h => ?_)
          refine ev_istore (L' := [some (vR 0), some (vI x1), some (vI x2), some (vI x3), some (vI y3), some (vI y4), some (vI y5)]) dX10_chance_61 (by decide) rfl ?_
          refine ev_iload dX10_chance_63 rfl ?_
          refine ev_if_ne (tgt := 72) dX10_chance_65 (by decide) (fun c9 => ?_) (fun c9 => ?_)
          · rw [if_neg c9] at h
            refine ev_iload_n (i := 3) dX10_chance_72 rfl rfl ?_
            refine ev_if_ne (tgt := 85) dX10_chance_73 (by decide) (fun c8 => ?_) (fun c8 => ?_)
            · rw [if_neg c8] at h
              refine ev_iload dX10_chance_85 rfl ?_
              refine ev_iload dX10_chance_87 rfl ?_
              by_cases g6 : y5 ≠ 0
              · rw [if_pos g6] at h
                refine ev_idiv dX10_chance_89 g6 ?_
                refine ev_i2l dX10_chance_90 ?_
                exact ev_lret rfl dX10_chance_91 h
              · rw [if_neg g6] at h; exact h.elim
            · rw [if_pos c8] at h
              refine ev_iload dX10_chance_76 rfl ?_
              refine ev_iload dX10_chance_78 rfl ?_
              by_cases g7 : y5 ≠ 0
              · rw [if_pos g7] at h
                refine ev_idiv dX10_chance_80 g7 ?_
                refine ev_i2l dX10_chance_81 ?_
                refine ev_goto (tgt := 91) dX10_chance_82 (by decide) ?_
                exact ev_lret rfl dX10_chance_91 h
              · rw [if_neg g7] at h; exact h.elim
          · rw [if_pos c9] at h
            refine ev_ldc2 (v := (-2)) dX10_chance_68 (r64c rfl) kc_X10_342 ?_
            exact ev_lret rfl dX10_chance_71 h
        · rw [if_neg c10] at h
          refine ev_ldc2 (v := (-2)) dX10_chance_27 (r64c rfl) kc_X10_342 ?_
          exact ev_lret rfl dX10_chance_30 h
def FX10_chance (x1 : Int) (x2 : Int) (x3 : Int) (f : Mm) : Option (Int × Mm) := FX10_chance_0 x1 x2 x3 f
theorem TX10_chance {G : GT} {l : Launch} {Q : Option AV → Mem → Prop} (x1 : Int) (x2 : Int) (x3 : Int) (f : Mm) (h : OkJ Q (FX10_chance x1 x2 x3 f)) : Ret G l MX10_chance (6) 0 0 [vR 0, vI x1, vI x2, vI x3] (SH, RF, f) Q := by
  refine ret_of (L := [some (vR 0), some (vI x1), some (vI x2), some (vI x3), none, none, none]) (by decide) rfl (Nat.le_of_ble_eq_true rfl) ?_
  exact SX10_chance_0 x1 x2 x3 f h
theorem dX10_when_83 : decode cX10_when 83 = .ok (.iinc 4 1, 3) := by decide +kernel
theorem dX10_when_86 : decode cX10_when 86 = .ok (.goto (-59), 3) := by decide +kernel
theorem dX10_when_27 : decode cX10_when 27 = .ok (.iload 4, 2) := by decide +kernel
theorem dX10_when_29 : decode cX10_when 29 = .ok (.aload_n 0, 1) := by decide +kernel
theorem dX10_when_30 : decode cX10_when 30 = .ok (.getfield 19, 3) := by decide +kernel
theorem dX10_when_33 : decode cX10_when 33 = .ok (.getfield 144, 3) := by decide +kernel
theorem dX10_when_36 : decode cX10_when 36 = .ok (.if_icmp .ge 53, 3) := by decide +kernel
theorem dX10_when_89 : decode cX10_when 89 = .ok (.iload_n 2, 1) := by decide +kernel
theorem dX10_when_90 : decode cX10_when 90 = .ok (.ireturn, 1) := by decide +kernel
theorem dX10_when_39 : decode cX10_when 39 = .ok (.aload_n 0, 1) := by decide +kernel
theorem dX10_when_40 : decode cX10_when 40 = .ok (.getfield 19, 3) := by decide +kernel
theorem dX10_when_43 : decode cX10_when 43 = .ok (.aload_n 0, 1) := by decide +kernel
theorem dX10_when_44 : decode cX10_when 44 = .ok (.getfield 44, 3) := by decide +kernel
theorem dX10_when_47 : decode cX10_when 47 = .ok (.iload 4, 2) := by decide +kernel
theorem dX10_when_49 : decode cX10_when 49 = .ok (.iload_n 1, 1) := by decide +kernel
theorem dX10_when_50 : decode cX10_when 50 = .ok (.invokestatic 344, 3) := by decide +kernel
theorem dX10_when_53 : decode cX10_when 53 = .ok (.aload_n 0, 1) := by decide +kernel
theorem dX10_when_54 : decode cX10_when 54 = .ok (.getfield 19, 3) := by decide +kernel
theorem dX10_when_57 : decode cX10_when 57 = .ok (.getfield 144, 3) := by decide +kernel
theorem dX10_when_60 : decode cX10_when 60 = .ok (.iconst 1, 1) := by decide +kernel
theorem dX10_when_61 : decode cX10_when 61 = .ok (.isub, 1) := by decide +kernel
theorem dX10_when_62 : decode cX10_when 62 = .ok (.iload 4, 2) := by decide +kernel
theorem dX10_when_64 : decode cX10_when 64 = .ok (.isub, 1) := by decide +kernel
theorem dX10_when_65 : decode cX10_when 65 = .ok (.invokestatic 349, 3) := by decide +kernel
theorem dX10_when_68 : decode cX10_when 68 = .ok (.imul, 1) := by decide +kernel
theorem dX10_when_69 : decode cX10_when 69 = .ok (.istore 5, 2) := by decide +kernel
theorem dX10_when_71 : decode cX10_when 71 = .ok (.iload 5, 2) := by decide +kernel
theorem dX10_when_73 : decode cX10_when 73 = .ok (.iload_n 3, 1) := by decide +kernel
theorem dX10_when_74 : decode cX10_when 74 = .ok (.if_icmp .le 9, 3) := by decide +kernel
theorem dX10_when_77 : decode cX10_when 77 = .ok (.iload 5, 2) := by decide +kernel
theorem dX10_when_79 : decode cX10_when 79 = .ok (.istore_n 3, 1) := by decide +kernel
theorem dX10_when_80 : decode cX10_when 80 = .ok (.iload 4, 2) := by decide +kernel
theorem dX10_when_82 : decode cX10_when 82 = .ok (.istore_n 2, 1) := by decide +kernel
theorem dX10_when_0 : decode cX10_when 0 = .ok (.aload_n 0, 1) := by decide +kernel
theorem dX10_when_1 : decode cX10_when 1 = .ok (.getfield 19, 3) := by decide +kernel
theorem dX10_when_4 : decode cX10_when 4 = .ok (.invokevirtual 140, 3) := by decide +kernel
theorem dX10_when_7 : decode cX10_when 7 = .ok (.ifCond .eq 10, 3) := by decide +kernel
theorem dX10_when_17 : decode cX10_when 17 = .ok (.bipush (-2), 2) := by decide +kernel
theorem dX10_when_19 : decode cX10_when 19 = .ok (.ireturn, 1) := by decide +kernel
theorem dX10_when_10 : decode cX10_when 10 = .ok (.iload_n 1, 1) := by decide +kernel
theorem dX10_when_11 : decode cX10_when 11 = .ok (.invokestatic 251, 3) := by decide +kernel
theorem dX10_when_14 : decode cX10_when 14 = .ok (.ifCond .ne 6, 3) := by decide +kernel
theorem dX10_when_20 : decode cX10_when 20 = .ok (.iconst (-1), 1) := by decide +kernel
theorem dX10_when_21 : decode cX10_when 21 = .ok (.istore_n 2, 1) := by decide +kernel
theorem dX10_when_22 : decode cX10_when 22 = .ok (.iconst 0, 1) := by decide +kernel
theorem dX10_when_23 : decode cX10_when 23 = .ok (.istore_n 3, 1) := by decide +kernel
theorem dX10_when_24 : decode cX10_when 24 = .ok (.iconst 0, 1) := by decide +kernel
theorem dX10_when_25 : decode cX10_when 25 = .ok (.istore 4, 2) := by decide +kernel
def FX10_when_83 (k27 : Int → Int → Int → Int → Mm → Option (Int × Mm)) (x1 : Int) (x2 : Int) (x3 : Int) (x4 : Int) (f : Mm) : Option (Int × Mm) := k27 x1 x2 x3 (w32 (x4 + 1)) f
set_option maxHeartbeats 4000000 in
set_option maxRecDepth 100000 in
theorem SX10_when_83 {G : GT} {l : Launch} {Q : Option AV → Mem → Prop} {k27 : Int → Int → Int → Int → Mm → Option (Int × Mm)} (q27 : ∀ (x1 : Int) (x2 : Int) (x3 : Int) (x4 : Int) (f : Mm), OkI Q (k27 x1 x2 x3 x4 f) → Ev G l MX10_when (Rm 6 0 0) (ZM G Q 0 0) 0 0 27 [some (vR 0), some (vI x1), some (vI x2), some (vI x3), some (vI x4), none] [] (SH, RF, f)) (x1 : Int) (x2 : Int) (x3 : Int) (x4 : Int) (f : Mm) (h : OkI Q (FX10_when_83 k27 x1 x2 x3 x4 f)) : Ev G l MX10_when (Rm 6 0 0) (ZM G Q 0 0) 0 0 83 [some (vR 0), some (vI x1), some (vI x2), some (vI x3), some (vI x4), none] [] (SH, RF, f) := by
  unfold FX10_when_83 at h
  refine ev_iinc (L' := [some (vR 0), some (vI x1), some (vI x2), some (vI x3), some (vI (w32 (x4 + 1))), none]) dX10_when_83 rfl (by decide) rfl ?_
  refine ev_goto (tgt := 27) dX10_when_86 (by decide) ?_
  exact q27 x1 x2 x3 (w32 (x4 + 1)) _ h
def FX10_when_27  : Nat → Int → Int → Int → Int → Mm → Option (Int × Mm)
  | 0, _, _, _, _, _ => none
  | n + 1, x1, x2, x3, x4, f => (if (f 4 1) ≤ x4 then some (x2, f) else (b2 (FX8_weightOf_4_48 x4 x1 f) fun y1 f1 => (b2 (FX10_tenTo (w32 ((w32 ((f1 4 1) - 1)) - x4)) f1) fun y2 f2 => (if (w32 (y1 * y2)) ≤ x3 then FX10_when_83 (FX10_when_27 n) x1 x2 x3 x4 f2 else FX10_when_83 (FX10_when_27 n) x1 x4 (w32 (y1 * y2)) x4 f2))))
set_option maxHeartbeats 4000000 in
set_option maxRecDepth 100000 in
theorem SX10_when_27 {G : GT} {l : Launch} {Q : Option AV → Mem → Prop}  : ∀ (n : Nat) (x1 : Int) (x2 : Int) (x3 : Int) (x4 : Int) (f : Mm), OkI Q (FX10_when_27  n x1 x2 x3 x4 f) → Ev G l MX10_when (Rm 6 0 0) (ZM G Q 0 0) 0 0 27 [some (vR 0), some (vI x1), some (vI x2), some (vI x3), some (vI x4), none] [] (SH, RF, f) := by
  intro n
  induction n with
  | zero => intro x1 x2 x3 x4 f h; exact absurd h (by rw [FX10_when_27]; exact fun q => q)
  | succ n ih =>
    intro x1 x2 x3 x4 f h
    rw [FX10_when_27] at h
    refine ev_iload dX10_when_27 rfl ?_
    refine ev_aload_n (i := 0) dX10_when_29 rfl rfl ?_
    refine ev_getR dX10_when_30 fl_X10_19 sh_0 (by decide) (by decide) rf_0_1 ?_
    refine ex_getI (x := (f 4 1)) dX10_when_33 fl_X10_144 sh_4 (by decide) (by decide) rfl ?_
    refine ev_icmp_ge (tgt := 89) dX10_when_36 (by decide) (fun c4 => ?_) (fun c4 => ?_)
    · rw [if_pos c4] at h
      refine ev_iload_n (i := 2) dX10_when_89 rfl rfl ?_
      exact ev_iret rfl dX10_when_90 h
    · rw [if_neg c4] at h
      refine ev_aload_n (i := 0) dX10_when_39 rfl rfl ?_
      refine ev_getR dX10_when_40 fl_X10_19 sh_0 (by decide) (by decide) rf_0_1 ?_
      refine ev_aload_n (i := 0) dX10_when_43 rfl rfl ?_
      refine ev_getR dX10_when_44 fl_X10_44 sh_0 (by decide) (by decide) rf_0_6 ?_
      refine ev_iload dX10_when_47 rfl ?_
      refine ev_iload_n (i := 1) dX10_when_49 rfl rfl ?_
      refine ev_cSI (av := [vR 4, vR 48, vI x4, vI x1]) (S := []) (fun q => q) h dX10_when_50 (fun Q' q => TX8_weightOf_4_48 x4 x1 _ q) ksX8_weightOf ml_X10_344 rfl (RRc (by decide) (by decide)) (Nat.le_of_ble_eq_true rfl) ⟨Nat.le_of_ble_eq_true rfl, Nat.le_of_ble_eq_true rfl⟩ (fun y1 f1 h => ?_)
      refine ev_aload_n (i := 0) dX10_when_53 rfl rfl ?_
      refine ev_getR dX10_when_54 fl_X10_19 sh_0 (by decide) (by decide) rf_0_1 ?_
      refine ex_getI (x := (f1 4 1)) dX10_when_57 fl_X10_144 sh_4 (by decide) (by decide) rfl ?_
      refine ev_iconst dX10_when_60 (r32c rfl) ?_
      refine ev_isub dX10_when_61 ?_
      refine ev_iload dX10_when_62 rfl ?_
      refine ev_isub dX10_when_64 ?_
      refine ev_cSI (av := [vI (w32 ((w32 ((f1 4 1) - 1)) - x4))]) (S := [vI y1]) (fun q => q) h dX10_when_65 (fun Q' q => TX10_tenTo (w32 ((w32 ((f1 4 1) - 1)) - x4)) _ q) ksX10_tenTo ml_X10_349 rfl (RRc (by decide) (by decide)) (Nat.le_of_ble_eq_true rfl) ⟨Nat.le_of_ble_eq_true rfl, Nat.le_of_ble_eq_true rfl⟩ (fun y2 f2 h => ?_)
      refine ev_imul dX10_when_68 ?_
      refine ev_istore (L' := [some (vR 0), some (vI x1), some (vI x2), some (vI x3), some (vI x4), some (vI (w32 (y1 * y2)))]) dX10_when_69 (by decide) rfl ?_
      refine ev_iload dX10_when_71 rfl ?_
      refine ev_iload_n (i := 3) dX10_when_73 rfl rfl ?_
      refine ev_icmp_le (tgt := 83) dX10_when_74 (by decide) (fun c3 => ?_) (fun c3 => ?_)
      · rw [if_pos c3] at h
        refine ev_fg [true, true, true, true, true, false] rfl ?_
        exact SX10_when_83 ih x1 x2 x3 x4 _ h
      · rw [if_neg c3] at h
        refine ev_iload dX10_when_77 rfl ?_
        refine ev_istore_n (i := 3) (L' := [some (vR 0), some (vI x1), some (vI x2), some (vI (w32 (y1 * y2))), some (vI x4), some (vI (w32 (y1 * y2)))]) dX10_when_79 rfl (by decide) rfl ?_
        refine ev_iload dX10_when_80 rfl ?_
        refine ev_istore_n (i := 2) (L' := [some (vR 0), some (vI x1), some (vI x4), some (vI (w32 (y1 * y2))), some (vI x4), some (vI (w32 (y1 * y2)))]) dX10_when_82 rfl (by decide) rfl ?_
        refine ev_fg [true, true, true, true, true, false] rfl ?_
        exact SX10_when_83 ih x1 x4 (w32 (y1 * y2)) x4 _ h
def FX10_when_0  (x1 : Int) (f : Mm) : Option (Int × Mm) := (b2 (FX0_stands_4 f) fun y1 f1 => (if y1 = 0 then some ((-2), f1) else (b2 (FX10_isFeeling x1 f1) fun y2 f2 => (if y2 = 0 then some ((-2), f2) else FX10_when_27 fu x1 (-1) 0 0 f2))))
set_option maxHeartbeats 4000000 in
set_option maxRecDepth 100000 in
theorem SX10_when_0 {G : GT} {l : Launch} {Q : Option AV → Mem → Prop}  (x1 : Int) (f : Mm) (h : OkI Q (FX10_when_0  x1 f)) : Ev G l MX10_when (Rm 6 0 0) (ZM G Q 0 0) 0 0 0 [some (vR 0), some (vI x1), none, none, none, none] [] (SH, RF, f) := by
  unfold FX10_when_0 at h
  refine ev_aload_n (i := 0) dX10_when_0 rfl rfl ?_
  refine ev_getR dX10_when_1 fl_X10_19 sh_0 (by decide) (by decide) rf_0_1 ?_
  refine ev_cVI (b := 4) (av := []) (S := []) (fun q => q) h dX10_when_4 (fun Q' q => TX0_stands_4 _ q) kvX0_stands ml_X10_140 sh_4 rfl (RRc (by decide) (by decide)) (Nat.le_of_ble_eq_true rfl) ⟨Nat.le_of_ble_eq_true rfl, Nat.le_of_ble_eq_true rfl⟩ (fun y1 f1 h => ?_)
  refine ev_if_eq (tgt := 17) dX10_when_7 (by decide) (fun c4 => ?_) (fun c4 => ?_)
  · rw [if_pos c4] at h
    refine ev_bipush (v := (-2)) dX10_when_17 (r32c rfl) (by decide) ?_
    exact ev_iret rfl dX10_when_19 h
  · rw [if_neg c4] at h
    refine ev_iload_n (i := 1) dX10_when_10 rfl rfl ?_
    refine ev_cSI (av := [vI x1]) (S := []) (fun q => q) h dX10_when_11 (fun Q' q => TX10_isFeeling x1 _ q) ksX10_isFeeling ml_X10_251 rfl (RRc (by decide) (by decide)) (Nat.le_of_ble_eq_true rfl) ⟨Nat.le_of_ble_eq_true rfl, Nat.le_of_ble_eq_true rfl⟩ (fun y2 f2 h => ?_)
    refine ev_if_ne (tgt := 20) dX10_when_14 (by decide) (fun c3 => ?_) (fun c3 => ?_)
    · rw [if_neg c3] at h
      refine ev_iconst dX10_when_20 (r32c rfl) ?_
      refine ev_istore_n (i := 2) (L' := [some (vR 0), some (vI x1), some (vI (-1)), none, none, none]) dX10_when_21 rfl (by decide) rfl ?_
      refine ev_iconst dX10_when_22 (r32c rfl) ?_
      refine ev_istore_n (i := 3) (L' := [some (vR 0), some (vI x1), some (vI (-1)), some (vI 0), none, none]) dX10_when_23 rfl (by decide) rfl ?_
      refine ev_iconst dX10_when_24 (r32c rfl) ?_
      refine ev_istore (L' := [some (vR 0), some (vI x1), some (vI (-1)), some (vI 0), some (vI 0), none]) dX10_when_25 (by decide) rfl ?_
      exact SX10_when_27  fu x1 (-1) 0 0 _ h
    · rw [if_pos c3] at h
      refine ev_bipush (v := (-2)) dX10_when_17 (r32c rfl) (by decide) ?_
      exact ev_iret rfl dX10_when_19 h
def FX10_when (x1 : Int) (f : Mm) : Option (Int × Mm) := FX10_when_0 x1 f
theorem TX10_when {G : GT} {l : Launch} {Q : Option AV → Mem → Prop} (x1 : Int) (f : Mm) (h : OkI Q (FX10_when x1 f)) : Ret G l MX10_when (6) 0 0 [vR 0, vI x1] (SH, RF, f) Q := by
  refine ret_of (L := [some (vR 0), some (vI x1), none, none, none, none]) (by decide) rfl (Nat.le_of_ble_eq_true rfl) ?_
  exact SX10_when_0 x1 f h
theorem dX10_isSeed_0 : decode cX10_isSeed 0 = .ok (.iload_n 0, 1) := by decide +kernel
theorem dX10_isSeed_1 : decode cX10_isSeed 1 = .ok (.ifCond .lt 14, 3) := by decide +kernel
theorem dX10_isSeed_15 : decode cX10_isSeed 15 = .ok (.iconst 0, 1) := by decide +kernel
theorem dX10_isSeed_16 : decode cX10_isSeed 16 = .ok (.ireturn, 1) := by decide +kernel
theorem dX10_isSeed_4 : decode cX10_isSeed 4 = .ok (.iload_n 0, 1) := by decide +kernel
theorem dX10_isSeed_5 : decode cX10_isSeed 5 = .ok (.ldc_w 446, 3) := by decide +kernel
theorem dX10_isSeed_8 : decode cX10_isSeed 8 = .ok (.if_icmp .gt 7, 3) := by decide +kernel
theorem dX10_isSeed_11 : decode cX10_isSeed 11 = .ok (.iconst 1, 1) := by decide +kernel
theorem dX10_isSeed_12 : decode cX10_isSeed 12 = .ok (.goto 4, 3) := by decide +kernel
def FX10_isSeed_0  (x0 : Int) (f : Mm) : Option (Int × Mm) := (if x0 < 0 then some (0, f) else (if 2000000000 < x0 then some (0, f) else some (1, f)))
set_option maxHeartbeats 4000000 in
set_option maxRecDepth 100000 in
theorem SX10_isSeed_0 {G : GT} {l : Launch} {Q : Option AV → Mem → Prop}  (x0 : Int) (f : Mm) (h : OkI Q (FX10_isSeed_0  x0 f)) : Ev G l MX10_isSeed (Rm 1 0 0) (ZM G Q 0 0) 0 0 0 [some (vI x0)] [] (SH, RF, f) := by
  unfold FX10_isSeed_0 at h
  refine ev_iload_n (i := 0) dX10_isSeed_0 rfl rfl ?_
  refine ev_if_lt (tgt := 15) dX10_isSeed_1 (by decide) (fun c2 => ?_) (fun c2 => ?_)
  · rw [if_pos c2] at h
    refine ev_iconst dX10_isSeed_15 (r32c rfl) ?_
    exact ev_zret rfl (by decide) dX10_isSeed_16 h
  · rw [if_neg c2] at h
    refine ev_iload_n (i := 0) dX10_isSeed_4 rfl rfl ?_
    refine ev_ldcw (v := 2000000000) dX10_isSeed_5 (r32c rfl) kc_X10_446 ?_
    refine ev_icmp_gt (tgt := 15) dX10_isSeed_8 (by decide) (fun c1 => ?_) (fun c1 => ?_)
    · rw [if_pos c1] at h
      refine ev_iconst dX10_isSeed_15 (r32c rfl) ?_
      exact ev_zret rfl (by decide) dX10_isSeed_16 h
    · rw [if_neg c1] at h
      refine ev_iconst dX10_isSeed_11 (r32c rfl) ?_
      refine ev_goto (tgt := 16) dX10_isSeed_12 (by decide) ?_
      exact ev_zret rfl (by decide) dX10_isSeed_16 h
def FX10_isSeed (x0 : Int) (f : Mm) : Option (Int × Mm) := FX10_isSeed_0 x0 f
theorem TX10_isSeed {G : GT} {l : Launch} {Q : Option AV → Mem → Prop} (x0 : Int) (f : Mm) (h : OkI Q (FX10_isSeed x0 f)) : Ret G l MX10_isSeed (1) 0 0 [vI x0] (SH, RF, f) Q := by
  refine ret_of (L := [some (vI x0)]) (by decide) rfl (Nat.le_of_ble_eq_true rfl) ?_
  exact SX10_isSeed_0 x0 f h
theorem dX8_drawDays_74 : decode cX8_drawDays 74 = .ok (.aload_n 1, 1) := by decide +kernel
theorem dX8_drawDays_75 : decode cX8_drawDays 75 = .ok (.aload_n 0, 1) := by decide +kernel
theorem dX8_drawDays_76 : decode cX8_drawDays 76 = .ok (.invokevirtual 55, 3) := by decide +kernel
theorem dX8_drawDays_79 : decode cX8_drawDays 79 = .ok (.return_, 1) := by decide +kernel
theorem dX8_drawDays_68 : decode cX8_drawDays 68 = .ok (.iinc 6 1, 3) := by decide +kernel
theorem dX8_drawDays_71 : decode cX8_drawDays 71 = .ok (.goto (-60), 3) := by decide +kernel
theorem dX8_drawDays_11 : decode cX8_drawDays 11 = .ok (.iload 6, 2) := by decide +kernel
theorem dX8_drawDays_13 : decode cX8_drawDays 13 = .ok (.aload_n 0, 1) := by decide +kernel
theorem dX8_drawDays_14 : decode cX8_drawDays 14 = .ok (.getfield 42, 3) := by decide +kernel
theorem dX8_drawDays_17 : decode cX8_drawDays 17 = .ok (.if_icmp .ge 57, 3) := by decide +kernel
theorem dX8_drawDays_20 : decode cX8_drawDays 20 = .ok (.ldc2_w 45, 3) := by decide +kernel
theorem dX8_drawDays_23 : decode cX8_drawDays 23 = .ok (.lload 4, 2) := by decide +kernel
theorem dX8_drawDays_25 : decode cX8_drawDays 25 = .ok (.lmul, 1) := by decide +kernel
theorem dX8_drawDays_26 : decode cX8_drawDays 26 = .ok (.ldc2_w 47, 3) := by decide +kernel
theorem dX8_drawDays_29 : decode cX8_drawDays 29 = .ok (.ladd, 1) := by decide +kernel
theorem dX8_drawDays_30 : decode cX8_drawDays 30 = .ok (.ldc2_w 49, 3) := by decide +kernel
theorem dX8_drawDays_33 : decode cX8_drawDays 33 = .ok (.lrem, 1) := by decide +kernel
theorem dX8_drawDays_34 : decode cX8_drawDays 34 = .ok (.lstore 4, 2) := by decide +kernel
theorem dX8_drawDays_36 : decode cX8_drawDays 36 = .ok (.lload 4, 2) := by decide +kernel
theorem dX8_drawDays_38 : decode cX8_drawDays 38 = .ok (.ldc2_w 51, 3) := by decide +kernel
theorem dX8_drawDays_41 : decode cX8_drawDays 41 = .ok (.ldiv, 1) := by decide +kernel
theorem dX8_drawDays_42 : decode cX8_drawDays 42 = .ok (.ldc2_w 53, 3) := by decide +kernel
theorem dX8_drawDays_45 : decode cX8_drawDays 45 = .ok (.lrem, 1) := by decide +kernel
theorem dX8_drawDays_46 : decode cX8_drawDays 46 = .ok (.aload_n 0, 1) := by decide +kernel
theorem dX8_drawDays_47 : decode cX8_drawDays 47 = .ok (.getfield 37, 3) := by decide +kernel
theorem dX8_drawDays_50 : decode cX8_drawDays 50 = .ok (.i2l, 1) := by decide +kernel
theorem dX8_drawDays_51 : decode cX8_drawDays 51 = .ok (.lcmp, 1) := by decide +kernel
theorem dX8_drawDays_52 : decode cX8_drawDays 52 = .ok (.ifCond .ge 16, 3) := by decide +kernel
theorem dX8_drawDays_55 : decode cX8_drawDays 55 = .ok (.aload_n 1, 1) := by decide +kernel
theorem dX8_drawDays_56 : decode cX8_drawDays 56 = .ok (.dup, 1) := by decide +kernel
theorem dX8_drawDays_57 : decode cX8_drawDays 57 = .ok (.getfield 15, 3) := by decide +kernel
theorem dX8_drawDays_60 : decode cX8_drawDays 60 = .ok (.iconst 1, 1) := by decide +kernel
theorem dX8_drawDays_61 : decode cX8_drawDays 61 = .ok (.iload 6, 2) := by decide +kernel
theorem dX8_drawDays_63 : decode cX8_drawDays 63 = .ok (.ishl, 1) := by decide +kernel
theorem dX8_drawDays_64 : decode cX8_drawDays 64 = .ok (.ior, 1) := by decide +kernel
theorem dX8_drawDays_65 : decode cX8_drawDays 65 = .ok (.putfield 15, 3) := by decide +kernel
theorem dX8_drawDays_0 : decode cX8_drawDays 0 = .ok (.aload_n 1, 1) := by decide +kernel
theorem dX8_drawDays_1 : decode cX8_drawDays 1 = .ok (.aload_n 0, 1) := by decide +kernel
theorem dX8_drawDays_2 : decode cX8_drawDays 2 = .ok (.invokevirtual 9, 3) := by decide +kernel
theorem dX8_drawDays_5 : decode cX8_drawDays 5 = .ok (.lload_n 2, 1) := by decide +kernel
theorem dX8_drawDays_6 : decode cX8_drawDays 6 = .ok (.lstore 4, 2) := by decide +kernel
theorem dX8_drawDays_8 : decode cX8_drawDays 8 = .ok (.iconst 0, 1) := by decide +kernel
theorem dX8_drawDays_9 : decode cX8_drawDays 9 = .ok (.istore 6, 2) := by decide +kernel
def FX8_drawDays_4_48_74   (f : Mm) : Option Mm := ((FX1_walk_48_4 f).bind fun f1 => some f1)
set_option maxHeartbeats 4000000 in
set_option maxRecDepth 100000 in
theorem SX8_drawDays_4_48_74 {G : GT} {l : Launch} {Q : Option AV → Mem → Prop}   (f : Mm) (h : OkV Q (FX8_drawDays_4_48_74   f)) : Ev G l MX8_drawDays (Rm 5 0 0) (ZM G Q 0 0) 0 0 74 [some (vR 4), some (vR 48), none, none, none, none, none] [] (SH, RF, f) := by
  unfold FX8_drawDays_4_48_74 at h
  refine ev_aload_n (i := 1) dX8_drawDays_74 rfl rfl ?_
  refine ev_aload_n (i := 0) dX8_drawDays_75 rfl rfl ?_
  refine ev_cVV (b := 48) (av := [vR 4]) (S := []) (fun q => q) h dX8_drawDays_76 (fun Q' q => TX1_walk_48_4 _ q) kvX1_walk ml_X8_55 sh_48 rfl (RRc (by decide) (by decide)) (Nat.le_of_ble_eq_true rfl) ⟨Nat.le_of_ble_eq_true rfl, Nat.le_of_ble_eq_true rfl⟩ (fun f1 h => ?_)
  exact ev_vret rfl dX8_drawDays_79 h
def FX8_drawDays_4_48_68 (k11 : Int → Int → Mm → Option Mm) (x4 : Int) (x6 : Int) (f : Mm) : Option Mm := k11 x4 (w32 (x6 + 1)) f
set_option maxHeartbeats 4000000 in
set_option maxRecDepth 100000 in
theorem SX8_drawDays_4_48_68 {G : GT} {l : Launch} {Q : Option AV → Mem → Prop} {k11 : Int → Int → Mm → Option Mm} (q11 : ∀ (x4 : Int) (x6 : Int) (f : Mm), OkV Q (k11 x4 x6 f) → Ev G l MX8_drawDays (Rm 5 0 0) (ZM G Q 0 0) 0 0 11 [some (vR 4), some (vR 48), none, none, some (vJ x4), none, some (vI x6)] [] (SH, RF, f)) (x4 : Int) (x6 : Int) (f : Mm) (h : OkV Q (FX8_drawDays_4_48_68 k11 x4 x6 f)) : Ev G l MX8_drawDays (Rm 5 0 0) (ZM G Q 0 0) 0 0 68 [some (vR 4), some (vR 48), none, none, some (vJ x4), none, some (vI x6)] [] (SH, RF, f) := by
  unfold FX8_drawDays_4_48_68 at h
  refine ev_iinc (L' := [some (vR 4), some (vR 48), none, none, some (vJ x4), none, some (vI (w32 (x6 + 1)))]) dX8_drawDays_68 rfl (by decide) rfl ?_
  refine ev_goto (tgt := 11) dX8_drawDays_71 (by decide) ?_
  exact q11 x4 (w32 (x6 + 1)) _ h
def FX8_drawDays_4_48_11  : Nat → Int → Int → Mm → Option Mm
  | 0, _, _, _ => none
  | n + 1, x4, x6, f => (if (f 4 1) ≤ x6 then FX8_drawDays_4_48_74 f else (if 0 ≤ (cmp3 (lRem (lDiv (lRem (w64 ((w64 (1103515245 * x4)) + 12345)) 2147483648) 65536) 10) (f 4 3)) then FX8_drawDays_4_48_68 (FX8_drawDays_4_48_11 n) (lRem (w64 ((w64 (1103515245 * x4)) + 12345)) 2147483648) x6 f else FX8_drawDays_4_48_68 (FX8_drawDays_4_48_11 n) (lRem (w64 ((w64 (1103515245 * x4)) + 12345)) 2147483648) x6 (up f 48 5 (bOr (f 48 5) (bShl 1 x6)))))
set_option maxHeartbeats 4000000 in
set_option maxRecDepth 100000 in
theorem SX8_drawDays_4_48_11 {G : GT} {l : Launch} {Q : Option AV → Mem → Prop}  : ∀ (n : Nat) (x4 : Int) (x6 : Int) (f : Mm), OkV Q (FX8_drawDays_4_48_11  n x4 x6 f) → Ev G l MX8_drawDays (Rm 5 0 0) (ZM G Q 0 0) 0 0 11 [some (vR 4), some (vR 48), none, none, some (vJ x4), none, some (vI x6)] [] (SH, RF, f) := by
  intro n
  induction n with
  | zero => intro x4 x6 f h; exact absurd h (by rw [FX8_drawDays_4_48_11]; exact fun q => q)
  | succ n ih =>
    intro x4 x6 f h
    rw [FX8_drawDays_4_48_11] at h
    refine ev_iload dX8_drawDays_11 rfl ?_
    refine ev_aload_n (i := 0) dX8_drawDays_13 rfl rfl ?_
    refine ex_getI (x := (f 4 1)) dX8_drawDays_14 fl_X8_42 sh_4 (by decide) (by decide) rfl ?_
    refine ev_icmp_ge (tgt := 74) dX8_drawDays_17 (by decide) (fun c2 => ?_) (fun c2 => ?_)
    · rw [if_pos c2] at h
      refine ev_fg [true, true, true, true, false, true, false] rfl ?_
      exact SX8_drawDays_4_48_74   _ h
    · rw [if_neg c2] at h
      refine ev_ldc2 (v := 1103515245) dX8_drawDays_20 (r64c rfl) kc_X8_45 ?_
      refine ev_lload dX8_drawDays_23 rfl ?_
      refine ev_lmul dX8_drawDays_25 ?_
      refine ev_ldc2 (v := 12345) dX8_drawDays_26 (r64c rfl) kc_X8_47 ?_
      refine ev_ladd dX8_drawDays_29 ?_
      refine ev_ldc2 (v := 2147483648) dX8_drawDays_30 (r64c rfl) kc_X8_49 ?_
      refine ev_lrem dX8_drawDays_33 (by decide) ?_
      refine ev_lstore (L' := [some (vR 4), some (vR 48), none, none, some (vJ (lRem (w64 ((w64 (1103515245 * x4)) + 12345)) 2147483648)), none, some (vI x6)]) dX8_drawDays_34 (by decide) rfl ?_
      refine ev_lload dX8_drawDays_36 rfl ?_
      refine ev_ldc2 (v := 65536) dX8_drawDays_38 (r64c rfl) kc_X8_51 ?_
      refine ev_ldiv dX8_drawDays_41 (by decide) ?_
      refine ev_ldc2 (v := 10) dX8_drawDays_42 (r64c rfl) kc_X8_53 ?_
      refine ev_lrem dX8_drawDays_45 (by decide) ?_
      refine ev_aload_n (i := 0) dX8_drawDays_46 rfl rfl ?_
      refine ex_getI (x := (f 4 3)) dX8_drawDays_47 fl_X8_37 sh_4 (by decide) (by decide) rfl ?_
      refine ev_i2l dX8_drawDays_50 ?_
      refine ev_lcmp dX8_drawDays_51 ?_
      refine ev_if_ge (tgt := 68) dX8_drawDays_52 (by decide) (fun c1 => ?_) (fun c1 => ?_)
      · rw [if_pos c1] at h
        exact SX8_drawDays_4_48_68 ih (lRem (w64 ((w64 (1103515245 * x4)) + 12345)) 2147483648) x6 _ h
      · rw [if_neg c1] at h
        refine ev_aload_n (i := 1) dX8_drawDays_55 rfl rfl ?_
        refine ev_dupR dX8_drawDays_56 ?_
        refine ex_getI (x := (f 48 5)) dX8_drawDays_57 fl_X8_15 sh_48 (by decide) (by decide) rfl ?_
        refine ev_iconst dX8_drawDays_60 (r32c rfl) ?_
        refine ev_iload dX8_drawDays_61 rfl ?_
        refine ev_ishl dX8_drawDays_63 ?_
        refine ev_ior dX8_drawDays_64 ?_
        refine ev_putI dX8_drawDays_65 fl_X8_15 sh_48 (by decide) (by decide) ?_
        exact SX8_drawDays_4_48_68 ih (lRem (w64 ((w64 (1103515245 * x4)) + 12345)) 2147483648) x6 _ h
def FX8_drawDays_4_48_0  (x2 : Int) (f : Mm) : Option Mm := ((FX1_asDone_48_4 f).bind fun f1 => FX8_drawDays_4_48_11 fu x2 0 f1)
set_option maxHeartbeats 4000000 in
set_option maxRecDepth 100000 in
theorem SX8_drawDays_4_48_0 {G : GT} {l : Launch} {Q : Option AV → Mem → Prop}  (x2 : Int) (f : Mm) (h : OkV Q (FX8_drawDays_4_48_0  x2 f)) : Ev G l MX8_drawDays (Rm 5 0 0) (ZM G Q 0 0) 0 0 0 [some (vR 4), some (vR 48), some (vJ x2), none, none, none, none] [] (SH, RF, f) := by
  unfold FX8_drawDays_4_48_0 at h
  refine ev_aload_n (i := 1) dX8_drawDays_0 rfl rfl ?_
  refine ev_aload_n (i := 0) dX8_drawDays_1 rfl rfl ?_
  refine ev_cVV (b := 48) (av := [vR 4]) (S := []) (fun q => q) h dX8_drawDays_2 (fun Q' q => TX1_asDone_48_4 _ q) kvX1_asDone ml_X8_9 sh_48 rfl (RRc (by decide) (by decide)) (Nat.le_of_ble_eq_true rfl) ⟨Nat.le_of_ble_eq_true rfl, Nat.le_of_ble_eq_true rfl⟩ (fun f1 h => ?_)
  refine ev_lload_n (i := 2) dX8_drawDays_5 rfl rfl ?_
  refine ev_lstore (L' := [some (vR 4), some (vR 48), some (vJ x2), none, some (vJ x2), none, none]) dX8_drawDays_6 (by decide) rfl ?_
  refine ev_iconst dX8_drawDays_8 (r32c rfl) ?_
  refine ev_istore (L' := [some (vR 4), some (vR 48), some (vJ x2), none, some (vJ x2), none, some (vI 0)]) dX8_drawDays_9 (by decide) rfl ?_
  refine ev_fg [true, true, false, true, true, true, true] rfl ?_
  exact SX8_drawDays_4_48_11  fu x2 0 _ h
def FX8_drawDays_4_48 (x2 : Int) (f : Mm) : Option Mm := FX8_drawDays_4_48_0 x2 f
theorem TX8_drawDays_4_48 {G : GT} {l : Launch} {Q : Option AV → Mem → Prop} (x2 : Int) (f : Mm) (h : OkV Q (FX8_drawDays_4_48 x2 f)) : Ret G l MX8_drawDays (5) 0 0 [vR 4, vR 48, vJ x2] (SH, RF, f) Q := by
  refine ret_of (L := [some (vR 4), some (vR 48), some (vJ x2), none, none, none, none]) (by decide) rfl (Nat.le_of_ble_eq_true rfl) ?_
  exact SX8_drawDays_4_48_0 x2 f h
theorem dX10_drawn_0 : decode cX10_drawn 0 = .ok (.aload_n 0, 1) := by decide +kernel
theorem dX10_drawn_1 : decode cX10_drawn 1 = .ok (.getfield 19, 3) := by decide +kernel
theorem dX10_drawn_4 : decode cX10_drawn 4 = .ok (.invokevirtual 140, 3) := by decide +kernel
theorem dX10_drawn_7 : decode cX10_drawn 7 = .ok (.ifCond .eq 19, 3) := by decide +kernel
theorem dX10_drawn_26 : decode cX10_drawn 26 = .ok (.bipush (-2), 2) := by decide +kernel
theorem dX10_drawn_28 : decode cX10_drawn 28 = .ok (.ireturn, 1) := by decide +kernel
theorem dX10_drawn_10 : decode cX10_drawn 10 = .ok (.iload_n 1, 1) := by decide +kernel
theorem dX10_drawn_11 : decode cX10_drawn 11 = .ok (.invokestatic 355, 3) := by decide +kernel
theorem dX10_drawn_14 : decode cX10_drawn 14 = .ok (.ifCond .eq 12, 3) := by decide +kernel
theorem dX10_drawn_17 : decode cX10_drawn 17 = .ok (.iload_n 2, 1) := by decide +kernel
theorem dX10_drawn_18 : decode cX10_drawn 18 = .ok (.ifCond .lt 8, 3) := by decide +kernel
theorem dX10_drawn_21 : decode cX10_drawn 21 = .ok (.iload_n 2, 1) := by decide +kernel
theorem dX10_drawn_22 : decode cX10_drawn 22 = .ok (.iconst 2, 1) := by decide +kernel
theorem dX10_drawn_23 : decode cX10_drawn 23 = .ok (.if_icmp .le 6, 3) := by decide +kernel
theorem dX10_drawn_29 : decode cX10_drawn 29 = .ok (.aload_n 0, 1) := by decide +kernel
theorem dX10_drawn_30 : decode cX10_drawn 30 = .ok (.getfield 19, 3) := by decide +kernel
theorem dX10_drawn_33 : decode cX10_drawn 33 = .ok (.aload_n 0, 1) := by decide +kernel
theorem dX10_drawn_34 : decode cX10_drawn 34 = .ok (.getfield 44, 3) := by decide +kernel
theorem dX10_drawn_37 : decode cX10_drawn 37 = .ok (.iload_n 1, 1) := by decide +kernel
theorem dX10_drawn_38 : decode cX10_drawn 38 = .ok (.i2l, 1) := by decide +kernel
theorem dX10_drawn_39 : decode cX10_drawn 39 = .ok (.invokestatic 358, 3) := by decide +kernel
theorem dX10_drawn_42 : decode cX10_drawn 42 = .ok (.iload_n 2, 1) := by decide +kernel
theorem dX10_drawn_43 : decode cX10_drawn 43 = .ok (.ifCond .ne 11, 3) := by decide +kernel
theorem dX10_drawn_54 : decode cX10_drawn 54 = .ok (.iload_n 2, 1) := by decide +kernel
theorem dX10_drawn_55 : decode cX10_drawn 55 = .ok (.iconst 1, 1) := by decide +kernel
theorem dX10_drawn_56 : decode cX10_drawn 56 = .ok (.if_icmp .ne 22, 3) := by decide +kernel
theorem dX10_drawn_78 : decode cX10_drawn 78 = .ok (.aload_n 0, 1) := by decide +kernel
theorem dX10_drawn_79 : decode cX10_drawn 79 = .ok (.getfield 44, 3) := by decide +kernel
theorem dX10_drawn_82 : decode cX10_drawn 82 = .ok (.aload_n 0, 1) := by decide +kernel
theorem dX10_drawn_83 : decode cX10_drawn 83 = .ok (.getfield 19, 3) := by decide +kernel
theorem dX10_drawn_86 : decode cX10_drawn 86 = .ok (.invokevirtual 172, 3) := by decide +kernel
theorem dX10_drawn_89 : decode cX10_drawn 89 = .ok (.ireturn, 1) := by decide +kernel
theorem dX10_drawn_59 : decode cX10_drawn 59 = .ok (.aload_n 0, 1) := by decide +kernel
theorem dX10_drawn_60 : decode cX10_drawn 60 = .ok (.getfield 44, 3) := by decide +kernel
theorem dX10_drawn_63 : decode cX10_drawn 63 = .ok (.aload_n 0, 1) := by decide +kernel
theorem dX10_drawn_64 : decode cX10_drawn 64 = .ok (.getfield 19, 3) := by decide +kernel
theorem dX10_drawn_67 : decode cX10_drawn 67 = .ok (.getfield 144, 3) := by decide +kernel
theorem dX10_drawn_70 : decode cX10_drawn 70 = .ok (.iconst 1, 1) := by decide +kernel
theorem dX10_drawn_71 : decode cX10_drawn 71 = .ok (.isub, 1) := by decide +kernel
theorem dX10_drawn_72 : decode cX10_drawn 72 = .ok (.invokevirtual 136, 3) := by decide +kernel
theorem dX10_drawn_75 : decode cX10_drawn 75 = .ok (.goto 14, 3) := by decide +kernel
theorem dX10_drawn_46 : decode cX10_drawn 46 = .ok (.aload_n 0, 1) := by decide +kernel
theorem dX10_drawn_47 : decode cX10_drawn 47 = .ok (.getfield 44, 3) := by decide +kernel
theorem dX10_drawn_50 : decode cX10_drawn 50 = .ok (.getfield 362, 3) := by decide +kernel
theorem dX10_drawn_53 : decode cX10_drawn 53 = .ok (.ireturn, 1) := by decide +kernel
def FX10_drawn_0  (x1 : Int) (x2 : Int) (f : Mm) : Option (Int × Mm) := (b2 (FX0_stands_4 f) fun y1 f1 => (if y1 = 0 then some ((-2), f1) else (b2 (FX10_isSeed x1 f1) fun y2 f2 => (if y2 = 0 then some ((-2), f2) else (if x2 < 0 then some ((-2), f2) else (if x2 ≤ 2 then ((FX8_drawDays_4_48 x1 f2).bind fun f3 => (if x2 = 0 then some ((f3 48 5), f3) else (if x2 = 1 then (b2 (FX1_widthOn (w32 ((f3 4 1) - 1)) f3) fun y5 f5 => some (y5, f5)) else (b2 (FX1_passedBits_48_4 f3) fun y4 f4 => some (y4, f4))))) else some ((-2), f2)))))))
set_option maxHeartbeats 4000000 in
set_option maxRecDepth 100000 in
theorem SX10_drawn_0 {G : GT} {l : Launch} {Q : Option AV → Mem → Prop}  (x1 : Int) (x2 : Int) (f : Mm) (h : OkI Q (FX10_drawn_0  x1 x2 f)) : Ev G l MX10_drawn (Rm 6 0 0) (ZM G Q 0 0) 0 0 0 [some (vR 0), some (vI x1), some (vI x2)] [] (SH, RF, f) := by
  unfold FX10_drawn_0 at h
  refine ev_aload_n (i := 0) dX10_drawn_0 rfl rfl ?_
  refine ev_getR dX10_drawn_1 fl_X10_19 sh_0 (by decide) (by decide) rf_0_1 ?_
  refine ev_cVI (b := 4) (av := []) (S := []) (fun q => q) h dX10_drawn_4 (fun Q' q => TX0_stands_4 _ q) kvX0_stands ml_X10_140 sh_4 rfl (RRc (by decide) (by decide)) (Nat.le_of_ble_eq_true rfl) ⟨Nat.le_of_ble_eq_true rfl, Nat.le_of_ble_eq_true rfl⟩ (fun y1 f1 h => ?_)
  refine ev_if_eq (tgt := 26) dX10_drawn_7 (by decide) (fun c11 => ?_) (fun c11 => ?_)
  · rw [if_pos c11] at h
    refine ev_bipush (v := (-2)) dX10_drawn_26 (r32c rfl) (by decide) ?_
    exact ev_iret rfl dX10_drawn_28 h
  · rw [if_neg c11] at h
    refine ev_iload_n (i := 1) dX10_drawn_10 rfl rfl ?_
    refine ev_cSI (av := [vI x1]) (S := []) (fun q => q) h dX10_drawn_11 (fun Q' q => TX10_isSeed x1 _ q) ksX10_isSeed ml_X10_355 rfl (RRc (by decide) (by decide)) (Nat.le_of_ble_eq_true rfl) ⟨Nat.le_of_ble_eq_true rfl, Nat.le_of_ble_eq_true rfl⟩ (fun y2 f2 h => ?_)
    refine ev_if_eq (tgt := 26) dX10_drawn_14 (by decide) (fun c10 => ?_) (fun c10 => ?_)
    · rw [if_pos c10] at h
      refine ev_bipush (v := (-2)) dX10_drawn_26 (r32c rfl) (by decide) ?_
      exact ev_iret rfl dX10_drawn_28 h
    · rw [if_neg c10] at h
      refine ev_iload_n (i := 2) dX10_drawn_17 rfl rfl ?_
      refine ev_if_lt (tgt := 26) dX10_drawn_18 (by decide) (fun c9 => ?_) (fun c9 => ?_)
      · rw [if_pos c9] at h
        refine ev_bipush (v := (-2)) dX10_drawn_26 (r32c rfl) (by decide) ?_
        exact ev_iret rfl dX10_drawn_28 h
      · rw [if_neg c9] at h
        refine ev_iload_n (i := 2) dX10_drawn_21 rfl rfl ?_
        refine ev_iconst dX10_drawn_22 (r32c rfl) ?_
        refine ev_icmp_le (tgt := 29) dX10_drawn_23 (by decide) (fun c8 => ?_) (fun c8 => ?_)
        · rw [if_pos c8] at h
          refine ev_aload_n (i := 0) dX10_drawn_29 rfl rfl ?_
          refine ev_getR dX10_drawn_30 fl_X10_19 sh_0 (by decide) (by decide) rf_0_1 ?_
          refine ev_aload_n (i := 0) dX10_drawn_33 rfl rfl ?_
          refine ev_getR dX10_drawn_34 fl_X10_44 sh_0 (by decide) (by decide) rf_0_6 ?_
          refine ev_iload_n (i := 1) dX10_drawn_37 rfl rfl ?_
          refine ev_i2l dX10_drawn_38 ?_
          refine ev_cSV (av := [vR 4, vR 48, vJ x1]) (S := []) (fun q => q) h dX10_drawn_39 (fun Q' q => TX8_drawDays_4_48 x1 _ q) ksX8_drawDays ml_X10_358 rfl (RRc (by decide) (by decide)) (Nat.le_of_ble_eq_true rfl) ⟨Nat.le_of_ble_eq_true rfl, Nat.le_of_ble_eq_true rfl⟩ (fun f3 h => ?_)
          refine ev_iload_n (i := 2) dX10_drawn_42 rfl rfl ?_
          refine ev_if_ne (tgt := 54) dX10_drawn_43 (by decide) (fun c7 => ?_) (fun c7 => ?_)
          · rw [if_neg c7] at h
            refine ev_iload_n (i := 2) dX10_drawn_54 rfl rfl ?_
            refine ev_iconst dX10_drawn_55 (r32c rfl) ?_
            refine ev_icmp_ne (tgt := 78) dX10_drawn_56 (by decide) (fun c6 => ?_) (fun c6 => ?_)
            · rw [if_neg c6] at h
              refine ev_aload_n (i := 0) dX10_drawn_78 rfl rfl ?_
              refine ev_getR dX10_drawn_79 fl_X10_44 sh_0 (by decide) (by decide) rf_0_6 ?_
              refine ev_aload_n (i := 0) dX10_drawn_82 rfl rfl ?_
              refine ev_getR dX10_drawn_83 fl_X10_19 sh_0 (by decide) (by decide) rf_0_1 ?_
              refine ev_cVI (b := 48) (av := [vR 4]) (S := []) (fun q => q) h dX10_drawn_86 (fun Q' q => TX1_passedBits_48_4 _ q) kvX1_passedBits ml_X10_172 sh_48 rfl (RRc (by decide) (by decide)) (Nat.le_of_ble_eq_true rfl) ⟨Nat.le_of_ble_eq_true rfl, Nat.le_of_ble_eq_true rfl⟩ (fun y4 f4 h => ?_)
              exact ev_iret rfl dX10_drawn_89 h
            · rw [if_pos c6] at h
              refine ev_aload_n (i := 0) dX10_drawn_59 rfl rfl ?_
              refine ev_getR dX10_drawn_60 fl_X10_44 sh_0 (by decide) (by decide) rf_0_6 ?_
              refine ev_aload_n (i := 0) dX10_drawn_63 rfl rfl ?_
              refine ev_getR dX10_drawn_64 fl_X10_19 sh_0 (by decide) (by decide) rf_0_1 ?_
              refine ex_getI (x := (f3 4 1)) dX10_drawn_67 fl_X10_144 sh_4 (by decide) (by decide) rfl ?_
              refine ev_iconst dX10_drawn_70 (r32c rfl) ?_
              refine ev_isub dX10_drawn_71 ?_
              refine ev_cVI (b := 48) (av := [vI (w32 ((f3 4 1) - 1))]) (S := []) (fun q => q) h dX10_drawn_72 (fun Q' q => TX1_widthOn (w32 ((f3 4 1) - 1)) _ q) kvX1_widthOn ml_X10_136 sh_48 rfl (RRc (by decide) (by decide)) (Nat.le_of_ble_eq_true rfl) ⟨Nat.le_of_ble_eq_true rfl, Nat.le_of_ble_eq_true rfl⟩ (fun y5 f5 h => ?_)
              refine ev_goto (tgt := 89) dX10_drawn_75 (by decide) ?_
              exact ev_iret rfl dX10_drawn_89 h
          · rw [if_pos c7] at h
            refine ev_aload_n (i := 0) dX10_drawn_46 rfl rfl ?_
            refine ev_getR dX10_drawn_47 fl_X10_44 sh_0 (by decide) (by decide) rf_0_6 ?_
            refine ex_getI (x := (f3 48 5)) dX10_drawn_50 fl_X10_362 sh_48 (by decide) (by decide) rfl ?_
            exact ev_iret rfl dX10_drawn_53 h
        · rw [if_neg c8] at h
          refine ev_bipush (v := (-2)) dX10_drawn_26 (r32c rfl) (by decide) ?_
          exact ev_iret rfl dX10_drawn_28 h
def FX10_drawn (x1 : Int) (x2 : Int) (f : Mm) : Option (Int × Mm) := FX10_drawn_0 x1 x2 f
theorem TX10_drawn {G : GT} {l : Launch} {Q : Option AV → Mem → Prop} (x1 : Int) (x2 : Int) (f : Mm) (h : OkI Q (FX10_drawn x1 x2 f)) : Ret G l MX10_drawn (6) 0 0 [vR 0, vI x1, vI x2] (SH, RF, f) Q := by
  refine ret_of (L := [some (vR 0), some (vI x1), some (vI x2)]) (by decide) rfl (Nat.le_of_ble_eq_true rfl) ?_
  exact SX10_drawn_0 x1 x2 f h
theorem dX10_luck_82 : decode cX10_luck 82 = .ok (.iinc 5 1, 3) := by decide +kernel
theorem dX10_luck_85 : decode cX10_luck 85 = .ok (.goto (-47), 3) := by decide +kernel
theorem dX10_luck_38 : decode cX10_luck 38 = .ok (.iload 5, 2) := by decide +kernel
theorem dX10_luck_40 : decode cX10_luck 40 = .ok (.iload_n 2, 1) := by decide +kernel
theorem dX10_luck_41 : decode cX10_luck 41 = .ok (.if_icmp .ge 47, 3) := by decide +kernel
theorem dX10_luck_88 : decode cX10_luck 88 = .ok (.iload 4, 2) := by decide +kernel
theorem dX10_luck_90 : decode cX10_luck 90 = .ok (.ireturn, 1) := by decide +kernel
theorem dX10_luck_44 : decode cX10_luck 44 = .ok (.aload_n 0, 1) := by decide +kernel
theorem dX10_luck_45 : decode cX10_luck 45 = .ok (.getfield 19, 3) := by decide +kernel
theorem dX10_luck_48 : decode cX10_luck 48 = .ok (.aload_n 0, 1) := by decide +kernel
theorem dX10_luck_49 : decode cX10_luck 49 = .ok (.getfield 44, 3) := by decide +kernel
theorem dX10_luck_52 : decode cX10_luck 52 = .ok (.iload_n 1, 1) := by decide +kernel
theorem dX10_luck_53 : decode cX10_luck 53 = .ok (.i2l, 1) := by decide +kernel
theorem dX10_luck_54 : decode cX10_luck 54 = .ok (.iload 5, 2) := by decide +kernel
theorem dX10_luck_56 : decode cX10_luck 56 = .ok (.i2l, 1) := by decide +kernel
theorem dX10_luck_57 : decode cX10_luck 57 = .ok (.ladd, 1) := by decide +kernel
theorem dX10_luck_58 : decode cX10_luck 58 = .ok (.invokestatic 358, 3) := by decide +kernel
theorem dX10_luck_61 : decode cX10_luck 61 = .ok (.aload_n 0, 1) := by decide +kernel
theorem dX10_luck_62 : decode cX10_luck 62 = .ok (.getfield 44, 3) := by decide +kernel
theorem dX10_luck_65 : decode cX10_luck 65 = .ok (.aload_n 0, 1) := by decide +kernel
theorem dX10_luck_66 : decode cX10_luck 66 = .ok (.getfield 19, 3) := by decide +kernel
theorem dX10_luck_69 : decode cX10_luck 69 = .ok (.invokevirtual 176, 3) := by decide +kernel
theorem dX10_luck_72 : decode cX10_luck 72 = .ok (.iload_n 3, 1) := by decide +kernel
theorem dX10_luck_73 : decode cX10_luck 73 = .ok (.invokestatic 164, 3) := by decide +kernel
theorem dX10_luck_76 : decode cX10_luck 76 = .ok (.ifCond .eq 6, 3) := by decide +kernel
theorem dX10_luck_79 : decode cX10_luck 79 = .ok (.iinc 4 1, 3) := by decide +kernel
theorem dX10_luck_0 : decode cX10_luck 0 = .ok (.aload_n 0, 1) := by decide +kernel
theorem dX10_luck_1 : decode cX10_luck 1 = .ok (.getfield 19, 3) := by decide +kernel
theorem dX10_luck_4 : decode cX10_luck 4 = .ok (.iload_n 3, 1) := by decide +kernel
theorem dX10_luck_5 : decode cX10_luck 5 = .ok (.invokevirtual 117, 3) := by decide +kernel
theorem dX10_luck_8 : decode cX10_luck 8 = .ok (.ifCond .eq 21, 3) := by decide +kernel
theorem dX10_luck_29 : decode cX10_luck 29 = .ok (.bipush (-2), 2) := by decide +kernel
theorem dX10_luck_31 : decode cX10_luck 31 = .ok (.ireturn, 1) := by decide +kernel
theorem dX10_luck_11 : decode cX10_luck 11 = .ok (.iload_n 1, 1) := by decide +kernel
theorem dX10_luck_12 : decode cX10_luck 12 = .ok (.invokestatic 355, 3) := by decide +kernel
theorem dX10_luck_15 : decode cX10_luck 15 = .ok (.ifCond .eq 14, 3) := by decide +kernel
theorem dX10_luck_18 : decode cX10_luck 18 = .ok (.iload_n 2, 1) := by decide +kernel
theorem dX10_luck_19 : decode cX10_luck 19 = .ok (.iconst 1, 1) := by decide +kernel
theorem dX10_luck_20 : decode cX10_luck 20 = .ok (.if_icmp .lt 9, 3) := by decide +kernel
theorem dX10_luck_23 : decode cX10_luck 23 = .ok (.iload_n 2, 1) := by decide +kernel
theorem dX10_luck_24 : decode cX10_luck 24 = .ok (.bipush 20, 2) := by decide +kernel
theorem dX10_luck_26 : decode cX10_luck 26 = .ok (.if_icmp .le 6, 3) := by decide +kernel
theorem dX10_luck_32 : decode cX10_luck 32 = .ok (.iconst 0, 1) := by decide +kernel
theorem dX10_luck_33 : decode cX10_luck 33 = .ok (.istore 4, 2) := by decide +kernel
theorem dX10_luck_35 : decode cX10_luck 35 = .ok (.iconst 0, 1) := by decide +kernel
theorem dX10_luck_36 : decode cX10_luck 36 = .ok (.istore 5, 2) := by decide +kernel
def FX10_luck_82 (k38 : Int → Int → Int → Int → Int → Mm → Option (Int × Mm)) (x1 : Int) (x2 : Int) (x3 : Int) (x4 : Int) (x5 : Int) (f : Mm) : Option (Int × Mm) := k38 x1 x2 x3 x4 (w32 (x5 + 1)) f
set_option maxHeartbeats 4000000 in
set_option maxRecDepth 100000 in
theorem SX10_luck_82 {G : GT} {l : Launch} {Q : Option AV → Mem → Prop} {k38 : Int → Int → Int → Int → Int → Mm → Option (Int × Mm)} (q38 : ∀ (x1 : Int) (x2 : Int) (x3 : Int) (x4 : Int) (x5 : Int) (f : Mm), OkI Q (k38 x1 x2 x3 x4 x5 f) → Ev G l MX10_luck (Rm 6 0 0) (ZM G Q 0 0) 0 0 38 [some (vR 0), some (vI x1), some (vI x2), some (vI x3), some (vI x4), some (vI x5)] [] (SH, RF, f)) (x1 : Int) (x2 : Int) (x3 : Int) (x4 : Int) (x5 : Int) (f : Mm) (h : OkI Q (FX10_luck_82 k38 x1 x2 x3 x4 x5 f)) : Ev G l MX10_luck (Rm 6 0 0) (ZM G Q 0 0) 0 0 82 [some (vR 0), some (vI x1), some (vI x2), some (vI x3), some (vI x4), some (vI x5)] [] (SH, RF, f) := by
  unfold FX10_luck_82 at h
  refine ev_iinc (L' := [some (vR 0), some (vI x1), some (vI x2), some (vI x3), some (vI x4), some (vI (w32 (x5 + 1)))]) dX10_luck_82 rfl (by decide) rfl ?_
  refine ev_goto (tgt := 38) dX10_luck_85 (by decide) ?_
  exact q38 x1 x2 x3 x4 (w32 (x5 + 1)) _ h
def FX10_luck_38  : Nat → Int → Int → Int → Int → Int → Mm → Option (Int × Mm)
  | 0, _, _, _, _, _, _ => none
  | n + 1, x1, x2, x3, x4, x5, f => (if x2 ≤ x5 then some (x4, f) else ((FX8_drawDays_4_48 (w64 (x1 + x5)) f).bind fun f1 => (b2 (FX1_keptBits_48_4 f1) fun y2 f2 => (b2 (FX10_holds y2 x3 f2) fun y3 f3 => (if y3 = 0 then FX10_luck_82 (FX10_luck_38 n) x1 x2 x3 x4 x5 f3 else FX10_luck_82 (FX10_luck_38 n) x1 x2 x3 (w32 (x4 + 1)) x5 f3)))))
set_option maxHeartbeats 4000000 in
set_option maxRecDepth 100000 in
theorem SX10_luck_38 {G : GT} {l : Launch} {Q : Option AV → Mem → Prop}  : ∀ (n : Nat) (x1 : Int) (x2 : Int) (x3 : Int) (x4 : Int) (x5 : Int) (f : Mm), OkI Q (FX10_luck_38  n x1 x2 x3 x4 x5 f) → Ev G l MX10_luck (Rm 6 0 0) (ZM G Q 0 0) 0 0 38 [some (vR 0), some (vI x1), some (vI x2), some (vI x3), some (vI x4), some (vI x5)] [] (SH, RF, f) := by
  intro n
  induction n with
  | zero => intro x1 x2 x3 x4 x5 f h; exact absurd h (by rw [FX10_luck_38]; exact fun q => q)
  | succ n ih =>
    intro x1 x2 x3 x4 x5 f h
    rw [FX10_luck_38] at h
    refine ev_iload dX10_luck_38 rfl ?_
    refine ev_iload_n (i := 2) dX10_luck_40 rfl rfl ?_
    refine ev_icmp_ge (tgt := 88) dX10_luck_41 (by decide) (fun c5 => ?_) (fun c5 => ?_)
    · rw [if_pos c5] at h
      refine ev_iload dX10_luck_88 rfl ?_
      exact ev_iret rfl dX10_luck_90 h
    · rw [if_neg c5] at h
      refine ev_aload_n (i := 0) dX10_luck_44 rfl rfl ?_
      refine ev_getR dX10_luck_45 fl_X10_19 sh_0 (by decide) (by decide) rf_0_1 ?_
      refine ev_aload_n (i := 0) dX10_luck_48 rfl rfl ?_
      refine ev_getR dX10_luck_49 fl_X10_44 sh_0 (by decide) (by decide) rf_0_6 ?_
      refine ev_iload_n (i := 1) dX10_luck_52 rfl rfl ?_
      refine ev_i2l dX10_luck_53 ?_
      refine ev_iload dX10_luck_54 rfl ?_
      refine ev_i2l dX10_luck_56 ?_
      refine ev_ladd dX10_luck_57 ?_
      refine ev_cSV (av := [vR 4, vR 48, vJ (w64 (x1 + x5))]) (S := []) (fun q => q) h dX10_luck_58 (fun Q' q => TX8_drawDays_4_48 (w64 (x1 + x5)) _ q) ksX8_drawDays ml_X10_358 rfl (RRc (by decide) (by decide)) (Nat.le_of_ble_eq_true rfl) ⟨Nat.le_of_ble_eq_true rfl, Nat.le_of_ble_eq_true rfl⟩ (fun f1 h => ?_)
      refine ev_aload_n (i := 0) dX10_luck_61 rfl rfl ?_
      refine ev_getR dX10_luck_62 fl_X10_44 sh_0 (by decide) (by decide) rf_0_6 ?_
      refine ev_aload_n (i := 0) dX10_luck_65 rfl rfl ?_
      refine ev_getR dX10_luck_66 fl_X10_19 sh_0 (by decide) (by decide) rf_0_1 ?_
      refine ev_cVI (b := 48) (av := [vR 4]) (S := []) (fun q => q) h dX10_luck_69 (fun Q' q => TX1_keptBits_48_4 _ q) kvX1_keptBits ml_X10_176 sh_48 rfl (RRc (by decide) (by decide)) (Nat.le_of_ble_eq_true rfl) ⟨Nat.le_of_ble_eq_true rfl, Nat.le_of_ble_eq_true rfl⟩ (fun y2 f2 h => ?_)
      refine ev_iload_n (i := 3) dX10_luck_72 rfl rfl ?_
      refine ev_cSI (av := [vI y2, vI x3]) (S := []) (fun q => q) h dX10_luck_73 (fun Q' q => TX10_holds y2 x3 _ q) ksX10_holds ml_X10_164 rfl (RRc (by decide) (by decide)) (Nat.le_of_ble_eq_true rfl) ⟨Nat.le_of_ble_eq_true rfl, Nat.le_of_ble_eq_true rfl⟩ (fun y3 f3 h => ?_)
      refine ev_if_eq (tgt := 82) dX10_luck_76 (by decide) (fun c4 => ?_) (fun c4 => ?_)
      · rw [if_pos c4] at h
        exact SX10_luck_82 ih x1 x2 x3 x4 x5 _ h
      · rw [if_neg c4] at h
        refine ev_iinc (L' := [some (vR 0), some (vI x1), some (vI x2), some (vI x3), some (vI (w32 (x4 + 1))), some (vI x5)]) dX10_luck_79 rfl (by decide) rfl ?_
        exact SX10_luck_82 ih x1 x2 x3 (w32 (x4 + 1)) x5 _ h
def FX10_luck_0  (x1 : Int) (x2 : Int) (x3 : Int) (f : Mm) : Option (Int × Mm) := (b2 (FX0_hasCart_4 x3 f) fun y1 f1 => (if y1 = 0 then some ((-2), f1) else (b2 (FX10_isSeed x1 f1) fun y2 f2 => (if y2 = 0 then some ((-2), f2) else (if x2 < 1 then some ((-2), f2) else (if x2 ≤ 20 then FX10_luck_38 fu x1 x2 x3 0 0 f2 else some ((-2), f2)))))))
set_option maxHeartbeats 4000000 in
set_option maxRecDepth 100000 in
theorem SX10_luck_0 {G : GT} {l : Launch} {Q : Option AV → Mem → Prop}  (x1 : Int) (x2 : Int) (x3 : Int) (f : Mm) (h : OkI Q (FX10_luck_0  x1 x2 x3 f)) : Ev G l MX10_luck (Rm 6 0 0) (ZM G Q 0 0) 0 0 0 [some (vR 0), some (vI x1), some (vI x2), some (vI x3), none, none] [] (SH, RF, f) := by
  unfold FX10_luck_0 at h
  refine ev_aload_n (i := 0) dX10_luck_0 rfl rfl ?_
  refine ev_getR dX10_luck_1 fl_X10_19 sh_0 (by decide) (by decide) rf_0_1 ?_
  refine ev_iload_n (i := 3) dX10_luck_4 rfl rfl ?_
  refine ev_cVI (b := 4) (av := [vI x3]) (S := []) (fun q => q) h dX10_luck_5 (fun Q' q => TX0_hasCart_4 x3 _ q) kvX0_hasCart ml_X10_117 sh_4 rfl (RRc (by decide) (by decide)) (Nat.le_of_ble_eq_true rfl) ⟨Nat.le_of_ble_eq_true rfl, Nat.le_of_ble_eq_true rfl⟩ (fun y1 f1 h => ?_)
  refine ev_if_eq (tgt := 29) dX10_luck_8 (by decide) (fun c6 => ?_) (fun c6 => ?_)
  · rw [if_pos c6] at h
    refine ev_bipush (v := (-2)) dX10_luck_29 (r32c rfl) (by decide) ?_
    exact ev_iret rfl dX10_luck_31 h
  · rw [if_neg c6] at h
    refine ev_iload_n (i := 1) dX10_luck_11 rfl rfl ?_
    refine ev_cSI (av := [vI x1]) (S := []) (fun q => q) h dX10_luck_12 (fun Q' q => TX10_isSeed x1 _ q) ksX10_isSeed ml_X10_355 rfl (RRc (by decide) (by decide)) (Nat.le_of_ble_eq_true rfl) ⟨Nat.le_of_ble_eq_true rfl, Nat.le_of_ble_eq_true rfl⟩ (fun y2 f2 h => ?_)
    refine ev_if_eq (tgt := 29) dX10_luck_15 (by decide) (fun c5 => ?_) (fun c5 => ?_)
    · rw [if_pos c5] at h
      refine ev_bipush (v := (-2)) dX10_luck_29 (r32c rfl) (by decide) ?_
      exact ev_iret rfl dX10_luck_31 h
    · rw [if_neg c5] at h
      refine ev_iload_n (i := 2) dX10_luck_18 rfl rfl ?_
      refine ev_iconst dX10_luck_19 (r32c rfl) ?_
      refine ev_icmp_lt (tgt := 29) dX10_luck_20 (by decide) (fun c4 => ?_) (fun c4 => ?_)
      · rw [if_pos c4] at h
        refine ev_bipush (v := (-2)) dX10_luck_29 (r32c rfl) (by decide) ?_
        exact ev_iret rfl dX10_luck_31 h
      · rw [if_neg c4] at h
        refine ev_iload_n (i := 2) dX10_luck_23 rfl rfl ?_
        refine ev_bipush (v := 20) dX10_luck_24 (r32c rfl) (by decide) ?_
        refine ev_icmp_le (tgt := 32) dX10_luck_26 (by decide) (fun c3 => ?_) (fun c3 => ?_)
        · rw [if_pos c3] at h
          refine ev_iconst dX10_luck_32 (r32c rfl) ?_
          refine ev_istore (L' := [some (vR 0), some (vI x1), some (vI x2), some (vI x3), some (vI 0), none]) dX10_luck_33 (by decide) rfl ?_
          refine ev_iconst dX10_luck_35 (r32c rfl) ?_
          refine ev_istore (L' := [some (vR 0), some (vI x1), some (vI x2), some (vI x3), some (vI 0), some (vI 0)]) dX10_luck_36 (by decide) rfl ?_
          exact SX10_luck_38  fu x1 x2 x3 0 0 _ h
        · rw [if_neg c3] at h
          refine ev_bipush (v := (-2)) dX10_luck_29 (r32c rfl) (by decide) ?_
          exact ev_iret rfl dX10_luck_31 h
def FX10_luck (x1 : Int) (x2 : Int) (x3 : Int) (f : Mm) : Option (Int × Mm) := FX10_luck_0 x1 x2 x3 f
theorem TX10_luck {G : GT} {l : Launch} {Q : Option AV → Mem → Prop} (x1 : Int) (x2 : Int) (x3 : Int) (f : Mm) (h : OkI Q (FX10_luck x1 x2 x3 f)) : Ret G l MX10_luck (6) 0 0 [vR 0, vI x1, vI x2, vI x3] (SH, RF, f) Q := by
  refine ret_of (L := [some (vR 0), some (vI x1), some (vI x2), some (vI x3), none, none]) (by decide) rfl (Nat.le_of_ble_eq_true rfl) ?_
  exact SX10_luck_0 x1 x2 x3 f h
theorem dX0_act_0 : decode cX0_act 0 = .ok (.aload_n 0, 1) := by decide +kernel
theorem dX0_act_1 : decode cX0_act 1 = .ok (.iload_n 1, 1) := by decide +kernel
theorem dX0_act_2 : decode cX0_act 2 = .ok (.invokevirtual 85, 3) := by decide +kernel
theorem dX0_act_5 : decode cX0_act 5 = .ok (.ifCond .eq 12, 3) := by decide +kernel
theorem dX0_act_17 : decode cX0_act 17 = .ok (.iconst (-1), 1) := by decide +kernel
theorem dX0_act_18 : decode cX0_act 18 = .ok (.ireturn, 1) := by decide +kernel
theorem dX0_act_8 : decode cX0_act 8 = .ok (.aload_n 0, 1) := by decide +kernel
theorem dX0_act_9 : decode cX0_act 9 = .ok (.getfield 54, 3) := by decide +kernel
theorem dX0_act_12 : decode cX0_act 12 = .ok (.bipush 40, 2) := by decide +kernel
theorem dX0_act_14 : decode cX0_act 14 = .ok (.if_icmp .lt 5, 3) := by decide +kernel
theorem dX0_act_19 : decode cX0_act 19 = .ok (.aload_n 0, 1) := by decide +kernel
theorem dX0_act_20 : decode cX0_act 20 = .ok (.getfield 23, 3) := by decide +kernel
theorem dX0_act_23 : decode cX0_act 23 = .ok (.iload_n 1, 1) := by decide +kernel
theorem dX0_act_24 : decode cX0_act 24 = .ok (.iaload, 1) := by decide +kernel
theorem dX0_act_25 : decode cX0_act 25 = .ok (.istore_n 3, 1) := by decide +kernel
theorem dX0_act_26 : decode cX0_act 26 = .ok (.aload_n 0, 1) := by decide +kernel
theorem dX0_act_27 : decode cX0_act 27 = .ok (.getfield 26, 3) := by decide +kernel
theorem dX0_act_30 : decode cX0_act 30 = .ok (.aload_n 0, 1) := by decide +kernel
theorem dX0_act_31 : decode cX0_act 31 = .ok (.getfield 54, 3) := by decide +kernel
theorem dX0_act_34 : decode cX0_act 34 = .ok (.iload_n 1, 1) := by decide +kernel
theorem dX0_act_35 : decode cX0_act 35 = .ok (.iastore, 1) := by decide +kernel
theorem dX0_act_36 : decode cX0_act 36 = .ok (.aload_n 0, 1) := by decide +kernel
theorem dX0_act_37 : decode cX0_act 37 = .ok (.getfield 29, 3) := by decide +kernel
theorem dX0_act_40 : decode cX0_act 40 = .ok (.aload_n 0, 1) := by decide +kernel
theorem dX0_act_41 : decode cX0_act 41 = .ok (.getfield 54, 3) := by decide +kernel
theorem dX0_act_44 : decode cX0_act 44 = .ok (.iload_n 3, 1) := by decide +kernel
theorem dX0_act_45 : decode cX0_act 45 = .ok (.iastore, 1) := by decide +kernel
theorem dX0_act_46 : decode cX0_act 46 = .ok (.aload_n 0, 1) := by decide +kernel
theorem dX0_act_47 : decode cX0_act 47 = .ok (.dup, 1) := by decide +kernel
theorem dX0_act_48 : decode cX0_act 48 = .ok (.getfield 54, 3) := by decide +kernel
theorem dX0_act_51 : decode cX0_act 51 = .ok (.iconst 1, 1) := by decide +kernel
theorem dX0_act_52 : decode cX0_act 52 = .ok (.iadd, 1) := by decide +kernel
theorem dX0_act_53 : decode cX0_act 53 = .ok (.putfield 54, 3) := by decide +kernel
theorem dX0_act_56 : decode cX0_act 56 = .ok (.aload_n 0, 1) := by decide +kernel
theorem dX0_act_57 : decode cX0_act 57 = .ok (.getfield 23, 3) := by decide +kernel
theorem dX0_act_60 : decode cX0_act 60 = .ok (.iload_n 1, 1) := by decide +kernel
theorem dX0_act_61 : decode cX0_act 61 = .ok (.iload_n 2, 1) := by decide +kernel
theorem dX0_act_62 : decode cX0_act 62 = .ok (.iastore, 1) := by decide +kernel
theorem dX0_act_63 : decode cX0_act 63 = .ok (.iload_n 3, 1) := by decide +kernel
theorem dX0_act_64 : decode cX0_act 64 = .ok (.ireturn, 1) := by decide +kernel
def FX0_act_4_0  (x1 : Int) (x2 : Int) (f : Mm) : Option (Int × Mm) := (b2 (FX0_hasDay_4 x1 f) fun y1 f1 => (if y1 = 0 then some ((-1), f1) else (if (f1 4 6) < 40 then (if 0 ≤ x1 ∧ x1 < 6 then (if 0 ≤ (f1 4 6) ∧ (f1 4 6) < 40 then (if 0 ≤ (f1 4 6) ∧ (f1 4 6) < 40 then (if 0 ≤ x1 ∧ x1 < 6 then some ((f1 18 x1.toNat), (up (up (up (up f1 19 (f1 4 6).toNat x1) 20 (f1 4 6).toNat (f1 18 x1.toNat)) 4 6 (w32 ((f1 4 6) + 1))) 18 x1.toNat x2)) else none) else none) else none) else none) else some ((-1), f1))))
set_option maxHeartbeats 4000000 in
set_option maxRecDepth 100000 in
theorem SX0_act_4_0 {G : GT} {l : Launch} {Q : Option AV → Mem → Prop}  (x1 : Int) (x2 : Int) (f : Mm) (h : OkI Q (FX0_act_4_0  x1 x2 f)) : Ev G l MX0_act (Rm 2 0 0) (ZM G Q 0 0) 0 0 0 [some (vR 4), some (vI x1), some (vI x2), none] [] (SH, RF, f) := by
  unfold FX0_act_4_0 at h
  refine ev_aload_n (i := 0) dX0_act_0 rfl rfl ?_
  refine ev_iload_n (i := 1) dX0_act_1 rfl rfl ?_
  refine ev_cVI (b := 4) (av := [vI x1]) (S := []) (fun q => q) h dX0_act_2 (fun Q' q => TX0_hasDay_4 x1 _ q) kvX0_hasDay ml_X0_85 sh_4 rfl (RRc (by decide) (by decide)) (Nat.le_of_ble_eq_true rfl) ⟨Nat.le_of_ble_eq_true rfl, Nat.le_of_ble_eq_true rfl⟩ (fun y1 f1 h => ?_)
  refine ev_if_eq (tgt := 17) dX0_act_5 (by decide) (fun c7 => ?_) (fun c7 => ?_)
  · rw [if_pos c7] at h
    refine ev_iconst dX0_act_17 (r32c rfl) ?_
    exact ev_iret rfl dX0_act_18 h
  · rw [if_neg c7] at h
    refine ev_aload_n (i := 0) dX0_act_8 rfl rfl ?_
    refine ex_getI (x := (f1 4 6)) dX0_act_9 fl_X0_54 sh_4 (by decide) (by decide) rfl ?_
    refine ev_bipush (v := 40) dX0_act_12 (r32c rfl) (by decide) ?_
    refine ev_icmp_lt (tgt := 19) dX0_act_14 (by decide) (fun c6 => ?_) (fun c6 => ?_)
    · rw [if_pos c6] at h
      refine ev_aload_n (i := 0) dX0_act_19 rfl rfl ?_
      refine ev_getR dX0_act_20 fl_X0_23 sh_4 (by decide) (by decide) rf_4_10 ?_
      refine ev_iload_n (i := 1) dX0_act_23 rfl rfl ?_
      by_cases g2 : 0 ≤ x1 ∧ x1 < 6
      · rw [if_pos g2] at h
        refine ex_iald (x := (f1 18 x1.toNat)) dX0_act_24 sh_18 g2.1 g2.2 rfl ?_
        refine ev_istore_n (i := 3) (L' := [some (vR 4), some (vI x1), some (vI x2), some (vI (f1 18 x1.toNat))]) dX0_act_25 rfl (by decide) rfl ?_
        refine ev_aload_n (i := 0) dX0_act_26 rfl rfl ?_
        refine ev_getR dX0_act_27 fl_X0_26 sh_4 (by decide) (by decide) rf_4_11 ?_
        refine ev_aload_n (i := 0) dX0_act_30 rfl rfl ?_
        refine ex_getI (x := (f1 4 6)) dX0_act_31 fl_X0_54 sh_4 (by decide) (by decide) rfl ?_
        refine ev_iload_n (i := 1) dX0_act_34 rfl rfl ?_
        by_cases g3 : 0 ≤ (f1 4 6) ∧ (f1 4 6) < 40
        · rw [if_pos g3] at h
          refine ex_iast (j := (f1 4 6).toNat) dX0_act_35 sh_19 g3.1 g3.2 rfl ?_
          refine ev_aload_n (i := 0) dX0_act_36 rfl rfl ?_
          refine ev_getR dX0_act_37 fl_X0_29 sh_4 (by decide) (by decide) rf_4_12 ?_
          refine ev_aload_n (i := 0) dX0_act_40 rfl rfl ?_
          refine ex_getI (x := (f1 4 6)) dX0_act_41 fl_X0_54 sh_4 (by decide) (by decide) rfl ?_
          refine ev_iload_n (i := 3) dX0_act_44 rfl rfl ?_
          by_cases g4 : 0 ≤ (f1 4 6) ∧ (f1 4 6) < 40
          · rw [if_pos g4] at h
            refine ex_iast (j := (f1 4 6).toNat) dX0_act_45 sh_20 g4.1 g4.2 rfl ?_
            refine ev_aload_n (i := 0) dX0_act_46 rfl rfl ?_
            refine ev_dupR dX0_act_47 ?_
            refine ex_getI (x := (f1 4 6)) dX0_act_48 fl_X0_54 sh_4 (by decide) (by decide) rfl ?_
            refine ev_iconst dX0_act_51 (r32c rfl) ?_
            refine ev_iadd dX0_act_52 ?_
            refine ev_putI dX0_act_53 fl_X0_54 sh_4 (by decide) (by decide) ?_
            refine ev_aload_n (i := 0) dX0_act_56 rfl rfl ?_
            refine ev_getR dX0_act_57 fl_X0_23 sh_4 (by decide) (by decide) rf_4_10 ?_
            refine ev_iload_n (i := 1) dX0_act_60 rfl rfl ?_
            refine ev_iload_n (i := 2) dX0_act_61 rfl rfl ?_
            by_cases g5 : 0 ≤ x1 ∧ x1 < 6
            · rw [if_pos g5] at h
              refine ex_iast (j := x1.toNat) dX0_act_62 sh_18 g5.1 g5.2 rfl ?_
              refine ev_iload_n (i := 3) dX0_act_63 rfl rfl ?_
              exact ev_iret rfl dX0_act_64 h
            · rw [if_neg g5] at h; exact h.elim
          · rw [if_neg g4] at h; exact h.elim
        · rw [if_neg g3] at h; exact h.elim
      · rw [if_neg g2] at h; exact h.elim
    · rw [if_neg c6] at h
      refine ev_iconst dX0_act_17 (r32c rfl) ?_
      exact ev_iret rfl dX0_act_18 h
def FX0_act_4 (x1 : Int) (x2 : Int) (f : Mm) : Option (Int × Mm) := FX0_act_4_0 x1 x2 f
theorem TX0_act_4 {G : GT} {l : Launch} {Q : Option AV → Mem → Prop} (x1 : Int) (x2 : Int) (f : Mm) (h : OkI Q (FX0_act_4 x1 x2 f)) : Ret G l MX0_act (2) 0 0 [vR 4, vI x1, vI x2] (SH, RF, f) Q := by
  refine ret_of (L := [some (vR 4), some (vI x1), some (vI x2), none]) (by decide) rfl (Nat.le_of_ble_eq_true rfl) ?_
  exact SX0_act_4_0 x1 x2 f h
theorem dX10_does_30 : decode cX10_does 30 = .ok (.aload_n 0, 1) := by decide +kernel
theorem dX10_does_31 : decode cX10_does 31 = .ok (.getfield 19, 3) := by decide +kernel
theorem dX10_does_34 : decode cX10_does 34 = .ok (.getfield 365, 3) := by decide +kernel
theorem dX10_does_37 : decode cX10_does 37 = .ok (.bipush 40, 2) := by decide +kernel
theorem dX10_does_39 : decode cX10_does 39 = .ok (.if_icmp .lt 6, 3) := by decide +kernel
theorem dX10_does_45 : decode cX10_does 45 = .ok (.aload_n 0, 1) := by decide +kernel
theorem dX10_does_46 : decode cX10_does 46 = .ok (.getfield 19, 3) := by decide +kernel
theorem dX10_does_49 : decode cX10_does 49 = .ok (.iload_n 1, 1) := by decide +kernel
theorem dX10_does_50 : decode cX10_does 50 = .ok (.iload_n 2, 1) := by decide +kernel
theorem dX10_does_51 : decode cX10_does 51 = .ok (.invokevirtual 368, 3) := by decide +kernel
theorem dX10_does_54 : decode cX10_does 54 = .ok (.ireturn, 1) := by decide +kernel
theorem dX10_does_42 : decode cX10_does 42 = .ok (.bipush (-5), 2) := by decide +kernel
theorem dX10_does_44 : decode cX10_does 44 = .ok (.ireturn, 1) := by decide +kernel
theorem dX10_does_0 : decode cX10_does 0 = .ok (.aload_n 0, 1) := by decide +kernel
theorem dX10_does_1 : decode cX10_does 1 = .ok (.getfield 19, 3) := by decide +kernel
theorem dX10_does_4 : decode cX10_does 4 = .ok (.iload_n 1, 1) := by decide +kernel
theorem dX10_does_5 : decode cX10_does 5 = .ok (.invokevirtual 126, 3) := by decide +kernel
theorem dX10_does_8 : decode cX10_does 8 = .ok (.ifCond .eq 19, 3) := by decide +kernel
theorem dX10_does_27 : decode cX10_does 27 = .ok (.bipush (-2), 2) := by decide +kernel
theorem dX10_does_29 : decode cX10_does 29 = .ok (.ireturn, 1) := by decide +kernel
theorem dX10_does_11 : decode cX10_does 11 = .ok (.iload_n 2, 1) := by decide +kernel
theorem dX10_does_12 : decode cX10_does 12 = .ok (.iconst (-1), 1) := by decide +kernel
theorem dX10_does_13 : decode cX10_does 13 = .ok (.if_icmp .eq 17, 3) := by decide +kernel
theorem dX10_does_16 : decode cX10_does 16 = .ok (.aload_n 0, 1) := by decide +kernel
theorem dX10_does_17 : decode cX10_does 17 = .ok (.getfield 19, 3) := by decide +kernel
theorem dX10_does_20 : decode cX10_does 20 = .ok (.iload_n 2, 1) := by decide +kernel
theorem dX10_does_21 : decode cX10_does 21 = .ok (.invokevirtual 109, 3) := by decide +kernel
theorem dX10_does_24 : decode cX10_does 24 = .ok (.ifCond .ne 6, 3) := by decide +kernel
def FX10_does_30  (x1 : Int) (x2 : Int) (f : Mm) : Option (Int × Mm) := (if (f 4 6) < 40 then (b2 (FX0_act_4 x1 x2 f) fun y1 f1 => some (y1, f1)) else some ((-5), f))
set_option maxHeartbeats 4000000 in
set_option maxRecDepth 100000 in
theorem SX10_does_30 {G : GT} {l : Launch} {Q : Option AV → Mem → Prop}  (x1 : Int) (x2 : Int) (f : Mm) (h : OkI Q (FX10_does_30  x1 x2 f)) : Ev G l MX10_does (Rm 3 0 0) (ZM G Q 0 0) 0 0 30 [some (vR 0), some (vI x1), some (vI x2)] [] (SH, RF, f) := by
  unfold FX10_does_30 at h
  refine ev_aload_n (i := 0) dX10_does_30 rfl rfl ?_
  refine ev_getR dX10_does_31 fl_X10_19 sh_0 (by decide) (by decide) rf_0_1 ?_
  refine ex_getI (x := (f 4 6)) dX10_does_34 fl_X10_365 sh_4 (by decide) (by decide) rfl ?_
  refine ev_bipush (v := 40) dX10_does_37 (r32c rfl) (by decide) ?_
  refine ev_icmp_lt (tgt := 45) dX10_does_39 (by decide) (fun c2 => ?_) (fun c2 => ?_)
  · rw [if_pos c2] at h
    refine ev_aload_n (i := 0) dX10_does_45 rfl rfl ?_
    refine ev_getR dX10_does_46 fl_X10_19 sh_0 (by decide) (by decide) rf_0_1 ?_
    refine ev_iload_n (i := 1) dX10_does_49 rfl rfl ?_
    refine ev_iload_n (i := 2) dX10_does_50 rfl rfl ?_
    refine ev_cVI (b := 4) (av := [vI x1, vI x2]) (S := []) (fun q => q) h dX10_does_51 (fun Q' q => TX0_act_4 x1 x2 _ q) kvX0_act ml_X10_368 sh_4 rfl (RRc (by decide) (by decide)) (Nat.le_of_ble_eq_true rfl) ⟨Nat.le_of_ble_eq_true rfl, Nat.le_of_ble_eq_true rfl⟩ (fun y1 f1 h => ?_)
    exact ev_iret rfl dX10_does_54 h
  · rw [if_neg c2] at h
    refine ev_bipush (v := (-5)) dX10_does_42 (r32c rfl) (by decide) ?_
    exact ev_iret rfl dX10_does_44 h
def FX10_does_0  (x1 : Int) (x2 : Int) (f : Mm) : Option (Int × Mm) := (b2 (FX0_hasDay_4 x1 f) fun y1 f1 => (if y1 = 0 then some ((-2), f1) else (if x2 = (-1) then FX10_does_30 x1 x2 f1 else (b2 (FX0_hasDeed_4 x2 f1) fun y2 f2 => (if y2 = 0 then some ((-2), f2) else FX10_does_30 x1 x2 f2)))))
set_option maxHeartbeats 4000000 in
set_option maxRecDepth 100000 in
theorem SX10_does_0 {G : GT} {l : Launch} {Q : Option AV → Mem → Prop}  (x1 : Int) (x2 : Int) (f : Mm) (h : OkI Q (FX10_does_0  x1 x2 f)) : Ev G l MX10_does (Rm 3 0 0) (ZM G Q 0 0) 0 0 0 [some (vR 0), some (vI x1), some (vI x2)] [] (SH, RF, f) := by
  unfold FX10_does_0 at h
  refine ev_aload_n (i := 0) dX10_does_0 rfl rfl ?_
  refine ev_getR dX10_does_1 fl_X10_19 sh_0 (by decide) (by decide) rf_0_1 ?_
  refine ev_iload_n (i := 1) dX10_does_4 rfl rfl ?_
  refine ev_cVI (b := 4) (av := [vI x1]) (S := []) (fun q => q) h dX10_does_5 (fun Q' q => TX0_hasDay_4 x1 _ q) kvX0_hasDay ml_X10_126 sh_4 rfl (RRc (by decide) (by decide)) (Nat.le_of_ble_eq_true rfl) ⟨Nat.le_of_ble_eq_true rfl, Nat.le_of_ble_eq_true rfl⟩ (fun y1 f1 h => ?_)
  refine ev_if_eq (tgt := 27) dX10_does_8 (by decide) (fun c5 => ?_) (fun c5 => ?_)
  · rw [if_pos c5] at h
    refine ev_bipush (v := (-2)) dX10_does_27 (r32c rfl) (by decide) ?_
    exact ev_iret rfl dX10_does_29 h
  · rw [if_neg c5] at h
    refine ev_iload_n (i := 2) dX10_does_11 rfl rfl ?_
    refine ev_iconst dX10_does_12 (r32c rfl) ?_
    refine ev_icmp_eq (tgt := 30) dX10_does_13 (by decide) (fun c4 => ?_) (fun c4 => ?_)
    · rw [if_pos c4] at h
      exact SX10_does_30  x1 x2 _ h
    · rw [if_neg c4] at h
      refine ev_aload_n (i := 0) dX10_does_16 rfl rfl ?_
      refine ev_getR dX10_does_17 fl_X10_19 sh_0 (by decide) (by decide) rf_0_1 ?_
      refine ev_iload_n (i := 2) dX10_does_20 rfl rfl ?_
      refine ev_cVI (b := 4) (av := [vI x2]) (S := []) (fun q => q) h dX10_does_21 (fun Q' q => TX0_hasDeed_4 x2 _ q) kvX0_hasDeed ml_X10_109 sh_4 rfl (RRc (by decide) (by decide)) (Nat.le_of_ble_eq_true rfl) ⟨Nat.le_of_ble_eq_true rfl, Nat.le_of_ble_eq_true rfl⟩ (fun y2 f2 h => ?_)
      refine ev_if_ne (tgt := 30) dX10_does_24 (by decide) (fun c3 => ?_) (fun c3 => ?_)
      · rw [if_neg c3] at h
        exact SX10_does_30  x1 x2 _ h
      · rw [if_pos c3] at h
        refine ev_bipush (v := (-2)) dX10_does_27 (r32c rfl) (by decide) ?_
        exact ev_iret rfl dX10_does_29 h
def FX10_does (x1 : Int) (x2 : Int) (f : Mm) : Option (Int × Mm) := FX10_does_0 x1 x2 f
theorem TX10_does {G : GT} {l : Launch} {Q : Option AV → Mem → Prop} (x1 : Int) (x2 : Int) (f : Mm) (h : OkI Q (FX10_does x1 x2 f)) : Ret G l MX10_does (3) 0 0 [vR 0, vI x1, vI x2] (SH, RF, f) Q := by
  refine ret_of (L := [some (vR 0), some (vI x1), some (vI x2)]) (by decide) rfl (Nat.le_of_ble_eq_true rfl) ?_
  exact SX10_does_0 x1 x2 f h
theorem dX0_takeBack_0 : decode cX0_takeBack 0 = .ok (.aload_n 0, 1) := by decide +kernel
theorem dX0_takeBack_1 : decode cX0_takeBack 1 = .ok (.getfield 54, 3) := by decide +kernel
theorem dX0_takeBack_4 : decode cX0_takeBack 4 = .ok (.ifCond .le 36, 3) := by decide +kernel
theorem dX0_takeBack_40 : decode cX0_takeBack 40 = .ok (.return_, 1) := by decide +kernel
theorem dX0_takeBack_7 : decode cX0_takeBack 7 = .ok (.aload_n 0, 1) := by decide +kernel
theorem dX0_takeBack_8 : decode cX0_takeBack 8 = .ok (.dup, 1) := by decide +kernel
theorem dX0_takeBack_9 : decode cX0_takeBack 9 = .ok (.getfield 54, 3) := by decide +kernel
theorem dX0_takeBack_12 : decode cX0_takeBack 12 = .ok (.iconst 1, 1) := by decide +kernel
theorem dX0_takeBack_13 : decode cX0_takeBack 13 = .ok (.isub, 1) := by decide +kernel
theorem dX0_takeBack_14 : decode cX0_takeBack 14 = .ok (.putfield 54, 3) := by decide +kernel
theorem dX0_takeBack_17 : decode cX0_takeBack 17 = .ok (.aload_n 0, 1) := by decide +kernel
theorem dX0_takeBack_18 : decode cX0_takeBack 18 = .ok (.getfield 23, 3) := by decide +kernel
theorem dX0_takeBack_21 : decode cX0_takeBack 21 = .ok (.aload_n 0, 1) := by decide +kernel
theorem dX0_takeBack_22 : decode cX0_takeBack 22 = .ok (.getfield 26, 3) := by decide +kernel
theorem dX0_takeBack_25 : decode cX0_takeBack 25 = .ok (.aload_n 0, 1) := by decide +kernel
theorem dX0_takeBack_26 : decode cX0_takeBack 26 = .ok (.getfield 54, 3) := by decide +kernel
theorem dX0_takeBack_29 : decode cX0_takeBack 29 = .ok (.iaload, 1) := by decide +kernel
theorem dX0_takeBack_30 : decode cX0_takeBack 30 = .ok (.aload_n 0, 1) := by decide +kernel
theorem dX0_takeBack_31 : decode cX0_takeBack 31 = .ok (.getfield 29, 3) := by decide +kernel
theorem dX0_takeBack_34 : decode cX0_takeBack 34 = .ok (.aload_n 0, 1) := by decide +kernel
theorem dX0_takeBack_35 : decode cX0_takeBack 35 = .ok (.getfield 54, 3) := by decide +kernel
theorem dX0_takeBack_38 : decode cX0_takeBack 38 = .ok (.iaload, 1) := by decide +kernel
theorem dX0_takeBack_39 : decode cX0_takeBack 39 = .ok (.iastore, 1) := by decide +kernel
def FX0_takeBack_4_0   (f : Mm) : Option Mm := (if (f 4 6) ≤ 0 then some f else (if 0 ≤ (w32 ((f 4 6) - 1)) ∧ (w32 ((f 4 6) - 1)) < 40 then (if 0 ≤ (w32 ((f 4 6) - 1)) ∧ (w32 ((f 4 6) - 1)) < 40 then (if 0 ≤ (f 19 (w32 ((f 4 6) - 1)).toNat) ∧ (f 19 (w32 ((f 4 6) - 1)).toNat) < 6 then some (up (up f 4 6 (w32 ((f 4 6) - 1))) 18 (f 19 (w32 ((f 4 6) - 1)).toNat).toNat (f 20 (w32 ((f 4 6) - 1)).toNat)) else none) else none) else none))
set_option maxHeartbeats 4000000 in
set_option maxRecDepth 100000 in
theorem SX0_takeBack_4_0 {G : GT} {l : Launch} {Q : Option AV → Mem → Prop}   (f : Mm) (h : OkV Q (FX0_takeBack_4_0   f)) : Ev G l MX0_takeBack (Rm 1 0 0) (ZM G Q 0 0) 0 0 0 [some (vR 4)] [] (SH, RF, f) := by
  unfold FX0_takeBack_4_0 at h
  refine ev_aload_n (i := 0) dX0_takeBack_0 rfl rfl ?_
  refine ex_getI (x := (f 4 6)) dX0_takeBack_1 fl_X0_54 sh_4 (by decide) (by decide) rfl ?_
  refine ev_if_le (tgt := 40) dX0_takeBack_4 (by decide) (fun c4 => ?_) (fun c4 => ?_)
  · rw [if_pos c4] at h
    exact ev_vret rfl dX0_takeBack_40 h
  · rw [if_neg c4] at h
    refine ev_aload_n (i := 0) dX0_takeBack_7 rfl rfl ?_
    refine ev_dupR dX0_takeBack_8 ?_
    refine ex_getI (x := (f 4 6)) dX0_takeBack_9 fl_X0_54 sh_4 (by decide) (by decide) rfl ?_
    refine ev_iconst dX0_takeBack_12 (r32c rfl) ?_
    refine ev_isub dX0_takeBack_13 ?_
    refine ev_putI dX0_takeBack_14 fl_X0_54 sh_4 (by decide) (by decide) ?_
    refine ev_aload_n (i := 0) dX0_takeBack_17 rfl rfl ?_
    refine ev_getR dX0_takeBack_18 fl_X0_23 sh_4 (by decide) (by decide) rf_4_10 ?_
    refine ev_aload_n (i := 0) dX0_takeBack_21 rfl rfl ?_
    refine ev_getR dX0_takeBack_22 fl_X0_26 sh_4 (by decide) (by decide) rf_4_11 ?_
    refine ev_aload_n (i := 0) dX0_takeBack_25 rfl rfl ?_
    refine ex_getI (x := (w32 ((f 4 6) - 1))) dX0_takeBack_26 fl_X0_54 sh_4 (by decide) (by decide) rfl ?_
    by_cases g1 : 0 ≤ (w32 ((f 4 6) - 1)) ∧ (w32 ((f 4 6) - 1)) < 40
    · rw [if_pos g1] at h
      refine ex_iald (x := (f 19 (w32 ((f 4 6) - 1)).toNat)) dX0_takeBack_29 sh_19 g1.1 g1.2 rfl ?_
      refine ev_aload_n (i := 0) dX0_takeBack_30 rfl rfl ?_
      refine ev_getR dX0_takeBack_31 fl_X0_29 sh_4 (by decide) (by decide) rf_4_12 ?_
      refine ev_aload_n (i := 0) dX0_takeBack_34 rfl rfl ?_
      refine ex_getI (x := (w32 ((f 4 6) - 1))) dX0_takeBack_35 fl_X0_54 sh_4 (by decide) (by decide) rfl ?_
      by_cases g2 : 0 ≤ (w32 ((f 4 6) - 1)) ∧ (w32 ((f 4 6) - 1)) < 40
      · rw [if_pos g2] at h
        refine ex_iald (x := (f 20 (w32 ((f 4 6) - 1)).toNat)) dX0_takeBack_38 sh_20 g2.1 g2.2 rfl ?_
        by_cases g3 : 0 ≤ (f 19 (w32 ((f 4 6) - 1)).toNat) ∧ (f 19 (w32 ((f 4 6) - 1)).toNat) < 6
        · rw [if_pos g3] at h
          refine ex_iast (j := (f 19 (w32 ((f 4 6) - 1)).toNat).toNat) dX0_takeBack_39 sh_18 g3.1 g3.2 rfl ?_
          exact ev_vret rfl dX0_takeBack_40 h
        · rw [if_neg g3] at h; exact h.elim
      · rw [if_neg g2] at h; exact h.elim
    · rw [if_neg g1] at h; exact h.elim
def FX0_takeBack_4  (f : Mm) : Option Mm := FX0_takeBack_4_0  f
theorem TX0_takeBack_4 {G : GT} {l : Launch} {Q : Option AV → Mem → Prop}  (f : Mm) (h : OkV Q (FX0_takeBack_4  f)) : Ret G l MX0_takeBack (1) 0 0 [vR 4] (SH, RF, f) Q := by
  refine ret_of (L := [some (vR 4)]) (by decide) rfl (Nat.le_of_ble_eq_true rfl) ?_
  exact SX0_takeBack_4_0  f h
theorem dX10_undo_0 : decode cX10_undo 0 = .ok (.aload_n 0, 1) := by decide +kernel
theorem dX10_undo_1 : decode cX10_undo 1 = .ok (.getfield 19, 3) := by decide +kernel
theorem dX10_undo_4 : decode cX10_undo 4 = .ok (.invokevirtual 140, 3) := by decide +kernel
theorem dX10_undo_7 : decode cX10_undo 7 = .ok (.ifCond .ne 6, 3) := by decide +kernel
theorem dX10_undo_13 : decode cX10_undo 13 = .ok (.aload_n 0, 1) := by decide +kernel
theorem dX10_undo_14 : decode cX10_undo 14 = .ok (.getfield 19, 3) := by decide +kernel
theorem dX10_undo_17 : decode cX10_undo 17 = .ok (.getfield 365, 3) := by decide +kernel
theorem dX10_undo_20 : decode cX10_undo 20 = .ok (.ifCond .gt 6, 3) := by decide +kernel
theorem dX10_undo_26 : decode cX10_undo 26 = .ok (.aload_n 0, 1) := by decide +kernel
theorem dX10_undo_27 : decode cX10_undo 27 = .ok (.getfield 19, 3) := by decide +kernel
theorem dX10_undo_30 : decode cX10_undo 30 = .ok (.invokevirtual 371, 3) := by decide +kernel
theorem dX10_undo_33 : decode cX10_undo 33 = .ok (.aload_n 0, 1) := by decide +kernel
theorem dX10_undo_34 : decode cX10_undo 34 = .ok (.getfield 19, 3) := by decide +kernel
theorem dX10_undo_37 : decode cX10_undo 37 = .ok (.getfield 365, 3) := by decide +kernel
theorem dX10_undo_40 : decode cX10_undo 40 = .ok (.ireturn, 1) := by decide +kernel
theorem dX10_undo_23 : decode cX10_undo 23 = .ok (.bipush (-5), 2) := by decide +kernel
theorem dX10_undo_25 : decode cX10_undo 25 = .ok (.ireturn, 1) := by decide +kernel
theorem dX10_undo_10 : decode cX10_undo 10 = .ok (.bipush (-2), 2) := by decide +kernel
theorem dX10_undo_12 : decode cX10_undo 12 = .ok (.ireturn, 1) := by decide +kernel
def FX10_undo_0   (f : Mm) : Option (Int × Mm) := (b2 (FX0_stands_4 f) fun y1 f1 => (if y1 = 0 then some ((-2), f1) else (if 0 < (f1 4 6) then ((FX0_takeBack_4 f1).bind fun f2 => some ((f2 4 6), f2)) else some ((-5), f1))))
set_option maxHeartbeats 4000000 in
set_option maxRecDepth 100000 in
theorem SX10_undo_0 {G : GT} {l : Launch} {Q : Option AV → Mem → Prop}   (f : Mm) (h : OkI Q (FX10_undo_0   f)) : Ev G l MX10_undo (Rm 2 0 0) (ZM G Q 0 0) 0 0 0 [some (vR 0)] [] (SH, RF, f) := by
  unfold FX10_undo_0 at h
  refine ev_aload_n (i := 0) dX10_undo_0 rfl rfl ?_
  refine ev_getR dX10_undo_1 fl_X10_19 sh_0 (by decide) (by decide) rf_0_1 ?_
  refine ev_cVI (b := 4) (av := []) (S := []) (fun q => q) h dX10_undo_4 (fun Q' q => TX0_stands_4 _ q) kvX0_stands ml_X10_140 sh_4 rfl (RRc (by decide) (by decide)) (Nat.le_of_ble_eq_true rfl) ⟨Nat.le_of_ble_eq_true rfl, Nat.le_of_ble_eq_true rfl⟩ (fun y1 f1 h => ?_)
  refine ev_if_ne (tgt := 13) dX10_undo_7 (by decide) (fun c4 => ?_) (fun c4 => ?_)
  · rw [if_neg c4] at h
    refine ev_aload_n (i := 0) dX10_undo_13 rfl rfl ?_
    refine ev_getR dX10_undo_14 fl_X10_19 sh_0 (by decide) (by decide) rf_0_1 ?_
    refine ex_getI (x := (f1 4 6)) dX10_undo_17 fl_X10_365 sh_4 (by decide) (by decide) rfl ?_
    refine ev_if_gt (tgt := 26) dX10_undo_20 (by decide) (fun c3 => ?_) (fun c3 => ?_)
    · rw [if_pos c3] at h
      refine ev_aload_n (i := 0) dX10_undo_26 rfl rfl ?_
      refine ev_getR dX10_undo_27 fl_X10_19 sh_0 (by decide) (by decide) rf_0_1 ?_
      refine ev_cVV (b := 4) (av := []) (S := []) (fun q => q) h dX10_undo_30 (fun Q' q => TX0_takeBack_4 _ q) kvX0_takeBack ml_X10_371 sh_4 rfl (RRc (by decide) (by decide)) (Nat.le_of_ble_eq_true rfl) ⟨Nat.le_of_ble_eq_true rfl, Nat.le_of_ble_eq_true rfl⟩ (fun f2 h => ?_)
      refine ev_aload_n (i := 0) dX10_undo_33 rfl rfl ?_
      refine ev_getR dX10_undo_34 fl_X10_19 sh_0 (by decide) (by decide) rf_0_1 ?_
      refine ex_getI (x := (f2 4 6)) dX10_undo_37 fl_X10_365 sh_4 (by decide) (by decide) rfl ?_
      exact ev_iret rfl dX10_undo_40 h
    · rw [if_neg c3] at h
      refine ev_bipush (v := (-5)) dX10_undo_23 (r32c rfl) (by decide) ?_
      exact ev_iret rfl dX10_undo_25 h
  · rw [if_pos c4] at h
    refine ev_bipush (v := (-2)) dX10_undo_10 (r32c rfl) (by decide) ?_
    exact ev_iret rfl dX10_undo_12 h
def FX10_undo  (f : Mm) : Option (Int × Mm) := FX10_undo_0  f
theorem TX10_undo {G : GT} {l : Launch} {Q : Option AV → Mem → Prop}  (f : Mm) (h : OkI Q (FX10_undo  f)) : Ret G l MX10_undo (2) 0 0 [vR 0] (SH, RF, f) Q := by
  refine ret_of (L := [some (vR 0)]) (by decide) rfl (Nat.le_of_ble_eq_true rfl) ?_
  exact SX10_undo_0  f h
def FX0_takeAllBack_4_7  : Nat → Int → Mm → Option Mm
  | 0, _, _ => none
  | n + 1, x1, f => (if 6 ≤ x1 then some f else (if 0 ≤ x1 ∧ x1 < 6 then FX0_takeAllBack_4_7 n (w32 (x1 + 1)) (up f 18 x1.toNat (-1)) else none))
set_option maxHeartbeats 4000000 in
set_option maxRecDepth 100000 in
theorem SX0_takeAllBack_4_7 {G : GT} {l : Launch} {Q : Option AV → Mem → Prop}  : ∀ (n : Nat) (x1 : Int) (f : Mm), OkV Q (FX0_takeAllBack_4_7  n x1 f) → Ev G l MX0_takeAllBack (Rm 1 0 0) (ZM G Q 0 0) 0 0 7 [some (vR 4), some (vI x1)] [] (SH, RF, f) := by
  intro n
  induction n with
  | zero => intro x1 f h; exact absurd h (by rw [FX0_takeAllBack_4_7]; exact fun q => q)
  | succ n ih =>
    intro x1 f h
    rw [FX0_takeAllBack_4_7] at h
    refine ev_iload_n (i := 1) dX0_takeAllBack_7 rfl rfl ?_
    refine ev_bipush (v := 6) dX0_takeAllBack_8 (r32c rfl) (by decide) ?_
    refine ev_icmp_ge (tgt := 26) dX0_takeAllBack_10 (by decide) (fun c2 => ?_) (fun c2 => ?_)
    · rw [if_pos c2] at h
      exact ev_vret rfl dX0_takeAllBack_26 h
    · rw [if_neg c2] at h
      refine ev_aload_n (i := 0) dX0_takeAllBack_13 rfl rfl ?_
      refine ev_getR dX0_takeAllBack_14 fl_X0_23 sh_4 (by decide) (by decide) rf_4_10 ?_
      refine ev_iload_n (i := 1) dX0_takeAllBack_17 rfl rfl ?_
      refine ev_iconst dX0_takeAllBack_18 (r32c rfl) ?_
      by_cases g1 : 0 ≤ x1 ∧ x1 < 6
      · rw [if_pos g1] at h
        refine ex_iast (j := x1.toNat) dX0_takeAllBack_19 sh_18 g1.1 g1.2 rfl ?_
        refine ev_iinc (L' := [some (vR 4), some (vI (w32 (x1 + 1)))]) dX0_takeAllBack_20 rfl (by decide) rfl ?_
        refine ev_goto (tgt := 7) dX0_takeAllBack_23 (by decide) ?_
        exact ih (w32 (x1 + 1)) _ h
      · rw [if_neg g1] at h; exact h.elim
def FX0_takeAllBack_4_0   (f : Mm) : Option Mm := FX0_takeAllBack_4_7 fu 0 (up f 4 6 0)
set_option maxHeartbeats 4000000 in
set_option maxRecDepth 100000 in
theorem SX0_takeAllBack_4_0 {G : GT} {l : Launch} {Q : Option AV → Mem → Prop}   (f : Mm) (h : OkV Q (FX0_takeAllBack_4_0   f)) : Ev G l MX0_takeAllBack (Rm 1 0 0) (ZM G Q 0 0) 0 0 0 [some (vR 4), none] [] (SH, RF, f) := by
  unfold FX0_takeAllBack_4_0 at h
  refine ev_aload_n (i := 0) dX0_takeAllBack_0 rfl rfl ?_
  refine ev_iconst dX0_takeAllBack_1 (r32c rfl) ?_
  refine ev_putI dX0_takeAllBack_2 fl_X0_54 sh_4 (by decide) (by decide) ?_
  refine ev_iconst dX0_takeAllBack_5 (r32c rfl) ?_
  refine ev_istore_n (i := 1) (L' := [some (vR 4), some (vI 0)]) dX0_takeAllBack_6 rfl (by decide) rfl ?_
  exact SX0_takeAllBack_4_7  fu 0 _ h
def FX0_takeAllBack_4  (f : Mm) : Option Mm := FX0_takeAllBack_4_0  f
theorem TX0_takeAllBack_4 {G : GT} {l : Launch} {Q : Option AV → Mem → Prop}  (f : Mm) (h : OkV Q (FX0_takeAllBack_4  f)) : Ret G l MX0_takeAllBack (1) 0 0 [vR 4] (SH, RF, f) Q := by
  refine ret_of (L := [some (vR 4), none]) (by decide) rfl (Nat.le_of_ble_eq_true rfl) ?_
  exact SX0_takeAllBack_4_0  f h
theorem dX10_anew_0 : decode cX10_anew 0 = .ok (.aload_n 0, 1) := by decide +kernel
theorem dX10_anew_1 : decode cX10_anew 1 = .ok (.getfield 19, 3) := by decide +kernel
theorem dX10_anew_4 : decode cX10_anew 4 = .ok (.invokevirtual 140, 3) := by decide +kernel
theorem dX10_anew_7 : decode cX10_anew 7 = .ok (.ifCond .ne 6, 3) := by decide +kernel
theorem dX10_anew_13 : decode cX10_anew 13 = .ok (.aload_n 0, 1) := by decide +kernel
theorem dX10_anew_14 : decode cX10_anew 14 = .ok (.getfield 19, 3) := by decide +kernel
theorem dX10_anew_17 : decode cX10_anew 17 = .ok (.getfield 365, 3) := by decide +kernel
theorem dX10_anew_20 : decode cX10_anew 20 = .ok (.istore_n 1, 1) := by decide +kernel
theorem dX10_anew_21 : decode cX10_anew 21 = .ok (.aload_n 0, 1) := by decide +kernel
theorem dX10_anew_22 : decode cX10_anew 22 = .ok (.getfield 19, 3) := by decide +kernel
theorem dX10_anew_25 : decode cX10_anew 25 = .ok (.invokevirtual 374, 3) := by decide +kernel
theorem dX10_anew_28 : decode cX10_anew 28 = .ok (.iload_n 1, 1) := by decide +kernel
theorem dX10_anew_29 : decode cX10_anew 29 = .ok (.ireturn, 1) := by decide +kernel
theorem dX10_anew_10 : decode cX10_anew 10 = .ok (.bipush (-2), 2) := by decide +kernel
theorem dX10_anew_12 : decode cX10_anew 12 = .ok (.ireturn, 1) := by decide +kernel
def FX10_anew_0   (f : Mm) : Option (Int × Mm) := (b2 (FX0_stands_4 f) fun y1 f1 => (if y1 = 0 then some ((-2), f1) else ((FX0_takeAllBack_4 f1).bind fun f2 => some ((f1 4 6), f2))))
set_option maxHeartbeats 4000000 in
set_option maxRecDepth 100000 in
theorem SX10_anew_0 {G : GT} {l : Launch} {Q : Option AV → Mem → Prop}   (f : Mm) (h : OkI Q (FX10_anew_0   f)) : Ev G l MX10_anew (Rm 2 0 0) (ZM G Q 0 0) 0 0 0 [some (vR 0), none] [] (SH, RF, f) := by
  unfold FX10_anew_0 at h
  refine ev_aload_n (i := 0) dX10_anew_0 rfl rfl ?_
  refine ev_getR dX10_anew_1 fl_X10_19 sh_0 (by decide) (by decide) rf_0_1 ?_
  refine ev_cVI (b := 4) (av := []) (S := []) (fun q => q) h dX10_anew_4 (fun Q' q => TX0_stands_4 _ q) kvX0_stands ml_X10_140 sh_4 rfl (RRc (by decide) (by decide)) (Nat.le_of_ble_eq_true rfl) ⟨Nat.le_of_ble_eq_true rfl, Nat.le_of_ble_eq_true rfl⟩ (fun y1 f1 h => ?_)
  refine ev_if_ne (tgt := 13) dX10_anew_7 (by decide) (fun c3 => ?_) (fun c3 => ?_)
  · rw [if_neg c3] at h
    refine ev_aload_n (i := 0) dX10_anew_13 rfl rfl ?_
    refine ev_getR dX10_anew_14 fl_X10_19 sh_0 (by decide) (by decide) rf_0_1 ?_
    refine ex_getI (x := (f1 4 6)) dX10_anew_17 fl_X10_365 sh_4 (by decide) (by decide) rfl ?_
    refine ev_istore_n (i := 1) (L' := [some (vR 0), some (vI (f1 4 6))]) dX10_anew_20 rfl (by decide) rfl ?_
    refine ev_aload_n (i := 0) dX10_anew_21 rfl rfl ?_
    refine ev_getR dX10_anew_22 fl_X10_19 sh_0 (by decide) (by decide) rf_0_1 ?_
    refine ev_cVV (b := 4) (av := []) (S := []) (fun q => q) h dX10_anew_25 (fun Q' q => TX0_takeAllBack_4 _ q) kvX0_takeAllBack ml_X10_374 sh_4 rfl (RRc (by decide) (by decide)) (Nat.le_of_ble_eq_true rfl) ⟨Nat.le_of_ble_eq_true rfl, Nat.le_of_ble_eq_true rfl⟩ (fun f2 h => ?_)
    refine ev_iload_n (i := 1) dX10_anew_28 rfl rfl ?_
    exact ev_iret rfl dX10_anew_29 h
  · rw [if_pos c3] at h
    refine ev_bipush (v := (-2)) dX10_anew_10 (r32c rfl) (by decide) ?_
    exact ev_iret rfl dX10_anew_12 h
def FX10_anew  (f : Mm) : Option (Int × Mm) := FX10_anew_0  f
theorem TX10_anew {G : GT} {l : Launch} {Q : Option AV → Mem → Prop}  (f : Mm) (h : OkI Q (FX10_anew  f)) : Ret G l MX10_anew (2) 0 0 [vR 0] (SH, RF, f) Q := by
  refine ret_of (L := [some (vR 0), none]) (by decide) rfl (Nat.le_of_ble_eq_true rfl) ?_
  exact SX10_anew_0  f h
theorem dX10_done_0 : decode cX10_done 0 = .ok (.aload_n 0, 1) := by decide +kernel
theorem dX10_done_1 : decode cX10_done 1 = .ok (.getfield 19, 3) := by decide +kernel
theorem dX10_done_4 : decode cX10_done 4 = .ok (.iload_n 1, 1) := by decide +kernel
theorem dX10_done_5 : decode cX10_done 5 = .ok (.invokevirtual 126, 3) := by decide +kernel
theorem dX10_done_8 : decode cX10_done 8 = .ok (.ifCond .eq 15, 3) := by decide +kernel
theorem dX10_done_23 : decode cX10_done 23 = .ok (.bipush (-2), 2) := by decide +kernel
theorem dX10_done_25 : decode cX10_done 25 = .ok (.ireturn, 1) := by decide +kernel
theorem dX10_done_11 : decode cX10_done 11 = .ok (.aload_n 0, 1) := by decide +kernel
theorem dX10_done_12 : decode cX10_done 12 = .ok (.getfield 19, 3) := by decide +kernel
theorem dX10_done_15 : decode cX10_done 15 = .ok (.getfield 182, 3) := by decide +kernel
theorem dX10_done_18 : decode cX10_done 18 = .ok (.iload_n 1, 1) := by decide +kernel
theorem dX10_done_19 : decode cX10_done 19 = .ok (.iaload, 1) := by decide +kernel
theorem dX10_done_20 : decode cX10_done 20 = .ok (.goto 5, 3) := by decide +kernel
def FX10_done_0  (x1 : Int) (f : Mm) : Option (Int × Mm) := (b2 (FX0_hasDay_4 x1 f) fun y1 f1 => (if y1 = 0 then some ((-2), f1) else (if 0 ≤ x1 ∧ x1 < 6 then some ((f1 18 x1.toNat), f1) else none)))
set_option maxHeartbeats 4000000 in
set_option maxRecDepth 100000 in
theorem SX10_done_0 {G : GT} {l : Launch} {Q : Option AV → Mem → Prop}  (x1 : Int) (f : Mm) (h : OkI Q (FX10_done_0  x1 f)) : Ev G l MX10_done (Rm 2 0 0) (ZM G Q 0 0) 0 0 0 [some (vR 0), some (vI x1)] [] (SH, RF, f) := by
  unfold FX10_done_0 at h
  refine ev_aload_n (i := 0) dX10_done_0 rfl rfl ?_
  refine ev_getR dX10_done_1 fl_X10_19 sh_0 (by decide) (by decide) rf_0_1 ?_
  refine ev_iload_n (i := 1) dX10_done_4 rfl rfl ?_
  refine ev_cVI (b := 4) (av := [vI x1]) (S := []) (fun q => q) h dX10_done_5 (fun Q' q => TX0_hasDay_4 x1 _ q) kvX0_hasDay ml_X10_126 sh_4 rfl (RRc (by decide) (by decide)) (Nat.le_of_ble_eq_true rfl) ⟨Nat.le_of_ble_eq_true rfl, Nat.le_of_ble_eq_true rfl⟩ (fun y1 f1 h => ?_)
  refine ev_if_eq (tgt := 23) dX10_done_8 (by decide) (fun c3 => ?_) (fun c3 => ?_)
  · rw [if_pos c3] at h
    refine ev_bipush (v := (-2)) dX10_done_23 (r32c rfl) (by decide) ?_
    exact ev_iret rfl dX10_done_25 h
  · rw [if_neg c3] at h
    refine ev_aload_n (i := 0) dX10_done_11 rfl rfl ?_
    refine ev_getR dX10_done_12 fl_X10_19 sh_0 (by decide) (by decide) rf_0_1 ?_
    refine ev_getR dX10_done_15 fl_X10_182 sh_4 (by decide) (by decide) rf_4_10 ?_
    refine ev_iload_n (i := 1) dX10_done_18 rfl rfl ?_
    by_cases g2 : 0 ≤ x1 ∧ x1 < 6
    · rw [if_pos g2] at h
      refine ex_iald (x := (f1 18 x1.toNat)) dX10_done_19 sh_18 g2.1 g2.2 rfl ?_
      refine ev_goto (tgt := 25) dX10_done_20 (by decide) ?_
      exact ev_iret rfl dX10_done_25 h
    · rw [if_neg g2] at h; exact h.elim
def FX10_done (x1 : Int) (f : Mm) : Option (Int × Mm) := FX10_done_0 x1 f
theorem TX10_done {G : GT} {l : Launch} {Q : Option AV → Mem → Prop} (x1 : Int) (f : Mm) (h : OkI Q (FX10_done x1 f)) : Ret G l MX10_done (2) 0 0 [vR 0, vI x1] (SH, RF, f) Q := by
  refine ret_of (L := [some (vR 0), some (vI x1)]) (by decide) rfl (Nat.le_of_ble_eq_true rfl) ?_
  exact SX10_done_0 x1 f h
theorem dX10_isPay_0 : decode cX10_isPay 0 = .ok (.iload_n 0, 1) := by decide +kernel
theorem dX10_isPay_1 : decode cX10_isPay 1 = .ok (.ifCond .lt 14, 3) := by decide +kernel
theorem dX10_isPay_15 : decode cX10_isPay 15 = .ok (.iconst 0, 1) := by decide +kernel
theorem dX10_isPay_16 : decode cX10_isPay 16 = .ok (.ireturn, 1) := by decide +kernel
theorem dX10_isPay_4 : decode cX10_isPay 4 = .ok (.iload_n 0, 1) := by decide +kernel
theorem dX10_isPay_5 : decode cX10_isPay 5 = .ok (.sipush 999, 3) := by decide +kernel
theorem dX10_isPay_8 : decode cX10_isPay 8 = .ok (.if_icmp .gt 7, 3) := by decide +kernel
theorem dX10_isPay_11 : decode cX10_isPay 11 = .ok (.iconst 1, 1) := by decide +kernel
theorem dX10_isPay_12 : decode cX10_isPay 12 = .ok (.goto 4, 3) := by decide +kernel
def FX10_isPay_0  (x0 : Int) (f : Mm) : Option (Int × Mm) := (if x0 < 0 then some (0, f) else (if 999 < x0 then some (0, f) else some (1, f)))
set_option maxHeartbeats 4000000 in
set_option maxRecDepth 100000 in
theorem SX10_isPay_0 {G : GT} {l : Launch} {Q : Option AV → Mem → Prop}  (x0 : Int) (f : Mm) (h : OkI Q (FX10_isPay_0  x0 f)) : Ev G l MX10_isPay (Rm 1 0 0) (ZM G Q 0 0) 0 0 0 [some (vI x0)] [] (SH, RF, f) := by
  unfold FX10_isPay_0 at h
  refine ev_iload_n (i := 0) dX10_isPay_0 rfl rfl ?_
  refine ev_if_lt (tgt := 15) dX10_isPay_1 (by decide) (fun c2 => ?_) (fun c2 => ?_)
  · rw [if_pos c2] at h
    refine ev_iconst dX10_isPay_15 (r32c rfl) ?_
    exact ev_zret rfl (by decide) dX10_isPay_16 h
  · rw [if_neg c2] at h
    refine ev_iload_n (i := 0) dX10_isPay_4 rfl rfl ?_
    refine ev_sipush (v := 999) dX10_isPay_5 (r32c rfl) (by decide) ?_
    refine ev_icmp_gt (tgt := 15) dX10_isPay_8 (by decide) (fun c1 => ?_) (fun c1 => ?_)
    · rw [if_pos c1] at h
      refine ev_iconst dX10_isPay_15 (r32c rfl) ?_
      exact ev_zret rfl (by decide) dX10_isPay_16 h
    · rw [if_neg c1] at h
      refine ev_iconst dX10_isPay_11 (r32c rfl) ?_
      refine ev_goto (tgt := 16) dX10_isPay_12 (by decide) ?_
      exact ev_zret rfl (by decide) dX10_isPay_16 h
def FX10_isPay (x0 : Int) (f : Mm) : Option (Int × Mm) := FX10_isPay_0 x0 f
theorem TX10_isPay {G : GT} {l : Launch} {Q : Option AV → Mem → Prop} (x0 : Int) (f : Mm) (h : OkI Q (FX10_isPay x0 f)) : Ret G l MX10_isPay (1) 0 0 [vI x0] (SH, RF, f) Q := by
  refine ret_of (L := [some (vI x0)]) (by decide) rfl (Nat.le_of_ble_eq_true rfl) ?_
  exact SX10_isPay_0 x0 f h
theorem dX10_rate_0 : decode cX10_rate 0 = .ok (.aload_n 0, 1) := by decide +kernel
theorem dX10_rate_1 : decode cX10_rate 1 = .ok (.getfield 19, 3) := by decide +kernel
theorem dX10_rate_4 : decode cX10_rate 4 = .ok (.iload_n 1, 1) := by decide +kernel
theorem dX10_rate_5 : decode cX10_rate 5 = .ok (.invokevirtual 117, 3) := by decide +kernel
theorem dX10_rate_8 : decode cX10_rate 8 = .ok (.ifCond .eq 10, 3) := by decide +kernel
theorem dX10_rate_18 : decode cX10_rate 18 = .ok (.bipush (-2), 2) := by decide +kernel
theorem dX10_rate_20 : decode cX10_rate 20 = .ok (.ireturn, 1) := by decide +kernel
theorem dX10_rate_11 : decode cX10_rate 11 = .ok (.iload_n 2, 1) := by decide +kernel
theorem dX10_rate_12 : decode cX10_rate 12 = .ok (.invokestatic 377, 3) := by decide +kernel
theorem dX10_rate_15 : decode cX10_rate 15 = .ok (.ifCond .ne 6, 3) := by decide +kernel
theorem dX10_rate_21 : decode cX10_rate 21 = .ok (.aload_n 0, 1) := by decide +kernel
theorem dX10_rate_22 : decode cX10_rate 22 = .ok (.getfield 19, 3) := by decide +kernel
theorem dX10_rate_25 : decode cX10_rate 25 = .ok (.getfield 365, 3) := by decide +kernel
theorem dX10_rate_28 : decode cX10_rate 28 = .ok (.ifCond .le 6, 3) := by decide +kernel
theorem dX10_rate_34 : decode cX10_rate 34 = .ok (.aload_n 0, 1) := by decide +kernel
theorem dX10_rate_35 : decode cX10_rate 35 = .ok (.getfield 19, 3) := by decide +kernel
theorem dX10_rate_38 : decode cX10_rate 38 = .ok (.getfield 120, 3) := by decide +kernel
theorem dX10_rate_41 : decode cX10_rate 41 = .ok (.iload_n 1, 1) := by decide +kernel
theorem dX10_rate_42 : decode cX10_rate 42 = .ok (.aaload, 1) := by decide +kernel
theorem dX10_rate_43 : decode cX10_rate 43 = .ok (.iconst 4, 1) := by decide +kernel
theorem dX10_rate_44 : decode cX10_rate 44 = .ok (.iaload, 1) := by decide +kernel
theorem dX10_rate_45 : decode cX10_rate 45 = .ok (.istore_n 3, 1) := by decide +kernel
theorem dX10_rate_46 : decode cX10_rate 46 = .ok (.aload_n 0, 1) := by decide +kernel
theorem dX10_rate_47 : decode cX10_rate 47 = .ok (.getfield 19, 3) := by decide +kernel
theorem dX10_rate_50 : decode cX10_rate 50 = .ok (.getfield 120, 3) := by decide +kernel
theorem dX10_rate_53 : decode cX10_rate 53 = .ok (.iload_n 1, 1) := by decide +kernel
theorem dX10_rate_54 : decode cX10_rate 54 = .ok (.aaload, 1) := by decide +kernel
theorem dX10_rate_55 : decode cX10_rate 55 = .ok (.iconst 4, 1) := by decide +kernel
theorem dX10_rate_56 : decode cX10_rate 56 = .ok (.iload_n 2, 1) := by decide +kernel
theorem dX10_rate_57 : decode cX10_rate 57 = .ok (.iastore, 1) := by decide +kernel
theorem dX10_rate_58 : decode cX10_rate 58 = .ok (.iload_n 3, 1) := by decide +kernel
theorem dX10_rate_59 : decode cX10_rate 59 = .ok (.ireturn, 1) := by decide +kernel
theorem dX10_rate_31 : decode cX10_rate 31 = .ok (.bipush (-5), 2) := by decide +kernel
theorem dX10_rate_33 : decode cX10_rate 33 = .ok (.ireturn, 1) := by decide +kernel
def FX10_rate_0  (x1 : Int) (x2 : Int) (f : Mm) : Option (Int × Mm) := (b2 (FX0_hasCart_4 x1 f) fun y1 f1 => (if y1 = 0 then some ((-2), f1) else (b2 (FX10_isPay x2 f1) fun y2 f2 => (if y2 = 0 then some ((-2), f2) else (if (f2 4 6) ≤ 0 then (if 0 ≤ x1 ∧ x1 < 6 then (if 0 ≤ x1 ∧ x1 < 6 then some ((f2 (12 + x1.toNat) 4), (up f2 (12 + x1.toNat) 4 x2)) else none) else none) else some ((-5), f2))))))
set_option maxHeartbeats 4000000 in
set_option maxRecDepth 100000 in
theorem SX10_rate_0 {G : GT} {l : Launch} {Q : Option AV → Mem → Prop}  (x1 : Int) (x2 : Int) (f : Mm) (h : OkI Q (FX10_rate_0  x1 x2 f)) : Ev G l MX10_rate (Rm 2 0 0) (ZM G Q 0 0) 0 0 0 [some (vR 0), some (vI x1), some (vI x2), none] [] (SH, RF, f) := by
  unfold FX10_rate_0 at h
  refine ev_aload_n (i := 0) dX10_rate_0 rfl rfl ?_
  refine ev_getR dX10_rate_1 fl_X10_19 sh_0 (by decide) (by decide) rf_0_1 ?_
  refine ev_iload_n (i := 1) dX10_rate_4 rfl rfl ?_
  refine ev_cVI (b := 4) (av := [vI x1]) (S := []) (fun q => q) h dX10_rate_5 (fun Q' q => TX0_hasCart_4 x1 _ q) kvX0_hasCart ml_X10_117 sh_4 rfl (RRc (by decide) (by decide)) (Nat.le_of_ble_eq_true rfl) ⟨Nat.le_of_ble_eq_true rfl, Nat.le_of_ble_eq_true rfl⟩ (fun y1 f1 h => ?_)
  refine ev_if_eq (tgt := 18) dX10_rate_8 (by decide) (fun c7 => ?_) (fun c7 => ?_)
  · rw [if_pos c7] at h
    refine ev_bipush (v := (-2)) dX10_rate_18 (r32c rfl) (by decide) ?_
    exact ev_iret rfl dX10_rate_20 h
  · rw [if_neg c7] at h
    refine ev_iload_n (i := 2) dX10_rate_11 rfl rfl ?_
    refine ev_cSI (av := [vI x2]) (S := []) (fun q => q) h dX10_rate_12 (fun Q' q => TX10_isPay x2 _ q) ksX10_isPay ml_X10_377 rfl (RRc (by decide) (by decide)) (Nat.le_of_ble_eq_true rfl) ⟨Nat.le_of_ble_eq_true rfl, Nat.le_of_ble_eq_true rfl⟩ (fun y2 f2 h => ?_)
    refine ev_if_ne (tgt := 21) dX10_rate_15 (by decide) (fun c6 => ?_) (fun c6 => ?_)
    · rw [if_neg c6] at h
      refine ev_aload_n (i := 0) dX10_rate_21 rfl rfl ?_
      refine ev_getR dX10_rate_22 fl_X10_19 sh_0 (by decide) (by decide) rf_0_1 ?_
      refine ex_getI (x := (f2 4 6)) dX10_rate_25 fl_X10_365 sh_4 (by decide) (by decide) rfl ?_
      refine ev_if_le (tgt := 34) dX10_rate_28 (by decide) (fun c5 => ?_) (fun c5 => ?_)
      · rw [if_pos c5] at h
        refine ev_aload_n (i := 0) dX10_rate_34 rfl rfl ?_
        refine ev_getR dX10_rate_35 fl_X10_19 sh_0 (by decide) (by decide) rf_0_1 ?_
        refine ev_getR dX10_rate_38 fl_X10_120 sh_4 (by decide) (by decide) rf_4_9 ?_
        refine ev_iload_n (i := 1) dX10_rate_41 rfl rfl ?_
        by_cases g3 : 0 ≤ x1 ∧ x1 < 6
        · rw [if_pos g3] at h
          refine ev_aald (b := (12 + x1.toNat)) dX10_rate_42 (Or.inl rfl) sh_11 g3.1 g3.2 (rfr_11 g3) ?_
          refine ev_iconst dX10_rate_43 (r32c rfl) ?_
          refine ex_iald (x := (f2 (12 + x1.toNat) 4)) dX10_rate_44 (shr_11 g3) (by decide) (by decide) rfl ?_
          refine ev_istore_n (i := 3) (L' := [some (vR 0), some (vI x1), some (vI x2), some (vI (f2 (12 + x1.toNat) 4))]) dX10_rate_45 rfl (by decide) rfl ?_
          refine ev_aload_n (i := 0) dX10_rate_46 rfl rfl ?_
          refine ev_getR dX10_rate_47 fl_X10_19 sh_0 (by decide) (by decide) rf_0_1 ?_
          refine ev_getR dX10_rate_50 fl_X10_120 sh_4 (by decide) (by decide) rf_4_9 ?_
          refine ev_iload_n (i := 1) dX10_rate_53 rfl rfl ?_
          by_cases g4 : 0 ≤ x1 ∧ x1 < 6
          · rw [if_pos g4] at h
            refine ev_aald (b := (12 + x1.toNat)) dX10_rate_54 (Or.inl rfl) sh_11 g4.1 g4.2 (rfr_11 g4) ?_
            refine ev_iconst dX10_rate_55 (r32c rfl) ?_
            refine ev_iload_n (i := 2) dX10_rate_56 rfl rfl ?_
            refine ex_iast (j := 4) dX10_rate_57 (shr_11 g4) (by decide) (by decide) rfl ?_
            refine ev_iload_n (i := 3) dX10_rate_58 rfl rfl ?_
            exact ev_iret rfl dX10_rate_59 h
          · rw [if_neg g4] at h; exact h.elim
        · rw [if_neg g3] at h; exact h.elim
      · rw [if_neg c5] at h
        refine ev_bipush (v := (-5)) dX10_rate_31 (r32c rfl) (by decide) ?_
        exact ev_iret rfl dX10_rate_33 h
    · rw [if_pos c6] at h
      refine ev_bipush (v := (-2)) dX10_rate_18 (r32c rfl) (by decide) ?_
      exact ev_iret rfl dX10_rate_20 h
def FX10_rate (x1 : Int) (x2 : Int) (f : Mm) : Option (Int × Mm) := FX10_rate_0 x1 x2 f
theorem TX10_rate {G : GT} {l : Launch} {Q : Option AV → Mem → Prop} (x1 : Int) (x2 : Int) (f : Mm) (h : OkI Q (FX10_rate x1 x2 f)) : Ret G l MX10_rate (2) 0 0 [vR 0, vI x1, vI x2] (SH, RF, f) Q := by
  refine ret_of (L := [some (vR 0), some (vI x1), some (vI x2), none]) (by decide) rfl (Nat.le_of_ble_eq_true rfl) ?_
  exact SX10_rate_0 x1 x2 f h
theorem dX6_filled_20 : decode cX6_filled 20 = .ok (.iinc 2 1, 3) := by decide +kernel
theorem dX6_filled_23 : decode cX6_filled 23 = .ok (.goto (-19), 3) := by decide +kernel
theorem dX6_filled_4 : decode cX6_filled 4 = .ok (.iload_n 2, 1) := by decide +kernel
theorem dX6_filled_5 : decode cX6_filled 5 = .ok (.iconst 4, 1) := by decide +kernel
theorem dX6_filled_6 : decode cX6_filled 6 = .ok (.if_icmp .ge 20, 3) := by decide +kernel
theorem dX6_filled_26 : decode cX6_filled 26 = .ok (.iload_n 1, 1) := by decide +kernel
theorem dX6_filled_27 : decode cX6_filled 27 = .ok (.ireturn, 1) := by decide +kernel
theorem dX6_filled_9 : decode cX6_filled 9 = .ok (.aload_n 0, 1) := by decide +kernel
theorem dX6_filled_10 : decode cX6_filled 10 = .ok (.iload_n 2, 1) := by decide +kernel
theorem dX6_filled_11 : decode cX6_filled 11 = .ok (.invokevirtual 23, 3) := by decide +kernel
theorem dX6_filled_14 : decode cX6_filled 14 = .ok (.ifCond .eq 6, 3) := by decide +kernel
theorem dX6_filled_17 : decode cX6_filled 17 = .ok (.iinc 1 1, 3) := by decide +kernel
theorem dX6_filled_0 : decode cX6_filled 0 = .ok (.iconst 0, 1) := by decide +kernel
theorem dX6_filled_1 : decode cX6_filled 1 = .ok (.istore_n 1, 1) := by decide +kernel
theorem dX6_filled_2 : decode cX6_filled 2 = .ok (.iconst 0, 1) := by decide +kernel
theorem dX6_filled_3 : decode cX6_filled 3 = .ok (.istore_n 2, 1) := by decide +kernel
def FX6_filled_20 (k4 : Int → Int → Mm → Option (Int × Mm)) (x1 : Int) (x2 : Int) (f : Mm) : Option (Int × Mm) := k4 x1 (w32 (x2 + 1)) f
set_option maxHeartbeats 4000000 in
set_option maxRecDepth 100000 in
theorem SX6_filled_20 {G : GT} {l : Launch} {Q : Option AV → Mem → Prop} {k4 : Int → Int → Mm → Option (Int × Mm)} (q4 : ∀ (x1 : Int) (x2 : Int) (f : Mm), OkI Q (k4 x1 x2 f) → Ev G l MX6_filled (Rm 2 0 0) (ZM G Q 0 0) 0 0 4 [some (vR 40), some (vI x1), some (vI x2)] [] (SH, RF, f)) (x1 : Int) (x2 : Int) (f : Mm) (h : OkI Q (FX6_filled_20 k4 x1 x2 f)) : Ev G l MX6_filled (Rm 2 0 0) (ZM G Q 0 0) 0 0 20 [some (vR 40), some (vI x1), some (vI x2)] [] (SH, RF, f) := by
  unfold FX6_filled_20 at h
  refine ev_iinc (L' := [some (vR 40), some (vI x1), some (vI (w32 (x2 + 1)))]) dX6_filled_20 rfl (by decide) rfl ?_
  refine ev_goto (tgt := 4) dX6_filled_23 (by decide) ?_
  exact q4 x1 (w32 (x2 + 1)) _ h
def FX6_filled_4  : Nat → Int → Int → Mm → Option (Int × Mm)
  | 0, _, _, _ => none
  | n + 1, x1, x2, f => (if 4 ≤ x2 then some (x1, f) else (b2 (FX6_hasRow x2 f) fun y1 f1 => (if y1 = 0 then FX6_filled_20 (FX6_filled_4 n) x1 x2 f1 else FX6_filled_20 (FX6_filled_4 n) (w32 (x1 + 1)) x2 f1)))
set_option maxHeartbeats 4000000 in
set_option maxRecDepth 100000 in
theorem SX6_filled_4 {G : GT} {l : Launch} {Q : Option AV → Mem → Prop}  : ∀ (n : Nat) (x1 : Int) (x2 : Int) (f : Mm), OkI Q (FX6_filled_4  n x1 x2 f) → Ev G l MX6_filled (Rm 2 0 0) (ZM G Q 0 0) 0 0 4 [some (vR 40), some (vI x1), some (vI x2)] [] (SH, RF, f) := by
  intro n
  induction n with
  | zero => intro x1 x2 f h; exact absurd h (by rw [FX6_filled_4]; exact fun q => q)
  | succ n ih =>
    intro x1 x2 f h
    rw [FX6_filled_4] at h
    refine ev_iload_n (i := 2) dX6_filled_4 rfl rfl ?_
    refine ev_iconst dX6_filled_5 (r32c rfl) ?_
    refine ev_icmp_ge (tgt := 26) dX6_filled_6 (by decide) (fun c3 => ?_) (fun c3 => ?_)
    · rw [if_pos c3] at h
      refine ev_iload_n (i := 1) dX6_filled_26 rfl rfl ?_
      exact ev_iret rfl dX6_filled_27 h
    · rw [if_neg c3] at h
      refine ev_aload_n (i := 0) dX6_filled_9 rfl rfl ?_
      refine ev_iload_n (i := 2) dX6_filled_10 rfl rfl ?_
      refine ev_cVI (b := 40) (av := [vI x2]) (S := []) (fun q => q) h dX6_filled_11 (fun Q' q => TX6_hasRow x2 _ q) kvX6_hasRow ml_X6_23 sh_40 rfl (RRc (by decide) (by decide)) (Nat.le_of_ble_eq_true rfl) ⟨Nat.le_of_ble_eq_true rfl, Nat.le_of_ble_eq_true rfl⟩ (fun y1 f1 h => ?_)
      refine ev_if_eq (tgt := 20) dX6_filled_14 (by decide) (fun c2 => ?_) (fun c2 => ?_)
      · rw [if_pos c2] at h
        exact SX6_filled_20 ih x1 x2 _ h
      · rw [if_neg c2] at h
        refine ev_iinc (L' := [some (vR 40), some (vI (w32 (x1 + 1))), some (vI x2)]) dX6_filled_17 rfl (by decide) rfl ?_
        exact SX6_filled_20 ih (w32 (x1 + 1)) x2 _ h
def FX6_filled_0   (f : Mm) : Option (Int × Mm) := FX6_filled_4 fu 0 0 f
set_option maxHeartbeats 4000000 in
set_option maxRecDepth 100000 in
theorem SX6_filled_0 {G : GT} {l : Launch} {Q : Option AV → Mem → Prop}   (f : Mm) (h : OkI Q (FX6_filled_0   f)) : Ev G l MX6_filled (Rm 2 0 0) (ZM G Q 0 0) 0 0 0 [some (vR 40), none, none] [] (SH, RF, f) := by
  unfold FX6_filled_0 at h
  refine ev_iconst dX6_filled_0 (r32c rfl) ?_
  refine ev_istore_n (i := 1) (L' := [some (vR 40), some (vI 0), none]) dX6_filled_1 rfl (by decide) rfl ?_
  refine ev_iconst dX6_filled_2 (r32c rfl) ?_
  refine ev_istore_n (i := 2) (L' := [some (vR 40), some (vI 0), some (vI 0)]) dX6_filled_3 rfl (by decide) rfl ?_
  exact SX6_filled_4  fu 0 0 _ h
def FX6_filled  (f : Mm) : Option (Int × Mm) := FX6_filled_0  f
theorem TX6_filled {G : GT} {l : Launch} {Q : Option AV → Mem → Prop}  (f : Mm) (h : OkI Q (FX6_filled  f)) : Ret G l MX6_filled (2) 0 0 [vR 40] (SH, RF, f) Q := by
  refine ret_of (L := [some (vR 40), none, none]) (by decide) rfl (Nat.le_of_ble_eq_true rfl) ?_
  exact SX6_filled_0  f h
theorem dX10_count_0 : decode cX10_count 0 = .ok (.iload_n 1, 1) := by decide +kernel
theorem dX10_count_1 : decode cX10_count 1 = .ok (.tableswitch 126 0 8 #[51, 59, 67, 75, 83, 91, 99, 107, 118], 51) := by decide +kernel
theorem dX10_count_52 : decode cX10_count 52 = .ok (.aload_n 0, 1) := by decide +kernel
theorem dX10_count_53 : decode cX10_count 53 = .ok (.getfield 19, 3) := by decide +kernel
theorem dX10_count_56 : decode cX10_count 56 = .ok (.getfield 144, 3) := by decide +kernel
theorem dX10_count_59 : decode cX10_count 59 = .ok (.ireturn, 1) := by decide +kernel
theorem dX10_count_60 : decode cX10_count 60 = .ok (.aload_n 0, 1) := by decide +kernel
theorem dX10_count_61 : decode cX10_count 61 = .ok (.getfield 19, 3) := by decide +kernel
theorem dX10_count_64 : decode cX10_count 64 = .ok (.getfield 380, 3) := by decide +kernel
theorem dX10_count_67 : decode cX10_count 67 = .ok (.ireturn, 1) := by decide +kernel
theorem dX10_count_68 : decode cX10_count 68 = .ok (.aload_n 0, 1) := by decide +kernel
theorem dX10_count_69 : decode cX10_count 69 = .ok (.getfield 19, 3) := by decide +kernel
theorem dX10_count_72 : decode cX10_count 72 = .ok (.getfield 383, 3) := by decide +kernel
theorem dX10_count_75 : decode cX10_count 75 = .ok (.ireturn, 1) := by decide +kernel
theorem dX10_count_76 : decode cX10_count 76 = .ok (.aload_n 0, 1) := by decide +kernel
theorem dX10_count_77 : decode cX10_count 77 = .ok (.getfield 19, 3) := by decide +kernel
theorem dX10_count_80 : decode cX10_count 80 = .ok (.getfield 220, 3) := by decide +kernel
theorem dX10_count_83 : decode cX10_count 83 = .ok (.ireturn, 1) := by decide +kernel
theorem dX10_count_84 : decode cX10_count 84 = .ok (.aload_n 0, 1) := by decide +kernel
theorem dX10_count_85 : decode cX10_count 85 = .ok (.getfield 19, 3) := by decide +kernel
theorem dX10_count_88 : decode cX10_count 88 = .ok (.getfield 161, 3) := by decide +kernel
theorem dX10_count_91 : decode cX10_count 91 = .ok (.ireturn, 1) := by decide +kernel
theorem dX10_count_92 : decode cX10_count 92 = .ok (.aload_n 0, 1) := by decide +kernel
theorem dX10_count_93 : decode cX10_count 93 = .ok (.getfield 19, 3) := by decide +kernel
theorem dX10_count_96 : decode cX10_count 96 = .ok (.getfield 365, 3) := by decide +kernel
theorem dX10_count_99 : decode cX10_count 99 = .ok (.ireturn, 1) := by decide +kernel
theorem dX10_count_100 : decode cX10_count 100 = .ok (.aload_n 0, 1) := by decide +kernel
theorem dX10_count_101 : decode cX10_count 101 = .ok (.getfield 19, 3) := by decide +kernel
theorem dX10_count_104 : decode cX10_count 104 = .ok (.getfield 103, 3) := by decide +kernel
theorem dX10_count_107 : decode cX10_count 107 = .ok (.ireturn, 1) := by decide +kernel
theorem dX10_count_108 : decode cX10_count 108 = .ok (.aload_n 0, 1) := by decide +kernel
theorem dX10_count_109 : decode cX10_count 109 = .ok (.getfield 10, 3) := by decide +kernel
theorem dX10_count_112 : decode cX10_count 112 = .ok (.getfield 76, 3) := by decide +kernel
theorem dX10_count_115 : decode cX10_count 115 = .ok (.getfield 80, 3) := by decide +kernel
theorem dX10_count_118 : decode cX10_count 118 = .ok (.ireturn, 1) := by decide +kernel
theorem dX10_count_119 : decode cX10_count 119 = .ok (.aload_n 0, 1) := by decide +kernel
theorem dX10_count_120 : decode cX10_count 120 = .ok (.getfield 37, 3) := by decide +kernel
theorem dX10_count_123 : decode cX10_count 123 = .ok (.invokevirtual 386, 3) := by decide +kernel
theorem dX10_count_126 : decode cX10_count 126 = .ok (.ireturn, 1) := by decide +kernel
theorem dX10_count_127 : decode cX10_count 127 = .ok (.iconst (-1), 1) := by decide +kernel
theorem dX10_count_128 : decode cX10_count 128 = .ok (.ireturn, 1) := by decide +kernel
def FX10_count_0  (x1 : Int) (f : Mm) : Option (Int × Mm) := (if x1 = 0 then some ((f 4 1), f) else (if x1 = 1 then some ((f 4 2), f) else (if x1 = 2 then some ((f 4 3), f) else (if x1 = 3 then some ((f 4 4), f) else (if x1 = 4 then some ((f 4 5), f) else (if x1 = 5 then some ((f 4 6), f) else (if x1 = 6 then some ((f 4 0), f) else (if x1 = 7 then some ((f 2 1), f) else (if x1 = 8 then (b2 (FX6_filled f) fun y10 f10 => some (y10, f10)) else some ((-1), f))))))))))
set_option maxHeartbeats 4000000 in
set_option maxRecDepth 100000 in
theorem SX10_count_0 {G : GT} {l : Launch} {Q : Option AV → Mem → Prop}  (x1 : Int) (f : Mm) (h : OkI Q (FX10_count_0  x1 f)) : Ev G l MX10_count (Rm 3 0 0) (ZM G Q 0 0) 0 0 0 [some (vR 0), some (vI x1)] [] (SH, RF, f) := by
  unfold FX10_count_0 at h
  refine ev_iload_n (i := 1) dX10_count_0 rfl rfl ?_
  by_cases c1 : x1 = 0
  · rw [if_pos c1] at h
    refine ev_tIn (off := 51) (tgt := 52) dX10_count_1 (by omega) (by omega) (by rw [c1]; rfl) (by decide) ?_
    refine ev_aload_n (i := 0) dX10_count_52 rfl rfl ?_
    refine ev_getR dX10_count_53 fl_X10_19 sh_0 (by decide) (by decide) rf_0_1 ?_
    refine ex_getI (x := (f 4 1)) dX10_count_56 fl_X10_144 sh_4 (by decide) (by decide) rfl ?_
    exact ev_iret rfl dX10_count_59 h
  · rw [if_neg c1] at h
    by_cases c2 : x1 = 1
    · rw [if_pos c2] at h
      refine ev_tIn (off := 59) (tgt := 60) dX10_count_1 (by omega) (by omega) (by rw [c2]; rfl) (by decide) ?_
      refine ev_aload_n (i := 0) dX10_count_60 rfl rfl ?_
      refine ev_getR dX10_count_61 fl_X10_19 sh_0 (by decide) (by decide) rf_0_1 ?_
      refine ex_getI (x := (f 4 2)) dX10_count_64 fl_X10_380 sh_4 (by decide) (by decide) rfl ?_
      exact ev_iret rfl dX10_count_67 h
    · rw [if_neg c2] at h
      by_cases c3 : x1 = 2
      · rw [if_pos c3] at h
        refine ev_tIn (off := 67) (tgt := 68) dX10_count_1 (by omega) (by omega) (by rw [c3]; rfl) (by decide) ?_
        refine ev_aload_n (i := 0) dX10_count_68 rfl rfl ?_
        refine ev_getR dX10_count_69 fl_X10_19 sh_0 (by decide) (by decide) rf_0_1 ?_
        refine ex_getI (x := (f 4 3)) dX10_count_72 fl_X10_383 sh_4 (by decide) (by decide) rfl ?_
        exact ev_iret rfl dX10_count_75 h
      · rw [if_neg c3] at h
        by_cases c4 : x1 = 3
        · rw [if_pos c4] at h
          refine ev_tIn (off := 75) (tgt := 76) dX10_count_1 (by omega) (by omega) (by rw [c4]; rfl) (by decide) ?_
          refine ev_aload_n (i := 0) dX10_count_76 rfl rfl ?_
          refine ev_getR dX10_count_77 fl_X10_19 sh_0 (by decide) (by decide) rf_0_1 ?_
          refine ex_getI (x := (f 4 4)) dX10_count_80 fl_X10_220 sh_4 (by decide) (by decide) rfl ?_
          exact ev_iret rfl dX10_count_83 h
        · rw [if_neg c4] at h
          by_cases c5 : x1 = 4
          · rw [if_pos c5] at h
            refine ev_tIn (off := 83) (tgt := 84) dX10_count_1 (by omega) (by omega) (by rw [c5]; rfl) (by decide) ?_
            refine ev_aload_n (i := 0) dX10_count_84 rfl rfl ?_
            refine ev_getR dX10_count_85 fl_X10_19 sh_0 (by decide) (by decide) rf_0_1 ?_
            refine ex_getI (x := (f 4 5)) dX10_count_88 fl_X10_161 sh_4 (by decide) (by decide) rfl ?_
            exact ev_iret rfl dX10_count_91 h
          · rw [if_neg c5] at h
            by_cases c6 : x1 = 5
            · rw [if_pos c6] at h
              refine ev_tIn (off := 91) (tgt := 92) dX10_count_1 (by omega) (by omega) (by rw [c6]; rfl) (by decide) ?_
              refine ev_aload_n (i := 0) dX10_count_92 rfl rfl ?_
              refine ev_getR dX10_count_93 fl_X10_19 sh_0 (by decide) (by decide) rf_0_1 ?_
              refine ex_getI (x := (f 4 6)) dX10_count_96 fl_X10_365 sh_4 (by decide) (by decide) rfl ?_
              exact ev_iret rfl dX10_count_99 h
            · rw [if_neg c6] at h
              by_cases c7 : x1 = 6
              · rw [if_pos c7] at h
                refine ev_tIn (off := 99) (tgt := 100) dX10_count_1 (by omega) (by omega) (by rw [c7]; rfl) (by decide) ?_
                refine ev_aload_n (i := 0) dX10_count_100 rfl rfl ?_
                refine ev_getR dX10_count_101 fl_X10_19 sh_0 (by decide) (by decide) rf_0_1 ?_
                refine ex_getI (x := (f 4 0)) dX10_count_104 fl_X10_103 sh_4 (by decide) (by decide) rfl ?_
                exact ev_iret rfl dX10_count_107 h
              · rw [if_neg c7] at h
                by_cases c8 : x1 = 7
                · rw [if_pos c8] at h
                  refine ev_tIn (off := 107) (tgt := 108) dX10_count_1 (by omega) (by omega) (by rw [c8]; rfl) (by decide) ?_
                  refine ev_aload_n (i := 0) dX10_count_108 rfl rfl ?_
                  refine ev_getR dX10_count_109 fl_X10_10 sh_0 (by decide) (by decide) rf_0_0 ?_
                  refine ev_getR dX10_count_112 fl_X10_76 sh_1 (by decide) (by decide) rf_1_2 ?_
                  refine ex_getI (x := (f 2 1)) dX10_count_115 fl_X10_80 sh_2 (by decide) (by decide) rfl ?_
                  exact ev_iret rfl dX10_count_118 h
                · rw [if_neg c8] at h
                  by_cases c9 : x1 = 8
                  · rw [if_pos c9] at h
                    refine ev_tIn (off := 118) (tgt := 119) dX10_count_1 (by omega) (by omega) (by rw [c9]; rfl) (by decide) ?_
                    refine ev_aload_n (i := 0) dX10_count_119 rfl rfl ?_
                    refine ev_getR dX10_count_120 fl_X10_37 sh_0 (by decide) (by decide) rf_0_5 ?_
                    refine ev_cVI (b := 40) (av := []) (S := []) (fun q => q) h dX10_count_123 (fun Q' q => TX6_filled _ q) kvX6_filled ml_X10_386 sh_40 rfl (RRc (by decide) (by decide)) (Nat.le_of_ble_eq_true rfl) ⟨Nat.le_of_ble_eq_true rfl, Nat.le_of_ble_eq_true rfl⟩ (fun y10 f10 h => ?_)
                    exact ev_iret rfl dX10_count_126 h
                  · rw [if_neg c9] at h
                    refine ev_tOut (tgt := 127) dX10_count_1 (by omega) (by decide) ?_
                    refine ev_iconst dX10_count_127 (r32c rfl) ?_
                    exact ev_iret rfl dX10_count_128 h
def FX10_count (x1 : Int) (f : Mm) : Option (Int × Mm) := FX10_count_0 x1 f
theorem TX10_count {G : GT} {l : Launch} {Q : Option AV → Mem → Prop} (x1 : Int) (f : Mm) (h : OkI Q (FX10_count x1 f)) : Ret G l MX10_count (3) 0 0 [vR 0, vI x1] (SH, RF, f) Q := by
  refine ret_of (L := [some (vR 0), some (vI x1)]) (by decide) rfl (Nat.le_of_ble_eq_true rfl) ?_
  exact SX10_count_0 x1 f h
def FX0_become_99_4_124   (f : Mm) : Option Mm := ((FX0_copyRow 18 113 f).bind fun f1 => ((FX0_copyRow 19 114 f1).bind fun f2 => ((FX0_copyRow 20 115 f2).bind fun f3 => some f3)))
set_option maxHeartbeats 4000000 in
set_option maxRecDepth 100000 in
theorem SX0_become_99_4_124 {G : GT} {l : Launch} {Q : Option AV → Mem → Prop}   (f : Mm) (h : OkV Q (FX0_become_99_4_124   f)) : Ev G l MX0_become (Rm 2 0 0) (ZM G Q 0 0) 0 0 124 [some (vR 99), some (vR 4), none] [] (SH, RF, f) := by
  unfold FX0_become_99_4_124 at h
  refine ev_aload_n (i := 1) dX0_become_124 rfl rfl ?_
  refine ev_getR dX0_become_125 fl_X0_23 sh_4 (by decide) (by decide) rf_4_10 ?_
  refine ev_aload_n (i := 0) dX0_become_128 rfl rfl ?_
  refine ev_getR dX0_become_129 fl_X0_23 sh_99 (by decide) (by decide) rf_99_10 ?_
  refine ev_cSV (av := [vR 18, vR 113]) (S := []) (fun q => q) h dX0_become_132 (fun Q' q => TX0_copyRow 18 113 _ q) ksX0_copyRow ml_X0_57 rfl (RRc (by decide) (by decide)) (Nat.le_of_ble_eq_true rfl) ⟨Nat.le_of_ble_eq_true rfl, Nat.le_of_ble_eq_true rfl⟩ (fun f1 h => ?_)
  refine ev_aload_n (i := 1) dX0_become_135 rfl rfl ?_
  refine ev_getR dX0_become_136 fl_X0_26 sh_4 (by decide) (by decide) rf_4_11 ?_
  refine ev_aload_n (i := 0) dX0_become_139 rfl rfl ?_
  refine ev_getR dX0_become_140 fl_X0_26 sh_99 (by decide) (by decide) rf_99_11 ?_
  refine ev_cSV (av := [vR 19, vR 114]) (S := []) (fun q => q) h dX0_become_143 (fun Q' q => TX0_copyRow 19 114 _ q) ksX0_copyRow ml_X0_57 rfl (RRc (by decide) (by decide)) (Nat.le_of_ble_eq_true rfl) ⟨Nat.le_of_ble_eq_true rfl, Nat.le_of_ble_eq_true rfl⟩ (fun f2 h => ?_)
  refine ev_aload_n (i := 1) dX0_become_146 rfl rfl ?_
  refine ev_getR dX0_become_147 fl_X0_29 sh_4 (by decide) (by decide) rf_4_12 ?_
  refine ev_aload_n (i := 0) dX0_become_150 rfl rfl ?_
  refine ev_getR dX0_become_151 fl_X0_29 sh_99 (by decide) (by decide) rf_99_12 ?_
  refine ev_cSV (av := [vR 20, vR 115]) (S := []) (fun q => q) h dX0_become_154 (fun Q' q => TX0_copyRow 20 115 _ q) ksX0_copyRow ml_X0_57 rfl (RRc (by decide) (by decide)) (Nat.le_of_ble_eq_true rfl) ⟨Nat.le_of_ble_eq_true rfl, Nat.le_of_ble_eq_true rfl⟩ (fun f3 h => ?_)
  exact ev_vret rfl dX0_become_157 h
def FX0_become_99_4_97  : Nat → Int → Mm → Option Mm
  | 0, _, _ => none
  | n + 1, x2, f => (if 6 ≤ x2 then FX0_become_99_4_124 f else (if 0 ≤ x2 ∧ x2 < 6 then (if 0 ≤ x2 ∧ x2 < 6 then ((FX0_copyRow (12 + x2.toNat) (107 + x2.toNat) f).bind fun f3 => FX0_become_99_4_97 n (w32 (x2 + 1)) f3) else none) else none))
set_option maxHeartbeats 4000000 in
set_option maxRecDepth 100000 in
theorem SX0_become_99_4_97 {G : GT} {l : Launch} {Q : Option AV → Mem → Prop}  : ∀ (n : Nat) (x2 : Int) (f : Mm), OkV Q (FX0_become_99_4_97  n x2 f) → Ev G l MX0_become (Rm 2 0 0) (ZM G Q 0 0) 0 0 97 [some (vR 99), some (vR 4), some (vI x2)] [] (SH, RF, f) := by
  intro n
  induction n with
  | zero => intro x2 f h; exact absurd h (by rw [FX0_become_99_4_97]; exact fun q => q)
  | succ n ih =>
    intro x2 f h
    rw [FX0_become_99_4_97] at h
    refine ev_iload_n (i := 2) dX0_become_97 rfl rfl ?_
    refine ev_bipush (v := 6) dX0_become_98 (r32c rfl) (by decide) ?_
    refine ev_icmp_ge (tgt := 124) dX0_become_100 (by decide) (fun c4 => ?_) (fun c4 => ?_)
    · rw [if_pos c4] at h
      refine ev_fg [true, true, false] rfl ?_
      exact SX0_become_99_4_124   _ h
    · rw [if_neg c4] at h
      refine ev_aload_n (i := 1) dX0_become_103 rfl rfl ?_
      refine ev_getR dX0_become_104 fl_X0_20 sh_4 (by decide) (by decide) rf_4_9 ?_
      refine ev_iload_n (i := 2) dX0_become_107 rfl rfl ?_
      by_cases g1 : 0 ≤ x2 ∧ x2 < 6
      · rw [if_pos g1] at h
        refine ev_aald (b := (12 + x2.toNat)) dX0_become_108 (Or.inl rfl) sh_11 g1.1 g1.2 (rfr_11 g1) ?_
        refine ev_aload_n (i := 0) dX0_become_109 rfl rfl ?_
        refine ev_getR dX0_become_110 fl_X0_20 sh_99 (by decide) (by decide) rf_99_9 ?_
        refine ev_iload_n (i := 2) dX0_become_113 rfl rfl ?_
        by_cases g2 : 0 ≤ x2 ∧ x2 < 6
        · rw [if_pos g2] at h
          refine ev_aald (b := (107 + x2.toNat)) dX0_become_114 (Or.inl rfl) sh_106 g2.1 g2.2 (rfr_106 g2) ?_
          refine ev_cSV (av := [vR (12 + x2.toNat), vR (107 + x2.toNat)]) (S := []) (fun q => q) h dX0_become_115 (fun Q' q => TX0_copyRow (12 + x2.toNat) (107 + x2.toNat) _ q) ksX0_copyRow ml_X0_57 rfl (RRc (by decide) (by decide)) (Nat.le_of_ble_eq_true rfl) ⟨Nat.le_of_ble_eq_true rfl, Nat.le_of_ble_eq_true rfl⟩ (fun f3 h => ?_)
          refine ev_iinc (L' := [some (vR 99), some (vR 4), some (vI (w32 (x2 + 1)))]) dX0_become_118 rfl (by decide) rfl ?_
          refine ev_goto (tgt := 97) dX0_become_121 (by decide) ?_
          exact ih (w32 (x2 + 1)) _ h
        · rw [if_neg g2] at h; exact h.elim
      · rw [if_neg g1] at h; exact h.elim
def FX0_become_99_4_95   (f : Mm) : Option Mm := FX0_become_99_4_97 fu 0 f
set_option maxHeartbeats 4000000 in
set_option maxRecDepth 100000 in
theorem SX0_become_99_4_95 {G : GT} {l : Launch} {Q : Option AV → Mem → Prop}   (f : Mm) (h : OkV Q (FX0_become_99_4_95   f)) : Ev G l MX0_become (Rm 2 0 0) (ZM G Q 0 0) 0 0 95 [some (vR 99), some (vR 4), none] [] (SH, RF, f) := by
  unfold FX0_become_99_4_95 at h
  refine ev_iconst dX0_become_95 (r32c rfl) ?_
  refine ev_istore_n (i := 2) (L' := [some (vR 99), some (vR 4), some (vI 0)]) dX0_become_96 rfl (by decide) rfl ?_
  exact SX0_become_99_4_97  fu 0 _ h
def FX0_become_99_4_69  : Nat → Int → Mm → Option Mm
  | 0, _, _ => none
  | n + 1, x2, f => (if 4 ≤ x2 then FX0_become_99_4_95 f else (if 0 ≤ x2 ∧ x2 < 4 then (if 0 ≤ x2 ∧ x2 < 4 then ((FX0_copyRow (7 + x2.toNat) (102 + x2.toNat) f).bind fun f3 => FX0_become_99_4_69 n (w32 (x2 + 1)) f3) else none) else none))
set_option maxHeartbeats 4000000 in
set_option maxRecDepth 100000 in
theorem SX0_become_99_4_69 {G : GT} {l : Launch} {Q : Option AV → Mem → Prop}  : ∀ (n : Nat) (x2 : Int) (f : Mm), OkV Q (FX0_become_99_4_69  n x2 f) → Ev G l MX0_become (Rm 2 0 0) (ZM G Q 0 0) 0 0 69 [some (vR 99), some (vR 4), some (vI x2)] [] (SH, RF, f) := by
  intro n
  induction n with
  | zero => intro x2 f h; exact absurd h (by rw [FX0_become_99_4_69]; exact fun q => q)
  | succ n ih =>
    intro x2 f h
    rw [FX0_become_99_4_69] at h
    refine ev_iload_n (i := 2) dX0_become_69 rfl rfl ?_
    refine ev_iconst dX0_become_70 (r32c rfl) ?_
    refine ev_icmp_ge (tgt := 95) dX0_become_71 (by decide) (fun c4 => ?_) (fun c4 => ?_)
    · rw [if_pos c4] at h
      refine ev_fg [true, true, false] rfl ?_
      exact SX0_become_99_4_95   _ h
    · rw [if_neg c4] at h
      refine ev_aload_n (i := 1) dX0_become_74 rfl rfl ?_
      refine ev_getR dX0_become_75 fl_X0_17 sh_4 (by decide) (by decide) rf_4_8 ?_
      refine ev_iload_n (i := 2) dX0_become_78 rfl rfl ?_
      by_cases g1 : 0 ≤ x2 ∧ x2 < 4
      · rw [if_pos g1] at h
        refine ev_aald (b := (7 + x2.toNat)) dX0_become_79 (Or.inl rfl) sh_6 g1.1 g1.2 (rfr_6 g1) ?_
        refine ev_aload_n (i := 0) dX0_become_80 rfl rfl ?_
        refine ev_getR dX0_become_81 fl_X0_17 sh_99 (by decide) (by decide) rf_99_8 ?_
        refine ev_iload_n (i := 2) dX0_become_84 rfl rfl ?_
        by_cases g2 : 0 ≤ x2 ∧ x2 < 4
        · rw [if_pos g2] at h
          refine ev_aald (b := (102 + x2.toNat)) dX0_become_85 (Or.inl rfl) sh_101 g2.1 g2.2 (rfr_101 g2) ?_
          refine ev_cSV (av := [vR (7 + x2.toNat), vR (102 + x2.toNat)]) (S := []) (fun q => q) h dX0_become_86 (fun Q' q => TX0_copyRow (7 + x2.toNat) (102 + x2.toNat) _ q) ksX0_copyRow ml_X0_57 rfl (RRc (by decide) (by decide)) (Nat.le_of_ble_eq_true rfl) ⟨Nat.le_of_ble_eq_true rfl, Nat.le_of_ble_eq_true rfl⟩ (fun f3 h => ?_)
          refine ev_iinc (L' := [some (vR 99), some (vR 4), some (vI (w32 (x2 + 1)))]) dX0_become_89 rfl (by decide) rfl ?_
          refine ev_goto (tgt := 69) dX0_become_92 (by decide) ?_
          exact ih (w32 (x2 + 1)) _ h
        · rw [if_neg g2] at h; exact h.elim
      · rw [if_neg g1] at h; exact h.elim
def FX0_become_99_4_0   (f : Mm) : Option Mm := ((FX0_copyRow 5 100 (up (up (up (up (up (up (up f 99 0 (f 4 0)) 99 1 (f 4 1)) 99 2 (f 4 2)) 99 3 (f 4 3)) 99 4 (f 4 4)) 99 5 (f 4 5)) 99 6 (f 4 6))).bind fun f1 => FX0_become_99_4_69 fu 0 f1)
set_option maxHeartbeats 4000000 in
set_option maxRecDepth 100000 in
theorem SX0_become_99_4_0 {G : GT} {l : Launch} {Q : Option AV → Mem → Prop}   (f : Mm) (h : OkV Q (FX0_become_99_4_0   f)) : Ev G l MX0_become (Rm 2 0 0) (ZM G Q 0 0) 0 0 0 [some (vR 99), some (vR 4), none] [] (SH, RF, f) := by
  unfold FX0_become_99_4_0 at h
  refine ev_aload_n (i := 0) dX0_become_0 rfl rfl ?_
  refine ev_aload_n (i := 1) dX0_become_1 rfl rfl ?_
  refine ex_getI (x := (f 4 0)) dX0_become_2 fl_X0_32 sh_4 (by decide) (by decide) rfl ?_
  refine ev_putI dX0_become_5 fl_X0_32 sh_99 (by decide) (by decide) ?_
  refine ev_aload_n (i := 0) dX0_become_8 rfl rfl ?_
  refine ev_aload_n (i := 1) dX0_become_9 rfl rfl ?_
  refine ex_getI (x := (f 4 1)) dX0_become_10 fl_X0_36 sh_4 (by decide) (by decide) rfl ?_
  refine ev_putI dX0_become_13 fl_X0_36 sh_99 (by decide) (by decide) ?_
  refine ev_aload_n (i := 0) dX0_become_16 rfl rfl ?_
  refine ev_aload_n (i := 1) dX0_become_17 rfl rfl ?_
  refine ex_getI (x := (f 4 2)) dX0_become_18 fl_X0_39 sh_4 (by decide) (by decide) rfl ?_
  refine ev_putI dX0_become_21 fl_X0_39 sh_99 (by decide) (by decide) ?_
  refine ev_aload_n (i := 0) dX0_become_24 rfl rfl ?_
  refine ev_aload_n (i := 1) dX0_become_25 rfl rfl ?_
  refine ex_getI (x := (f 4 3)) dX0_become_26 fl_X0_42 sh_4 (by decide) (by decide) rfl ?_
  refine ev_putI dX0_become_29 fl_X0_42 sh_99 (by decide) (by decide) ?_
  refine ev_aload_n (i := 0) dX0_become_32 rfl rfl ?_
  refine ev_aload_n (i := 1) dX0_become_33 rfl rfl ?_
  refine ex_getI (x := (f 4 4)) dX0_become_34 fl_X0_45 sh_4 (by decide) (by decide) rfl ?_
  refine ev_putI dX0_become_37 fl_X0_45 sh_99 (by decide) (by decide) ?_
  refine ev_aload_n (i := 0) dX0_become_40 rfl rfl ?_
  refine ev_aload_n (i := 1) dX0_become_41 rfl rfl ?_
  refine ex_getI (x := (f 4 5)) dX0_become_42 fl_X0_48 sh_4 (by decide) (by decide) rfl ?_
  refine ev_putI dX0_become_45 fl_X0_48 sh_99 (by decide) (by decide) ?_
  refine ev_aload_n (i := 0) dX0_become_48 rfl rfl ?_
  refine ev_aload_n (i := 1) dX0_become_49 rfl rfl ?_
  refine ex_getI (x := (f 4 6)) dX0_become_50 fl_X0_54 sh_4 (by decide) (by decide) rfl ?_
  refine ev_putI dX0_become_53 fl_X0_54 sh_99 (by decide) (by decide) ?_
  refine ev_aload_n (i := 1) dX0_become_56 rfl rfl ?_
  refine ev_getR dX0_become_57 fl_X0_9 sh_4 (by decide) (by decide) rf_4_7 ?_
  refine ev_aload_n (i := 0) dX0_become_60 rfl rfl ?_
  refine ev_getR dX0_become_61 fl_X0_9 sh_99 (by decide) (by decide) rf_99_7 ?_
  refine ev_cSV (av := [vR 5, vR 100]) (S := []) (fun q => q) h dX0_become_64 (fun Q' q => TX0_copyRow 5 100 _ q) ksX0_copyRow ml_X0_57 rfl (RRc (by decide) (by decide)) (Nat.le_of_ble_eq_true rfl) ⟨Nat.le_of_ble_eq_true rfl, Nat.le_of_ble_eq_true rfl⟩ (fun f1 h => ?_)
  refine ev_iconst dX0_become_67 (r32c rfl) ?_
  refine ev_istore_n (i := 2) (L' := [some (vR 99), some (vR 4), some (vI 0)]) dX0_become_68 rfl (by decide) rfl ?_
  exact SX0_become_99_4_69  fu 0 _ h
def FX0_become_99_4  (f : Mm) : Option Mm := FX0_become_99_4_0  f
theorem TX0_become_99_4 {G : GT} {l : Launch} {Q : Option AV → Mem → Prop}  (f : Mm) (h : OkV Q (FX0_become_99_4  f)) : Ret G l MX0_become (2) 0 0 [vR 99, vR 4] (SH, RF, f) Q := by
  refine ret_of (L := [some (vR 99), some (vR 4), none]) (by decide) rfl (Nat.le_of_ble_eq_true rfl) ?_
  exact SX0_become_99_4_0  f h
def FX0_become_116_4_124   (f : Mm) : Option Mm := ((FX0_copyRow 18 130 f).bind fun f1 => ((FX0_copyRow 19 131 f1).bind fun f2 => ((FX0_copyRow 20 132 f2).bind fun f3 => some f3)))
set_option maxHeartbeats 4000000 in
set_option maxRecDepth 100000 in
theorem SX0_become_116_4_124 {G : GT} {l : Launch} {Q : Option AV → Mem → Prop}   (f : Mm) (h : OkV Q (FX0_become_116_4_124   f)) : Ev G l MX0_become (Rm 2 0 0) (ZM G Q 0 0) 0 0 124 [some (vR 116), some (vR 4), none] [] (SH, RF, f) := by
  unfold FX0_become_116_4_124 at h
  refine ev_aload_n (i := 1) dX0_become_124 rfl rfl ?_
  refine ev_getR dX0_become_125 fl_X0_23 sh_4 (by decide) (by decide) rf_4_10 ?_
  refine ev_aload_n (i := 0) dX0_become_128 rfl rfl ?_
  refine ev_getR dX0_become_129 fl_X0_23 sh_116 (by decide) (by decide) rf_116_10 ?_
  refine ev_cSV (av := [vR 18, vR 130]) (S := []) (fun q => q) h dX0_become_132 (fun Q' q => TX0_copyRow 18 130 _ q) ksX0_copyRow ml_X0_57 rfl (RRc (by decide) (by decide)) (Nat.le_of_ble_eq_true rfl) ⟨Nat.le_of_ble_eq_true rfl, Nat.le_of_ble_eq_true rfl⟩ (fun f1 h => ?_)
  refine ev_aload_n (i := 1) dX0_become_135 rfl rfl ?_
  refine ev_getR dX0_become_136 fl_X0_26 sh_4 (by decide) (by decide) rf_4_11 ?_
  refine ev_aload_n (i := 0) dX0_become_139 rfl rfl ?_
  refine ev_getR dX0_become_140 fl_X0_26 sh_116 (by decide) (by decide) rf_116_11 ?_
  refine ev_cSV (av := [vR 19, vR 131]) (S := []) (fun q => q) h dX0_become_143 (fun Q' q => TX0_copyRow 19 131 _ q) ksX0_copyRow ml_X0_57 rfl (RRc (by decide) (by decide)) (Nat.le_of_ble_eq_true rfl) ⟨Nat.le_of_ble_eq_true rfl, Nat.le_of_ble_eq_true rfl⟩ (fun f2 h => ?_)
  refine ev_aload_n (i := 1) dX0_become_146 rfl rfl ?_
  refine ev_getR dX0_become_147 fl_X0_29 sh_4 (by decide) (by decide) rf_4_12 ?_
  refine ev_aload_n (i := 0) dX0_become_150 rfl rfl ?_
  refine ev_getR dX0_become_151 fl_X0_29 sh_116 (by decide) (by decide) rf_116_12 ?_
  refine ev_cSV (av := [vR 20, vR 132]) (S := []) (fun q => q) h dX0_become_154 (fun Q' q => TX0_copyRow 20 132 _ q) ksX0_copyRow ml_X0_57 rfl (RRc (by decide) (by decide)) (Nat.le_of_ble_eq_true rfl) ⟨Nat.le_of_ble_eq_true rfl, Nat.le_of_ble_eq_true rfl⟩ (fun f3 h => ?_)
  exact ev_vret rfl dX0_become_157 h
def FX0_become_116_4_97  : Nat → Int → Mm → Option Mm
  | 0, _, _ => none
  | n + 1, x2, f => (if 6 ≤ x2 then FX0_become_116_4_124 f else (if 0 ≤ x2 ∧ x2 < 6 then (if 0 ≤ x2 ∧ x2 < 6 then ((FX0_copyRow (12 + x2.toNat) (124 + x2.toNat) f).bind fun f3 => FX0_become_116_4_97 n (w32 (x2 + 1)) f3) else none) else none))
set_option maxHeartbeats 4000000 in
set_option maxRecDepth 100000 in
theorem SX0_become_116_4_97 {G : GT} {l : Launch} {Q : Option AV → Mem → Prop}  : ∀ (n : Nat) (x2 : Int) (f : Mm), OkV Q (FX0_become_116_4_97  n x2 f) → Ev G l MX0_become (Rm 2 0 0) (ZM G Q 0 0) 0 0 97 [some (vR 116), some (vR 4), some (vI x2)] [] (SH, RF, f) := by
  intro n
  induction n with
  | zero => intro x2 f h; exact absurd h (by rw [FX0_become_116_4_97]; exact fun q => q)
  | succ n ih =>
    intro x2 f h
    rw [FX0_become_116_4_97] at h
    refine ev_iload_n (i := 2) dX0_become_97 rfl rfl ?_
    refine ev_bipush (v := 6) dX0_become_98 (r32c rfl) (by decide) ?_
    refine ev_icmp_ge (tgt := 124) dX0_become_100 (by decide) (fun c4 => ?_) (fun c4 => ?_)
    · rw [if_pos c4] at h
      refine ev_fg [true, true, false] rfl ?_
      exact SX0_become_116_4_124   _ h
    · rw [if_neg c4] at h
      refine ev_aload_n (i := 1) dX0_become_103 rfl rfl ?_
      refine ev_getR dX0_become_104 fl_X0_20 sh_4 (by decide) (by decide) rf_4_9 ?_
      refine ev_iload_n (i := 2) dX0_become_107 rfl rfl ?_
      by_cases g1 : 0 ≤ x2 ∧ x2 < 6
      · rw [if_pos g1] at h
        refine ev_aald (b := (12 + x2.toNat)) dX0_become_108 (Or.inl rfl) sh_11 g1.1 g1.2 (rfr_11 g1) ?_
        refine ev_aload_n (i := 0) dX0_become_109 rfl rfl ?_
        refine ev_getR dX0_become_110 fl_X0_20 sh_116 (by decide) (by decide) rf_116_9 ?_
        refine ev_iload_n (i := 2) dX0_become_113 rfl rfl ?_
        by_cases g2 : 0 ≤ x2 ∧ x2 < 6
        · rw [if_pos g2] at h
          refine ev_aald (b := (124 + x2.toNat)) dX0_become_114 (Or.inl rfl) sh_123 g2.1 g2.2 (rfr_123 g2) ?_
          refine ev_cSV (av := [vR (12 + x2.toNat), vR (124 + x2.toNat)]) (S := []) (fun q => q) h dX0_become_115 (fun Q' q => TX0_copyRow (12 + x2.toNat) (124 + x2.toNat) _ q) ksX0_copyRow ml_X0_57 rfl (RRc (by decide) (by decide)) (Nat.le_of_ble_eq_true rfl) ⟨Nat.le_of_ble_eq_true rfl, Nat.le_of_ble_eq_true rfl⟩ (fun f3 h => ?_)
          refine ev_iinc (L' := [some (vR 116), some (vR 4), some (vI (w32 (x2 + 1)))]) dX0_become_118 rfl (by decide) rfl ?_
          refine ev_goto (tgt := 97) dX0_become_121 (by decide) ?_
          exact ih (w32 (x2 + 1)) _ h
        · rw [if_neg g2] at h; exact h.elim
      · rw [if_neg g1] at h; exact h.elim
def FX0_become_116_4_95   (f : Mm) : Option Mm := FX0_become_116_4_97 fu 0 f
set_option maxHeartbeats 4000000 in
set_option maxRecDepth 100000 in
theorem SX0_become_116_4_95 {G : GT} {l : Launch} {Q : Option AV → Mem → Prop}   (f : Mm) (h : OkV Q (FX0_become_116_4_95   f)) : Ev G l MX0_become (Rm 2 0 0) (ZM G Q 0 0) 0 0 95 [some (vR 116), some (vR 4), none] [] (SH, RF, f) := by
  unfold FX0_become_116_4_95 at h
  refine ev_iconst dX0_become_95 (r32c rfl) ?_
  refine ev_istore_n (i := 2) (L' := [some (vR 116), some (vR 4), some (vI 0)]) dX0_become_96 rfl (by decide) rfl ?_
  exact SX0_become_116_4_97  fu 0 _ h
def FX0_become_116_4_69  : Nat → Int → Mm → Option Mm
  | 0, _, _ => none
  | n + 1, x2, f => (if 4 ≤ x2 then FX0_become_116_4_95 f else (if 0 ≤ x2 ∧ x2 < 4 then (if 0 ≤ x2 ∧ x2 < 4 then ((FX0_copyRow (7 + x2.toNat) (119 + x2.toNat) f).bind fun f3 => FX0_become_116_4_69 n (w32 (x2 + 1)) f3) else none) else none))
set_option maxHeartbeats 4000000 in
set_option maxRecDepth 100000 in
theorem SX0_become_116_4_69 {G : GT} {l : Launch} {Q : Option AV → Mem → Prop}  : ∀ (n : Nat) (x2 : Int) (f : Mm), OkV Q (FX0_become_116_4_69  n x2 f) → Ev G l MX0_become (Rm 2 0 0) (ZM G Q 0 0) 0 0 69 [some (vR 116), some (vR 4), some (vI x2)] [] (SH, RF, f) := by
  intro n
  induction n with
  | zero => intro x2 f h; exact absurd h (by rw [FX0_become_116_4_69]; exact fun q => q)
  | succ n ih =>
    intro x2 f h
    rw [FX0_become_116_4_69] at h
    refine ev_iload_n (i := 2) dX0_become_69 rfl rfl ?_
    refine ev_iconst dX0_become_70 (r32c rfl) ?_
    refine ev_icmp_ge (tgt := 95) dX0_become_71 (by decide) (fun c4 => ?_) (fun c4 => ?_)
    · rw [if_pos c4] at h
      refine ev_fg [true, true, false] rfl ?_
      exact SX0_become_116_4_95   _ h
    · rw [if_neg c4] at h
      refine ev_aload_n (i := 1) dX0_become_74 rfl rfl ?_
      refine ev_getR dX0_become_75 fl_X0_17 sh_4 (by decide) (by decide) rf_4_8 ?_
      refine ev_iload_n (i := 2) dX0_become_78 rfl rfl ?_
      by_cases g1 : 0 ≤ x2 ∧ x2 < 4
      · rw [if_pos g1] at h
        refine ev_aald (b := (7 + x2.toNat)) dX0_become_79 (Or.inl rfl) sh_6 g1.1 g1.2 (rfr_6 g1) ?_
        refine ev_aload_n (i := 0) dX0_become_80 rfl rfl ?_
        refine ev_getR dX0_become_81 fl_X0_17 sh_116 (by decide) (by decide) rf_116_8 ?_
        refine ev_iload_n (i := 2) dX0_become_84 rfl rfl ?_
        by_cases g2 : 0 ≤ x2 ∧ x2 < 4
        · rw [if_pos g2] at h
          refine ev_aald (b := (119 + x2.toNat)) dX0_become_85 (Or.inl rfl) sh_118 g2.1 g2.2 (rfr_118 g2) ?_
          refine ev_cSV (av := [vR (7 + x2.toNat), vR (119 + x2.toNat)]) (S := []) (fun q => q) h dX0_become_86 (fun Q' q => TX0_copyRow (7 + x2.toNat) (119 + x2.toNat) _ q) ksX0_copyRow ml_X0_57 rfl (RRc (by decide) (by decide)) (Nat.le_of_ble_eq_true rfl) ⟨Nat.le_of_ble_eq_true rfl, Nat.le_of_ble_eq_true rfl⟩ (fun f3 h => ?_)
          refine ev_iinc (L' := [some (vR 116), some (vR 4), some (vI (w32 (x2 + 1)))]) dX0_become_89 rfl (by decide) rfl ?_
          refine ev_goto (tgt := 69) dX0_become_92 (by decide) ?_
          exact ih (w32 (x2 + 1)) _ h
        · rw [if_neg g2] at h; exact h.elim
      · rw [if_neg g1] at h; exact h.elim
def FX0_become_116_4_0   (f : Mm) : Option Mm := ((FX0_copyRow 5 117 (up (up (up (up (up (up (up f 116 0 (f 4 0)) 116 1 (f 4 1)) 116 2 (f 4 2)) 116 3 (f 4 3)) 116 4 (f 4 4)) 116 5 (f 4 5)) 116 6 (f 4 6))).bind fun f1 => FX0_become_116_4_69 fu 0 f1)
set_option maxHeartbeats 4000000 in
set_option maxRecDepth 100000 in
theorem SX0_become_116_4_0 {G : GT} {l : Launch} {Q : Option AV → Mem → Prop}   (f : Mm) (h : OkV Q (FX0_become_116_4_0   f)) : Ev G l MX0_become (Rm 2 0 0) (ZM G Q 0 0) 0 0 0 [some (vR 116), some (vR 4), none] [] (SH, RF, f) := by
  unfold FX0_become_116_4_0 at h
  refine ev_aload_n (i := 0) dX0_become_0 rfl rfl ?_
  refine ev_aload_n (i := 1) dX0_become_1 rfl rfl ?_
  refine ex_getI (x := (f 4 0)) dX0_become_2 fl_X0_32 sh_4 (by decide) (by decide) rfl ?_
  refine ev_putI dX0_become_5 fl_X0_32 sh_116 (by decide) (by decide) ?_
  refine ev_aload_n (i := 0) dX0_become_8 rfl rfl ?_
  refine ev_aload_n (i := 1) dX0_become_9 rfl rfl ?_
  refine ex_getI (x := (f 4 1)) dX0_become_10 fl_X0_36 sh_4 (by decide) (by decide) rfl ?_
  refine ev_putI dX0_become_13 fl_X0_36 sh_116 (by decide) (by decide) ?_
  refine ev_aload_n (i := 0) dX0_become_16 rfl rfl ?_
  refine ev_aload_n (i := 1) dX0_become_17 rfl rfl ?_
  refine ex_getI (x := (f 4 2)) dX0_become_18 fl_X0_39 sh_4 (by decide) (by decide) rfl ?_
  refine ev_putI dX0_become_21 fl_X0_39 sh_116 (by decide) (by decide) ?_
  refine ev_aload_n (i := 0) dX0_become_24 rfl rfl ?_
  refine ev_aload_n (i := 1) dX0_become_25 rfl rfl ?_
  refine ex_getI (x := (f 4 3)) dX0_become_26 fl_X0_42 sh_4 (by decide) (by decide) rfl ?_
  refine ev_putI dX0_become_29 fl_X0_42 sh_116 (by decide) (by decide) ?_
  refine ev_aload_n (i := 0) dX0_become_32 rfl rfl ?_
  refine ev_aload_n (i := 1) dX0_become_33 rfl rfl ?_
  refine ex_getI (x := (f 4 4)) dX0_become_34 fl_X0_45 sh_4 (by decide) (by decide) rfl ?_
  refine ev_putI dX0_become_37 fl_X0_45 sh_116 (by decide) (by decide) ?_
  refine ev_aload_n (i := 0) dX0_become_40 rfl rfl ?_
  refine ev_aload_n (i := 1) dX0_become_41 rfl rfl ?_
  refine ex_getI (x := (f 4 5)) dX0_become_42 fl_X0_48 sh_4 (by decide) (by decide) rfl ?_
  refine ev_putI dX0_become_45 fl_X0_48 sh_116 (by decide) (by decide) ?_
  refine ev_aload_n (i := 0) dX0_become_48 rfl rfl ?_
  refine ev_aload_n (i := 1) dX0_become_49 rfl rfl ?_
  refine ex_getI (x := (f 4 6)) dX0_become_50 fl_X0_54 sh_4 (by decide) (by decide) rfl ?_
  refine ev_putI dX0_become_53 fl_X0_54 sh_116 (by decide) (by decide) ?_
  refine ev_aload_n (i := 1) dX0_become_56 rfl rfl ?_
  refine ev_getR dX0_become_57 fl_X0_9 sh_4 (by decide) (by decide) rf_4_7 ?_
  refine ev_aload_n (i := 0) dX0_become_60 rfl rfl ?_
  refine ev_getR dX0_become_61 fl_X0_9 sh_116 (by decide) (by decide) rf_116_7 ?_
  refine ev_cSV (av := [vR 5, vR 117]) (S := []) (fun q => q) h dX0_become_64 (fun Q' q => TX0_copyRow 5 117 _ q) ksX0_copyRow ml_X0_57 rfl (RRc (by decide) (by decide)) (Nat.le_of_ble_eq_true rfl) ⟨Nat.le_of_ble_eq_true rfl, Nat.le_of_ble_eq_true rfl⟩ (fun f1 h => ?_)
  refine ev_iconst dX0_become_67 (r32c rfl) ?_
  refine ev_istore_n (i := 2) (L' := [some (vR 116), some (vR 4), some (vI 0)]) dX0_become_68 rfl (by decide) rfl ?_
  exact SX0_become_116_4_69  fu 0 _ h
def FX0_become_116_4  (f : Mm) : Option Mm := FX0_become_116_4_0  f
theorem TX0_become_116_4 {G : GT} {l : Launch} {Q : Option AV → Mem → Prop}  (f : Mm) (h : OkV Q (FX0_become_116_4  f)) : Ret G l MX0_become (2) 0 0 [vR 116, vR 4] (SH, RF, f) Q := by
  refine ret_of (L := [some (vR 116), some (vR 4), none]) (by decide) rfl (Nat.le_of_ble_eq_true rfl) ?_
  exact SX0_become_116_4_0  f h
def FX0_become_133_4_124   (f : Mm) : Option Mm := ((FX0_copyRow 18 147 f).bind fun f1 => ((FX0_copyRow 19 148 f1).bind fun f2 => ((FX0_copyRow 20 149 f2).bind fun f3 => some f3)))
set_option maxHeartbeats 4000000 in
set_option maxRecDepth 100000 in
theorem SX0_become_133_4_124 {G : GT} {l : Launch} {Q : Option AV → Mem → Prop}   (f : Mm) (h : OkV Q (FX0_become_133_4_124   f)) : Ev G l MX0_become (Rm 2 0 0) (ZM G Q 0 0) 0 0 124 [some (vR 133), some (vR 4), none] [] (SH, RF, f) := by
  unfold FX0_become_133_4_124 at h
  refine ev_aload_n (i := 1) dX0_become_124 rfl rfl ?_
  refine ev_getR dX0_become_125 fl_X0_23 sh_4 (by decide) (by decide) rf_4_10 ?_
  refine ev_aload_n (i := 0) dX0_become_128 rfl rfl ?_
  refine ev_getR dX0_become_129 fl_X0_23 sh_133 (by decide) (by decide) rf_133_10 ?_
  refine ev_cSV (av := [vR 18, vR 147]) (S := []) (fun q => q) h dX0_become_132 (fun Q' q => TX0_copyRow 18 147 _ q) ksX0_copyRow ml_X0_57 rfl (RRc (by decide) (by decide)) (Nat.le_of_ble_eq_true rfl) ⟨Nat.le_of_ble_eq_true rfl, Nat.le_of_ble_eq_true rfl⟩ (fun f1 h => ?_)
  refine ev_aload_n (i := 1) dX0_become_135 rfl rfl ?_
  refine ev_getR dX0_become_136 fl_X0_26 sh_4 (by decide) (by decide) rf_4_11 ?_
  refine ev_aload_n (i := 0) dX0_become_139 rfl rfl ?_
  refine ev_getR dX0_become_140 fl_X0_26 sh_133 (by decide) (by decide) rf_133_11 ?_
  refine ev_cSV (av := [vR 19, vR 148]) (S := []) (fun q => q) h dX0_become_143 (fun Q' q => TX0_copyRow 19 148 _ q) ksX0_copyRow ml_X0_57 rfl (RRc (by decide) (by decide)) (Nat.le_of_ble_eq_true rfl) ⟨Nat.le_of_ble_eq_true rfl, Nat.le_of_ble_eq_true rfl⟩ (fun f2 h => ?_)
  refine ev_aload_n (i := 1) dX0_become_146 rfl rfl ?_
  refine ev_getR dX0_become_147 fl_X0_29 sh_4 (by decide) (by decide) rf_4_12 ?_
  refine ev_aload_n (i := 0) dX0_become_150 rfl rfl ?_
  refine ev_getR dX0_become_151 fl_X0_29 sh_133 (by decide) (by decide) rf_133_12 ?_
  refine ev_cSV (av := [vR 20, vR 149]) (S := []) (fun q => q) h dX0_become_154 (fun Q' q => TX0_copyRow 20 149 _ q) ksX0_copyRow ml_X0_57 rfl (RRc (by decide) (by decide)) (Nat.le_of_ble_eq_true rfl) ⟨Nat.le_of_ble_eq_true rfl, Nat.le_of_ble_eq_true rfl⟩ (fun f3 h => ?_)
  exact ev_vret rfl dX0_become_157 h
def FX0_become_133_4_97  : Nat → Int → Mm → Option Mm
  | 0, _, _ => none
  | n + 1, x2, f => (if 6 ≤ x2 then FX0_become_133_4_124 f else (if 0 ≤ x2 ∧ x2 < 6 then (if 0 ≤ x2 ∧ x2 < 6 then ((FX0_copyRow (12 + x2.toNat) (141 + x2.toNat) f).bind fun f3 => FX0_become_133_4_97 n (w32 (x2 + 1)) f3) else none) else none))
set_option maxHeartbeats 4000000 in
set_option maxRecDepth 100000 in
theorem SX0_become_133_4_97 {G : GT} {l : Launch} {Q : Option AV → Mem → Prop}  : ∀ (n : Nat) (x2 : Int) (f : Mm), OkV Q (FX0_become_133_4_97  n x2 f) → Ev G l MX0_become (Rm 2 0 0) (ZM G Q 0 0) 0 0 97 [some (vR 133), some (vR 4), some (vI x2)] [] (SH, RF, f) := by
  intro n
  induction n with
  | zero => intro x2 f h; exact absurd h (by rw [FX0_become_133_4_97]; exact fun q => q)
  | succ n ih =>
    intro x2 f h
    rw [FX0_become_133_4_97] at h
    refine ev_iload_n (i := 2) dX0_become_97 rfl rfl ?_
    refine ev_bipush (v := 6) dX0_become_98 (r32c rfl) (by decide) ?_
    refine ev_icmp_ge (tgt := 124) dX0_become_100 (by decide) (fun c4 => ?_) (fun c4 => ?_)
    · rw [if_pos c4] at h
      refine ev_fg [true, true, false] rfl ?_
      exact SX0_become_133_4_124   _ h
    · rw [if_neg c4] at h
      refine ev_aload_n (i := 1) dX0_become_103 rfl rfl ?_
      refine ev_getR dX0_become_104 fl_X0_20 sh_4 (by decide) (by decide) rf_4_9 ?_
      refine ev_iload_n (i := 2) dX0_become_107 rfl rfl ?_
      by_cases g1 : 0 ≤ x2 ∧ x2 < 6
      · rw [if_pos g1] at h
        refine ev_aald (b := (12 + x2.toNat)) dX0_become_108 (Or.inl rfl) sh_11 g1.1 g1.2 (rfr_11 g1) ?_
        refine ev_aload_n (i := 0) dX0_become_109 rfl rfl ?_
        refine ev_getR dX0_become_110 fl_X0_20 sh_133 (by decide) (by decide) rf_133_9 ?_
        refine ev_iload_n (i := 2) dX0_become_113 rfl rfl ?_
        by_cases g2 : 0 ≤ x2 ∧ x2 < 6
        · rw [if_pos g2] at h
          refine ev_aald (b := (141 + x2.toNat)) dX0_become_114 (Or.inl rfl) sh_140 g2.1 g2.2 (rfr_140 g2) ?_
          refine ev_cSV (av := [vR (12 + x2.toNat), vR (141 + x2.toNat)]) (S := []) (fun q => q) h dX0_become_115 (fun Q' q => TX0_copyRow (12 + x2.toNat) (141 + x2.toNat) _ q) ksX0_copyRow ml_X0_57 rfl (RRc (by decide) (by decide)) (Nat.le_of_ble_eq_true rfl) ⟨Nat.le_of_ble_eq_true rfl, Nat.le_of_ble_eq_true rfl⟩ (fun f3 h => ?_)
          refine ev_iinc (L' := [some (vR 133), some (vR 4), some (vI (w32 (x2 + 1)))]) dX0_become_118 rfl (by decide) rfl ?_
          refine ev_goto (tgt := 97) dX0_become_121 (by decide) ?_
          exact ih (w32 (x2 + 1)) _ h
        · rw [if_neg g2] at h; exact h.elim
      · rw [if_neg g1] at h; exact h.elim
def FX0_become_133_4_95   (f : Mm) : Option Mm := FX0_become_133_4_97 fu 0 f
set_option maxHeartbeats 4000000 in
set_option maxRecDepth 100000 in
theorem SX0_become_133_4_95 {G : GT} {l : Launch} {Q : Option AV → Mem → Prop}   (f : Mm) (h : OkV Q (FX0_become_133_4_95   f)) : Ev G l MX0_become (Rm 2 0 0) (ZM G Q 0 0) 0 0 95 [some (vR 133), some (vR 4), none] [] (SH, RF, f) := by
  unfold FX0_become_133_4_95 at h
  refine ev_iconst dX0_become_95 (r32c rfl) ?_
  refine ev_istore_n (i := 2) (L' := [some (vR 133), some (vR 4), some (vI 0)]) dX0_become_96 rfl (by decide) rfl ?_
  exact SX0_become_133_4_97  fu 0 _ h
def FX0_become_133_4_69  : Nat → Int → Mm → Option Mm
  | 0, _, _ => none
  | n + 1, x2, f => (if 4 ≤ x2 then FX0_become_133_4_95 f else (if 0 ≤ x2 ∧ x2 < 4 then (if 0 ≤ x2 ∧ x2 < 4 then ((FX0_copyRow (7 + x2.toNat) (136 + x2.toNat) f).bind fun f3 => FX0_become_133_4_69 n (w32 (x2 + 1)) f3) else none) else none))
set_option maxHeartbeats 4000000 in
set_option maxRecDepth 100000 in
theorem SX0_become_133_4_69 {G : GT} {l : Launch} {Q : Option AV → Mem → Prop}  : ∀ (n : Nat) (x2 : Int) (f : Mm), OkV Q (FX0_become_133_4_69  n x2 f) → Ev G l MX0_become (Rm 2 0 0) (ZM G Q 0 0) 0 0 69 [some (vR 133), some (vR 4), some (vI x2)] [] (SH, RF, f) := by
  intro n
  induction n with
  | zero => intro x2 f h; exact absurd h (by rw [FX0_become_133_4_69]; exact fun q => q)
  | succ n ih =>
    intro x2 f h
    rw [FX0_become_133_4_69] at h
    refine ev_iload_n (i := 2) dX0_become_69 rfl rfl ?_
    refine ev_iconst dX0_become_70 (r32c rfl) ?_
    refine ev_icmp_ge (tgt := 95) dX0_become_71 (by decide) (fun c4 => ?_) (fun c4 => ?_)
    · rw [if_pos c4] at h
      refine ev_fg [true, true, false] rfl ?_
      exact SX0_become_133_4_95   _ h
    · rw [if_neg c4] at h
      refine ev_aload_n (i := 1) dX0_become_74 rfl rfl ?_
      refine ev_getR dX0_become_75 fl_X0_17 sh_4 (by decide) (by decide) rf_4_8 ?_
      refine ev_iload_n (i := 2) dX0_become_78 rfl rfl ?_
      by_cases g1 : 0 ≤ x2 ∧ x2 < 4
      · rw [if_pos g1] at h
        refine ev_aald (b := (7 + x2.toNat)) dX0_become_79 (Or.inl rfl) sh_6 g1.1 g1.2 (rfr_6 g1) ?_
        refine ev_aload_n (i := 0) dX0_become_80 rfl rfl ?_
        refine ev_getR dX0_become_81 fl_X0_17 sh_133 (by decide) (by decide) rf_133_8 ?_
        refine ev_iload_n (i := 2) dX0_become_84 rfl rfl ?_
        by_cases g2 : 0 ≤ x2 ∧ x2 < 4
        · rw [if_pos g2] at h
          refine ev_aald (b := (136 + x2.toNat)) dX0_become_85 (Or.inl rfl) sh_135 g2.1 g2.2 (rfr_135 g2) ?_
          refine ev_cSV (av := [vR (7 + x2.toNat), vR (136 + x2.toNat)]) (S := []) (fun q => q) h dX0_become_86 (fun Q' q => TX0_copyRow (7 + x2.toNat) (136 + x2.toNat) _ q) ksX0_copyRow ml_X0_57 rfl (RRc (by decide) (by decide)) (Nat.le_of_ble_eq_true rfl) ⟨Nat.le_of_ble_eq_true rfl, Nat.le_of_ble_eq_true rfl⟩ (fun f3 h => ?_)
          refine ev_iinc (L' := [some (vR 133), some (vR 4), some (vI (w32 (x2 + 1)))]) dX0_become_89 rfl (by decide) rfl ?_
          refine ev_goto (tgt := 69) dX0_become_92 (by decide) ?_
          exact ih (w32 (x2 + 1)) _ h
        · rw [if_neg g2] at h; exact h.elim
      · rw [if_neg g1] at h; exact h.elim
def FX0_become_133_4_0   (f : Mm) : Option Mm := ((FX0_copyRow 5 134 (up (up (up (up (up (up (up f 133 0 (f 4 0)) 133 1 (f 4 1)) 133 2 (f 4 2)) 133 3 (f 4 3)) 133 4 (f 4 4)) 133 5 (f 4 5)) 133 6 (f 4 6))).bind fun f1 => FX0_become_133_4_69 fu 0 f1)
set_option maxHeartbeats 4000000 in
set_option maxRecDepth 100000 in
theorem SX0_become_133_4_0 {G : GT} {l : Launch} {Q : Option AV → Mem → Prop}   (f : Mm) (h : OkV Q (FX0_become_133_4_0   f)) : Ev G l MX0_become (Rm 2 0 0) (ZM G Q 0 0) 0 0 0 [some (vR 133), some (vR 4), none] [] (SH, RF, f) := by
  unfold FX0_become_133_4_0 at h
  refine ev_aload_n (i := 0) dX0_become_0 rfl rfl ?_
  refine ev_aload_n (i := 1) dX0_become_1 rfl rfl ?_
  refine ex_getI (x := (f 4 0)) dX0_become_2 fl_X0_32 sh_4 (by decide) (by decide) rfl ?_
  refine ev_putI dX0_become_5 fl_X0_32 sh_133 (by decide) (by decide) ?_
  refine ev_aload_n (i := 0) dX0_become_8 rfl rfl ?_
  refine ev_aload_n (i := 1) dX0_become_9 rfl rfl ?_
  refine ex_getI (x := (f 4 1)) dX0_become_10 fl_X0_36 sh_4 (by decide) (by decide) rfl ?_
  refine ev_putI dX0_become_13 fl_X0_36 sh_133 (by decide) (by decide) ?_
  refine ev_aload_n (i := 0) dX0_become_16 rfl rfl ?_
  refine ev_aload_n (i := 1) dX0_become_17 rfl rfl ?_
  refine ex_getI (x := (f 4 2)) dX0_become_18 fl_X0_39 sh_4 (by decide) (by decide) rfl ?_
  refine ev_putI dX0_become_21 fl_X0_39 sh_133 (by decide) (by decide) ?_
  refine ev_aload_n (i := 0) dX0_become_24 rfl rfl ?_
  refine ev_aload_n (i := 1) dX0_become_25 rfl rfl ?_
  refine ex_getI (x := (f 4 3)) dX0_become_26 fl_X0_42 sh_4 (by decide) (by decide) rfl ?_
  refine ev_putI dX0_become_29 fl_X0_42 sh_133 (by decide) (by decide) ?_
  refine ev_aload_n (i := 0) dX0_become_32 rfl rfl ?_
  refine ev_aload_n (i := 1) dX0_become_33 rfl rfl ?_
  refine ex_getI (x := (f 4 4)) dX0_become_34 fl_X0_45 sh_4 (by decide) (by decide) rfl ?_
  refine ev_putI dX0_become_37 fl_X0_45 sh_133 (by decide) (by decide) ?_
  refine ev_aload_n (i := 0) dX0_become_40 rfl rfl ?_
  refine ev_aload_n (i := 1) dX0_become_41 rfl rfl ?_
  refine ex_getI (x := (f 4 5)) dX0_become_42 fl_X0_48 sh_4 (by decide) (by decide) rfl ?_
  refine ev_putI dX0_become_45 fl_X0_48 sh_133 (by decide) (by decide) ?_
  refine ev_aload_n (i := 0) dX0_become_48 rfl rfl ?_
  refine ev_aload_n (i := 1) dX0_become_49 rfl rfl ?_
  refine ex_getI (x := (f 4 6)) dX0_become_50 fl_X0_54 sh_4 (by decide) (by decide) rfl ?_
  refine ev_putI dX0_become_53 fl_X0_54 sh_133 (by decide) (by decide) ?_
  refine ev_aload_n (i := 1) dX0_become_56 rfl rfl ?_
  refine ev_getR dX0_become_57 fl_X0_9 sh_4 (by decide) (by decide) rf_4_7 ?_
  refine ev_aload_n (i := 0) dX0_become_60 rfl rfl ?_
  refine ev_getR dX0_become_61 fl_X0_9 sh_133 (by decide) (by decide) rf_133_7 ?_
  refine ev_cSV (av := [vR 5, vR 134]) (S := []) (fun q => q) h dX0_become_64 (fun Q' q => TX0_copyRow 5 134 _ q) ksX0_copyRow ml_X0_57 rfl (RRc (by decide) (by decide)) (Nat.le_of_ble_eq_true rfl) ⟨Nat.le_of_ble_eq_true rfl, Nat.le_of_ble_eq_true rfl⟩ (fun f1 h => ?_)
  refine ev_iconst dX0_become_67 (r32c rfl) ?_
  refine ev_istore_n (i := 2) (L' := [some (vR 133), some (vR 4), some (vI 0)]) dX0_become_68 rfl (by decide) rfl ?_
  exact SX0_become_133_4_69  fu 0 _ h
def FX0_become_133_4  (f : Mm) : Option Mm := FX0_become_133_4_0  f
theorem TX0_become_133_4 {G : GT} {l : Launch} {Q : Option AV → Mem → Prop}  (f : Mm) (h : OkV Q (FX0_become_133_4  f)) : Ret G l MX0_become (2) 0 0 [vR 133, vR 4] (SH, RF, f) Q := by
  refine ret_of (L := [some (vR 133), some (vR 4), none]) (by decide) rfl (Nat.le_of_ble_eq_true rfl) ?_
  exact SX0_become_133_4_0  f h

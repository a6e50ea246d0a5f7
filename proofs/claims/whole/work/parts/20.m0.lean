theorem dX11_in_0 : decode cX11_in 0 = .ok (.lload_n 0, 1) := by decide +kernel
theorem dX11_in_1 : decode cX11_in 1 = .ok (.lload_n 2, 1) := by decide +kernel
theorem dX11_in_2 : decode cX11_in 2 = .ok (.lcmp, 1) := by decide +kernel
theorem dX11_in_3 : decode cX11_in 3 = .ok (.ifCond .lt 14, 3) := by decide +kernel
theorem dX11_in_17 : decode cX11_in 17 = .ok (.iconst 0, 1) := by decide +kernel
theorem dX11_in_18 : decode cX11_in 18 = .ok (.ireturn, 1) := by decide +kernel
theorem dX11_in_6 : decode cX11_in 6 = .ok (.lload_n 0, 1) := by decide +kernel
theorem dX11_in_7 : decode cX11_in 7 = .ok (.lload 4, 2) := by decide +kernel
theorem dX11_in_9 : decode cX11_in 9 = .ok (.lcmp, 1) := by decide +kernel
theorem dX11_in_10 : decode cX11_in 10 = .ok (.ifCond .gt 7, 3) := by decide +kernel
theorem dX11_in_13 : decode cX11_in 13 = .ok (.iconst 1, 1) := by decide +kernel
theorem dX11_in_14 : decode cX11_in 14 = .ok (.goto 4, 3) := by decide +kernel
def FX11_in_0  (x0 : Int) (x2 : Int) (x4 : Int) (f : Mm) : Option (Int × Mm) := (if (cmp3 x0 x2) < 0 then some (0, f) else (if 0 < (cmp3 x0 x4) then some (0, f) else some (1, f)))
set_option maxHeartbeats 4000000 in
set_option maxRecDepth 100000 in
theorem SX11_in_0 {G : GT} {l : Launch} {Q : Option AV → Mem → Prop}  (x0 : Int) (x2 : Int) (x4 : Int) (f : Mm) (h : OkI Q (FX11_in_0  x0 x2 x4 f)) : Ev G l MX11_in (Rm 1 0 0) (ZM G Q 0 0) 0 0 0 [some (vJ x0), none, some (vJ x2), none, some (vJ x4), none] [] (SH, RF, f) := by
  unfold FX11_in_0 at h
  refine ev_lload_n (i := 0) dX11_in_0 rfl rfl ?_
  refine ev_lload_n (i := 2) dX11_in_1 rfl rfl ?_
  refine ev_lcmp dX11_in_2 ?_
  refine ev_if_lt (tgt := 17) dX11_in_3 (by decide) (fun c2 => ?_) (fun c2 => ?_)
  · rw [if_pos c2] at h
    refine ev_iconst dX11_in_17 (r32c rfl) ?_
    exact ev_zret rfl (by decide) dX11_in_18 h
  · rw [if_neg c2] at h
    refine ev_lload_n (i := 0) dX11_in_6 rfl rfl ?_
    refine ev_lload dX11_in_7 rfl ?_
    refine ev_lcmp dX11_in_9 ?_
    refine ev_if_gt (tgt := 17) dX11_in_10 (by decide) (fun c1 => ?_) (fun c1 => ?_)
    · rw [if_pos c1] at h
      refine ev_iconst dX11_in_17 (r32c rfl) ?_
      exact ev_zret rfl (by decide) dX11_in_18 h
    · rw [if_neg c1] at h
      refine ev_iconst dX11_in_13 (r32c rfl) ?_
      refine ev_goto (tgt := 18) dX11_in_14 (by decide) ?_
      exact ev_zret rfl (by decide) dX11_in_18 h
def FX11_in (x0 : Int) (x2 : Int) (x4 : Int) (f : Mm) : Option (Int × Mm) := FX11_in_0 x0 x2 x4 f
set_option maxRecDepth 100000 in
theorem TX11_in {G : GT} {l : Launch} {Q : Option AV → Mem → Prop} (x0 : Int) (x2 : Int) (x4 : Int) (f : Mm) (h : OkI Q (FX11_in x0 x2 x4 f)) : Ret G l MX11_in (1) 0 0 [vJ x0, vJ x2, vJ x4] (SH, RF, f) Q := by
  refine ret_of (L := [some (vJ x0), none, some (vJ x2), none, some (vJ x4), none]) (by decide) rfl (Nat.le_of_ble_eq_true rfl) ?_
  exact SX11_in_0 x0 x2 x4 f h
theorem dX11_isSlot_0 : decode cX11_isSlot 0 = .ok (.iload_n 0, 1) := by decide +kernel
theorem dX11_isSlot_1 : decode cX11_isSlot 1 = .ok (.i2l, 1) := by decide +kernel
theorem dX11_isSlot_2 : decode cX11_isSlot 2 = .ok (.lconst 0, 1) := by decide +kernel
theorem dX11_isSlot_3 : decode cX11_isSlot 3 = .ok (.ldc2_w 101, 3) := by decide +kernel
theorem dX11_isSlot_6 : decode cX11_isSlot 6 = .ok (.invokestatic 103, 3) := by decide +kernel
theorem dX11_isSlot_9 : decode cX11_isSlot 9 = .ok (.ireturn, 1) := by decide +kernel
def FX11_isSlot_0  (x0 : Int) (f : Mm) : Option (Int × Mm) := (b2 (FX11_in x0 0 3 f) fun y1 f1 => (if y1 = 0 ∨ y1 = 1 then some (y1, f1) else none))
set_option maxHeartbeats 4000000 in
set_option maxRecDepth 100000 in
theorem SX11_isSlot_0 {G : GT} {l : Launch} {Q : Option AV → Mem → Prop}  (x0 : Int) (f : Mm) (h : OkI Q (FX11_isSlot_0  x0 f)) : Ev G l MX11_isSlot (Rm 2 0 0) (ZM G Q 0 0) 0 0 0 [some (vI x0)] [] (SH, RF, f) := by
  unfold FX11_isSlot_0 at h
  refine ev_iload_n (i := 0) dX11_isSlot_0 rfl rfl ?_
  refine ev_i2l dX11_isSlot_1 ?_
  refine ev_lconst (v := 0) dX11_isSlot_2 (r64c rfl) (by decide) ?_
  refine ev_ldc2 (v := 3) dX11_isSlot_3 (r64c rfl) kc_X11_101 ?_
  refine ev_cSI (av := [vJ x0, vJ 0, vJ 3]) (S := []) (fun q => q) h dX11_isSlot_6 (fun Q' q => TX11_in x0 0 3 _ q) ksX11_in ml_X11_103 rfl (RRc (by decide) (by decide)) (Nat.le_of_ble_eq_true rfl) ⟨Nat.le_of_ble_eq_true rfl, Nat.le_of_ble_eq_true rfl⟩ (fun y1 f1 h => ?_)
  by_cases g2 : y1 = 0 ∨ y1 = 1
  · rw [if_pos g2] at h
    exact ev_zret rfl g2 dX11_isSlot_9 h
  · rw [if_neg g2] at h; exact h.elim
def FX11_isSlot (x0 : Int) (f : Mm) : Option (Int × Mm) := FX11_isSlot_0 x0 f
set_option maxRecDepth 100000 in
theorem TX11_isSlot {G : GT} {l : Launch} {Q : Option AV → Mem → Prop} (x0 : Int) (f : Mm) (h : OkI Q (FX11_isSlot x0 f)) : Ret G l MX11_isSlot (2) 0 0 [vI x0] (SH, RF, f) Q := by
  refine ret_of (L := [some (vI x0)]) (by decide) rfl (Nat.le_of_ble_eq_true rfl) ?_
  exact SX11_isSlot_0 x0 f h
theorem dX11_row_57 : decode cX11_row 57 = .ok (.iload 4, 2) := by decide +kernel
theorem dX11_row_59 : decode cX11_row 59 = .ok (.iload_n 3, 1) := by decide +kernel
theorem dX11_row_60 : decode cX11_row 60 = .ok (.if_icmp .ge 22, 3) := by decide +kernel
theorem dX11_row_82 : decode cX11_row 82 = .ok (.iconst 0, 1) := by decide +kernel
theorem dX11_row_83 : decode cX11_row 83 = .ok (.ireturn, 1) := by decide +kernel
theorem dX11_row_63 : decode cX11_row 63 = .ok (.aload_n 0, 1) := by decide +kernel
theorem dX11_row_64 : decode cX11_row 64 = .ok (.getfield 16, 3) := by decide +kernel
theorem dX11_row_67 : decode cX11_row 67 = .ok (.bipush 60, 2) := by decide +kernel
theorem dX11_row_69 : decode cX11_row 69 = .ok (.iload_n 1, 1) := by decide +kernel
theorem dX11_row_70 : decode cX11_row 70 = .ok (.imul, 1) := by decide +kernel
theorem dX11_row_71 : decode cX11_row 71 = .ok (.iload 4, 2) := by decide +kernel
theorem dX11_row_73 : decode cX11_row 73 = .ok (.iadd, 1) := by decide +kernel
theorem dX11_row_74 : decode cX11_row 74 = .ok (.lconst 0, 1) := by decide +kernel
theorem dX11_row_75 : decode cX11_row 75 = .ok (.lastore, 1) := by decide +kernel
theorem dX11_row_76 : decode cX11_row 76 = .ok (.iinc 4 1, 3) := by decide +kernel
theorem dX11_row_79 : decode cX11_row 79 = .ok (.goto (-22), 3) := by decide +kernel
theorem dX11_row_0 : decode cX11_row 0 = .ok (.aload_n 0, 1) := by decide +kernel
theorem dX11_row_1 : decode cX11_row 1 = .ok (.iconst 0, 1) := by decide +kernel
theorem dX11_row_2 : decode cX11_row 2 = .ok (.putfield 98, 3) := by decide +kernel
theorem dX11_row_5 : decode cX11_row 5 = .ok (.iload_n 1, 1) := by decide +kernel
theorem dX11_row_6 : decode cX11_row 6 = .ok (.invokestatic 107, 3) := by decide +kernel
theorem dX11_row_9 : decode cX11_row 9 = .ok (.ifCond .eq 21, 3) := by decide +kernel
theorem dX11_row_30 : decode cX11_row 30 = .ok (.bipush (-2), 2) := by decide +kernel
theorem dX11_row_32 : decode cX11_row 32 = .ok (.ireturn, 1) := by decide +kernel
theorem dX11_row_12 : decode cX11_row 12 = .ok (.iload_n 2, 1) := by decide +kernel
theorem dX11_row_13 : decode cX11_row 13 = .ok (.i2l, 1) := by decide +kernel
theorem dX11_row_14 : decode cX11_row 14 = .ok (.lconst 0, 1) := by decide +kernel
theorem dX11_row_15 : decode cX11_row 15 = .ok (.ldc2_w 101, 3) := by decide +kernel
theorem dX11_row_18 : decode cX11_row 18 = .ok (.invokestatic 103, 3) := by decide +kernel
theorem dX11_row_21 : decode cX11_row 21 = .ok (.ifCond .eq 9, 3) := by decide +kernel
theorem dX11_row_24 : decode cX11_row 24 = .ok (.iload_n 3, 1) := by decide +kernel
theorem dX11_row_25 : decode cX11_row 25 = .ok (.bipush 60, 2) := by decide +kernel
theorem dX11_row_27 : decode cX11_row 27 = .ok (.if_icmp .le 6, 3) := by decide +kernel
theorem dX11_row_33 : decode cX11_row 33 = .ok (.iload_n 3, 1) := by decide +kernel
theorem dX11_row_34 : decode cX11_row 34 = .ok (.ifCond .ge 6, 3) := by decide +kernel
theorem dX11_row_40 : decode cX11_row 40 = .ok (.aload_n 0, 1) := by decide +kernel
theorem dX11_row_41 : decode cX11_row 41 = .ok (.getfield 7, 3) := by decide +kernel
theorem dX11_row_44 : decode cX11_row 44 = .ok (.iload_n 1, 1) := by decide +kernel
theorem dX11_row_45 : decode cX11_row 45 = .ok (.iload_n 2, 1) := by decide +kernel
theorem dX11_row_46 : decode cX11_row 46 = .ok (.iastore, 1) := by decide +kernel
theorem dX11_row_47 : decode cX11_row 47 = .ok (.aload_n 0, 1) := by decide +kernel
theorem dX11_row_48 : decode cX11_row 48 = .ok (.getfield 13, 3) := by decide +kernel
theorem dX11_row_51 : decode cX11_row 51 = .ok (.iload_n 1, 1) := by decide +kernel
theorem dX11_row_52 : decode cX11_row 52 = .ok (.iload_n 3, 1) := by decide +kernel
theorem dX11_row_53 : decode cX11_row 53 = .ok (.iastore, 1) := by decide +kernel
theorem dX11_row_54 : decode cX11_row 54 = .ok (.iconst 0, 1) := by decide +kernel
theorem dX11_row_55 : decode cX11_row 55 = .ok (.istore 4, 2) := by decide +kernel
theorem dX11_row_37 : decode cX11_row 37 = .ok (.bipush (-3), 2) := by decide +kernel
theorem dX11_row_39 : decode cX11_row 39 = .ok (.ireturn, 1) := by decide +kernel
def FX11_row_57  : Nat → Int → Int → Int → Mm → Option (Int × Mm)
  | 0, _, _, _, _ => none
  | n + 1, x1, x3, x4, f => (if x3 ≤ x4 then some (0, f) else (if 0 ≤ (w32 ((w32 (60 * x1)) + x4)) ∧ (w32 ((w32 (60 * x1)) + x4)) < 240 then FX11_row_57 n x1 x3 (w32 (x4 + 1)) (up f 153 (w32 ((w32 (60 * x1)) + x4)).toNat 0) else none))
set_option maxHeartbeats 4000000 in
set_option maxRecDepth 100000 in
theorem SX11_row_57 {G : GT} {l : Launch} {Q : Option AV → Mem → Prop}  : ∀ (n : Nat) (x1 : Int) (x3 : Int) (x4 : Int) (f : Mm), OkI Q (FX11_row_57  n x1 x3 x4 f) → Ev G l MX11_row (Rm 3 0 0) (ZM G Q 0 0) 0 0 57 [some (vR 150), some (vI x1), none, some (vI x3), some (vI x4)] [] (SH, RF, f) := by
  intro n
  induction n with
  | zero => intro x1 x3 x4 f h; exact absurd h (by rw [FX11_row_57]; exact fun q => q)
  | succ n ih =>
    intro x1 x3 x4 f h
    rw [FX11_row_57] at h
    refine ev_iload dX11_row_57 rfl ?_
    refine ev_iload_n (i := 3) dX11_row_59 rfl rfl ?_
    refine ev_icmp_ge (tgt := 82) dX11_row_60 (by decide) (fun c2 => ?_) (fun c2 => ?_)
    · rw [if_pos c2] at h
      refine ev_iconst dX11_row_82 (r32c rfl) ?_
      exact ev_iret rfl dX11_row_83 h
    · rw [if_neg c2] at h
      refine ev_aload_n (i := 0) dX11_row_63 rfl rfl ?_
      refine ev_getR dX11_row_64 fl_X11_16 sh_150 (by decide) (by decide) rf_150_3 ?_
      refine ev_bipush (v := 60) dX11_row_67 (r32c rfl) (by decide) ?_
      refine ev_iload_n (i := 1) dX11_row_69 rfl rfl ?_
      refine ev_imul dX11_row_70 ?_
      refine ev_iload dX11_row_71 rfl ?_
      refine ev_iadd dX11_row_73 ?_
      refine ev_lconst (v := 0) dX11_row_74 (r64c rfl) (by decide) ?_
      by_cases g1 : 0 ≤ (w32 ((w32 (60 * x1)) + x4)) ∧ (w32 ((w32 (60 * x1)) + x4)) < 240
      · rw [if_pos g1] at h
        refine ex_last (j := (w32 ((w32 (60 * x1)) + x4)).toNat) dX11_row_75 sh_153 g1.1 g1.2 rfl ?_
        refine ev_iinc (L' := [some (vR 150), some (vI x1), none, some (vI x3), some (vI (w32 (x4 + 1)))]) dX11_row_76 rfl (by decide) rfl ?_
        refine ev_goto (tgt := 57) dX11_row_79 (by decide) ?_
        exact ih x1 x3 (w32 (x4 + 1)) _ h
      · rw [if_neg g1] at h; exact h.elim
def FX11_row_0  (x1 : Int) (x2 : Int) (x3 : Int) (f : Mm) : Option (Int × Mm) := (b2 (FX11_isSlot x1 (up f 150 0 0)) fun y1 f1 => (if y1 = 0 then some ((-2), f1) else (b2 (FX11_in x2 0 3 f1) fun y2 f2 => (if y2 = 0 then some ((-2), f2) else (if x3 ≤ 60 then (if 0 ≤ x3 then (if 0 ≤ x1 ∧ x1 < 4 then (if 0 ≤ x1 ∧ x1 < 4 then FX11_row_57 fu x1 x3 0 (up (up f2 151 x1.toNat x2) 152 x1.toNat x3) else none) else none) else some ((-3), f2)) else some ((-2), f2))))))
set_option maxHeartbeats 4000000 in
set_option maxRecDepth 100000 in
theorem SX11_row_0 {G : GT} {l : Launch} {Q : Option AV → Mem → Prop}  (x1 : Int) (x2 : Int) (x3 : Int) (f : Mm) (h : OkI Q (FX11_row_0  x1 x2 x3 f)) : Ev G l MX11_row (Rm 3 0 0) (ZM G Q 0 0) 0 0 0 [some (vR 150), some (vI x1), some (vI x2), some (vI x3), none] [] (SH, RF, f) := by
  unfold FX11_row_0 at h
  refine ev_aload_n (i := 0) dX11_row_0 rfl rfl ?_
  refine ev_iconst dX11_row_1 (r32c rfl) ?_
  refine ev_putI dX11_row_2 fl_X11_98 sh_150 (by decide) (by decide) ?_
  refine ev_iload_n (i := 1) dX11_row_5 rfl rfl ?_
  refine ev_cSI (av := [vI x1]) (S := []) (fun q => q) h dX11_row_6 (fun Q' q => TX11_isSlot x1 _ q) ksX11_isSlot ml_X11_107 rfl (RRc (by decide) (by decide)) (Nat.le_of_ble_eq_true rfl) ⟨Nat.le_of_ble_eq_true rfl, Nat.le_of_ble_eq_true rfl⟩ (fun y1 f1 h => ?_)
  refine ev_if_eq (tgt := 30) dX11_row_9 (by decide) (fun c8 => ?_) (fun c8 => ?_)
  · rw [if_pos c8] at h
    refine ev_bipush (v := (-2)) dX11_row_30 (r32c rfl) (by decide) ?_
    exact ev_iret rfl dX11_row_32 h
  · rw [if_neg c8] at h
    refine ev_iload_n (i := 2) dX11_row_12 rfl rfl ?_
    refine ev_i2l dX11_row_13 ?_
    refine ev_lconst (v := 0) dX11_row_14 (r64c rfl) (by decide) ?_
    refine ev_ldc2 (v := 3) dX11_row_15 (r64c rfl) kc_X11_101 ?_
    refine ev_cSI (av := [vJ x2, vJ 0, vJ 3]) (S := []) (fun q => q) h dX11_row_18 (fun Q' q => TX11_in x2 0 3 _ q) ksX11_in ml_X11_103 rfl (RRc (by decide) (by decide)) (Nat.le_of_ble_eq_true rfl) ⟨Nat.le_of_ble_eq_true rfl, Nat.le_of_ble_eq_true rfl⟩ (fun y2 f2 h => ?_)
    refine ev_if_eq (tgt := 30) dX11_row_21 (by decide) (fun c7 => ?_) (fun c7 => ?_)
    · rw [if_pos c7] at h
      refine ev_bipush (v := (-2)) dX11_row_30 (r32c rfl) (by decide) ?_
      exact ev_iret rfl dX11_row_32 h
    · rw [if_neg c7] at h
      refine ev_iload_n (i := 3) dX11_row_24 rfl rfl ?_
      refine ev_bipush (v := 60) dX11_row_25 (r32c rfl) (by decide) ?_
      refine ev_icmp_le (tgt := 33) dX11_row_27 (by decide) (fun c6 => ?_) (fun c6 => ?_)
      · rw [if_pos c6] at h
        refine ev_iload_n (i := 3) dX11_row_33 rfl rfl ?_
        refine ev_if_ge (tgt := 40) dX11_row_34 (by decide) (fun c5 => ?_) (fun c5 => ?_)
        · rw [if_pos c5] at h
          refine ev_aload_n (i := 0) dX11_row_40 rfl rfl ?_
          refine ev_getR dX11_row_41 fl_X11_7 sh_150 (by decide) (by decide) rf_150_1 ?_
          refine ev_iload_n (i := 1) dX11_row_44 rfl rfl ?_
          refine ev_iload_n (i := 2) dX11_row_45 rfl rfl ?_
          by_cases g3 : 0 ≤ x1 ∧ x1 < 4
          · rw [if_pos g3] at h
            refine ex_iast (j := x1.toNat) dX11_row_46 sh_151 g3.1 g3.2 rfl ?_
            refine ev_aload_n (i := 0) dX11_row_47 rfl rfl ?_
            refine ev_getR dX11_row_48 fl_X11_13 sh_150 (by decide) (by decide) rf_150_2 ?_
            refine ev_iload_n (i := 1) dX11_row_51 rfl rfl ?_
            refine ev_iload_n (i := 3) dX11_row_52 rfl rfl ?_
            by_cases g4 : 0 ≤ x1 ∧ x1 < 4
            · rw [if_pos g4] at h
              refine ex_iast (j := x1.toNat) dX11_row_53 sh_152 g4.1 g4.2 rfl ?_
              refine ev_iconst dX11_row_54 (r32c rfl) ?_
              refine ev_istore (L' := [some (vR 150), some (vI x1), some (vI x2), some (vI x3), some (vI 0)]) dX11_row_55 (by decide) rfl ?_
              refine ev_fg [true, true, false, true, true] rfl ?_
              exact SX11_row_57  fu x1 x3 0 _ h
            · rw [if_neg g4] at h; exact h.elim
          · rw [if_neg g3] at h; exact h.elim
        · rw [if_neg c5] at h
          refine ev_bipush (v := (-3)) dX11_row_37 (r32c rfl) (by decide) ?_
          exact ev_iret rfl dX11_row_39 h
      · rw [if_neg c6] at h
        refine ev_bipush (v := (-2)) dX11_row_30 (r32c rfl) (by decide) ?_
        exact ev_iret rfl dX11_row_32 h
def FX11_row (x1 : Int) (x2 : Int) (x3 : Int) (f : Mm) : Option (Int × Mm) := FX11_row_0 x1 x2 x3 f
set_option maxRecDepth 100000 in
theorem TX11_row {G : GT} {l : Launch} {Q : Option AV → Mem → Prop} (x1 : Int) (x2 : Int) (x3 : Int) (f : Mm) (h : OkI Q (FX11_row x1 x2 x3 f)) : Ret G l MX11_row (3) 0 0 [vR 150, vI x1, vI x2, vI x3] (SH, RF, f) Q := by
  refine ret_of (L := [some (vR 150), some (vI x1), some (vI x2), some (vI x3), none]) (by decide) rfl (Nat.le_of_ble_eq_true rfl) ?_
  exact SX11_row_0 x1 x2 x3 f h
theorem dX11_cut_0 : decode cX11_cut 0 = .ok (.iload_n 2, 1) := by decide +kernel
theorem dX11_cut_1 : decode cX11_cut 1 = .ok (.ifCond .ne 10, 3) := by decide +kernel
theorem dX11_cut_11 : decode cX11_cut 11 = .ok (.iload_n 2, 1) := by decide +kernel
theorem dX11_cut_12 : decode cX11_cut 12 = .ok (.iconst 1, 1) := by decide +kernel
theorem dX11_cut_13 : decode cX11_cut 13 = .ok (.if_icmp .ne 10, 3) := by decide +kernel
theorem dX11_cut_23 : decode cX11_cut 23 = .ok (.iload_n 2, 1) := by decide +kernel
theorem dX11_cut_24 : decode cX11_cut 24 = .ok (.iconst 2, 1) := by decide +kernel
theorem dX11_cut_25 : decode cX11_cut 25 = .ok (.if_icmp .ne 9, 3) := by decide +kernel
theorem dX11_cut_34 : decode cX11_cut 34 = .ok (.lload_n 0, 1) := by decide +kernel
theorem dX11_cut_35 : decode cX11_cut 35 = .ok (.lreturn, 1) := by decide +kernel
theorem dX11_cut_28 : decode cX11_cut 28 = .ok (.lload_n 0, 1) := by decide +kernel
theorem dX11_cut_29 : decode cX11_cut 29 = .ok (.l2i, 1) := by decide +kernel
theorem dX11_cut_30 : decode cX11_cut 30 = .ok (.i2l, 1) := by decide +kernel
theorem dX11_cut_31 : decode cX11_cut 31 = .ok (.goto 4, 3) := by decide +kernel
theorem dX11_cut_16 : decode cX11_cut 16 = .ok (.lload_n 0, 1) := by decide +kernel
theorem dX11_cut_17 : decode cX11_cut 17 = .ok (.l2i, 1) := by decide +kernel
theorem dX11_cut_18 : decode cX11_cut 18 = .ok (.i2s, 1) := by decide +kernel
theorem dX11_cut_19 : decode cX11_cut 19 = .ok (.i2l, 1) := by decide +kernel
theorem dX11_cut_20 : decode cX11_cut 20 = .ok (.goto 15, 3) := by decide +kernel
theorem dX11_cut_4 : decode cX11_cut 4 = .ok (.lload_n 0, 1) := by decide +kernel
theorem dX11_cut_5 : decode cX11_cut 5 = .ok (.l2i, 1) := by decide +kernel
theorem dX11_cut_6 : decode cX11_cut 6 = .ok (.i2b, 1) := by decide +kernel
theorem dX11_cut_7 : decode cX11_cut 7 = .ok (.i2l, 1) := by decide +kernel
theorem dX11_cut_8 : decode cX11_cut 8 = .ok (.goto 27, 3) := by decide +kernel
def FX11_cut_0  (x0 : Int) (x2 : Int) (f : Mm) : Option (Int × Mm) := (if x2 = 0 then some ((w8 (w32 x0)), f) else (if x2 = 1 then some ((w16 (w32 x0)), f) else (if x2 = 2 then some ((w32 x0), f) else some (x0, f))))
set_option maxHeartbeats 4000000 in
set_option maxRecDepth 100000 in
theorem SX11_cut_0 {G : GT} {l : Launch} {Q : Option AV → Mem → Prop}  (x0 : Int) (x2 : Int) (f : Mm) (h : OkJ Q (FX11_cut_0  x0 x2 f)) : Ev G l MX11_cut (Rm 1 0 0) (ZM G Q 0 0) 0 0 0 [some (vJ x0), none, some (vI x2)] [] (SH, RF, f) := by
  unfold FX11_cut_0 at h
  refine ev_iload_n (i := 2) dX11_cut_0 rfl rfl ?_
  refine ev_if_ne (tgt := 11) dX11_cut_1 (by decide) (fun c3 => ?_) (fun c3 => ?_)
  · rw [if_neg c3] at h
    refine ev_iload_n (i := 2) dX11_cut_11 rfl rfl ?_
    refine ev_iconst dX11_cut_12 (r32c rfl) ?_
    refine ev_icmp_ne (tgt := 23) dX11_cut_13 (by decide) (fun c2 => ?_) (fun c2 => ?_)
    · rw [if_neg c2] at h
      refine ev_iload_n (i := 2) dX11_cut_23 rfl rfl ?_
      refine ev_iconst dX11_cut_24 (r32c rfl) ?_
      refine ev_icmp_ne (tgt := 34) dX11_cut_25 (by decide) (fun c1 => ?_) (fun c1 => ?_)
      · rw [if_neg c1] at h
        refine ev_lload_n (i := 0) dX11_cut_34 rfl rfl ?_
        exact ev_lret rfl dX11_cut_35 h
      · rw [if_pos c1] at h
        refine ev_lload_n (i := 0) dX11_cut_28 rfl rfl ?_
        refine ev_l2i dX11_cut_29 ?_
        refine ev_i2l dX11_cut_30 ?_
        refine ev_goto (tgt := 35) dX11_cut_31 (by decide) ?_
        exact ev_lret rfl dX11_cut_35 h
    · rw [if_pos c2] at h
      refine ev_lload_n (i := 0) dX11_cut_16 rfl rfl ?_
      refine ev_l2i dX11_cut_17 ?_
      refine ev_i2s dX11_cut_18 ?_
      refine ev_i2l dX11_cut_19 ?_
      refine ev_goto (tgt := 35) dX11_cut_20 (by decide) ?_
      exact ev_lret rfl dX11_cut_35 h
  · rw [if_pos c3] at h
    refine ev_lload_n (i := 0) dX11_cut_4 rfl rfl ?_
    refine ev_l2i dX11_cut_5 ?_
    refine ev_i2b dX11_cut_6 ?_
    refine ev_i2l dX11_cut_7 ?_
    refine ev_goto (tgt := 35) dX11_cut_8 (by decide) ?_
    exact ev_lret rfl dX11_cut_35 h
def FX11_cut (x0 : Int) (x2 : Int) (f : Mm) : Option (Int × Mm) := FX11_cut_0 x0 x2 f
set_option maxRecDepth 100000 in
theorem TX11_cut {G : GT} {l : Launch} {Q : Option AV → Mem → Prop} (x0 : Int) (x2 : Int) (f : Mm) (h : OkJ Q (FX11_cut x0 x2 f)) : Ret G l MX11_cut (1) 0 0 [vJ x0, vI x2] (SH, RF, f) Q := by
  refine ret_of (L := [some (vJ x0), none, some (vI x2)]) (by decide) rfl (Nat.le_of_ble_eq_true rfl) ?_
  exact SX11_cut_0 x0 x2 f h
theorem dX11_write_0 : decode cX11_write 0 = .ok (.aload_n 0, 1) := by decide +kernel
theorem dX11_write_1 : decode cX11_write 1 = .ok (.iconst 0, 1) := by decide +kernel
theorem dX11_write_2 : decode cX11_write 2 = .ok (.putfield 98, 3) := by decide +kernel
theorem dX11_write_5 : decode cX11_write 5 = .ok (.iload_n 1, 1) := by decide +kernel
theorem dX11_write_6 : decode cX11_write 6 = .ok (.invokestatic 107, 3) := by decide +kernel
theorem dX11_write_9 : decode cX11_write 9 = .ok (.ifCond .ne 6, 3) := by decide +kernel
theorem dX11_write_15 : decode cX11_write 15 = .ok (.aload_n 0, 1) := by decide +kernel
theorem dX11_write_16 : decode cX11_write 16 = .ok (.getfield 7, 3) := by decide +kernel
theorem dX11_write_19 : decode cX11_write 19 = .ok (.iload_n 1, 1) := by decide +kernel
theorem dX11_write_20 : decode cX11_write 20 = .ok (.iaload, 1) := by decide +kernel
theorem dX11_write_21 : decode cX11_write 21 = .ok (.iconst (-1), 1) := by decide +kernel
theorem dX11_write_22 : decode cX11_write 22 = .ok (.if_icmp .ne 6, 3) := by decide +kernel
theorem dX11_write_28 : decode cX11_write 28 = .ok (.iload_n 2, 1) := by decide +kernel
theorem dX11_write_29 : decode cX11_write 29 = .ok (.i2l, 1) := by decide +kernel
theorem dX11_write_30 : decode cX11_write 30 = .ok (.lconst 0, 1) := by decide +kernel
theorem dX11_write_31 : decode cX11_write 31 = .ok (.aload_n 0, 1) := by decide +kernel
theorem dX11_write_32 : decode cX11_write 32 = .ok (.getfield 13, 3) := by decide +kernel
theorem dX11_write_35 : decode cX11_write 35 = .ok (.iload_n 1, 1) := by decide +kernel
theorem dX11_write_36 : decode cX11_write 36 = .ok (.iaload, 1) := by decide +kernel
theorem dX11_write_37 : decode cX11_write 37 = .ok (.iconst 1, 1) := by decide +kernel
theorem dX11_write_38 : decode cX11_write 38 = .ok (.isub, 1) := by decide +kernel
theorem dX11_write_39 : decode cX11_write 39 = .ok (.i2l, 1) := by decide +kernel
theorem dX11_write_40 : decode cX11_write 40 = .ok (.invokestatic 103, 3) := by decide +kernel
theorem dX11_write_43 : decode cX11_write 43 = .ok (.ifCond .ne 6, 3) := by decide +kernel
theorem dX11_write_49 : decode cX11_write 49 = .ok (.aload_n 0, 1) := by decide +kernel
theorem dX11_write_50 : decode cX11_write 50 = .ok (.getfield 16, 3) := by decide +kernel
theorem dX11_write_53 : decode cX11_write 53 = .ok (.bipush 60, 2) := by decide +kernel
theorem dX11_write_55 : decode cX11_write 55 = .ok (.iload_n 1, 1) := by decide +kernel
theorem dX11_write_56 : decode cX11_write 56 = .ok (.imul, 1) := by decide +kernel
theorem dX11_write_57 : decode cX11_write 57 = .ok (.iload_n 2, 1) := by decide +kernel
theorem dX11_write_58 : decode cX11_write 58 = .ok (.iadd, 1) := by decide +kernel
theorem dX11_write_59 : decode cX11_write 59 = .ok (.lload_n 3, 1) := by decide +kernel
theorem dX11_write_60 : decode cX11_write 60 = .ok (.aload_n 0, 1) := by decide +kernel
theorem dX11_write_61 : decode cX11_write 61 = .ok (.getfield 7, 3) := by decide +kernel
theorem dX11_write_64 : decode cX11_write 64 = .ok (.iload_n 1, 1) := by decide +kernel
theorem dX11_write_65 : decode cX11_write 65 = .ok (.iaload, 1) := by decide +kernel
theorem dX11_write_66 : decode cX11_write 66 = .ok (.invokestatic 111, 3) := by decide +kernel
theorem dX11_write_69 : decode cX11_write 69 = .ok (.lastore, 1) := by decide +kernel
theorem dX11_write_70 : decode cX11_write 70 = .ok (.iconst 0, 1) := by decide +kernel
theorem dX11_write_71 : decode cX11_write 71 = .ok (.ireturn, 1) := by decide +kernel
theorem dX11_write_46 : decode cX11_write 46 = .ok (.bipush (-7), 2) := by decide +kernel
theorem dX11_write_48 : decode cX11_write 48 = .ok (.ireturn, 1) := by decide +kernel
theorem dX11_write_25 : decode cX11_write 25 = .ok (.bipush (-6), 2) := by decide +kernel
theorem dX11_write_27 : decode cX11_write 27 = .ok (.ireturn, 1) := by decide +kernel
theorem dX11_write_12 : decode cX11_write 12 = .ok (.bipush (-2), 2) := by decide +kernel
theorem dX11_write_14 : decode cX11_write 14 = .ok (.ireturn, 1) := by decide +kernel
def FX11_write_0  (x1 : Int) (x2 : Int) (x3 : Int) (f : Mm) : Option (Int × Mm) := (b2 (FX11_isSlot x1 (up f 150 0 0)) fun y1 f1 => (if y1 = 0 then some ((-2), f1) else (if 0 ≤ x1 ∧ x1 < 4 then (if (f1 151 x1.toNat) = (-1) then some ((-6), f1) else (if 0 ≤ x1 ∧ x1 < 4 then (b2 (FX11_in x2 0 (w32 ((f1 152 x1.toNat) - 1)) f1) fun y4 f4 => (if y4 = 0 then some ((-7), f4) else (if 0 ≤ x1 ∧ x1 < 4 then (b2 (FX11_cut x3 (f4 151 x1.toNat) f4) fun y6 f6 => (if 0 ≤ (w32 ((w32 (60 * x1)) + x2)) ∧ (w32 ((w32 (60 * x1)) + x2)) < 240 then some (0, (up f6 153 (w32 ((w32 (60 * x1)) + x2)).toNat y6)) else none)) else none))) else none)) else none)))
set_option maxHeartbeats 4000000 in
set_option maxRecDepth 100000 in
theorem SX11_write_0 {G : GT} {l : Launch} {Q : Option AV → Mem → Prop}  (x1 : Int) (x2 : Int) (x3 : Int) (f : Mm) (h : OkI Q (FX11_write_0  x1 x2 x3 f)) : Ev G l MX11_write (Rm 3 0 0) (ZM G Q 0 0) 0 0 0 [some (vR 150), some (vI x1), some (vI x2), some (vJ x3), none] [] (SH, RF, f) := by
  unfold FX11_write_0 at h
  refine ev_aload_n (i := 0) dX11_write_0 rfl rfl ?_
  refine ev_iconst dX11_write_1 (r32c rfl) ?_
  refine ev_putI dX11_write_2 fl_X11_98 sh_150 (by decide) (by decide) ?_
  refine ev_iload_n (i := 1) dX11_write_5 rfl rfl ?_
  refine ev_cSI (av := [vI x1]) (S := []) (fun q => q) h dX11_write_6 (fun Q' q => TX11_isSlot x1 _ q) ksX11_isSlot ml_X11_107 rfl (RRc (by decide) (by decide)) (Nat.le_of_ble_eq_true rfl) ⟨Nat.le_of_ble_eq_true rfl, Nat.le_of_ble_eq_true rfl⟩ (fun y1 f1 h => ?_)
  refine ev_if_ne (tgt := 15) dX11_write_9 (by decide) (fun c10 => ?_) (fun c10 => ?_)
  · rw [if_neg c10] at h
    refine ev_aload_n (i := 0) dX11_write_15 rfl rfl ?_
    refine ev_getR dX11_write_16 fl_X11_7 sh_150 (by decide) (by decide) rf_150_1 ?_
    refine ev_iload_n (i := 1) dX11_write_19 rfl rfl ?_
    by_cases g2 : 0 ≤ x1 ∧ x1 < 4
    · rw [if_pos g2] at h
      refine ex_iald (x := (f1 151 x1.toNat)) dX11_write_20 sh_151 g2.1 g2.2 rfl ?_
      refine ev_iconst dX11_write_21 (r32c rfl) ?_
      refine ev_icmp_ne (tgt := 28) dX11_write_22 (by decide) (fun c9 => ?_) (fun c9 => ?_)
      · rw [if_neg c9] at h
        refine ev_iload_n (i := 2) dX11_write_28 rfl rfl ?_
        refine ev_i2l dX11_write_29 ?_
        refine ev_lconst (v := 0) dX11_write_30 (r64c rfl) (by decide) ?_
        refine ev_aload_n (i := 0) dX11_write_31 rfl rfl ?_
        refine ev_getR dX11_write_32 fl_X11_13 sh_150 (by decide) (by decide) rf_150_2 ?_
        refine ev_iload_n (i := 1) dX11_write_35 rfl rfl ?_
        by_cases g3 : 0 ≤ x1 ∧ x1 < 4
        · rw [if_pos g3] at h
          refine ex_iald (x := (f1 152 x1.toNat)) dX11_write_36 sh_152 g3.1 g3.2 rfl ?_
          refine ev_iconst dX11_write_37 (r32c rfl) ?_
          refine ev_isub dX11_write_38 ?_
          refine ev_i2l dX11_write_39 ?_
          refine ev_cSI (av := [vJ x2, vJ 0, vJ (w32 ((f1 152 x1.toNat) - 1))]) (S := []) (fun q => q) h dX11_write_40 (fun Q' q => TX11_in x2 0 (w32 ((f1 152 x1.toNat) - 1)) _ q) ksX11_in ml_X11_103 rfl (RRc (by decide) (by decide)) (Nat.le_of_ble_eq_true rfl) ⟨Nat.le_of_ble_eq_true rfl, Nat.le_of_ble_eq_true rfl⟩ (fun y4 f4 h => ?_)
          refine ev_if_ne (tgt := 49) dX11_write_43 (by decide) (fun c8 => ?_) (fun c8 => ?_)
          · rw [if_neg c8] at h
            refine ev_aload_n (i := 0) dX11_write_49 rfl rfl ?_
            refine ev_getR dX11_write_50 fl_X11_16 sh_150 (by decide) (by decide) rf_150_3 ?_
            refine ev_bipush (v := 60) dX11_write_53 (r32c rfl) (by decide) ?_
            refine ev_iload_n (i := 1) dX11_write_55 rfl rfl ?_
            refine ev_imul dX11_write_56 ?_
            refine ev_iload_n (i := 2) dX11_write_57 rfl rfl ?_
            refine ev_iadd dX11_write_58 ?_
            refine ev_lload_n (i := 3) dX11_write_59 rfl rfl ?_
            refine ev_aload_n (i := 0) dX11_write_60 rfl rfl ?_
            refine ev_getR dX11_write_61 fl_X11_7 sh_150 (by decide) (by decide) rf_150_1 ?_
            refine ev_iload_n (i := 1) dX11_write_64 rfl rfl ?_
            by_cases g5 : 0 ≤ x1 ∧ x1 < 4
            · rw [if_pos g5] at h
              refine ex_iald (x := (f4 151 x1.toNat)) dX11_write_65 sh_151 g5.1 g5.2 rfl ?_
              refine ev_cSJ (av := [vJ x3, vI (f4 151 x1.toNat)]) (S := [vI (w32 ((w32 (60 * x1)) + x2)), vR 153]) (fun q => q) h dX11_write_66 (fun Q' q => TX11_cut x3 (f4 151 x1.toNat) _ q) ksX11_cut ml_X11_111 rfl (RRc (by decide) (by decide)) (Nat.le_of_ble_eq_true rfl) ⟨Nat.le_of_ble_eq_true rfl, Nat.le_of_ble_eq_true rfl⟩ (fun y6 f6 h => ?_)
              by_cases g7 : 0 ≤ (w32 ((w32 (60 * x1)) + x2)) ∧ (w32 ((w32 (60 * x1)) + x2)) < 240
              · rw [if_pos g7] at h
                refine ex_last (j := (w32 ((w32 (60 * x1)) + x2)).toNat) dX11_write_69 sh_153 g7.1 g7.2 rfl ?_
                refine ev_iconst dX11_write_70 (r32c rfl) ?_
                exact ev_iret rfl dX11_write_71 h
              · rw [if_neg g7] at h; exact h.elim
            · rw [if_neg g5] at h; exact h.elim
          · rw [if_pos c8] at h
            refine ev_bipush (v := (-7)) dX11_write_46 (r32c rfl) (by decide) ?_
            exact ev_iret rfl dX11_write_48 h
        · rw [if_neg g3] at h; exact h.elim
      · rw [if_pos c9] at h
        refine ev_bipush (v := (-6)) dX11_write_25 (r32c rfl) (by decide) ?_
        exact ev_iret rfl dX11_write_27 h
    · rw [if_neg g2] at h; exact h.elim
  · rw [if_pos c10] at h
    refine ev_bipush (v := (-2)) dX11_write_12 (r32c rfl) (by decide) ?_
    exact ev_iret rfl dX11_write_14 h
def FX11_write (x1 : Int) (x2 : Int) (x3 : Int) (f : Mm) : Option (Int × Mm) := FX11_write_0 x1 x2 x3 f
set_option maxRecDepth 100000 in
theorem TX11_write {G : GT} {l : Launch} {Q : Option AV → Mem → Prop} (x1 : Int) (x2 : Int) (x3 : Int) (f : Mm) (h : OkI Q (FX11_write x1 x2 x3 f)) : Ret G l MX11_write (3) 0 0 [vR 150, vI x1, vI x2, vJ x3] (SH, RF, f) Q := by
  refine ret_of (L := [some (vR 150), some (vI x1), some (vI x2), some (vJ x3), none]) (by decide) rfl (Nat.le_of_ble_eq_true rfl) ?_
  exact SX11_write_0 x1 x2 x3 f h
theorem dX11_paste_155 : decode cX11_paste 155 = .ok (.iload 6, 2) := by decide +kernel
theorem dX11_paste_157 : decode cX11_paste 157 = .ok (.iload 5, 2) := by decide +kernel
theorem dX11_paste_159 : decode cX11_paste 159 = .ok (.if_icmp .ge 31, 3) := by decide +kernel
theorem dX11_paste_190 : decode cX11_paste 190 = .ok (.iconst 0, 1) := by decide +kernel
theorem dX11_paste_191 : decode cX11_paste 191 = .ok (.ireturn, 1) := by decide +kernel
theorem dX11_paste_162 : decode cX11_paste 162 = .ok (.aload_n 0, 1) := by decide +kernel
theorem dX11_paste_163 : decode cX11_paste 163 = .ok (.getfield 16, 3) := by decide +kernel
theorem dX11_paste_166 : decode cX11_paste 166 = .ok (.bipush 60, 2) := by decide +kernel
theorem dX11_paste_168 : decode cX11_paste 168 = .ok (.iload_n 3, 1) := by decide +kernel
theorem dX11_paste_169 : decode cX11_paste 169 = .ok (.imul, 1) := by decide +kernel
theorem dX11_paste_170 : decode cX11_paste 170 = .ok (.iload 4, 2) := by decide +kernel
theorem dX11_paste_172 : decode cX11_paste 172 = .ok (.iadd, 1) := by decide +kernel
theorem dX11_paste_173 : decode cX11_paste 173 = .ok (.iload 6, 2) := by decide +kernel
theorem dX11_paste_175 : decode cX11_paste 175 = .ok (.iadd, 1) := by decide +kernel
theorem dX11_paste_176 : decode cX11_paste 176 = .ok (.aload_n 0, 1) := by decide +kernel
theorem dX11_paste_177 : decode cX11_paste 177 = .ok (.getfield 20, 3) := by decide +kernel
theorem dX11_paste_180 : decode cX11_paste 180 = .ok (.iload 6, 2) := by decide +kernel
theorem dX11_paste_182 : decode cX11_paste 182 = .ok (.laload, 1) := by decide +kernel
theorem dX11_paste_183 : decode cX11_paste 183 = .ok (.lastore, 1) := by decide +kernel
theorem dX11_paste_184 : decode cX11_paste 184 = .ok (.iinc 6 1, 3) := by decide +kernel
theorem dX11_paste_187 : decode cX11_paste 187 = .ok (.goto (-32), 3) := by decide +kernel
theorem dX11_paste_152 : decode cX11_paste 152 = .ok (.iconst 0, 1) := by decide +kernel
theorem dX11_paste_153 : decode cX11_paste 153 = .ok (.istore 6, 2) := by decide +kernel
theorem dX11_paste_118 : decode cX11_paste 118 = .ok (.iload 6, 2) := by decide +kernel
theorem dX11_paste_120 : decode cX11_paste 120 = .ok (.iload 5, 2) := by decide +kernel
theorem dX11_paste_122 : decode cX11_paste 122 = .ok (.if_icmp .ge 30, 3) := by decide +kernel
theorem dX11_paste_125 : decode cX11_paste 125 = .ok (.aload_n 0, 1) := by decide +kernel
theorem dX11_paste_126 : decode cX11_paste 126 = .ok (.getfield 20, 3) := by decide +kernel
theorem dX11_paste_129 : decode cX11_paste 129 = .ok (.iload 6, 2) := by decide +kernel
theorem dX11_paste_131 : decode cX11_paste 131 = .ok (.aload_n 0, 1) := by decide +kernel
theorem dX11_paste_132 : decode cX11_paste 132 = .ok (.getfield 16, 3) := by decide +kernel
theorem dX11_paste_135 : decode cX11_paste 135 = .ok (.bipush 60, 2) := by decide +kernel
theorem dX11_paste_137 : decode cX11_paste 137 = .ok (.iload_n 1, 1) := by decide +kernel
theorem dX11_paste_138 : decode cX11_paste 138 = .ok (.imul, 1) := by decide +kernel
theorem dX11_paste_139 : decode cX11_paste 139 = .ok (.iload_n 2, 1) := by decide +kernel
theorem dX11_paste_140 : decode cX11_paste 140 = .ok (.iadd, 1) := by decide +kernel
theorem dX11_paste_141 : decode cX11_paste 141 = .ok (.iload 6, 2) := by decide +kernel
theorem dX11_paste_143 : decode cX11_paste 143 = .ok (.iadd, 1) := by decide +kernel
theorem dX11_paste_144 : decode cX11_paste 144 = .ok (.laload, 1) := by decide +kernel
theorem dX11_paste_145 : decode cX11_paste 145 = .ok (.lastore, 1) := by decide +kernel
theorem dX11_paste_146 : decode cX11_paste 146 = .ok (.iinc 6 1, 3) := by decide +kernel
theorem dX11_paste_149 : decode cX11_paste 149 = .ok (.goto (-31), 3) := by decide +kernel
theorem dX11_paste_0 : decode cX11_paste 0 = .ok (.aload_n 0, 1) := by decide +kernel
theorem dX11_paste_1 : decode cX11_paste 1 = .ok (.iconst 0, 1) := by decide +kernel
theorem dX11_paste_2 : decode cX11_paste 2 = .ok (.putfield 98, 3) := by decide +kernel
theorem dX11_paste_5 : decode cX11_paste 5 = .ok (.iload_n 1, 1) := by decide +kernel
theorem dX11_paste_6 : decode cX11_paste 6 = .ok (.invokestatic 107, 3) := by decide +kernel
theorem dX11_paste_9 : decode cX11_paste 9 = .ok (.ifCond .eq 10, 3) := by decide +kernel
theorem dX11_paste_19 : decode cX11_paste 19 = .ok (.bipush (-2), 2) := by decide +kernel
theorem dX11_paste_21 : decode cX11_paste 21 = .ok (.ireturn, 1) := by decide +kernel
theorem dX11_paste_12 : decode cX11_paste 12 = .ok (.iload_n 3, 1) := by decide +kernel
theorem dX11_paste_13 : decode cX11_paste 13 = .ok (.invokestatic 107, 3) := by decide +kernel
theorem dX11_paste_16 : decode cX11_paste 16 = .ok (.ifCond .ne 6, 3) := by decide +kernel
theorem dX11_paste_22 : decode cX11_paste 22 = .ok (.aload_n 0, 1) := by decide +kernel
theorem dX11_paste_23 : decode cX11_paste 23 = .ok (.getfield 7, 3) := by decide +kernel
theorem dX11_paste_26 : decode cX11_paste 26 = .ok (.iload_n 1, 1) := by decide +kernel
theorem dX11_paste_27 : decode cX11_paste 27 = .ok (.iaload, 1) := by decide +kernel
theorem dX11_paste_28 : decode cX11_paste 28 = .ok (.iconst (-1), 1) := by decide +kernel
theorem dX11_paste_29 : decode cX11_paste 29 = .ok (.if_icmp .eq 13, 3) := by decide +kernel
theorem dX11_paste_42 : decode cX11_paste 42 = .ok (.bipush (-6), 2) := by decide +kernel
theorem dX11_paste_44 : decode cX11_paste 44 = .ok (.ireturn, 1) := by decide +kernel
theorem dX11_paste_32 : decode cX11_paste 32 = .ok (.aload_n 0, 1) := by decide +kernel
theorem dX11_paste_33 : decode cX11_paste 33 = .ok (.getfield 7, 3) := by decide +kernel
theorem dX11_paste_36 : decode cX11_paste 36 = .ok (.iload_n 3, 1) := by decide +kernel
theorem dX11_paste_37 : decode cX11_paste 37 = .ok (.iaload, 1) := by decide +kernel
theorem dX11_paste_38 : decode cX11_paste 38 = .ok (.iconst (-1), 1) := by decide +kernel
theorem dX11_paste_39 : decode cX11_paste 39 = .ok (.if_icmp .ne 6, 3) := by decide +kernel
theorem dX11_paste_45 : decode cX11_paste 45 = .ok (.aload_n 0, 1) := by decide +kernel
theorem dX11_paste_46 : decode cX11_paste 46 = .ok (.getfield 7, 3) := by decide +kernel
theorem dX11_paste_49 : decode cX11_paste 49 = .ok (.iload_n 1, 1) := by decide +kernel
theorem dX11_paste_50 : decode cX11_paste 50 = .ok (.iaload, 1) := by decide +kernel
theorem dX11_paste_51 : decode cX11_paste 51 = .ok (.aload_n 0, 1) := by decide +kernel
theorem dX11_paste_52 : decode cX11_paste 52 = .ok (.getfield 7, 3) := by decide +kernel
theorem dX11_paste_55 : decode cX11_paste 55 = .ok (.iload_n 3, 1) := by decide +kernel
theorem dX11_paste_56 : decode cX11_paste 56 = .ok (.iaload, 1) := by decide +kernel
theorem dX11_paste_57 : decode cX11_paste 57 = .ok (.if_icmp .eq 6, 3) := by decide +kernel
theorem dX11_paste_63 : decode cX11_paste 63 = .ok (.iload_n 2, 1) := by decide +kernel
theorem dX11_paste_64 : decode cX11_paste 64 = .ok (.ifCond .lt 48, 3) := by decide +kernel
theorem dX11_paste_112 : decode cX11_paste 112 = .ok (.bipush (-7), 2) := by decide +kernel
theorem dX11_paste_114 : decode cX11_paste 114 = .ok (.ireturn, 1) := by decide +kernel
theorem dX11_paste_67 : decode cX11_paste 67 = .ok (.iload 4, 2) := by decide +kernel
theorem dX11_paste_69 : decode cX11_paste 69 = .ok (.ifCond .lt 43, 3) := by decide +kernel
theorem dX11_paste_72 : decode cX11_paste 72 = .ok (.iload 5, 2) := by decide +kernel
theorem dX11_paste_74 : decode cX11_paste 74 = .ok (.ifCond .lt 38, 3) := by decide +kernel
theorem dX11_paste_77 : decode cX11_paste 77 = .ok (.iload_n 2, 1) := by decide +kernel
theorem dX11_paste_78 : decode cX11_paste 78 = .ok (.i2l, 1) := by decide +kernel
theorem dX11_paste_79 : decode cX11_paste 79 = .ok (.iload 5, 2) := by decide +kernel
theorem dX11_paste_81 : decode cX11_paste 81 = .ok (.i2l, 1) := by decide +kernel
theorem dX11_paste_82 : decode cX11_paste 82 = .ok (.ladd, 1) := by decide +kernel
theorem dX11_paste_83 : decode cX11_paste 83 = .ok (.aload_n 0, 1) := by decide +kernel
theorem dX11_paste_84 : decode cX11_paste 84 = .ok (.getfield 13, 3) := by decide +kernel
theorem dX11_paste_87 : decode cX11_paste 87 = .ok (.iload_n 1, 1) := by decide +kernel
theorem dX11_paste_88 : decode cX11_paste 88 = .ok (.iaload, 1) := by decide +kernel
theorem dX11_paste_89 : decode cX11_paste 89 = .ok (.i2l, 1) := by decide +kernel
theorem dX11_paste_90 : decode cX11_paste 90 = .ok (.lcmp, 1) := by decide +kernel
theorem dX11_paste_91 : decode cX11_paste 91 = .ok (.ifCond .gt 21, 3) := by decide +kernel
theorem dX11_paste_94 : decode cX11_paste 94 = .ok (.iload 4, 2) := by decide +kernel
theorem dX11_paste_96 : decode cX11_paste 96 = .ok (.i2l, 1) := by decide +kernel
theorem dX11_paste_97 : decode cX11_paste 97 = .ok (.iload 5, 2) := by decide +kernel
theorem dX11_paste_99 : decode cX11_paste 99 = .ok (.i2l, 1) := by decide +kernel
theorem dX11_paste_100 : decode cX11_paste 100 = .ok (.ladd, 1) := by decide +kernel
theorem dX11_paste_101 : decode cX11_paste 101 = .ok (.aload_n 0, 1) := by decide +kernel
theorem dX11_paste_102 : decode cX11_paste 102 = .ok (.getfield 13, 3) := by decide +kernel
theorem dX11_paste_105 : decode cX11_paste 105 = .ok (.iload_n 3, 1) := by decide +kernel
theorem dX11_paste_106 : decode cX11_paste 106 = .ok (.iaload, 1) := by decide +kernel
theorem dX11_paste_107 : decode cX11_paste 107 = .ok (.i2l, 1) := by decide +kernel
theorem dX11_paste_108 : decode cX11_paste 108 = .ok (.lcmp, 1) := by decide +kernel
theorem dX11_paste_109 : decode cX11_paste 109 = .ok (.ifCond .le 6, 3) := by decide +kernel
theorem dX11_paste_115 : decode cX11_paste 115 = .ok (.iconst 0, 1) := by decide +kernel
theorem dX11_paste_116 : decode cX11_paste 116 = .ok (.istore 6, 2) := by decide +kernel
theorem dX11_paste_60 : decode cX11_paste 60 = .ok (.bipush (-8), 2) := by decide +kernel
theorem dX11_paste_62 : decode cX11_paste 62 = .ok (.ireturn, 1) := by decide +kernel
def FX11_paste_155  : Nat → Int → Int → Int → Int → Mm → Option (Int × Mm)
  | 0, _, _, _, _, _ => none
  | n + 1, x3, x4, x5, x6, f => (if x5 ≤ x6 then some (0, f) else (if 0 ≤ x6 ∧ x6 < 60 then (if 0 ≤ (w32 ((w32 ((w32 (60 * x3)) + x4)) + x6)) ∧ (w32 ((w32 ((w32 (60 * x3)) + x4)) + x6)) < 240 then FX11_paste_155 n x3 x4 x5 (w32 (x6 + 1)) (up f 153 (w32 ((w32 ((w32 (60 * x3)) + x4)) + x6)).toNat (f 154 x6.toNat)) else none) else none))
set_option maxHeartbeats 4000000 in
set_option maxRecDepth 100000 in
theorem SX11_paste_155 {G : GT} {l : Launch} {Q : Option AV → Mem → Prop}  : ∀ (n : Nat) (x3 : Int) (x4 : Int) (x5 : Int) (x6 : Int) (f : Mm), OkI Q (FX11_paste_155  n x3 x4 x5 x6 f) → Ev G l MX11_paste (Rm 3 0 0) (ZM G Q 0 0) 0 0 155 [some (vR 150), none, none, some (vI x3), some (vI x4), some (vI x5), some (vI x6)] [] (SH, RF, f) := by
  intro n
  induction n with
  | zero => intro x3 x4 x5 x6 f h; exact absurd h (by rw [FX11_paste_155]; exact fun q => q)
  | succ n ih =>
    intro x3 x4 x5 x6 f h
    rw [FX11_paste_155] at h
    refine ev_iload dX11_paste_155 rfl ?_
    refine ev_iload dX11_paste_157 rfl ?_
    refine ev_icmp_ge (tgt := 190) dX11_paste_159 (by decide) (fun c3 => ?_) (fun c3 => ?_)
    · rw [if_pos c3] at h
      refine ev_iconst dX11_paste_190 (r32c rfl) ?_
      exact ev_iret rfl dX11_paste_191 h
    · rw [if_neg c3] at h
      refine ev_aload_n (i := 0) dX11_paste_162 rfl rfl ?_
      refine ev_getR dX11_paste_163 fl_X11_16 sh_150 (by decide) (by decide) rf_150_3 ?_
      refine ev_bipush (v := 60) dX11_paste_166 (r32c rfl) (by decide) ?_
      refine ev_iload_n (i := 3) dX11_paste_168 rfl rfl ?_
      refine ev_imul dX11_paste_169 ?_
      refine ev_iload dX11_paste_170 rfl ?_
      refine ev_iadd dX11_paste_172 ?_
      refine ev_iload dX11_paste_173 rfl ?_
      refine ev_iadd dX11_paste_175 ?_
      refine ev_aload_n (i := 0) dX11_paste_176 rfl rfl ?_
      refine ev_getR dX11_paste_177 fl_X11_20 sh_150 (by decide) (by decide) rf_150_4 ?_
      refine ev_iload dX11_paste_180 rfl ?_
      by_cases g1 : 0 ≤ x6 ∧ x6 < 60
      · rw [if_pos g1] at h
        refine ex_lald (x := (f 154 x6.toNat)) dX11_paste_182 sh_154 g1.1 g1.2 rfl ?_
        by_cases g2 : 0 ≤ (w32 ((w32 ((w32 (60 * x3)) + x4)) + x6)) ∧ (w32 ((w32 ((w32 (60 * x3)) + x4)) + x6)) < 240
        · rw [if_pos g2] at h
          refine ex_last (j := (w32 ((w32 ((w32 (60 * x3)) + x4)) + x6)).toNat) dX11_paste_183 sh_153 g2.1 g2.2 rfl ?_
          refine ev_iinc (L' := [some (vR 150), none, none, some (vI x3), some (vI x4), some (vI x5), some (vI (w32 (x6 + 1)))]) dX11_paste_184 rfl (by decide) rfl ?_
          refine ev_goto (tgt := 155) dX11_paste_187 (by decide) ?_
          exact ih x3 x4 x5 (w32 (x6 + 1)) _ h
        · rw [if_neg g2] at h; exact h.elim
      · rw [if_neg g1] at h; exact h.elim
def FX11_paste_152  (x3 : Int) (x4 : Int) (x5 : Int) (f : Mm) : Option (Int × Mm) := FX11_paste_155 fu x3 x4 x5 0 f
set_option maxHeartbeats 4000000 in
set_option maxRecDepth 100000 in
theorem SX11_paste_152 {G : GT} {l : Launch} {Q : Option AV → Mem → Prop}  (x3 : Int) (x4 : Int) (x5 : Int) (f : Mm) (h : OkI Q (FX11_paste_152  x3 x4 x5 f)) : Ev G l MX11_paste (Rm 3 0 0) (ZM G Q 0 0) 0 0 152 [some (vR 150), none, none, some (vI x3), some (vI x4), some (vI x5), none] [] (SH, RF, f) := by
  unfold FX11_paste_152 at h
  refine ev_iconst dX11_paste_152 (r32c rfl) ?_
  refine ev_istore (L' := [some (vR 150), none, none, some (vI x3), some (vI x4), some (vI x5), some (vI 0)]) dX11_paste_153 (by decide) rfl ?_
  exact SX11_paste_155  fu x3 x4 x5 0 _ h
def FX11_paste_118  : Nat → Int → Int → Int → Int → Int → Int → Mm → Option (Int × Mm)
  | 0, _, _, _, _, _, _, _ => none
  | n + 1, x1, x2, x3, x4, x5, x6, f => (if x5 ≤ x6 then FX11_paste_152 x3 x4 x5 f else (if 0 ≤ (w32 ((w32 ((w32 (60 * x1)) + x2)) + x6)) ∧ (w32 ((w32 ((w32 (60 * x1)) + x2)) + x6)) < 240 then (if 0 ≤ x6 ∧ x6 < 60 then FX11_paste_118 n x1 x2 x3 x4 x5 (w32 (x6 + 1)) (up f 154 x6.toNat (f 153 (w32 ((w32 ((w32 (60 * x1)) + x2)) + x6)).toNat)) else none) else none))
set_option maxHeartbeats 4000000 in
set_option maxRecDepth 100000 in
theorem SX11_paste_118 {G : GT} {l : Launch} {Q : Option AV → Mem → Prop}  : ∀ (n : Nat) (x1 : Int) (x2 : Int) (x3 : Int) (x4 : Int) (x5 : Int) (x6 : Int) (f : Mm), OkI Q (FX11_paste_118  n x1 x2 x3 x4 x5 x6 f) → Ev G l MX11_paste (Rm 3 0 0) (ZM G Q 0 0) 0 0 118 [some (vR 150), some (vI x1), some (vI x2), some (vI x3), some (vI x4), some (vI x5), some (vI x6)] [] (SH, RF, f) := by
  intro n
  induction n with
  | zero => intro x1 x2 x3 x4 x5 x6 f h; exact absurd h (by rw [FX11_paste_118]; exact fun q => q)
  | succ n ih =>
    intro x1 x2 x3 x4 x5 x6 f h
    rw [FX11_paste_118] at h
    refine ev_iload dX11_paste_118 rfl ?_
    refine ev_iload dX11_paste_120 rfl ?_
    refine ev_icmp_ge (tgt := 152) dX11_paste_122 (by decide) (fun c3 => ?_) (fun c3 => ?_)
    · rw [if_pos c3] at h
      refine ev_fg [true, false, false, true, true, true, false] rfl ?_
      exact SX11_paste_152  x3 x4 x5 _ h
    · rw [if_neg c3] at h
      refine ev_aload_n (i := 0) dX11_paste_125 rfl rfl ?_
      refine ev_getR dX11_paste_126 fl_X11_20 sh_150 (by decide) (by decide) rf_150_4 ?_
      refine ev_iload dX11_paste_129 rfl ?_
      refine ev_aload_n (i := 0) dX11_paste_131 rfl rfl ?_
      refine ev_getR dX11_paste_132 fl_X11_16 sh_150 (by decide) (by decide) rf_150_3 ?_
      refine ev_bipush (v := 60) dX11_paste_135 (r32c rfl) (by decide) ?_
      refine ev_iload_n (i := 1) dX11_paste_137 rfl rfl ?_
      refine ev_imul dX11_paste_138 ?_
      refine ev_iload_n (i := 2) dX11_paste_139 rfl rfl ?_
      refine ev_iadd dX11_paste_140 ?_
      refine ev_iload dX11_paste_141 rfl ?_
      refine ev_iadd dX11_paste_143 ?_
      by_cases g1 : 0 ≤ (w32 ((w32 ((w32 (60 * x1)) + x2)) + x6)) ∧ (w32 ((w32 ((w32 (60 * x1)) + x2)) + x6)) < 240
      · rw [if_pos g1] at h
        refine ex_lald (x := (f 153 (w32 ((w32 ((w32 (60 * x1)) + x2)) + x6)).toNat)) dX11_paste_144 sh_153 g1.1 g1.2 rfl ?_
        by_cases g2 : 0 ≤ x6 ∧ x6 < 60
        · rw [if_pos g2] at h
          refine ex_last (j := x6.toNat) dX11_paste_145 sh_154 g2.1 g2.2 rfl ?_
          refine ev_iinc (L' := [some (vR 150), some (vI x1), some (vI x2), some (vI x3), some (vI x4), some (vI x5), some (vI (w32 (x6 + 1)))]) dX11_paste_146 rfl (by decide) rfl ?_
          refine ev_goto (tgt := 118) dX11_paste_149 (by decide) ?_
          exact ih x1 x2 x3 x4 x5 (w32 (x6 + 1)) _ h
        · rw [if_neg g2] at h; exact h.elim
      · rw [if_neg g1] at h; exact h.elim
def FX11_paste_0  (x1 : Int) (x2 : Int) (x3 : Int) (x4 : Int) (x5 : Int) (f : Mm) : Option (Int × Mm) := (b2 (FX11_isSlot x1 (up f 150 0 0)) fun y1 f1 => (if y1 = 0 then some ((-2), f1) else (b2 (FX11_isSlot x3 f1) fun y2 f2 => (if y2 = 0 then some ((-2), f2) else (if 0 ≤ x1 ∧ x1 < 4 then (if (f2 151 x1.toNat) = (-1) then some ((-6), f2) else (if 0 ≤ x3 ∧ x3 < 4 then (if (f2 151 x3.toNat) = (-1) then some ((-6), f2) else (if 0 ≤ x1 ∧ x1 < 4 then (if 0 ≤ x3 ∧ x3 < 4 then (if (f2 151 x1.toNat) = (f2 151 x3.toNat) then (if x2 < 0 then some ((-7), f2) else (if x4 < 0 then some ((-7), f2) else (if x5 < 0 then some ((-7), f2) else (if 0 ≤ x1 ∧ x1 < 4 then (if 0 < (cmp3 (w64 (x2 + x5)) (f2 152 x1.toNat)) then some ((-7), f2) else (if 0 ≤ x3 ∧ x3 < 4 then (if (cmp3 (w64 (x4 + x5)) (f2 152 x3.toNat)) ≤ 0 then FX11_paste_118 fu x1 x2 x3 x4 x5 0 f2 else some ((-7), f2)) else none)) else none)))) else some ((-8), f2)) else none) else none)) else none)) else none)))))
set_option maxHeartbeats 4000000 in
set_option maxRecDepth 100000 in
theorem SX11_paste_0 {G : GT} {l : Launch} {Q : Option AV → Mem → Prop}  (x1 : Int) (x2 : Int) (x3 : Int) (x4 : Int) (x5 : Int) (f : Mm) (h : OkI Q (FX11_paste_0  x1 x2 x3 x4 x5 f)) : Ev G l MX11_paste (Rm 3 0 0) (ZM G Q 0 0) 0 0 0 [some (vR 150), some (vI x1), some (vI x2), some (vI x3), some (vI x4), some (vI x5), none] [] (SH, RF, f) := by
  unfold FX11_paste_0 at h
  refine ev_aload_n (i := 0) dX11_paste_0 rfl rfl ?_
  refine ev_iconst dX11_paste_1 (r32c rfl) ?_
  refine ev_putI dX11_paste_2 fl_X11_98 sh_150 (by decide) (by decide) ?_
  refine ev_iload_n (i := 1) dX11_paste_5 rfl rfl ?_
  refine ev_cSI (av := [vI x1]) (S := []) (fun q => q) h dX11_paste_6 (fun Q' q => TX11_isSlot x1 _ q) ksX11_isSlot ml_X11_107 rfl (RRc (by decide) (by decide)) (Nat.le_of_ble_eq_true rfl) ⟨Nat.le_of_ble_eq_true rfl, Nat.le_of_ble_eq_true rfl⟩ (fun y1 f1 h => ?_)
  refine ev_if_eq (tgt := 19) dX11_paste_9 (by decide) (fun c18 => ?_) (fun c18 => ?_)
  · rw [if_pos c18] at h
    refine ev_bipush (v := (-2)) dX11_paste_19 (r32c rfl) (by decide) ?_
    exact ev_iret rfl dX11_paste_21 h
  · rw [if_neg c18] at h
    refine ev_iload_n (i := 3) dX11_paste_12 rfl rfl ?_
    refine ev_cSI (av := [vI x3]) (S := []) (fun q => q) h dX11_paste_13 (fun Q' q => TX11_isSlot x3 _ q) ksX11_isSlot ml_X11_107 rfl (RRc (by decide) (by decide)) (Nat.le_of_ble_eq_true rfl) ⟨Nat.le_of_ble_eq_true rfl, Nat.le_of_ble_eq_true rfl⟩ (fun y2 f2 h => ?_)
    refine ev_if_ne (tgt := 22) dX11_paste_16 (by decide) (fun c17 => ?_) (fun c17 => ?_)
    · rw [if_neg c17] at h
      refine ev_aload_n (i := 0) dX11_paste_22 rfl rfl ?_
      refine ev_getR dX11_paste_23 fl_X11_7 sh_150 (by decide) (by decide) rf_150_1 ?_
      refine ev_iload_n (i := 1) dX11_paste_26 rfl rfl ?_
      by_cases g3 : 0 ≤ x1 ∧ x1 < 4
      · rw [if_pos g3] at h
        refine ex_iald (x := (f2 151 x1.toNat)) dX11_paste_27 sh_151 g3.1 g3.2 rfl ?_
        refine ev_iconst dX11_paste_28 (r32c rfl) ?_
        refine ev_icmp_eq (tgt := 42) dX11_paste_29 (by decide) (fun c16 => ?_) (fun c16 => ?_)
        · rw [if_pos c16] at h
          refine ev_bipush (v := (-6)) dX11_paste_42 (r32c rfl) (by decide) ?_
          exact ev_iret rfl dX11_paste_44 h
        · rw [if_neg c16] at h
          refine ev_aload_n (i := 0) dX11_paste_32 rfl rfl ?_
          refine ev_getR dX11_paste_33 fl_X11_7 sh_150 (by decide) (by decide) rf_150_1 ?_
          refine ev_iload_n (i := 3) dX11_paste_36 rfl rfl ?_
          by_cases g4 : 0 ≤ x3 ∧ x3 < 4
          · rw [if_pos g4] at h
            refine ex_iald (x := (f2 151 x3.toNat)) dX11_paste_37 sh_151 g4.1 g4.2 rfl ?_
            refine ev_iconst dX11_paste_38 (r32c rfl) ?_
            refine ev_icmp_ne (tgt := 45) dX11_paste_39 (by decide) (fun c15 => ?_) (fun c15 => ?_)
            · rw [if_neg c15] at h
              refine ev_aload_n (i := 0) dX11_paste_45 rfl rfl ?_
              refine ev_getR dX11_paste_46 fl_X11_7 sh_150 (by decide) (by decide) rf_150_1 ?_
              refine ev_iload_n (i := 1) dX11_paste_49 rfl rfl ?_
              by_cases g5 : 0 ≤ x1 ∧ x1 < 4
              · rw [if_pos g5] at h
                refine ex_iald (x := (f2 151 x1.toNat)) dX11_paste_50 sh_151 g5.1 g5.2 rfl ?_
                refine ev_aload_n (i := 0) dX11_paste_51 rfl rfl ?_
                refine ev_getR dX11_paste_52 fl_X11_7 sh_150 (by decide) (by decide) rf_150_1 ?_
                refine ev_iload_n (i := 3) dX11_paste_55 rfl rfl ?_
                by_cases g6 : 0 ≤ x3 ∧ x3 < 4
                · rw [if_pos g6] at h
                  refine ex_iald (x := (f2 151 x3.toNat)) dX11_paste_56 sh_151 g6.1 g6.2 rfl ?_
                  refine ev_icmp_eq (tgt := 63) dX11_paste_57 (by decide) (fun c14 => ?_) (fun c14 => ?_)
                  · rw [if_pos c14] at h
                    refine ev_iload_n (i := 2) dX11_paste_63 rfl rfl ?_
                    refine ev_if_lt (tgt := 112) dX11_paste_64 (by decide) (fun c13 => ?_) (fun c13 => ?_)
                    · rw [if_pos c13] at h
                      refine ev_bipush (v := (-7)) dX11_paste_112 (r32c rfl) (by decide) ?_
                      exact ev_iret rfl dX11_paste_114 h
                    · rw [if_neg c13] at h
                      refine ev_iload dX11_paste_67 rfl ?_
                      refine ev_if_lt (tgt := 112) dX11_paste_69 (by decide) (fun c12 => ?_) (fun c12 => ?_)
                      · rw [if_pos c12] at h
                        refine ev_bipush (v := (-7)) dX11_paste_112 (r32c rfl) (by decide) ?_
                        exact ev_iret rfl dX11_paste_114 h
                      · rw [if_neg c12] at h
                        refine ev_iload dX11_paste_72 rfl ?_
                        refine ev_if_lt (tgt := 112) dX11_paste_74 (by decide) (fun c11 => ?_) (fun c11 => ?_)
                        · rw [if_pos c11] at h
                          refine ev_bipush (v := (-7)) dX11_paste_112 (r32c rfl) (by decide) ?_
                          exact ev_iret rfl dX11_paste_114 h
                        · rw [if_neg c11] at h
                          refine ev_iload_n (i := 2) dX11_paste_77 rfl rfl ?_
                          refine ev_i2l dX11_paste_78 ?_
                          refine ev_iload dX11_paste_79 rfl ?_
                          refine ev_i2l dX11_paste_81 ?_
                          refine ev_ladd dX11_paste_82 ?_
                          refine ev_aload_n (i := 0) dX11_paste_83 rfl rfl ?_
                          refine ev_getR dX11_paste_84 fl_X11_13 sh_150 (by decide) (by decide) rf_150_2 ?_
                          refine ev_iload_n (i := 1) dX11_paste_87 rfl rfl ?_
                          by_cases g7 : 0 ≤ x1 ∧ x1 < 4
                          · rw [if_pos g7] at h
                            refine ex_iald (x := (f2 152 x1.toNat)) dX11_paste_88 sh_152 g7.1 g7.2 rfl ?_
                            refine ev_i2l dX11_paste_89 ?_
                            refine ev_lcmp dX11_paste_90 ?_
                            refine ev_if_gt (tgt := 112) dX11_paste_91 (by decide) (fun c10 => ?_) (fun c10 => ?_)
                            · rw [if_pos c10] at h
                              refine ev_bipush (v := (-7)) dX11_paste_112 (r32c rfl) (by decide) ?_
                              exact ev_iret rfl dX11_paste_114 h
                            · rw [if_neg c10] at h
                              refine ev_iload dX11_paste_94 rfl ?_
                              refine ev_i2l dX11_paste_96 ?_
                              refine ev_iload dX11_paste_97 rfl ?_
                              refine ev_i2l dX11_paste_99 ?_
                              refine ev_ladd dX11_paste_100 ?_
                              refine ev_aload_n (i := 0) dX11_paste_101 rfl rfl ?_
                              refine ev_getR dX11_paste_102 fl_X11_13 sh_150 (by decide) (by decide) rf_150_2 ?_
                              refine ev_iload_n (i := 3) dX11_paste_105 rfl rfl ?_
                              by_cases g8 : 0 ≤ x3 ∧ x3 < 4
                              · rw [if_pos g8] at h
                                refine ex_iald (x := (f2 152 x3.toNat)) dX11_paste_106 sh_152 g8.1 g8.2 rfl ?_
                                refine ev_i2l dX11_paste_107 ?_
                                refine ev_lcmp dX11_paste_108 ?_
                                refine ev_if_le (tgt := 115) dX11_paste_109 (by decide) (fun c9 => ?_) (fun c9 => ?_)
                                · rw [if_pos c9] at h
                                  refine ev_iconst dX11_paste_115 (r32c rfl) ?_
                                  refine ev_istore (L' := [some (vR 150), some (vI x1), some (vI x2), some (vI x3), some (vI x4), some (vI x5), some (vI 0)]) dX11_paste_116 (by decide) rfl ?_
                                  exact SX11_paste_118  fu x1 x2 x3 x4 x5 0 _ h
                                · rw [if_neg c9] at h
                                  refine ev_bipush (v := (-7)) dX11_paste_112 (r32c rfl) (by decide) ?_
                                  exact ev_iret rfl dX11_paste_114 h
                              · rw [if_neg g8] at h; exact h.elim
                          · rw [if_neg g7] at h; exact h.elim
                  · rw [if_neg c14] at h
                    refine ev_bipush (v := (-8)) dX11_paste_60 (r32c rfl) (by decide) ?_
                    exact ev_iret rfl dX11_paste_62 h
                · rw [if_neg g6] at h; exact h.elim
              · rw [if_neg g5] at h; exact h.elim
            · rw [if_pos c15] at h
              refine ev_bipush (v := (-6)) dX11_paste_42 (r32c rfl) (by decide) ?_
              exact ev_iret rfl dX11_paste_44 h
          · rw [if_neg g4] at h; exact h.elim
      · rw [if_neg g3] at h; exact h.elim
    · rw [if_pos c17] at h
      refine ev_bipush (v := (-2)) dX11_paste_19 (r32c rfl) (by decide) ?_
      exact ev_iret rfl dX11_paste_21 h
def FX11_paste (x1 : Int) (x2 : Int) (x3 : Int) (x4 : Int) (x5 : Int) (f : Mm) : Option (Int × Mm) := FX11_paste_0 x1 x2 x3 x4 x5 f
set_option maxRecDepth 100000 in
theorem TX11_paste {G : GT} {l : Launch} {Q : Option AV → Mem → Prop} (x1 : Int) (x2 : Int) (x3 : Int) (x4 : Int) (x5 : Int) (f : Mm) (h : OkI Q (FX11_paste x1 x2 x3 x4 x5 f)) : Ret G l MX11_paste (3) 0 0 [vR 150, vI x1, vI x2, vI x3, vI x4, vI x5] (SH, RF, f) Q := by
  refine ret_of (L := [some (vR 150), some (vI x1), some (vI x2), some (vI x3), some (vI x4), some (vI x5), none]) (by decide) rfl (Nat.le_of_ble_eq_true rfl) ?_
  exact SX11_paste_0 x1 x2 x3 x4 x5 f h
theorem dX11_four_3 : decode cX11_four 3 = .ok (.iload_n 2, 1) := by decide +kernel
theorem dX11_four_4 : decode cX11_four 4 = .ok (.ifCond .lt 32, 3) := by decide +kernel
theorem dX11_four_36 : decode cX11_four 36 = .ok (.return_, 1) := by decide +kernel
theorem dX11_four_7 : decode cX11_four 7 = .ok (.aload_n 0, 1) := by decide +kernel
theorem dX11_four_8 : decode cX11_four 8 = .ok (.getfield 23, 3) := by decide +kernel
theorem dX11_four_11 : decode cX11_four 11 = .ok (.aload_n 0, 1) := by decide +kernel
theorem dX11_four_12 : decode cX11_four 12 = .ok (.getfield 115, 3) := by decide +kernel
theorem dX11_four_15 : decode cX11_four 15 = .ok (.iload_n 1, 1) := by decide +kernel
theorem dX11_four_16 : decode cX11_four 16 = .ok (.iload_n 2, 1) := by decide +kernel
theorem dX11_four_17 : decode cX11_four 17 = .ok (.ishr, 1) := by decide +kernel
theorem dX11_four_18 : decode cX11_four 18 = .ok (.i2b, 1) := by decide +kernel
theorem dX11_four_19 : decode cX11_four 19 = .ok (.bastore, 1) := by decide +kernel
theorem dX11_four_20 : decode cX11_four 20 = .ok (.aload_n 0, 1) := by decide +kernel
theorem dX11_four_21 : decode cX11_four 21 = .ok (.dup, 1) := by decide +kernel
theorem dX11_four_22 : decode cX11_four 22 = .ok (.getfield 115, 3) := by decide +kernel
theorem dX11_four_25 : decode cX11_four 25 = .ok (.iconst 1, 1) := by decide +kernel
theorem dX11_four_26 : decode cX11_four 26 = .ok (.iadd, 1) := by decide +kernel
theorem dX11_four_27 : decode cX11_four 27 = .ok (.putfield 115, 3) := by decide +kernel
theorem dX11_four_30 : decode cX11_four 30 = .ok (.iinc 2 (-8), 3) := by decide +kernel
theorem dX11_four_33 : decode cX11_four 33 = .ok (.goto (-30), 3) := by decide +kernel
theorem dX11_four_0 : decode cX11_four 0 = .ok (.bipush 24, 2) := by decide +kernel
theorem dX11_four_2 : decode cX11_four 2 = .ok (.istore_n 2, 1) := by decide +kernel
def FX11_four_3  : Nat → Int → Int → Mm → Option Mm
  | 0, _, _, _ => none
  | n + 1, x1, x2, f => (if x2 < 0 then some f else (if 0 ≤ (f 150 6) ∧ (f 150 6) < 800 then FX11_four_3 n x1 (w32 (x2 + (-8))) (up (up f 155 (f 150 6).toNat (w8 (w8 (bShr x1 x2)))) 150 6 (w32 ((f 150 6) + 1))) else none))
set_option maxHeartbeats 4000000 in
set_option maxRecDepth 100000 in
theorem SX11_four_3 {G : GT} {l : Launch} {Q : Option AV → Mem → Prop}  : ∀ (n : Nat) (x1 : Int) (x2 : Int) (f : Mm), OkV Q (FX11_four_3  n x1 x2 f) → Ev G l MX11_four (Rm 1 0 0) (ZM G Q 0 0) 0 0 3 [some (vR 150), some (vI x1), some (vI x2)] [] (SH, RF, f) := by
  intro n
  induction n with
  | zero => intro x1 x2 f h; exact absurd h (by rw [FX11_four_3]; exact fun q => q)
  | succ n ih =>
    intro x1 x2 f h
    rw [FX11_four_3] at h
    refine ev_iload_n (i := 2) dX11_four_3 rfl rfl ?_
    refine ev_if_lt (tgt := 36) dX11_four_4 (by decide) (fun c2 => ?_) (fun c2 => ?_)
    · rw [if_pos c2] at h
      exact ev_vret rfl dX11_four_36 h
    · rw [if_neg c2] at h
      refine ev_aload_n (i := 0) dX11_four_7 rfl rfl ?_
      refine ev_getR dX11_four_8 fl_X11_23 sh_150 (by decide) (by decide) rf_150_5 ?_
      refine ev_aload_n (i := 0) dX11_four_11 rfl rfl ?_
      refine ex_getI (x := (f 150 6)) dX11_four_12 fl_X11_115 sh_150 (by decide) (by decide) rfl ?_
      refine ev_iload_n (i := 1) dX11_four_15 rfl rfl ?_
      refine ev_iload_n (i := 2) dX11_four_16 rfl rfl ?_
      refine ev_ishr dX11_four_17 ?_
      refine ev_i2b dX11_four_18 ?_
      by_cases g1 : 0 ≤ (f 150 6) ∧ (f 150 6) < 800
      · rw [if_pos g1] at h
        refine ex_bast (j := (f 150 6).toNat) dX11_four_19 sh_155 g1.1 g1.2 rfl ?_
        refine ev_aload_n (i := 0) dX11_four_20 rfl rfl ?_
        refine ev_dupR dX11_four_21 ?_
        refine ex_getI (x := (f 150 6)) dX11_four_22 fl_X11_115 sh_150 (by decide) (by decide) rfl ?_
        refine ev_iconst dX11_four_25 (r32c rfl) ?_
        refine ev_iadd dX11_four_26 ?_
        refine ev_putI dX11_four_27 fl_X11_115 sh_150 (by decide) (by decide) ?_
        refine ev_iinc (L' := [some (vR 150), some (vI x1), some (vI (w32 (x2 + (-8))))]) dX11_four_30 rfl (by decide) rfl ?_
        refine ev_goto (tgt := 3) dX11_four_33 (by decide) ?_
        exact ih x1 (w32 (x2 + (-8))) _ h
      · rw [if_neg g1] at h; exact h.elim
def FX11_four_0  (x1 : Int) (f : Mm) : Option Mm := FX11_four_3 fu x1 24 f
set_option maxHeartbeats 4000000 in
set_option maxRecDepth 100000 in
theorem SX11_four_0 {G : GT} {l : Launch} {Q : Option AV → Mem → Prop}  (x1 : Int) (f : Mm) (h : OkV Q (FX11_four_0  x1 f)) : Ev G l MX11_four (Rm 1 0 0) (ZM G Q 0 0) 0 0 0 [some (vR 150), some (vI x1), none] [] (SH, RF, f) := by
  unfold FX11_four_0 at h
  refine ev_bipush (v := 24) dX11_four_0 (r32c rfl) (by decide) ?_
  refine ev_istore_n (i := 2) (L' := [some (vR 150), some (vI x1), some (vI 24)]) dX11_four_2 rfl (by decide) rfl ?_
  exact SX11_four_3  fu x1 24 _ h
def FX11_four (x1 : Int) (f : Mm) : Option Mm := FX11_four_0 x1 f
set_option maxRecDepth 100000 in
theorem TX11_four {G : GT} {l : Launch} {Q : Option AV → Mem → Prop} (x1 : Int) (f : Mm) (h : OkV Q (FX11_four x1 f)) : Ret G l MX11_four (1) 0 0 [vR 150, vI x1] (SH, RF, f) Q := by
  refine ret_of (L := [some (vR 150), some (vI x1), none]) (by decide) rfl (Nat.le_of_ble_eq_true rfl) ?_
  exact SX11_four_0 x1 f h
theorem dX11_feed_0 : decode cX11_feed 0 = .ok (.aload_n 0, 1) := by decide +kernel
theorem dX11_feed_1 : decode cX11_feed 1 = .ok (.iconst 0, 1) := by decide +kernel
theorem dX11_feed_2 : decode cX11_feed 2 = .ok (.putfield 98, 3) := by decide +kernel
theorem dX11_feed_5 : decode cX11_feed 5 = .ok (.aload_n 0, 1) := by decide +kernel
theorem dX11_feed_6 : decode cX11_feed 6 = .ok (.getfield 115, 3) := by decide +kernel
theorem dX11_feed_9 : decode cX11_feed 9 = .ok (.bipush 20, 2) := by decide +kernel
theorem dX11_feed_11 : decode cX11_feed 11 = .ok (.iadd, 1) := by decide +kernel
theorem dX11_feed_12 : decode cX11_feed 12 = .ok (.sipush 800, 3) := by decide +kernel
theorem dX11_feed_15 : decode cX11_feed 15 = .ok (.if_icmp .le 5, 3) := by decide +kernel
theorem dX11_feed_20 : decode cX11_feed 20 = .ok (.aload_n 0, 1) := by decide +kernel
theorem dX11_feed_21 : decode cX11_feed 21 = .ok (.iload_n 1, 1) := by decide +kernel
theorem dX11_feed_22 : decode cX11_feed 22 = .ok (.invokevirtual 118, 3) := by decide +kernel
theorem dX11_feed_25 : decode cX11_feed 25 = .ok (.aload_n 0, 1) := by decide +kernel
theorem dX11_feed_26 : decode cX11_feed 26 = .ok (.iload_n 2, 1) := by decide +kernel
theorem dX11_feed_27 : decode cX11_feed 27 = .ok (.invokevirtual 118, 3) := by decide +kernel
theorem dX11_feed_30 : decode cX11_feed 30 = .ok (.aload_n 0, 1) := by decide +kernel
theorem dX11_feed_31 : decode cX11_feed 31 = .ok (.iload_n 3, 1) := by decide +kernel
theorem dX11_feed_32 : decode cX11_feed 32 = .ok (.invokevirtual 118, 3) := by decide +kernel
theorem dX11_feed_35 : decode cX11_feed 35 = .ok (.aload_n 0, 1) := by decide +kernel
theorem dX11_feed_36 : decode cX11_feed 36 = .ok (.iload 4, 2) := by decide +kernel
theorem dX11_feed_38 : decode cX11_feed 38 = .ok (.invokevirtual 118, 3) := by decide +kernel
theorem dX11_feed_41 : decode cX11_feed 41 = .ok (.aload_n 0, 1) := by decide +kernel
theorem dX11_feed_42 : decode cX11_feed 42 = .ok (.iload 5, 2) := by decide +kernel
theorem dX11_feed_44 : decode cX11_feed 44 = .ok (.invokevirtual 118, 3) := by decide +kernel
theorem dX11_feed_47 : decode cX11_feed 47 = .ok (.aload_n 0, 1) := by decide +kernel
theorem dX11_feed_48 : decode cX11_feed 48 = .ok (.getfield 115, 3) := by decide +kernel
theorem dX11_feed_51 : decode cX11_feed 51 = .ok (.ireturn, 1) := by decide +kernel
theorem dX11_feed_18 : decode cX11_feed 18 = .ok (.iconst (-1), 1) := by decide +kernel
theorem dX11_feed_19 : decode cX11_feed 19 = .ok (.ireturn, 1) := by decide +kernel
def FX11_feed_0  (x1 : Int) (x2 : Int) (x3 : Int) (x4 : Int) (x5 : Int) (f : Mm) : Option (Int × Mm) := (if (w32 ((f 150 6) + 20)) ≤ 800 then ((FX11_four x1 (up f 150 0 0)).bind fun f1 => ((FX11_four x2 f1).bind fun f2 => ((FX11_four x3 f2).bind fun f3 => ((FX11_four x4 f3).bind fun f4 => ((FX11_four x5 f4).bind fun f5 => some ((f5 150 6), f5)))))) else some ((-1), (up f 150 0 0)))
set_option maxHeartbeats 4000000 in
set_option maxRecDepth 100000 in
theorem SX11_feed_0 {G : GT} {l : Launch} {Q : Option AV → Mem → Prop}  (x1 : Int) (x2 : Int) (x3 : Int) (x4 : Int) (x5 : Int) (f : Mm) (h : OkI Q (FX11_feed_0  x1 x2 x3 x4 x5 f)) : Ev G l MX11_feed (Rm 2 0 0) (ZM G Q 0 0) 0 0 0 [some (vR 150), some (vI x1), some (vI x2), some (vI x3), some (vI x4), some (vI x5)] [] (SH, RF, f) := by
  unfold FX11_feed_0 at h
  refine ev_aload_n (i := 0) dX11_feed_0 rfl rfl ?_
  refine ev_iconst dX11_feed_1 (r32c rfl) ?_
  refine ev_putI dX11_feed_2 fl_X11_98 sh_150 (by decide) (by decide) ?_
  refine ev_aload_n (i := 0) dX11_feed_5 rfl rfl ?_
  refine ex_getI (x := (f 150 6)) dX11_feed_6 fl_X11_115 sh_150 (by decide) (by decide) rfl ?_
  refine ev_bipush (v := 20) dX11_feed_9 (r32c rfl) (by decide) ?_
  refine ev_iadd dX11_feed_11 ?_
  refine ev_sipush (v := 800) dX11_feed_12 (r32c rfl) (by decide) ?_
  refine ev_icmp_le (tgt := 20) dX11_feed_15 (by decide) (fun c6 => ?_) (fun c6 => ?_)
  · rw [if_pos c6] at h
    refine ev_aload_n (i := 0) dX11_feed_20 rfl rfl ?_
    refine ev_iload_n (i := 1) dX11_feed_21 rfl rfl ?_
    refine ev_cVV (b := 150) (av := [vI x1]) (S := []) (fun q => q) h dX11_feed_22 (fun Q' q => TX11_four x1 _ q) kvX11_four ml_X11_118 sh_150 rfl (RRc (by decide) (by decide)) (Nat.le_of_ble_eq_true rfl) ⟨Nat.le_of_ble_eq_true rfl, Nat.le_of_ble_eq_true rfl⟩ (fun f1 h => ?_)
    refine ev_aload_n (i := 0) dX11_feed_25 rfl rfl ?_
    refine ev_iload_n (i := 2) dX11_feed_26 rfl rfl ?_
    refine ev_cVV (b := 150) (av := [vI x2]) (S := []) (fun q => q) h dX11_feed_27 (fun Q' q => TX11_four x2 _ q) kvX11_four ml_X11_118 sh_150 rfl (RRc (by decide) (by decide)) (Nat.le_of_ble_eq_true rfl) ⟨Nat.le_of_ble_eq_true rfl, Nat.le_of_ble_eq_true rfl⟩ (fun f2 h => ?_)
    refine ev_aload_n (i := 0) dX11_feed_30 rfl rfl ?_
    refine ev_iload_n (i := 3) dX11_feed_31 rfl rfl ?_
    refine ev_cVV (b := 150) (av := [vI x3]) (S := []) (fun q => q) h dX11_feed_32 (fun Q' q => TX11_four x3 _ q) kvX11_four ml_X11_118 sh_150 rfl (RRc (by decide) (by decide)) (Nat.le_of_ble_eq_true rfl) ⟨Nat.le_of_ble_eq_true rfl, Nat.le_of_ble_eq_true rfl⟩ (fun f3 h => ?_)
    refine ev_aload_n (i := 0) dX11_feed_35 rfl rfl ?_
    refine ev_iload dX11_feed_36 rfl ?_
    refine ev_cVV (b := 150) (av := [vI x4]) (S := []) (fun q => q) h dX11_feed_38 (fun Q' q => TX11_four x4 _ q) kvX11_four ml_X11_118 sh_150 rfl (RRc (by decide) (by decide)) (Nat.le_of_ble_eq_true rfl) ⟨Nat.le_of_ble_eq_true rfl, Nat.le_of_ble_eq_true rfl⟩ (fun f4 h => ?_)
    refine ev_aload_n (i := 0) dX11_feed_41 rfl rfl ?_
    refine ev_iload dX11_feed_42 rfl ?_
    refine ev_cVV (b := 150) (av := [vI x5]) (S := []) (fun q => q) h dX11_feed_44 (fun Q' q => TX11_four x5 _ q) kvX11_four ml_X11_118 sh_150 rfl (RRc (by decide) (by decide)) (Nat.le_of_ble_eq_true rfl) ⟨Nat.le_of_ble_eq_true rfl, Nat.le_of_ble_eq_true rfl⟩ (fun f5 h => ?_)
    refine ev_aload_n (i := 0) dX11_feed_47 rfl rfl ?_
    refine ex_getI (x := (f5 150 6)) dX11_feed_48 fl_X11_115 sh_150 (by decide) (by decide) rfl ?_
    exact ev_iret rfl dX11_feed_51 h
  · rw [if_neg c6] at h
    refine ev_iconst dX11_feed_18 (r32c rfl) ?_
    exact ev_iret rfl dX11_feed_19 h
def FX11_feed (x1 : Int) (x2 : Int) (x3 : Int) (x4 : Int) (x5 : Int) (f : Mm) : Option (Int × Mm) := FX11_feed_0 x1 x2 x3 x4 x5 f
set_option maxRecDepth 100000 in
theorem TX11_feed {G : GT} {l : Launch} {Q : Option AV → Mem → Prop} (x1 : Int) (x2 : Int) (x3 : Int) (x4 : Int) (x5 : Int) (f : Mm) (h : OkI Q (FX11_feed x1 x2 x3 x4 x5 f)) : Ret G l MX11_feed (2) 0 0 [vR 150, vI x1, vI x2, vI x3, vI x4, vI x5] (SH, RF, f) Q := by
  refine ret_of (L := [some (vR 150), some (vI x1), some (vI x2), some (vI x3), some (vI x4), some (vI x5)]) (by decide) rfl (Nat.le_of_ble_eq_true rfl) ?_
  exact SX11_feed_0 x1 x2 x3 x4 x5 f h
theorem dX11_end_0 : decode cX11_end 0 = .ok (.aload_n 0, 1) := by decide +kernel
theorem dX11_end_1 : decode cX11_end 1 = .ok (.iconst 0, 1) := by decide +kernel
theorem dX11_end_2 : decode cX11_end 2 = .ok (.putfield 98, 3) := by decide +kernel
theorem dX11_end_5 : decode cX11_end 5 = .ok (.iload_n 1, 1) := by decide +kernel
theorem dX11_end_6 : decode cX11_end 6 = .ok (.i2l, 1) := by decide +kernel
theorem dX11_end_7 : decode cX11_end 7 = .ok (.lconst 0, 1) := by decide +kernel
theorem dX11_end_8 : decode cX11_end 8 = .ok (.aload_n 0, 1) := by decide +kernel
theorem dX11_end_9 : decode cX11_end 9 = .ok (.getfield 115, 3) := by decide +kernel
theorem dX11_end_12 : decode cX11_end 12 = .ok (.i2l, 1) := by decide +kernel
theorem dX11_end_13 : decode cX11_end 13 = .ok (.invokestatic 103, 3) := by decide +kernel
theorem dX11_end_16 : decode cX11_end 16 = .ok (.ifCond .ne 5, 3) := by decide +kernel
theorem dX11_end_21 : decode cX11_end 21 = .ok (.aload_n 0, 1) := by decide +kernel
theorem dX11_end_22 : decode cX11_end 22 = .ok (.iload_n 1, 1) := by decide +kernel
theorem dX11_end_23 : decode cX11_end 23 = .ok (.putfield 115, 3) := by decide +kernel
theorem dX11_end_26 : decode cX11_end 26 = .ok (.iload_n 1, 1) := by decide +kernel
theorem dX11_end_27 : decode cX11_end 27 = .ok (.ireturn, 1) := by decide +kernel
theorem dX11_end_19 : decode cX11_end 19 = .ok (.iconst (-1), 1) := by decide +kernel
theorem dX11_end_20 : decode cX11_end 20 = .ok (.ireturn, 1) := by decide +kernel
def FX11_end_0  (x1 : Int) (f : Mm) : Option (Int × Mm) := (b2 (FX11_in x1 0 (f 150 6) (up f 150 0 0)) fun y1 f1 => (if y1 = 0 then some ((-1), f1) else some (x1, (up f1 150 6 x1))))
set_option maxHeartbeats 4000000 in
set_option maxRecDepth 100000 in
theorem SX11_end_0 {G : GT} {l : Launch} {Q : Option AV → Mem → Prop}  (x1 : Int) (f : Mm) (h : OkI Q (FX11_end_0  x1 f)) : Ev G l MX11_end (Rm 2 0 0) (ZM G Q 0 0) 0 0 0 [some (vR 150), some (vI x1)] [] (SH, RF, f) := by
  unfold FX11_end_0 at h
  refine ev_aload_n (i := 0) dX11_end_0 rfl rfl ?_
  refine ev_iconst dX11_end_1 (r32c rfl) ?_
  refine ev_putI dX11_end_2 fl_X11_98 sh_150 (by decide) (by decide) ?_
  refine ev_iload_n (i := 1) dX11_end_5 rfl rfl ?_
  refine ev_i2l dX11_end_6 ?_
  refine ev_lconst (v := 0) dX11_end_7 (r64c rfl) (by decide) ?_
  refine ev_aload_n (i := 0) dX11_end_8 rfl rfl ?_
  refine ex_getI (x := (f 150 6)) dX11_end_9 fl_X11_115 sh_150 (by decide) (by decide) rfl ?_
  refine ev_i2l dX11_end_12 ?_
  refine ev_cSI (av := [vJ x1, vJ 0, vJ (f 150 6)]) (S := []) (fun q => q) h dX11_end_13 (fun Q' q => TX11_in x1 0 (f 150 6) _ q) ksX11_in ml_X11_103 rfl (RRc (by decide) (by decide)) (Nat.le_of_ble_eq_true rfl) ⟨Nat.le_of_ble_eq_true rfl, Nat.le_of_ble_eq_true rfl⟩ (fun y1 f1 h => ?_)
  refine ev_if_ne (tgt := 21) dX11_end_16 (by decide) (fun c2 => ?_) (fun c2 => ?_)
  · rw [if_neg c2] at h
    refine ev_aload_n (i := 0) dX11_end_21 rfl rfl ?_
    refine ev_iload_n (i := 1) dX11_end_22 rfl rfl ?_
    refine ev_putI dX11_end_23 fl_X11_115 sh_150 (by decide) (by decide) ?_
    refine ev_iload_n (i := 1) dX11_end_26 rfl rfl ?_
    exact ev_iret rfl dX11_end_27 h
  · rw [if_pos c2] at h
    refine ev_iconst dX11_end_19 (r32c rfl) ?_
    exact ev_iret rfl dX11_end_20 h
def FX11_end (x1 : Int) (f : Mm) : Option (Int × Mm) := FX11_end_0 x1 f
set_option maxRecDepth 100000 in
theorem TX11_end {G : GT} {l : Launch} {Q : Option AV → Mem → Prop} (x1 : Int) (f : Mm) (h : OkI Q (FX11_end x1 f)) : Ret G l MX11_end (2) 0 0 [vR 150, vI x1] (SH, RF, f) Q := by
  refine ret_of (L := [some (vR 150), some (vI x1)]) (by decide) rfl (Nat.le_of_ble_eq_true rfl) ?_
  exact SX11_end_0 x1 f h
theorem dX11_isByte_0 : decode cX11_isByte 0 = .ok (.iload_n 1, 1) := by decide +kernel
theorem dX11_isByte_1 : decode cX11_isByte 1 = .ok (.aload_n 0, 1) := by decide +kernel
theorem dX11_isByte_2 : decode cX11_isByte 2 = .ok (.getfield 115, 3) := by decide +kernel
theorem dX11_isByte_5 : decode cX11_isByte 5 = .ok (.if_icmp .ge 27, 3) := by decide +kernel
theorem dX11_isByte_32 : decode cX11_isByte 32 = .ok (.iconst 0, 1) := by decide +kernel
theorem dX11_isByte_33 : decode cX11_isByte 33 = .ok (.ireturn, 1) := by decide +kernel
theorem dX11_isByte_8 : decode cX11_isByte 8 = .ok (.aload_n 0, 1) := by decide +kernel
theorem dX11_isByte_9 : decode cX11_isByte 9 = .ok (.getfield 23, 3) := by decide +kernel
theorem dX11_isByte_12 : decode cX11_isByte 12 = .ok (.iload_n 1, 1) := by decide +kernel
theorem dX11_isByte_13 : decode cX11_isByte 13 = .ok (.baload, 1) := by decide +kernel
theorem dX11_isByte_14 : decode cX11_isByte 14 = .ok (.iload_n 2, 1) := by decide +kernel
theorem dX11_isByte_15 : decode cX11_isByte 15 = .ok (.if_icmp .lt 17, 3) := by decide +kernel
theorem dX11_isByte_18 : decode cX11_isByte 18 = .ok (.aload_n 0, 1) := by decide +kernel
theorem dX11_isByte_19 : decode cX11_isByte 19 = .ok (.getfield 23, 3) := by decide +kernel
theorem dX11_isByte_22 : decode cX11_isByte 22 = .ok (.iload_n 1, 1) := by decide +kernel
theorem dX11_isByte_23 : decode cX11_isByte 23 = .ok (.baload, 1) := by decide +kernel
theorem dX11_isByte_24 : decode cX11_isByte 24 = .ok (.iload_n 3, 1) := by decide +kernel
theorem dX11_isByte_25 : decode cX11_isByte 25 = .ok (.if_icmp .gt 7, 3) := by decide +kernel
theorem dX11_isByte_28 : decode cX11_isByte 28 = .ok (.iconst 1, 1) := by decide +kernel
theorem dX11_isByte_29 : decode cX11_isByte 29 = .ok (.goto 4, 3) := by decide +kernel
def FX11_isByte_0  (x1 : Int) (x2 : Int) (x3 : Int) (f : Mm) : Option (Int × Mm) := (if (f 150 6) ≤ x1 then some (0, f) else (if 0 ≤ x1 ∧ x1 < 800 then (if (f 155 x1.toNat) < x2 then some (0, f) else (if 0 ≤ x1 ∧ x1 < 800 then (if x3 < (f 155 x1.toNat) then some (0, f) else some (1, f)) else none)) else none))
set_option maxHeartbeats 4000000 in
set_option maxRecDepth 100000 in
theorem SX11_isByte_0 {G : GT} {l : Launch} {Q : Option AV → Mem → Prop}  (x1 : Int) (x2 : Int) (x3 : Int) (f : Mm) (h : OkI Q (FX11_isByte_0  x1 x2 x3 f)) : Ev G l MX11_isByte (Rm 1 0 0) (ZM G Q 0 0) 0 0 0 [some (vR 150), some (vI x1), some (vI x2), some (vI x3)] [] (SH, RF, f) := by
  unfold FX11_isByte_0 at h
  refine ev_iload_n (i := 1) dX11_isByte_0 rfl rfl ?_
  refine ev_aload_n (i := 0) dX11_isByte_1 rfl rfl ?_
  refine ex_getI (x := (f 150 6)) dX11_isByte_2 fl_X11_115 sh_150 (by decide) (by decide) rfl ?_
  refine ev_icmp_ge (tgt := 32) dX11_isByte_5 (by decide) (fun c5 => ?_) (fun c5 => ?_)
  · rw [if_pos c5] at h
    refine ev_iconst dX11_isByte_32 (r32c rfl) ?_
    exact ev_zret rfl (by decide) dX11_isByte_33 h
  · rw [if_neg c5] at h
    refine ev_aload_n (i := 0) dX11_isByte_8 rfl rfl ?_
    refine ev_getR dX11_isByte_9 fl_X11_23 sh_150 (by decide) (by decide) rf_150_5 ?_
    refine ev_iload_n (i := 1) dX11_isByte_12 rfl rfl ?_
    by_cases g1 : 0 ≤ x1 ∧ x1 < 800
    · rw [if_pos g1] at h
      refine ex_bald (x := (f 155 x1.toNat)) dX11_isByte_13 sh_155 g1.1 g1.2 rfl ?_
      refine ev_iload_n (i := 2) dX11_isByte_14 rfl rfl ?_
      refine ev_icmp_lt (tgt := 32) dX11_isByte_15 (by decide) (fun c4 => ?_) (fun c4 => ?_)
      · rw [if_pos c4] at h
        refine ev_iconst dX11_isByte_32 (r32c rfl) ?_
        exact ev_zret rfl (by decide) dX11_isByte_33 h
      · rw [if_neg c4] at h
        refine ev_aload_n (i := 0) dX11_isByte_18 rfl rfl ?_
        refine ev_getR dX11_isByte_19 fl_X11_23 sh_150 (by decide) (by decide) rf_150_5 ?_
        refine ev_iload_n (i := 1) dX11_isByte_22 rfl rfl ?_
        by_cases g2 : 0 ≤ x1 ∧ x1 < 800
        · rw [if_pos g2] at h
          refine ex_bald (x := (f 155 x1.toNat)) dX11_isByte_23 sh_155 g2.1 g2.2 rfl ?_
          refine ev_iload_n (i := 3) dX11_isByte_24 rfl rfl ?_
          refine ev_icmp_gt (tgt := 32) dX11_isByte_25 (by decide) (fun c3 => ?_) (fun c3 => ?_)
          · rw [if_pos c3] at h
            refine ev_iconst dX11_isByte_32 (r32c rfl) ?_
            exact ev_zret rfl (by decide) dX11_isByte_33 h
          · rw [if_neg c3] at h
            refine ev_iconst dX11_isByte_28 (r32c rfl) ?_
            refine ev_goto (tgt := 33) dX11_isByte_29 (by decide) ?_
            exact ev_zret rfl (by decide) dX11_isByte_33 h
        · rw [if_neg g2] at h; exact h.elim
    · rw [if_neg g1] at h; exact h.elim
def FX11_isByte (x1 : Int) (x2 : Int) (x3 : Int) (f : Mm) : Option (Int × Mm) := FX11_isByte_0 x1 x2 x3 f
set_option maxRecDepth 100000 in
theorem TX11_isByte {G : GT} {l : Launch} {Q : Option AV → Mem → Prop} (x1 : Int) (x2 : Int) (x3 : Int) (f : Mm) (h : OkI Q (FX11_isByte x1 x2 x3 f)) : Ret G l MX11_isByte (1) 0 0 [vR 150, vI x1, vI x2, vI x3] (SH, RF, f) Q := by
  refine ret_of (L := [some (vR 150), some (vI x1), some (vI x2), some (vI x3)]) (by decide) rfl (Nat.le_of_ble_eq_true rfl) ?_
  exact SX11_isByte_0 x1 x2 x3 f h
theorem dX11_next_30 : decode cX11_next 30 = .ok (.aload_n 0, 1) := by decide +kernel
theorem dX11_next_31 : decode cX11_next 31 = .ok (.dup, 1) := by decide +kernel
theorem dX11_next_32 : decode cX11_next 32 = .ok (.getfield 122, 3) := by decide +kernel
theorem dX11_next_35 : decode cX11_next 35 = .ok (.iconst 1, 1) := by decide +kernel
theorem dX11_next_36 : decode cX11_next 36 = .ok (.iadd, 1) := by decide +kernel
theorem dX11_next_37 : decode cX11_next 37 = .ok (.putfield 122, 3) := by decide +kernel
theorem dX11_next_40 : decode cX11_next 40 = .ok (.goto (-40), 3) := by decide +kernel
theorem dX11_next_185 : decode cX11_next 185 = .ok (.goto 122, 3) := by decide +kernel
theorem dX11_next_307 : decode cX11_next 307 = .ok (.return_, 1) := by decide +kernel
theorem dX11_next_169 : decode cX11_next 169 = .ok (.aload_n 0, 1) := by decide +kernel
theorem dX11_next_170 : decode cX11_next 170 = .ok (.dup, 1) := by decide +kernel
theorem dX11_next_171 : decode cX11_next 171 = .ok (.getfield 122, 3) := by decide +kernel
theorem dX11_next_174 : decode cX11_next 174 = .ok (.iconst 1, 1) := by decide +kernel
theorem dX11_next_175 : decode cX11_next 175 = .ok (.iadd, 1) := by decide +kernel
theorem dX11_next_176 : decode cX11_next 176 = .ok (.putfield 122, 3) := by decide +kernel
theorem dX11_next_179 : decode cX11_next 179 = .ok (.iinc 1 1, 3) := by decide +kernel
theorem dX11_next_182 : decode cX11_next 182 = .ok (.goto (-80), 3) := by decide +kernel
theorem dX11_next_153 : decode cX11_next 153 = .ok (.putfield 135, 3) := by decide +kernel
theorem dX11_next_156 : decode cX11_next 156 = .ok (.iload_n 1, 1) := by decide +kernel
theorem dX11_next_157 : decode cX11_next 157 = .ok (.bipush 11, 2) := by decide +kernel
theorem dX11_next_159 : decode cX11_next 159 = .ok (.if_icmp .le 10, 3) := by decide +kernel
theorem dX11_next_162 : decode cX11_next 162 = .ok (.aload_n 0, 1) := by decide +kernel
theorem dX11_next_163 : decode cX11_next 163 = .ok (.ldc2_w 142, 3) := by decide +kernel
theorem dX11_next_166 : decode cX11_next 166 = .ok (.putfield 135, 3) := by decide +kernel
theorem dX11_next_102 : decode cX11_next 102 = .ok (.aload_n 0, 1) := by decide +kernel
theorem dX11_next_103 : decode cX11_next 103 = .ok (.aload_n 0, 1) := by decide +kernel
theorem dX11_next_104 : decode cX11_next 104 = .ok (.getfield 122, 3) := by decide +kernel
theorem dX11_next_107 : decode cX11_next 107 = .ok (.bipush 97, 2) := by decide +kernel
theorem dX11_next_109 : decode cX11_next 109 = .ok (.bipush 122, 2) := by decide +kernel
theorem dX11_next_111 : decode cX11_next 111 = .ok (.invokevirtual 125, 3) := by decide +kernel
theorem dX11_next_114 : decode cX11_next 114 = .ok (.ifCond .eq 71, 3) := by decide +kernel
theorem dX11_next_117 : decode cX11_next 117 = .ok (.aload_n 0, 1) := by decide +kernel
theorem dX11_next_118 : decode cX11_next 118 = .ok (.iload_n 1, 1) := by decide +kernel
theorem dX11_next_119 : decode cX11_next 119 = .ok (.bipush 11, 2) := by decide +kernel
theorem dX11_next_121 : decode cX11_next 121 = .ok (.if_icmp .le 9, 3) := by decide +kernel
theorem dX11_next_130 : decode cX11_next 130 = .ok (.ldc2_w 144, 3) := by decide +kernel
theorem dX11_next_133 : decode cX11_next 133 = .ok (.aload_n 0, 1) := by decide +kernel
theorem dX11_next_134 : decode cX11_next 134 = .ok (.getfield 135, 3) := by decide +kernel
theorem dX11_next_137 : decode cX11_next 137 = .ok (.lmul, 1) := by decide +kernel
theorem dX11_next_138 : decode cX11_next 138 = .ok (.aload_n 0, 1) := by decide +kernel
theorem dX11_next_139 : decode cX11_next 139 = .ok (.getfield 23, 3) := by decide +kernel
theorem dX11_next_142 : decode cX11_next 142 = .ok (.aload_n 0, 1) := by decide +kernel
theorem dX11_next_143 : decode cX11_next 143 = .ok (.getfield 122, 3) := by decide +kernel
theorem dX11_next_146 : decode cX11_next 146 = .ok (.baload, 1) := by decide +kernel
theorem dX11_next_147 : decode cX11_next 147 = .ok (.i2l, 1) := by decide +kernel
theorem dX11_next_148 : decode cX11_next 148 = .ok (.ladd, 1) := by decide +kernel
theorem dX11_next_149 : decode cX11_next 149 = .ok (.ldc2_w 146, 3) := by decide +kernel
theorem dX11_next_152 : decode cX11_next 152 = .ok (.lsub, 1) := by decide +kernel
theorem dX11_next_124 : decode cX11_next 124 = .ok (.ldc2_w 142, 3) := by decide +kernel
theorem dX11_next_127 : decode cX11_next 127 = .ok (.goto 26, 3) := by decide +kernel
theorem dX11_next_258 : decode cX11_next 258 = .ok (.putfield 132, 3) := by decide +kernel
theorem dX11_next_261 : decode cX11_next 261 = .ok (.aload_n 0, 1) := by decide +kernel
theorem dX11_next_262 : decode cX11_next 262 = .ok (.dup, 1) := by decide +kernel
theorem dX11_next_263 : decode cX11_next 263 = .ok (.getfield 122, 3) := by decide +kernel
theorem dX11_next_266 : decode cX11_next 266 = .ok (.iconst 1, 1) := by decide +kernel
theorem dX11_next_267 : decode cX11_next 267 = .ok (.iadd, 1) := by decide +kernel
theorem dX11_next_268 : decode cX11_next 268 = .ok (.putfield 122, 3) := by decide +kernel
theorem dX11_next_271 : decode cX11_next 271 = .ok (.goto (-63), 3) := by decide +kernel
theorem dX11_next_208 : decode cX11_next 208 = .ok (.aload_n 0, 1) := by decide +kernel
theorem dX11_next_209 : decode cX11_next 209 = .ok (.aload_n 0, 1) := by decide +kernel
theorem dX11_next_210 : decode cX11_next 210 = .ok (.getfield 122, 3) := by decide +kernel
theorem dX11_next_213 : decode cX11_next 213 = .ok (.bipush 48, 2) := by decide +kernel
theorem dX11_next_215 : decode cX11_next 215 = .ok (.bipush 57, 2) := by decide +kernel
theorem dX11_next_217 : decode cX11_next 217 = .ok (.invokevirtual 125, 3) := by decide +kernel
theorem dX11_next_220 : decode cX11_next 220 = .ok (.ifCond .eq 87, 3) := by decide +kernel
theorem dX11_next_223 : decode cX11_next 223 = .ok (.aload_n 0, 1) := by decide +kernel
theorem dX11_next_224 : decode cX11_next 224 = .ok (.aload_n 0, 1) := by decide +kernel
theorem dX11_next_225 : decode cX11_next 225 = .ok (.getfield 132, 3) := by decide +kernel
theorem dX11_next_228 : decode cX11_next 228 = .ok (.ldc 148, 2) := by decide +kernel
theorem dX11_next_230 : decode cX11_next 230 = .ok (.if_icmp .le 8, 3) := by decide +kernel
theorem dX11_next_238 : decode cX11_next 238 = .ok (.bipush 10, 2) := by decide +kernel
theorem dX11_next_240 : decode cX11_next 240 = .ok (.aload_n 0, 1) := by decide +kernel
theorem dX11_next_241 : decode cX11_next 241 = .ok (.getfield 132, 3) := by decide +kernel
theorem dX11_next_244 : decode cX11_next 244 = .ok (.imul, 1) := by decide +kernel
theorem dX11_next_245 : decode cX11_next 245 = .ok (.aload_n 0, 1) := by decide +kernel
theorem dX11_next_246 : decode cX11_next 246 = .ok (.getfield 23, 3) := by decide +kernel
theorem dX11_next_249 : decode cX11_next 249 = .ok (.aload_n 0, 1) := by decide +kernel
theorem dX11_next_250 : decode cX11_next 250 = .ok (.getfield 122, 3) := by decide +kernel
theorem dX11_next_253 : decode cX11_next 253 = .ok (.baload, 1) := by decide +kernel
theorem dX11_next_254 : decode cX11_next 254 = .ok (.iadd, 1) := by decide +kernel
theorem dX11_next_255 : decode cX11_next 255 = .ok (.bipush 48, 2) := by decide +kernel
theorem dX11_next_257 : decode cX11_next 257 = .ok (.isub, 1) := by decide +kernel
theorem dX11_next_233 : decode cX11_next 233 = .ok (.ldc 149, 2) := by decide +kernel
theorem dX11_next_235 : decode cX11_next 235 = .ok (.goto 23, 3) := by decide +kernel
theorem dX11_next_294 : decode cX11_next 294 = .ok (.putfield 139, 3) := by decide +kernel
theorem dX11_next_297 : decode cX11_next 297 = .ok (.aload_n 0, 1) := by decide +kernel
theorem dX11_next_298 : decode cX11_next 298 = .ok (.dup, 1) := by decide +kernel
theorem dX11_next_299 : decode cX11_next 299 = .ok (.getfield 122, 3) := by decide +kernel
theorem dX11_next_302 : decode cX11_next 302 = .ok (.iconst 1, 1) := by decide +kernel
theorem dX11_next_303 : decode cX11_next 303 = .ok (.iadd, 1) := by decide +kernel
theorem dX11_next_304 : decode cX11_next 304 = .ok (.putfield 122, 3) := by decide +kernel
theorem dX11_next_43 : decode cX11_next 43 = .ok (.aload_n 0, 1) := by decide +kernel
theorem dX11_next_44 : decode cX11_next 44 = .ok (.aload_n 0, 1) := by decide +kernel
theorem dX11_next_45 : decode cX11_next 45 = .ok (.getfield 122, 3) := by decide +kernel
theorem dX11_next_48 : decode cX11_next 48 = .ok (.putfield 129, 3) := by decide +kernel
theorem dX11_next_51 : decode cX11_next 51 = .ok (.aload_n 0, 1) := by decide +kernel
theorem dX11_next_52 : decode cX11_next 52 = .ok (.iconst 0, 1) := by decide +kernel
theorem dX11_next_53 : decode cX11_next 53 = .ok (.putfield 132, 3) := by decide +kernel
theorem dX11_next_56 : decode cX11_next 56 = .ok (.aload_n 0, 1) := by decide +kernel
theorem dX11_next_57 : decode cX11_next 57 = .ok (.lconst 0, 1) := by decide +kernel
theorem dX11_next_58 : decode cX11_next 58 = .ok (.putfield 135, 3) := by decide +kernel
theorem dX11_next_61 : decode cX11_next 61 = .ok (.aload_n 0, 1) := by decide +kernel
theorem dX11_next_62 : decode cX11_next 62 = .ok (.getfield 122, 3) := by decide +kernel
theorem dX11_next_65 : decode cX11_next 65 = .ok (.aload_n 0, 1) := by decide +kernel
theorem dX11_next_66 : decode cX11_next 66 = .ok (.getfield 115, 3) := by decide +kernel
theorem dX11_next_69 : decode cX11_next 69 = .ok (.if_icmp .ne 11, 3) := by decide +kernel
theorem dX11_next_80 : decode cX11_next 80 = .ok (.aload_n 0, 1) := by decide +kernel
theorem dX11_next_81 : decode cX11_next 81 = .ok (.aload_n 0, 1) := by decide +kernel
theorem dX11_next_82 : decode cX11_next 82 = .ok (.getfield 122, 3) := by decide +kernel
theorem dX11_next_85 : decode cX11_next 85 = .ok (.bipush 97, 2) := by decide +kernel
theorem dX11_next_87 : decode cX11_next 87 = .ok (.bipush 122, 2) := by decide +kernel
theorem dX11_next_89 : decode cX11_next 89 = .ok (.invokevirtual 125, 3) := by decide +kernel
theorem dX11_next_92 : decode cX11_next 92 = .ok (.ifCond .eq 96, 3) := by decide +kernel
theorem dX11_next_188 : decode cX11_next 188 = .ok (.aload_n 0, 1) := by decide +kernel
theorem dX11_next_189 : decode cX11_next 189 = .ok (.aload_n 0, 1) := by decide +kernel
theorem dX11_next_190 : decode cX11_next 190 = .ok (.getfield 122, 3) := by decide +kernel
theorem dX11_next_193 : decode cX11_next 193 = .ok (.bipush 48, 2) := by decide +kernel
theorem dX11_next_195 : decode cX11_next 195 = .ok (.bipush 57, 2) := by decide +kernel
theorem dX11_next_197 : decode cX11_next 197 = .ok (.invokevirtual 125, 3) := by decide +kernel
theorem dX11_next_200 : decode cX11_next 200 = .ok (.ifCond .eq 74, 3) := by decide +kernel
theorem dX11_next_274 : decode cX11_next 274 = .ok (.aload_n 0, 1) := by decide +kernel
theorem dX11_next_275 : decode cX11_next 275 = .ok (.aload_n 0, 1) := by decide +kernel
theorem dX11_next_276 : decode cX11_next 276 = .ok (.getfield 23, 3) := by decide +kernel
theorem dX11_next_279 : decode cX11_next 279 = .ok (.aload_n 0, 1) := by decide +kernel
theorem dX11_next_280 : decode cX11_next 280 = .ok (.getfield 122, 3) := by decide +kernel
theorem dX11_next_283 : decode cX11_next 283 = .ok (.baload, 1) := by decide +kernel
theorem dX11_next_284 : decode cX11_next 284 = .ok (.bipush 59, 2) := by decide +kernel
theorem dX11_next_286 : decode cX11_next 286 = .ok (.if_icmp .ne 7, 3) := by decide +kernel
theorem dX11_next_293 : decode cX11_next 293 = .ok (.iconst 4, 1) := by decide +kernel
theorem dX11_next_289 : decode cX11_next 289 = .ok (.iconst 3, 1) := by decide +kernel
theorem dX11_next_290 : decode cX11_next 290 = .ok (.goto 4, 3) := by decide +kernel
theorem dX11_next_203 : decode cX11_next 203 = .ok (.aload_n 0, 1) := by decide +kernel
theorem dX11_next_204 : decode cX11_next 204 = .ok (.iconst 2, 1) := by decide +kernel
theorem dX11_next_205 : decode cX11_next 205 = .ok (.putfield 139, 3) := by decide +kernel
theorem dX11_next_95 : decode cX11_next 95 = .ok (.aload_n 0, 1) := by decide +kernel
theorem dX11_next_96 : decode cX11_next 96 = .ok (.iconst 1, 1) := by decide +kernel
theorem dX11_next_97 : decode cX11_next 97 = .ok (.putfield 139, 3) := by decide +kernel
theorem dX11_next_100 : decode cX11_next 100 = .ok (.iconst 0, 1) := by decide +kernel
theorem dX11_next_101 : decode cX11_next 101 = .ok (.istore_n 1, 1) := by decide +kernel
theorem dX11_next_72 : decode cX11_next 72 = .ok (.aload_n 0, 1) := by decide +kernel
theorem dX11_next_73 : decode cX11_next 73 = .ok (.iconst 0, 1) := by decide +kernel
theorem dX11_next_74 : decode cX11_next 74 = .ok (.putfield 139, 3) := by decide +kernel
theorem dX11_next_77 : decode cX11_next 77 = .ok (.goto 230, 3) := by decide +kernel
theorem dX11_next_0 : decode cX11_next 0 = .ok (.aload_n 0, 1) := by decide +kernel
theorem dX11_next_1 : decode cX11_next 1 = .ok (.aload_n 0, 1) := by decide +kernel
theorem dX11_next_2 : decode cX11_next 2 = .ok (.getfield 122, 3) := by decide +kernel
theorem dX11_next_5 : decode cX11_next 5 = .ok (.bipush 32, 2) := by decide +kernel
theorem dX11_next_7 : decode cX11_next 7 = .ok (.bipush 32, 2) := by decide +kernel
theorem dX11_next_9 : decode cX11_next 9 = .ok (.invokevirtual 125, 3) := by decide +kernel
theorem dX11_next_12 : decode cX11_next 12 = .ok (.ifCond .ne 18, 3) := by decide +kernel
theorem dX11_next_15 : decode cX11_next 15 = .ok (.aload_n 0, 1) := by decide +kernel
theorem dX11_next_16 : decode cX11_next 16 = .ok (.aload_n 0, 1) := by decide +kernel
theorem dX11_next_17 : decode cX11_next 17 = .ok (.getfield 122, 3) := by decide +kernel
theorem dX11_next_20 : decode cX11_next 20 = .ok (.bipush 10, 2) := by decide +kernel
theorem dX11_next_22 : decode cX11_next 22 = .ok (.bipush 10, 2) := by decide +kernel
theorem dX11_next_24 : decode cX11_next 24 = .ok (.invokevirtual 125, 3) := by decide +kernel
theorem dX11_next_27 : decode cX11_next 27 = .ok (.ifCond .eq 16, 3) := by decide +kernel
def FX11_next_30 (k0 : Mm → Option Mm)  (f : Mm) : Option Mm := k0 (up f 150 7 (w32 ((f 150 7) + 1)))
set_option maxHeartbeats 4000000 in
set_option maxRecDepth 100000 in
theorem SX11_next_30 {G : GT} {l : Launch} {Q : Option AV → Mem → Prop} {k0 : Mm → Option Mm} (q0 : ∀  (f : Mm), OkV Q (k0  f) → Ev G l MX11_next (Rm 2 0 0) (ZM G Q 0 0) 0 0 0 [some (vR 150), none] [] (SH, RF, f))  (f : Mm) (h : OkV Q (FX11_next_30 k0  f)) : Ev G l MX11_next (Rm 2 0 0) (ZM G Q 0 0) 0 0 30 [some (vR 150), none] [] (SH, RF, f) := by
  unfold FX11_next_30 at h
  refine ev_aload_n (i := 0) dX11_next_30 rfl rfl ?_
  refine ev_dupR dX11_next_31 ?_
  refine ex_getI (x := (f 150 7)) dX11_next_32 fl_X11_122 sh_150 (by decide) (by decide) rfl ?_
  refine ev_iconst dX11_next_35 (r32c rfl) ?_
  refine ev_iadd dX11_next_36 ?_
  refine ev_putI dX11_next_37 fl_X11_122 sh_150 (by decide) (by decide) ?_
  refine ev_goto (tgt := 0) dX11_next_40 (by decide) ?_
  exact q0  _ h
def FX11_next_185   (f : Mm) : Option Mm := some f
set_option maxHeartbeats 4000000 in
set_option maxRecDepth 100000 in
theorem SX11_next_185 {G : GT} {l : Launch} {Q : Option AV → Mem → Prop}   (f : Mm) (h : OkV Q (FX11_next_185   f)) : Ev G l MX11_next (Rm 2 0 0) (ZM G Q 0 0) 0 0 185 [none, none] [] (SH, RF, f) := by
  unfold FX11_next_185 at h
  refine ev_goto (tgt := 307) dX11_next_185 (by decide) ?_
  exact ev_vret rfl dX11_next_307 h
def FX11_next_169 (k102 : Int → Mm → Option Mm) (x1 : Int) (f : Mm) : Option Mm := k102 (w32 (x1 + 1)) (up f 150 7 (w32 ((f 150 7) + 1)))
set_option maxHeartbeats 4000000 in
set_option maxRecDepth 100000 in
theorem SX11_next_169 {G : GT} {l : Launch} {Q : Option AV → Mem → Prop} {k102 : Int → Mm → Option Mm} (q102 : ∀ (x1 : Int) (f : Mm), OkV Q (k102 x1 f) → Ev G l MX11_next (Rm 2 0 0) (ZM G Q 0 0) 0 0 102 [some (vR 150), some (vI x1)] [] (SH, RF, f)) (x1 : Int) (f : Mm) (h : OkV Q (FX11_next_169 k102 x1 f)) : Ev G l MX11_next (Rm 2 0 0) (ZM G Q 0 0) 0 0 169 [some (vR 150), some (vI x1)] [] (SH, RF, f) := by
  unfold FX11_next_169 at h
  refine ev_aload_n (i := 0) dX11_next_169 rfl rfl ?_
  refine ev_dupR dX11_next_170 ?_
  refine ex_getI (x := (f 150 7)) dX11_next_171 fl_X11_122 sh_150 (by decide) (by decide) rfl ?_
  refine ev_iconst dX11_next_174 (r32c rfl) ?_
  refine ev_iadd dX11_next_175 ?_
  refine ev_putI dX11_next_176 fl_X11_122 sh_150 (by decide) (by decide) ?_
  refine ev_iinc (L' := [some (vR 150), some (vI (w32 (x1 + 1)))]) dX11_next_179 rfl (by decide) rfl ?_
  refine ev_goto (tgt := 102) dX11_next_182 (by decide) ?_
  exact q102 (w32 (x1 + 1)) _ h
def FX11_next_153 (k102 : Int → Mm → Option Mm) (x1 : Int) (s1 : Int) (f : Mm) : Option Mm := (if x1 ≤ 11 then FX11_next_169 k102 x1 (up f 150 11 s1) else FX11_next_169 k102 x1 (up (up f 150 11 s1) 150 11 (-1)))
set_option maxHeartbeats 4000000 in
set_option maxRecDepth 100000 in
theorem SX11_next_153 {G : GT} {l : Launch} {Q : Option AV → Mem → Prop} {k102 : Int → Mm → Option Mm} (q102 : ∀ (x1 : Int) (f : Mm), OkV Q (k102 x1 f) → Ev G l MX11_next (Rm 2 0 0) (ZM G Q 0 0) 0 0 102 [some (vR 150), some (vI x1)] [] (SH, RF, f)) (x1 : Int) (s1 : Int) (f : Mm) (h : OkV Q (FX11_next_153 k102 x1 s1 f)) : Ev G l MX11_next (Rm 2 0 0) (ZM G Q 0 0) 0 0 153 [some (vR 150), some (vI x1)] [vJ s1, vR 150] (SH, RF, f) := by
  unfold FX11_next_153 at h
  refine ev_putJ dX11_next_153 fl_X11_135 sh_150 (by decide) (by decide) ?_
  refine ev_iload_n (i := 1) dX11_next_156 rfl rfl ?_
  refine ev_bipush (v := 11) dX11_next_157 (r32c rfl) (by decide) ?_
  refine ev_icmp_le (tgt := 169) dX11_next_159 (by decide) (fun c1 => ?_) (fun c1 => ?_)
  · rw [if_pos c1] at h
    exact SX11_next_169 q102 x1 _ h
  · rw [if_neg c1] at h
    refine ev_aload_n (i := 0) dX11_next_162 rfl rfl ?_
    refine ev_ldc2 (v := (-1)) dX11_next_163 (r64c rfl) kc_X11_142 ?_
    refine ev_putJ dX11_next_166 fl_X11_135 sh_150 (by decide) (by decide) ?_
    exact SX11_next_169 q102 x1 _ h
def FX11_next_102  : Nat → Int → Mm → Option Mm
  | 0, _, _ => none
  | n + 1, x1, f => (b2 (FX11_isByte (f 150 7) 97 122 f) fun y1 f1 => (if y1 = 0 then FX11_next_185 f1 else (if x1 ≤ 11 then (if 0 ≤ (f1 150 7) ∧ (f1 150 7) < 800 then FX11_next_153 (FX11_next_102 n) x1 (w64 ((w64 ((w64 (27 * (f1 150 11))) + (f1 155 (f1 150 7).toNat))) - 96)) f1 else none) else FX11_next_153 (FX11_next_102 n) x1 (-1) f1)))
set_option maxHeartbeats 4000000 in
set_option maxRecDepth 100000 in
theorem SX11_next_102 {G : GT} {l : Launch} {Q : Option AV → Mem → Prop}  : ∀ (n : Nat) (x1 : Int) (f : Mm), OkV Q (FX11_next_102  n x1 f) → Ev G l MX11_next (Rm 2 0 0) (ZM G Q 0 0) 0 0 102 [some (vR 150), some (vI x1)] [] (SH, RF, f) := by
  intro n
  induction n with
  | zero => intro x1 f h; exact absurd h (by rw [FX11_next_102]; exact fun q => q)
  | succ n ih =>
    intro x1 f h
    rw [FX11_next_102] at h
    refine ev_aload_n (i := 0) dX11_next_102 rfl rfl ?_
    refine ev_aload_n (i := 0) dX11_next_103 rfl rfl ?_
    refine ex_getI (x := (f 150 7)) dX11_next_104 fl_X11_122 sh_150 (by decide) (by decide) rfl ?_
    refine ev_bipush (v := 97) dX11_next_107 (r32c rfl) (by decide) ?_
    refine ev_bipush (v := 122) dX11_next_109 (r32c rfl) (by decide) ?_
    refine ev_cVI (b := 150) (av := [vI (f 150 7), vI 97, vI 122]) (S := []) (fun q => q) h dX11_next_111 (fun Q' q => TX11_isByte (f 150 7) 97 122 _ q) kvX11_isByte ml_X11_125 sh_150 rfl (RRc (by decide) (by decide)) (Nat.le_of_ble_eq_true rfl) ⟨Nat.le_of_ble_eq_true rfl, Nat.le_of_ble_eq_true rfl⟩ (fun y1 f1 h => ?_)
    refine ev_if_eq (tgt := 185) dX11_next_114 (by decide) (fun c4 => ?_) (fun c4 => ?_)
    · rw [if_pos c4] at h
      refine ev_fg [false, false] rfl ?_
      exact SX11_next_185   _ h
    · rw [if_neg c4] at h
      refine ev_aload_n (i := 0) dX11_next_117 rfl rfl ?_
      refine ev_iload_n (i := 1) dX11_next_118 rfl rfl ?_
      refine ev_bipush (v := 11) dX11_next_119 (r32c rfl) (by decide) ?_
      refine ev_icmp_le (tgt := 130) dX11_next_121 (by decide) (fun c3 => ?_) (fun c3 => ?_)
      · rw [if_pos c3] at h
        refine ev_ldc2 (v := 27) dX11_next_130 (r64c rfl) kc_X11_144 ?_
        refine ev_aload_n (i := 0) dX11_next_133 rfl rfl ?_
        refine ex_getJ (x := (f1 150 11)) dX11_next_134 fl_X11_135 sh_150 (by decide) (by decide) rfl ?_
        refine ev_lmul dX11_next_137 ?_
        refine ev_aload_n (i := 0) dX11_next_138 rfl rfl ?_
        refine ev_getR dX11_next_139 fl_X11_23 sh_150 (by decide) (by decide) rf_150_5 ?_
        refine ev_aload_n (i := 0) dX11_next_142 rfl rfl ?_
        refine ex_getI (x := (f1 150 7)) dX11_next_143 fl_X11_122 sh_150 (by decide) (by decide) rfl ?_
        by_cases g2 : 0 ≤ (f1 150 7) ∧ (f1 150 7) < 800
        · rw [if_pos g2] at h
          refine ex_bald (x := (f1 155 (f1 150 7).toNat)) dX11_next_146 sh_155 g2.1 g2.2 rfl ?_
          refine ev_i2l dX11_next_147 ?_
          refine ev_ladd dX11_next_148 ?_
          refine ev_ldc2 (v := 96) dX11_next_149 (r64c rfl) kc_X11_146 ?_
          refine ev_lsub dX11_next_152 ?_
          exact SX11_next_153 ih x1 (w64 ((w64 ((w64 (27 * (f1 150 11))) + (f1 155 (f1 150 7).toNat))) - 96)) _ h
        · rw [if_neg g2] at h; exact h.elim
      · rw [if_neg c3] at h
        refine ev_ldc2 (v := (-1)) dX11_next_124 (r64c rfl) kc_X11_142 ?_
        refine ev_goto (tgt := 153) dX11_next_127 (by decide) ?_
        exact SX11_next_153 ih x1 (-1) _ h
def FX11_next_258 (k208 : Mm → Option Mm) (s1 : Int) (f : Mm) : Option Mm := k208 (up (up f 150 10 s1) 150 7 (w32 ((f 150 7) + 1)))
set_option maxHeartbeats 4000000 in
set_option maxRecDepth 100000 in
theorem SX11_next_258 {G : GT} {l : Launch} {Q : Option AV → Mem → Prop} {k208 : Mm → Option Mm} (q208 : ∀  (f : Mm), OkV Q (k208  f) → Ev G l MX11_next (Rm 2 0 0) (ZM G Q 0 0) 0 0 208 [some (vR 150), none] [] (SH, RF, f)) (s1 : Int) (f : Mm) (h : OkV Q (FX11_next_258 k208 s1 f)) : Ev G l MX11_next (Rm 2 0 0) (ZM G Q 0 0) 0 0 258 [some (vR 150), none] [vI s1, vR 150] (SH, RF, f) := by
  unfold FX11_next_258 at h
  refine ev_putI dX11_next_258 fl_X11_132 sh_150 (by decide) (by decide) ?_
  refine ev_aload_n (i := 0) dX11_next_261 rfl rfl ?_
  refine ev_dupR dX11_next_262 ?_
  refine ex_getI (x := (f 150 7)) dX11_next_263 fl_X11_122 sh_150 (by decide) (by decide) rfl ?_
  refine ev_iconst dX11_next_266 (r32c rfl) ?_
  refine ev_iadd dX11_next_267 ?_
  refine ev_putI dX11_next_268 fl_X11_122 sh_150 (by decide) (by decide) ?_
  refine ev_goto (tgt := 208) dX11_next_271 (by decide) ?_
  exact q208  _ h
def FX11_next_208  : Nat → Mm → Option Mm
  | 0, _ => none
  | n + 1, f => (b2 (FX11_isByte (f 150 7) 48 57 f) fun y1 f1 => (if y1 = 0 then some f1 else (if (f1 150 10) ≤ 100000 then (if 0 ≤ (f1 150 7) ∧ (f1 150 7) < 800 then FX11_next_258 (FX11_next_208 n) (w32 ((w32 ((w32 (10 * (f1 150 10))) + (f1 155 (f1 150 7).toNat))) - 48)) f1 else none) else FX11_next_258 (FX11_next_208 n) 1000000 f1)))
set_option maxHeartbeats 4000000 in
set_option maxRecDepth 100000 in
theorem SX11_next_208 {G : GT} {l : Launch} {Q : Option AV → Mem → Prop}  : ∀ (n : Nat)  (f : Mm), OkV Q (FX11_next_208  n  f) → Ev G l MX11_next (Rm 2 0 0) (ZM G Q 0 0) 0 0 208 [some (vR 150), none] [] (SH, RF, f) := by
  intro n
  induction n with
  | zero => intro  f h; exact absurd h (by rw [FX11_next_208]; exact fun q => q)
  | succ n ih =>
    intro  f h
    rw [FX11_next_208] at h
    refine ev_aload_n (i := 0) dX11_next_208 rfl rfl ?_
    refine ev_aload_n (i := 0) dX11_next_209 rfl rfl ?_
    refine ex_getI (x := (f 150 7)) dX11_next_210 fl_X11_122 sh_150 (by decide) (by decide) rfl ?_
    refine ev_bipush (v := 48) dX11_next_213 (r32c rfl) (by decide) ?_
    refine ev_bipush (v := 57) dX11_next_215 (r32c rfl) (by decide) ?_
    refine ev_cVI (b := 150) (av := [vI (f 150 7), vI 48, vI 57]) (S := []) (fun q => q) h dX11_next_217 (fun Q' q => TX11_isByte (f 150 7) 48 57 _ q) kvX11_isByte ml_X11_125 sh_150 rfl (RRc (by decide) (by decide)) (Nat.le_of_ble_eq_true rfl) ⟨Nat.le_of_ble_eq_true rfl, Nat.le_of_ble_eq_true rfl⟩ (fun y1 f1 h => ?_)
    refine ev_if_eq (tgt := 307) dX11_next_220 (by decide) (fun c4 => ?_) (fun c4 => ?_)
    · rw [if_pos c4] at h
      exact ev_vret rfl dX11_next_307 h
    · rw [if_neg c4] at h
      refine ev_aload_n (i := 0) dX11_next_223 rfl rfl ?_
      refine ev_aload_n (i := 0) dX11_next_224 rfl rfl ?_
      refine ex_getI (x := (f1 150 10)) dX11_next_225 fl_X11_132 sh_150 (by decide) (by decide) rfl ?_
      refine ev_ldc (v := 100000) dX11_next_228 (r32c rfl) kc_X11_148 ?_
      refine ev_icmp_le (tgt := 238) dX11_next_230 (by decide) (fun c3 => ?_) (fun c3 => ?_)
      · rw [if_pos c3] at h
        refine ev_bipush (v := 10) dX11_next_238 (r32c rfl) (by decide) ?_
        refine ev_aload_n (i := 0) dX11_next_240 rfl rfl ?_
        refine ex_getI (x := (f1 150 10)) dX11_next_241 fl_X11_132 sh_150 (by decide) (by decide) rfl ?_
        refine ev_imul dX11_next_244 ?_
        refine ev_aload_n (i := 0) dX11_next_245 rfl rfl ?_
        refine ev_getR dX11_next_246 fl_X11_23 sh_150 (by decide) (by decide) rf_150_5 ?_
        refine ev_aload_n (i := 0) dX11_next_249 rfl rfl ?_
        refine ex_getI (x := (f1 150 7)) dX11_next_250 fl_X11_122 sh_150 (by decide) (by decide) rfl ?_
        by_cases g2 : 0 ≤ (f1 150 7) ∧ (f1 150 7) < 800
        · rw [if_pos g2] at h
          refine ex_bald (x := (f1 155 (f1 150 7).toNat)) dX11_next_253 sh_155 g2.1 g2.2 rfl ?_
          refine ev_iadd dX11_next_254 ?_
          refine ev_bipush (v := 48) dX11_next_255 (r32c rfl) (by decide) ?_
          refine ev_isub dX11_next_257 ?_
          exact SX11_next_258 ih (w32 ((w32 ((w32 (10 * (f1 150 10))) + (f1 155 (f1 150 7).toNat))) - 48)) _ h
        · rw [if_neg g2] at h; exact h.elim
      · rw [if_neg c3] at h
        refine ev_ldc (v := 1000000) dX11_next_233 (r32c rfl) kc_X11_149 ?_
        refine ev_goto (tgt := 258) dX11_next_235 (by decide) ?_
        exact SX11_next_258 ih 1000000 _ h
def FX11_next_294  (s1 : Int) (f : Mm) : Option Mm := some (up (up f 150 8 s1) 150 7 (w32 ((f 150 7) + 1)))
set_option maxHeartbeats 4000000 in
set_option maxRecDepth 100000 in
theorem SX11_next_294 {G : GT} {l : Launch} {Q : Option AV → Mem → Prop}  (s1 : Int) (f : Mm) (h : OkV Q (FX11_next_294  s1 f)) : Ev G l MX11_next (Rm 2 0 0) (ZM G Q 0 0) 0 0 294 [some (vR 150), none] [vI s1, vR 150] (SH, RF, f) := by
  unfold FX11_next_294 at h
  refine ev_putI dX11_next_294 fl_X11_139 sh_150 (by decide) (by decide) ?_
  refine ev_aload_n (i := 0) dX11_next_297 rfl rfl ?_
  refine ev_dupR dX11_next_298 ?_
  refine ex_getI (x := (f 150 7)) dX11_next_299 fl_X11_122 sh_150 (by decide) (by decide) rfl ?_
  refine ev_iconst dX11_next_302 (r32c rfl) ?_
  refine ev_iadd dX11_next_303 ?_
  refine ev_putI dX11_next_304 fl_X11_122 sh_150 (by decide) (by decide) ?_
  exact ev_vret rfl dX11_next_307 h
def FX11_next_43   (f : Mm) : Option Mm := (if (f 150 7) = (f 150 6) then some (up (up (up (up f 150 9 (f 150 7)) 150 10 0) 150 11 0) 150 8 0) else (b2 (FX11_isByte (f 150 7) 97 122 (up (up (up f 150 9 (f 150 7)) 150 10 0) 150 11 0)) fun y1 f1 => (if y1 = 0 then (b2 (FX11_isByte (f1 150 7) 48 57 f1) fun y2 f2 => (if y2 = 0 then (if 0 ≤ (f2 150 7) ∧ (f2 150 7) < 800 then (if (f2 155 (f2 150 7).toNat) = 59 then FX11_next_294 3 f2 else FX11_next_294 4 f2) else none) else FX11_next_208 fu (up f2 150 8 2))) else FX11_next_102 fu 0 (up f1 150 8 1))))
set_option maxHeartbeats 4000000 in
set_option maxRecDepth 100000 in
theorem SX11_next_43 {G : GT} {l : Launch} {Q : Option AV → Mem → Prop}   (f : Mm) (h : OkV Q (FX11_next_43   f)) : Ev G l MX11_next (Rm 2 0 0) (ZM G Q 0 0) 0 0 43 [some (vR 150), none] [] (SH, RF, f) := by
  unfold FX11_next_43 at h
  refine ev_aload_n (i := 0) dX11_next_43 rfl rfl ?_
  refine ev_aload_n (i := 0) dX11_next_44 rfl rfl ?_
  refine ex_getI (x := (f 150 7)) dX11_next_45 fl_X11_122 sh_150 (by decide) (by decide) rfl ?_
  refine ev_putI dX11_next_48 fl_X11_129 sh_150 (by decide) (by decide) ?_
  refine ev_aload_n (i := 0) dX11_next_51 rfl rfl ?_
  refine ev_iconst dX11_next_52 (r32c rfl) ?_
  refine ev_putI dX11_next_53 fl_X11_132 sh_150 (by decide) (by decide) ?_
  refine ev_aload_n (i := 0) dX11_next_56 rfl rfl ?_
  refine ev_lconst (v := 0) dX11_next_57 (r64c rfl) (by decide) ?_
  refine ev_putJ dX11_next_58 fl_X11_135 sh_150 (by decide) (by decide) ?_
  refine ev_aload_n (i := 0) dX11_next_61 rfl rfl ?_
  refine ex_getI (x := (f 150 7)) dX11_next_62 fl_X11_122 sh_150 (by decide) (by decide) rfl ?_
  refine ev_aload_n (i := 0) dX11_next_65 rfl rfl ?_
  refine ex_getI (x := (f 150 6)) dX11_next_66 fl_X11_115 sh_150 (by decide) (by decide) rfl ?_
  refine ev_icmp_ne (tgt := 80) dX11_next_69 (by decide) (fun c7 => ?_) (fun c7 => ?_)
  · rw [if_neg c7] at h
    refine ev_aload_n (i := 0) dX11_next_80 rfl rfl ?_
    refine ev_aload_n (i := 0) dX11_next_81 rfl rfl ?_
    refine ex_getI (x := (f 150 7)) dX11_next_82 fl_X11_122 sh_150 (by decide) (by decide) rfl ?_
    refine ev_bipush (v := 97) dX11_next_85 (r32c rfl) (by decide) ?_
    refine ev_bipush (v := 122) dX11_next_87 (r32c rfl) (by decide) ?_
    refine ev_cVI (b := 150) (av := [vI (f 150 7), vI 97, vI 122]) (S := []) (fun q => q) h dX11_next_89 (fun Q' q => TX11_isByte (f 150 7) 97 122 _ q) kvX11_isByte ml_X11_125 sh_150 rfl (RRc (by decide) (by decide)) (Nat.le_of_ble_eq_true rfl) ⟨Nat.le_of_ble_eq_true rfl, Nat.le_of_ble_eq_true rfl⟩ (fun y1 f1 h => ?_)
    refine ev_if_eq (tgt := 188) dX11_next_92 (by decide) (fun c6 => ?_) (fun c6 => ?_)
    · rw [if_pos c6] at h
      refine ev_aload_n (i := 0) dX11_next_188 rfl rfl ?_
      refine ev_aload_n (i := 0) dX11_next_189 rfl rfl ?_
      refine ex_getI (x := (f1 150 7)) dX11_next_190 fl_X11_122 sh_150 (by decide) (by decide) rfl ?_
      refine ev_bipush (v := 48) dX11_next_193 (r32c rfl) (by decide) ?_
      refine ev_bipush (v := 57) dX11_next_195 (r32c rfl) (by decide) ?_
      refine ev_cVI (b := 150) (av := [vI (f1 150 7), vI 48, vI 57]) (S := []) (fun q => q) h dX11_next_197 (fun Q' q => TX11_isByte (f1 150 7) 48 57 _ q) kvX11_isByte ml_X11_125 sh_150 rfl (RRc (by decide) (by decide)) (Nat.le_of_ble_eq_true rfl) ⟨Nat.le_of_ble_eq_true rfl, Nat.le_of_ble_eq_true rfl⟩ (fun y2 f2 h => ?_)
      refine ev_if_eq (tgt := 274) dX11_next_200 (by decide) (fun c5 => ?_) (fun c5 => ?_)
      · rw [if_pos c5] at h
        refine ev_aload_n (i := 0) dX11_next_274 rfl rfl ?_
        refine ev_aload_n (i := 0) dX11_next_275 rfl rfl ?_
        refine ev_getR dX11_next_276 fl_X11_23 sh_150 (by decide) (by decide) rf_150_5 ?_
        refine ev_aload_n (i := 0) dX11_next_279 rfl rfl ?_
        refine ex_getI (x := (f2 150 7)) dX11_next_280 fl_X11_122 sh_150 (by decide) (by decide) rfl ?_
        by_cases g3 : 0 ≤ (f2 150 7) ∧ (f2 150 7) < 800
        · rw [if_pos g3] at h
          refine ex_bald (x := (f2 155 (f2 150 7).toNat)) dX11_next_283 sh_155 g3.1 g3.2 rfl ?_
          refine ev_bipush (v := 59) dX11_next_284 (r32c rfl) (by decide) ?_
          refine ev_icmp_ne (tgt := 293) dX11_next_286 (by decide) (fun c4 => ?_) (fun c4 => ?_)
          · rw [if_neg c4] at h
            refine ev_iconst dX11_next_293 (r32c rfl) ?_
            exact SX11_next_294  4 _ h
          · rw [if_pos c4] at h
            refine ev_iconst dX11_next_289 (r32c rfl) ?_
            refine ev_goto (tgt := 294) dX11_next_290 (by decide) ?_
            exact SX11_next_294  3 _ h
        · rw [if_neg g3] at h; exact h.elim
      · rw [if_neg c5] at h
        refine ev_aload_n (i := 0) dX11_next_203 rfl rfl ?_
        refine ev_iconst dX11_next_204 (r32c rfl) ?_
        refine ev_putI dX11_next_205 fl_X11_139 sh_150 (by decide) (by decide) ?_
        exact SX11_next_208  fu  _ h
    · rw [if_neg c6] at h
      refine ev_aload_n (i := 0) dX11_next_95 rfl rfl ?_
      refine ev_iconst dX11_next_96 (r32c rfl) ?_
      refine ev_putI dX11_next_97 fl_X11_139 sh_150 (by decide) (by decide) ?_
      refine ev_iconst dX11_next_100 (r32c rfl) ?_
      refine ev_istore_n (i := 1) (L' := [some (vR 150), some (vI 0)]) dX11_next_101 rfl (by decide) rfl ?_
      exact SX11_next_102  fu 0 _ h
  · rw [if_pos c7] at h
    refine ev_aload_n (i := 0) dX11_next_72 rfl rfl ?_
    refine ev_iconst dX11_next_73 (r32c rfl) ?_
    refine ev_putI dX11_next_74 fl_X11_139 sh_150 (by decide) (by decide) ?_
    refine ev_goto (tgt := 307) dX11_next_77 (by decide) ?_
    exact ev_vret rfl dX11_next_307 h
def FX11_next_0  : Nat → Mm → Option Mm
  | 0, _ => none
  | n + 1, f => (b2 (FX11_isByte (f 150 7) 32 32 f) fun y1 f1 => (if y1 = 0 then (b2 (FX11_isByte (f1 150 7) 10 10 f1) fun y2 f2 => (if y2 = 0 then FX11_next_43 f2 else FX11_next_30 (FX11_next_0 n) f2)) else FX11_next_30 (FX11_next_0 n) f1))
set_option maxHeartbeats 4000000 in
set_option maxRecDepth 100000 in
theorem SX11_next_0 {G : GT} {l : Launch} {Q : Option AV → Mem → Prop}  : ∀ (n : Nat)  (f : Mm), OkV Q (FX11_next_0  n  f) → Ev G l MX11_next (Rm 2 0 0) (ZM G Q 0 0) 0 0 0 [some (vR 150), none] [] (SH, RF, f) := by
  intro n
  induction n with
  | zero => intro  f h; exact absurd h (by rw [FX11_next_0]; exact fun q => q)
  | succ n ih =>
    intro  f h
    rw [FX11_next_0] at h
    refine ev_aload_n (i := 0) dX11_next_0 rfl rfl ?_
    refine ev_aload_n (i := 0) dX11_next_1 rfl rfl ?_
    refine ex_getI (x := (f 150 7)) dX11_next_2 fl_X11_122 sh_150 (by decide) (by decide) rfl ?_
    refine ev_bipush (v := 32) dX11_next_5 (r32c rfl) (by decide) ?_
    refine ev_bipush (v := 32) dX11_next_7 (r32c rfl) (by decide) ?_
    refine ev_cVI (b := 150) (av := [vI (f 150 7), vI 32, vI 32]) (S := []) (fun q => q) h dX11_next_9 (fun Q' q => TX11_isByte (f 150 7) 32 32 _ q) kvX11_isByte ml_X11_125 sh_150 rfl (RRc (by decide) (by decide)) (Nat.le_of_ble_eq_true rfl) ⟨Nat.le_of_ble_eq_true rfl, Nat.le_of_ble_eq_true rfl⟩ (fun y1 f1 h => ?_)
    refine ev_if_ne (tgt := 30) dX11_next_12 (by decide) (fun c4 => ?_) (fun c4 => ?_)
    · rw [if_neg c4] at h
      exact SX11_next_30 ih  _ h
    · rw [if_pos c4] at h
      refine ev_aload_n (i := 0) dX11_next_15 rfl rfl ?_
      refine ev_aload_n (i := 0) dX11_next_16 rfl rfl ?_
      refine ex_getI (x := (f1 150 7)) dX11_next_17 fl_X11_122 sh_150 (by decide) (by decide) rfl ?_
      refine ev_bipush (v := 10) dX11_next_20 (r32c rfl) (by decide) ?_
      refine ev_bipush (v := 10) dX11_next_22 (r32c rfl) (by decide) ?_
      refine ev_cVI (b := 150) (av := [vI (f1 150 7), vI 10, vI 10]) (S := []) (fun q => q) h dX11_next_24 (fun Q' q => TX11_isByte (f1 150 7) 10 10 _ q) kvX11_isByte ml_X11_125 sh_150 rfl (RRc (by decide) (by decide)) (Nat.le_of_ble_eq_true rfl) ⟨Nat.le_of_ble_eq_true rfl, Nat.le_of_ble_eq_true rfl⟩ (fun y2 f2 h => ?_)
      refine ev_if_eq (tgt := 43) dX11_next_27 (by decide) (fun c3 => ?_) (fun c3 => ?_)
      · rw [if_pos c3] at h
        exact SX11_next_43   _ h
      · rw [if_neg c3] at h
        exact SX11_next_30 ih  _ h
def FX11_next  (f : Mm) : Option Mm := FX11_next_0 fu  f
set_option maxRecDepth 100000 in
theorem TX11_next {G : GT} {l : Launch} {Q : Option AV → Mem → Prop}  (f : Mm) (h : OkV Q (FX11_next  f)) : Ret G l MX11_next (2) 0 0 [vR 150] (SH, RF, f) Q := by
  refine ret_of (L := [some (vR 150), none]) (by decide) rfl (Nat.le_of_ble_eq_true rfl) ?_
  exact SX11_next_0 fu  f h
theorem dX11_isGood_0 : decode cX11_isGood 0 = .ok (.aload_n 0, 1) := by decide +kernel
theorem dX11_isGood_1 : decode cX11_isGood 1 = .ok (.getfield 150, 3) := by decide +kernel
theorem dX11_isGood_4 : decode cX11_isGood 4 = .ok (.ifCond .ne 7, 3) := by decide +kernel
theorem dX11_isGood_11 : decode cX11_isGood 11 = .ok (.iconst 0, 1) := by decide +kernel
theorem dX11_isGood_12 : decode cX11_isGood 12 = .ok (.ireturn, 1) := by decide +kernel
theorem dX11_isGood_7 : decode cX11_isGood 7 = .ok (.iconst 1, 1) := by decide +kernel
theorem dX11_isGood_8 : decode cX11_isGood 8 = .ok (.goto 4, 3) := by decide +kernel
def FX11_isGood_0   (f : Mm) : Option (Int × Mm) := (if (f 150 12) = 0 then some (1, f) else some (0, f))
set_option maxHeartbeats 4000000 in
set_option maxRecDepth 100000 in
theorem SX11_isGood_0 {G : GT} {l : Launch} {Q : Option AV → Mem → Prop}   (f : Mm) (h : OkI Q (FX11_isGood_0   f)) : Ev G l MX11_isGood (Rm 1 0 0) (ZM G Q 0 0) 0 0 0 [some (vR 150)] [] (SH, RF, f) := by
  unfold FX11_isGood_0 at h
  refine ev_aload_n (i := 0) dX11_isGood_0 rfl rfl ?_
  refine ex_getI (x := (f 150 12)) dX11_isGood_1 fl_X11_150 sh_150 (by decide) (by decide) rfl ?_
  refine ev_if_ne (tgt := 11) dX11_isGood_4 (by decide) (fun c1 => ?_) (fun c1 => ?_)
  · rw [if_neg c1] at h
    refine ev_iconst dX11_isGood_11 (r32c rfl) ?_
    exact ev_zret rfl (by decide) dX11_isGood_12 h
  · rw [if_pos c1] at h
    refine ev_iconst dX11_isGood_7 (r32c rfl) ?_
    refine ev_goto (tgt := 12) dX11_isGood_8 (by decide) ?_
    exact ev_zret rfl (by decide) dX11_isGood_12 h
def FX11_isGood  (f : Mm) : Option (Int × Mm) := FX11_isGood_0  f
set_option maxRecDepth 100000 in
theorem TX11_isGood {G : GT} {l : Launch} {Q : Option AV → Mem → Prop}  (f : Mm) (h : OkI Q (FX11_isGood  f)) : Ret G l MX11_isGood (1) 0 0 [vR 150] (SH, RF, f) Q := by
  refine ret_of (L := [some (vR 150)]) (by decide) rfl (Nat.le_of_ble_eq_true rfl) ?_
  exact SX11_isGood_0  f h
theorem dX11_fails_0 : decode cX11_fails 0 = .ok (.aload_n 0, 1) := by decide +kernel
theorem dX11_fails_1 : decode cX11_fails 1 = .ok (.getfield 150, 3) := by decide +kernel
theorem dX11_fails_4 : decode cX11_fails 4 = .ok (.ifCond .eq 4, 3) := by decide +kernel
theorem dX11_fails_8 : decode cX11_fails 8 = .ok (.aload_n 0, 1) := by decide +kernel
theorem dX11_fails_9 : decode cX11_fails 9 = .ok (.iload_n 1, 1) := by decide +kernel
theorem dX11_fails_10 : decode cX11_fails 10 = .ok (.putfield 150, 3) := by decide +kernel
theorem dX11_fails_13 : decode cX11_fails 13 = .ok (.aload_n 0, 1) := by decide +kernel
theorem dX11_fails_14 : decode cX11_fails 14 = .ok (.aload_n 0, 1) := by decide +kernel
theorem dX11_fails_15 : decode cX11_fails 15 = .ok (.getfield 129, 3) := by decide +kernel
theorem dX11_fails_18 : decode cX11_fails 18 = .ok (.putfield 153, 3) := by decide +kernel
theorem dX11_fails_21 : decode cX11_fails 21 = .ok (.return_, 1) := by decide +kernel
theorem dX11_fails_7 : decode cX11_fails 7 = .ok (.return_, 1) := by decide +kernel
def FX11_fails_0  (x1 : Int) (f : Mm) : Option Mm := (if (f 150 12) = 0 then some (up (up f 150 12 x1) 150 13 (f 150 9)) else some f)
set_option maxHeartbeats 4000000 in
set_option maxRecDepth 100000 in
theorem SX11_fails_0 {G : GT} {l : Launch} {Q : Option AV → Mem → Prop}  (x1 : Int) (f : Mm) (h : OkV Q (FX11_fails_0  x1 f)) : Ev G l MX11_fails (Rm 1 0 0) (ZM G Q 0 0) 0 0 0 [some (vR 150), some (vI x1)] [] (SH, RF, f) := by
  unfold FX11_fails_0 at h
  refine ev_aload_n (i := 0) dX11_fails_0 rfl rfl ?_
  refine ex_getI (x := (f 150 12)) dX11_fails_1 fl_X11_150 sh_150 (by decide) (by decide) rfl ?_
  refine ev_if_eq (tgt := 8) dX11_fails_4 (by decide) (fun c1 => ?_) (fun c1 => ?_)
  · rw [if_pos c1] at h
    refine ev_aload_n (i := 0) dX11_fails_8 rfl rfl ?_
    refine ev_iload_n (i := 1) dX11_fails_9 rfl rfl ?_
    refine ev_putI dX11_fails_10 fl_X11_150 sh_150 (by decide) (by decide) ?_
    refine ev_aload_n (i := 0) dX11_fails_13 rfl rfl ?_
    refine ev_aload_n (i := 0) dX11_fails_14 rfl rfl ?_
    refine ex_getI (x := (f 150 9)) dX11_fails_15 fl_X11_129 sh_150 (by decide) (by decide) rfl ?_
    refine ev_putI dX11_fails_18 fl_X11_153 sh_150 (by decide) (by decide) ?_
    exact ev_vret rfl dX11_fails_21 h
  · rw [if_neg c1] at h
    exact ev_vret rfl dX11_fails_7 h
def FX11_fails (x1 : Int) (f : Mm) : Option Mm := FX11_fails_0 x1 f
set_option maxRecDepth 100000 in
theorem TX11_fails {G : GT} {l : Launch} {Q : Option AV → Mem → Prop} (x1 : Int) (f : Mm) (h : OkV Q (FX11_fails x1 f)) : Ret G l MX11_fails (1) 0 0 [vR 150, vI x1] (SH, RF, f) Q := by
  refine ret_of (L := [some (vR 150), some (vI x1)]) (by decide) rfl (Nat.le_of_ble_eq_true rfl) ?_
  exact SX11_fails_0 x1 f h
theorem dX11_is_0 : decode cX11_is 0 = .ok (.aload_n 0, 1) := by decide +kernel
theorem dX11_is_1 : decode cX11_is 1 = .ok (.getfield 150, 3) := by decide +kernel
theorem dX11_is_4 : decode cX11_is 4 = .ok (.ifCond .ne 24, 3) := by decide +kernel
theorem dX11_is_28 : decode cX11_is 28 = .ok (.iconst 0, 1) := by decide +kernel
theorem dX11_is_29 : decode cX11_is 29 = .ok (.ireturn, 1) := by decide +kernel
theorem dX11_is_7 : decode cX11_is 7 = .ok (.aload_n 0, 1) := by decide +kernel
theorem dX11_is_8 : decode cX11_is 8 = .ok (.getfield 139, 3) := by decide +kernel
theorem dX11_is_11 : decode cX11_is 11 = .ok (.iconst 1, 1) := by decide +kernel
theorem dX11_is_12 : decode cX11_is 12 = .ok (.if_icmp .ne 16, 3) := by decide +kernel
theorem dX11_is_15 : decode cX11_is 15 = .ok (.aload_n 0, 1) := by decide +kernel
theorem dX11_is_16 : decode cX11_is 16 = .ok (.getfield 135, 3) := by decide +kernel
theorem dX11_is_19 : decode cX11_is 19 = .ok (.lload_n 1, 1) := by decide +kernel
theorem dX11_is_20 : decode cX11_is 20 = .ok (.lcmp, 1) := by decide +kernel
theorem dX11_is_21 : decode cX11_is 21 = .ok (.ifCond .ne 7, 3) := by decide +kernel
theorem dX11_is_24 : decode cX11_is 24 = .ok (.iconst 1, 1) := by decide +kernel
theorem dX11_is_25 : decode cX11_is 25 = .ok (.goto 4, 3) := by decide +kernel
def FX11_is_0  (x1 : Int) (f : Mm) : Option (Int × Mm) := (if (f 150 12) = 0 then (if (f 150 8) = 1 then (if (cmp3 (f 150 11) x1) = 0 then some (1, f) else some (0, f)) else some (0, f)) else some (0, f))
set_option maxHeartbeats 4000000 in
set_option maxRecDepth 100000 in
theorem SX11_is_0 {G : GT} {l : Launch} {Q : Option AV → Mem → Prop}  (x1 : Int) (f : Mm) (h : OkI Q (FX11_is_0  x1 f)) : Ev G l MX11_is (Rm 1 0 0) (ZM G Q 0 0) 0 0 0 [some (vR 150), some (vJ x1), none] [] (SH, RF, f) := by
  unfold FX11_is_0 at h
  refine ev_aload_n (i := 0) dX11_is_0 rfl rfl ?_
  refine ex_getI (x := (f 150 12)) dX11_is_1 fl_X11_150 sh_150 (by decide) (by decide) rfl ?_
  refine ev_if_ne (tgt := 28) dX11_is_4 (by decide) (fun c3 => ?_) (fun c3 => ?_)
  · rw [if_neg c3] at h
    refine ev_iconst dX11_is_28 (r32c rfl) ?_
    exact ev_zret rfl (by decide) dX11_is_29 h
  · rw [if_pos c3] at h
    refine ev_aload_n (i := 0) dX11_is_7 rfl rfl ?_
    refine ex_getI (x := (f 150 8)) dX11_is_8 fl_X11_139 sh_150 (by decide) (by decide) rfl ?_
    refine ev_iconst dX11_is_11 (r32c rfl) ?_
    refine ev_icmp_ne (tgt := 28) dX11_is_12 (by decide) (fun c2 => ?_) (fun c2 => ?_)
    · rw [if_neg c2] at h
      refine ev_iconst dX11_is_28 (r32c rfl) ?_
      exact ev_zret rfl (by decide) dX11_is_29 h
    · rw [if_pos c2] at h
      refine ev_aload_n (i := 0) dX11_is_15 rfl rfl ?_
      refine ex_getJ (x := (f 150 11)) dX11_is_16 fl_X11_135 sh_150 (by decide) (by decide) rfl ?_
      refine ev_lload_n (i := 1) dX11_is_19 rfl rfl ?_
      refine ev_lcmp dX11_is_20 ?_
      refine ev_if_ne (tgt := 28) dX11_is_21 (by decide) (fun c1 => ?_) (fun c1 => ?_)
      · rw [if_neg c1] at h
        refine ev_iconst dX11_is_28 (r32c rfl) ?_
        exact ev_zret rfl (by decide) dX11_is_29 h
      · rw [if_pos c1] at h
        refine ev_iconst dX11_is_24 (r32c rfl) ?_
        refine ev_goto (tgt := 29) dX11_is_25 (by decide) ?_
        exact ev_zret rfl (by decide) dX11_is_29 h
def FX11_is (x1 : Int) (f : Mm) : Option (Int × Mm) := FX11_is_0 x1 f
set_option maxRecDepth 100000 in
theorem TX11_is {G : GT} {l : Launch} {Q : Option AV → Mem → Prop} (x1 : Int) (f : Mm) (h : OkI Q (FX11_is x1 f)) : Ret G l MX11_is (1) 0 0 [vR 150, vJ x1] (SH, RF, f) Q := by
  refine ret_of (L := [some (vR 150), some (vJ x1), none]) (by decide) rfl (Nat.le_of_ble_eq_true rfl) ?_
  exact SX11_is_0 x1 f h
theorem dX11_takes_0 : decode cX11_takes 0 = .ok (.aload_n 0, 1) := by decide +kernel
theorem dX11_takes_1 : decode cX11_takes 1 = .ok (.lload_n 1, 1) := by decide +kernel
theorem dX11_takes_2 : decode cX11_takes 2 = .ok (.invokevirtual 156, 3) := by decide +kernel
theorem dX11_takes_5 : decode cX11_takes 5 = .ok (.ifCond .ne 5, 3) := by decide +kernel
theorem dX11_takes_10 : decode cX11_takes 10 = .ok (.aload_n 0, 1) := by decide +kernel
theorem dX11_takes_11 : decode cX11_takes 11 = .ok (.invokevirtual 160, 3) := by decide +kernel
theorem dX11_takes_14 : decode cX11_takes 14 = .ok (.iconst 1, 1) := by decide +kernel
theorem dX11_takes_15 : decode cX11_takes 15 = .ok (.ireturn, 1) := by decide +kernel
theorem dX11_takes_8 : decode cX11_takes 8 = .ok (.iconst 0, 1) := by decide +kernel
theorem dX11_takes_9 : decode cX11_takes 9 = .ok (.ireturn, 1) := by decide +kernel
def FX11_takes_0  (x1 : Int) (f : Mm) : Option (Int × Mm) := (b2 (FX11_is x1 f) fun y1 f1 => (if y1 = 0 then some (0, f1) else ((FX11_next f1).bind fun f2 => some (1, f2))))
set_option maxHeartbeats 4000000 in
set_option maxRecDepth 100000 in
theorem SX11_takes_0 {G : GT} {l : Launch} {Q : Option AV → Mem → Prop}  (x1 : Int) (f : Mm) (h : OkI Q (FX11_takes_0  x1 f)) : Ev G l MX11_takes (Rm 3 0 0) (ZM G Q 0 0) 0 0 0 [some (vR 150), some (vJ x1), none] [] (SH, RF, f) := by
  unfold FX11_takes_0 at h
  refine ev_aload_n (i := 0) dX11_takes_0 rfl rfl ?_
  refine ev_lload_n (i := 1) dX11_takes_1 rfl rfl ?_
  refine ev_cVI (b := 150) (av := [vJ x1]) (S := []) (fun q => q) h dX11_takes_2 (fun Q' q => TX11_is x1 _ q) kvX11_is ml_X11_156 sh_150 rfl (RRc (by decide) (by decide)) (Nat.le_of_ble_eq_true rfl) ⟨Nat.le_of_ble_eq_true rfl, Nat.le_of_ble_eq_true rfl⟩ (fun y1 f1 h => ?_)
  refine ev_if_ne (tgt := 10) dX11_takes_5 (by decide) (fun c3 => ?_) (fun c3 => ?_)
  · rw [if_neg c3] at h
    refine ev_aload_n (i := 0) dX11_takes_10 rfl rfl ?_
    refine ev_cVV (b := 150) (av := []) (S := []) (fun q => q) h dX11_takes_11 (fun Q' q => TX11_next _ q) kvX11_next ml_X11_160 sh_150 rfl (RRc (by decide) (by decide)) (Nat.le_of_ble_eq_true rfl) ⟨Nat.le_of_ble_eq_true rfl, Nat.le_of_ble_eq_true rfl⟩ (fun f2 h => ?_)
    refine ev_iconst dX11_takes_14 (r32c rfl) ?_
    exact ev_zret rfl (by decide) dX11_takes_15 h
  · rw [if_pos c3] at h
    refine ev_iconst dX11_takes_8 (r32c rfl) ?_
    exact ev_zret rfl (by decide) dX11_takes_9 h
def FX11_takes (x1 : Int) (f : Mm) : Option (Int × Mm) := FX11_takes_0 x1 f
set_option maxRecDepth 100000 in
theorem TX11_takes {G : GT} {l : Launch} {Q : Option AV → Mem → Prop} (x1 : Int) (f : Mm) (h : OkI Q (FX11_takes x1 f)) : Ret G l MX11_takes (3) 0 0 [vR 150, vJ x1] (SH, RF, f) Q := by
  refine ret_of (L := [some (vR 150), some (vJ x1), none]) (by decide) rfl (Nat.le_of_ble_eq_true rfl) ?_
  exact SX11_takes_0 x1 f h
theorem dX11_asks_0 : decode cX11_asks 0 = .ok (.aload_n 0, 1) := by decide +kernel
theorem dX11_asks_1 : decode cX11_asks 1 = .ok (.lload_n 1, 1) := by decide +kernel
theorem dX11_asks_2 : decode cX11_asks 2 = .ok (.invokevirtual 163, 3) := by decide +kernel
theorem dX11_asks_5 : decode cX11_asks 5 = .ok (.ifCond .ne 8, 3) := by decide +kernel
theorem dX11_asks_13 : decode cX11_asks 13 = .ok (.return_, 1) := by decide +kernel
theorem dX11_asks_8 : decode cX11_asks 8 = .ok (.aload_n 0, 1) := by decide +kernel
theorem dX11_asks_9 : decode cX11_asks 9 = .ok (.iconst 1, 1) := by decide +kernel
theorem dX11_asks_10 : decode cX11_asks 10 = .ok (.invokevirtual 166, 3) := by decide +kernel
def FX11_asks_0  (x1 : Int) (f : Mm) : Option Mm := (b2 (FX11_takes x1 f) fun y1 f1 => (if y1 = 0 then ((FX11_fails 1 f1).bind fun f2 => some f2) else some f1))
set_option maxHeartbeats 4000000 in
set_option maxRecDepth 100000 in
theorem SX11_asks_0 {G : GT} {l : Launch} {Q : Option AV → Mem → Prop}  (x1 : Int) (f : Mm) (h : OkV Q (FX11_asks_0  x1 f)) : Ev G l MX11_asks (Rm 4 0 0) (ZM G Q 0 0) 0 0 0 [some (vR 150), some (vJ x1), none] [] (SH, RF, f) := by
  unfold FX11_asks_0 at h
  refine ev_aload_n (i := 0) dX11_asks_0 rfl rfl ?_
  refine ev_lload_n (i := 1) dX11_asks_1 rfl rfl ?_
  refine ev_cVI (b := 150) (av := [vJ x1]) (S := []) (fun q => q) h dX11_asks_2 (fun Q' q => TX11_takes x1 _ q) kvX11_takes ml_X11_163 sh_150 rfl (RRc (by decide) (by decide)) (Nat.le_of_ble_eq_true rfl) ⟨Nat.le_of_ble_eq_true rfl, Nat.le_of_ble_eq_true rfl⟩ (fun y1 f1 h => ?_)
  refine ev_if_ne (tgt := 13) dX11_asks_5 (by decide) (fun c3 => ?_) (fun c3 => ?_)
  · rw [if_neg c3] at h
    exact ev_vret rfl dX11_asks_13 h
  · rw [if_pos c3] at h
    refine ev_aload_n (i := 0) dX11_asks_8 rfl rfl ?_
    refine ev_iconst dX11_asks_9 (r32c rfl) ?_
    refine ev_cVV (b := 150) (av := [vI 1]) (S := []) (fun q => q) h dX11_asks_10 (fun Q' q => TX11_fails 1 _ q) kvX11_fails ml_X11_166 sh_150 rfl (RRc (by decide) (by decide)) (Nat.le_of_ble_eq_true rfl) ⟨Nat.le_of_ble_eq_true rfl, Nat.le_of_ble_eq_true rfl⟩ (fun f2 h => ?_)
    exact ev_vret rfl dX11_asks_13 h
def FX11_asks (x1 : Int) (f : Mm) : Option Mm := FX11_asks_0 x1 f
set_option maxRecDepth 100000 in
theorem TX11_asks {G : GT} {l : Launch} {Q : Option AV → Mem → Prop} (x1 : Int) (f : Mm) (h : OkV Q (FX11_asks x1 f)) : Ret G l MX11_asks (4) 0 0 [vR 150, vJ x1] (SH, RF, f) Q := by
  refine ret_of (L := [some (vR 150), some (vJ x1), none]) (by decide) rfl (Nat.le_of_ble_eq_true rfl) ?_
  exact SX11_asks_0 x1 f h
theorem dX11_number_0 : decode cX11_number 0 = .ok (.aload_n 0, 1) := by decide +kernel
theorem dX11_number_1 : decode cX11_number 1 = .ok (.getfield 150, 3) := by decide +kernel
theorem dX11_number_4 : decode cX11_number 4 = .ok (.ifCond .eq 5, 3) := by decide +kernel
theorem dX11_number_9 : decode cX11_number 9 = .ok (.aload_n 0, 1) := by decide +kernel
theorem dX11_number_10 : decode cX11_number 10 = .ok (.getfield 139, 3) := by decide +kernel
theorem dX11_number_13 : decode cX11_number 13 = .ok (.iconst 2, 1) := by decide +kernel
theorem dX11_number_14 : decode cX11_number 14 = .ok (.if_icmp .eq 10, 3) := by decide +kernel
theorem dX11_number_24 : decode cX11_number 24 = .ok (.aload_n 0, 1) := by decide +kernel
theorem dX11_number_25 : decode cX11_number 25 = .ok (.getfield 132, 3) := by decide +kernel
theorem dX11_number_28 : decode cX11_number 28 = .ok (.i2l, 1) := by decide +kernel
theorem dX11_number_29 : decode cX11_number 29 = .ok (.iload_n 1, 1) := by decide +kernel
theorem dX11_number_30 : decode cX11_number 30 = .ok (.i2l, 1) := by decide +kernel
theorem dX11_number_31 : decode cX11_number 31 = .ok (.iload_n 2, 1) := by decide +kernel
theorem dX11_number_32 : decode cX11_number 32 = .ok (.i2l, 1) := by decide +kernel
theorem dX11_number_33 : decode cX11_number 33 = .ok (.invokestatic 103, 3) := by decide +kernel
theorem dX11_number_36 : decode cX11_number 36 = .ok (.ifCond .ne 10, 3) := by decide +kernel
theorem dX11_number_46 : decode cX11_number 46 = .ok (.aload_n 0, 1) := by decide +kernel
theorem dX11_number_47 : decode cX11_number 47 = .ok (.getfield 132, 3) := by decide +kernel
theorem dX11_number_50 : decode cX11_number 50 = .ok (.istore_n 3, 1) := by decide +kernel
theorem dX11_number_51 : decode cX11_number 51 = .ok (.aload_n 0, 1) := by decide +kernel
theorem dX11_number_52 : decode cX11_number 52 = .ok (.invokevirtual 160, 3) := by decide +kernel
theorem dX11_number_55 : decode cX11_number 55 = .ok (.iload_n 3, 1) := by decide +kernel
theorem dX11_number_56 : decode cX11_number 56 = .ok (.ireturn, 1) := by decide +kernel
theorem dX11_number_39 : decode cX11_number 39 = .ok (.aload_n 0, 1) := by decide +kernel
theorem dX11_number_40 : decode cX11_number 40 = .ok (.iconst 2, 1) := by decide +kernel
theorem dX11_number_41 : decode cX11_number 41 = .ok (.invokevirtual 166, 3) := by decide +kernel
theorem dX11_number_44 : decode cX11_number 44 = .ok (.iload_n 1, 1) := by decide +kernel
theorem dX11_number_45 : decode cX11_number 45 = .ok (.ireturn, 1) := by decide +kernel
theorem dX11_number_17 : decode cX11_number 17 = .ok (.aload_n 0, 1) := by decide +kernel
theorem dX11_number_18 : decode cX11_number 18 = .ok (.iconst 1, 1) := by decide +kernel
theorem dX11_number_19 : decode cX11_number 19 = .ok (.invokevirtual 166, 3) := by decide +kernel
theorem dX11_number_22 : decode cX11_number 22 = .ok (.iload_n 1, 1) := by decide +kernel
theorem dX11_number_23 : decode cX11_number 23 = .ok (.ireturn, 1) := by decide +kernel
theorem dX11_number_7 : decode cX11_number 7 = .ok (.iload_n 1, 1) := by decide +kernel
theorem dX11_number_8 : decode cX11_number 8 = .ok (.ireturn, 1) := by decide +kernel
def FX11_number_0  (x1 : Int) (x2 : Int) (f : Mm) : Option (Int × Mm) := (if (f 150 12) = 0 then (if (f 150 8) = 2 then (b2 (FX11_in (f 150 10) x1 x2 f) fun y1 f1 => (if y1 = 0 then ((FX11_fails 2 f1).bind fun f3 => some (x1, f3)) else ((FX11_next f1).bind fun f2 => some ((f1 150 10), f2)))) else ((FX11_fails 1 f).bind fun f5 => some (x1, f5))) else some (x1, f))
set_option maxHeartbeats 4000000 in
set_option maxRecDepth 100000 in
theorem SX11_number_0 {G : GT} {l : Launch} {Q : Option AV → Mem → Prop}  (x1 : Int) (x2 : Int) (f : Mm) (h : OkI Q (FX11_number_0  x1 x2 f)) : Ev G l MX11_number (Rm 3 0 0) (ZM G Q 0 0) 0 0 0 [some (vR 150), some (vI x1), some (vI x2), none] [] (SH, RF, f) := by
  unfold FX11_number_0 at h
  refine ev_aload_n (i := 0) dX11_number_0 rfl rfl ?_
  refine ex_getI (x := (f 150 12)) dX11_number_1 fl_X11_150 sh_150 (by decide) (by decide) rfl ?_
  refine ev_if_eq (tgt := 9) dX11_number_4 (by decide) (fun c7 => ?_) (fun c7 => ?_)
  · rw [if_pos c7] at h
    refine ev_aload_n (i := 0) dX11_number_9 rfl rfl ?_
    refine ex_getI (x := (f 150 8)) dX11_number_10 fl_X11_139 sh_150 (by decide) (by decide) rfl ?_
    refine ev_iconst dX11_number_13 (r32c rfl) ?_
    refine ev_icmp_eq (tgt := 24) dX11_number_14 (by decide) (fun c6 => ?_) (fun c6 => ?_)
    · rw [if_pos c6] at h
      refine ev_aload_n (i := 0) dX11_number_24 rfl rfl ?_
      refine ex_getI (x := (f 150 10)) dX11_number_25 fl_X11_132 sh_150 (by decide) (by decide) rfl ?_
      refine ev_i2l dX11_number_28 ?_
      refine ev_iload_n (i := 1) dX11_number_29 rfl rfl ?_
      refine ev_i2l dX11_number_30 ?_
      refine ev_iload_n (i := 2) dX11_number_31 rfl rfl ?_
      refine ev_i2l dX11_number_32 ?_
      refine ev_cSI (av := [vJ (f 150 10), vJ x1, vJ x2]) (S := []) (fun q => q) h dX11_number_33 (fun Q' q => TX11_in (f 150 10) x1 x2 _ q) ksX11_in ml_X11_103 rfl (RRc (by decide) (by decide)) (Nat.le_of_ble_eq_true rfl) ⟨Nat.le_of_ble_eq_true rfl, Nat.le_of_ble_eq_true rfl⟩ (fun y1 f1 h => ?_)
      refine ev_if_ne (tgt := 46) dX11_number_36 (by decide) (fun c4 => ?_) (fun c4 => ?_)
      · rw [if_neg c4] at h
        refine ev_aload_n (i := 0) dX11_number_46 rfl rfl ?_
        refine ex_getI (x := (f1 150 10)) dX11_number_47 fl_X11_132 sh_150 (by decide) (by decide) rfl ?_
        refine ev_istore_n (i := 3) (L' := [some (vR 150), some (vI x1), some (vI x2), some (vI (f1 150 10))]) dX11_number_50 rfl (by decide) rfl ?_
        refine ev_aload_n (i := 0) dX11_number_51 rfl rfl ?_
        refine ev_cVV (b := 150) (av := []) (S := []) (fun q => q) h dX11_number_52 (fun Q' q => TX11_next _ q) kvX11_next ml_X11_160 sh_150 rfl (RRc (by decide) (by decide)) (Nat.le_of_ble_eq_true rfl) ⟨Nat.le_of_ble_eq_true rfl, Nat.le_of_ble_eq_true rfl⟩ (fun f2 h => ?_)
        refine ev_iload_n (i := 3) dX11_number_55 rfl rfl ?_
        exact ev_iret rfl dX11_number_56 h
      · rw [if_pos c4] at h
        refine ev_aload_n (i := 0) dX11_number_39 rfl rfl ?_
        refine ev_iconst dX11_number_40 (r32c rfl) ?_
        refine ev_cVV (b := 150) (av := [vI 2]) (S := []) (fun q => q) h dX11_number_41 (fun Q' q => TX11_fails 2 _ q) kvX11_fails ml_X11_166 sh_150 rfl (RRc (by decide) (by decide)) (Nat.le_of_ble_eq_true rfl) ⟨Nat.le_of_ble_eq_true rfl, Nat.le_of_ble_eq_true rfl⟩ (fun f3 h => ?_)
        refine ev_iload_n (i := 1) dX11_number_44 rfl rfl ?_
        exact ev_iret rfl dX11_number_45 h
    · rw [if_neg c6] at h
      refine ev_aload_n (i := 0) dX11_number_17 rfl rfl ?_
      refine ev_iconst dX11_number_18 (r32c rfl) ?_
      refine ev_cVV (b := 150) (av := [vI 1]) (S := []) (fun q => q) h dX11_number_19 (fun Q' q => TX11_fails 1 _ q) kvX11_fails ml_X11_166 sh_150 rfl (RRc (by decide) (by decide)) (Nat.le_of_ble_eq_true rfl) ⟨Nat.le_of_ble_eq_true rfl, Nat.le_of_ble_eq_true rfl⟩ (fun f5 h => ?_)
      refine ev_iload_n (i := 1) dX11_number_22 rfl rfl ?_
      exact ev_iret rfl dX11_number_23 h
  · rw [if_neg c7] at h
    refine ev_iload_n (i := 1) dX11_number_7 rfl rfl ?_
    exact ev_iret rfl dX11_number_8 h
def FX11_number (x1 : Int) (x2 : Int) (f : Mm) : Option (Int × Mm) := FX11_number_0 x1 x2 f
set_option maxRecDepth 100000 in
theorem TX11_number {G : GT} {l : Launch} {Q : Option AV → Mem → Prop} (x1 : Int) (x2 : Int) (f : Mm) (h : OkI Q (FX11_number x1 x2 f)) : Ret G l MX11_number (3) 0 0 [vR 150, vI x1, vI x2] (SH, RF, f) Q := by
  refine ret_of (L := [some (vR 150), some (vI x1), some (vI x2), none]) (by decide) rfl (Nat.le_of_ble_eq_true rfl) ?_
  exact SX11_number_0 x1 x2 f h
theorem dX11_number__0 : decode cX11_number_ 0 = .ok (.aload_n 0, 1) := by decide +kernel
theorem dX11_number__1 : decode cX11_number_ 1 = .ok (.lload_n 1, 1) := by decide +kernel
theorem dX11_number__2 : decode cX11_number_ 2 = .ok (.invokevirtual 169, 3) := by decide +kernel
theorem dX11_number__5 : decode cX11_number_ 5 = .ok (.aload_n 0, 1) := by decide +kernel
theorem dX11_number__6 : decode cX11_number_ 6 = .ok (.iload_n 3, 1) := by decide +kernel
theorem dX11_number__7 : decode cX11_number_ 7 = .ok (.iload 4, 2) := by decide +kernel
theorem dX11_number__9 : decode cX11_number_ 9 = .ok (.invokevirtual 173, 3) := by decide +kernel
theorem dX11_number__12 : decode cX11_number_ 12 = .ok (.ireturn, 1) := by decide +kernel
def FX11_number__0  (x1 : Int) (x3 : Int) (x4 : Int) (f : Mm) : Option (Int × Mm) := ((FX11_asks x1 f).bind fun f1 => (b2 (FX11_number x3 x4 f1) fun y2 f2 => some (y2, f2)))
set_option maxHeartbeats 4000000 in
set_option maxRecDepth 100000 in
theorem SX11_number__0 {G : GT} {l : Launch} {Q : Option AV → Mem → Prop}  (x1 : Int) (x3 : Int) (x4 : Int) (f : Mm) (h : OkI Q (FX11_number__0  x1 x3 x4 f)) : Ev G l MX11_number_ (Rm 5 0 0) (ZM G Q 0 0) 0 0 0 [some (vR 150), some (vJ x1), none, some (vI x3), some (vI x4)] [] (SH, RF, f) := by
  unfold FX11_number__0 at h
  refine ev_aload_n (i := 0) dX11_number__0 rfl rfl ?_
  refine ev_lload_n (i := 1) dX11_number__1 rfl rfl ?_
  refine ev_cVV (b := 150) (av := [vJ x1]) (S := []) (fun q => q) h dX11_number__2 (fun Q' q => TX11_asks x1 _ q) kvX11_asks ml_X11_169 sh_150 rfl (RRc (by decide) (by decide)) (Nat.le_of_ble_eq_true rfl) ⟨Nat.le_of_ble_eq_true rfl, Nat.le_of_ble_eq_true rfl⟩ (fun f1 h => ?_)
  refine ev_aload_n (i := 0) dX11_number__5 rfl rfl ?_
  refine ev_iload_n (i := 3) dX11_number__6 rfl rfl ?_
  refine ev_iload dX11_number__7 rfl ?_
  refine ev_cVI (b := 150) (av := [vI x3, vI x4]) (S := []) (fun q => q) h dX11_number__9 (fun Q' q => TX11_number x3 x4 _ q) kvX11_number ml_X11_173 sh_150 rfl (RRc (by decide) (by decide)) (Nat.le_of_ble_eq_true rfl) ⟨Nat.le_of_ble_eq_true rfl, Nat.le_of_ble_eq_true rfl⟩ (fun y2 f2 h => ?_)
  exact ev_iret rfl dX11_number__12 h
def FX11_number_ (x1 : Int) (x3 : Int) (x4 : Int) (f : Mm) : Option (Int × Mm) := FX11_number__0 x1 x3 x4 f
set_option maxRecDepth 100000 in
theorem TX11_number_ {G : GT} {l : Launch} {Q : Option AV → Mem → Prop} (x1 : Int) (x3 : Int) (x4 : Int) (f : Mm) (h : OkI Q (FX11_number_ x1 x3 x4 f)) : Ret G l MX11_number_ (5) 0 0 [vR 150, vJ x1, vI x3, vI x4] (SH, RF, f) Q := by
  refine ret_of (L := [some (vR 150), some (vJ x1), none, some (vI x3), some (vI x4)]) (by decide) rfl (Nat.le_of_ble_eq_true rfl) ?_
  exact SX11_number__0 x1 x3 x4 f h
theorem dX11_ends_13 : decode cX11_ends 13 = .ok (.aload_n 0, 1) := by decide +kernel
theorem dX11_ends_14 : decode cX11_ends 14 = .ok (.getfield 150, 3) := by decide +kernel
theorem dX11_ends_17 : decode cX11_ends 17 = .ok (.ifCond .ne 7, 3) := by decide +kernel
theorem dX11_ends_24 : decode cX11_ends 24 = .ok (.return_, 1) := by decide +kernel
theorem dX11_ends_20 : decode cX11_ends 20 = .ok (.aload_n 0, 1) := by decide +kernel
theorem dX11_ends_21 : decode cX11_ends 21 = .ok (.invokevirtual 160, 3) := by decide +kernel
theorem dX11_ends_0 : decode cX11_ends 0 = .ok (.aload_n 0, 1) := by decide +kernel
theorem dX11_ends_1 : decode cX11_ends 1 = .ok (.getfield 139, 3) := by decide +kernel
theorem dX11_ends_4 : decode cX11_ends 4 = .ok (.iconst 3, 1) := by decide +kernel
theorem dX11_ends_5 : decode cX11_ends 5 = .ok (.if_icmp .eq 8, 3) := by decide +kernel
theorem dX11_ends_8 : decode cX11_ends 8 = .ok (.aload_n 0, 1) := by decide +kernel
theorem dX11_ends_9 : decode cX11_ends 9 = .ok (.iconst 1, 1) := by decide +kernel
theorem dX11_ends_10 : decode cX11_ends 10 = .ok (.invokevirtual 166, 3) := by decide +kernel
def FX11_ends_13   (f : Mm) : Option Mm := (if (f 150 12) = 0 then ((FX11_next f).bind fun f1 => some f1) else some f)
set_option maxHeartbeats 4000000 in
set_option maxRecDepth 100000 in
theorem SX11_ends_13 {G : GT} {l : Launch} {Q : Option AV → Mem → Prop}   (f : Mm) (h : OkV Q (FX11_ends_13   f)) : Ev G l MX11_ends (Rm 3 0 0) (ZM G Q 0 0) 0 0 13 [some (vR 150)] [] (SH, RF, f) := by
  unfold FX11_ends_13 at h
  refine ev_aload_n (i := 0) dX11_ends_13 rfl rfl ?_
  refine ex_getI (x := (f 150 12)) dX11_ends_14 fl_X11_150 sh_150 (by decide) (by decide) rfl ?_
  refine ev_if_ne (tgt := 24) dX11_ends_17 (by decide) (fun c2 => ?_) (fun c2 => ?_)
  · rw [if_neg c2] at h
    exact ev_vret rfl dX11_ends_24 h
  · rw [if_pos c2] at h
    refine ev_aload_n (i := 0) dX11_ends_20 rfl rfl ?_
    refine ev_cVV (b := 150) (av := []) (S := []) (fun q => q) h dX11_ends_21 (fun Q' q => TX11_next _ q) kvX11_next ml_X11_160 sh_150 rfl (RRc (by decide) (by decide)) (Nat.le_of_ble_eq_true rfl) ⟨Nat.le_of_ble_eq_true rfl, Nat.le_of_ble_eq_true rfl⟩ (fun f1 h => ?_)
    exact ev_vret rfl dX11_ends_24 h
def FX11_ends_0   (f : Mm) : Option Mm := (if (f 150 8) = 3 then FX11_ends_13 f else ((FX11_fails 1 f).bind fun f1 => FX11_ends_13 f1))
set_option maxHeartbeats 4000000 in
set_option maxRecDepth 100000 in
theorem SX11_ends_0 {G : GT} {l : Launch} {Q : Option AV → Mem → Prop}   (f : Mm) (h : OkV Q (FX11_ends_0   f)) : Ev G l MX11_ends (Rm 3 0 0) (ZM G Q 0 0) 0 0 0 [some (vR 150)] [] (SH, RF, f) := by
  unfold FX11_ends_0 at h
  refine ev_aload_n (i := 0) dX11_ends_0 rfl rfl ?_
  refine ex_getI (x := (f 150 8)) dX11_ends_1 fl_X11_139 sh_150 (by decide) (by decide) rfl ?_
  refine ev_iconst dX11_ends_4 (r32c rfl) ?_
  refine ev_icmp_eq (tgt := 13) dX11_ends_5 (by decide) (fun c2 => ?_) (fun c2 => ?_)
  · rw [if_pos c2] at h
    exact SX11_ends_13   _ h
  · rw [if_neg c2] at h
    refine ev_aload_n (i := 0) dX11_ends_8 rfl rfl ?_
    refine ev_iconst dX11_ends_9 (r32c rfl) ?_
    refine ev_cVV (b := 150) (av := [vI 1]) (S := []) (fun q => q) h dX11_ends_10 (fun Q' q => TX11_fails 1 _ q) kvX11_fails ml_X11_166 sh_150 rfl (RRc (by decide) (by decide)) (Nat.le_of_ble_eq_true rfl) ⟨Nat.le_of_ble_eq_true rfl, Nat.le_of_ble_eq_true rfl⟩ (fun f1 h => ?_)
    exact SX11_ends_13   _ h
def FX11_ends  (f : Mm) : Option Mm := FX11_ends_0  f
set_option maxRecDepth 100000 in
theorem TX11_ends {G : GT} {l : Launch} {Q : Option AV → Mem → Prop}  (f : Mm) (h : OkV Q (FX11_ends  f)) : Ret G l MX11_ends (3) 0 0 [vR 150] (SH, RF, f) Q := by
  refine ret_of (L := [some (vR 150)]) (by decide) rfl (Nat.le_of_ble_eq_true rfl) ?_
  exact SX11_ends_0  f h
theorem dX11_begins_0 : decode cX11_begins 0 = .ok (.aload_n 0, 1) := by decide +kernel
theorem dX11_begins_1 : decode cX11_begins 1 = .ok (.iconst 0, 1) := by decide +kernel
theorem dX11_begins_2 : decode cX11_begins 2 = .ok (.putfield 150, 3) := by decide +kernel
theorem dX11_begins_5 : decode cX11_begins 5 = .ok (.aload_n 0, 1) := by decide +kernel
theorem dX11_begins_6 : decode cX11_begins 6 = .ok (.iconst (-1), 1) := by decide +kernel
theorem dX11_begins_7 : decode cX11_begins 7 = .ok (.putfield 153, 3) := by decide +kernel
theorem dX11_begins_10 : decode cX11_begins 10 = .ok (.aload_n 0, 1) := by decide +kernel
theorem dX11_begins_11 : decode cX11_begins 11 = .ok (.iconst 0, 1) := by decide +kernel
theorem dX11_begins_12 : decode cX11_begins 12 = .ok (.putfield 122, 3) := by decide +kernel
theorem dX11_begins_15 : decode cX11_begins 15 = .ok (.aload_n 0, 1) := by decide +kernel
theorem dX11_begins_16 : decode cX11_begins 16 = .ok (.invokevirtual 160, 3) := by decide +kernel
theorem dX11_begins_19 : decode cX11_begins 19 = .ok (.return_, 1) := by decide +kernel
def FX11_begins_0   (f : Mm) : Option Mm := ((FX11_next (up (up (up f 150 12 0) 150 13 (-1)) 150 7 0)).bind fun f1 => some f1)
set_option maxHeartbeats 4000000 in
set_option maxRecDepth 100000 in
theorem SX11_begins_0 {G : GT} {l : Launch} {Q : Option AV → Mem → Prop}   (f : Mm) (h : OkV Q (FX11_begins_0   f)) : Ev G l MX11_begins (Rm 3 0 0) (ZM G Q 0 0) 0 0 0 [some (vR 150)] [] (SH, RF, f) := by
  unfold FX11_begins_0 at h
  refine ev_aload_n (i := 0) dX11_begins_0 rfl rfl ?_
  refine ev_iconst dX11_begins_1 (r32c rfl) ?_
  refine ev_putI dX11_begins_2 fl_X11_150 sh_150 (by decide) (by decide) ?_
  refine ev_aload_n (i := 0) dX11_begins_5 rfl rfl ?_
  refine ev_iconst dX11_begins_6 (r32c rfl) ?_
  refine ev_putI dX11_begins_7 fl_X11_153 sh_150 (by decide) (by decide) ?_
  refine ev_aload_n (i := 0) dX11_begins_10 rfl rfl ?_
  refine ev_iconst dX11_begins_11 (r32c rfl) ?_
  refine ev_putI dX11_begins_12 fl_X11_122 sh_150 (by decide) (by decide) ?_
  refine ev_aload_n (i := 0) dX11_begins_15 rfl rfl ?_
  refine ev_cVV (b := 150) (av := []) (S := []) (fun q => q) h dX11_begins_16 (fun Q' q => TX11_next _ q) kvX11_next ml_X11_160 sh_150 rfl (RRc (by decide) (by decide)) (Nat.le_of_ble_eq_true rfl) ⟨Nat.le_of_ble_eq_true rfl, Nat.le_of_ble_eq_true rfl⟩ (fun f1 h => ?_)
  exact ev_vret rfl dX11_begins_19 h
def FX11_begins  (f : Mm) : Option Mm := FX11_begins_0  f
set_option maxRecDepth 100000 in
theorem TX11_begins {G : GT} {l : Launch} {Q : Option AV → Mem → Prop}  (f : Mm) (h : OkV Q (FX11_begins  f)) : Ret G l MX11_begins (3) 0 0 [vR 150] (SH, RF, f) Q := by
  refine ret_of (L := [some (vR 150)]) (by decide) rfl (Nat.le_of_ble_eq_true rfl) ?_
  exact SX11_begins_0  f h
theorem dX11_isOver_29 : decode cX11_isOver 29 = .ok (.putfield 27, 3) := by decide +kernel
theorem dX11_isOver_32 : decode cX11_isOver 32 = .ok (.return_, 1) := by decide +kernel
theorem dX11_isOver_0 : decode cX11_isOver 0 = .ok (.aload_n 0, 1) := by decide +kernel
theorem dX11_isOver_1 : decode cX11_isOver 1 = .ok (.iconst 0, 1) := by decide +kernel
theorem dX11_isOver_2 : decode cX11_isOver 2 = .ok (.putfield 115, 3) := by decide +kernel
theorem dX11_isOver_5 : decode cX11_isOver 5 = .ok (.aload_n 0, 1) := by decide +kernel
theorem dX11_isOver_6 : decode cX11_isOver 6 = .ok (.aload_n 0, 1) := by decide +kernel
theorem dX11_isOver_7 : decode cX11_isOver 7 = .ok (.getfield 150, 3) := by decide +kernel
theorem dX11_isOver_10 : decode cX11_isOver 10 = .ok (.putfield 177, 3) := by decide +kernel
theorem dX11_isOver_13 : decode cX11_isOver 13 = .ok (.aload_n 0, 1) := by decide +kernel
theorem dX11_isOver_14 : decode cX11_isOver 14 = .ok (.aload_n 0, 1) := by decide +kernel
theorem dX11_isOver_15 : decode cX11_isOver 15 = .ok (.getfield 150, 3) := by decide +kernel
theorem dX11_isOver_18 : decode cX11_isOver 18 = .ok (.ifCond .ne 7, 3) := by decide +kernel
theorem dX11_isOver_25 : decode cX11_isOver 25 = .ok (.aload_n 0, 1) := by decide +kernel
theorem dX11_isOver_26 : decode cX11_isOver 26 = .ok (.getfield 153, 3) := by decide +kernel
theorem dX11_isOver_21 : decode cX11_isOver 21 = .ok (.iconst (-1), 1) := by decide +kernel
theorem dX11_isOver_22 : decode cX11_isOver 22 = .ok (.goto 7, 3) := by decide +kernel
def FX11_isOver_29  (s1 : Int) (f : Mm) : Option Mm := some (up f 150 15 s1)
set_option maxHeartbeats 4000000 in
set_option maxRecDepth 100000 in
theorem SX11_isOver_29 {G : GT} {l : Launch} {Q : Option AV → Mem → Prop}  (s1 : Int) (f : Mm) (h : OkV Q (FX11_isOver_29  s1 f)) : Ev G l MX11_isOver (Rm 1 0 0) (ZM G Q 0 0) 0 0 29 [none] [vI s1, vR 150] (SH, RF, f) := by
  unfold FX11_isOver_29 at h
  refine ev_putI dX11_isOver_29 fl_X11_27 sh_150 (by decide) (by decide) ?_
  exact ev_vret rfl dX11_isOver_32 h
def FX11_isOver_0   (f : Mm) : Option Mm := (if (f 150 12) = 0 then FX11_isOver_29 (-1) (up (up f 150 6 0) 150 14 (f 150 12)) else FX11_isOver_29 (f 150 13) (up (up f 150 6 0) 150 14 (f 150 12)))
set_option maxHeartbeats 4000000 in
set_option maxRecDepth 100000 in
theorem SX11_isOver_0 {G : GT} {l : Launch} {Q : Option AV → Mem → Prop}   (f : Mm) (h : OkV Q (FX11_isOver_0   f)) : Ev G l MX11_isOver (Rm 1 0 0) (ZM G Q 0 0) 0 0 0 [some (vR 150)] [] (SH, RF, f) := by
  unfold FX11_isOver_0 at h
  refine ev_aload_n (i := 0) dX11_isOver_0 rfl rfl ?_
  refine ev_iconst dX11_isOver_1 (r32c rfl) ?_
  refine ev_putI dX11_isOver_2 fl_X11_115 sh_150 (by decide) (by decide) ?_
  refine ev_aload_n (i := 0) dX11_isOver_5 rfl rfl ?_
  refine ev_aload_n (i := 0) dX11_isOver_6 rfl rfl ?_
  refine ex_getI (x := (f 150 12)) dX11_isOver_7 fl_X11_150 sh_150 (by decide) (by decide) rfl ?_
  refine ev_putI dX11_isOver_10 fl_X11_177 sh_150 (by decide) (by decide) ?_
  refine ev_aload_n (i := 0) dX11_isOver_13 rfl rfl ?_
  refine ev_aload_n (i := 0) dX11_isOver_14 rfl rfl ?_
  refine ex_getI (x := (f 150 12)) dX11_isOver_15 fl_X11_150 sh_150 (by decide) (by decide) rfl ?_
  refine ev_if_ne (tgt := 25) dX11_isOver_18 (by decide) (fun c1 => ?_) (fun c1 => ?_)
  · rw [if_neg c1] at h
    refine ev_aload_n (i := 0) dX11_isOver_25 rfl rfl ?_
    refine ex_getI (x := (f 150 13)) dX11_isOver_26 fl_X11_153 sh_150 (by decide) (by decide) rfl ?_
    refine ev_fg [false] rfl ?_
    exact SX11_isOver_29  (f 150 13) _ h
  · rw [if_pos c1] at h
    refine ev_iconst dX11_isOver_21 (r32c rfl) ?_
    refine ev_goto (tgt := 29) dX11_isOver_22 (by decide) ?_
    refine ev_fg [false] rfl ?_
    exact SX11_isOver_29  (-1) _ h
def FX11_isOver  (f : Mm) : Option Mm := FX11_isOver_0  f
set_option maxRecDepth 100000 in
theorem TX11_isOver {G : GT} {l : Launch} {Q : Option AV → Mem → Prop}  (f : Mm) (h : OkV Q (FX11_isOver  f)) : Ret G l MX11_isOver (1) 0 0 [vR 150] (SH, RF, f) Q := by
  refine ret_of (L := [some (vR 150)]) (by decide) rfl (Nat.le_of_ble_eq_true rfl) ?_
  exact SX11_isOver_0  f h
theorem dX11_fault_0 : decode cX11_fault 0 = .ok (.aload_n 0, 1) := by decide +kernel
theorem dX11_fault_1 : decode cX11_fault 1 = .ok (.iconst 0, 1) := by decide +kernel
theorem dX11_fault_2 : decode cX11_fault 2 = .ok (.putfield 98, 3) := by decide +kernel
theorem dX11_fault_5 : decode cX11_fault 5 = .ok (.iload_n 1, 1) := by decide +kernel
theorem dX11_fault_6 : decode cX11_fault 6 = .ok (.ifCond .ne 10, 3) := by decide +kernel
theorem dX11_fault_16 : decode cX11_fault 16 = .ok (.iload_n 1, 1) := by decide +kernel
theorem dX11_fault_17 : decode cX11_fault 17 = .ok (.iconst 1, 1) := by decide +kernel
theorem dX11_fault_18 : decode cX11_fault 18 = .ok (.if_icmp .ne 10, 3) := by decide +kernel
theorem dX11_fault_28 : decode cX11_fault 28 = .ok (.iconst (-1), 1) := by decide +kernel
theorem dX11_fault_29 : decode cX11_fault 29 = .ok (.ireturn, 1) := by decide +kernel
theorem dX11_fault_21 : decode cX11_fault 21 = .ok (.aload_n 0, 1) := by decide +kernel
theorem dX11_fault_22 : decode cX11_fault 22 = .ok (.getfield 27, 3) := by decide +kernel
theorem dX11_fault_25 : decode cX11_fault 25 = .ok (.goto 4, 3) := by decide +kernel
theorem dX11_fault_9 : decode cX11_fault 9 = .ok (.aload_n 0, 1) := by decide +kernel
theorem dX11_fault_10 : decode cX11_fault 10 = .ok (.getfield 177, 3) := by decide +kernel
theorem dX11_fault_13 : decode cX11_fault 13 = .ok (.goto 16, 3) := by decide +kernel
def FX11_fault_0  (x1 : Int) (f : Mm) : Option (Int × Mm) := (if x1 = 0 then some ((f 150 14), (up f 150 0 0)) else (if x1 = 1 then some ((f 150 15), (up f 150 0 0)) else some ((-1), (up f 150 0 0))))
set_option maxHeartbeats 4000000 in
set_option maxRecDepth 100000 in
theorem SX11_fault_0 {G : GT} {l : Launch} {Q : Option AV → Mem → Prop}  (x1 : Int) (f : Mm) (h : OkI Q (FX11_fault_0  x1 f)) : Ev G l MX11_fault (Rm 1 0 0) (ZM G Q 0 0) 0 0 0 [some (vR 150), some (vI x1)] [] (SH, RF, f) := by
  unfold FX11_fault_0 at h
  refine ev_aload_n (i := 0) dX11_fault_0 rfl rfl ?_
  refine ev_iconst dX11_fault_1 (r32c rfl) ?_
  refine ev_putI dX11_fault_2 fl_X11_98 sh_150 (by decide) (by decide) ?_
  refine ev_iload_n (i := 1) dX11_fault_5 rfl rfl ?_
  refine ev_if_ne (tgt := 16) dX11_fault_6 (by decide) (fun c2 => ?_) (fun c2 => ?_)
  · rw [if_neg c2] at h
    refine ev_iload_n (i := 1) dX11_fault_16 rfl rfl ?_
    refine ev_iconst dX11_fault_17 (r32c rfl) ?_
    refine ev_icmp_ne (tgt := 28) dX11_fault_18 (by decide) (fun c1 => ?_) (fun c1 => ?_)
    · rw [if_neg c1] at h
      refine ev_iconst dX11_fault_28 (r32c rfl) ?_
      exact ev_iret rfl dX11_fault_29 h
    · rw [if_pos c1] at h
      refine ev_aload_n (i := 0) dX11_fault_21 rfl rfl ?_
      refine ex_getI (x := (f 150 15)) dX11_fault_22 fl_X11_27 sh_150 (by decide) (by decide) rfl ?_
      refine ev_goto (tgt := 29) dX11_fault_25 (by decide) ?_
      exact ev_iret rfl dX11_fault_29 h
  · rw [if_pos c2] at h
    refine ev_aload_n (i := 0) dX11_fault_9 rfl rfl ?_
    refine ex_getI (x := (f 150 14)) dX11_fault_10 fl_X11_177 sh_150 (by decide) (by decide) rfl ?_
    refine ev_goto (tgt := 29) dX11_fault_13 (by decide) ?_
    exact ev_iret rfl dX11_fault_29 h
def FX11_fault (x1 : Int) (f : Mm) : Option (Int × Mm) := FX11_fault_0 x1 f
set_option maxRecDepth 100000 in
theorem TX11_fault {G : GT} {l : Launch} {Q : Option AV → Mem → Prop} (x1 : Int) (f : Mm) (h : OkI Q (FX11_fault x1 f)) : Ret G l MX11_fault (1) 0 0 [vR 150, vI x1] (SH, RF, f) Q := by
  refine ret_of (L := [some (vR 150), some (vI x1)]) (by decide) rfl (Nat.le_of_ble_eq_true rfl) ?_
  exact SX11_fault_0 x1 f h
theorem dX11_hasRead_0 : decode cX11_hasRead 0 = .ok (.aload_n 0, 1) := by decide +kernel
theorem dX11_hasRead_1 : decode cX11_hasRead 1 = .ok (.getfield 34, 3) := by decide +kernel
theorem dX11_hasRead_4 : decode cX11_hasRead 4 = .ok (.bipush 32, 2) := by decide +kernel
theorem dX11_hasRead_6 : decode cX11_hasRead 6 = .ok (.iload_n 1, 1) := by decide +kernel
theorem dX11_hasRead_7 : decode cX11_hasRead 7 = .ok (.iadd, 1) := by decide +kernel
theorem dX11_hasRead_8 : decode cX11_hasRead 8 = .ok (.iaload, 1) := by decide +kernel
theorem dX11_hasRead_9 : decode cX11_hasRead 9 = .ok (.ireturn, 1) := by decide +kernel
def FX11_hasRead_0  (x1 : Int) (f : Mm) : Option (Int × Mm) := (if 0 ≤ (w32 (32 + x1)) ∧ (w32 (32 + x1)) < 40 then some ((f 157 (w32 (32 + x1)).toNat), f) else none)
set_option maxHeartbeats 4000000 in
set_option maxRecDepth 100000 in
theorem SX11_hasRead_0 {G : GT} {l : Launch} {Q : Option AV → Mem → Prop}  (x1 : Int) (f : Mm) (h : OkI Q (FX11_hasRead_0  x1 f)) : Ev G l MX11_hasRead (Rm 1 0 0) (ZM G Q 0 0) 0 0 0 [some (vR 150), some (vI x1)] [] (SH, RF, f) := by
  unfold FX11_hasRead_0 at h
  refine ev_aload_n (i := 0) dX11_hasRead_0 rfl rfl ?_
  refine ev_getR dX11_hasRead_1 fl_X11_34 sh_150 (by decide) (by decide) rf_150_17 ?_
  refine ev_bipush (v := 32) dX11_hasRead_4 (r32c rfl) (by decide) ?_
  refine ev_iload_n (i := 1) dX11_hasRead_6 rfl rfl ?_
  refine ev_iadd dX11_hasRead_7 ?_
  by_cases g1 : 0 ≤ (w32 (32 + x1)) ∧ (w32 (32 + x1)) < 40
  · rw [if_pos g1] at h
    refine ex_iald (x := (f 157 (w32 (32 + x1)).toNat)) dX11_hasRead_8 sh_157 g1.1 g1.2 rfl ?_
    exact ev_iret rfl dX11_hasRead_9 h
  · rw [if_neg g1] at h; exact h.elim
def FX11_hasRead (x1 : Int) (f : Mm) : Option (Int × Mm) := FX11_hasRead_0 x1 f
set_option maxRecDepth 100000 in
theorem TX11_hasRead {G : GT} {l : Launch} {Q : Option AV → Mem → Prop} (x1 : Int) (f : Mm) (h : OkI Q (FX11_hasRead x1 f)) : Ret G l MX11_hasRead (1) 0 0 [vR 150, vI x1] (SH, RF, f) Q := by
  refine ret_of (L := [some (vR 150), some (vI x1)]) (by decide) rfl (Nat.le_of_ble_eq_true rfl) ?_
  exact SX11_hasRead_0 x1 f h
theorem dX11_tells_0 : decode cX11_tells 0 = .ok (.aload_n 0, 1) := by decide +kernel
theorem dX11_tells_1 : decode cX11_tells 1 = .ok (.getfield 34, 3) := by decide +kernel
theorem dX11_tells_4 : decode cX11_tells 4 = .ok (.bipush 32, 2) := by decide +kernel
theorem dX11_tells_6 : decode cX11_tells 6 = .ok (.iload_n 1, 1) := by decide +kernel
theorem dX11_tells_7 : decode cX11_tells 7 = .ok (.iadd, 1) := by decide +kernel
theorem dX11_tells_8 : decode cX11_tells 8 = .ok (.iload_n 2, 1) := by decide +kernel
theorem dX11_tells_9 : decode cX11_tells 9 = .ok (.iastore, 1) := by decide +kernel
theorem dX11_tells_10 : decode cX11_tells 10 = .ok (.return_, 1) := by decide +kernel
def FX11_tells_0  (x1 : Int) (x2 : Int) (f : Mm) : Option Mm := (if 0 ≤ (w32 (32 + x1)) ∧ (w32 (32 + x1)) < 40 then some (up f 157 (w32 (32 + x1)).toNat x2) else none)
set_option maxHeartbeats 4000000 in
set_option maxRecDepth 100000 in
theorem SX11_tells_0 {G : GT} {l : Launch} {Q : Option AV → Mem → Prop}  (x1 : Int) (x2 : Int) (f : Mm) (h : OkV Q (FX11_tells_0  x1 x2 f)) : Ev G l MX11_tells (Rm 1 0 0) (ZM G Q 0 0) 0 0 0 [some (vR 150), some (vI x1), some (vI x2)] [] (SH, RF, f) := by
  unfold FX11_tells_0 at h
  refine ev_aload_n (i := 0) dX11_tells_0 rfl rfl ?_
  refine ev_getR dX11_tells_1 fl_X11_34 sh_150 (by decide) (by decide) rf_150_17 ?_
  refine ev_bipush (v := 32) dX11_tells_4 (r32c rfl) (by decide) ?_
  refine ev_iload_n (i := 1) dX11_tells_6 rfl rfl ?_
  refine ev_iadd dX11_tells_7 ?_
  refine ev_iload_n (i := 2) dX11_tells_8 rfl rfl ?_
  by_cases g1 : 0 ≤ (w32 (32 + x1)) ∧ (w32 (32 + x1)) < 40
  · rw [if_pos g1] at h
    refine ex_iast (j := (w32 (32 + x1)).toNat) dX11_tells_9 sh_157 g1.1 g1.2 rfl ?_
    exact ev_vret rfl dX11_tells_10 h
  · rw [if_neg g1] at h; exact h.elim
def FX11_tells (x1 : Int) (x2 : Int) (f : Mm) : Option Mm := FX11_tells_0 x1 x2 f
set_option maxRecDepth 100000 in
theorem TX11_tells {G : GT} {l : Launch} {Q : Option AV → Mem → Prop} (x1 : Int) (x2 : Int) (f : Mm) (h : OkV Q (FX11_tells x1 x2 f)) : Ret G l MX11_tells (1) 0 0 [vR 150, vI x1, vI x2] (SH, RF, f) Q := by
  refine ret_of (L := [some (vR 150), some (vI x1), some (vI x2)]) (by decide) rfl (Nat.le_of_ble_eq_true rfl) ?_
  exact SX11_tells_0 x1 x2 f h
theorem dX11_givesHere_34 : decode cX11_givesHere 34 = .ok (.aload_n 0, 1) := by decide +kernel
theorem dX11_givesHere_35 : decode cX11_givesHere 35 = .ok (.iconst 0, 1) := by decide +kernel
theorem dX11_givesHere_36 : decode cX11_givesHere 36 = .ok (.bipush 30, 2) := by decide +kernel
theorem dX11_givesHere_38 : decode cX11_givesHere 38 = .ok (.invokevirtual 173, 3) := by decide +kernel
theorem dX11_givesHere_41 : decode cX11_givesHere 41 = .ok (.istore_n 2, 1) := by decide +kernel
theorem dX11_givesHere_42 : decode cX11_givesHere 42 = .ok (.iload_n 1, 1) := by decide +kernel
theorem dX11_givesHere_43 : decode cX11_givesHere 43 = .ok (.ifCond .eq 8, 3) := by decide +kernel
theorem dX11_givesHere_51 : decode cX11_givesHere 51 = .ok (.iload_n 2, 1) := by decide +kernel
theorem dX11_givesHere_52 : decode cX11_givesHere 52 = .ok (.ireturn, 1) := by decide +kernel
theorem dX11_givesHere_46 : decode cX11_givesHere 46 = .ok (.iload_n 2, 1) := by decide +kernel
theorem dX11_givesHere_47 : decode cX11_givesHere 47 = .ok (.ineg, 1) := by decide +kernel
theorem dX11_givesHere_48 : decode cX11_givesHere 48 = .ok (.goto 4, 3) := by decide +kernel
theorem dX11_givesHere_22 : decode cX11_givesHere 22 = .ok (.istore_n 1, 1) := by decide +kernel
theorem dX11_givesHere_23 : decode cX11_givesHere 23 = .ok (.iload_n 1, 1) := by decide +kernel
theorem dX11_givesHere_24 : decode cX11_givesHere 24 = .ok (.ifCond .ne 10, 3) := by decide +kernel
theorem dX11_givesHere_27 : decode cX11_givesHere 27 = .ok (.aload_n 0, 1) := by decide +kernel
theorem dX11_givesHere_28 : decode cX11_givesHere 28 = .ok (.ldc2_w 182, 3) := by decide +kernel
theorem dX11_givesHere_31 : decode cX11_givesHere 31 = .ok (.invokevirtual 169, 3) := by decide +kernel
theorem dX11_givesHere_21 : decode cX11_givesHere 21 = .ok (.iconst 0, 1) := by decide +kernel
theorem dX11_givesHere_0 : decode cX11_givesHere 0 = .ok (.aload_n 0, 1) := by decide +kernel
theorem dX11_givesHere_1 : decode cX11_givesHere 1 = .ok (.getfield 150, 3) := by decide +kernel
theorem dX11_givesHere_4 : decode cX11_givesHere 4 = .ok (.ifCond .ne 17, 3) := by decide +kernel
theorem dX11_givesHere_7 : decode cX11_givesHere 7 = .ok (.aload_n 0, 1) := by decide +kernel
theorem dX11_givesHere_8 : decode cX11_givesHere 8 = .ok (.ldc2_w 180, 3) := by decide +kernel
theorem dX11_givesHere_11 : decode cX11_givesHere 11 = .ok (.invokevirtual 163, 3) := by decide +kernel
theorem dX11_givesHere_14 : decode cX11_givesHere 14 = .ok (.ifCond .eq 7, 3) := by decide +kernel
theorem dX11_givesHere_17 : decode cX11_givesHere 17 = .ok (.iconst 1, 1) := by decide +kernel
theorem dX11_givesHere_18 : decode cX11_givesHere 18 = .ok (.goto 4, 3) := by decide +kernel
def FX11_givesHere_34  (x1 : Int) (f : Mm) : Option (Int × Mm) := (b2 (FX11_number 0 30 f) fun y1 f1 => (if x1 = 0 then some (y1, f1) else some ((w32 (-y1)), f1)))
set_option maxHeartbeats 4000000 in
set_option maxRecDepth 100000 in
theorem SX11_givesHere_34 {G : GT} {l : Launch} {Q : Option AV → Mem → Prop}  (x1 : Int) (f : Mm) (h : OkI Q (FX11_givesHere_34  x1 f)) : Ev G l MX11_givesHere (Rm 5 0 0) (ZM G Q 0 0) 0 0 34 [some (vR 150), some (vI x1), none] [] (SH, RF, f) := by
  unfold FX11_givesHere_34 at h
  refine ev_aload_n (i := 0) dX11_givesHere_34 rfl rfl ?_
  refine ev_iconst dX11_givesHere_35 (r32c rfl) ?_
  refine ev_bipush (v := 30) dX11_givesHere_36 (r32c rfl) (by decide) ?_
  refine ev_cVI (b := 150) (av := [vI 0, vI 30]) (S := []) (fun q => q) h dX11_givesHere_38 (fun Q' q => TX11_number 0 30 _ q) kvX11_number ml_X11_173 sh_150 rfl (RRc (by decide) (by decide)) (Nat.le_of_ble_eq_true rfl) ⟨Nat.le_of_ble_eq_true rfl, Nat.le_of_ble_eq_true rfl⟩ (fun y1 f1 h => ?_)
  refine ev_istore_n (i := 2) (L' := [some (vR 150), some (vI x1), some (vI y1)]) dX11_givesHere_41 rfl (by decide) rfl ?_
  refine ev_iload_n (i := 1) dX11_givesHere_42 rfl rfl ?_
  refine ev_if_eq (tgt := 51) dX11_givesHere_43 (by decide) (fun c2 => ?_) (fun c2 => ?_)
  · rw [if_pos c2] at h
    refine ev_iload_n (i := 2) dX11_givesHere_51 rfl rfl ?_
    exact ev_iret rfl dX11_givesHere_52 h
  · rw [if_neg c2] at h
    refine ev_iload_n (i := 2) dX11_givesHere_46 rfl rfl ?_
    refine ev_ineg dX11_givesHere_47 ?_
    refine ev_goto (tgt := 52) dX11_givesHere_48 (by decide) ?_
    exact ev_iret rfl dX11_givesHere_52 h
def FX11_givesHere_22  (s0 : Int) (f : Mm) : Option (Int × Mm) := (if s0 = 0 then ((FX11_asks 3913426 f).bind fun f1 => FX11_givesHere_34 s0 f1) else FX11_givesHere_34 s0 f)
set_option maxHeartbeats 4000000 in
set_option maxRecDepth 100000 in
theorem SX11_givesHere_22 {G : GT} {l : Launch} {Q : Option AV → Mem → Prop}  (s0 : Int) (f : Mm) (h : OkI Q (FX11_givesHere_22  s0 f)) : Ev G l MX11_givesHere (Rm 5 0 0) (ZM G Q 0 0) 0 0 22 [some (vR 150), none, none] [vI s0] (SH, RF, f) := by
  unfold FX11_givesHere_22 at h
  refine ev_istore_n (i := 1) (L' := [some (vR 150), some (vI s0), none]) dX11_givesHere_22 rfl (by decide) rfl ?_
  refine ev_iload_n (i := 1) dX11_givesHere_23 rfl rfl ?_
  refine ev_if_ne (tgt := 34) dX11_givesHere_24 (by decide) (fun c2 => ?_) (fun c2 => ?_)
  · rw [if_neg c2] at h
    exact SX11_givesHere_34  s0 _ h
  · rw [if_pos c2] at h
    refine ev_aload_n (i := 0) dX11_givesHere_27 rfl rfl ?_
    refine ev_ldc2 (v := 3913426) dX11_givesHere_28 (r64c rfl) kc_X11_182 ?_
    refine ev_cVV (b := 150) (av := [vJ 3913426]) (S := []) (fun q => q) h dX11_givesHere_31 (fun Q' q => TX11_asks 3913426 _ q) kvX11_asks ml_X11_169 sh_150 rfl (RRc (by decide) (by decide)) (Nat.le_of_ble_eq_true rfl) ⟨Nat.le_of_ble_eq_true rfl, Nat.le_of_ble_eq_true rfl⟩ (fun f1 h => ?_)
    exact SX11_givesHere_34  s0 _ h
def FX11_givesHere_21   (f : Mm) : Option (Int × Mm) := FX11_givesHere_22 0 f
set_option maxHeartbeats 4000000 in
set_option maxRecDepth 100000 in
theorem SX11_givesHere_21 {G : GT} {l : Launch} {Q : Option AV → Mem → Prop}   (f : Mm) (h : OkI Q (FX11_givesHere_21   f)) : Ev G l MX11_givesHere (Rm 5 0 0) (ZM G Q 0 0) 0 0 21 [some (vR 150), none, none] [] (SH, RF, f) := by
  unfold FX11_givesHere_21 at h
  refine ev_iconst dX11_givesHere_21 (r32c rfl) ?_
  exact SX11_givesHere_22  0 _ h
def FX11_givesHere_0   (f : Mm) : Option (Int × Mm) := (if (f 150 12) = 0 then (b2 (FX11_takes 10656676 f) fun y1 f1 => (if y1 = 0 then FX11_givesHere_21 f1 else FX11_givesHere_22 1 f1)) else FX11_givesHere_21 f)
set_option maxHeartbeats 4000000 in
set_option maxRecDepth 100000 in
theorem SX11_givesHere_0 {G : GT} {l : Launch} {Q : Option AV → Mem → Prop}   (f : Mm) (h : OkI Q (FX11_givesHere_0   f)) : Ev G l MX11_givesHere (Rm 5 0 0) (ZM G Q 0 0) 0 0 0 [some (vR 150), none, none] [] (SH, RF, f) := by
  unfold FX11_givesHere_0 at h
  refine ev_aload_n (i := 0) dX11_givesHere_0 rfl rfl ?_
  refine ex_getI (x := (f 150 12)) dX11_givesHere_1 fl_X11_150 sh_150 (by decide) (by decide) rfl ?_
  refine ev_if_ne (tgt := 21) dX11_givesHere_4 (by decide) (fun c3 => ?_) (fun c3 => ?_)
  · rw [if_neg c3] at h
    exact SX11_givesHere_21   _ h
  · rw [if_pos c3] at h
    refine ev_aload_n (i := 0) dX11_givesHere_7 rfl rfl ?_
    refine ev_ldc2 (v := 10656676) dX11_givesHere_8 (r64c rfl) kc_X11_180 ?_
    refine ev_cVI (b := 150) (av := [vJ 10656676]) (S := []) (fun q => q) h dX11_givesHere_11 (fun Q' q => TX11_takes 10656676 _ q) kvX11_takes ml_X11_163 sh_150 rfl (RRc (by decide) (by decide)) (Nat.le_of_ble_eq_true rfl) ⟨Nat.le_of_ble_eq_true rfl, Nat.le_of_ble_eq_true rfl⟩ (fun y1 f1 h => ?_)
    refine ev_if_eq (tgt := 21) dX11_givesHere_14 (by decide) (fun c2 => ?_) (fun c2 => ?_)
    · rw [if_pos c2] at h
      exact SX11_givesHere_21   _ h
    · rw [if_neg c2] at h
      refine ev_iconst dX11_givesHere_17 (r32c rfl) ?_
      refine ev_goto (tgt := 22) dX11_givesHere_18 (by decide) ?_
      exact SX11_givesHere_22  1 _ h
def FX11_givesHere  (f : Mm) : Option (Int × Mm) := FX11_givesHere_0  f
set_option maxRecDepth 100000 in
theorem TX11_givesHere {G : GT} {l : Launch} {Q : Option AV → Mem → Prop}  (f : Mm) (h : OkI Q (FX11_givesHere  f)) : Ret G l MX11_givesHere (5) 0 0 [vR 150] (SH, RF, f) Q := by
  refine ret_of (L := [some (vR 150), none, none]) (by decide) rfl (Nat.le_of_ble_eq_true rfl) ?_
  exact SX11_givesHere_0  f h
theorem dX11_deedLine_0 : decode cX11_deedLine 0 = .ok (.iconst 4, 1) := by decide +kernel
theorem dX11_deedLine_1 : decode cX11_deedLine 1 = .ok (.bipush 16, 2) := by decide +kernel
theorem dX11_deedLine_3 : decode cX11_deedLine 3 = .ok (.aload_n 0, 1) := by decide +kernel
theorem dX11_deedLine_4 : decode cX11_deedLine 4 = .ok (.iconst 5, 1) := by decide +kernel
theorem dX11_deedLine_5 : decode cX11_deedLine 5 = .ok (.invokevirtual 184, 3) := by decide +kernel
theorem dX11_deedLine_8 : decode cX11_deedLine 8 = .ok (.iadd, 1) := by decide +kernel
theorem dX11_deedLine_9 : decode cX11_deedLine 9 = .ok (.imul, 1) := by decide +kernel
theorem dX11_deedLine_10 : decode cX11_deedLine 10 = .ok (.istore_n 1, 1) := by decide +kernel
theorem dX11_deedLine_11 : decode cX11_deedLine 11 = .ok (.aload_n 0, 1) := by decide +kernel
theorem dX11_deedLine_12 : decode cX11_deedLine 12 = .ok (.getfield 37, 3) := by decide +kernel
theorem dX11_deedLine_15 : decode cX11_deedLine 15 = .ok (.iload_n 1, 1) := by decide +kernel
theorem dX11_deedLine_16 : decode cX11_deedLine 16 = .ok (.aload_n 0, 1) := by decide +kernel
theorem dX11_deedLine_17 : decode cX11_deedLine 17 = .ok (.ldc2_w 188, 3) := by decide +kernel
theorem dX11_deedLine_20 : decode cX11_deedLine 20 = .ok (.iconst 0, 1) := by decide +kernel
theorem dX11_deedLine_21 : decode cX11_deedLine 21 = .ok (.iconst 1, 1) := by decide +kernel
theorem dX11_deedLine_22 : decode cX11_deedLine 22 = .ok (.invokevirtual 190, 3) := by decide +kernel
theorem dX11_deedLine_25 : decode cX11_deedLine 25 = .ok (.iastore, 1) := by decide +kernel
theorem dX11_deedLine_26 : decode cX11_deedLine 26 = .ok (.aload_n 0, 1) := by decide +kernel
theorem dX11_deedLine_27 : decode cX11_deedLine 27 = .ok (.getfield 37, 3) := by decide +kernel
theorem dX11_deedLine_30 : decode cX11_deedLine 30 = .ok (.iload_n 1, 1) := by decide +kernel
theorem dX11_deedLine_31 : decode cX11_deedLine 31 = .ok (.iconst 1, 1) := by decide +kernel
theorem dX11_deedLine_32 : decode cX11_deedLine 32 = .ok (.iadd, 1) := by decide +kernel
theorem dX11_deedLine_33 : decode cX11_deedLine 33 = .ok (.aload_n 0, 1) := by decide +kernel
theorem dX11_deedLine_34 : decode cX11_deedLine 34 = .ok (.ldc2_w 193, 3) := by decide +kernel
theorem dX11_deedLine_37 : decode cX11_deedLine 37 = .ok (.iconst 0, 1) := by decide +kernel
theorem dX11_deedLine_38 : decode cX11_deedLine 38 = .ok (.bipush 99, 2) := by decide +kernel
theorem dX11_deedLine_40 : decode cX11_deedLine 40 = .ok (.invokevirtual 190, 3) := by decide +kernel
theorem dX11_deedLine_43 : decode cX11_deedLine 43 = .ok (.iastore, 1) := by decide +kernel
theorem dX11_deedLine_44 : decode cX11_deedLine 44 = .ok (.aload_n 0, 1) := by decide +kernel
theorem dX11_deedLine_45 : decode cX11_deedLine 45 = .ok (.getfield 37, 3) := by decide +kernel
theorem dX11_deedLine_48 : decode cX11_deedLine 48 = .ok (.iload_n 1, 1) := by decide +kernel
theorem dX11_deedLine_49 : decode cX11_deedLine 49 = .ok (.iconst 2, 1) := by decide +kernel
theorem dX11_deedLine_50 : decode cX11_deedLine 50 = .ok (.iadd, 1) := by decide +kernel
theorem dX11_deedLine_51 : decode cX11_deedLine 51 = .ok (.aload_n 0, 1) := by decide +kernel
theorem dX11_deedLine_52 : decode cX11_deedLine 52 = .ok (.invokevirtual 195, 3) := by decide +kernel
theorem dX11_deedLine_55 : decode cX11_deedLine 55 = .ok (.iastore, 1) := by decide +kernel
theorem dX11_deedLine_56 : decode cX11_deedLine 56 = .ok (.aload_n 0, 1) := by decide +kernel
theorem dX11_deedLine_57 : decode cX11_deedLine 57 = .ok (.getfield 37, 3) := by decide +kernel
theorem dX11_deedLine_60 : decode cX11_deedLine 60 = .ok (.iload_n 1, 1) := by decide +kernel
theorem dX11_deedLine_61 : decode cX11_deedLine 61 = .ok (.iconst 3, 1) := by decide +kernel
theorem dX11_deedLine_62 : decode cX11_deedLine 62 = .ok (.iadd, 1) := by decide +kernel
theorem dX11_deedLine_63 : decode cX11_deedLine 63 = .ok (.aload_n 0, 1) := by decide +kernel
theorem dX11_deedLine_64 : decode cX11_deedLine 64 = .ok (.invokevirtual 195, 3) := by decide +kernel
theorem dX11_deedLine_67 : decode cX11_deedLine 67 = .ok (.iastore, 1) := by decide +kernel
theorem dX11_deedLine_68 : decode cX11_deedLine 68 = .ok (.aload_n 0, 1) := by decide +kernel
theorem dX11_deedLine_69 : decode cX11_deedLine 69 = .ok (.iconst 5, 1) := by decide +kernel
theorem dX11_deedLine_70 : decode cX11_deedLine 70 = .ok (.aload_n 0, 1) := by decide +kernel
theorem dX11_deedLine_71 : decode cX11_deedLine 71 = .ok (.iconst 5, 1) := by decide +kernel
theorem dX11_deedLine_72 : decode cX11_deedLine 72 = .ok (.invokevirtual 184, 3) := by decide +kernel
theorem dX11_deedLine_75 : decode cX11_deedLine 75 = .ok (.iconst 1, 1) := by decide +kernel
theorem dX11_deedLine_76 : decode cX11_deedLine 76 = .ok (.iadd, 1) := by decide +kernel
theorem dX11_deedLine_77 : decode cX11_deedLine 77 = .ok (.invokevirtual 199, 3) := by decide +kernel
theorem dX11_deedLine_80 : decode cX11_deedLine 80 = .ok (.return_, 1) := by decide +kernel
def FX11_deedLine_0   (f : Mm) : Option Mm := (b2 (FX11_hasRead 5 f) fun y1 f1 => (b2 (FX11_number_ 79 0 1 f1) fun y2 f2 => (if 0 ≤ (w32 (4 * (w32 (16 + y1)))) ∧ (w32 (4 * (w32 (16 + y1)))) < 80 then (b2 (FX11_number_ 1903978 0 99 (up f2 158 (w32 (4 * (w32 (16 + y1)))).toNat y2)) fun y4 f4 => (if 0 ≤ (w32 ((w32 (4 * (w32 (16 + y1)))) + 1)) ∧ (w32 ((w32 (4 * (w32 (16 + y1)))) + 1)) < 80 then (b2 (FX11_givesHere (up f4 158 (w32 ((w32 (4 * (w32 (16 + y1)))) + 1)).toNat y4)) fun y6 f6 => (if 0 ≤ (w32 ((w32 (4 * (w32 (16 + y1)))) + 2)) ∧ (w32 ((w32 (4 * (w32 (16 + y1)))) + 2)) < 80 then (b2 (FX11_givesHere (up f6 158 (w32 ((w32 (4 * (w32 (16 + y1)))) + 2)).toNat y6)) fun y8 f8 => (if 0 ≤ (w32 ((w32 (4 * (w32 (16 + y1)))) + 3)) ∧ (w32 ((w32 (4 * (w32 (16 + y1)))) + 3)) < 80 then (b2 (FX11_hasRead 5 (up f8 158 (w32 ((w32 (4 * (w32 (16 + y1)))) + 3)).toNat y8)) fun y10 f10 => ((FX11_tells 5 (w32 (y10 + 1)) f10).bind fun f11 => some f11)) else none)) else none)) else none)) else none)))
set_option maxHeartbeats 4000000 in
set_option maxRecDepth 100000 in
theorem SX11_deedLine_0 {G : GT} {l : Launch} {Q : Option AV → Mem → Prop}   (f : Mm) (h : OkV Q (FX11_deedLine_0   f)) : Ev G l MX11_deedLine (Rm 6 0 0) (ZM G Q 0 0) 0 0 0 [some (vR 150), none] [] (SH, RF, f) := by
  unfold FX11_deedLine_0 at h
  refine ev_iconst dX11_deedLine_0 (r32c rfl) ?_
  refine ev_bipush (v := 16) dX11_deedLine_1 (r32c rfl) (by decide) ?_
  refine ev_aload_n (i := 0) dX11_deedLine_3 rfl rfl ?_
  refine ev_iconst dX11_deedLine_4 (r32c rfl) ?_
  refine ev_cVI (b := 150) (av := [vI 5]) (S := [vI 16, vI 4]) (fun q => q) h dX11_deedLine_5 (fun Q' q => TX11_hasRead 5 _ q) kvX11_hasRead ml_X11_184 sh_150 rfl (RRc (by decide) (by decide)) (Nat.le_of_ble_eq_true rfl) ⟨Nat.le_of_ble_eq_true rfl, Nat.le_of_ble_eq_true rfl⟩ (fun y1 f1 h => ?_)
  refine ev_iadd dX11_deedLine_8 ?_
  refine ev_imul dX11_deedLine_9 ?_
  refine ev_istore_n (i := 1) (L' := [some (vR 150), some (vI (w32 (4 * (w32 (16 + y1)))))]) dX11_deedLine_10 rfl (by decide) rfl ?_
  refine ev_aload_n (i := 0) dX11_deedLine_11 rfl rfl ?_
  refine ev_getR dX11_deedLine_12 fl_X11_37 sh_150 (by decide) (by decide) rf_150_18 ?_
  refine ev_iload_n (i := 1) dX11_deedLine_15 rfl rfl ?_
  refine ev_aload_n (i := 0) dX11_deedLine_16 rfl rfl ?_
  refine ev_ldc2 (v := 79) dX11_deedLine_17 (r64c rfl) kc_X11_188 ?_
  refine ev_iconst dX11_deedLine_20 (r32c rfl) ?_
  refine ev_iconst dX11_deedLine_21 (r32c rfl) ?_
  refine ev_cVI (b := 150) (av := [vJ 79, vI 0, vI 1]) (S := [vI (w32 (4 * (w32 (16 + y1)))), vR 158]) (fun q => q) h dX11_deedLine_22 (fun Q' q => TX11_number_ 79 0 1 _ q) kvX11_number_ ml_X11_190 sh_150 rfl (RRc (by decide) (by decide)) (Nat.le_of_ble_eq_true rfl) ⟨Nat.le_of_ble_eq_true rfl, Nat.le_of_ble_eq_true rfl⟩ (fun y2 f2 h => ?_)
  by_cases g3 : 0 ≤ (w32 (4 * (w32 (16 + y1)))) ∧ (w32 (4 * (w32 (16 + y1)))) < 80
  · rw [if_pos g3] at h
    refine ex_iast (j := (w32 (4 * (w32 (16 + y1)))).toNat) dX11_deedLine_25 sh_158 g3.1 g3.2 rfl ?_
    refine ev_aload_n (i := 0) dX11_deedLine_26 rfl rfl ?_
    refine ev_getR dX11_deedLine_27 fl_X11_37 sh_150 (by decide) (by decide) rf_150_18 ?_
    refine ev_iload_n (i := 1) dX11_deedLine_30 rfl rfl ?_
    refine ev_iconst dX11_deedLine_31 (r32c rfl) ?_
    refine ev_iadd dX11_deedLine_32 ?_
    refine ev_aload_n (i := 0) dX11_deedLine_33 rfl rfl ?_
    refine ev_ldc2 (v := 1903978) dX11_deedLine_34 (r64c rfl) kc_X11_193 ?_
    refine ev_iconst dX11_deedLine_37 (r32c rfl) ?_
    refine ev_bipush (v := 99) dX11_deedLine_38 (r32c rfl) (by decide) ?_
    refine ev_cVI (b := 150) (av := [vJ 1903978, vI 0, vI 99]) (S := [vI (w32 ((w32 (4 * (w32 (16 + y1)))) + 1)), vR 158]) (fun q => q) h dX11_deedLine_40 (fun Q' q => TX11_number_ 1903978 0 99 _ q) kvX11_number_ ml_X11_190 sh_150 rfl (RRc (by decide) (by decide)) (Nat.le_of_ble_eq_true rfl) ⟨Nat.le_of_ble_eq_true rfl, Nat.le_of_ble_eq_true rfl⟩ (fun y4 f4 h => ?_)
    by_cases g5 : 0 ≤ (w32 ((w32 (4 * (w32 (16 + y1)))) + 1)) ∧ (w32 ((w32 (4 * (w32 (16 + y1)))) + 1)) < 80
    · rw [if_pos g5] at h
      refine ex_iast (j := (w32 ((w32 (4 * (w32 (16 + y1)))) + 1)).toNat) dX11_deedLine_43 sh_158 g5.1 g5.2 rfl ?_
      refine ev_aload_n (i := 0) dX11_deedLine_44 rfl rfl ?_
      refine ev_getR dX11_deedLine_45 fl_X11_37 sh_150 (by decide) (by decide) rf_150_18 ?_
      refine ev_iload_n (i := 1) dX11_deedLine_48 rfl rfl ?_
      refine ev_iconst dX11_deedLine_49 (r32c rfl) ?_
      refine ev_iadd dX11_deedLine_50 ?_
      refine ev_aload_n (i := 0) dX11_deedLine_51 rfl rfl ?_
      refine ev_cVI (b := 150) (av := []) (S := [vI (w32 ((w32 (4 * (w32 (16 + y1)))) + 2)), vR 158]) (fun q => q) h dX11_deedLine_52 (fun Q' q => TX11_givesHere _ q) kvX11_givesHere ml_X11_195 sh_150 rfl (RRc (by decide) (by decide)) (Nat.le_of_ble_eq_true rfl) ⟨Nat.le_of_ble_eq_true rfl, Nat.le_of_ble_eq_true rfl⟩ (fun y6 f6 h => ?_)
      by_cases g7 : 0 ≤ (w32 ((w32 (4 * (w32 (16 + y1)))) + 2)) ∧ (w32 ((w32 (4 * (w32 (16 + y1)))) + 2)) < 80
      · rw [if_pos g7] at h
        refine ex_iast (j := (w32 ((w32 (4 * (w32 (16 + y1)))) + 2)).toNat) dX11_deedLine_55 sh_158 g7.1 g7.2 rfl ?_
        refine ev_aload_n (i := 0) dX11_deedLine_56 rfl rfl ?_
        refine ev_getR dX11_deedLine_57 fl_X11_37 sh_150 (by decide) (by decide) rf_150_18 ?_
        refine ev_iload_n (i := 1) dX11_deedLine_60 rfl rfl ?_
        refine ev_iconst dX11_deedLine_61 (r32c rfl) ?_
        refine ev_iadd dX11_deedLine_62 ?_
        refine ev_aload_n (i := 0) dX11_deedLine_63 rfl rfl ?_
        refine ev_cVI (b := 150) (av := []) (S := [vI (w32 ((w32 (4 * (w32 (16 + y1)))) + 3)), vR 158]) (fun q => q) h dX11_deedLine_64 (fun Q' q => TX11_givesHere _ q) kvX11_givesHere ml_X11_195 sh_150 rfl (RRc (by decide) (by decide)) (Nat.le_of_ble_eq_true rfl) ⟨Nat.le_of_ble_eq_true rfl, Nat.le_of_ble_eq_true rfl⟩ (fun y8 f8 h => ?_)
        by_cases g9 : 0 ≤ (w32 ((w32 (4 * (w32 (16 + y1)))) + 3)) ∧ (w32 ((w32 (4 * (w32 (16 + y1)))) + 3)) < 80
        · rw [if_pos g9] at h
          refine ex_iast (j := (w32 ((w32 (4 * (w32 (16 + y1)))) + 3)).toNat) dX11_deedLine_67 sh_158 g9.1 g9.2 rfl ?_
          refine ev_aload_n (i := 0) dX11_deedLine_68 rfl rfl ?_
          refine ev_iconst dX11_deedLine_69 (r32c rfl) ?_
          refine ev_aload_n (i := 0) dX11_deedLine_70 rfl rfl ?_
          refine ev_iconst dX11_deedLine_71 (r32c rfl) ?_
          refine ev_cVI (b := 150) (av := [vI 5]) (S := [vI 5, vR 150]) (fun q => q) h dX11_deedLine_72 (fun Q' q => TX11_hasRead 5 _ q) kvX11_hasRead ml_X11_184 sh_150 rfl (RRc (by decide) (by decide)) (Nat.le_of_ble_eq_true rfl) ⟨Nat.le_of_ble_eq_true rfl, Nat.le_of_ble_eq_true rfl⟩ (fun y10 f10 h => ?_)
          refine ev_iconst dX11_deedLine_75 (r32c rfl) ?_
          refine ev_iadd dX11_deedLine_76 ?_
          refine ev_cVV (b := 150) (av := [vI 5, vI (w32 (y10 + 1))]) (S := []) (fun q => q) h dX11_deedLine_77 (fun Q' q => TX11_tells 5 (w32 (y10 + 1)) _ q) kvX11_tells ml_X11_199 sh_150 rfl (RRc (by decide) (by decide)) (Nat.le_of_ble_eq_true rfl) ⟨Nat.le_of_ble_eq_true rfl, Nat.le_of_ble_eq_true rfl⟩ (fun f11 h => ?_)
          exact ev_vret rfl dX11_deedLine_80 h
        · rw [if_neg g9] at h; exact h.elim
      · rw [if_neg g7] at h; exact h.elim
    · rw [if_neg g5] at h; exact h.elim
  · rw [if_neg g3] at h; exact h.elim
def FX11_deedLine  (f : Mm) : Option Mm := FX11_deedLine_0  f
set_option maxRecDepth 100000 in
theorem TX11_deedLine {G : GT} {l : Launch} {Q : Option AV → Mem → Prop}  (f : Mm) (h : OkV Q (FX11_deedLine  f)) : Ret G l MX11_deedLine (6) 0 0 [vR 150] (SH, RF, f) Q := by
  refine ret_of (L := [some (vR 150), none]) (by decide) rfl (Nat.le_of_ble_eq_true rfl) ?_
  exact SX11_deedLine_0  f h

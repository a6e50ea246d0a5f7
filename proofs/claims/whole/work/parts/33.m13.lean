theorem dX10_image_0 : decode cX10_image 0 = .ok (.iload_n 1, 1) := by decide +kernel
theorem dX10_image_1 : decode cX10_image 1 = .ok (.ifCond .lt 8, 3) := by decide +kernel
theorem dX10_image_9 : decode cX10_image 9 = .ok (.bipush (-2), 2) := by decide +kernel
theorem dX10_image_11 : decode cX10_image 11 = .ok (.ireturn, 1) := by decide +kernel
theorem dX10_image_4 : decode cX10_image 4 = .ok (.iload_n 1, 1) := by decide +kernel
theorem dX10_image_5 : decode cX10_image 5 = .ok (.iconst 3, 1) := by decide +kernel
theorem dX10_image_6 : decode cX10_image 6 = .ok (.if_icmp .lt 6, 3) := by decide +kernel
theorem dX10_image_12 : decode cX10_image 12 = .ok (.aload_n 0, 1) := by decide +kernel
theorem dX10_image_13 : decode cX10_image 13 = .ok (.getfield 26, 3) := by decide +kernel
theorem dX10_image_16 : decode cX10_image 16 = .ok (.iload_n 1, 1) := by decide +kernel
theorem dX10_image_17 : decode cX10_image 17 = .ok (.aaload, 1) := by decide +kernel
theorem dX10_image_18 : decode cX10_image 18 = .ok (.aload_n 0, 1) := by decide +kernel
theorem dX10_image_19 : decode cX10_image 19 = .ok (.getfield 19, 3) := by decide +kernel
theorem dX10_image_22 : decode cX10_image 22 = .ok (.invokevirtual 97, 3) := by decide +kernel
theorem dX10_image_25 : decode cX10_image 25 = .ok (.aload_n 0, 1) := by decide +kernel
theorem dX10_image_26 : decode cX10_image 26 = .ok (.getfield 30, 3) := by decide +kernel
theorem dX10_image_29 : decode cX10_image 29 = .ok (.iload_n 1, 1) := by decide +kernel
theorem dX10_image_30 : decode cX10_image 30 = .ok (.iconst 1, 1) := by decide +kernel
theorem dX10_image_31 : decode cX10_image 31 = .ok (.bastore, 1) := by decide +kernel
theorem dX10_image_32 : decode cX10_image 32 = .ok (.iconst 0, 1) := by decide +kernel
theorem dX10_image_33 : decode cX10_image 33 = .ok (.ireturn, 1) := by decide +kernel
def FX10_image_0  (x1 : Int) (f : Mm) : Option (Int × Mm) := (if x1 < 0 then some ((-2), f) else (if x1 < 3 then (if x1 = 0 then ((FX0_become_99_4 f).bind fun f2 => (if 0 ≤ x1 ∧ x1 < 3 then some (0, (up f2 39 x1.toNat 1)) else none)) else (if x1 = 1 then ((FX0_become_116_4 f).bind fun f5 => (if 0 ≤ x1 ∧ x1 < 3 then some (0, (up f5 39 x1.toNat 1)) else none)) else (if x1 = 2 then ((FX0_become_133_4 f).bind fun f8 => (if 0 ≤ x1 ∧ x1 < 3 then some (0, (up f8 39 x1.toNat 1)) else none)) else none))) else some ((-2), f)))
set_option maxHeartbeats 4000000 in
set_option maxRecDepth 100000 in
theorem SX10_image_0 {G : GT} {l : Launch} {Q : Option AV → Mem → Prop}  (x1 : Int) (f : Mm) (h : OkI Q (FX10_image_0  x1 f)) : Ev G l MX10_image (Rm 3 0 0) (ZM G Q 0 0) 0 0 0 [some (vR 0), some (vI x1)] [] (SH, RF, f) := by
  unfold FX10_image_0 at h
  refine ev_iload_n (i := 1) dX10_image_0 rfl rfl ?_
  refine ev_if_lt (tgt := 9) dX10_image_1 (by decide) (fun c11 => ?_) (fun c11 => ?_)
  · rw [if_pos c11] at h
    refine ev_bipush (v := (-2)) dX10_image_9 (r32c rfl) (by decide) ?_
    exact ev_iret rfl dX10_image_11 h
  · rw [if_neg c11] at h
    refine ev_iload_n (i := 1) dX10_image_4 rfl rfl ?_
    refine ev_iconst dX10_image_5 (r32c rfl) ?_
    refine ev_icmp_lt (tgt := 12) dX10_image_6 (by decide) (fun c10 => ?_) (fun c10 => ?_)
    · rw [if_pos c10] at h
      refine ev_aload_n (i := 0) dX10_image_12 rfl rfl ?_
      refine ev_getR dX10_image_13 fl_X10_26 sh_0 (by decide) (by decide) rf_0_3 ?_
      refine ev_iload_n (i := 1) dX10_image_16 rfl rfl ?_
      by_cases c1 : x1 = 0
      · rw [if_pos c1] at h
        refine ev_aald (b := 99) dX10_image_17 (Or.inr (Or.inr rfl)) sh_38 (by omega) (by omega) (by rw [c1]; exact rf_38_0) ?_
        refine ev_aload_n (i := 0) dX10_image_18 rfl rfl ?_
        refine ev_getR dX10_image_19 fl_X10_19 sh_0 (by decide) (by decide) rf_0_1 ?_
        refine ev_cVV (b := 99) (av := [vR 4]) (S := []) (fun q => q) h dX10_image_22 (fun Q' q => TX0_become_99_4 _ q) kvX0_become ml_X10_97 sh_99 rfl (RRc (by decide) (by decide)) (Nat.le_of_ble_eq_true rfl) ⟨Nat.le_of_ble_eq_true rfl, Nat.le_of_ble_eq_true rfl⟩ (fun f2 h => ?_)
        refine ev_aload_n (i := 0) dX10_image_25 rfl rfl ?_
        refine ev_getR dX10_image_26 fl_X10_30 sh_0 (by decide) (by decide) rf_0_4 ?_
        refine ev_iload_n (i := 1) dX10_image_29 rfl rfl ?_
        refine ev_iconst dX10_image_30 (r32c rfl) ?_
        by_cases g3 : 0 ≤ x1 ∧ x1 < 3
        · rw [if_pos g3] at h
          refine ex_zast (j := x1.toNat) dX10_image_31 sh_39 g3.1 g3.2 (by decide) rfl ?_
          refine ev_iconst dX10_image_32 (r32c rfl) ?_
          exact ev_iret rfl dX10_image_33 h
        · rw [if_neg g3] at h; exact h.elim
      · rw [if_neg c1] at h
        by_cases c4 : x1 = 1
        · rw [if_pos c4] at h
          refine ev_aald (b := 116) dX10_image_17 (Or.inr (Or.inr rfl)) sh_38 (by omega) (by omega) (by rw [c4]; exact rf_38_1) ?_
          refine ev_aload_n (i := 0) dX10_image_18 rfl rfl ?_
          refine ev_getR dX10_image_19 fl_X10_19 sh_0 (by decide) (by decide) rf_0_1 ?_
          refine ev_cVV (b := 116) (av := [vR 4]) (S := []) (fun q => q) h dX10_image_22 (fun Q' q => TX0_become_116_4 _ q) kvX0_become ml_X10_97 sh_116 rfl (RRc (by decide) (by decide)) (Nat.le_of_ble_eq_true rfl) ⟨Nat.le_of_ble_eq_true rfl, Nat.le_of_ble_eq_true rfl⟩ (fun f5 h => ?_)
          refine ev_aload_n (i := 0) dX10_image_25 rfl rfl ?_
          refine ev_getR dX10_image_26 fl_X10_30 sh_0 (by decide) (by decide) rf_0_4 ?_
          refine ev_iload_n (i := 1) dX10_image_29 rfl rfl ?_
          refine ev_iconst dX10_image_30 (r32c rfl) ?_
          by_cases g6 : 0 ≤ x1 ∧ x1 < 3
          · rw [if_pos g6] at h
            refine ex_zast (j := x1.toNat) dX10_image_31 sh_39 g6.1 g6.2 (by decide) rfl ?_
            refine ev_iconst dX10_image_32 (r32c rfl) ?_
            exact ev_iret rfl dX10_image_33 h
          · rw [if_neg g6] at h; exact h.elim
        · rw [if_neg c4] at h
          by_cases c7 : x1 = 2
          · rw [if_pos c7] at h
            refine ev_aald (b := 133) dX10_image_17 (Or.inr (Or.inr rfl)) sh_38 (by omega) (by omega) (by rw [c7]; exact rf_38_2) ?_
            refine ev_aload_n (i := 0) dX10_image_18 rfl rfl ?_
            refine ev_getR dX10_image_19 fl_X10_19 sh_0 (by decide) (by decide) rf_0_1 ?_
            refine ev_cVV (b := 133) (av := [vR 4]) (S := []) (fun q => q) h dX10_image_22 (fun Q' q => TX0_become_133_4 _ q) kvX0_become ml_X10_97 sh_133 rfl (RRc (by decide) (by decide)) (Nat.le_of_ble_eq_true rfl) ⟨Nat.le_of_ble_eq_true rfl, Nat.le_of_ble_eq_true rfl⟩ (fun f8 h => ?_)
            refine ev_aload_n (i := 0) dX10_image_25 rfl rfl ?_
            refine ev_getR dX10_image_26 fl_X10_30 sh_0 (by decide) (by decide) rf_0_4 ?_
            refine ev_iload_n (i := 1) dX10_image_29 rfl rfl ?_
            refine ev_iconst dX10_image_30 (r32c rfl) ?_
            by_cases g9 : 0 ≤ x1 ∧ x1 < 3
            · rw [if_pos g9] at h
              refine ex_zast (j := x1.toNat) dX10_image_31 sh_39 g9.1 g9.2 (by decide) rfl ?_
              refine ev_iconst dX10_image_32 (r32c rfl) ?_
              exact ev_iret rfl dX10_image_33 h
            · rw [if_neg g9] at h; exact h.elim
          · rw [if_neg c7] at h
            exact h.elim
    · rw [if_neg c10] at h
      refine ev_bipush (v := (-2)) dX10_image_9 (r32c rfl) (by decide) ?_
      exact ev_iret rfl dX10_image_11 h
def FX10_image (x1 : Int) (f : Mm) : Option (Int × Mm) := FX10_image_0 x1 f
theorem TX10_image {G : GT} {l : Launch} {Q : Option AV → Mem → Prop} (x1 : Int) (f : Mm) (h : OkI Q (FX10_image x1 f)) : Ret G l MX10_image (3) 0 0 [vR 0, vI x1] (SH, RF, f) Q := by
  refine ret_of (L := [some (vR 0), some (vI x1)]) (by decide) rfl (Nat.le_of_ble_eq_true rfl) ?_
  exact SX10_image_0 x1 f h
def FX0_become_4_99_124   (f : Mm) : Option Mm := ((FX0_copyRow 113 18 f).bind fun f1 => ((FX0_copyRow 114 19 f1).bind fun f2 => ((FX0_copyRow 115 20 f2).bind fun f3 => some f3)))
set_option maxHeartbeats 4000000 in
set_option maxRecDepth 100000 in
theorem SX0_become_4_99_124 {G : GT} {l : Launch} {Q : Option AV → Mem → Prop}   (f : Mm) (h : OkV Q (FX0_become_4_99_124   f)) : Ev G l MX0_become (Rm 2 0 0) (ZM G Q 0 0) 0 0 124 [some (vR 4), some (vR 99), none] [] (SH, RF, f) := by
  unfold FX0_become_4_99_124 at h
  refine ev_aload_n (i := 1) dX0_become_124 rfl rfl ?_
  refine ev_getR dX0_become_125 fl_X0_23 sh_99 (by decide) (by decide) rf_99_10 ?_
  refine ev_aload_n (i := 0) dX0_become_128 rfl rfl ?_
  refine ev_getR dX0_become_129 fl_X0_23 sh_4 (by decide) (by decide) rf_4_10 ?_
  refine ev_cSV (av := [vR 113, vR 18]) (S := []) (fun q => q) h dX0_become_132 (fun Q' q => TX0_copyRow 113 18 _ q) ksX0_copyRow ml_X0_57 rfl (RRc (by decide) (by decide)) (Nat.le_of_ble_eq_true rfl) ⟨Nat.le_of_ble_eq_true rfl, Nat.le_of_ble_eq_true rfl⟩ (fun f1 h => ?_)
  refine ev_aload_n (i := 1) dX0_become_135 rfl rfl ?_
  refine ev_getR dX0_become_136 fl_X0_26 sh_99 (by decide) (by decide) rf_99_11 ?_
  refine ev_aload_n (i := 0) dX0_become_139 rfl rfl ?_
  refine ev_getR dX0_become_140 fl_X0_26 sh_4 (by decide) (by decide) rf_4_11 ?_
  refine ev_cSV (av := [vR 114, vR 19]) (S := []) (fun q => q) h dX0_become_143 (fun Q' q => TX0_copyRow 114 19 _ q) ksX0_copyRow ml_X0_57 rfl (RRc (by decide) (by decide)) (Nat.le_of_ble_eq_true rfl) ⟨Nat.le_of_ble_eq_true rfl, Nat.le_of_ble_eq_true rfl⟩ (fun f2 h => ?_)
  refine ev_aload_n (i := 1) dX0_become_146 rfl rfl ?_
  refine ev_getR dX0_become_147 fl_X0_29 sh_99 (by decide) (by decide) rf_99_12 ?_
  refine ev_aload_n (i := 0) dX0_become_150 rfl rfl ?_
  refine ev_getR dX0_become_151 fl_X0_29 sh_4 (by decide) (by decide) rf_4_12 ?_
  refine ev_cSV (av := [vR 115, vR 20]) (S := []) (fun q => q) h dX0_become_154 (fun Q' q => TX0_copyRow 115 20 _ q) ksX0_copyRow ml_X0_57 rfl (RRc (by decide) (by decide)) (Nat.le_of_ble_eq_true rfl) ⟨Nat.le_of_ble_eq_true rfl, Nat.le_of_ble_eq_true rfl⟩ (fun f3 h => ?_)
  exact ev_vret rfl dX0_become_157 h
def FX0_become_4_99_97  : Nat → Int → Mm → Option Mm
  | 0, _, _ => none
  | n + 1, x2, f => (if 6 ≤ x2 then FX0_become_4_99_124 f else (if 0 ≤ x2 ∧ x2 < 6 then (if 0 ≤ x2 ∧ x2 < 6 then ((FX0_copyRow (107 + x2.toNat) (12 + x2.toNat) f).bind fun f3 => FX0_become_4_99_97 n (w32 (x2 + 1)) f3) else none) else none))
set_option maxHeartbeats 4000000 in
set_option maxRecDepth 100000 in
theorem SX0_become_4_99_97 {G : GT} {l : Launch} {Q : Option AV → Mem → Prop}  : ∀ (n : Nat) (x2 : Int) (f : Mm), OkV Q (FX0_become_4_99_97  n x2 f) → Ev G l MX0_become (Rm 2 0 0) (ZM G Q 0 0) 0 0 97 [some (vR 4), some (vR 99), some (vI x2)] [] (SH, RF, f) := by
  intro n
  induction n with
  | zero => intro x2 f h; exact absurd h (by rw [FX0_become_4_99_97]; exact fun q => q)
  | succ n ih =>
    intro x2 f h
    rw [FX0_become_4_99_97] at h
    refine ev_iload_n (i := 2) dX0_become_97 rfl rfl ?_
    refine ev_bipush (v := 6) dX0_become_98 (r32c rfl) (by decide) ?_
    refine ev_icmp_ge (tgt := 124) dX0_become_100 (by decide) (fun c4 => ?_) (fun c4 => ?_)
    · rw [if_pos c4] at h
      refine ev_fg [true, true, false] rfl ?_
      exact SX0_become_4_99_124   _ h
    · rw [if_neg c4] at h
      refine ev_aload_n (i := 1) dX0_become_103 rfl rfl ?_
      refine ev_getR dX0_become_104 fl_X0_20 sh_99 (by decide) (by decide) rf_99_9 ?_
      refine ev_iload_n (i := 2) dX0_become_107 rfl rfl ?_
      by_cases g1 : 0 ≤ x2 ∧ x2 < 6
      · rw [if_pos g1] at h
        refine ev_aald (b := (107 + x2.toNat)) dX0_become_108 (Or.inl rfl) sh_106 g1.1 g1.2 (rfr_106 g1) ?_
        refine ev_aload_n (i := 0) dX0_become_109 rfl rfl ?_
        refine ev_getR dX0_become_110 fl_X0_20 sh_4 (by decide) (by decide) rf_4_9 ?_
        refine ev_iload_n (i := 2) dX0_become_113 rfl rfl ?_
        by_cases g2 : 0 ≤ x2 ∧ x2 < 6
        · rw [if_pos g2] at h
          refine ev_aald (b := (12 + x2.toNat)) dX0_become_114 (Or.inl rfl) sh_11 g2.1 g2.2 (rfr_11 g2) ?_
          refine ev_cSV (av := [vR (107 + x2.toNat), vR (12 + x2.toNat)]) (S := []) (fun q => q) h dX0_become_115 (fun Q' q => TX0_copyRow (107 + x2.toNat) (12 + x2.toNat) _ q) ksX0_copyRow ml_X0_57 rfl (RRc (by decide) (by decide)) (Nat.le_of_ble_eq_true rfl) ⟨Nat.le_of_ble_eq_true rfl, Nat.le_of_ble_eq_true rfl⟩ (fun f3 h => ?_)
          refine ev_iinc (L' := [some (vR 4), some (vR 99), some (vI (w32 (x2 + 1)))]) dX0_become_118 rfl (by decide) rfl ?_
          refine ev_goto (tgt := 97) dX0_become_121 (by decide) ?_
          exact ih (w32 (x2 + 1)) _ h
        · rw [if_neg g2] at h; exact h.elim
      · rw [if_neg g1] at h; exact h.elim
def FX0_become_4_99_95   (f : Mm) : Option Mm := FX0_become_4_99_97 fu 0 f
set_option maxHeartbeats 4000000 in
set_option maxRecDepth 100000 in
theorem SX0_become_4_99_95 {G : GT} {l : Launch} {Q : Option AV → Mem → Prop}   (f : Mm) (h : OkV Q (FX0_become_4_99_95   f)) : Ev G l MX0_become (Rm 2 0 0) (ZM G Q 0 0) 0 0 95 [some (vR 4), some (vR 99), none] [] (SH, RF, f) := by
  unfold FX0_become_4_99_95 at h
  refine ev_iconst dX0_become_95 (r32c rfl) ?_
  refine ev_istore_n (i := 2) (L' := [some (vR 4), some (vR 99), some (vI 0)]) dX0_become_96 rfl (by decide) rfl ?_
  exact SX0_become_4_99_97  fu 0 _ h
def FX0_become_4_99_69  : Nat → Int → Mm → Option Mm
  | 0, _, _ => none
  | n + 1, x2, f => (if 4 ≤ x2 then FX0_become_4_99_95 f else (if 0 ≤ x2 ∧ x2 < 4 then (if 0 ≤ x2 ∧ x2 < 4 then ((FX0_copyRow (102 + x2.toNat) (7 + x2.toNat) f).bind fun f3 => FX0_become_4_99_69 n (w32 (x2 + 1)) f3) else none) else none))
set_option maxHeartbeats 4000000 in
set_option maxRecDepth 100000 in
theorem SX0_become_4_99_69 {G : GT} {l : Launch} {Q : Option AV → Mem → Prop}  : ∀ (n : Nat) (x2 : Int) (f : Mm), OkV Q (FX0_become_4_99_69  n x2 f) → Ev G l MX0_become (Rm 2 0 0) (ZM G Q 0 0) 0 0 69 [some (vR 4), some (vR 99), some (vI x2)] [] (SH, RF, f) := by
  intro n
  induction n with
  | zero => intro x2 f h; exact absurd h (by rw [FX0_become_4_99_69]; exact fun q => q)
  | succ n ih =>
    intro x2 f h
    rw [FX0_become_4_99_69] at h
    refine ev_iload_n (i := 2) dX0_become_69 rfl rfl ?_
    refine ev_iconst dX0_become_70 (r32c rfl) ?_
    refine ev_icmp_ge (tgt := 95) dX0_become_71 (by decide) (fun c4 => ?_) (fun c4 => ?_)
    · rw [if_pos c4] at h
      refine ev_fg [true, true, false] rfl ?_
      exact SX0_become_4_99_95   _ h
    · rw [if_neg c4] at h
      refine ev_aload_n (i := 1) dX0_become_74 rfl rfl ?_
      refine ev_getR dX0_become_75 fl_X0_17 sh_99 (by decide) (by decide) rf_99_8 ?_
      refine ev_iload_n (i := 2) dX0_become_78 rfl rfl ?_
      by_cases g1 : 0 ≤ x2 ∧ x2 < 4
      · rw [if_pos g1] at h
        refine ev_aald (b := (102 + x2.toNat)) dX0_become_79 (Or.inl rfl) sh_101 g1.1 g1.2 (rfr_101 g1) ?_
        refine ev_aload_n (i := 0) dX0_become_80 rfl rfl ?_
        refine ev_getR dX0_become_81 fl_X0_17 sh_4 (by decide) (by decide) rf_4_8 ?_
        refine ev_iload_n (i := 2) dX0_become_84 rfl rfl ?_
        by_cases g2 : 0 ≤ x2 ∧ x2 < 4
        · rw [if_pos g2] at h
          refine ev_aald (b := (7 + x2.toNat)) dX0_become_85 (Or.inl rfl) sh_6 g2.1 g2.2 (rfr_6 g2) ?_
          refine ev_cSV (av := [vR (102 + x2.toNat), vR (7 + x2.toNat)]) (S := []) (fun q => q) h dX0_become_86 (fun Q' q => TX0_copyRow (102 + x2.toNat) (7 + x2.toNat) _ q) ksX0_copyRow ml_X0_57 rfl (RRc (by decide) (by decide)) (Nat.le_of_ble_eq_true rfl) ⟨Nat.le_of_ble_eq_true rfl, Nat.le_of_ble_eq_true rfl⟩ (fun f3 h => ?_)
          refine ev_iinc (L' := [some (vR 4), some (vR 99), some (vI (w32 (x2 + 1)))]) dX0_become_89 rfl (by decide) rfl ?_
          refine ev_goto (tgt := 69) dX0_become_92 (by decide) ?_
          exact ih (w32 (x2 + 1)) _ h
        · rw [if_neg g2] at h; exact h.elim
      · rw [if_neg g1] at h; exact h.elim
def FX0_become_4_99_0   (f : Mm) : Option Mm := ((FX0_copyRow 100 5 (up (up (up (up (up (up (up f 4 0 (f 99 0)) 4 1 (f 99 1)) 4 2 (f 99 2)) 4 3 (f 99 3)) 4 4 (f 99 4)) 4 5 (f 99 5)) 4 6 (f 99 6))).bind fun f1 => FX0_become_4_99_69 fu 0 f1)
set_option maxHeartbeats 4000000 in
set_option maxRecDepth 100000 in
theorem SX0_become_4_99_0 {G : GT} {l : Launch} {Q : Option AV → Mem → Prop}   (f : Mm) (h : OkV Q (FX0_become_4_99_0   f)) : Ev G l MX0_become (Rm 2 0 0) (ZM G Q 0 0) 0 0 0 [some (vR 4), some (vR 99), none] [] (SH, RF, f) := by
  unfold FX0_become_4_99_0 at h
  refine ev_aload_n (i := 0) dX0_become_0 rfl rfl ?_
  refine ev_aload_n (i := 1) dX0_become_1 rfl rfl ?_
  refine ex_getI (x := (f 99 0)) dX0_become_2 fl_X0_32 sh_99 (by decide) (by decide) rfl ?_
  refine ev_putI dX0_become_5 fl_X0_32 sh_4 (by decide) (by decide) ?_
  refine ev_aload_n (i := 0) dX0_become_8 rfl rfl ?_
  refine ev_aload_n (i := 1) dX0_become_9 rfl rfl ?_
  refine ex_getI (x := (f 99 1)) dX0_become_10 fl_X0_36 sh_99 (by decide) (by decide) rfl ?_
  refine ev_putI dX0_become_13 fl_X0_36 sh_4 (by decide) (by decide) ?_
  refine ev_aload_n (i := 0) dX0_become_16 rfl rfl ?_
  refine ev_aload_n (i := 1) dX0_become_17 rfl rfl ?_
  refine ex_getI (x := (f 99 2)) dX0_become_18 fl_X0_39 sh_99 (by decide) (by decide) rfl ?_
  refine ev_putI dX0_become_21 fl_X0_39 sh_4 (by decide) (by decide) ?_
  refine ev_aload_n (i := 0) dX0_become_24 rfl rfl ?_
  refine ev_aload_n (i := 1) dX0_become_25 rfl rfl ?_
  refine ex_getI (x := (f 99 3)) dX0_become_26 fl_X0_42 sh_99 (by decide) (by decide) rfl ?_
  refine ev_putI dX0_become_29 fl_X0_42 sh_4 (by decide) (by decide) ?_
  refine ev_aload_n (i := 0) dX0_become_32 rfl rfl ?_
  refine ev_aload_n (i := 1) dX0_become_33 rfl rfl ?_
  refine ex_getI (x := (f 99 4)) dX0_become_34 fl_X0_45 sh_99 (by decide) (by decide) rfl ?_
  refine ev_putI dX0_become_37 fl_X0_45 sh_4 (by decide) (by decide) ?_
  refine ev_aload_n (i := 0) dX0_become_40 rfl rfl ?_
  refine ev_aload_n (i := 1) dX0_become_41 rfl rfl ?_
  refine ex_getI (x := (f 99 5)) dX0_become_42 fl_X0_48 sh_99 (by decide) (by decide) rfl ?_
  refine ev_putI dX0_become_45 fl_X0_48 sh_4 (by decide) (by decide) ?_
  refine ev_aload_n (i := 0) dX0_become_48 rfl rfl ?_
  refine ev_aload_n (i := 1) dX0_become_49 rfl rfl ?_
  refine ex_getI (x := (f 99 6)) dX0_become_50 fl_X0_54 sh_99 (by decide) (by decide) rfl ?_
  refine ev_putI dX0_become_53 fl_X0_54 sh_4 (by decide) (by decide) ?_
  refine ev_aload_n (i := 1) dX0_become_56 rfl rfl ?_
  refine ev_getR dX0_become_57 fl_X0_9 sh_99 (by decide) (by decide) rf_99_7 ?_
  refine ev_aload_n (i := 0) dX0_become_60 rfl rfl ?_
  refine ev_getR dX0_become_61 fl_X0_9 sh_4 (by decide) (by decide) rf_4_7 ?_
  refine ev_cSV (av := [vR 100, vR 5]) (S := []) (fun q => q) h dX0_become_64 (fun Q' q => TX0_copyRow 100 5 _ q) ksX0_copyRow ml_X0_57 rfl (RRc (by decide) (by decide)) (Nat.le_of_ble_eq_true rfl) ⟨Nat.le_of_ble_eq_true rfl, Nat.le_of_ble_eq_true rfl⟩ (fun f1 h => ?_)
  refine ev_iconst dX0_become_67 (r32c rfl) ?_
  refine ev_istore_n (i := 2) (L' := [some (vR 4), some (vR 99), some (vI 0)]) dX0_become_68 rfl (by decide) rfl ?_
  exact SX0_become_4_99_69  fu 0 _ h
def FX0_become_4_99  (f : Mm) : Option Mm := FX0_become_4_99_0  f
theorem TX0_become_4_99 {G : GT} {l : Launch} {Q : Option AV → Mem → Prop}  (f : Mm) (h : OkV Q (FX0_become_4_99  f)) : Ret G l MX0_become (2) 0 0 [vR 4, vR 99] (SH, RF, f) Q := by
  refine ret_of (L := [some (vR 4), some (vR 99), none]) (by decide) rfl (Nat.le_of_ble_eq_true rfl) ?_
  exact SX0_become_4_99_0  f h
def FX0_become_4_116_124   (f : Mm) : Option Mm := ((FX0_copyRow 130 18 f).bind fun f1 => ((FX0_copyRow 131 19 f1).bind fun f2 => ((FX0_copyRow 132 20 f2).bind fun f3 => some f3)))
set_option maxHeartbeats 4000000 in
set_option maxRecDepth 100000 in
theorem SX0_become_4_116_124 {G : GT} {l : Launch} {Q : Option AV → Mem → Prop}   (f : Mm) (h : OkV Q (FX0_become_4_116_124   f)) : Ev G l MX0_become (Rm 2 0 0) (ZM G Q 0 0) 0 0 124 [some (vR 4), some (vR 116), none] [] (SH, RF, f) := by
  unfold FX0_become_4_116_124 at h
  refine ev_aload_n (i := 1) dX0_become_124 rfl rfl ?_
  refine ev_getR dX0_become_125 fl_X0_23 sh_116 (by decide) (by decide) rf_116_10 ?_
  refine ev_aload_n (i := 0) dX0_become_128 rfl rfl ?_
  refine ev_getR dX0_become_129 fl_X0_23 sh_4 (by decide) (by decide) rf_4_10 ?_
  refine ev_cSV (av := [vR 130, vR 18]) (S := []) (fun q => q) h dX0_become_132 (fun Q' q => TX0_copyRow 130 18 _ q) ksX0_copyRow ml_X0_57 rfl (RRc (by decide) (by decide)) (Nat.le_of_ble_eq_true rfl) ⟨Nat.le_of_ble_eq_true rfl, Nat.le_of_ble_eq_true rfl⟩ (fun f1 h => ?_)
  refine ev_aload_n (i := 1) dX0_become_135 rfl rfl ?_
  refine ev_getR dX0_become_136 fl_X0_26 sh_116 (by decide) (by decide) rf_116_11 ?_
  refine ev_aload_n (i := 0) dX0_become_139 rfl rfl ?_
  refine ev_getR dX0_become_140 fl_X0_26 sh_4 (by decide) (by decide) rf_4_11 ?_
  refine ev_cSV (av := [vR 131, vR 19]) (S := []) (fun q => q) h dX0_become_143 (fun Q' q => TX0_copyRow 131 19 _ q) ksX0_copyRow ml_X0_57 rfl (RRc (by decide) (by decide)) (Nat.le_of_ble_eq_true rfl) ⟨Nat.le_of_ble_eq_true rfl, Nat.le_of_ble_eq_true rfl⟩ (fun f2 h => ?_)
  refine ev_aload_n (i := 1) dX0_become_146 rfl rfl ?_
  refine ev_getR dX0_become_147 fl_X0_29 sh_116 (by decide) (by decide) rf_116_12 ?_
  refine ev_aload_n (i := 0) dX0_become_150 rfl rfl ?_
  refine ev_getR dX0_become_151 fl_X0_29 sh_4 (by decide) (by decide) rf_4_12 ?_
  refine ev_cSV (av := [vR 132, vR 20]) (S := []) (fun q => q) h dX0_become_154 (fun Q' q => TX0_copyRow 132 20 _ q) ksX0_copyRow ml_X0_57 rfl (RRc (by decide) (by decide)) (Nat.le_of_ble_eq_true rfl) ⟨Nat.le_of_ble_eq_true rfl, Nat.le_of_ble_eq_true rfl⟩ (fun f3 h => ?_)
  exact ev_vret rfl dX0_become_157 h
def FX0_become_4_116_97  : Nat → Int → Mm → Option Mm
  | 0, _, _ => none
  | n + 1, x2, f => (if 6 ≤ x2 then FX0_become_4_116_124 f else (if 0 ≤ x2 ∧ x2 < 6 then (if 0 ≤ x2 ∧ x2 < 6 then ((FX0_copyRow (124 + x2.toNat) (12 + x2.toNat) f).bind fun f3 => FX0_become_4_116_97 n (w32 (x2 + 1)) f3) else none) else none))
set_option maxHeartbeats 4000000 in
set_option maxRecDepth 100000 in
theorem SX0_become_4_116_97 {G : GT} {l : Launch} {Q : Option AV → Mem → Prop}  : ∀ (n : Nat) (x2 : Int) (f : Mm), OkV Q (FX0_become_4_116_97  n x2 f) → Ev G l MX0_become (Rm 2 0 0) (ZM G Q 0 0) 0 0 97 [some (vR 4), some (vR 116), some (vI x2)] [] (SH, RF, f) := by
  intro n
  induction n with
  | zero => intro x2 f h; exact absurd h (by rw [FX0_become_4_116_97]; exact fun q => q)
  | succ n ih =>
    intro x2 f h
    rw [FX0_become_4_116_97] at h
    refine ev_iload_n (i := 2) dX0_become_97 rfl rfl ?_
    refine ev_bipush (v := 6) dX0_become_98 (r32c rfl) (by decide) ?_
    refine ev_icmp_ge (tgt := 124) dX0_become_100 (by decide) (fun c4 => ?_) (fun c4 => ?_)
    · rw [if_pos c4] at h
      refine ev_fg [true, true, false] rfl ?_
      exact SX0_become_4_116_124   _ h
    · rw [if_neg c4] at h
      refine ev_aload_n (i := 1) dX0_become_103 rfl rfl ?_
      refine ev_getR dX0_become_104 fl_X0_20 sh_116 (by decide) (by decide) rf_116_9 ?_
      refine ev_iload_n (i := 2) dX0_become_107 rfl rfl ?_
      by_cases g1 : 0 ≤ x2 ∧ x2 < 6
      · rw [if_pos g1] at h
        refine ev_aald (b := (124 + x2.toNat)) dX0_become_108 (Or.inl rfl) sh_123 g1.1 g1.2 (rfr_123 g1) ?_
        refine ev_aload_n (i := 0) dX0_become_109 rfl rfl ?_
        refine ev_getR dX0_become_110 fl_X0_20 sh_4 (by decide) (by decide) rf_4_9 ?_
        refine ev_iload_n (i := 2) dX0_become_113 rfl rfl ?_
        by_cases g2 : 0 ≤ x2 ∧ x2 < 6
        · rw [if_pos g2] at h
          refine ev_aald (b := (12 + x2.toNat)) dX0_become_114 (Or.inl rfl) sh_11 g2.1 g2.2 (rfr_11 g2) ?_
          refine ev_cSV (av := [vR (124 + x2.toNat), vR (12 + x2.toNat)]) (S := []) (fun q => q) h dX0_become_115 (fun Q' q => TX0_copyRow (124 + x2.toNat) (12 + x2.toNat) _ q) ksX0_copyRow ml_X0_57 rfl (RRc (by decide) (by decide)) (Nat.le_of_ble_eq_true rfl) ⟨Nat.le_of_ble_eq_true rfl, Nat.le_of_ble_eq_true rfl⟩ (fun f3 h => ?_)
          refine ev_iinc (L' := [some (vR 4), some (vR 116), some (vI (w32 (x2 + 1)))]) dX0_become_118 rfl (by decide) rfl ?_
          refine ev_goto (tgt := 97) dX0_become_121 (by decide) ?_
          exact ih (w32 (x2 + 1)) _ h
        · rw [if_neg g2] at h; exact h.elim
      · rw [if_neg g1] at h; exact h.elim
def FX0_become_4_116_95   (f : Mm) : Option Mm := FX0_become_4_116_97 fu 0 f
set_option maxHeartbeats 4000000 in
set_option maxRecDepth 100000 in
theorem SX0_become_4_116_95 {G : GT} {l : Launch} {Q : Option AV → Mem → Prop}   (f : Mm) (h : OkV Q (FX0_become_4_116_95   f)) : Ev G l MX0_become (Rm 2 0 0) (ZM G Q 0 0) 0 0 95 [some (vR 4), some (vR 116), none] [] (SH, RF, f) := by
  unfold FX0_become_4_116_95 at h
  refine ev_iconst dX0_become_95 (r32c rfl) ?_
  refine ev_istore_n (i := 2) (L' := [some (vR 4), some (vR 116), some (vI 0)]) dX0_become_96 rfl (by decide) rfl ?_
  exact SX0_become_4_116_97  fu 0 _ h
def FX0_become_4_116_69  : Nat → Int → Mm → Option Mm
  | 0, _, _ => none
  | n + 1, x2, f => (if 4 ≤ x2 then FX0_become_4_116_95 f else (if 0 ≤ x2 ∧ x2 < 4 then (if 0 ≤ x2 ∧ x2 < 4 then ((FX0_copyRow (119 + x2.toNat) (7 + x2.toNat) f).bind fun f3 => FX0_become_4_116_69 n (w32 (x2 + 1)) f3) else none) else none))
set_option maxHeartbeats 4000000 in
set_option maxRecDepth 100000 in
theorem SX0_become_4_116_69 {G : GT} {l : Launch} {Q : Option AV → Mem → Prop}  : ∀ (n : Nat) (x2 : Int) (f : Mm), OkV Q (FX0_become_4_116_69  n x2 f) → Ev G l MX0_become (Rm 2 0 0) (ZM G Q 0 0) 0 0 69 [some (vR 4), some (vR 116), some (vI x2)] [] (SH, RF, f) := by
  intro n
  induction n with
  | zero => intro x2 f h; exact absurd h (by rw [FX0_become_4_116_69]; exact fun q => q)
  | succ n ih =>
    intro x2 f h
    rw [FX0_become_4_116_69] at h
    refine ev_iload_n (i := 2) dX0_become_69 rfl rfl ?_
    refine ev_iconst dX0_become_70 (r32c rfl) ?_
    refine ev_icmp_ge (tgt := 95) dX0_become_71 (by decide) (fun c4 => ?_) (fun c4 => ?_)
    · rw [if_pos c4] at h
      refine ev_fg [true, true, false] rfl ?_
      exact SX0_become_4_116_95   _ h
    · rw [if_neg c4] at h
      refine ev_aload_n (i := 1) dX0_become_74 rfl rfl ?_
      refine ev_getR dX0_become_75 fl_X0_17 sh_116 (by decide) (by decide) rf_116_8 ?_
      refine ev_iload_n (i := 2) dX0_become_78 rfl rfl ?_
      by_cases g1 : 0 ≤ x2 ∧ x2 < 4
      · rw [if_pos g1] at h
        refine ev_aald (b := (119 + x2.toNat)) dX0_become_79 (Or.inl rfl) sh_118 g1.1 g1.2 (rfr_118 g1) ?_
        refine ev_aload_n (i := 0) dX0_become_80 rfl rfl ?_
        refine ev_getR dX0_become_81 fl_X0_17 sh_4 (by decide) (by decide) rf_4_8 ?_
        refine ev_iload_n (i := 2) dX0_become_84 rfl rfl ?_
        by_cases g2 : 0 ≤ x2 ∧ x2 < 4
        · rw [if_pos g2] at h
          refine ev_aald (b := (7 + x2.toNat)) dX0_become_85 (Or.inl rfl) sh_6 g2.1 g2.2 (rfr_6 g2) ?_
          refine ev_cSV (av := [vR (119 + x2.toNat), vR (7 + x2.toNat)]) (S := []) (fun q => q) h dX0_become_86 (fun Q' q => TX0_copyRow (119 + x2.toNat) (7 + x2.toNat) _ q) ksX0_copyRow ml_X0_57 rfl (RRc (by decide) (by decide)) (Nat.le_of_ble_eq_true rfl) ⟨Nat.le_of_ble_eq_true rfl, Nat.le_of_ble_eq_true rfl⟩ (fun f3 h => ?_)
          refine ev_iinc (L' := [some (vR 4), some (vR 116), some (vI (w32 (x2 + 1)))]) dX0_become_89 rfl (by decide) rfl ?_
          refine ev_goto (tgt := 69) dX0_become_92 (by decide) ?_
          exact ih (w32 (x2 + 1)) _ h
        · rw [if_neg g2] at h; exact h.elim
      · rw [if_neg g1] at h; exact h.elim
def FX0_become_4_116_0   (f : Mm) : Option Mm := ((FX0_copyRow 117 5 (up (up (up (up (up (up (up f 4 0 (f 116 0)) 4 1 (f 116 1)) 4 2 (f 116 2)) 4 3 (f 116 3)) 4 4 (f 116 4)) 4 5 (f 116 5)) 4 6 (f 116 6))).bind fun f1 => FX0_become_4_116_69 fu 0 f1)
set_option maxHeartbeats 4000000 in
set_option maxRecDepth 100000 in
theorem SX0_become_4_116_0 {G : GT} {l : Launch} {Q : Option AV → Mem → Prop}   (f : Mm) (h : OkV Q (FX0_become_4_116_0   f)) : Ev G l MX0_become (Rm 2 0 0) (ZM G Q 0 0) 0 0 0 [some (vR 4), some (vR 116), none] [] (SH, RF, f) := by
  unfold FX0_become_4_116_0 at h
  refine ev_aload_n (i := 0) dX0_become_0 rfl rfl ?_
  refine ev_aload_n (i := 1) dX0_become_1 rfl rfl ?_
  refine ex_getI (x := (f 116 0)) dX0_become_2 fl_X0_32 sh_116 (by decide) (by decide) rfl ?_
  refine ev_putI dX0_become_5 fl_X0_32 sh_4 (by decide) (by decide) ?_
  refine ev_aload_n (i := 0) dX0_become_8 rfl rfl ?_
  refine ev_aload_n (i := 1) dX0_become_9 rfl rfl ?_
  refine ex_getI (x := (f 116 1)) dX0_become_10 fl_X0_36 sh_116 (by decide) (by decide) rfl ?_
  refine ev_putI dX0_become_13 fl_X0_36 sh_4 (by decide) (by decide) ?_
  refine ev_aload_n (i := 0) dX0_become_16 rfl rfl ?_
  refine ev_aload_n (i := 1) dX0_become_17 rfl rfl ?_
  refine ex_getI (x := (f 116 2)) dX0_become_18 fl_X0_39 sh_116 (by decide) (by decide) rfl ?_
  refine ev_putI dX0_become_21 fl_X0_39 sh_4 (by decide) (by decide) ?_
  refine ev_aload_n (i := 0) dX0_become_24 rfl rfl ?_
  refine ev_aload_n (i := 1) dX0_become_25 rfl rfl ?_
  refine ex_getI (x := (f 116 3)) dX0_become_26 fl_X0_42 sh_116 (by decide) (by decide) rfl ?_
  refine ev_putI dX0_become_29 fl_X0_42 sh_4 (by decide) (by decide) ?_
  refine ev_aload_n (i := 0) dX0_become_32 rfl rfl ?_
  refine ev_aload_n (i := 1) dX0_become_33 rfl rfl ?_
  refine ex_getI (x := (f 116 4)) dX0_become_34 fl_X0_45 sh_116 (by decide) (by decide) rfl ?_
  refine ev_putI dX0_become_37 fl_X0_45 sh_4 (by decide) (by decide) ?_
  refine ev_aload_n (i := 0) dX0_become_40 rfl rfl ?_
  refine ev_aload_n (i := 1) dX0_become_41 rfl rfl ?_
  refine ex_getI (x := (f 116 5)) dX0_become_42 fl_X0_48 sh_116 (by decide) (by decide) rfl ?_
  refine ev_putI dX0_become_45 fl_X0_48 sh_4 (by decide) (by decide) ?_
  refine ev_aload_n (i := 0) dX0_become_48 rfl rfl ?_
  refine ev_aload_n (i := 1) dX0_become_49 rfl rfl ?_
  refine ex_getI (x := (f 116 6)) dX0_become_50 fl_X0_54 sh_116 (by decide) (by decide) rfl ?_
  refine ev_putI dX0_become_53 fl_X0_54 sh_4 (by decide) (by decide) ?_
  refine ev_aload_n (i := 1) dX0_become_56 rfl rfl ?_
  refine ev_getR dX0_become_57 fl_X0_9 sh_116 (by decide) (by decide) rf_116_7 ?_
  refine ev_aload_n (i := 0) dX0_become_60 rfl rfl ?_
  refine ev_getR dX0_become_61 fl_X0_9 sh_4 (by decide) (by decide) rf_4_7 ?_
  refine ev_cSV (av := [vR 117, vR 5]) (S := []) (fun q => q) h dX0_become_64 (fun Q' q => TX0_copyRow 117 5 _ q) ksX0_copyRow ml_X0_57 rfl (RRc (by decide) (by decide)) (Nat.le_of_ble_eq_true rfl) ⟨Nat.le_of_ble_eq_true rfl, Nat.le_of_ble_eq_true rfl⟩ (fun f1 h => ?_)
  refine ev_iconst dX0_become_67 (r32c rfl) ?_
  refine ev_istore_n (i := 2) (L' := [some (vR 4), some (vR 116), some (vI 0)]) dX0_become_68 rfl (by decide) rfl ?_
  exact SX0_become_4_116_69  fu 0 _ h
def FX0_become_4_116  (f : Mm) : Option Mm := FX0_become_4_116_0  f
theorem TX0_become_4_116 {G : GT} {l : Launch} {Q : Option AV → Mem → Prop}  (f : Mm) (h : OkV Q (FX0_become_4_116  f)) : Ret G l MX0_become (2) 0 0 [vR 4, vR 116] (SH, RF, f) Q := by
  refine ret_of (L := [some (vR 4), some (vR 116), none]) (by decide) rfl (Nat.le_of_ble_eq_true rfl) ?_
  exact SX0_become_4_116_0  f h
def FX0_become_4_133_124   (f : Mm) : Option Mm := ((FX0_copyRow 147 18 f).bind fun f1 => ((FX0_copyRow 148 19 f1).bind fun f2 => ((FX0_copyRow 149 20 f2).bind fun f3 => some f3)))
set_option maxHeartbeats 4000000 in
set_option maxRecDepth 100000 in
theorem SX0_become_4_133_124 {G : GT} {l : Launch} {Q : Option AV → Mem → Prop}   (f : Mm) (h : OkV Q (FX0_become_4_133_124   f)) : Ev G l MX0_become (Rm 2 0 0) (ZM G Q 0 0) 0 0 124 [some (vR 4), some (vR 133), none] [] (SH, RF, f) := by
  unfold FX0_become_4_133_124 at h
  refine ev_aload_n (i := 1) dX0_become_124 rfl rfl ?_
  refine ev_getR dX0_become_125 fl_X0_23 sh_133 (by decide) (by decide) rf_133_10 ?_
  refine ev_aload_n (i := 0) dX0_become_128 rfl rfl ?_
  refine ev_getR dX0_become_129 fl_X0_23 sh_4 (by decide) (by decide) rf_4_10 ?_
  refine ev_cSV (av := [vR 147, vR 18]) (S := []) (fun q => q) h dX0_become_132 (fun Q' q => TX0_copyRow 147 18 _ q) ksX0_copyRow ml_X0_57 rfl (RRc (by decide) (by decide)) (Nat.le_of_ble_eq_true rfl) ⟨Nat.le_of_ble_eq_true rfl, Nat.le_of_ble_eq_true rfl⟩ (fun f1 h => ?_)
  refine ev_aload_n (i := 1) dX0_become_135 rfl rfl ?_
  refine ev_getR dX0_become_136 fl_X0_26 sh_133 (by decide) (by decide) rf_133_11 ?_
  refine ev_aload_n (i := 0) dX0_become_139 rfl rfl ?_
  refine ev_getR dX0_become_140 fl_X0_26 sh_4 (by decide) (by decide) rf_4_11 ?_
  refine ev_cSV (av := [vR 148, vR 19]) (S := []) (fun q => q) h dX0_become_143 (fun Q' q => TX0_copyRow 148 19 _ q) ksX0_copyRow ml_X0_57 rfl (RRc (by decide) (by decide)) (Nat.le_of_ble_eq_true rfl) ⟨Nat.le_of_ble_eq_true rfl, Nat.le_of_ble_eq_true rfl⟩ (fun f2 h => ?_)
  refine ev_aload_n (i := 1) dX0_become_146 rfl rfl ?_
  refine ev_getR dX0_become_147 fl_X0_29 sh_133 (by decide) (by decide) rf_133_12 ?_
  refine ev_aload_n (i := 0) dX0_become_150 rfl rfl ?_
  refine ev_getR dX0_become_151 fl_X0_29 sh_4 (by decide) (by decide) rf_4_12 ?_
  refine ev_cSV (av := [vR 149, vR 20]) (S := []) (fun q => q) h dX0_become_154 (fun Q' q => TX0_copyRow 149 20 _ q) ksX0_copyRow ml_X0_57 rfl (RRc (by decide) (by decide)) (Nat.le_of_ble_eq_true rfl) ⟨Nat.le_of_ble_eq_true rfl, Nat.le_of_ble_eq_true rfl⟩ (fun f3 h => ?_)
  exact ev_vret rfl dX0_become_157 h
def FX0_become_4_133_97  : Nat → Int → Mm → Option Mm
  | 0, _, _ => none
  | n + 1, x2, f => (if 6 ≤ x2 then FX0_become_4_133_124 f else (if 0 ≤ x2 ∧ x2 < 6 then (if 0 ≤ x2 ∧ x2 < 6 then ((FX0_copyRow (141 + x2.toNat) (12 + x2.toNat) f).bind fun f3 => FX0_become_4_133_97 n (w32 (x2 + 1)) f3) else none) else none))
set_option maxHeartbeats 4000000 in
set_option maxRecDepth 100000 in
theorem SX0_become_4_133_97 {G : GT} {l : Launch} {Q : Option AV → Mem → Prop}  : ∀ (n : Nat) (x2 : Int) (f : Mm), OkV Q (FX0_become_4_133_97  n x2 f) → Ev G l MX0_become (Rm 2 0 0) (ZM G Q 0 0) 0 0 97 [some (vR 4), some (vR 133), some (vI x2)] [] (SH, RF, f) := by
  intro n
  induction n with
  | zero => intro x2 f h; exact absurd h (by rw [FX0_become_4_133_97]; exact fun q => q)
  | succ n ih =>
    intro x2 f h
    rw [FX0_become_4_133_97] at h
    refine ev_iload_n (i := 2) dX0_become_97 rfl rfl ?_
    refine ev_bipush (v := 6) dX0_become_98 (r32c rfl) (by decide) ?_
    refine ev_icmp_ge (tgt := 124) dX0_become_100 (by decide) (fun c4 => ?_) (fun c4 => ?_)
    · rw [if_pos c4] at h
      refine ev_fg [true, true, false] rfl ?_
      exact SX0_become_4_133_124   _ h
    · rw [if_neg c4] at h
      refine ev_aload_n (i := 1) dX0_become_103 rfl rfl ?_
      refine ev_getR dX0_become_104 fl_X0_20 sh_133 (by decide) (by decide) rf_133_9 ?_
      refine ev_iload_n (i := 2) dX0_become_107 rfl rfl ?_
      by_cases g1 : 0 ≤ x2 ∧ x2 < 6
      · rw [if_pos g1] at h
        refine ev_aald (b := (141 + x2.toNat)) dX0_become_108 (Or.inl rfl) sh_140 g1.1 g1.2 (rfr_140 g1) ?_
        refine ev_aload_n (i := 0) dX0_become_109 rfl rfl ?_
        refine ev_getR dX0_become_110 fl_X0_20 sh_4 (by decide) (by decide) rf_4_9 ?_
        refine ev_iload_n (i := 2) dX0_become_113 rfl rfl ?_
        by_cases g2 : 0 ≤ x2 ∧ x2 < 6
        · rw [if_pos g2] at h
          refine ev_aald (b := (12 + x2.toNat)) dX0_become_114 (Or.inl rfl) sh_11 g2.1 g2.2 (rfr_11 g2) ?_
          refine ev_cSV (av := [vR (141 + x2.toNat), vR (12 + x2.toNat)]) (S := []) (fun q => q) h dX0_become_115 (fun Q' q => TX0_copyRow (141 + x2.toNat) (12 + x2.toNat) _ q) ksX0_copyRow ml_X0_57 rfl (RRc (by decide) (by decide)) (Nat.le_of_ble_eq_true rfl) ⟨Nat.le_of_ble_eq_true rfl, Nat.le_of_ble_eq_true rfl⟩ (fun f3 h => ?_)
          refine ev_iinc (L' := [some (vR 4), some (vR 133), some (vI (w32 (x2 + 1)))]) dX0_become_118 rfl (by decide) rfl ?_
          refine ev_goto (tgt := 97) dX0_become_121 (by decide) ?_
          exact ih (w32 (x2 + 1)) _ h
        · rw [if_neg g2] at h; exact h.elim
      · rw [if_neg g1] at h; exact h.elim
def FX0_become_4_133_95   (f : Mm) : Option Mm := FX0_become_4_133_97 fu 0 f
set_option maxHeartbeats 4000000 in
set_option maxRecDepth 100000 in
theorem SX0_become_4_133_95 {G : GT} {l : Launch} {Q : Option AV → Mem → Prop}   (f : Mm) (h : OkV Q (FX0_become_4_133_95   f)) : Ev G l MX0_become (Rm 2 0 0) (ZM G Q 0 0) 0 0 95 [some (vR 4), some (vR 133), none] [] (SH, RF, f) := by
  unfold FX0_become_4_133_95 at h
  refine ev_iconst dX0_become_95 (r32c rfl) ?_
  refine ev_istore_n (i := 2) (L' := [some (vR 4), some (vR 133), some (vI 0)]) dX0_become_96 rfl (by decide) rfl ?_
  exact SX0_become_4_133_97  fu 0 _ h
def FX0_become_4_133_69  : Nat → Int → Mm → Option Mm
  | 0, _, _ => none
  | n + 1, x2, f => (if 4 ≤ x2 then FX0_become_4_133_95 f else (if 0 ≤ x2 ∧ x2 < 4 then (if 0 ≤ x2 ∧ x2 < 4 then ((FX0_copyRow (136 + x2.toNat) (7 + x2.toNat) f).bind fun f3 => FX0_become_4_133_69 n (w32 (x2 + 1)) f3) else none) else none))
set_option maxHeartbeats 4000000 in
set_option maxRecDepth 100000 in
theorem SX0_become_4_133_69 {G : GT} {l : Launch} {Q : Option AV → Mem → Prop}  : ∀ (n : Nat) (x2 : Int) (f : Mm), OkV Q (FX0_become_4_133_69  n x2 f) → Ev G l MX0_become (Rm 2 0 0) (ZM G Q 0 0) 0 0 69 [some (vR 4), some (vR 133), some (vI x2)] [] (SH, RF, f) := by
  intro n
  induction n with
  | zero => intro x2 f h; exact absurd h (by rw [FX0_become_4_133_69]; exact fun q => q)
  | succ n ih =>
    intro x2 f h
    rw [FX0_become_4_133_69] at h
    refine ev_iload_n (i := 2) dX0_become_69 rfl rfl ?_
    refine ev_iconst dX0_become_70 (r32c rfl) ?_
    refine ev_icmp_ge (tgt := 95) dX0_become_71 (by decide) (fun c4 => ?_) (fun c4 => ?_)
    · rw [if_pos c4] at h
      refine ev_fg [true, true, false] rfl ?_
      exact SX0_become_4_133_95   _ h
    · rw [if_neg c4] at h
      refine ev_aload_n (i := 1) dX0_become_74 rfl rfl ?_
      refine ev_getR dX0_become_75 fl_X0_17 sh_133 (by decide) (by decide) rf_133_8 ?_
      refine ev_iload_n (i := 2) dX0_become_78 rfl rfl ?_
      by_cases g1 : 0 ≤ x2 ∧ x2 < 4
      · rw [if_pos g1] at h
        refine ev_aald (b := (136 + x2.toNat)) dX0_become_79 (Or.inl rfl) sh_135 g1.1 g1.2 (rfr_135 g1) ?_
        refine ev_aload_n (i := 0) dX0_become_80 rfl rfl ?_
        refine ev_getR dX0_become_81 fl_X0_17 sh_4 (by decide) (by decide) rf_4_8 ?_
        refine ev_iload_n (i := 2) dX0_become_84 rfl rfl ?_
        by_cases g2 : 0 ≤ x2 ∧ x2 < 4
        · rw [if_pos g2] at h
          refine ev_aald (b := (7 + x2.toNat)) dX0_become_85 (Or.inl rfl) sh_6 g2.1 g2.2 (rfr_6 g2) ?_
          refine ev_cSV (av := [vR (136 + x2.toNat), vR (7 + x2.toNat)]) (S := []) (fun q => q) h dX0_become_86 (fun Q' q => TX0_copyRow (136 + x2.toNat) (7 + x2.toNat) _ q) ksX0_copyRow ml_X0_57 rfl (RRc (by decide) (by decide)) (Nat.le_of_ble_eq_true rfl) ⟨Nat.le_of_ble_eq_true rfl, Nat.le_of_ble_eq_true rfl⟩ (fun f3 h => ?_)
          refine ev_iinc (L' := [some (vR 4), some (vR 133), some (vI (w32 (x2 + 1)))]) dX0_become_89 rfl (by decide) rfl ?_
          refine ev_goto (tgt := 69) dX0_become_92 (by decide) ?_
          exact ih (w32 (x2 + 1)) _ h
        · rw [if_neg g2] at h; exact h.elim
      · rw [if_neg g1] at h; exact h.elim
def FX0_become_4_133_0   (f : Mm) : Option Mm := ((FX0_copyRow 134 5 (up (up (up (up (up (up (up f 4 0 (f 133 0)) 4 1 (f 133 1)) 4 2 (f 133 2)) 4 3 (f 133 3)) 4 4 (f 133 4)) 4 5 (f 133 5)) 4 6 (f 133 6))).bind fun f1 => FX0_become_4_133_69 fu 0 f1)
set_option maxHeartbeats 4000000 in
set_option maxRecDepth 100000 in
theorem SX0_become_4_133_0 {G : GT} {l : Launch} {Q : Option AV → Mem → Prop}   (f : Mm) (h : OkV Q (FX0_become_4_133_0   f)) : Ev G l MX0_become (Rm 2 0 0) (ZM G Q 0 0) 0 0 0 [some (vR 4), some (vR 133), none] [] (SH, RF, f) := by
  unfold FX0_become_4_133_0 at h
  refine ev_aload_n (i := 0) dX0_become_0 rfl rfl ?_
  refine ev_aload_n (i := 1) dX0_become_1 rfl rfl ?_
  refine ex_getI (x := (f 133 0)) dX0_become_2 fl_X0_32 sh_133 (by decide) (by decide) rfl ?_
  refine ev_putI dX0_become_5 fl_X0_32 sh_4 (by decide) (by decide) ?_
  refine ev_aload_n (i := 0) dX0_become_8 rfl rfl ?_
  refine ev_aload_n (i := 1) dX0_become_9 rfl rfl ?_
  refine ex_getI (x := (f 133 1)) dX0_become_10 fl_X0_36 sh_133 (by decide) (by decide) rfl ?_
  refine ev_putI dX0_become_13 fl_X0_36 sh_4 (by decide) (by decide) ?_
  refine ev_aload_n (i := 0) dX0_become_16 rfl rfl ?_
  refine ev_aload_n (i := 1) dX0_become_17 rfl rfl ?_
  refine ex_getI (x := (f 133 2)) dX0_become_18 fl_X0_39 sh_133 (by decide) (by decide) rfl ?_
  refine ev_putI dX0_become_21 fl_X0_39 sh_4 (by decide) (by decide) ?_
  refine ev_aload_n (i := 0) dX0_become_24 rfl rfl ?_
  refine ev_aload_n (i := 1) dX0_become_25 rfl rfl ?_
  refine ex_getI (x := (f 133 3)) dX0_become_26 fl_X0_42 sh_133 (by decide) (by decide) rfl ?_
  refine ev_putI dX0_become_29 fl_X0_42 sh_4 (by decide) (by decide) ?_
  refine ev_aload_n (i := 0) dX0_become_32 rfl rfl ?_
  refine ev_aload_n (i := 1) dX0_become_33 rfl rfl ?_
  refine ex_getI (x := (f 133 4)) dX0_become_34 fl_X0_45 sh_133 (by decide) (by decide) rfl ?_
  refine ev_putI dX0_become_37 fl_X0_45 sh_4 (by decide) (by decide) ?_
  refine ev_aload_n (i := 0) dX0_become_40 rfl rfl ?_
  refine ev_aload_n (i := 1) dX0_become_41 rfl rfl ?_
  refine ex_getI (x := (f 133 5)) dX0_become_42 fl_X0_48 sh_133 (by decide) (by decide) rfl ?_
  refine ev_putI dX0_become_45 fl_X0_48 sh_4 (by decide) (by decide) ?_
  refine ev_aload_n (i := 0) dX0_become_48 rfl rfl ?_
  refine ev_aload_n (i := 1) dX0_become_49 rfl rfl ?_
  refine ex_getI (x := (f 133 6)) dX0_become_50 fl_X0_54 sh_133 (by decide) (by decide) rfl ?_
  refine ev_putI dX0_become_53 fl_X0_54 sh_4 (by decide) (by decide) ?_
  refine ev_aload_n (i := 1) dX0_become_56 rfl rfl ?_
  refine ev_getR dX0_become_57 fl_X0_9 sh_133 (by decide) (by decide) rf_133_7 ?_
  refine ev_aload_n (i := 0) dX0_become_60 rfl rfl ?_
  refine ev_getR dX0_become_61 fl_X0_9 sh_4 (by decide) (by decide) rf_4_7 ?_
  refine ev_cSV (av := [vR 134, vR 5]) (S := []) (fun q => q) h dX0_become_64 (fun Q' q => TX0_copyRow 134 5 _ q) ksX0_copyRow ml_X0_57 rfl (RRc (by decide) (by decide)) (Nat.le_of_ble_eq_true rfl) ⟨Nat.le_of_ble_eq_true rfl, Nat.le_of_ble_eq_true rfl⟩ (fun f1 h => ?_)
  refine ev_iconst dX0_become_67 (r32c rfl) ?_
  refine ev_istore_n (i := 2) (L' := [some (vR 4), some (vR 133), some (vI 0)]) dX0_become_68 rfl (by decide) rfl ?_
  exact SX0_become_4_133_69  fu 0 _ h
def FX0_become_4_133  (f : Mm) : Option Mm := FX0_become_4_133_0  f
theorem TX0_become_4_133 {G : GT} {l : Launch} {Q : Option AV → Mem → Prop}  (f : Mm) (h : OkV Q (FX0_become_4_133  f)) : Ret G l MX0_become (2) 0 0 [vR 4, vR 133] (SH, RF, f) Q := by
  refine ret_of (L := [some (vR 4), some (vR 133), none]) (by decide) rfl (Nat.le_of_ble_eq_true rfl) ?_
  exact SX0_become_4_133_0  f h
theorem dX10_back_0 : decode cX10_back 0 = .ok (.iload_n 1, 1) := by decide +kernel
theorem dX10_back_1 : decode cX10_back 1 = .ok (.ifCond .lt 8, 3) := by decide +kernel
theorem dX10_back_9 : decode cX10_back 9 = .ok (.bipush (-2), 2) := by decide +kernel
theorem dX10_back_11 : decode cX10_back 11 = .ok (.ireturn, 1) := by decide +kernel
theorem dX10_back_4 : decode cX10_back 4 = .ok (.iload_n 1, 1) := by decide +kernel
theorem dX10_back_5 : decode cX10_back 5 = .ok (.iconst 3, 1) := by decide +kernel
theorem dX10_back_6 : decode cX10_back 6 = .ok (.if_icmp .lt 6, 3) := by decide +kernel
theorem dX10_back_12 : decode cX10_back 12 = .ok (.aload_n 0, 1) := by decide +kernel
theorem dX10_back_13 : decode cX10_back 13 = .ok (.getfield 30, 3) := by decide +kernel
theorem dX10_back_16 : decode cX10_back 16 = .ok (.iload_n 1, 1) := by decide +kernel
theorem dX10_back_17 : decode cX10_back 17 = .ok (.baload, 1) := by decide +kernel
theorem dX10_back_18 : decode cX10_back 18 = .ok (.ifCond .ne 6, 3) := by decide +kernel
theorem dX10_back_24 : decode cX10_back 24 = .ok (.aload_n 0, 1) := by decide +kernel
theorem dX10_back_25 : decode cX10_back 25 = .ok (.getfield 19, 3) := by decide +kernel
theorem dX10_back_28 : decode cX10_back 28 = .ok (.aload_n 0, 1) := by decide +kernel
theorem dX10_back_29 : decode cX10_back 29 = .ok (.getfield 26, 3) := by decide +kernel
theorem dX10_back_32 : decode cX10_back 32 = .ok (.iload_n 1, 1) := by decide +kernel
theorem dX10_back_33 : decode cX10_back 33 = .ok (.aaload, 1) := by decide +kernel
theorem dX10_back_34 : decode cX10_back 34 = .ok (.invokevirtual 97, 3) := by decide +kernel
theorem dX10_back_37 : decode cX10_back 37 = .ok (.aload_n 0, 1) := by decide +kernel
theorem dX10_back_38 : decode cX10_back 38 = .ok (.getfield 51, 3) := by decide +kernel
theorem dX10_back_41 : decode cX10_back 41 = .ok (.invokevirtual 100, 3) := by decide +kernel
theorem dX10_back_44 : decode cX10_back 44 = .ok (.iconst 0, 1) := by decide +kernel
theorem dX10_back_45 : decode cX10_back 45 = .ok (.ireturn, 1) := by decide +kernel
theorem dX10_back_21 : decode cX10_back 21 = .ok (.bipush (-6), 2) := by decide +kernel
theorem dX10_back_23 : decode cX10_back 23 = .ok (.ireturn, 1) := by decide +kernel
def FX10_back_0  (x1 : Int) (f : Mm) : Option (Int × Mm) := (if x1 < 0 then some ((-2), f) else (if x1 < 3 then (if 0 ≤ x1 ∧ x1 < 3 then (if (f 39 x1.toNat) = 0 then some ((-6), f) else (if x1 = 0 then ((FX0_become_4_99 f).bind fun f3 => ((FX3_forget f3).bind fun f4 => some (0, f4))) else (if x1 = 1 then ((FX0_become_4_116 f).bind fun f6 => ((FX3_forget f6).bind fun f7 => some (0, f7))) else (if x1 = 2 then ((FX0_become_4_133 f).bind fun f9 => ((FX3_forget f9).bind fun f10 => some (0, f10))) else none)))) else none) else some ((-2), f)))
set_option maxHeartbeats 4000000 in
set_option maxRecDepth 100000 in
theorem SX10_back_0 {G : GT} {l : Launch} {Q : Option AV → Mem → Prop}  (x1 : Int) (f : Mm) (h : OkI Q (FX10_back_0  x1 f)) : Ev G l MX10_back (Rm 3 0 0) (ZM G Q 0 0) 0 0 0 [some (vR 0), some (vI x1)] [] (SH, RF, f) := by
  unfold FX10_back_0 at h
  refine ev_iload_n (i := 1) dX10_back_0 rfl rfl ?_
  refine ev_if_lt (tgt := 9) dX10_back_1 (by decide) (fun c13 => ?_) (fun c13 => ?_)
  · rw [if_pos c13] at h
    refine ev_bipush (v := (-2)) dX10_back_9 (r32c rfl) (by decide) ?_
    exact ev_iret rfl dX10_back_11 h
  · rw [if_neg c13] at h
    refine ev_iload_n (i := 1) dX10_back_4 rfl rfl ?_
    refine ev_iconst dX10_back_5 (r32c rfl) ?_
    refine ev_icmp_lt (tgt := 12) dX10_back_6 (by decide) (fun c12 => ?_) (fun c12 => ?_)
    · rw [if_pos c12] at h
      refine ev_aload_n (i := 0) dX10_back_12 rfl rfl ?_
      refine ev_getR dX10_back_13 fl_X10_30 sh_0 (by decide) (by decide) rf_0_4 ?_
      refine ev_iload_n (i := 1) dX10_back_16 rfl rfl ?_
      by_cases g1 : 0 ≤ x1 ∧ x1 < 3
      · rw [if_pos g1] at h
        refine ex_zald (x := (f 39 x1.toNat)) dX10_back_17 sh_39 g1.1 g1.2 rfl ?_
        refine ev_if_ne (tgt := 24) dX10_back_18 (by decide) (fun c11 => ?_) (fun c11 => ?_)
        · rw [if_neg c11] at h
          refine ev_aload_n (i := 0) dX10_back_24 rfl rfl ?_
          refine ev_getR dX10_back_25 fl_X10_19 sh_0 (by decide) (by decide) rf_0_1 ?_
          refine ev_aload_n (i := 0) dX10_back_28 rfl rfl ?_
          refine ev_getR dX10_back_29 fl_X10_26 sh_0 (by decide) (by decide) rf_0_3 ?_
          refine ev_iload_n (i := 1) dX10_back_32 rfl rfl ?_
          by_cases c2 : x1 = 0
          · rw [if_pos c2] at h
            refine ev_aald (b := 99) dX10_back_33 (Or.inr (Or.inr rfl)) sh_38 (by omega) (by omega) (by rw [c2]; exact rf_38_0) ?_
            refine ev_cVV (b := 4) (av := [vR 99]) (S := []) (fun q => q) h dX10_back_34 (fun Q' q => TX0_become_4_99 _ q) kvX0_become ml_X10_97 sh_4 rfl (RRc (by decide) (by decide)) (Nat.le_of_ble_eq_true rfl) ⟨Nat.le_of_ble_eq_true rfl, Nat.le_of_ble_eq_true rfl⟩ (fun f3 h => ?_)
            refine ev_aload_n (i := 0) dX10_back_37 rfl rfl ?_
            refine ev_getR dX10_back_38 fl_X10_51 sh_0 (by decide) (by decide) rf_0_7 ?_
            refine ev_cVV (b := 57) (av := []) (S := []) (fun q => q) h dX10_back_41 (fun Q' q => TX3_forget _ q) kvX3_forget ml_X10_100 sh_57 rfl (RRc (by decide) (by decide)) (Nat.le_of_ble_eq_true rfl) ⟨Nat.le_of_ble_eq_true rfl, Nat.le_of_ble_eq_true rfl⟩ (fun f4 h => ?_)
            refine ev_iconst dX10_back_44 (r32c rfl) ?_
            exact ev_iret rfl dX10_back_45 h
          · rw [if_neg c2] at h
            by_cases c5 : x1 = 1
            · rw [if_pos c5] at h
              refine ev_aald (b := 116) dX10_back_33 (Or.inr (Or.inr rfl)) sh_38 (by omega) (by omega) (by rw [c5]; exact rf_38_1) ?_
              refine ev_cVV (b := 4) (av := [vR 116]) (S := []) (fun q => q) h dX10_back_34 (fun Q' q => TX0_become_4_116 _ q) kvX0_become ml_X10_97 sh_4 rfl (RRc (by decide) (by decide)) (Nat.le_of_ble_eq_true rfl) ⟨Nat.le_of_ble_eq_true rfl, Nat.le_of_ble_eq_true rfl⟩ (fun f6 h => ?_)
              refine ev_aload_n (i := 0) dX10_back_37 rfl rfl ?_
              refine ev_getR dX10_back_38 fl_X10_51 sh_0 (by decide) (by decide) rf_0_7 ?_
              refine ev_cVV (b := 57) (av := []) (S := []) (fun q => q) h dX10_back_41 (fun Q' q => TX3_forget _ q) kvX3_forget ml_X10_100 sh_57 rfl (RRc (by decide) (by decide)) (Nat.le_of_ble_eq_true rfl) ⟨Nat.le_of_ble_eq_true rfl, Nat.le_of_ble_eq_true rfl⟩ (fun f7 h => ?_)
              refine ev_iconst dX10_back_44 (r32c rfl) ?_
              exact ev_iret rfl dX10_back_45 h
            · rw [if_neg c5] at h
              by_cases c8 : x1 = 2
              · rw [if_pos c8] at h
                refine ev_aald (b := 133) dX10_back_33 (Or.inr (Or.inr rfl)) sh_38 (by omega) (by omega) (by rw [c8]; exact rf_38_2) ?_
                refine ev_cVV (b := 4) (av := [vR 133]) (S := []) (fun q => q) h dX10_back_34 (fun Q' q => TX0_become_4_133 _ q) kvX0_become ml_X10_97 sh_4 rfl (RRc (by decide) (by decide)) (Nat.le_of_ble_eq_true rfl) ⟨Nat.le_of_ble_eq_true rfl, Nat.le_of_ble_eq_true rfl⟩ (fun f9 h => ?_)
                refine ev_aload_n (i := 0) dX10_back_37 rfl rfl ?_
                refine ev_getR dX10_back_38 fl_X10_51 sh_0 (by decide) (by decide) rf_0_7 ?_
                refine ev_cVV (b := 57) (av := []) (S := []) (fun q => q) h dX10_back_41 (fun Q' q => TX3_forget _ q) kvX3_forget ml_X10_100 sh_57 rfl (RRc (by decide) (by decide)) (Nat.le_of_ble_eq_true rfl) ⟨Nat.le_of_ble_eq_true rfl, Nat.le_of_ble_eq_true rfl⟩ (fun f10 h => ?_)
                refine ev_iconst dX10_back_44 (r32c rfl) ?_
                exact ev_iret rfl dX10_back_45 h
              · rw [if_neg c8] at h
                exact h.elim
        · rw [if_pos c11] at h
          refine ev_bipush (v := (-6)) dX10_back_21 (r32c rfl) (by decide) ?_
          exact ev_iret rfl dX10_back_23 h
      · rw [if_neg g1] at h; exact h.elim
    · rw [if_neg c12] at h
      refine ev_bipush (v := (-2)) dX10_back_9 (r32c rfl) (by decide) ?_
      exact ev_iret rfl dX10_back_11 h
def FX10_back (x1 : Int) (f : Mm) : Option (Int × Mm) := FX10_back_0 x1 f
theorem TX10_back {G : GT} {l : Launch} {Q : Option AV → Mem → Prop} (x1 : Int) (f : Mm) (h : OkI Q (FX10_back x1 f)) : Ret G l MX10_back (3) 0 0 [vR 0, vI x1] (SH, RF, f) Q := by
  refine ret_of (L := [some (vR 0), some (vI x1)]) (by decide) rfl (Nat.le_of_ble_eq_true rfl) ?_
  exact SX10_back_0 x1 f h
theorem dX6_lay_17 : decode cX6_lay 17 = .ok (.iload 4, 2) := by decide +kernel
theorem dX6_lay_19 : decode cX6_lay 19 = .ok (.bipush 60, 2) := by decide +kernel
theorem dX6_lay_21 : decode cX6_lay 21 = .ok (.if_icmp .ge 19, 3) := by decide +kernel
theorem dX6_lay_40 : decode cX6_lay 40 = .ok (.return_, 1) := by decide +kernel
theorem dX6_lay_24 : decode cX6_lay 24 = .ok (.aload_n 0, 1) := by decide +kernel
theorem dX6_lay_25 : decode cX6_lay 25 = .ok (.getfield 11, 3) := by decide +kernel
theorem dX6_lay_28 : decode cX6_lay 28 = .ok (.iload_n 1, 1) := by decide +kernel
theorem dX6_lay_29 : decode cX6_lay 29 = .ok (.aaload, 1) := by decide +kernel
theorem dX6_lay_30 : decode cX6_lay 30 = .ok (.iload 4, 2) := by decide +kernel
theorem dX6_lay_32 : decode cX6_lay 32 = .ok (.lconst 0, 1) := by decide +kernel
theorem dX6_lay_33 : decode cX6_lay 33 = .ok (.lastore, 1) := by decide +kernel
theorem dX6_lay_34 : decode cX6_lay 34 = .ok (.iinc 4 1, 3) := by decide +kernel
theorem dX6_lay_37 : decode cX6_lay 37 = .ok (.goto (-20), 3) := by decide +kernel
theorem dX6_lay_0 : decode cX6_lay 0 = .ok (.aload_n 0, 1) := by decide +kernel
theorem dX6_lay_1 : decode cX6_lay 1 = .ok (.getfield 16, 3) := by decide +kernel
theorem dX6_lay_4 : decode cX6_lay 4 = .ok (.iload_n 1, 1) := by decide +kernel
theorem dX6_lay_5 : decode cX6_lay 5 = .ok (.iload_n 3, 1) := by decide +kernel
theorem dX6_lay_6 : decode cX6_lay 6 = .ok (.iastore, 1) := by decide +kernel
theorem dX6_lay_7 : decode cX6_lay 7 = .ok (.aload_n 0, 1) := by decide +kernel
theorem dX6_lay_8 : decode cX6_lay 8 = .ok (.getfield 20, 3) := by decide +kernel
theorem dX6_lay_11 : decode cX6_lay 11 = .ok (.iload_n 1, 1) := by decide +kernel
theorem dX6_lay_12 : decode cX6_lay 12 = .ok (.iload_n 2, 1) := by decide +kernel
theorem dX6_lay_13 : decode cX6_lay 13 = .ok (.iastore, 1) := by decide +kernel
theorem dX6_lay_14 : decode cX6_lay 14 = .ok (.iconst 0, 1) := by decide +kernel
theorem dX6_lay_15 : decode cX6_lay 15 = .ok (.istore 4, 2) := by decide +kernel
def FX6_lay_17  : Nat → Int → Int → Mm → Option Mm
  | 0, _, _, _ => none
  | n + 1, x1, x4, f => (if 60 ≤ x4 then some f else (if 0 ≤ x1 ∧ x1 < 4 then (if 0 ≤ x4 ∧ x4 < 60 then FX6_lay_17 n x1 (w32 (x4 + 1)) (up f (42 + x1.toNat) x4.toNat 0) else none) else none))
set_option maxHeartbeats 4000000 in
set_option maxRecDepth 100000 in
theorem SX6_lay_17 {G : GT} {l : Launch} {Q : Option AV → Mem → Prop}  : ∀ (n : Nat) (x1 : Int) (x4 : Int) (f : Mm), OkV Q (FX6_lay_17  n x1 x4 f) → Ev G l MX6_lay (Rm 1 0 0) (ZM G Q 0 0) 0 0 17 [some (vR 40), some (vI x1), none, none, some (vI x4)] [] (SH, RF, f) := by
  intro n
  induction n with
  | zero => intro x1 x4 f h; exact absurd h (by rw [FX6_lay_17]; exact fun q => q)
  | succ n ih =>
    intro x1 x4 f h
    rw [FX6_lay_17] at h
    refine ev_iload dX6_lay_17 rfl ?_
    refine ev_bipush (v := 60) dX6_lay_19 (r32c rfl) (by decide) ?_
    refine ev_icmp_ge (tgt := 40) dX6_lay_21 (by decide) (fun c3 => ?_) (fun c3 => ?_)
    · rw [if_pos c3] at h
      exact ev_vret rfl dX6_lay_40 h
    · rw [if_neg c3] at h
      refine ev_aload_n (i := 0) dX6_lay_24 rfl rfl ?_
      refine ev_getR dX6_lay_25 fl_X6_11 sh_40 (by decide) (by decide) rf_40_0 ?_
      refine ev_iload_n (i := 1) dX6_lay_28 rfl rfl ?_
      by_cases g1 : 0 ≤ x1 ∧ x1 < 4
      · rw [if_pos g1] at h
        refine ev_aald (b := (42 + x1.toNat)) dX6_lay_29 (Or.inr (Or.inl rfl)) sh_41 g1.1 g1.2 (rfr_41 g1) ?_
        refine ev_iload dX6_lay_30 rfl ?_
        refine ev_lconst (v := 0) dX6_lay_32 (r64c rfl) (by decide) ?_
        by_cases g2 : 0 ≤ x4 ∧ x4 < 60
        · rw [if_pos g2] at h
          refine ex_last (j := x4.toNat) dX6_lay_33 (shr_41 g1) g2.1 g2.2 rfl ?_
          refine ev_iinc (L' := [some (vR 40), some (vI x1), none, none, some (vI (w32 (x4 + 1)))]) dX6_lay_34 rfl (by decide) rfl ?_
          refine ev_goto (tgt := 17) dX6_lay_37 (by decide) ?_
          exact ih x1 (w32 (x4 + 1)) _ h
        · rw [if_neg g2] at h; exact h.elim
      · rw [if_neg g1] at h; exact h.elim
def FX6_lay_0  (x1 : Int) (x2 : Int) (x3 : Int) (f : Mm) : Option Mm := (if 0 ≤ x1 ∧ x1 < 4 then (if 0 ≤ x1 ∧ x1 < 4 then FX6_lay_17 fu x1 0 (up (up f 46 x1.toNat x3) 47 x1.toNat x2) else none) else none)
set_option maxHeartbeats 4000000 in
set_option maxRecDepth 100000 in
theorem SX6_lay_0 {G : GT} {l : Launch} {Q : Option AV → Mem → Prop}  (x1 : Int) (x2 : Int) (x3 : Int) (f : Mm) (h : OkV Q (FX6_lay_0  x1 x2 x3 f)) : Ev G l MX6_lay (Rm 1 0 0) (ZM G Q 0 0) 0 0 0 [some (vR 40), some (vI x1), some (vI x2), some (vI x3), none] [] (SH, RF, f) := by
  unfold FX6_lay_0 at h
  refine ev_aload_n (i := 0) dX6_lay_0 rfl rfl ?_
  refine ev_getR dX6_lay_1 fl_X6_16 sh_40 (by decide) (by decide) rf_40_1 ?_
  refine ev_iload_n (i := 1) dX6_lay_4 rfl rfl ?_
  refine ev_iload_n (i := 3) dX6_lay_5 rfl rfl ?_
  by_cases g1 : 0 ≤ x1 ∧ x1 < 4
  · rw [if_pos g1] at h
    refine ex_iast (j := x1.toNat) dX6_lay_6 sh_46 g1.1 g1.2 rfl ?_
    refine ev_aload_n (i := 0) dX6_lay_7 rfl rfl ?_
    refine ev_getR dX6_lay_8 fl_X6_20 sh_40 (by decide) (by decide) rf_40_2 ?_
    refine ev_iload_n (i := 1) dX6_lay_11 rfl rfl ?_
    refine ev_iload_n (i := 2) dX6_lay_12 rfl rfl ?_
    by_cases g2 : 0 ≤ x1 ∧ x1 < 4
    · rw [if_pos g2] at h
      refine ex_iast (j := x1.toNat) dX6_lay_13 sh_47 g2.1 g2.2 rfl ?_
      refine ev_iconst dX6_lay_14 (r32c rfl) ?_
      refine ev_istore (L' := [some (vR 40), some (vI x1), some (vI x2), some (vI x3), some (vI 0)]) dX6_lay_15 (by decide) rfl ?_
      refine ev_fg [true, true, false, false, true] rfl ?_
      exact SX6_lay_17  fu x1 0 _ h
    · rw [if_neg g2] at h; exact h.elim
  · rw [if_neg g1] at h; exact h.elim
def FX6_lay (x1 : Int) (x2 : Int) (x3 : Int) (f : Mm) : Option Mm := FX6_lay_0 x1 x2 x3 f
theorem TX6_lay {G : GT} {l : Launch} {Q : Option AV → Mem → Prop} (x1 : Int) (x2 : Int) (x3 : Int) (f : Mm) (h : OkV Q (FX6_lay x1 x2 x3 f)) : Ret G l MX6_lay (1) 0 0 [vR 40, vI x1, vI x2, vI x3] (SH, RF, f) Q := by
  refine ret_of (L := [some (vR 40), some (vI x1), some (vI x2), some (vI x3), none]) (by decide) rfl (Nat.le_of_ble_eq_true rfl) ?_
  exact SX6_lay_0 x1 x2 x3 f h
theorem dX10_row_0 : decode cX10_row 0 = .ok (.iload_n 1, 1) := by decide +kernel
theorem dX10_row_1 : decode cX10_row 1 = .ok (.invokestatic 389, 3) := by decide +kernel
theorem dX10_row_4 : decode cX10_row 4 = .ok (.ifCond .eq 18, 3) := by decide +kernel
theorem dX10_row_22 : decode cX10_row 22 = .ok (.bipush (-2), 2) := by decide +kernel
theorem dX10_row_24 : decode cX10_row 24 = .ok (.ireturn, 1) := by decide +kernel
theorem dX10_row_7 : decode cX10_row 7 = .ok (.iload_n 2, 1) := by decide +kernel
theorem dX10_row_8 : decode cX10_row 8 = .ok (.ifCond .lt 14, 3) := by decide +kernel
theorem dX10_row_11 : decode cX10_row 11 = .ok (.iload_n 2, 1) := by decide +kernel
theorem dX10_row_12 : decode cX10_row 12 = .ok (.iconst 4, 1) := by decide +kernel
theorem dX10_row_13 : decode cX10_row 13 = .ok (.if_icmp .ge 9, 3) := by decide +kernel
theorem dX10_row_16 : decode cX10_row 16 = .ok (.iload_n 3, 1) := by decide +kernel
theorem dX10_row_17 : decode cX10_row 17 = .ok (.bipush 60, 2) := by decide +kernel
theorem dX10_row_19 : decode cX10_row 19 = .ok (.if_icmp .le 6, 3) := by decide +kernel
theorem dX10_row_25 : decode cX10_row 25 = .ok (.iload_n 3, 1) := by decide +kernel
theorem dX10_row_26 : decode cX10_row 26 = .ok (.ifCond .ge 6, 3) := by decide +kernel
theorem dX10_row_32 : decode cX10_row 32 = .ok (.aload_n 0, 1) := by decide +kernel
theorem dX10_row_33 : decode cX10_row 33 = .ok (.getfield 37, 3) := by decide +kernel
theorem dX10_row_36 : decode cX10_row 36 = .ok (.iload_n 1, 1) := by decide +kernel
theorem dX10_row_37 : decode cX10_row 37 = .ok (.iload_n 2, 1) := by decide +kernel
theorem dX10_row_38 : decode cX10_row 38 = .ok (.iload_n 3, 1) := by decide +kernel
theorem dX10_row_39 : decode cX10_row 39 = .ok (.invokevirtual 392, 3) := by decide +kernel
theorem dX10_row_42 : decode cX10_row 42 = .ok (.iconst 0, 1) := by decide +kernel
theorem dX10_row_43 : decode cX10_row 43 = .ok (.ireturn, 1) := by decide +kernel
theorem dX10_row_29 : decode cX10_row 29 = .ok (.bipush (-3), 2) := by decide +kernel
theorem dX10_row_31 : decode cX10_row 31 = .ok (.ireturn, 1) := by decide +kernel
def FX10_row_0  (x1 : Int) (x2 : Int) (x3 : Int) (f : Mm) : Option (Int × Mm) := (b2 (FX10_isSlot x1 f) fun y1 f1 => (if y1 = 0 then some ((-2), f1) else (if x2 < 0 then some ((-2), f1) else (if 4 ≤ x2 then some ((-2), f1) else (if x3 ≤ 60 then (if 0 ≤ x3 then ((FX6_lay x1 x2 x3 f1).bind fun f2 => some (0, f2)) else some ((-3), f1)) else some ((-2), f1))))))
set_option maxHeartbeats 4000000 in
set_option maxRecDepth 100000 in
theorem SX10_row_0 {G : GT} {l : Launch} {Q : Option AV → Mem → Prop}  (x1 : Int) (x2 : Int) (x3 : Int) (f : Mm) (h : OkI Q (FX10_row_0  x1 x2 x3 f)) : Ev G l MX10_row (Rm 2 0 0) (ZM G Q 0 0) 0 0 0 [some (vR 0), some (vI x1), some (vI x2), some (vI x3)] [] (SH, RF, f) := by
  unfold FX10_row_0 at h
  refine ev_iload_n (i := 1) dX10_row_0 rfl rfl ?_
  refine ev_cSI (av := [vI x1]) (S := []) (fun q => q) h dX10_row_1 (fun Q' q => TX10_isSlot x1 _ q) ksX10_isSlot ml_X10_389 rfl (RRc (by decide) (by decide)) (Nat.le_of_ble_eq_true rfl) ⟨Nat.le_of_ble_eq_true rfl, Nat.le_of_ble_eq_true rfl⟩ (fun y1 f1 h => ?_)
  refine ev_if_eq (tgt := 22) dX10_row_4 (by decide) (fun c7 => ?_) (fun c7 => ?_)
  · rw [if_pos c7] at h
    refine ev_bipush (v := (-2)) dX10_row_22 (r32c rfl) (by decide) ?_
    exact ev_iret rfl dX10_row_24 h
  · rw [if_neg c7] at h
    refine ev_iload_n (i := 2) dX10_row_7 rfl rfl ?_
    refine ev_if_lt (tgt := 22) dX10_row_8 (by decide) (fun c6 => ?_) (fun c6 => ?_)
    · rw [if_pos c6] at h
      refine ev_bipush (v := (-2)) dX10_row_22 (r32c rfl) (by decide) ?_
      exact ev_iret rfl dX10_row_24 h
    · rw [if_neg c6] at h
      refine ev_iload_n (i := 2) dX10_row_11 rfl rfl ?_
      refine ev_iconst dX10_row_12 (r32c rfl) ?_
      refine ev_icmp_ge (tgt := 22) dX10_row_13 (by decide) (fun c5 => ?_) (fun c5 => ?_)
      · rw [if_pos c5] at h
        refine ev_bipush (v := (-2)) dX10_row_22 (r32c rfl) (by decide) ?_
        exact ev_iret rfl dX10_row_24 h
      · rw [if_neg c5] at h
        refine ev_iload_n (i := 3) dX10_row_16 rfl rfl ?_
        refine ev_bipush (v := 60) dX10_row_17 (r32c rfl) (by decide) ?_
        refine ev_icmp_le (tgt := 25) dX10_row_19 (by decide) (fun c4 => ?_) (fun c4 => ?_)
        · rw [if_pos c4] at h
          refine ev_iload_n (i := 3) dX10_row_25 rfl rfl ?_
          refine ev_if_ge (tgt := 32) dX10_row_26 (by decide) (fun c3 => ?_) (fun c3 => ?_)
          · rw [if_pos c3] at h
            refine ev_aload_n (i := 0) dX10_row_32 rfl rfl ?_
            refine ev_getR dX10_row_33 fl_X10_37 sh_0 (by decide) (by decide) rf_0_5 ?_
            refine ev_iload_n (i := 1) dX10_row_36 rfl rfl ?_
            refine ev_iload_n (i := 2) dX10_row_37 rfl rfl ?_
            refine ev_iload_n (i := 3) dX10_row_38 rfl rfl ?_
            refine ev_cVV (b := 40) (av := [vI x1, vI x2, vI x3]) (S := []) (fun q => q) h dX10_row_39 (fun Q' q => TX6_lay x1 x2 x3 _ q) kvX6_lay ml_X10_392 sh_40 rfl (RRc (by decide) (by decide)) (Nat.le_of_ble_eq_true rfl) ⟨Nat.le_of_ble_eq_true rfl, Nat.le_of_ble_eq_true rfl⟩ (fun f2 h => ?_)
            refine ev_iconst dX10_row_42 (r32c rfl) ?_
            exact ev_iret rfl dX10_row_43 h
          · rw [if_neg c3] at h
            refine ev_bipush (v := (-3)) dX10_row_29 (r32c rfl) (by decide) ?_
            exact ev_iret rfl dX10_row_31 h
        · rw [if_neg c4] at h
          refine ev_bipush (v := (-2)) dX10_row_22 (r32c rfl) (by decide) ?_
          exact ev_iret rfl dX10_row_24 h
def FX10_row (x1 : Int) (x2 : Int) (x3 : Int) (f : Mm) : Option (Int × Mm) := FX10_row_0 x1 x2 x3 f
theorem TX10_row {G : GT} {l : Launch} {Q : Option AV → Mem → Prop} (x1 : Int) (x2 : Int) (x3 : Int) (f : Mm) (h : OkI Q (FX10_row x1 x2 x3 f)) : Ret G l MX10_row (2) 0 0 [vR 0, vI x1, vI x2, vI x3] (SH, RF, f) Q := by
  refine ret_of (L := [some (vR 0), some (vI x1), some (vI x2), some (vI x3)]) (by decide) rfl (Nat.le_of_ble_eq_true rfl) ?_
  exact SX10_row_0 x1 x2 x3 f h
theorem dX10_cut_0 : decode cX10_cut 0 = .ok (.iload_n 2, 1) := by decide +kernel
theorem dX10_cut_1 : decode cX10_cut 1 = .ok (.tableswitch 41 0 2 #[27, 32, 37], 27) := by decide +kernel
theorem dX10_cut_28 : decode cX10_cut 28 = .ok (.lload_n 0, 1) := by decide +kernel
theorem dX10_cut_29 : decode cX10_cut 29 = .ok (.l2i, 1) := by decide +kernel
theorem dX10_cut_30 : decode cX10_cut 30 = .ok (.i2b, 1) := by decide +kernel
theorem dX10_cut_31 : decode cX10_cut 31 = .ok (.i2l, 1) := by decide +kernel
theorem dX10_cut_32 : decode cX10_cut 32 = .ok (.lreturn, 1) := by decide +kernel
theorem dX10_cut_33 : decode cX10_cut 33 = .ok (.lload_n 0, 1) := by decide +kernel
theorem dX10_cut_34 : decode cX10_cut 34 = .ok (.l2i, 1) := by decide +kernel
theorem dX10_cut_35 : decode cX10_cut 35 = .ok (.i2s, 1) := by decide +kernel
theorem dX10_cut_36 : decode cX10_cut 36 = .ok (.i2l, 1) := by decide +kernel
theorem dX10_cut_37 : decode cX10_cut 37 = .ok (.lreturn, 1) := by decide +kernel
theorem dX10_cut_38 : decode cX10_cut 38 = .ok (.lload_n 0, 1) := by decide +kernel
theorem dX10_cut_39 : decode cX10_cut 39 = .ok (.l2i, 1) := by decide +kernel
theorem dX10_cut_40 : decode cX10_cut 40 = .ok (.i2l, 1) := by decide +kernel
theorem dX10_cut_41 : decode cX10_cut 41 = .ok (.lreturn, 1) := by decide +kernel
theorem dX10_cut_42 : decode cX10_cut 42 = .ok (.lload_n 0, 1) := by decide +kernel
theorem dX10_cut_43 : decode cX10_cut 43 = .ok (.lreturn, 1) := by decide +kernel
def FX10_cut_0  (x0 : Int) (x2 : Int) (f : Mm) : Option (Int × Mm) := (if x2 = 0 then some ((w8 (w32 x0)), f) else (if x2 = 1 then some ((w16 (w32 x0)), f) else (if x2 = 2 then some ((w32 x0), f) else some (x0, f))))
set_option maxHeartbeats 4000000 in
set_option maxRecDepth 100000 in
theorem SX10_cut_0 {G : GT} {l : Launch} {Q : Option AV → Mem → Prop}  (x0 : Int) (x2 : Int) (f : Mm) (h : OkJ Q (FX10_cut_0  x0 x2 f)) : Ev G l MX10_cut (Rm 1 0 0) (ZM G Q 0 0) 0 0 0 [some (vJ x0), none, some (vI x2)] [] (SH, RF, f) := by
  unfold FX10_cut_0 at h
  refine ev_iload_n (i := 2) dX10_cut_0 rfl rfl ?_
  by_cases c1 : x2 = 0
  · rw [if_pos c1] at h
    refine ev_tIn (off := 27) (tgt := 28) dX10_cut_1 (by omega) (by omega) (by rw [c1]; rfl) (by decide) ?_
    refine ev_lload_n (i := 0) dX10_cut_28 rfl rfl ?_
    refine ev_l2i dX10_cut_29 ?_
    refine ev_i2b dX10_cut_30 ?_
    refine ev_i2l dX10_cut_31 ?_
    exact ev_lret rfl dX10_cut_32 h
  · rw [if_neg c1] at h
    by_cases c2 : x2 = 1
    · rw [if_pos c2] at h
      refine ev_tIn (off := 32) (tgt := 33) dX10_cut_1 (by omega) (by omega) (by rw [c2]; rfl) (by decide) ?_
      refine ev_lload_n (i := 0) dX10_cut_33 rfl rfl ?_
      refine ev_l2i dX10_cut_34 ?_
      refine ev_i2s dX10_cut_35 ?_
      refine ev_i2l dX10_cut_36 ?_
      exact ev_lret rfl dX10_cut_37 h
    · rw [if_neg c2] at h
      by_cases c3 : x2 = 2
      · rw [if_pos c3] at h
        refine ev_tIn (off := 37) (tgt := 38) dX10_cut_1 (by omega) (by omega) (by rw [c3]; rfl) (by decide) ?_
        refine ev_lload_n (i := 0) dX10_cut_38 rfl rfl ?_
        refine ev_l2i dX10_cut_39 ?_
        refine ev_i2l dX10_cut_40 ?_
        exact ev_lret rfl dX10_cut_41 h
      · rw [if_neg c3] at h
        refine ev_tOut (tgt := 42) dX10_cut_1 (by omega) (by decide) ?_
        refine ev_lload_n (i := 0) dX10_cut_42 rfl rfl ?_
        exact ev_lret rfl dX10_cut_43 h
def FX10_cut (x0 : Int) (x2 : Int) (f : Mm) : Option (Int × Mm) := FX10_cut_0 x0 x2 f
theorem TX10_cut {G : GT} {l : Launch} {Q : Option AV → Mem → Prop} (x0 : Int) (x2 : Int) (f : Mm) (h : OkJ Q (FX10_cut x0 x2 f)) : Ret G l MX10_cut (1) 0 0 [vJ x0, vI x2] (SH, RF, f) Q := by
  refine ret_of (L := [some (vJ x0), none, some (vI x2)]) (by decide) rfl (Nat.le_of_ble_eq_true rfl) ?_
  exact SX10_cut_0 x0 x2 f h
theorem dX10_write_0 : decode cX10_write 0 = .ok (.iload_n 1, 1) := by decide +kernel
theorem dX10_write_1 : decode cX10_write 1 = .ok (.invokestatic 389, 3) := by decide +kernel
theorem dX10_write_4 : decode cX10_write 4 = .ok (.ifCond .ne 6, 3) := by decide +kernel
theorem dX10_write_10 : decode cX10_write 10 = .ok (.aload_n 0, 1) := by decide +kernel
theorem dX10_write_11 : decode cX10_write 11 = .ok (.getfield 37, 3) := by decide +kernel
theorem dX10_write_14 : decode cX10_write 14 = .ok (.iload_n 1, 1) := by decide +kernel
theorem dX10_write_15 : decode cX10_write 15 = .ok (.invokevirtual 396, 3) := by decide +kernel
theorem dX10_write_18 : decode cX10_write 18 = .ok (.ifCond .ne 6, 3) := by decide +kernel
theorem dX10_write_24 : decode cX10_write 24 = .ok (.iload_n 2, 1) := by decide +kernel
theorem dX10_write_25 : decode cX10_write 25 = .ok (.ifCond .lt 16, 3) := by decide +kernel
theorem dX10_write_41 : decode cX10_write 41 = .ok (.bipush (-7), 2) := by decide +kernel
theorem dX10_write_43 : decode cX10_write 43 = .ok (.ireturn, 1) := by decide +kernel
theorem dX10_write_28 : decode cX10_write 28 = .ok (.iload_n 2, 1) := by decide +kernel
theorem dX10_write_29 : decode cX10_write 29 = .ok (.aload_n 0, 1) := by decide +kernel
theorem dX10_write_30 : decode cX10_write 30 = .ok (.getfield 37, 3) := by decide +kernel
theorem dX10_write_33 : decode cX10_write 33 = .ok (.getfield 399, 3) := by decide +kernel
theorem dX10_write_36 : decode cX10_write 36 = .ok (.iload_n 1, 1) := by decide +kernel
theorem dX10_write_37 : decode cX10_write 37 = .ok (.iaload, 1) := by decide +kernel
theorem dX10_write_38 : decode cX10_write 38 = .ok (.if_icmp .lt 6, 3) := by decide +kernel
theorem dX10_write_44 : decode cX10_write 44 = .ok (.aload_n 0, 1) := by decide +kernel
theorem dX10_write_45 : decode cX10_write 45 = .ok (.getfield 37, 3) := by decide +kernel
theorem dX10_write_48 : decode cX10_write 48 = .ok (.getfield 402, 3) := by decide +kernel
theorem dX10_write_51 : decode cX10_write 51 = .ok (.iload_n 1, 1) := by decide +kernel
theorem dX10_write_52 : decode cX10_write 52 = .ok (.aaload, 1) := by decide +kernel
theorem dX10_write_53 : decode cX10_write 53 = .ok (.iload_n 2, 1) := by decide +kernel
theorem dX10_write_54 : decode cX10_write 54 = .ok (.lload_n 3, 1) := by decide +kernel
theorem dX10_write_55 : decode cX10_write 55 = .ok (.aload_n 0, 1) := by decide +kernel
theorem dX10_write_56 : decode cX10_write 56 = .ok (.getfield 37, 3) := by decide +kernel
theorem dX10_write_59 : decode cX10_write 59 = .ok (.getfield 406, 3) := by decide +kernel
theorem dX10_write_62 : decode cX10_write 62 = .ok (.iload_n 1, 1) := by decide +kernel
theorem dX10_write_63 : decode cX10_write 63 = .ok (.iaload, 1) := by decide +kernel
theorem dX10_write_64 : decode cX10_write 64 = .ok (.invokestatic 409, 3) := by decide +kernel
theorem dX10_write_67 : decode cX10_write 67 = .ok (.lastore, 1) := by decide +kernel
theorem dX10_write_68 : decode cX10_write 68 = .ok (.iconst 0, 1) := by decide +kernel
theorem dX10_write_69 : decode cX10_write 69 = .ok (.ireturn, 1) := by decide +kernel
theorem dX10_write_21 : decode cX10_write 21 = .ok (.bipush (-6), 2) := by decide +kernel
theorem dX10_write_23 : decode cX10_write 23 = .ok (.ireturn, 1) := by decide +kernel
theorem dX10_write_7 : decode cX10_write 7 = .ok (.bipush (-2), 2) := by decide +kernel
theorem dX10_write_9 : decode cX10_write 9 = .ok (.ireturn, 1) := by decide +kernel
def FX10_write_0  (x1 : Int) (x2 : Int) (x3 : Int) (f : Mm) : Option (Int × Mm) := (b2 (FX10_isSlot x1 f) fun y1 f1 => (if y1 = 0 then some ((-2), f1) else (b2 (FX6_hasRow x1 f1) fun y2 f2 => (if y2 = 0 then some ((-6), f2) else (if x2 < 0 then some ((-7), f2) else (if 0 ≤ x1 ∧ x1 < 4 then (if x2 < (f2 46 x1.toNat) then (if 0 ≤ x1 ∧ x1 < 4 then (if 0 ≤ x1 ∧ x1 < 4 then (b2 (FX10_cut x3 (f2 47 x1.toNat) f2) fun y6 f6 => (if 0 ≤ x2 ∧ x2 < 60 then some (0, (up f6 (42 + x1.toNat) x2.toNat y6)) else none)) else none) else none) else some ((-7), f2)) else none))))))
set_option maxHeartbeats 4000000 in
set_option maxRecDepth 100000 in
theorem SX10_write_0 {G : GT} {l : Launch} {Q : Option AV → Mem → Prop}  (x1 : Int) (x2 : Int) (x3 : Int) (f : Mm) (h : OkI Q (FX10_write_0  x1 x2 x3 f)) : Ev G l MX10_write (Rm 2 0 0) (ZM G Q 0 0) 0 0 0 [some (vR 0), some (vI x1), some (vI x2), some (vJ x3), none] [] (SH, RF, f) := by
  unfold FX10_write_0 at h
  refine ev_iload_n (i := 1) dX10_write_0 rfl rfl ?_
  refine ev_cSI (av := [vI x1]) (S := []) (fun q => q) h dX10_write_1 (fun Q' q => TX10_isSlot x1 _ q) ksX10_isSlot ml_X10_389 rfl (RRc (by decide) (by decide)) (Nat.le_of_ble_eq_true rfl) ⟨Nat.le_of_ble_eq_true rfl, Nat.le_of_ble_eq_true rfl⟩ (fun y1 f1 h => ?_)
  refine ev_if_ne (tgt := 10) dX10_write_4 (by decide) (fun c11 => ?_) (fun c11 => ?_)
  · rw [if_neg c11] at h
    refine ev_aload_n (i := 0) dX10_write_10 rfl rfl ?_
    refine ev_getR dX10_write_11 fl_X10_37 sh_0 (by decide) (by decide) rf_0_5 ?_
    refine ev_iload_n (i := 1) dX10_write_14 rfl rfl ?_
    refine ev_cVI (b := 40) (av := [vI x1]) (S := []) (fun q => q) h dX10_write_15 (fun Q' q => TX6_hasRow x1 _ q) kvX6_hasRow ml_X10_396 sh_40 rfl (RRc (by decide) (by decide)) (Nat.le_of_ble_eq_true rfl) ⟨Nat.le_of_ble_eq_true rfl, Nat.le_of_ble_eq_true rfl⟩ (fun y2 f2 h => ?_)
    refine ev_if_ne (tgt := 24) dX10_write_18 (by decide) (fun c10 => ?_) (fun c10 => ?_)
    · rw [if_neg c10] at h
      refine ev_iload_n (i := 2) dX10_write_24 rfl rfl ?_
      refine ev_if_lt (tgt := 41) dX10_write_25 (by decide) (fun c9 => ?_) (fun c9 => ?_)
      · rw [if_pos c9] at h
        refine ev_bipush (v := (-7)) dX10_write_41 (r32c rfl) (by decide) ?_
        exact ev_iret rfl dX10_write_43 h
      · rw [if_neg c9] at h
        refine ev_iload_n (i := 2) dX10_write_28 rfl rfl ?_
        refine ev_aload_n (i := 0) dX10_write_29 rfl rfl ?_
        refine ev_getR dX10_write_30 fl_X10_37 sh_0 (by decide) (by decide) rf_0_5 ?_
        refine ev_getR dX10_write_33 fl_X10_399 sh_40 (by decide) (by decide) rf_40_1 ?_
        refine ev_iload_n (i := 1) dX10_write_36 rfl rfl ?_
        by_cases g3 : 0 ≤ x1 ∧ x1 < 4
        · rw [if_pos g3] at h
          refine ex_iald (x := (f2 46 x1.toNat)) dX10_write_37 sh_46 g3.1 g3.2 rfl ?_
          refine ev_icmp_lt (tgt := 44) dX10_write_38 (by decide) (fun c8 => ?_) (fun c8 => ?_)
          · rw [if_pos c8] at h
            refine ev_aload_n (i := 0) dX10_write_44 rfl rfl ?_
            refine ev_getR dX10_write_45 fl_X10_37 sh_0 (by decide) (by decide) rf_0_5 ?_
            refine ev_getR dX10_write_48 fl_X10_402 sh_40 (by decide) (by decide) rf_40_0 ?_
            refine ev_iload_n (i := 1) dX10_write_51 rfl rfl ?_
            by_cases g4 : 0 ≤ x1 ∧ x1 < 4
            · rw [if_pos g4] at h
              refine ev_aald (b := (42 + x1.toNat)) dX10_write_52 (Or.inr (Or.inl rfl)) sh_41 g4.1 g4.2 (rfr_41 g4) ?_
              refine ev_iload_n (i := 2) dX10_write_53 rfl rfl ?_
              refine ev_lload_n (i := 3) dX10_write_54 rfl rfl ?_
              refine ev_aload_n (i := 0) dX10_write_55 rfl rfl ?_
              refine ev_getR dX10_write_56 fl_X10_37 sh_0 (by decide) (by decide) rf_0_5 ?_
              refine ev_getR dX10_write_59 fl_X10_406 sh_40 (by decide) (by decide) rf_40_2 ?_
              refine ev_iload_n (i := 1) dX10_write_62 rfl rfl ?_
              by_cases g5 : 0 ≤ x1 ∧ x1 < 4
              · rw [if_pos g5] at h
                refine ex_iald (x := (f2 47 x1.toNat)) dX10_write_63 sh_47 g5.1 g5.2 rfl ?_
                refine ev_cSJ (av := [vJ x3, vI (f2 47 x1.toNat)]) (S := [vI x2, vR (42 + x1.toNat)]) (fun q => q) h dX10_write_64 (fun Q' q => TX10_cut x3 (f2 47 x1.toNat) _ q) ksX10_cut ml_X10_409 rfl (RRc (by decide) (by decide)) (Nat.le_of_ble_eq_true rfl) ⟨Nat.le_of_ble_eq_true rfl, Nat.le_of_ble_eq_true rfl⟩ (fun y6 f6 h => ?_)
                by_cases g7 : 0 ≤ x2 ∧ x2 < 60
                · rw [if_pos g7] at h
                  refine ex_last (j := x2.toNat) dX10_write_67 (shr_41 g4) g7.1 g7.2 rfl ?_
                  refine ev_iconst dX10_write_68 (r32c rfl) ?_
                  exact ev_iret rfl dX10_write_69 h
                · rw [if_neg g7] at h; exact h.elim
              · rw [if_neg g5] at h; exact h.elim
            · rw [if_neg g4] at h; exact h.elim
          · rw [if_neg c8] at h
            refine ev_bipush (v := (-7)) dX10_write_41 (r32c rfl) (by decide) ?_
            exact ev_iret rfl dX10_write_43 h
        · rw [if_neg g3] at h; exact h.elim
    · rw [if_pos c10] at h
      refine ev_bipush (v := (-6)) dX10_write_21 (r32c rfl) (by decide) ?_
      exact ev_iret rfl dX10_write_23 h
  · rw [if_pos c11] at h
    refine ev_bipush (v := (-2)) dX10_write_7 (r32c rfl) (by decide) ?_
    exact ev_iret rfl dX10_write_9 h
def FX10_write (x1 : Int) (x2 : Int) (x3 : Int) (f : Mm) : Option (Int × Mm) := FX10_write_0 x1 x2 x3 f
theorem TX10_write {G : GT} {l : Launch} {Q : Option AV → Mem → Prop} (x1 : Int) (x2 : Int) (x3 : Int) (f : Mm) (h : OkI Q (FX10_write x1 x2 x3 f)) : Ret G l MX10_write (2) 0 0 [vR 0, vI x1, vI x2, vJ x3] (SH, RF, f) Q := by
  refine ret_of (L := [some (vR 0), some (vI x1), some (vI x2), some (vJ x3), none]) (by decide) rfl (Nat.le_of_ble_eq_true rfl) ?_
  exact SX10_write_0 x1 x2 x3 f h
theorem dX6_reaches_0 : decode cX6_reaches 0 = .ok (.iload_n 2, 1) := by decide +kernel
theorem dX6_reaches_1 : decode cX6_reaches 1 = .ok (.ifCond .lt 23, 3) := by decide +kernel
theorem dX6_reaches_24 : decode cX6_reaches 24 = .ok (.iconst 0, 1) := by decide +kernel
theorem dX6_reaches_25 : decode cX6_reaches 25 = .ok (.ireturn, 1) := by decide +kernel
theorem dX6_reaches_4 : decode cX6_reaches 4 = .ok (.iload_n 3, 1) := by decide +kernel
theorem dX6_reaches_5 : decode cX6_reaches 5 = .ok (.ifCond .lt 19, 3) := by decide +kernel
theorem dX6_reaches_8 : decode cX6_reaches 8 = .ok (.iload_n 2, 1) := by decide +kernel
theorem dX6_reaches_9 : decode cX6_reaches 9 = .ok (.aload_n 0, 1) := by decide +kernel
theorem dX6_reaches_10 : decode cX6_reaches 10 = .ok (.getfield 16, 3) := by decide +kernel
theorem dX6_reaches_13 : decode cX6_reaches 13 = .ok (.iload_n 1, 1) := by decide +kernel
theorem dX6_reaches_14 : decode cX6_reaches 14 = .ok (.iaload, 1) := by decide +kernel
theorem dX6_reaches_15 : decode cX6_reaches 15 = .ok (.iload_n 3, 1) := by decide +kernel
theorem dX6_reaches_16 : decode cX6_reaches 16 = .ok (.isub, 1) := by decide +kernel
theorem dX6_reaches_17 : decode cX6_reaches 17 = .ok (.if_icmp .gt 7, 3) := by decide +kernel
theorem dX6_reaches_20 : decode cX6_reaches 20 = .ok (.iconst 1, 1) := by decide +kernel
theorem dX6_reaches_21 : decode cX6_reaches 21 = .ok (.goto 4, 3) := by decide +kernel
def FX6_reaches_0  (x1 : Int) (x2 : Int) (x3 : Int) (f : Mm) : Option (Int × Mm) := (if x2 < 0 then some (0, f) else (if x3 < 0 then some (0, f) else (if 0 ≤ x1 ∧ x1 < 4 then (if (w32 ((f 46 x1.toNat) - x3)) < x2 then some (0, f) else some (1, f)) else none)))
set_option maxHeartbeats 4000000 in
set_option maxRecDepth 100000 in
theorem SX6_reaches_0 {G : GT} {l : Launch} {Q : Option AV → Mem → Prop}  (x1 : Int) (x2 : Int) (x3 : Int) (f : Mm) (h : OkI Q (FX6_reaches_0  x1 x2 x3 f)) : Ev G l MX6_reaches (Rm 1 0 0) (ZM G Q 0 0) 0 0 0 [some (vR 40), some (vI x1), some (vI x2), some (vI x3)] [] (SH, RF, f) := by
  unfold FX6_reaches_0 at h
  refine ev_iload_n (i := 2) dX6_reaches_0 rfl rfl ?_
  refine ev_if_lt (tgt := 24) dX6_reaches_1 (by decide) (fun c4 => ?_) (fun c4 => ?_)
  · rw [if_pos c4] at h
    refine ev_iconst dX6_reaches_24 (r32c rfl) ?_
    exact ev_zret rfl (by decide) dX6_reaches_25 h
  · rw [if_neg c4] at h
    refine ev_iload_n (i := 3) dX6_reaches_4 rfl rfl ?_
    refine ev_if_lt (tgt := 24) dX6_reaches_5 (by decide) (fun c3 => ?_) (fun c3 => ?_)
    · rw [if_pos c3] at h
      refine ev_iconst dX6_reaches_24 (r32c rfl) ?_
      exact ev_zret rfl (by decide) dX6_reaches_25 h
    · rw [if_neg c3] at h
      refine ev_iload_n (i := 2) dX6_reaches_8 rfl rfl ?_
      refine ev_aload_n (i := 0) dX6_reaches_9 rfl rfl ?_
      refine ev_getR dX6_reaches_10 fl_X6_16 sh_40 (by decide) (by decide) rf_40_1 ?_
      refine ev_iload_n (i := 1) dX6_reaches_13 rfl rfl ?_
      by_cases g1 : 0 ≤ x1 ∧ x1 < 4
      · rw [if_pos g1] at h
        refine ex_iald (x := (f 46 x1.toNat)) dX6_reaches_14 sh_46 g1.1 g1.2 rfl ?_
        refine ev_iload_n (i := 3) dX6_reaches_15 rfl rfl ?_
        refine ev_isub dX6_reaches_16 ?_
        refine ev_icmp_gt (tgt := 24) dX6_reaches_17 (by decide) (fun c2 => ?_) (fun c2 => ?_)
        · rw [if_pos c2] at h
          refine ev_iconst dX6_reaches_24 (r32c rfl) ?_
          exact ev_zret rfl (by decide) dX6_reaches_25 h
        · rw [if_neg c2] at h
          refine ev_iconst dX6_reaches_20 (r32c rfl) ?_
          refine ev_goto (tgt := 25) dX6_reaches_21 (by decide) ?_
          exact ev_zret rfl (by decide) dX6_reaches_25 h
      · rw [if_neg g1] at h; exact h.elim
def FX6_reaches (x1 : Int) (x2 : Int) (x3 : Int) (f : Mm) : Option (Int × Mm) := FX6_reaches_0 x1 x2 x3 f
theorem TX6_reaches {G : GT} {l : Launch} {Q : Option AV → Mem → Prop} (x1 : Int) (x2 : Int) (x3 : Int) (f : Mm) (h : OkI Q (FX6_reaches x1 x2 x3 f)) : Ret G l MX6_reaches (1) 0 0 [vR 40, vI x1, vI x2, vI x3] (SH, RF, f) Q := by
  refine ret_of (L := [some (vR 40), some (vI x1), some (vI x2), some (vI x3)]) (by decide) rfl (Nat.le_of_ble_eq_true rfl) ?_
  exact SX6_reaches_0 x1 x2 x3 f h

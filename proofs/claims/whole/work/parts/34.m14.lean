theorem dX10_back_0 : decode cX10_back 0 = .ok (.iload_n 1, 1) := by decide +kernel
theorem dX10_back_1 : decode cX10_back 1 = .ok (.ifCond .lt 8, 3) := by decide +kernel
theorem dX10_back_9 : decode cX10_back 9 = .ok (.bipush (-2), 2) := by decide +kernel
theorem dX10_back_11 : decode cX10_back 11 = .ok (.ireturn, 1) := by decide +kernel
theorem dX10_back_4 : decode cX10_back 4 = .ok (.iload_n 1, 1) := by decide +kernel
theorem dX10_back_5 : decode cX10_back 5 = .ok (.iconst 3, 1) := by decide +kernel
theorem dX10_back_6 : decode cX10_back 6 = .ok (.if_icmp .lt 6, 3) := by decide +kernel
theorem dX10_back_12 : decode cX10_back 12 = .ok (.aload_n 0, 1) := by decide +kernel
theorem dX10_back_13 : decode cX10_back 13 = .ok (.getfield 30, 3) := by decide +kernel
theorem dX10_back_16 : decode cX10_back 16 = .ok (.iload_n 1, 1) := by decide +kernel
theorem dX10_back_17 : decode cX10_back 17 = .ok (.baload, 1) := by decide +kernel
theorem dX10_back_18 : decode cX10_back 18 = .ok (.ifCond .ne 6, 3) := by decide +kernel
theorem dX10_back_24 : decode cX10_back 24 = .ok (.aload_n 0, 1) := by decide +kernel
theorem dX10_back_25 : decode cX10_back 25 = .ok (.getfield 19, 3) := by decide +kernel
theorem dX10_back_28 : decode cX10_back 28 = .ok (.aload_n 0, 1) := by decide +kernel
theorem dX10_back_29 : decode cX10_back 29 = .ok (.getfield 26, 3) := by decide +kernel
theorem dX10_back_32 : decode cX10_back 32 = .ok (.iload_n 1, 1) := by decide +kernel
theorem dX10_back_33 : decode cX10_back 33 = .ok (.aaload, 1) := by decide +kernel
theorem dX10_back_34 : decode cX10_back 34 = .ok (.invokevirtual 97, 3) := by decide +kernel
theorem dX10_back_37 : decode cX10_back 37 = .ok (.aload_n 0, 1) := by decide +kernel
theorem dX10_back_38 : decode cX10_back 38 = .ok (.getfield 51, 3) := by decide +kernel
theorem dX10_back_41 : decode cX10_back 41 = .ok (.invokevirtual 100, 3) := by decide +kernel
theorem dX10_back_44 : decode cX10_back 44 = .ok (.iconst 0, 1) := by decide +kernel
theorem dX10_back_45 : decode cX10_back 45 = .ok (.ireturn, 1) := by decide +kernel
theorem dX10_back_21 : decode cX10_back 21 = .ok (.bipush (-6), 2) := by decide +kernel
theorem dX10_back_23 : decode cX10_back 23 = .ok (.ireturn, 1) := by decide +kernel
def FX10_back_0  (x1 : Int) (f : Mm) : Option (Int × Mm) := (if x1 < 0 then some ((-2), f) else (if x1 < 3 then (if 0 ≤ x1 ∧ x1 < 3 then (if (f 39 x1.toNat) = 0 then some ((-6), f) else (if x1 = 0 then ((FX0_become_4_99 f).bind fun f3 => ((FX3_forget f3).bind fun f4 => some (0, f4))) else (if x1 = 1 then ((FX0_become_4_116 f).bind fun f6 => ((FX3_forget f6).bind fun f7 => some (0, f7))) else (if x1 = 2 then ((FX0_become_4_133 f).bind fun f9 => ((FX3_forget f9).bind fun f10 => some (0, f10))) else none)))) else none) else some ((-2), f)))
set_option maxHeartbeats 4000000 in
set_option maxRecDepth 100000 in
theorem SX10_back_0 {G : GT} {l : Launch} {Q : Option AV → Mem → Prop}  (x1 : Int) (f : Mm) (h : OkI Q (FX10_back_0  x1 f)) : Ev G l MX10_back (Rm 3 0 0) (ZM G Q 0 0) 0 0 0 [some (vR 0), some (vI x1)] [] (SH, RF, f) := by
  unfold FX10_back_0 at h
  refine ev_iload_n (i := 1) dX10_back_0 rfl rfl ?_
  refine ev_if_lt (tgt := 9) dX10_back_1 (by decide) (fun c13 => ?_) (fun c13 => ?_)
  · rw [if_pos c13] at h
    refine ev_bipush (v := (-2)) dX10_back_9 (r32c rfl) (by decide) ?_
    exact ev_iret rfl dX10_back_11 h
  · rw [if_neg c13] at h
    refine ev_iload_n (i := 1) dX10_back_4 rfl rfl ?_
    refine ev_iconst dX10_back_5 (r32c rfl) ?_
    refine ev_icmp_lt (tgt := 12) dX10_back_6 (by decide) (fun c12 => ?_) (fun c12 => ?_)
    · rw [if_pos c12] at h
      refine ev_aload_n (i := 0) dX10_back_12 rfl rfl ?_
      refine ev_getR dX10_back_13 fl_X10_30 sh_0 (by decide) (by decide) rf_0_4 ?_
      refine ev_iload_n (i := 1) dX10_back_16 rfl rfl ?_
      by_cases g1 : 0 ≤ x1 ∧ x1 < 3
      · rw [if_pos g1] at h
        refine ex_zald (x := (f 39 x1.toNat)) dX10_back_17 sh_39 g1.1 g1.2 rfl ?_
        refine ev_if_ne (tgt := 24) dX10_back_18 (by decide) (fun c11 => ?_) (fun c11 => ?_)
        · rw [if_neg c11] at h
          refine ev_aload_n (i := 0) dX10_back_24 rfl rfl ?_
          refine ev_getR dX10_back_25 fl_X10_19 sh_0 (by decide) (by decide) rf_0_1 ?_
          refine ev_aload_n (i := 0) dX10_back_28 rfl rfl ?_
          refine ev_getR dX10_back_29 fl_X10_26 sh_0 (by decide) (by decide) rf_0_3 ?_
          refine ev_iload_n (i := 1) dX10_back_32 rfl rfl ?_
          by_cases c2 : x1 = 0
          · rw [if_pos c2] at h
            refine ev_aald (b := 99) dX10_back_33 (Or.inr (Or.inr rfl)) sh_38 (by omega) (by omega) (by rw [c2]; exact rf_38_0) ?_
            refine ev_cVV (b := 4) (av := [vR 99]) (S := []) (fun q => q) h dX10_back_34 (fun Q' q => TX0_become_4_99 _ q) kvX0_become ml_X10_97 sh_4 rfl (RRc (by decide) (by decide)) (Nat.le_of_ble_eq_true rfl) ⟨Nat.le_of_ble_eq_true rfl, Nat.le_of_ble_eq_true rfl⟩ (fun f3 h => ?_)
            refine ev_aload_n (i := 0) dX10_back_37 rfl rfl ?_
            refine ev_getR dX10_back_38 fl_X10_51 sh_0 (by decide) (by decide) rf_0_7 ?_
            refine ev_cVV (b := 57) (av := []) (S := []) (fun q => q) h dX10_back_41 (fun Q' q => TX3_forget _ q) kvX3_forget ml_X10_100 sh_57 rfl (RRc (by decide) (by decide)) (Nat.le_of_ble_eq_true rfl) ⟨Nat.le_of_ble_eq_true rfl, Nat.le_of_ble_eq_true rfl⟩ (fun f4 h => ?_)
            refine ev_iconst dX10_back_44 (r32c rfl) ?_
            exact ev_iret rfl dX10_back_45 h
          · rw [if_neg c2] at h
            by_cases c5 : x1 = 1
            · rw [if_pos c5] at h
              refine ev_aald (b := 116) dX10_back_33 (Or.inr (Or.inr rfl)) sh_38 (by omega) (by omega) (by rw [c5]; exact rf_38_1) ?_
              refine ev_cVV (b := 4) (av := [vR 116]) (S := []) (fun q => q) h dX10_back_34 (fun Q' q => TX0_become_4_116 _ q) kvX0_become ml_X10_97 sh_4 rfl (RRc (by decide) (by decide)) (Nat.le_of_ble_eq_true rfl) ⟨Nat.le_of_ble_eq_true rfl, Nat.le_of_ble_eq_true rfl⟩ (fun f6 h => ?_)
              refine ev_aload_n (i := 0) dX10_back_37 rfl rfl ?_
              refine ev_getR dX10_back_38 fl_X10_51 sh_0 (by decide) (by decide) rf_0_7 ?_
              refine ev_cVV (b := 57) (av := []) (S := []) (fun q => q) h dX10_back_41 (fun Q' q => TX3_forget _ q) kvX3_forget ml_X10_100 sh_57 rfl (RRc (by decide) (by decide)) (Nat.le_of_ble_eq_true rfl) ⟨Nat.le_of_ble_eq_true rfl, Nat.le_of_ble_eq_true rfl⟩ (fun f7 h => ?_)
              refine ev_iconst dX10_back_44 (r32c rfl) ?_
              exact ev_iret rfl dX10_back_45 h
            · rw [if_neg c5] at h
              by_cases c8 : x1 = 2
              · rw [if_pos c8] at h
                refine ev_aald (b := 133) dX10_back_33 (Or.inr (Or.inr rfl)) sh_38 (by omega) (by omega) (by rw [c8]; exact rf_38_2) ?_
                refine ev_cVV (b := 4) (av := [vR 133]) (S := []) (fun q => q) h dX10_back_34 (fun Q' q => TX0_become_4_133 _ q) kvX0_become ml_X10_97 sh_4 rfl (RRc (by decide) (by decide)) (Nat.le_of_ble_eq_true rfl) ⟨Nat.le_of_ble_eq_true rfl, Nat.le_of_ble_eq_true rfl⟩ (fun f9 h => ?_)
                refine ev_aload_n (i := 0) dX10_back_37 rfl rfl ?_
                refine ev_getR dX10_back_38 fl_X10_51 sh_0 (by decide) (by decide) rf_0_7 ?_
                refine ev_cVV (b := 57) (av := []) (S := []) (fun q => q) h dX10_back_41 (fun Q' q => TX3_forget _ q) kvX3_forget ml_X10_100 sh_57 rfl (RRc (by decide) (by decide)) (Nat.le_of_ble_eq_true rfl) ⟨Nat.le_of_ble_eq_true rfl, Nat.le_of_ble_eq_true rfl⟩ (fun f10 h => ?_)
                refine ev_iconst dX10_back_44 (r32c rfl) ?_
                exact ev_iret rfl dX10_back_45 h
              · rw [if_neg c8] at h
                exact h.elim
        · rw [if_pos c11] at h
          refine ev_bipush (v := (-6)) dX10_back_21 (r32c rfl) (by decide) ?_
          exact ev_iret rfl dX10_back_23 h
      · rw [if_neg g1] at h; exact h.elim
    · rw [if_neg c12] at h
      refine ev_bipush (v := (-2)) dX10_back_9 (r32c rfl) (by decide) ?_
      exact ev_iret rfl dX10_back_11 h
def FX10_back (x1 : Int) (f : Mm) : Option (Int × Mm) := FX10_back_0 x1 f
set_option maxRecDepth 100000 in
theorem TX10_back {G : GT} {l : Launch} {Q : Option AV → Mem → Prop} (x1 : Int) (f : Mm) (h : OkI Q (FX10_back x1 f)) : Ret G l MX10_back (3) 0 0 [vR 0, vI x1] (SH, RF, f) Q := by
  refine ret_of (L := [some (vR 0), some (vI x1)]) (by decide) rfl (Nat.le_of_ble_eq_true rfl) ?_
  exact SX10_back_0 x1 f h
theorem dX6_lay_17 : decode cX6_lay 17 = .ok (.iload 4, 2) := by decide +kernel
theorem dX6_lay_19 : decode cX6_lay 19 = .ok (.bipush 60, 2) := by decide +kernel
theorem dX6_lay_21 : decode cX6_lay 21 = .ok (.if_icmp .ge 19, 3) := by decide +kernel
theorem dX6_lay_40 : decode cX6_lay 40 = .ok (.return_, 1) := by decide +kernel
theorem dX6_lay_24 : decode cX6_lay 24 = .ok (.aload_n 0, 1) := by decide +kernel
theorem dX6_lay_25 : decode cX6_lay 25 = .ok (.getfield 11, 3) := by decide +kernel
theorem dX6_lay_28 : decode cX6_lay 28 = .ok (.iload_n 1, 1) := by decide +kernel
theorem dX6_lay_29 : decode cX6_lay 29 = .ok (.aaload, 1) := by decide +kernel
theorem dX6_lay_30 : decode cX6_lay 30 = .ok (.iload 4, 2) := by decide +kernel
theorem dX6_lay_32 : decode cX6_lay 32 = .ok (.lconst 0, 1) := by decide +kernel
theorem dX6_lay_33 : decode cX6_lay 33 = .ok (.lastore, 1) := by decide +kernel
theorem dX6_lay_34 : decode cX6_lay 34 = .ok (.iinc 4 1, 3) := by decide +kernel
theorem dX6_lay_37 : decode cX6_lay 37 = .ok (.goto (-20), 3) := by decide +kernel
theorem dX6_lay_0 : decode cX6_lay 0 = .ok (.aload_n 0, 1) := by decide +kernel
theorem dX6_lay_1 : decode cX6_lay 1 = .ok (.getfield 16, 3) := by decide +kernel
theorem dX6_lay_4 : decode cX6_lay 4 = .ok (.iload_n 1, 1) := by decide +kernel
theorem dX6_lay_5 : decode cX6_lay 5 = .ok (.iload_n 3, 1) := by decide +kernel
theorem dX6_lay_6 : decode cX6_lay 6 = .ok (.iastore, 1) := by decide +kernel
theorem dX6_lay_7 : decode cX6_lay 7 = .ok (.aload_n 0, 1) := by decide +kernel
theorem dX6_lay_8 : decode cX6_lay 8 = .ok (.getfield 20, 3) := by decide +kernel
theorem dX6_lay_11 : decode cX6_lay 11 = .ok (.iload_n 1, 1) := by decide +kernel
theorem dX6_lay_12 : decode cX6_lay 12 = .ok (.iload_n 2, 1) := by decide +kernel
theorem dX6_lay_13 : decode cX6_lay 13 = .ok (.iastore, 1) := by decide +kernel
theorem dX6_lay_14 : decode cX6_lay 14 = .ok (.iconst 0, 1) := by decide +kernel
theorem dX6_lay_15 : decode cX6_lay 15 = .ok (.istore 4, 2) := by decide +kernel
def FX6_lay_17  : Nat → Int → Int → Mm → Option Mm
  | 0, _, _, _ => none
  | n + 1, x1, x4, f => (if 60 ≤ x4 then some f else (if 0 ≤ x1 ∧ x1 < 4 then (if 0 ≤ x4 ∧ x4 < 60 then FX6_lay_17 n x1 (w32 (x4 + 1)) (up f (42 + x1.toNat) x4.toNat 0) else none) else none))
set_option maxHeartbeats 4000000 in
set_option maxRecDepth 100000 in
theorem SX6_lay_17 {G : GT} {l : Launch} {Q : Option AV → Mem → Prop}  : ∀ (n : Nat) (x1 : Int) (x4 : Int) (f : Mm), OkV Q (FX6_lay_17  n x1 x4 f) → Ev G l MX6_lay (Rm 1 0 0) (ZM G Q 0 0) 0 0 17 [some (vR 40), some (vI x1), none, none, some (vI x4)] [] (SH, RF, f) := by
  intro n
  induction n with
  | zero => intro x1 x4 f h; exact absurd h (by rw [FX6_lay_17]; exact fun q => q)
  | succ n ih =>
    intro x1 x4 f h
    rw [FX6_lay_17] at h
    refine ev_iload dX6_lay_17 rfl ?_
    refine ev_bipush (v := 60) dX6_lay_19 (r32c rfl) (by decide) ?_
    refine ev_icmp_ge (tgt := 40) dX6_lay_21 (by decide) (fun c3 => ?_) (fun c3 => ?_)
    · rw [if_pos c3] at h
      exact ev_vret rfl dX6_lay_40 h
    · rw [if_neg c3] at h
      refine ev_aload_n (i := 0) dX6_lay_24 rfl rfl ?_
      refine ev_getR dX6_lay_25 fl_X6_11 sh_40 (by decide) (by decide) rf_40_0 ?_
      refine ev_iload_n (i := 1) dX6_lay_28 rfl rfl ?_
      by_cases g1 : 0 ≤ x1 ∧ x1 < 4
      · rw [if_pos g1] at h
        refine ev_aald (b := (42 + x1.toNat)) dX6_lay_29 (Or.inr (Or.inl rfl)) sh_41 g1.1 g1.2 (rfr_41 g1) ?_
        refine ev_iload dX6_lay_30 rfl ?_
        refine ev_lconst (v := 0) dX6_lay_32 (r64c rfl) (by decide) ?_
        by_cases g2 : 0 ≤ x4 ∧ x4 < 60
        · rw [if_pos g2] at h
          refine ex_last (j := x4.toNat) dX6_lay_33 (shr_41 g1) g2.1 g2.2 rfl ?_
          refine ev_iinc (L' := [some (vR 40), some (vI x1), none, none, some (vI (w32 (x4 + 1)))]) dX6_lay_34 rfl (by decide) rfl ?_
          refine ev_goto (tgt := 17) dX6_lay_37 (by decide) ?_
          exact ih x1 (w32 (x4 + 1)) _ h
        · rw [if_neg g2] at h; exact h.elim
      · rw [if_neg g1] at h; exact h.elim
def FX6_lay_0  (x1 : Int) (x2 : Int) (x3 : Int) (f : Mm) : Option Mm := (if 0 ≤ x1 ∧ x1 < 4 then (if 0 ≤ x1 ∧ x1 < 4 then FX6_lay_17 fu x1 0 (up (up f 46 x1.toNat x3) 47 x1.toNat x2) else none) else none)
set_option maxHeartbeats 4000000 in
set_option maxRecDepth 100000 in
theorem SX6_lay_0 {G : GT} {l : Launch} {Q : Option AV → Mem → Prop}  (x1 : Int) (x2 : Int) (x3 : Int) (f : Mm) (h : OkV Q (FX6_lay_0  x1 x2 x3 f)) : Ev G l MX6_lay (Rm 1 0 0) (ZM G Q 0 0) 0 0 0 [some (vR 40), some (vI x1), some (vI x2), some (vI x3), none] [] (SH, RF, f) := by
  unfold FX6_lay_0 at h
  refine ev_aload_n (i := 0) dX6_lay_0 rfl rfl ?_
  refine ev_getR dX6_lay_1 fl_X6_16 sh_40 (by decide) (by decide) rf_40_1 ?_
  refine ev_iload_n (i := 1) dX6_lay_4 rfl rfl ?_
  refine ev_iload_n (i := 3) dX6_lay_5 rfl rfl ?_
  by_cases g1 : 0 ≤ x1 ∧ x1 < 4
  · rw [if_pos g1] at h
    refine ex_iast (j := x1.toNat) dX6_lay_6 sh_46 g1.1 g1.2 rfl ?_
    refine ev_aload_n (i := 0) dX6_lay_7 rfl rfl ?_
    refine ev_getR dX6_lay_8 fl_X6_20 sh_40 (by decide) (by decide) rf_40_2 ?_
    refine ev_iload_n (i := 1) dX6_lay_11 rfl rfl ?_
    refine ev_iload_n (i := 2) dX6_lay_12 rfl rfl ?_
    by_cases g2 : 0 ≤ x1 ∧ x1 < 4
    · rw [if_pos g2] at h
      refine ex_iast (j := x1.toNat) dX6_lay_13 sh_47 g2.1 g2.2 rfl ?_
      refine ev_iconst dX6_lay_14 (r32c rfl) ?_
      refine ev_istore (L' := [some (vR 40), some (vI x1), some (vI x2), some (vI x3), some (vI 0)]) dX6_lay_15 (by decide) rfl ?_
      refine ev_fg [true, true, false, false, true] rfl ?_
      exact SX6_lay_17  fu x1 0 _ h
    · rw [if_neg g2] at h; exact h.elim
  · rw [if_neg g1] at h; exact h.elim
def FX6_lay (x1 : Int) (x2 : Int) (x3 : Int) (f : Mm) : Option Mm := FX6_lay_0 x1 x2 x3 f
set_option maxRecDepth 100000 in
theorem TX6_lay {G : GT} {l : Launch} {Q : Option AV → Mem → Prop} (x1 : Int) (x2 : Int) (x3 : Int) (f : Mm) (h : OkV Q (FX6_lay x1 x2 x3 f)) : Ret G l MX6_lay (1) 0 0 [vR 40, vI x1, vI x2, vI x3] (SH, RF, f) Q := by
  refine ret_of (L := [some (vR 40), some (vI x1), some (vI x2), some (vI x3), none]) (by decide) rfl (Nat.le_of_ble_eq_true rfl) ?_
  exact SX6_lay_0 x1 x2 x3 f h
theorem dX10_row_0 : decode cX10_row 0 = .ok (.iload_n 1, 1) := by decide +kernel
theorem dX10_row_1 : decode cX10_row 1 = .ok (.invokestatic 389, 3) := by decide +kernel
theorem dX10_row_4 : decode cX10_row 4 = .ok (.ifCond .eq 18, 3) := by decide +kernel
theorem dX10_row_22 : decode cX10_row 22 = .ok (.bipush (-2), 2) := by decide +kernel
theorem dX10_row_24 : decode cX10_row 24 = .ok (.ireturn, 1) := by decide +kernel
theorem dX10_row_7 : decode cX10_row 7 = .ok (.iload_n 2, 1) := by decide +kernel
theorem dX10_row_8 : decode cX10_row 8 = .ok (.ifCond .lt 14, 3) := by decide +kernel
theorem dX10_row_11 : decode cX10_row 11 = .ok (.iload_n 2, 1) := by decide +kernel
theorem dX10_row_12 : decode cX10_row 12 = .ok (.iconst 4, 1) := by decide +kernel
theorem dX10_row_13 : decode cX10_row 13 = .ok (.if_icmp .ge 9, 3) := by decide +kernel
theorem dX10_row_16 : decode cX10_row 16 = .ok (.iload_n 3, 1) := by decide +kernel
theorem dX10_row_17 : decode cX10_row 17 = .ok (.bipush 60, 2) := by decide +kernel
theorem dX10_row_19 : decode cX10_row 19 = .ok (.if_icmp .le 6, 3) := by decide +kernel
theorem dX10_row_25 : decode cX10_row 25 = .ok (.iload_n 3, 1) := by decide +kernel
theorem dX10_row_26 : decode cX10_row 26 = .ok (.ifCond .ge 6, 3) := by decide +kernel
theorem dX10_row_32 : decode cX10_row 32 = .ok (.aload_n 0, 1) := by decide +kernel
theorem dX10_row_33 : decode cX10_row 33 = .ok (.getfield 37, 3) := by decide +kernel
theorem dX10_row_36 : decode cX10_row 36 = .ok (.iload_n 1, 1) := by decide +kernel
theorem dX10_row_37 : decode cX10_row 37 = .ok (.iload_n 2, 1) := by decide +kernel
theorem dX10_row_38 : decode cX10_row 38 = .ok (.iload_n 3, 1) := by decide +kernel
theorem dX10_row_39 : decode cX10_row 39 = .ok (.invokevirtual 392, 3) := by decide +kernel
theorem dX10_row_42 : decode cX10_row 42 = .ok (.iconst 0, 1) := by decide +kernel
theorem dX10_row_43 : decode cX10_row 43 = .ok (.ireturn, 1) := by decide +kernel
theorem dX10_row_29 : decode cX10_row 29 = .ok (.bipush (-3), 2) := by decide +kernel
theorem dX10_row_31 : decode cX10_row 31 = .ok (.ireturn, 1) := by decide +kernel
def FX10_row_0  (x1 : Int) (x2 : Int) (x3 : Int) (f : Mm) : Option (Int × Mm) := (b2 (FX10_isSlot x1 f) fun y1 f1 => (if y1 = 0 then some ((-2), f1) else (if x2 < 0 then some ((-2), f1) else (if 4 ≤ x2 then some ((-2), f1) else (if x3 ≤ 60 then (if 0 ≤ x3 then ((FX6_lay x1 x2 x3 f1).bind fun f2 => some (0, f2)) else some ((-3), f1)) else some ((-2), f1))))))
set_option maxHeartbeats 4000000 in
set_option maxRecDepth 100000 in
theorem SX10_row_0 {G : GT} {l : Launch} {Q : Option AV → Mem → Prop}  (x1 : Int) (x2 : Int) (x3 : Int) (f : Mm) (h : OkI Q (FX10_row_0  x1 x2 x3 f)) : Ev G l MX10_row (Rm 2 0 0) (ZM G Q 0 0) 0 0 0 [some (vR 0), some (vI x1), some (vI x2), some (vI x3)] [] (SH, RF, f) := by
  unfold FX10_row_0 at h
  refine ev_iload_n (i := 1) dX10_row_0 rfl rfl ?_
  refine ev_cSI (av := [vI x1]) (S := []) (fun q => q) h dX10_row_1 (fun Q' q => TX10_isSlot x1 _ q) ksX10_isSlot ml_X10_389 rfl (RRc (by decide) (by decide)) (Nat.le_of_ble_eq_true rfl) ⟨Nat.le_of_ble_eq_true rfl, Nat.le_of_ble_eq_true rfl⟩ (fun y1 f1 h => ?_)
  refine ev_if_eq (tgt := 22) dX10_row_4 (by decide) (fun c7 => ?_) (fun c7 => ?_)
  · rw [if_pos c7] at h
    refine ev_bipush (v := (-2)) dX10_row_22 (r32c rfl) (by decide) ?_
    exact ev_iret rfl dX10_row_24 h
  · rw [if_neg c7] at h
    refine ev_iload_n (i := 2) dX10_row_7 rfl rfl ?_
    refine ev_if_lt (tgt := 22) dX10_row_8 (by decide) (fun c6 => ?_) (fun c6 => ?_)
    · rw [if_pos c6] at h
      refine ev_bipush (v := (-2)) dX10_row_22 (r32c rfl) (by decide) ?_
      exact ev_iret rfl dX10_row_24 h
    · rw [if_neg c6] at h
      refine ev_iload_n (i := 2) dX10_row_11 rfl rfl ?_
      refine ev_iconst dX10_row_12 (r32c rfl) ?_
      refine ev_icmp_ge (tgt := 22) dX10_row_13 (by decide) (fun c5 => ?_) (fun c5 => ?_)
      · rw [if_pos c5] at h
        refine ev_bipush (v := (-2)) dX10_row_22 (r32c rfl) (by decide) ?_
        exact ev_iret rfl dX10_row_24 h
      · rw [if_neg c5] at h
        refine ev_iload_n (i := 3) dX10_row_16 rfl rfl ?_
        refine ev_bipush (v := 60) dX10_row_17 (r32c rfl) (by decide) ?_
        refine ev_icmp_le (tgt := 25) dX10_row_19 (by decide) (fun c4 => ?_) (fun c4 => ?_)
        · rw [if_pos c4] at h
          refine ev_iload_n (i := 3) dX10_row_25 rfl rfl ?_
          refine ev_if_ge (tgt := 32) dX10_row_26 (by decide) (fun c3 => ?_) (fun c3 => ?_)
          · rw [if_pos c3] at h
            refine ev_aload_n (i := 0) dX10_row_32 rfl rfl ?_
            refine ev_getR dX10_row_33 fl_X10_37 sh_0 (by decide) (by decide) rf_0_5 ?_
            refine ev_iload_n (i := 1) dX10_row_36 rfl rfl ?_
            refine ev_iload_n (i := 2) dX10_row_37 rfl rfl ?_
            refine ev_iload_n (i := 3) dX10_row_38 rfl rfl ?_
            refine ev_cVV (b := 40) (av := [vI x1, vI x2, vI x3]) (S := []) (fun q => q) h dX10_row_39 (fun Q' q => TX6_lay x1 x2 x3 _ q) kvX6_lay ml_X10_392 sh_40 rfl (RRc (by decide) (by decide)) (Nat.le_of_ble_eq_true rfl) ⟨Nat.le_of_ble_eq_true rfl, Nat.le_of_ble_eq_true rfl⟩ (fun f2 h => ?_)
            refine ev_iconst dX10_row_42 (r32c rfl) ?_
            exact ev_iret rfl dX10_row_43 h
          · rw [if_neg c3] at h
            refine ev_bipush (v := (-3)) dX10_row_29 (r32c rfl) (by decide) ?_
            exact ev_iret rfl dX10_row_31 h
        · rw [if_neg c4] at h
          refine ev_bipush (v := (-2)) dX10_row_22 (r32c rfl) (by decide) ?_
          exact ev_iret rfl dX10_row_24 h
def FX10_row (x1 : Int) (x2 : Int) (x3 : Int) (f : Mm) : Option (Int × Mm) := FX10_row_0 x1 x2 x3 f
set_option maxRecDepth 100000 in
theorem TX10_row {G : GT} {l : Launch} {Q : Option AV → Mem → Prop} (x1 : Int) (x2 : Int) (x3 : Int) (f : Mm) (h : OkI Q (FX10_row x1 x2 x3 f)) : Ret G l MX10_row (2) 0 0 [vR 0, vI x1, vI x2, vI x3] (SH, RF, f) Q := by
  refine ret_of (L := [some (vR 0), some (vI x1), some (vI x2), some (vI x3)]) (by decide) rfl (Nat.le_of_ble_eq_true rfl) ?_
  exact SX10_row_0 x1 x2 x3 f h
theorem dX10_cut_0 : decode cX10_cut 0 = .ok (.iload_n 2, 1) := by decide +kernel
theorem dX10_cut_1 : decode cX10_cut 1 = .ok (.tableswitch 41 0 2 #[27, 32, 37], 27) := by decide +kernel
theorem dX10_cut_28 : decode cX10_cut 28 = .ok (.lload_n 0, 1) := by decide +kernel
theorem dX10_cut_29 : decode cX10_cut 29 = .ok (.l2i, 1) := by decide +kernel
theorem dX10_cut_30 : decode cX10_cut 30 = .ok (.i2b, 1) := by decide +kernel
theorem dX10_cut_31 : decode cX10_cut 31 = .ok (.i2l, 1) := by decide +kernel
theorem dX10_cut_32 : decode cX10_cut 32 = .ok (.lreturn, 1) := by decide +kernel
theorem dX10_cut_33 : decode cX10_cut 33 = .ok (.lload_n 0, 1) := by decide +kernel
theorem dX10_cut_34 : decode cX10_cut 34 = .ok (.l2i, 1) := by decide +kernel
theorem dX10_cut_35 : decode cX10_cut 35 = .ok (.i2s, 1) := by decide +kernel
theorem dX10_cut_36 : decode cX10_cut 36 = .ok (.i2l, 1) := by decide +kernel
theorem dX10_cut_37 : decode cX10_cut 37 = .ok (.lreturn, 1) := by decide +kernel
theorem dX10_cut_38 : decode cX10_cut 38 = .ok (.lload_n 0, 1) := by decide +kernel
theorem dX10_cut_39 : decode cX10_cut 39 = .ok (.l2i, 1) := by decide +kernel
theorem dX10_cut_40 : decode cX10_cut 40 = .ok (.i2l, 1) := by decide +kernel
theorem dX10_cut_41 : decode cX10_cut 41 = .ok (.lreturn, 1) := by decide +kernel
theorem dX10_cut_42 : decode cX10_cut 42 = .ok (.lload_n 0, 1) := by decide +kernel
theorem dX10_cut_43 : decode cX10_cut 43 = .ok (.lreturn, 1) := by decide +kernel
def FX10_cut_0  (x0 : Int) (x2 : Int) (f : Mm) : Option (Int × Mm) := (if x2 = 0 then some ((w8 (w32 x0)), f) else (if x2 = 1 then some ((w16 (w32 x0)), f) else (if x2 = 2 then some ((w32 x0), f) else some (x0, f))))
set_option maxHeartbeats 4000000 in
set_option maxRecDepth 100000 in
theorem SX10_cut_0 {G : GT} {l : Launch} {Q : Option AV → Mem → Prop}  (x0 : Int) (x2 : Int) (f : Mm) (h : OkJ Q (FX10_cut_0  x0 x2 f)) : Ev G l MX10_cut (Rm 1 0 0) (ZM G Q 0 0) 0 0 0 [some (vJ x0), none, some (vI x2)] [] (SH, RF, f) := by
  unfold FX10_cut_0 at h
  refine ev_iload_n (i := 2) dX10_cut_0 rfl rfl ?_
  by_cases c1 : x2 = 0
  · rw [if_pos c1] at h
    refine ev_tIn (off := 27) (tgt := 28) dX10_cut_1 (by omega) (by omega) (by rw [c1]; rfl) (by decide) ?_
    refine ev_lload_n (i := 0) dX10_cut_28 rfl rfl ?_
    refine ev_l2i dX10_cut_29 ?_
    refine ev_i2b dX10_cut_30 ?_
    refine ev_i2l dX10_cut_31 ?_
    exact ev_lret rfl dX10_cut_32 h
  · rw [if_neg c1] at h
    by_cases c2 : x2 = 1
    · rw [if_pos c2] at h
      refine ev_tIn (off := 32) (tgt := 33) dX10_cut_1 (by omega) (by omega) (by rw [c2]; rfl) (by decide) ?_
      refine ev_lload_n (i := 0) dX10_cut_33 rfl rfl ?_
      refine ev_l2i dX10_cut_34 ?_
      refine ev_i2s dX10_cut_35 ?_
      refine ev_i2l dX10_cut_36 ?_
      exact ev_lret rfl dX10_cut_37 h
    · rw [if_neg c2] at h
      by_cases c3 : x2 = 2
      · rw [if_pos c3] at h
        refine ev_tIn (off := 37) (tgt := 38) dX10_cut_1 (by omega) (by omega) (by rw [c3]; rfl) (by decide) ?_
        refine ev_lload_n (i := 0) dX10_cut_38 rfl rfl ?_
        refine ev_l2i dX10_cut_39 ?_
        refine ev_i2l dX10_cut_40 ?_
        exact ev_lret rfl dX10_cut_41 h
      · rw [if_neg c3] at h
        refine ev_tOut (tgt := 42) dX10_cut_1 (by omega) (by decide) ?_
        refine ev_lload_n (i := 0) dX10_cut_42 rfl rfl ?_
        exact ev_lret rfl dX10_cut_43 h
def FX10_cut (x0 : Int) (x2 : Int) (f : Mm) : Option (Int × Mm) := FX10_cut_0 x0 x2 f
set_option maxRecDepth 100000 in
theorem TX10_cut {G : GT} {l : Launch} {Q : Option AV → Mem → Prop} (x0 : Int) (x2 : Int) (f : Mm) (h : OkJ Q (FX10_cut x0 x2 f)) : Ret G l MX10_cut (1) 0 0 [vJ x0, vI x2] (SH, RF, f) Q := by
  refine ret_of (L := [some (vJ x0), none, some (vI x2)]) (by decide) rfl (Nat.le_of_ble_eq_true rfl) ?_
  exact SX10_cut_0 x0 x2 f h
theorem dX10_write_0 : decode cX10_write 0 = .ok (.iload_n 1, 1) := by decide +kernel
theorem dX10_write_1 : decode cX10_write 1 = .ok (.invokestatic 389, 3) := by decide +kernel
theorem dX10_write_4 : decode cX10_write 4 = .ok (.ifCond .ne 6, 3) := by decide +kernel
theorem dX10_write_10 : decode cX10_write 10 = .ok (.aload_n 0, 1) := by decide +kernel
theorem dX10_write_11 : decode cX10_write 11 = .ok (.getfield 37, 3) := by decide +kernel
theorem dX10_write_14 : decode cX10_write 14 = .ok (.iload_n 1, 1) := by decide +kernel
theorem dX10_write_15 : decode cX10_write 15 = .ok (.invokevirtual 396, 3) := by decide +kernel
theorem dX10_write_18 : decode cX10_write 18 = .ok (.ifCond .ne 6, 3) := by decide +kernel
theorem dX10_write_24 : decode cX10_write 24 = .ok (.iload_n 2, 1) := by decide +kernel
theorem dX10_write_25 : decode cX10_write 25 = .ok (.ifCond .lt 16, 3) := by decide +kernel
theorem dX10_write_41 : decode cX10_write 41 = .ok (.bipush (-7), 2) := by decide +kernel
theorem dX10_write_43 : decode cX10_write 43 = .ok (.ireturn, 1) := by decide +kernel
theorem dX10_write_28 : decode cX10_write 28 = .ok (.iload_n 2, 1) := by decide +kernel
theorem dX10_write_29 : decode cX10_write 29 = .ok (.aload_n 0, 1) := by decide +kernel
theorem dX10_write_30 : decode cX10_write 30 = .ok (.getfield 37, 3) := by decide +kernel
theorem dX10_write_33 : decode cX10_write 33 = .ok (.getfield 399, 3) := by decide +kernel
theorem dX10_write_36 : decode cX10_write 36 = .ok (.iload_n 1, 1) := by decide +kernel
theorem dX10_write_37 : decode cX10_write 37 = .ok (.iaload, 1) := by decide +kernel
theorem dX10_write_38 : decode cX10_write 38 = .ok (.if_icmp .lt 6, 3) := by decide +kernel
theorem dX10_write_44 : decode cX10_write 44 = .ok (.aload_n 0, 1) := by decide +kernel
theorem dX10_write_45 : decode cX10_write 45 = .ok (.getfield 37, 3) := by decide +kernel
theorem dX10_write_48 : decode cX10_write 48 = .ok (.getfield 402, 3) := by decide +kernel
theorem dX10_write_51 : decode cX10_write 51 = .ok (.iload_n 1, 1) := by decide +kernel
theorem dX10_write_52 : decode cX10_write 52 = .ok (.aaload, 1) := by decide +kernel
theorem dX10_write_53 : decode cX10_write 53 = .ok (.iload_n 2, 1) := by decide +kernel
theorem dX10_write_54 : decode cX10_write 54 = .ok (.lload_n 3, 1) := by decide +kernel
theorem dX10_write_55 : decode cX10_write 55 = .ok (.aload_n 0, 1) := by decide +kernel
theorem dX10_write_56 : decode cX10_write 56 = .ok (.getfield 37, 3) := by decide +kernel
theorem dX10_write_59 : decode cX10_write 59 = .ok (.getfield 406, 3) := by decide +kernel
theorem dX10_write_62 : decode cX10_write 62 = .ok (.iload_n 1, 1) := by decide +kernel
theorem dX10_write_63 : decode cX10_write 63 = .ok (.iaload, 1) := by decide +kernel
theorem dX10_write_64 : decode cX10_write 64 = .ok (.invokestatic 409, 3) := by decide +kernel
theorem dX10_write_67 : decode cX10_write 67 = .ok (.lastore, 1) := by decide +kernel
theorem dX10_write_68 : decode cX10_write 68 = .ok (.iconst 0, 1) := by decide +kernel
theorem dX10_write_69 : decode cX10_write 69 = .ok (.ireturn, 1) := by decide +kernel
theorem dX10_write_21 : decode cX10_write 21 = .ok (.bipush (-6), 2) := by decide +kernel
theorem dX10_write_23 : decode cX10_write 23 = .ok (.ireturn, 1) := by decide +kernel
theorem dX10_write_7 : decode cX10_write 7 = .ok (.bipush (-2), 2) := by decide +kernel
theorem dX10_write_9 : decode cX10_write 9 = .ok (.ireturn, 1) := by decide +kernel
def FX10_write_0  (x1 : Int) (x2 : Int) (x3 : Int) (f : Mm) : Option (Int × Mm) := (b2 (FX10_isSlot x1 f) fun y1 f1 => (if y1 = 0 then some ((-2), f1) else (b2 (FX6_hasRow x1 f1) fun y2 f2 => (if y2 = 0 then some ((-6), f2) else (if x2 < 0 then some ((-7), f2) else (if 0 ≤ x1 ∧ x1 < 4 then (if x2 < (f2 46 x1.toNat) then (if 0 ≤ x1 ∧ x1 < 4 then (if 0 ≤ x1 ∧ x1 < 4 then (b2 (FX10_cut x3 (f2 47 x1.toNat) f2) fun y6 f6 => (if 0 ≤ x2 ∧ x2 < 60 then some (0, (up f6 (42 + x1.toNat) x2.toNat y6)) else none)) else none) else none) else some ((-7), f2)) else none))))))
set_option maxHeartbeats 4000000 in
set_option maxRecDepth 100000 in
theorem SX10_write_0 {G : GT} {l : Launch} {Q : Option AV → Mem → Prop}  (x1 : Int) (x2 : Int) (x3 : Int) (f : Mm) (h : OkI Q (FX10_write_0  x1 x2 x3 f)) : Ev G l MX10_write (Rm 2 0 0) (ZM G Q 0 0) 0 0 0 [some (vR 0), some (vI x1), some (vI x2), some (vJ x3), none] [] (SH, RF, f) := by
  unfold FX10_write_0 at h
  refine ev_iload_n (i := 1) dX10_write_0 rfl rfl ?_
  refine ev_cSI (av := [vI x1]) (S := []) (fun q => q) h dX10_write_1 (fun Q' q => TX10_isSlot x1 _ q) ksX10_isSlot ml_X10_389 rfl (RRc (by decide) (by decide)) (Nat.le_of_ble_eq_true rfl) ⟨Nat.le_of_ble_eq_true rfl, Nat.le_of_ble_eq_true rfl⟩ (fun y1 f1 h => ?_)
  refine ev_if_ne (tgt := 10) dX10_write_4 (by decide) (fun c11 => ?_) (fun c11 => ?_)
  · rw [if_neg c11] at h
    refine ev_aload_n (i := 0) dX10_write_10 rfl rfl ?_
    refine ev_getR dX10_write_11 fl_X10_37 sh_0 (by decide) (by decide) rf_0_5 ?_
    refine ev_iload_n (i := 1) dX10_write_14 rfl rfl ?_
    refine ev_cVI (b := 40) (av := [vI x1]) (S := []) (fun q => q) h dX10_write_15 (fun Q' q => TX6_hasRow x1 _ q) kvX6_hasRow ml_X10_396 sh_40 rfl (RRc (by decide) (by decide)) (Nat.le_of_ble_eq_true rfl) ⟨Nat.le_of_ble_eq_true rfl, Nat.le_of_ble_eq_true rfl⟩ (fun y2 f2 h => ?_)
    refine ev_if_ne (tgt := 24) dX10_write_18 (by decide) (fun c10 => ?_) (fun c10 => ?_)
    · rw [if_neg c10] at h
      refine ev_iload_n (i := 2) dX10_write_24 rfl rfl ?_
      refine ev_if_lt (tgt := 41) dX10_write_25 (by decide) (fun c9 => ?_) (fun c9 => ?_)
      · rw [if_pos c9] at h
        refine ev_bipush (v := (-7)) dX10_write_41 (r32c rfl) (by decide) ?_
        exact ev_iret rfl dX10_write_43 h
      · rw [if_neg c9] at h
        refine ev_iload_n (i := 2) dX10_write_28 rfl rfl ?_
        refine ev_aload_n (i := 0) dX10_write_29 rfl rfl ?_
        refine ev_getR dX10_write_30 fl_X10_37 sh_0 (by decide) (by decide) rf_0_5 ?_
        refine ev_getR dX10_write_33 fl_X10_399 sh_40 (by decide) (by decide) rf_40_1 ?_
        refine ev_iload_n (i := 1) dX10_write_36 rfl rfl ?_
        by_cases g3 : 0 ≤ x1 ∧ x1 < 4
        · rw [if_pos g3] at h
          refine ex_iald (x := (f2 46 x1.toNat)) dX10_write_37 sh_46 g3.1 g3.2 rfl ?_
          refine ev_icmp_lt (tgt := 44) dX10_write_38 (by decide) (fun c8 => ?_) (fun c8 => ?_)
          · rw [if_pos c8] at h
            refine ev_aload_n (i := 0) dX10_write_44 rfl rfl ?_
            refine ev_getR dX10_write_45 fl_X10_37 sh_0 (by decide) (by decide) rf_0_5 ?_
            refine ev_getR dX10_write_48 fl_X10_402 sh_40 (by decide) (by decide) rf_40_0 ?_
            refine ev_iload_n (i := 1) dX10_write_51 rfl rfl ?_
            by_cases g4 : 0 ≤ x1 ∧ x1 < 4
            · rw [if_pos g4] at h
              refine ev_aald (b := (42 + x1.toNat)) dX10_write_52 (Or.inr (Or.inl rfl)) sh_41 g4.1 g4.2 (rfr_41 g4) ?_
              refine ev_iload_n (i := 2) dX10_write_53 rfl rfl ?_
              refine ev_lload_n (i := 3) dX10_write_54 rfl rfl ?_
              refine ev_aload_n (i := 0) dX10_write_55 rfl rfl ?_
              refine ev_getR dX10_write_56 fl_X10_37 sh_0 (by decide) (by decide) rf_0_5 ?_
              refine ev_getR dX10_write_59 fl_X10_406 sh_40 (by decide) (by decide) rf_40_2 ?_
              refine ev_iload_n (i := 1) dX10_write_62 rfl rfl ?_
              by_cases g5 : 0 ≤ x1 ∧ x1 < 4
              · rw [if_pos g5] at h
                refine ex_iald (x := (f2 47 x1.toNat)) dX10_write_63 sh_47 g5.1 g5.2 rfl ?_
                refine ev_cSJ (av := [vJ x3, vI (f2 47 x1.toNat)]) (S := [vI x2, vR (42 + x1.toNat)]) (fun q => q) h dX10_write_64 (fun Q' q => TX10_cut x3 (f2 47 x1.toNat) _ q) ksX10_cut ml_X10_409 rfl (RRc (by decide) (by decide)) (Nat.le_of_ble_eq_true rfl) ⟨Nat.le_of_ble_eq_true rfl, Nat.le_of_ble_eq_true rfl⟩ (fun y6 f6 h => ?_)
                by_cases g7 : 0 ≤ x2 ∧ x2 < 60
                · rw [if_pos g7] at h
                  refine ex_last (j := x2.toNat) dX10_write_67 (shr_41 g4) g7.1 g7.2 rfl ?_
                  refine ev_iconst dX10_write_68 (r32c rfl) ?_
                  exact ev_iret rfl dX10_write_69 h
                · rw [if_neg g7] at h; exact h.elim
              · rw [if_neg g5] at h; exact h.elim
            · rw [if_neg g4] at h; exact h.elim
          · rw [if_neg c8] at h
            refine ev_bipush (v := (-7)) dX10_write_41 (r32c rfl) (by decide) ?_
            exact ev_iret rfl dX10_write_43 h
        · rw [if_neg g3] at h; exact h.elim
    · rw [if_pos c10] at h
      refine ev_bipush (v := (-6)) dX10_write_21 (r32c rfl) (by decide) ?_
      exact ev_iret rfl dX10_write_23 h
  · rw [if_pos c11] at h
    refine ev_bipush (v := (-2)) dX10_write_7 (r32c rfl) (by decide) ?_
    exact ev_iret rfl dX10_write_9 h
def FX10_write (x1 : Int) (x2 : Int) (x3 : Int) (f : Mm) : Option (Int × Mm) := FX10_write_0 x1 x2 x3 f
set_option maxRecDepth 100000 in
theorem TX10_write {G : GT} {l : Launch} {Q : Option AV → Mem → Prop} (x1 : Int) (x2 : Int) (x3 : Int) (f : Mm) (h : OkI Q (FX10_write x1 x2 x3 f)) : Ret G l MX10_write (2) 0 0 [vR 0, vI x1, vI x2, vJ x3] (SH, RF, f) Q := by
  refine ret_of (L := [some (vR 0), some (vI x1), some (vI x2), some (vJ x3), none]) (by decide) rfl (Nat.le_of_ble_eq_true rfl) ?_
  exact SX10_write_0 x1 x2 x3 f h
theorem dX6_reaches_0 : decode cX6_reaches 0 = .ok (.iload_n 2, 1) := by decide +kernel
theorem dX6_reaches_1 : decode cX6_reaches 1 = .ok (.ifCond .lt 23, 3) := by decide +kernel
theorem dX6_reaches_24 : decode cX6_reaches 24 = .ok (.iconst 0, 1) := by decide +kernel
theorem dX6_reaches_25 : decode cX6_reaches 25 = .ok (.ireturn, 1) := by decide +kernel
theorem dX6_reaches_4 : decode cX6_reaches 4 = .ok (.iload_n 3, 1) := by decide +kernel
theorem dX6_reaches_5 : decode cX6_reaches 5 = .ok (.ifCond .lt 19, 3) := by decide +kernel
theorem dX6_reaches_8 : decode cX6_reaches 8 = .ok (.iload_n 2, 1) := by decide +kernel
theorem dX6_reaches_9 : decode cX6_reaches 9 = .ok (.aload_n 0, 1) := by decide +kernel
theorem dX6_reaches_10 : decode cX6_reaches 10 = .ok (.getfield 16, 3) := by decide +kernel
theorem dX6_reaches_13 : decode cX6_reaches 13 = .ok (.iload_n 1, 1) := by decide +kernel
theorem dX6_reaches_14 : decode cX6_reaches 14 = .ok (.iaload, 1) := by decide +kernel
theorem dX6_reaches_15 : decode cX6_reaches 15 = .ok (.iload_n 3, 1) := by decide +kernel
theorem dX6_reaches_16 : decode cX6_reaches 16 = .ok (.isub, 1) := by decide +kernel
theorem dX6_reaches_17 : decode cX6_reaches 17 = .ok (.if_icmp .gt 7, 3) := by decide +kernel
theorem dX6_reaches_20 : decode cX6_reaches 20 = .ok (.iconst 1, 1) := by decide +kernel
theorem dX6_reaches_21 : decode cX6_reaches 21 = .ok (.goto 4, 3) := by decide +kernel
def FX6_reaches_0  (x1 : Int) (x2 : Int) (x3 : Int) (f : Mm) : Option (Int × Mm) := (if x2 < 0 then some (0, f) else (if x3 < 0 then some (0, f) else (if 0 ≤ x1 ∧ x1 < 4 then (if (w32 ((f 46 x1.toNat) - x3)) < x2 then some (0, f) else some (1, f)) else none)))
set_option maxHeartbeats 4000000 in
set_option maxRecDepth 100000 in
theorem SX6_reaches_0 {G : GT} {l : Launch} {Q : Option AV → Mem → Prop}  (x1 : Int) (x2 : Int) (x3 : Int) (f : Mm) (h : OkI Q (FX6_reaches_0  x1 x2 x3 f)) : Ev G l MX6_reaches (Rm 1 0 0) (ZM G Q 0 0) 0 0 0 [some (vR 40), some (vI x1), some (vI x2), some (vI x3)] [] (SH, RF, f) := by
  unfold FX6_reaches_0 at h
  refine ev_iload_n (i := 2) dX6_reaches_0 rfl rfl ?_
  refine ev_if_lt (tgt := 24) dX6_reaches_1 (by decide) (fun c4 => ?_) (fun c4 => ?_)
  · rw [if_pos c4] at h
    refine ev_iconst dX6_reaches_24 (r32c rfl) ?_
    exact ev_zret rfl (by decide) dX6_reaches_25 h
  · rw [if_neg c4] at h
    refine ev_iload_n (i := 3) dX6_reaches_4 rfl rfl ?_
    refine ev_if_lt (tgt := 24) dX6_reaches_5 (by decide) (fun c3 => ?_) (fun c3 => ?_)
    · rw [if_pos c3] at h
      refine ev_iconst dX6_reaches_24 (r32c rfl) ?_
      exact ev_zret rfl (by decide) dX6_reaches_25 h
    · rw [if_neg c3] at h
      refine ev_iload_n (i := 2) dX6_reaches_8 rfl rfl ?_
      refine ev_aload_n (i := 0) dX6_reaches_9 rfl rfl ?_
      refine ev_getR dX6_reaches_10 fl_X6_16 sh_40 (by decide) (by decide) rf_40_1 ?_
      refine ev_iload_n (i := 1) dX6_reaches_13 rfl rfl ?_
      by_cases g1 : 0 ≤ x1 ∧ x1 < 4
      · rw [if_pos g1] at h
        refine ex_iald (x := (f 46 x1.toNat)) dX6_reaches_14 sh_46 g1.1 g1.2 rfl ?_
        refine ev_iload_n (i := 3) dX6_reaches_15 rfl rfl ?_
        refine ev_isub dX6_reaches_16 ?_
        refine ev_icmp_gt (tgt := 24) dX6_reaches_17 (by decide) (fun c2 => ?_) (fun c2 => ?_)
        · rw [if_pos c2] at h
          refine ev_iconst dX6_reaches_24 (r32c rfl) ?_
          exact ev_zret rfl (by decide) dX6_reaches_25 h
        · rw [if_neg c2] at h
          refine ev_iconst dX6_reaches_20 (r32c rfl) ?_
          refine ev_goto (tgt := 25) dX6_reaches_21 (by decide) ?_
          exact ev_zret rfl (by decide) dX6_reaches_25 h
      · rw [if_neg g1] at h; exact h.elim
def FX6_reaches (x1 : Int) (x2 : Int) (x3 : Int) (f : Mm) : Option (Int × Mm) := FX6_reaches_0 x1 x2 x3 f
set_option maxRecDepth 100000 in
theorem TX6_reaches {G : GT} {l : Launch} {Q : Option AV → Mem → Prop} (x1 : Int) (x2 : Int) (x3 : Int) (f : Mm) (h : OkI Q (FX6_reaches x1 x2 x3 f)) : Ret G l MX6_reaches (1) 0 0 [vR 40, vI x1, vI x2, vI x3] (SH, RF, f) Q := by
  refine ret_of (L := [some (vR 40), some (vI x1), some (vI x2), some (vI x3)]) (by decide) rfl (Nat.le_of_ble_eq_true rfl) ?_
  exact SX6_reaches_0 x1 x2 x3 f h
theorem dX10_paste_0 : decode cX10_paste 0 = .ok (.iload_n 1, 1) := by decide +kernel
theorem dX10_paste_1 : decode cX10_paste 1 = .ok (.invokestatic 389, 3) := by decide +kernel
theorem dX10_paste_4 : decode cX10_paste 4 = .ok (.ifCond .eq 10, 3) := by decide +kernel
theorem dX10_paste_14 : decode cX10_paste 14 = .ok (.bipush (-2), 2) := by decide +kernel
theorem dX10_paste_16 : decode cX10_paste 16 = .ok (.ireturn, 1) := by decide +kernel
theorem dX10_paste_7 : decode cX10_paste 7 = .ok (.iload_n 3, 1) := by decide +kernel
theorem dX10_paste_8 : decode cX10_paste 8 = .ok (.invokestatic 389, 3) := by decide +kernel
theorem dX10_paste_11 : decode cX10_paste 11 = .ok (.ifCond .ne 6, 3) := by decide +kernel
theorem dX10_paste_17 : decode cX10_paste 17 = .ok (.aload_n 0, 1) := by decide +kernel
theorem dX10_paste_18 : decode cX10_paste 18 = .ok (.getfield 37, 3) := by decide +kernel
theorem dX10_paste_21 : decode cX10_paste 21 = .ok (.iload_n 1, 1) := by decide +kernel
theorem dX10_paste_22 : decode cX10_paste 22 = .ok (.invokevirtual 396, 3) := by decide +kernel
theorem dX10_paste_25 : decode cX10_paste 25 = .ok (.ifCond .eq 14, 3) := by decide +kernel
theorem dX10_paste_39 : decode cX10_paste 39 = .ok (.bipush (-6), 2) := by decide +kernel
theorem dX10_paste_41 : decode cX10_paste 41 = .ok (.ireturn, 1) := by decide +kernel
theorem dX10_paste_28 : decode cX10_paste 28 = .ok (.aload_n 0, 1) := by decide +kernel
theorem dX10_paste_29 : decode cX10_paste 29 = .ok (.getfield 37, 3) := by decide +kernel
theorem dX10_paste_32 : decode cX10_paste 32 = .ok (.iload_n 3, 1) := by decide +kernel
theorem dX10_paste_33 : decode cX10_paste 33 = .ok (.invokevirtual 396, 3) := by decide +kernel
theorem dX10_paste_36 : decode cX10_paste 36 = .ok (.ifCond .ne 6, 3) := by decide +kernel
theorem dX10_paste_42 : decode cX10_paste 42 = .ok (.aload_n 0, 1) := by decide +kernel
theorem dX10_paste_43 : decode cX10_paste 43 = .ok (.getfield 37, 3) := by decide +kernel
theorem dX10_paste_46 : decode cX10_paste 46 = .ok (.getfield 406, 3) := by decide +kernel
theorem dX10_paste_49 : decode cX10_paste 49 = .ok (.iload_n 1, 1) := by decide +kernel
theorem dX10_paste_50 : decode cX10_paste 50 = .ok (.iaload, 1) := by decide +kernel
theorem dX10_paste_51 : decode cX10_paste 51 = .ok (.aload_n 0, 1) := by decide +kernel
theorem dX10_paste_52 : decode cX10_paste 52 = .ok (.getfield 37, 3) := by decide +kernel
theorem dX10_paste_55 : decode cX10_paste 55 = .ok (.getfield 406, 3) := by decide +kernel
theorem dX10_paste_58 : decode cX10_paste 58 = .ok (.iload_n 3, 1) := by decide +kernel
theorem dX10_paste_59 : decode cX10_paste 59 = .ok (.iaload, 1) := by decide +kernel
theorem dX10_paste_60 : decode cX10_paste 60 = .ok (.if_icmp .eq 6, 3) := by decide +kernel
theorem dX10_paste_66 : decode cX10_paste 66 = .ok (.aload_n 0, 1) := by decide +kernel
theorem dX10_paste_67 : decode cX10_paste 67 = .ok (.getfield 37, 3) := by decide +kernel
theorem dX10_paste_70 : decode cX10_paste 70 = .ok (.iload_n 1, 1) := by decide +kernel
theorem dX10_paste_71 : decode cX10_paste 71 = .ok (.iload_n 2, 1) := by decide +kernel
theorem dX10_paste_72 : decode cX10_paste 72 = .ok (.iload 5, 2) := by decide +kernel
theorem dX10_paste_74 : decode cX10_paste 74 = .ok (.invokevirtual 413, 3) := by decide +kernel
theorem dX10_paste_77 : decode cX10_paste 77 = .ok (.ifCond .eq 18, 3) := by decide +kernel
theorem dX10_paste_95 : decode cX10_paste 95 = .ok (.bipush (-7), 2) := by decide +kernel
theorem dX10_paste_97 : decode cX10_paste 97 = .ok (.ireturn, 1) := by decide +kernel
theorem dX10_paste_80 : decode cX10_paste 80 = .ok (.aload_n 0, 1) := by decide +kernel
theorem dX10_paste_81 : decode cX10_paste 81 = .ok (.getfield 37, 3) := by decide +kernel
theorem dX10_paste_84 : decode cX10_paste 84 = .ok (.iload_n 3, 1) := by decide +kernel
theorem dX10_paste_85 : decode cX10_paste 85 = .ok (.iload 4, 2) := by decide +kernel
theorem dX10_paste_87 : decode cX10_paste 87 = .ok (.iload 5, 2) := by decide +kernel
theorem dX10_paste_89 : decode cX10_paste 89 = .ok (.invokevirtual 413, 3) := by decide +kernel
theorem dX10_paste_92 : decode cX10_paste 92 = .ok (.ifCond .ne 6, 3) := by decide +kernel
theorem dX10_paste_98 : decode cX10_paste 98 = .ok (.aload_n 0, 1) := by decide +kernel
theorem dX10_paste_99 : decode cX10_paste 99 = .ok (.getfield 37, 3) := by decide +kernel
theorem dX10_paste_102 : decode cX10_paste 102 = .ok (.getfield 402, 3) := by decide +kernel
theorem dX10_paste_105 : decode cX10_paste 105 = .ok (.iload_n 1, 1) := by decide +kernel
theorem dX10_paste_106 : decode cX10_paste 106 = .ok (.aaload, 1) := by decide +kernel
theorem dX10_paste_107 : decode cX10_paste 107 = .ok (.iload_n 2, 1) := by decide +kernel
theorem dX10_paste_108 : decode cX10_paste 108 = .ok (.aload_n 0, 1) := by decide +kernel
theorem dX10_paste_109 : decode cX10_paste 109 = .ok (.getfield 37, 3) := by decide +kernel
theorem dX10_paste_112 : decode cX10_paste 112 = .ok (.getfield 402, 3) := by decide +kernel
theorem dX10_paste_115 : decode cX10_paste 115 = .ok (.iload_n 3, 1) := by decide +kernel
theorem dX10_paste_116 : decode cX10_paste 116 = .ok (.aaload, 1) := by decide +kernel
theorem dX10_paste_117 : decode cX10_paste 117 = .ok (.iload 4, 2) := by decide +kernel
theorem dX10_paste_119 : decode cX10_paste 119 = .ok (.iload 5, 2) := by decide +kernel
theorem dX10_paste_121 : decode cX10_paste 121 = .ok (.invokestatic 417, 3) := by decide +kernel
theorem dX10_paste_124 : decode cX10_paste 124 = .ok (.iconst 0, 1) := by decide +kernel
theorem dX10_paste_125 : decode cX10_paste 125 = .ok (.ireturn, 1) := by decide +kernel
theorem dX10_paste_63 : decode cX10_paste 63 = .ok (.bipush (-8), 2) := by decide +kernel
theorem dX10_paste_65 : decode cX10_paste 65 = .ok (.ireturn, 1) := by decide +kernel
def FX10_paste_0  (x1 : Int) (x2 : Int) (x3 : Int) (x4 : Int) (x5 : Int) (f : Mm) : Option (Int × Mm) := (b2 (FX10_isSlot x1 f) fun y1 f1 => (if y1 = 0 then some ((-2), f1) else (b2 (FX10_isSlot x3 f1) fun y2 f2 => (if y2 = 0 then some ((-2), f2) else (b2 (FX6_hasRow x1 f2) fun y3 f3 => (if y3 = 0 then some ((-6), f3) else (b2 (FX6_hasRow x3 f3) fun y4 f4 => (if y4 = 0 then some ((-6), f4) else (if 0 ≤ x1 ∧ x1 < 4 then (if 0 ≤ x3 ∧ x3 < 4 then (if (f4 47 x1.toNat) = (f4 47 x3.toNat) then (b2 (FX6_reaches x1 x2 x5 f4) fun y7 f7 => (if y7 = 0 then some ((-7), f7) else (b2 (FX6_reaches x3 x4 x5 f7) fun y8 f8 => (if y8 = 0 then some ((-7), f8) else (if 0 ≤ x1 ∧ x1 < 4 then (if 0 ≤ x3 ∧ x3 < 4 then (if 0 ≤ x2 ∧ 0 ≤ x4 ∧ 0 ≤ x5 ∧ x2 + x5 ≤ 60 ∧ x4 + x5 ≤ 60 then some (0, (cpy f8 (42 + x1.toNat) x2.toNat (42 + x3.toNat) x4.toNat x5.toNat)) else none) else none) else none))))) else some ((-8), f4)) else none) else none)))))))))
set_option maxHeartbeats 4000000 in
set_option maxRecDepth 100000 in
theorem SX10_paste_0 {G : GT} {l : Launch} {Q : Option AV → Mem → Prop}  (x1 : Int) (x2 : Int) (x3 : Int) (x4 : Int) (x5 : Int) (f : Mm) (h : OkI Q (FX10_paste_0  x1 x2 x3 x4 x5 f)) : Ev G l MX10_paste (Rm 2 0 0) (ZM G Q 0 0) 0 0 0 [some (vR 0), some (vI x1), some (vI x2), some (vI x3), some (vI x4), some (vI x5)] [] (SH, RF, f) := by
  unfold FX10_paste_0 at h
  refine ev_iload_n (i := 1) dX10_paste_0 rfl rfl ?_
  refine ev_cSI (av := [vI x1]) (S := []) (fun q => q) h dX10_paste_1 (fun Q' q => TX10_isSlot x1 _ q) ksX10_isSlot ml_X10_389 rfl (RRc (by decide) (by decide)) (Nat.le_of_ble_eq_true rfl) ⟨Nat.le_of_ble_eq_true rfl, Nat.le_of_ble_eq_true rfl⟩ (fun y1 f1 h => ?_)
  refine ev_if_eq (tgt := 14) dX10_paste_4 (by decide) (fun c18 => ?_) (fun c18 => ?_)
  · rw [if_pos c18] at h
    refine ev_bipush (v := (-2)) dX10_paste_14 (r32c rfl) (by decide) ?_
    exact ev_iret rfl dX10_paste_16 h
  · rw [if_neg c18] at h
    refine ev_iload_n (i := 3) dX10_paste_7 rfl rfl ?_
    refine ev_cSI (av := [vI x3]) (S := []) (fun q => q) h dX10_paste_8 (fun Q' q => TX10_isSlot x3 _ q) ksX10_isSlot ml_X10_389 rfl (RRc (by decide) (by decide)) (Nat.le_of_ble_eq_true rfl) ⟨Nat.le_of_ble_eq_true rfl, Nat.le_of_ble_eq_true rfl⟩ (fun y2 f2 h => ?_)
    refine ev_if_ne (tgt := 17) dX10_paste_11 (by decide) (fun c17 => ?_) (fun c17 => ?_)
    · rw [if_neg c17] at h
      refine ev_aload_n (i := 0) dX10_paste_17 rfl rfl ?_
      refine ev_getR dX10_paste_18 fl_X10_37 sh_0 (by decide) (by decide) rf_0_5 ?_
      refine ev_iload_n (i := 1) dX10_paste_21 rfl rfl ?_
      refine ev_cVI (b := 40) (av := [vI x1]) (S := []) (fun q => q) h dX10_paste_22 (fun Q' q => TX6_hasRow x1 _ q) kvX6_hasRow ml_X10_396 sh_40 rfl (RRc (by decide) (by decide)) (Nat.le_of_ble_eq_true rfl) ⟨Nat.le_of_ble_eq_true rfl, Nat.le_of_ble_eq_true rfl⟩ (fun y3 f3 h => ?_)
      refine ev_if_eq (tgt := 39) dX10_paste_25 (by decide) (fun c16 => ?_) (fun c16 => ?_)
      · rw [if_pos c16] at h
        refine ev_bipush (v := (-6)) dX10_paste_39 (r32c rfl) (by decide) ?_
        exact ev_iret rfl dX10_paste_41 h
      · rw [if_neg c16] at h
        refine ev_aload_n (i := 0) dX10_paste_28 rfl rfl ?_
        refine ev_getR dX10_paste_29 fl_X10_37 sh_0 (by decide) (by decide) rf_0_5 ?_
        refine ev_iload_n (i := 3) dX10_paste_32 rfl rfl ?_
        refine ev_cVI (b := 40) (av := [vI x3]) (S := []) (fun q => q) h dX10_paste_33 (fun Q' q => TX6_hasRow x3 _ q) kvX6_hasRow ml_X10_396 sh_40 rfl (RRc (by decide) (by decide)) (Nat.le_of_ble_eq_true rfl) ⟨Nat.le_of_ble_eq_true rfl, Nat.le_of_ble_eq_true rfl⟩ (fun y4 f4 h => ?_)
        refine ev_if_ne (tgt := 42) dX10_paste_36 (by decide) (fun c15 => ?_) (fun c15 => ?_)
        · rw [if_neg c15] at h
          refine ev_aload_n (i := 0) dX10_paste_42 rfl rfl ?_
          refine ev_getR dX10_paste_43 fl_X10_37 sh_0 (by decide) (by decide) rf_0_5 ?_
          refine ev_getR dX10_paste_46 fl_X10_406 sh_40 (by decide) (by decide) rf_40_2 ?_
          refine ev_iload_n (i := 1) dX10_paste_49 rfl rfl ?_
          by_cases g5 : 0 ≤ x1 ∧ x1 < 4
          · rw [if_pos g5] at h
            refine ex_iald (x := (f4 47 x1.toNat)) dX10_paste_50 sh_47 g5.1 g5.2 rfl ?_
            refine ev_aload_n (i := 0) dX10_paste_51 rfl rfl ?_
            refine ev_getR dX10_paste_52 fl_X10_37 sh_0 (by decide) (by decide) rf_0_5 ?_
            refine ev_getR dX10_paste_55 fl_X10_406 sh_40 (by decide) (by decide) rf_40_2 ?_
            refine ev_iload_n (i := 3) dX10_paste_58 rfl rfl ?_
            by_cases g6 : 0 ≤ x3 ∧ x3 < 4
            · rw [if_pos g6] at h
              refine ex_iald (x := (f4 47 x3.toNat)) dX10_paste_59 sh_47 g6.1 g6.2 rfl ?_
              refine ev_icmp_eq (tgt := 66) dX10_paste_60 (by decide) (fun c14 => ?_) (fun c14 => ?_)
              · rw [if_pos c14] at h
                refine ev_aload_n (i := 0) dX10_paste_66 rfl rfl ?_
                refine ev_getR dX10_paste_67 fl_X10_37 sh_0 (by decide) (by decide) rf_0_5 ?_
                refine ev_iload_n (i := 1) dX10_paste_70 rfl rfl ?_
                refine ev_iload_n (i := 2) dX10_paste_71 rfl rfl ?_
                refine ev_iload dX10_paste_72 rfl ?_
                refine ev_cVI (b := 40) (av := [vI x1, vI x2, vI x5]) (S := []) (fun q => q) h dX10_paste_74 (fun Q' q => TX6_reaches x1 x2 x5 _ q) kvX6_reaches ml_X10_413 sh_40 rfl (RRc (by decide) (by decide)) (Nat.le_of_ble_eq_true rfl) ⟨Nat.le_of_ble_eq_true rfl, Nat.le_of_ble_eq_true rfl⟩ (fun y7 f7 h => ?_)
                refine ev_if_eq (tgt := 95) dX10_paste_77 (by decide) (fun c13 => ?_) (fun c13 => ?_)
                · rw [if_pos c13] at h
                  refine ev_bipush (v := (-7)) dX10_paste_95 (r32c rfl) (by decide) ?_
                  exact ev_iret rfl dX10_paste_97 h
                · rw [if_neg c13] at h
                  refine ev_aload_n (i := 0) dX10_paste_80 rfl rfl ?_
                  refine ev_getR dX10_paste_81 fl_X10_37 sh_0 (by decide) (by decide) rf_0_5 ?_
                  refine ev_iload_n (i := 3) dX10_paste_84 rfl rfl ?_
                  refine ev_iload dX10_paste_85 rfl ?_
                  refine ev_iload dX10_paste_87 rfl ?_
                  refine ev_cVI (b := 40) (av := [vI x3, vI x4, vI x5]) (S := []) (fun q => q) h dX10_paste_89 (fun Q' q => TX6_reaches x3 x4 x5 _ q) kvX6_reaches ml_X10_413 sh_40 rfl (RRc (by decide) (by decide)) (Nat.le_of_ble_eq_true rfl) ⟨Nat.le_of_ble_eq_true rfl, Nat.le_of_ble_eq_true rfl⟩ (fun y8 f8 h => ?_)
                  refine ev_if_ne (tgt := 98) dX10_paste_92 (by decide) (fun c12 => ?_) (fun c12 => ?_)
                  · rw [if_neg c12] at h
                    refine ev_aload_n (i := 0) dX10_paste_98 rfl rfl ?_
                    refine ev_getR dX10_paste_99 fl_X10_37 sh_0 (by decide) (by decide) rf_0_5 ?_
                    refine ev_getR dX10_paste_102 fl_X10_402 sh_40 (by decide) (by decide) rf_40_0 ?_
                    refine ev_iload_n (i := 1) dX10_paste_105 rfl rfl ?_
                    by_cases g9 : 0 ≤ x1 ∧ x1 < 4
                    · rw [if_pos g9] at h
                      refine ev_aald (b := (42 + x1.toNat)) dX10_paste_106 (Or.inr (Or.inl rfl)) sh_41 g9.1 g9.2 (rfr_41 g9) ?_
                      refine ev_iload_n (i := 2) dX10_paste_107 rfl rfl ?_
                      refine ev_aload_n (i := 0) dX10_paste_108 rfl rfl ?_
                      refine ev_getR dX10_paste_109 fl_X10_37 sh_0 (by decide) (by decide) rf_0_5 ?_
                      refine ev_getR dX10_paste_112 fl_X10_402 sh_40 (by decide) (by decide) rf_40_0 ?_
                      refine ev_iload_n (i := 3) dX10_paste_115 rfl rfl ?_
                      by_cases g10 : 0 ≤ x3 ∧ x3 < 4
                      · rw [if_pos g10] at h
                        refine ev_aald (b := (42 + x3.toNat)) dX10_paste_116 (Or.inr (Or.inl rfl)) sh_41 g10.1 g10.2 (rfr_41 g10) ?_
                        refine ev_iload dX10_paste_117 rfl ?_
                        refine ev_iload dX10_paste_119 rfl ?_
                        by_cases g11 : 0 ≤ x2 ∧ 0 ≤ x4 ∧ 0 ≤ x5 ∧ x2 + x5 ≤ 60 ∧ x4 + x5 ≤ 60
                        · rw [if_pos g11] at h
                          refine ev_acopy dX10_paste_121 ac_lk_X10_417 ac_nat ac_sta ac_ini (shr_41 g9) (shr_41 g10) g11.1 g11.2.1 g11.2.2.1 g11.2.2.2.1 g11.2.2.2.2 (Nat.le_of_ble_eq_true rfl) (Nat.le_of_ble_eq_true rfl) ?_
                          refine ev_iconst dX10_paste_124 (r32c rfl) ?_
                          exact ev_iret rfl dX10_paste_125 h
                        · rw [if_neg g11] at h; exact h.elim
                      · rw [if_neg g10] at h; exact h.elim
                    · rw [if_neg g9] at h; exact h.elim
                  · rw [if_pos c12] at h
                    refine ev_bipush (v := (-7)) dX10_paste_95 (r32c rfl) (by decide) ?_
                    exact ev_iret rfl dX10_paste_97 h
              · rw [if_neg c14] at h
                refine ev_bipush (v := (-8)) dX10_paste_63 (r32c rfl) (by decide) ?_
                exact ev_iret rfl dX10_paste_65 h
            · rw [if_neg g6] at h; exact h.elim
          · rw [if_neg g5] at h; exact h.elim
        · rw [if_pos c15] at h
          refine ev_bipush (v := (-6)) dX10_paste_39 (r32c rfl) (by decide) ?_
          exact ev_iret rfl dX10_paste_41 h
    · rw [if_pos c17] at h
      refine ev_bipush (v := (-2)) dX10_paste_14 (r32c rfl) (by decide) ?_
      exact ev_iret rfl dX10_paste_16 h
def FX10_paste (x1 : Int) (x2 : Int) (x3 : Int) (x4 : Int) (x5 : Int) (f : Mm) : Option (Int × Mm) := FX10_paste_0 x1 x2 x3 x4 x5 f
set_option maxRecDepth 100000 in
theorem TX10_paste {G : GT} {l : Launch} {Q : Option AV → Mem → Prop} (x1 : Int) (x2 : Int) (x3 : Int) (x4 : Int) (x5 : Int) (f : Mm) (h : OkI Q (FX10_paste x1 x2 x3 x4 x5 f)) : Ret G l MX10_paste (2) 0 0 [vR 0, vI x1, vI x2, vI x3, vI x4, vI x5] (SH, RF, f) Q := by
  refine ret_of (L := [some (vR 0), some (vI x1), some (vI x2), some (vI x3), some (vI x4), some (vI x5)]) (by decide) rfl (Nat.le_of_ble_eq_true rfl) ?_
  exact SX10_paste_0 x1 x2 x3 x4 x5 f h

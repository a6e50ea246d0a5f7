theorem dX11_soonest_0 : decode cX11_soonest 0 = .ok (.aload_n 0, 1) := by decide +kernel
theorem dX11_soonest_1 : decode cX11_soonest 1 = .ok (.iconst 0, 1) := by decide +kernel
theorem dX11_soonest_2 : decode cX11_soonest 2 = .ok (.putfield 98, 3) := by decide +kernel
theorem dX11_soonest_5 : decode cX11_soonest 5 = .ok (.aload_n 0, 1) := by decide +kernel
theorem dX11_soonest_6 : decode cX11_soonest 6 = .ok (.iload_n 1, 1) := by decide +kernel
theorem dX11_soonest_7 : decode cX11_soonest 7 = .ok (.invokevirtual 316, 3) := by decide +kernel
theorem dX11_soonest_10 : decode cX11_soonest 10 = .ok (.ifCond .ne 6, 3) := by decide +kernel
theorem dX11_soonest_16 : decode cX11_soonest 16 = .ok (.aload_n 0, 1) := by decide +kernel
theorem dX11_soonest_17 : decode cX11_soonest 17 = .ok (.invokevirtual 365, 3) := by decide +kernel
theorem dX11_soonest_20 : decode cX11_soonest 20 = .ok (.aload_n 0, 1) := by decide +kernel
theorem dX11_soonest_21 : decode cX11_soonest 21 = .ok (.getfield 80, 3) := by decide +kernel
theorem dX11_soonest_24 : decode cX11_soonest 24 = .ok (.iload_n 1, 1) := by decide +kernel
theorem dX11_soonest_25 : decode cX11_soonest 25 = .ok (.iaload, 1) := by decide +kernel
theorem dX11_soonest_26 : decode cX11_soonest 26 = .ok (.ldc_w 349, 3) := by decide +kernel
theorem dX11_soonest_29 : decode cX11_soonest 29 = .ok (.if_icmp .lt 7, 3) := by decide +kernel
theorem dX11_soonest_36 : decode cX11_soonest 36 = .ok (.aload_n 0, 1) := by decide +kernel
theorem dX11_soonest_37 : decode cX11_soonest 37 = .ok (.getfield 80, 3) := by decide +kernel
theorem dX11_soonest_40 : decode cX11_soonest 40 = .ok (.iload_n 1, 1) := by decide +kernel
theorem dX11_soonest_41 : decode cX11_soonest 41 = .ok (.iaload, 1) := by decide +kernel
theorem dX11_soonest_42 : decode cX11_soonest 42 = .ok (.ireturn, 1) := by decide +kernel
theorem dX11_soonest_32 : decode cX11_soonest 32 = .ok (.iconst (-1), 1) := by decide +kernel
theorem dX11_soonest_33 : decode cX11_soonest 33 = .ok (.goto 9, 3) := by decide +kernel
theorem dX11_soonest_13 : decode cX11_soonest 13 = .ok (.bipush (-2), 2) := by decide +kernel
theorem dX11_soonest_15 : decode cX11_soonest 15 = .ok (.ireturn, 1) := by decide +kernel
def FX11_soonest_0  (x1 : Int) (f : Mm) : Option (Int × Mm) := (b2 (FX11_isCart x1 (up f 150 0 0)) fun y1 f1 => (if y1 = 0 then some ((-2), f1) else ((FX11_laysPlans f1).bind fun f2 => (if 0 ≤ x1 ∧ x1 < 6 then (if (f2 172 x1.toNat) < 10000000 then (if 0 ≤ x1 ∧ x1 < 6 then some ((f2 172 x1.toNat), f2) else none) else some ((-1), f2)) else none))))
set_option maxHeartbeats 4000000 in
set_option maxRecDepth 100000 in
theorem SX11_soonest_0 {G : GT} {l : Launch} {Q : Option AV → Mem → Prop}  (x1 : Int) (f : Mm) (h : OkI Q (FX11_soonest_0  x1 f)) : Ev G l MX11_soonest (Rm 7 0 0) (ZM G Q 0 0) 0 0 0 [some (vR 150), some (vI x1)] [] (SH, RF, f) := by
  unfold FX11_soonest_0 at h
  refine ev_aload_n (i := 0) dX11_soonest_0 rfl rfl ?_
  refine ev_iconst dX11_soonest_1 (r32c rfl) ?_
  refine ev_putI dX11_soonest_2 fl_X11_98 sh_150 (by decide) (by decide) ?_
  refine ev_aload_n (i := 0) dX11_soonest_5 rfl rfl ?_
  refine ev_iload_n (i := 1) dX11_soonest_6 rfl rfl ?_
  refine ev_cVI (b := 150) (av := [vI x1]) (S := []) (fun q => q) h dX11_soonest_7 (fun Q' q => TX11_isCart x1 _ q) kvX11_isCart ml_X11_316 sh_150 rfl (RRc (by decide) (by decide)) (Nat.le_of_ble_eq_true rfl) ⟨Nat.le_of_ble_eq_true rfl, Nat.le_of_ble_eq_true rfl⟩ (fun y1 f1 h => ?_)
  refine ev_if_ne (tgt := 16) dX11_soonest_10 (by decide) (fun c6 => ?_) (fun c6 => ?_)
  · rw [if_neg c6] at h
    refine ev_aload_n (i := 0) dX11_soonest_16 rfl rfl ?_
    refine ev_cVV (b := 150) (av := []) (S := []) (fun q => q) h dX11_soonest_17 (fun Q' q => TX11_laysPlans _ q) kvX11_laysPlans ml_X11_365 sh_150 rfl (RRc (by decide) (by decide)) (Nat.le_of_ble_eq_true rfl) ⟨Nat.le_of_ble_eq_true rfl, Nat.le_of_ble_eq_true rfl⟩ (fun f2 h => ?_)
    refine ev_aload_n (i := 0) dX11_soonest_20 rfl rfl ?_
    refine ev_getR dX11_soonest_21 fl_X11_80 sh_150 (by decide) (by decide) rf_150_37 ?_
    refine ev_iload_n (i := 1) dX11_soonest_24 rfl rfl ?_
    by_cases g3 : 0 ≤ x1 ∧ x1 < 6
    · rw [if_pos g3] at h
      refine ex_iald (x := (f2 172 x1.toNat)) dX11_soonest_25 sh_172 g3.1 g3.2 rfl ?_
      refine ev_ldcw (v := 10000000) dX11_soonest_26 (r32c rfl) kc_X11_349 ?_
      refine ev_icmp_lt (tgt := 36) dX11_soonest_29 (by decide) (fun c5 => ?_) (fun c5 => ?_)
      · rw [if_pos c5] at h
        refine ev_aload_n (i := 0) dX11_soonest_36 rfl rfl ?_
        refine ev_getR dX11_soonest_37 fl_X11_80 sh_150 (by decide) (by decide) rf_150_37 ?_
        refine ev_iload_n (i := 1) dX11_soonest_40 rfl rfl ?_
        by_cases g4 : 0 ≤ x1 ∧ x1 < 6
        · rw [if_pos g4] at h
          refine ex_iald (x := (f2 172 x1.toNat)) dX11_soonest_41 sh_172 g4.1 g4.2 rfl ?_
          exact ev_iret rfl dX11_soonest_42 h
        · rw [if_neg g4] at h; exact h.elim
      · rw [if_neg c5] at h
        refine ev_iconst dX11_soonest_32 (r32c rfl) ?_
        refine ev_goto (tgt := 42) dX11_soonest_33 (by decide) ?_
        exact ev_iret rfl dX11_soonest_42 h
    · rw [if_neg g3] at h; exact h.elim
  · rw [if_pos c6] at h
    refine ev_bipush (v := (-2)) dX11_soonest_13 (r32c rfl) (by decide) ?_
    exact ev_iret rfl dX11_soonest_15 h
def FX11_soonest (x1 : Int) (f : Mm) : Option (Int × Mm) := FX11_soonest_0 x1 f
set_option maxRecDepth 100000 in
theorem TX11_soonest {G : GT} {l : Launch} {Q : Option AV → Mem → Prop} (x1 : Int) (f : Mm) (h : OkI Q (FX11_soonest x1 f)) : Ret G l MX11_soonest (7) 0 0 [vR 150, vI x1] (SH, RF, f) Q := by
  refine ret_of (L := [some (vR 150), some (vI x1)]) (by decide) rfl (Nat.le_of_ble_eq_true rfl) ?_
  exact SX11_soonest_0 x1 f h
theorem dX11_hold_0 : decode cX11_hold 0 = .ok (.aload_n 0, 1) := by decide +kernel
theorem dX11_hold_1 : decode cX11_hold 1 = .ok (.iconst 0, 1) := by decide +kernel
theorem dX11_hold_2 : decode cX11_hold 2 = .ok (.putfield 98, 3) := by decide +kernel
theorem dX11_hold_5 : decode cX11_hold 5 = .ok (.aload_n 0, 1) := by decide +kernel
theorem dX11_hold_6 : decode cX11_hold 6 = .ok (.iload_n 1, 1) := by decide +kernel
theorem dX11_hold_7 : decode cX11_hold 7 = .ok (.invokevirtual 370, 3) := by decide +kernel
theorem dX11_hold_10 : decode cX11_hold 10 = .ok (.ifCond .ne 6, 3) := by decide +kernel
theorem dX11_hold_16 : decode cX11_hold 16 = .ok (.aload_n 0, 1) := by decide +kernel
theorem dX11_hold_17 : decode cX11_hold 17 = .ok (.invokevirtual 365, 3) := by decide +kernel
theorem dX11_hold_20 : decode cX11_hold 20 = .ok (.aload_n 0, 1) := by decide +kernel
theorem dX11_hold_21 : decode cX11_hold 21 = .ok (.getfield 83, 3) := by decide +kernel
theorem dX11_hold_24 : decode cX11_hold 24 = .ok (.iload_n 1, 1) := by decide +kernel
theorem dX11_hold_25 : decode cX11_hold 25 = .ok (.iaload, 1) := by decide +kernel
theorem dX11_hold_26 : decode cX11_hold 26 = .ok (.ldc_w 349, 3) := by decide +kernel
theorem dX11_hold_29 : decode cX11_hold 29 = .ok (.if_icmp .lt 7, 3) := by decide +kernel
theorem dX11_hold_36 : decode cX11_hold 36 = .ok (.aload_n 0, 1) := by decide +kernel
theorem dX11_hold_37 : decode cX11_hold 37 = .ok (.getfield 83, 3) := by decide +kernel
theorem dX11_hold_40 : decode cX11_hold 40 = .ok (.iload_n 1, 1) := by decide +kernel
theorem dX11_hold_41 : decode cX11_hold 41 = .ok (.iaload, 1) := by decide +kernel
theorem dX11_hold_42 : decode cX11_hold 42 = .ok (.ireturn, 1) := by decide +kernel
theorem dX11_hold_32 : decode cX11_hold 32 = .ok (.iconst (-1), 1) := by decide +kernel
theorem dX11_hold_33 : decode cX11_hold 33 = .ok (.goto 9, 3) := by decide +kernel
theorem dX11_hold_13 : decode cX11_hold 13 = .ok (.bipush (-2), 2) := by decide +kernel
theorem dX11_hold_15 : decode cX11_hold 15 = .ok (.ireturn, 1) := by decide +kernel
def FX11_hold_0  (x1 : Int) (f : Mm) : Option (Int × Mm) := (b2 (FX11_isWidth x1 (up f 150 0 0)) fun y1 f1 => (if y1 = 0 then some ((-2), f1) else ((FX11_laysPlans f1).bind fun f2 => (if 0 ≤ x1 ∧ x1 < 61 then (if (f2 173 x1.toNat) < 10000000 then (if 0 ≤ x1 ∧ x1 < 61 then some ((f2 173 x1.toNat), f2) else none) else some ((-1), f2)) else none))))
set_option maxHeartbeats 4000000 in
set_option maxRecDepth 100000 in
theorem SX11_hold_0 {G : GT} {l : Launch} {Q : Option AV → Mem → Prop}  (x1 : Int) (f : Mm) (h : OkI Q (FX11_hold_0  x1 f)) : Ev G l MX11_hold (Rm 7 0 0) (ZM G Q 0 0) 0 0 0 [some (vR 150), some (vI x1)] [] (SH, RF, f) := by
  unfold FX11_hold_0 at h
  refine ev_aload_n (i := 0) dX11_hold_0 rfl rfl ?_
  refine ev_iconst dX11_hold_1 (r32c rfl) ?_
  refine ev_putI dX11_hold_2 fl_X11_98 sh_150 (by decide) (by decide) ?_
  refine ev_aload_n (i := 0) dX11_hold_5 rfl rfl ?_
  refine ev_iload_n (i := 1) dX11_hold_6 rfl rfl ?_
  refine ev_cVI (b := 150) (av := [vI x1]) (S := []) (fun q => q) h dX11_hold_7 (fun Q' q => TX11_isWidth x1 _ q) kvX11_isWidth ml_X11_370 sh_150 rfl (RRc (by decide) (by decide)) (Nat.le_of_ble_eq_true rfl) ⟨Nat.le_of_ble_eq_true rfl, Nat.le_of_ble_eq_true rfl⟩ (fun y1 f1 h => ?_)
  refine ev_if_ne (tgt := 16) dX11_hold_10 (by decide) (fun c6 => ?_) (fun c6 => ?_)
  · rw [if_neg c6] at h
    refine ev_aload_n (i := 0) dX11_hold_16 rfl rfl ?_
    refine ev_cVV (b := 150) (av := []) (S := []) (fun q => q) h dX11_hold_17 (fun Q' q => TX11_laysPlans _ q) kvX11_laysPlans ml_X11_365 sh_150 rfl (RRc (by decide) (by decide)) (Nat.le_of_ble_eq_true rfl) ⟨Nat.le_of_ble_eq_true rfl, Nat.le_of_ble_eq_true rfl⟩ (fun f2 h => ?_)
    refine ev_aload_n (i := 0) dX11_hold_20 rfl rfl ?_
    refine ev_getR dX11_hold_21 fl_X11_83 sh_150 (by decide) (by decide) rf_150_38 ?_
    refine ev_iload_n (i := 1) dX11_hold_24 rfl rfl ?_
    by_cases g3 : 0 ≤ x1 ∧ x1 < 61
    · rw [if_pos g3] at h
      refine ex_iald (x := (f2 173 x1.toNat)) dX11_hold_25 sh_173 g3.1 g3.2 rfl ?_
      refine ev_ldcw (v := 10000000) dX11_hold_26 (r32c rfl) kc_X11_349 ?_
      refine ev_icmp_lt (tgt := 36) dX11_hold_29 (by decide) (fun c5 => ?_) (fun c5 => ?_)
      · rw [if_pos c5] at h
        refine ev_aload_n (i := 0) dX11_hold_36 rfl rfl ?_
        refine ev_getR dX11_hold_37 fl_X11_83 sh_150 (by decide) (by decide) rf_150_38 ?_
        refine ev_iload_n (i := 1) dX11_hold_40 rfl rfl ?_
        by_cases g4 : 0 ≤ x1 ∧ x1 < 61
        · rw [if_pos g4] at h
          refine ex_iald (x := (f2 173 x1.toNat)) dX11_hold_41 sh_173 g4.1 g4.2 rfl ?_
          exact ev_iret rfl dX11_hold_42 h
        · rw [if_neg g4] at h; exact h.elim
      · rw [if_neg c5] at h
        refine ev_iconst dX11_hold_32 (r32c rfl) ?_
        refine ev_goto (tgt := 42) dX11_hold_33 (by decide) ?_
        exact ev_iret rfl dX11_hold_42 h
    · rw [if_neg g3] at h; exact h.elim
  · rw [if_pos c6] at h
    refine ev_bipush (v := (-2)) dX11_hold_13 (r32c rfl) (by decide) ?_
    exact ev_iret rfl dX11_hold_15 h
def FX11_hold (x1 : Int) (f : Mm) : Option (Int × Mm) := FX11_hold_0 x1 f
set_option maxRecDepth 100000 in
theorem TX11_hold {G : GT} {l : Launch} {Q : Option AV → Mem → Prop} (x1 : Int) (f : Mm) (h : OkI Q (FX11_hold x1 f)) : Ret G l MX11_hold (7) 0 0 [vR 150, vI x1] (SH, RF, f) Q := by
  refine ret_of (L := [some (vR 150), some (vI x1)]) (by decide) rfl (Nat.le_of_ble_eq_true rfl) ?_
  exact SX11_hold_0 x1 f h
theorem dX11_widest_0 : decode cX11_widest 0 = .ok (.aload_n 0, 1) := by decide +kernel
theorem dX11_widest_1 : decode cX11_widest 1 = .ok (.iconst 0, 1) := by decide +kernel
theorem dX11_widest_2 : decode cX11_widest 2 = .ok (.putfield 98, 3) := by decide +kernel
theorem dX11_widest_5 : decode cX11_widest 5 = .ok (.aload_n 0, 1) := by decide +kernel
theorem dX11_widest_6 : decode cX11_widest 6 = .ok (.invokevirtual 272, 3) := by decide +kernel
theorem dX11_widest_9 : decode cX11_widest 9 = .ok (.ifCond .ne 6, 3) := by decide +kernel
theorem dX11_widest_15 : decode cX11_widest 15 = .ok (.aload_n 0, 1) := by decide +kernel
theorem dX11_widest_16 : decode cX11_widest 16 = .ok (.invokevirtual 365, 3) := by decide +kernel
theorem dX11_widest_19 : decode cX11_widest 19 = .ok (.aload_n 0, 1) := by decide +kernel
theorem dX11_widest_20 : decode cX11_widest 20 = .ok (.getfield 346, 3) := by decide +kernel
theorem dX11_widest_23 : decode cX11_widest 23 = .ok (.ireturn, 1) := by decide +kernel
theorem dX11_widest_12 : decode cX11_widest 12 = .ok (.bipush (-2), 2) := by decide +kernel
theorem dX11_widest_14 : decode cX11_widest 14 = .ok (.ireturn, 1) := by decide +kernel
def FX11_widest_0   (f : Mm) : Option (Int × Mm) := (b2 (FX11_isBridge (up f 150 0 0)) fun y1 f1 => (if y1 = 0 then some ((-2), f1) else ((FX11_laysPlans f1).bind fun f2 => some ((f2 150 33), f2))))
set_option maxHeartbeats 4000000 in
set_option maxRecDepth 100000 in
theorem SX11_widest_0 {G : GT} {l : Launch} {Q : Option AV → Mem → Prop}   (f : Mm) (h : OkI Q (FX11_widest_0   f)) : Ev G l MX11_widest (Rm 7 0 0) (ZM G Q 0 0) 0 0 0 [some (vR 150)] [] (SH, RF, f) := by
  unfold FX11_widest_0 at h
  refine ev_aload_n (i := 0) dX11_widest_0 rfl rfl ?_
  refine ev_iconst dX11_widest_1 (r32c rfl) ?_
  refine ev_putI dX11_widest_2 fl_X11_98 sh_150 (by decide) (by decide) ?_
  refine ev_aload_n (i := 0) dX11_widest_5 rfl rfl ?_
  refine ev_cVI (b := 150) (av := []) (S := []) (fun q => q) h dX11_widest_6 (fun Q' q => TX11_isBridge _ q) kvX11_isBridge ml_X11_272 sh_150 rfl (RRc (by decide) (by decide)) (Nat.le_of_ble_eq_true rfl) ⟨Nat.le_of_ble_eq_true rfl, Nat.le_of_ble_eq_true rfl⟩ (fun y1 f1 h => ?_)
  refine ev_if_ne (tgt := 15) dX11_widest_9 (by decide) (fun c3 => ?_) (fun c3 => ?_)
  · rw [if_neg c3] at h
    refine ev_aload_n (i := 0) dX11_widest_15 rfl rfl ?_
    refine ev_cVV (b := 150) (av := []) (S := []) (fun q => q) h dX11_widest_16 (fun Q' q => TX11_laysPlans _ q) kvX11_laysPlans ml_X11_365 sh_150 rfl (RRc (by decide) (by decide)) (Nat.le_of_ble_eq_true rfl) ⟨Nat.le_of_ble_eq_true rfl, Nat.le_of_ble_eq_true rfl⟩ (fun f2 h => ?_)
    refine ev_aload_n (i := 0) dX11_widest_19 rfl rfl ?_
    refine ex_getI (x := (f2 150 33)) dX11_widest_20 fl_X11_346 sh_150 (by decide) (by decide) rfl ?_
    exact ev_iret rfl dX11_widest_23 h
  · rw [if_pos c3] at h
    refine ev_bipush (v := (-2)) dX11_widest_12 (r32c rfl) (by decide) ?_
    exact ev_iret rfl dX11_widest_14 h
def FX11_widest  (f : Mm) : Option (Int × Mm) := FX11_widest_0  f
set_option maxRecDepth 100000 in
theorem TX11_widest {G : GT} {l : Launch} {Q : Option AV → Mem → Prop}  (f : Mm) (h : OkI Q (FX11_widest  f)) : Ret G l MX11_widest (7) 0 0 [vR 150] (SH, RF, f) Q := by
  refine ret_of (L := [some (vR 150)]) (by decide) rfl (Nat.le_of_ble_eq_true rfl) ?_
  exact SX11_widest_0  f h
theorem dX11_most_0 : decode cX11_most 0 = .ok (.aload_n 0, 1) := by decide +kernel
theorem dX11_most_1 : decode cX11_most 1 = .ok (.iconst 0, 1) := by decide +kernel
theorem dX11_most_2 : decode cX11_most 2 = .ok (.putfield 98, 3) := by decide +kernel
theorem dX11_most_5 : decode cX11_most 5 = .ok (.aload_n 0, 1) := by decide +kernel
theorem dX11_most_6 : decode cX11_most 6 = .ok (.iload_n 1, 1) := by decide +kernel
theorem dX11_most_7 : decode cX11_most 7 = .ok (.i2l, 1) := by decide +kernel
theorem dX11_most_8 : decode cX11_most 8 = .ok (.invokevirtual 324, 3) := by decide +kernel
theorem dX11_most_11 : decode cX11_most 11 = .ok (.ifCond .ne 6, 3) := by decide +kernel
theorem dX11_most_17 : decode cX11_most 17 = .ok (.aload_n 0, 1) := by decide +kernel
theorem dX11_most_18 : decode cX11_most 18 = .ok (.invokevirtual 365, 3) := by decide +kernel
theorem dX11_most_21 : decode cX11_most 21 = .ok (.aload_n 0, 1) := by decide +kernel
theorem dX11_most_22 : decode cX11_most 22 = .ok (.getfield 86, 3) := by decide +kernel
theorem dX11_most_25 : decode cX11_most 25 = .ok (.iload_n 1, 1) := by decide +kernel
theorem dX11_most_26 : decode cX11_most 26 = .ok (.iaload, 1) := by decide +kernel
theorem dX11_most_27 : decode cX11_most 27 = .ok (.ireturn, 1) := by decide +kernel
theorem dX11_most_14 : decode cX11_most 14 = .ok (.bipush (-2), 2) := by decide +kernel
theorem dX11_most_16 : decode cX11_most 16 = .ok (.ireturn, 1) := by decide +kernel
def FX11_most_0  (x1 : Int) (f : Mm) : Option (Int × Mm) := (b2 (FX11_isDay x1 (up f 150 0 0)) fun y1 f1 => (if y1 = 0 then some ((-2), f1) else ((FX11_laysPlans f1).bind fun f2 => (if 0 ≤ x1 ∧ x1 < 6 then some ((f2 174 x1.toNat), f2) else none))))
set_option maxHeartbeats 4000000 in
set_option maxRecDepth 100000 in
theorem SX11_most_0 {G : GT} {l : Launch} {Q : Option AV → Mem → Prop}  (x1 : Int) (f : Mm) (h : OkI Q (FX11_most_0  x1 f)) : Ev G l MX11_most (Rm 7 0 0) (ZM G Q 0 0) 0 0 0 [some (vR 150), some (vI x1)] [] (SH, RF, f) := by
  unfold FX11_most_0 at h
  refine ev_aload_n (i := 0) dX11_most_0 rfl rfl ?_
  refine ev_iconst dX11_most_1 (r32c rfl) ?_
  refine ev_putI dX11_most_2 fl_X11_98 sh_150 (by decide) (by decide) ?_
  refine ev_aload_n (i := 0) dX11_most_5 rfl rfl ?_
  refine ev_iload_n (i := 1) dX11_most_6 rfl rfl ?_
  refine ev_i2l dX11_most_7 ?_
  refine ev_cVI (b := 150) (av := [vJ x1]) (S := []) (fun q => q) h dX11_most_8 (fun Q' q => TX11_isDay x1 _ q) kvX11_isDay ml_X11_324 sh_150 rfl (RRc (by decide) (by decide)) (Nat.le_of_ble_eq_true rfl) ⟨Nat.le_of_ble_eq_true rfl, Nat.le_of_ble_eq_true rfl⟩ (fun y1 f1 h => ?_)
  refine ev_if_ne (tgt := 17) dX11_most_11 (by decide) (fun c4 => ?_) (fun c4 => ?_)
  · rw [if_neg c4] at h
    refine ev_aload_n (i := 0) dX11_most_17 rfl rfl ?_
    refine ev_cVV (b := 150) (av := []) (S := []) (fun q => q) h dX11_most_18 (fun Q' q => TX11_laysPlans _ q) kvX11_laysPlans ml_X11_365 sh_150 rfl (RRc (by decide) (by decide)) (Nat.le_of_ble_eq_true rfl) ⟨Nat.le_of_ble_eq_true rfl, Nat.le_of_ble_eq_true rfl⟩ (fun f2 h => ?_)
    refine ev_aload_n (i := 0) dX11_most_21 rfl rfl ?_
    refine ev_getR dX11_most_22 fl_X11_86 sh_150 (by decide) (by decide) rf_150_39 ?_
    refine ev_iload_n (i := 1) dX11_most_25 rfl rfl ?_
    by_cases g3 : 0 ≤ x1 ∧ x1 < 6
    · rw [if_pos g3] at h
      refine ex_iald (x := (f2 174 x1.toNat)) dX11_most_26 sh_174 g3.1 g3.2 rfl ?_
      exact ev_iret rfl dX11_most_27 h
    · rw [if_neg g3] at h; exact h.elim
  · rw [if_pos c4] at h
    refine ev_bipush (v := (-2)) dX11_most_14 (r32c rfl) (by decide) ?_
    exact ev_iret rfl dX11_most_16 h
def FX11_most (x1 : Int) (f : Mm) : Option (Int × Mm) := FX11_most_0 x1 f
set_option maxRecDepth 100000 in
theorem TX11_most {G : GT} {l : Launch} {Q : Option AV → Mem → Prop} (x1 : Int) (f : Mm) (h : OkI Q (FX11_most x1 f)) : Ret G l MX11_most (7) 0 0 [vR 150, vI x1] (SH, RF, f) Q := by
  refine ret_of (L := [some (vR 150), some (vI x1)]) (by decide) rfl (Nat.le_of_ble_eq_true rfl) ?_
  exact SX11_most_0 x1 f h
theorem dX11_wideOf_35 : decode cX11_wideOf 35 = .ok (.iadd, 1) := by decide +kernel
theorem dX11_wideOf_36 : decode cX11_wideOf 36 = .ok (.istore_n 2, 1) := by decide +kernel
theorem dX11_wideOf_37 : decode cX11_wideOf 37 = .ok (.iinc 3 1, 3) := by decide +kernel
theorem dX11_wideOf_40 : decode cX11_wideOf 40 = .ok (.goto (-36), 3) := by decide +kernel
theorem dX11_wideOf_4 : decode cX11_wideOf 4 = .ok (.iload_n 3, 1) := by decide +kernel
theorem dX11_wideOf_5 : decode cX11_wideOf 5 = .ok (.aload_n 0, 1) := by decide +kernel
theorem dX11_wideOf_6 : decode cX11_wideOf 6 = .ok (.invokevirtual 269, 3) := by decide +kernel
theorem dX11_wideOf_9 : decode cX11_wideOf 9 = .ok (.if_icmp .ge 34, 3) := by decide +kernel
theorem dX11_wideOf_43 : decode cX11_wideOf 43 = .ok (.iload_n 2, 1) := by decide +kernel
theorem dX11_wideOf_44 : decode cX11_wideOf 44 = .ok (.ireturn, 1) := by decide +kernel
theorem dX11_wideOf_12 : decode cX11_wideOf 12 = .ok (.iload_n 2, 1) := by decide +kernel
theorem dX11_wideOf_13 : decode cX11_wideOf 13 = .ok (.iload_n 1, 1) := by decide +kernel
theorem dX11_wideOf_14 : decode cX11_wideOf 14 = .ok (.iload_n 3, 1) := by decide +kernel
theorem dX11_wideOf_15 : decode cX11_wideOf 15 = .ok (.invokestatic 289, 3) := by decide +kernel
theorem dX11_wideOf_18 : decode cX11_wideOf 18 = .ok (.ifCond .eq 16, 3) := by decide +kernel
theorem dX11_wideOf_34 : decode cX11_wideOf 34 = .ok (.iconst 0, 1) := by decide +kernel
theorem dX11_wideOf_21 : decode cX11_wideOf 21 = .ok (.aload_n 0, 1) := by decide +kernel
theorem dX11_wideOf_22 : decode cX11_wideOf 22 = .ok (.getfield 40, 3) := by decide +kernel
theorem dX11_wideOf_25 : decode cX11_wideOf 25 = .ok (.iconst 5, 1) := by decide +kernel
theorem dX11_wideOf_26 : decode cX11_wideOf 26 = .ok (.iload_n 3, 1) := by decide +kernel
theorem dX11_wideOf_27 : decode cX11_wideOf 27 = .ok (.imul, 1) := by decide +kernel
theorem dX11_wideOf_28 : decode cX11_wideOf 28 = .ok (.iconst 1, 1) := by decide +kernel
theorem dX11_wideOf_29 : decode cX11_wideOf 29 = .ok (.iadd, 1) := by decide +kernel
theorem dX11_wideOf_30 : decode cX11_wideOf 30 = .ok (.iaload, 1) := by decide +kernel
theorem dX11_wideOf_31 : decode cX11_wideOf 31 = .ok (.goto 4, 3) := by decide +kernel
theorem dX11_wideOf_0 : decode cX11_wideOf 0 = .ok (.iconst 0, 1) := by decide +kernel
theorem dX11_wideOf_1 : decode cX11_wideOf 1 = .ok (.istore_n 2, 1) := by decide +kernel
theorem dX11_wideOf_2 : decode cX11_wideOf 2 = .ok (.iconst 0, 1) := by decide +kernel
theorem dX11_wideOf_3 : decode cX11_wideOf 3 = .ok (.istore_n 3, 1) := by decide +kernel
def FX11_wideOf_35 (k4 : Int → Int → Int → Mm → Option (Int × Mm)) (x1 : Int) (x3 : Int) (s0 : Int) (s1 : Int) (f : Mm) : Option (Int × Mm) := k4 x1 (w32 (s0 + s1)) (w32 (x3 + 1)) f
set_option maxHeartbeats 4000000 in
set_option maxRecDepth 100000 in
theorem SX11_wideOf_35 {G : GT} {l : Launch} {Q : Option AV → Mem → Prop} {k4 : Int → Int → Int → Mm → Option (Int × Mm)} (q4 : ∀ (x1 : Int) (x2 : Int) (x3 : Int) (f : Mm), OkI Q (k4 x1 x2 x3 f) → Ev G l MX11_wideOf (Rm 2 0 0) (ZM G Q 0 0) 0 0 4 [some (vR 150), some (vI x1), some (vI x2), some (vI x3)] [] (SH, RF, f)) (x1 : Int) (x3 : Int) (s0 : Int) (s1 : Int) (f : Mm) (h : OkI Q (FX11_wideOf_35 k4 x1 x3 s0 s1 f)) : Ev G l MX11_wideOf (Rm 2 0 0) (ZM G Q 0 0) 0 0 35 [some (vR 150), some (vI x1), none, some (vI x3)] [vI s1, vI s0] (SH, RF, f) := by
  unfold FX11_wideOf_35 at h
  refine ev_iadd dX11_wideOf_35 ?_
  refine ev_istore_n (i := 2) (L' := [some (vR 150), some (vI x1), some (vI (w32 (s0 + s1))), some (vI x3)]) dX11_wideOf_36 rfl (by decide) rfl ?_
  refine ev_iinc (L' := [some (vR 150), some (vI x1), some (vI (w32 (s0 + s1))), some (vI (w32 (x3 + 1)))]) dX11_wideOf_37 rfl (by decide) rfl ?_
  refine ev_goto (tgt := 4) dX11_wideOf_40 (by decide) ?_
  exact q4 x1 (w32 (s0 + s1)) (w32 (x3 + 1)) _ h
def FX11_wideOf_4  : Nat → Int → Int → Int → Mm → Option (Int × Mm)
  | 0, _, _, _, _ => none
  | n + 1, x1, x2, x3, f => (b2 (FX11_carts f) fun y1 f1 => (if y1 ≤ x3 then some (x2, f1) else (b2 (FX11_isBit x1 x3 f1) fun y2 f2 => (if y2 = 0 then FX11_wideOf_35 (FX11_wideOf_4 n) x1 x3 x2 0 f2 else (if 0 ≤ (w32 ((w32 (5 * x3)) + 1)) ∧ (w32 ((w32 (5 * x3)) + 1)) < 150 then FX11_wideOf_35 (FX11_wideOf_4 n) x1 x3 x2 (f2 159 (w32 ((w32 (5 * x3)) + 1)).toNat) f2 else none)))))
set_option maxHeartbeats 4000000 in
set_option maxRecDepth 100000 in
theorem SX11_wideOf_4 {G : GT} {l : Launch} {Q : Option AV → Mem → Prop}  : ∀ (n : Nat) (x1 : Int) (x2 : Int) (x3 : Int) (f : Mm), OkI Q (FX11_wideOf_4  n x1 x2 x3 f) → Ev G l MX11_wideOf (Rm 2 0 0) (ZM G Q 0 0) 0 0 4 [some (vR 150), some (vI x1), some (vI x2), some (vI x3)] [] (SH, RF, f) := by
  intro n
  induction n with
  | zero => intro x1 x2 x3 f h; exact absurd h (by rw [FX11_wideOf_4]; exact fun q => q)
  | succ n ih =>
    intro x1 x2 x3 f h
    rw [FX11_wideOf_4] at h
    refine ev_iload_n (i := 3) dX11_wideOf_4 rfl rfl ?_
    refine ev_aload_n (i := 0) dX11_wideOf_5 rfl rfl ?_
    refine ev_cVI (b := 150) (av := []) (S := [vI x3]) (fun q => q) h dX11_wideOf_6 (fun Q' q => TX11_carts _ q) kvX11_carts ml_X11_269 sh_150 rfl (RRc (by decide) (by decide)) (Nat.le_of_ble_eq_true rfl) ⟨Nat.le_of_ble_eq_true rfl, Nat.le_of_ble_eq_true rfl⟩ (fun y1 f1 h => ?_)
    refine ev_icmp_ge (tgt := 43) dX11_wideOf_9 (by decide) (fun c5 => ?_) (fun c5 => ?_)
    · rw [if_pos c5] at h
      refine ev_iload_n (i := 2) dX11_wideOf_43 rfl rfl ?_
      exact ev_iret rfl dX11_wideOf_44 h
    · rw [if_neg c5] at h
      refine ev_iload_n (i := 2) dX11_wideOf_12 rfl rfl ?_
      refine ev_iload_n (i := 1) dX11_wideOf_13 rfl rfl ?_
      refine ev_iload_n (i := 3) dX11_wideOf_14 rfl rfl ?_
      refine ev_cSI (av := [vI x1, vI x3]) (S := [vI x2]) (fun q => q) h dX11_wideOf_15 (fun Q' q => TX11_isBit x1 x3 _ q) ksX11_isBit ml_X11_289 rfl (RRc (by decide) (by decide)) (Nat.le_of_ble_eq_true rfl) ⟨Nat.le_of_ble_eq_true rfl, Nat.le_of_ble_eq_true rfl⟩ (fun y2 f2 h => ?_)
      refine ev_if_eq (tgt := 34) dX11_wideOf_18 (by decide) (fun c4 => ?_) (fun c4 => ?_)
      · rw [if_pos c4] at h
        refine ev_iconst dX11_wideOf_34 (r32c rfl) ?_
        refine ev_fg [true, true, false, true] rfl ?_
        exact SX11_wideOf_35 ih x1 x3 x2 0 _ h
      · rw [if_neg c4] at h
        refine ev_aload_n (i := 0) dX11_wideOf_21 rfl rfl ?_
        refine ev_getR dX11_wideOf_22 fl_X11_40 sh_150 (by decide) (by decide) rf_150_19 ?_
        refine ev_iconst dX11_wideOf_25 (r32c rfl) ?_
        refine ev_iload_n (i := 3) dX11_wideOf_26 rfl rfl ?_
        refine ev_imul dX11_wideOf_27 ?_
        refine ev_iconst dX11_wideOf_28 (r32c rfl) ?_
        refine ev_iadd dX11_wideOf_29 ?_
        by_cases g3 : 0 ≤ (w32 ((w32 (5 * x3)) + 1)) ∧ (w32 ((w32 (5 * x3)) + 1)) < 150
        · rw [if_pos g3] at h
          refine ex_iald (x := (f2 159 (w32 ((w32 (5 * x3)) + 1)).toNat)) dX11_wideOf_30 sh_159 g3.1 g3.2 rfl ?_
          refine ev_goto (tgt := 35) dX11_wideOf_31 (by decide) ?_
          refine ev_fg [true, true, false, true] rfl ?_
          exact SX11_wideOf_35 ih x1 x3 x2 (f2 159 (w32 ((w32 (5 * x3)) + 1)).toNat) _ h
        · rw [if_neg g3] at h; exact h.elim
def FX11_wideOf_0  (x1 : Int) (f : Mm) : Option (Int × Mm) := FX11_wideOf_4 fu x1 0 0 f
set_option maxHeartbeats 4000000 in
set_option maxRecDepth 100000 in
theorem SX11_wideOf_0 {G : GT} {l : Launch} {Q : Option AV → Mem → Prop}  (x1 : Int) (f : Mm) (h : OkI Q (FX11_wideOf_0  x1 f)) : Ev G l MX11_wideOf (Rm 2 0 0) (ZM G Q 0 0) 0 0 0 [some (vR 150), some (vI x1), none, none] [] (SH, RF, f) := by
  unfold FX11_wideOf_0 at h
  refine ev_iconst dX11_wideOf_0 (r32c rfl) ?_
  refine ev_istore_n (i := 2) (L' := [some (vR 150), some (vI x1), some (vI 0), none]) dX11_wideOf_1 rfl (by decide) rfl ?_
  refine ev_iconst dX11_wideOf_2 (r32c rfl) ?_
  refine ev_istore_n (i := 3) (L' := [some (vR 150), some (vI x1), some (vI 0), some (vI 0)]) dX11_wideOf_3 rfl (by decide) rfl ?_
  exact SX11_wideOf_4  fu x1 0 0 _ h
def FX11_wideOf (x1 : Int) (f : Mm) : Option (Int × Mm) := FX11_wideOf_0 x1 f
set_option maxRecDepth 100000 in
theorem TX11_wideOf {G : GT} {l : Launch} {Q : Option AV → Mem → Prop} (x1 : Int) (f : Mm) (h : OkI Q (FX11_wideOf x1 f)) : Ret G l MX11_wideOf (2) 0 0 [vR 150, vI x1] (SH, RF, f) Q := by
  refine ret_of (L := [some (vR 150), some (vI x1), none, none]) (by decide) rfl (Nat.le_of_ble_eq_true rfl) ?_
  exact SX11_wideOf_0 x1 f h
theorem dX11_isAbreast_0 : decode cX11_isAbreast 0 = .ok (.aload_n 0, 1) := by decide +kernel
theorem dX11_isAbreast_1 : decode cX11_isAbreast 1 = .ok (.invokevirtual 272, 3) := by decide +kernel
theorem dX11_isAbreast_4 : decode cX11_isAbreast 4 = .ok (.ifCond .eq 19, 3) := by decide +kernel
theorem dX11_isAbreast_23 : decode cX11_isAbreast 23 = .ok (.iconst 0, 1) := by decide +kernel
theorem dX11_isAbreast_24 : decode cX11_isAbreast 24 = .ok (.ireturn, 1) := by decide +kernel
theorem dX11_isAbreast_7 : decode cX11_isAbreast 7 = .ok (.iload_n 1, 1) := by decide +kernel
theorem dX11_isAbreast_8 : decode cX11_isAbreast 8 = .ok (.i2l, 1) := by decide +kernel
theorem dX11_isAbreast_9 : decode cX11_isAbreast 9 = .ok (.lconst 0, 1) := by decide +kernel
theorem dX11_isAbreast_10 : decode cX11_isAbreast 10 = .ok (.ldc2_w 373, 3) := by decide +kernel
theorem dX11_isAbreast_13 : decode cX11_isAbreast 13 = .ok (.invokestatic 103, 3) := by decide +kernel
theorem dX11_isAbreast_16 : decode cX11_isAbreast 16 = .ok (.ifCond .eq 7, 3) := by decide +kernel
theorem dX11_isAbreast_19 : decode cX11_isAbreast 19 = .ok (.iconst 1, 1) := by decide +kernel
theorem dX11_isAbreast_20 : decode cX11_isAbreast 20 = .ok (.goto 4, 3) := by decide +kernel
def FX11_isAbreast_0  (x1 : Int) (f : Mm) : Option (Int × Mm) := (b2 (FX11_isBridge f) fun y1 f1 => (if y1 = 0 then some (0, f1) else (b2 (FX11_in x1 0 99 f1) fun y2 f2 => (if y2 = 0 then some (0, f2) else some (1, f2)))))
set_option maxHeartbeats 4000000 in
set_option maxRecDepth 100000 in
theorem SX11_isAbreast_0 {G : GT} {l : Launch} {Q : Option AV → Mem → Prop}  (x1 : Int) (f : Mm) (h : OkI Q (FX11_isAbreast_0  x1 f)) : Ev G l MX11_isAbreast (Rm 2 0 0) (ZM G Q 0 0) 0 0 0 [some (vR 150), some (vI x1)] [] (SH, RF, f) := by
  unfold FX11_isAbreast_0 at h
  refine ev_aload_n (i := 0) dX11_isAbreast_0 rfl rfl ?_
  refine ev_cVI (b := 150) (av := []) (S := []) (fun q => q) h dX11_isAbreast_1 (fun Q' q => TX11_isBridge _ q) kvX11_isBridge ml_X11_272 sh_150 rfl (RRc (by decide) (by decide)) (Nat.le_of_ble_eq_true rfl) ⟨Nat.le_of_ble_eq_true rfl, Nat.le_of_ble_eq_true rfl⟩ (fun y1 f1 h => ?_)
  refine ev_if_eq (tgt := 23) dX11_isAbreast_4 (by decide) (fun c4 => ?_) (fun c4 => ?_)
  · rw [if_pos c4] at h
    refine ev_iconst dX11_isAbreast_23 (r32c rfl) ?_
    exact ev_zret rfl (by decide) dX11_isAbreast_24 h
  · rw [if_neg c4] at h
    refine ev_iload_n (i := 1) dX11_isAbreast_7 rfl rfl ?_
    refine ev_i2l dX11_isAbreast_8 ?_
    refine ev_lconst (v := 0) dX11_isAbreast_9 (r64c rfl) (by decide) ?_
    refine ev_ldc2 (v := 99) dX11_isAbreast_10 (r64c rfl) kc_X11_373 ?_
    refine ev_cSI (av := [vJ x1, vJ 0, vJ 99]) (S := []) (fun q => q) h dX11_isAbreast_13 (fun Q' q => TX11_in x1 0 99 _ q) ksX11_in ml_X11_103 rfl (RRc (by decide) (by decide)) (Nat.le_of_ble_eq_true rfl) ⟨Nat.le_of_ble_eq_true rfl, Nat.le_of_ble_eq_true rfl⟩ (fun y2 f2 h => ?_)
    refine ev_if_eq (tgt := 23) dX11_isAbreast_16 (by decide) (fun c3 => ?_) (fun c3 => ?_)
    · rw [if_pos c3] at h
      refine ev_iconst dX11_isAbreast_23 (r32c rfl) ?_
      exact ev_zret rfl (by decide) dX11_isAbreast_24 h
    · rw [if_neg c3] at h
      refine ev_iconst dX11_isAbreast_19 (r32c rfl) ?_
      refine ev_goto (tgt := 24) dX11_isAbreast_20 (by decide) ?_
      exact ev_zret rfl (by decide) dX11_isAbreast_24 h
def FX11_isAbreast (x1 : Int) (f : Mm) : Option (Int × Mm) := FX11_isAbreast_0 x1 f
set_option maxRecDepth 100000 in
theorem TX11_isAbreast {G : GT} {l : Launch} {Q : Option AV → Mem → Prop} (x1 : Int) (f : Mm) (h : OkI Q (FX11_isAbreast x1 f)) : Ret G l MX11_isAbreast (2) 0 0 [vR 150, vI x1] (SH, RF, f) Q := by
  refine ret_of (L := [some (vR 150), some (vI x1)]) (by decide) rfl (Nat.le_of_ble_eq_true rfl) ?_
  exact SX11_isAbreast_0 x1 f h
theorem dX11_sizeOf_4 : decode cX11_sizeOf 4 = .ok (.iload_n 2, 1) := by decide +kernel
theorem dX11_sizeOf_5 : decode cX11_sizeOf 5 = .ok (.ifCond .eq 15, 3) := by decide +kernel
theorem dX11_sizeOf_20 : decode cX11_sizeOf 20 = .ok (.iload_n 1, 1) := by decide +kernel
theorem dX11_sizeOf_21 : decode cX11_sizeOf 21 = .ok (.ireturn, 1) := by decide +kernel
theorem dX11_sizeOf_8 : decode cX11_sizeOf 8 = .ok (.iinc 1 1, 3) := by decide +kernel
theorem dX11_sizeOf_11 : decode cX11_sizeOf 11 = .ok (.iload_n 2, 1) := by decide +kernel
theorem dX11_sizeOf_12 : decode cX11_sizeOf 12 = .ok (.iload_n 2, 1) := by decide +kernel
theorem dX11_sizeOf_13 : decode cX11_sizeOf 13 = .ok (.iconst 1, 1) := by decide +kernel
theorem dX11_sizeOf_14 : decode cX11_sizeOf 14 = .ok (.isub, 1) := by decide +kernel
theorem dX11_sizeOf_15 : decode cX11_sizeOf 15 = .ok (.iand, 1) := by decide +kernel
theorem dX11_sizeOf_16 : decode cX11_sizeOf 16 = .ok (.istore_n 2, 1) := by decide +kernel
theorem dX11_sizeOf_17 : decode cX11_sizeOf 17 = .ok (.goto (-13), 3) := by decide +kernel
theorem dX11_sizeOf_0 : decode cX11_sizeOf 0 = .ok (.iconst 0, 1) := by decide +kernel
theorem dX11_sizeOf_1 : decode cX11_sizeOf 1 = .ok (.istore_n 1, 1) := by decide +kernel
theorem dX11_sizeOf_2 : decode cX11_sizeOf 2 = .ok (.iload_n 0, 1) := by decide +kernel
theorem dX11_sizeOf_3 : decode cX11_sizeOf 3 = .ok (.istore_n 2, 1) := by decide +kernel
def FX11_sizeOf_4  : Nat → Int → Int → Mm → Option (Int × Mm)
  | 0, _, _, _ => none
  | n + 1, x1, x2, f => (if x2 = 0 then some (x1, f) else FX11_sizeOf_4 n (w32 (x1 + 1)) (bAnd x2 (w32 (x2 - 1))) f)
set_option maxHeartbeats 4000000 in
set_option maxRecDepth 100000 in
theorem SX11_sizeOf_4 {G : GT} {l : Launch} {Q : Option AV → Mem → Prop}  : ∀ (n : Nat) (x1 : Int) (x2 : Int) (f : Mm), OkI Q (FX11_sizeOf_4  n x1 x2 f) → Ev G l MX11_sizeOf (Rm 1 0 0) (ZM G Q 0 0) 0 0 4 [none, some (vI x1), some (vI x2)] [] (SH, RF, f) := by
  intro n
  induction n with
  | zero => intro x1 x2 f h; exact absurd h (by rw [FX11_sizeOf_4]; exact fun q => q)
  | succ n ih =>
    intro x1 x2 f h
    rw [FX11_sizeOf_4] at h
    refine ev_iload_n (i := 2) dX11_sizeOf_4 rfl rfl ?_
    refine ev_if_eq (tgt := 20) dX11_sizeOf_5 (by decide) (fun c1 => ?_) (fun c1 => ?_)
    · rw [if_pos c1] at h
      refine ev_iload_n (i := 1) dX11_sizeOf_20 rfl rfl ?_
      exact ev_iret rfl dX11_sizeOf_21 h
    · rw [if_neg c1] at h
      refine ev_iinc (L' := [none, some (vI (w32 (x1 + 1))), some (vI x2)]) dX11_sizeOf_8 rfl (by decide) rfl ?_
      refine ev_iload_n (i := 2) dX11_sizeOf_11 rfl rfl ?_
      refine ev_iload_n (i := 2) dX11_sizeOf_12 rfl rfl ?_
      refine ev_iconst dX11_sizeOf_13 (r32c rfl) ?_
      refine ev_isub dX11_sizeOf_14 ?_
      refine ev_iand dX11_sizeOf_15 ?_
      refine ev_istore_n (i := 2) (L' := [none, some (vI (w32 (x1 + 1))), some (vI (bAnd x2 (w32 (x2 - 1))))]) dX11_sizeOf_16 rfl (by decide) rfl ?_
      refine ev_goto (tgt := 4) dX11_sizeOf_17 (by decide) ?_
      exact ih (w32 (x1 + 1)) (bAnd x2 (w32 (x2 - 1))) _ h
def FX11_sizeOf_0  (x0 : Int) (f : Mm) : Option (Int × Mm) := FX11_sizeOf_4 fu 0 x0 f
set_option maxHeartbeats 4000000 in
set_option maxRecDepth 100000 in
theorem SX11_sizeOf_0 {G : GT} {l : Launch} {Q : Option AV → Mem → Prop}  (x0 : Int) (f : Mm) (h : OkI Q (FX11_sizeOf_0  x0 f)) : Ev G l MX11_sizeOf (Rm 1 0 0) (ZM G Q 0 0) 0 0 0 [some (vI x0), none, none] [] (SH, RF, f) := by
  unfold FX11_sizeOf_0 at h
  refine ev_iconst dX11_sizeOf_0 (r32c rfl) ?_
  refine ev_istore_n (i := 1) (L' := [some (vI x0), some (vI 0), none]) dX11_sizeOf_1 rfl (by decide) rfl ?_
  refine ev_iload_n (i := 0) dX11_sizeOf_2 rfl rfl ?_
  refine ev_istore_n (i := 2) (L' := [some (vI x0), some (vI 0), some (vI x0)]) dX11_sizeOf_3 rfl (by decide) rfl ?_
  refine ev_fg [false, true, true] rfl ?_
  exact SX11_sizeOf_4  fu 0 x0 _ h
def FX11_sizeOf (x0 : Int) (f : Mm) : Option (Int × Mm) := FX11_sizeOf_0 x0 f
set_option maxRecDepth 100000 in
theorem TX11_sizeOf {G : GT} {l : Launch} {Q : Option AV → Mem → Prop} (x0 : Int) (f : Mm) (h : OkI Q (FX11_sizeOf x0 f)) : Ret G l MX11_sizeOf (1) 0 0 [vI x0] (SH, RF, f) Q := by
  refine ret_of (L := [some (vI x0), none, none]) (by decide) rfl (Nat.le_of_ble_eq_true rfl) ?_
  exact SX11_sizeOf_0 x0 f h
theorem dX11_abreast_52 : decode cX11_abreast 52 = .ok (.iinc 3 1, 3) := by decide +kernel
theorem dX11_abreast_55 : decode cX11_abreast 55 = .ok (.goto (-35), 3) := by decide +kernel
theorem dX11_abreast_20 : decode cX11_abreast 20 = .ok (.iload_n 3, 1) := by decide +kernel
theorem dX11_abreast_21 : decode cX11_abreast 21 = .ok (.iconst 1, 1) := by decide +kernel
theorem dX11_abreast_22 : decode cX11_abreast 22 = .ok (.aload_n 0, 1) := by decide +kernel
theorem dX11_abreast_23 : decode cX11_abreast 23 = .ok (.invokevirtual 269, 3) := by decide +kernel
theorem dX11_abreast_26 : decode cX11_abreast 26 = .ok (.ishl, 1) := by decide +kernel
theorem dX11_abreast_27 : decode cX11_abreast 27 = .ok (.if_icmp .ge 31, 3) := by decide +kernel
theorem dX11_abreast_58 : decode cX11_abreast 58 = .ok (.iload_n 2, 1) := by decide +kernel
theorem dX11_abreast_59 : decode cX11_abreast 59 = .ok (.ireturn, 1) := by decide +kernel
theorem dX11_abreast_30 : decode cX11_abreast 30 = .ok (.aload_n 0, 1) := by decide +kernel
theorem dX11_abreast_31 : decode cX11_abreast 31 = .ok (.iload_n 3, 1) := by decide +kernel
theorem dX11_abreast_32 : decode cX11_abreast 32 = .ok (.invokevirtual 378, 3) := by decide +kernel
theorem dX11_abreast_35 : decode cX11_abreast 35 = .ok (.iload_n 1, 1) := by decide +kernel
theorem dX11_abreast_36 : decode cX11_abreast 36 = .ok (.if_icmp .gt 16, 3) := by decide +kernel
theorem dX11_abreast_39 : decode cX11_abreast 39 = .ok (.iload_n 3, 1) := by decide +kernel
theorem dX11_abreast_40 : decode cX11_abreast 40 = .ok (.invokestatic 381, 3) := by decide +kernel
theorem dX11_abreast_43 : decode cX11_abreast 43 = .ok (.iload_n 2, 1) := by decide +kernel
theorem dX11_abreast_44 : decode cX11_abreast 44 = .ok (.if_icmp .le 8, 3) := by decide +kernel
theorem dX11_abreast_47 : decode cX11_abreast 47 = .ok (.iload_n 3, 1) := by decide +kernel
theorem dX11_abreast_48 : decode cX11_abreast 48 = .ok (.invokestatic 381, 3) := by decide +kernel
theorem dX11_abreast_51 : decode cX11_abreast 51 = .ok (.istore_n 2, 1) := by decide +kernel
theorem dX11_abreast_0 : decode cX11_abreast 0 = .ok (.aload_n 0, 1) := by decide +kernel
theorem dX11_abreast_1 : decode cX11_abreast 1 = .ok (.iconst 0, 1) := by decide +kernel
theorem dX11_abreast_2 : decode cX11_abreast 2 = .ok (.putfield 98, 3) := by decide +kernel
theorem dX11_abreast_5 : decode cX11_abreast 5 = .ok (.aload_n 0, 1) := by decide +kernel
theorem dX11_abreast_6 : decode cX11_abreast 6 = .ok (.iload_n 1, 1) := by decide +kernel
theorem dX11_abreast_7 : decode cX11_abreast 7 = .ok (.invokevirtual 375, 3) := by decide +kernel
theorem dX11_abreast_10 : decode cX11_abreast 10 = .ok (.ifCond .ne 6, 3) := by decide +kernel
theorem dX11_abreast_16 : decode cX11_abreast 16 = .ok (.iconst 0, 1) := by decide +kernel
theorem dX11_abreast_17 : decode cX11_abreast 17 = .ok (.istore_n 2, 1) := by decide +kernel
theorem dX11_abreast_18 : decode cX11_abreast 18 = .ok (.iconst 0, 1) := by decide +kernel
theorem dX11_abreast_19 : decode cX11_abreast 19 = .ok (.istore_n 3, 1) := by decide +kernel
theorem dX11_abreast_13 : decode cX11_abreast 13 = .ok (.bipush (-2), 2) := by decide +kernel
theorem dX11_abreast_15 : decode cX11_abreast 15 = .ok (.ireturn, 1) := by decide +kernel
def FX11_abreast_52 (k20 : Int → Int → Int → Mm → Option (Int × Mm)) (x1 : Int) (x2 : Int) (x3 : Int) (f : Mm) : Option (Int × Mm) := k20 x1 x2 (w32 (x3 + 1)) f
set_option maxHeartbeats 4000000 in
set_option maxRecDepth 100000 in
theorem SX11_abreast_52 {G : GT} {l : Launch} {Q : Option AV → Mem → Prop} {k20 : Int → Int → Int → Mm → Option (Int × Mm)} (q20 : ∀ (x1 : Int) (x2 : Int) (x3 : Int) (f : Mm), OkI Q (k20 x1 x2 x3 f) → Ev G l MX11_abreast (Rm 3 0 0) (ZM G Q 0 0) 0 0 20 [some (vR 150), some (vI x1), some (vI x2), some (vI x3)] [] (SH, RF, f)) (x1 : Int) (x2 : Int) (x3 : Int) (f : Mm) (h : OkI Q (FX11_abreast_52 k20 x1 x2 x3 f)) : Ev G l MX11_abreast (Rm 3 0 0) (ZM G Q 0 0) 0 0 52 [some (vR 150), some (vI x1), some (vI x2), some (vI x3)] [] (SH, RF, f) := by
  unfold FX11_abreast_52 at h
  refine ev_iinc (L' := [some (vR 150), some (vI x1), some (vI x2), some (vI (w32 (x3 + 1)))]) dX11_abreast_52 rfl (by decide) rfl ?_
  refine ev_goto (tgt := 20) dX11_abreast_55 (by decide) ?_
  exact q20 x1 x2 (w32 (x3 + 1)) _ h
def FX11_abreast_20  : Nat → Int → Int → Int → Mm → Option (Int × Mm)
  | 0, _, _, _, _ => none
  | n + 1, x1, x2, x3, f => (b2 (FX11_carts f) fun y1 f1 => (if (bShl 1 y1) ≤ x3 then some (x2, f1) else (b2 (FX11_wideOf x3 f1) fun y2 f2 => (if x1 < y2 then FX11_abreast_52 (FX11_abreast_20 n) x1 x2 x3 f2 else (b2 (FX11_sizeOf x3 f2) fun y3 f3 => (if y3 ≤ x2 then FX11_abreast_52 (FX11_abreast_20 n) x1 x2 x3 f3 else (b2 (FX11_sizeOf x3 f3) fun y4 f4 => FX11_abreast_52 (FX11_abreast_20 n) x1 y4 x3 f4)))))))
set_option maxHeartbeats 4000000 in
set_option maxRecDepth 100000 in
theorem SX11_abreast_20 {G : GT} {l : Launch} {Q : Option AV → Mem → Prop}  : ∀ (n : Nat) (x1 : Int) (x2 : Int) (x3 : Int) (f : Mm), OkI Q (FX11_abreast_20  n x1 x2 x3 f) → Ev G l MX11_abreast (Rm 3 0 0) (ZM G Q 0 0) 0 0 20 [some (vR 150), some (vI x1), some (vI x2), some (vI x3)] [] (SH, RF, f) := by
  intro n
  induction n with
  | zero => intro x1 x2 x3 f h; exact absurd h (by rw [FX11_abreast_20]; exact fun q => q)
  | succ n ih =>
    intro x1 x2 x3 f h
    rw [FX11_abreast_20] at h
    refine ev_iload_n (i := 3) dX11_abreast_20 rfl rfl ?_
    refine ev_iconst dX11_abreast_21 (r32c rfl) ?_
    refine ev_aload_n (i := 0) dX11_abreast_22 rfl rfl ?_
    refine ev_cVI (b := 150) (av := []) (S := [vI 1, vI x3]) (fun q => q) h dX11_abreast_23 (fun Q' q => TX11_carts _ q) kvX11_carts ml_X11_269 sh_150 rfl (RRc (by decide) (by decide)) (Nat.le_of_ble_eq_true rfl) ⟨Nat.le_of_ble_eq_true rfl, Nat.le_of_ble_eq_true rfl⟩ (fun y1 f1 h => ?_)
    refine ev_ishl dX11_abreast_26 ?_
    refine ev_icmp_ge (tgt := 58) dX11_abreast_27 (by decide) (fun c7 => ?_) (fun c7 => ?_)
    · rw [if_pos c7] at h
      refine ev_iload_n (i := 2) dX11_abreast_58 rfl rfl ?_
      exact ev_iret rfl dX11_abreast_59 h
    · rw [if_neg c7] at h
      refine ev_aload_n (i := 0) dX11_abreast_30 rfl rfl ?_
      refine ev_iload_n (i := 3) dX11_abreast_31 rfl rfl ?_
      refine ev_cVI (b := 150) (av := [vI x3]) (S := []) (fun q => q) h dX11_abreast_32 (fun Q' q => TX11_wideOf x3 _ q) kvX11_wideOf ml_X11_378 sh_150 rfl (RRc (by decide) (by decide)) (Nat.le_of_ble_eq_true rfl) ⟨Nat.le_of_ble_eq_true rfl, Nat.le_of_ble_eq_true rfl⟩ (fun y2 f2 h => ?_)
      refine ev_iload_n (i := 1) dX11_abreast_35 rfl rfl ?_
      refine ev_icmp_gt (tgt := 52) dX11_abreast_36 (by decide) (fun c6 => ?_) (fun c6 => ?_)
      · rw [if_pos c6] at h
        exact SX11_abreast_52 ih x1 x2 x3 _ h
      · rw [if_neg c6] at h
        refine ev_iload_n (i := 3) dX11_abreast_39 rfl rfl ?_
        refine ev_cSI (av := [vI x3]) (S := []) (fun q => q) h dX11_abreast_40 (fun Q' q => TX11_sizeOf x3 _ q) ksX11_sizeOf ml_X11_381 rfl (RRc (by decide) (by decide)) (Nat.le_of_ble_eq_true rfl) ⟨Nat.le_of_ble_eq_true rfl, Nat.le_of_ble_eq_true rfl⟩ (fun y3 f3 h => ?_)
        refine ev_iload_n (i := 2) dX11_abreast_43 rfl rfl ?_
        refine ev_icmp_le (tgt := 52) dX11_abreast_44 (by decide) (fun c5 => ?_) (fun c5 => ?_)
        · rw [if_pos c5] at h
          exact SX11_abreast_52 ih x1 x2 x3 _ h
        · rw [if_neg c5] at h
          refine ev_iload_n (i := 3) dX11_abreast_47 rfl rfl ?_
          refine ev_cSI (av := [vI x3]) (S := []) (fun q => q) h dX11_abreast_48 (fun Q' q => TX11_sizeOf x3 _ q) ksX11_sizeOf ml_X11_381 rfl (RRc (by decide) (by decide)) (Nat.le_of_ble_eq_true rfl) ⟨Nat.le_of_ble_eq_true rfl, Nat.le_of_ble_eq_true rfl⟩ (fun y4 f4 h => ?_)
          refine ev_istore_n (i := 2) (L' := [some (vR 150), some (vI x1), some (vI y4), some (vI x3)]) dX11_abreast_51 rfl (by decide) rfl ?_
          exact SX11_abreast_52 ih x1 y4 x3 _ h
def FX11_abreast_0  (x1 : Int) (f : Mm) : Option (Int × Mm) := (b2 (FX11_isAbreast x1 (up f 150 0 0)) fun y1 f1 => (if y1 = 0 then some ((-2), f1) else FX11_abreast_20 fu x1 0 0 f1))
set_option maxHeartbeats 4000000 in
set_option maxRecDepth 100000 in
theorem SX11_abreast_0 {G : GT} {l : Launch} {Q : Option AV → Mem → Prop}  (x1 : Int) (f : Mm) (h : OkI Q (FX11_abreast_0  x1 f)) : Ev G l MX11_abreast (Rm 3 0 0) (ZM G Q 0 0) 0 0 0 [some (vR 150), some (vI x1), none, none] [] (SH, RF, f) := by
  unfold FX11_abreast_0 at h
  refine ev_aload_n (i := 0) dX11_abreast_0 rfl rfl ?_
  refine ev_iconst dX11_abreast_1 (r32c rfl) ?_
  refine ev_putI dX11_abreast_2 fl_X11_98 sh_150 (by decide) (by decide) ?_
  refine ev_aload_n (i := 0) dX11_abreast_5 rfl rfl ?_
  refine ev_iload_n (i := 1) dX11_abreast_6 rfl rfl ?_
  refine ev_cVI (b := 150) (av := [vI x1]) (S := []) (fun q => q) h dX11_abreast_7 (fun Q' q => TX11_isAbreast x1 _ q) kvX11_isAbreast ml_X11_375 sh_150 rfl (RRc (by decide) (by decide)) (Nat.le_of_ble_eq_true rfl) ⟨Nat.le_of_ble_eq_true rfl, Nat.le_of_ble_eq_true rfl⟩ (fun y1 f1 h => ?_)
  refine ev_if_ne (tgt := 16) dX11_abreast_10 (by decide) (fun c2 => ?_) (fun c2 => ?_)
  · rw [if_neg c2] at h
    refine ev_iconst dX11_abreast_16 (r32c rfl) ?_
    refine ev_istore_n (i := 2) (L' := [some (vR 150), some (vI x1), some (vI 0), none]) dX11_abreast_17 rfl (by decide) rfl ?_
    refine ev_iconst dX11_abreast_18 (r32c rfl) ?_
    refine ev_istore_n (i := 3) (L' := [some (vR 150), some (vI x1), some (vI 0), some (vI 0)]) dX11_abreast_19 rfl (by decide) rfl ?_
    exact SX11_abreast_20  fu x1 0 0 _ h
  · rw [if_pos c2] at h
    refine ev_bipush (v := (-2)) dX11_abreast_13 (r32c rfl) (by decide) ?_
    exact ev_iret rfl dX11_abreast_15 h
def FX11_abreast (x1 : Int) (f : Mm) : Option (Int × Mm) := FX11_abreast_0 x1 f
set_option maxRecDepth 100000 in
theorem TX11_abreast {G : GT} {l : Launch} {Q : Option AV → Mem → Prop} (x1 : Int) (f : Mm) (h : OkI Q (FX11_abreast x1 f)) : Ret G l MX11_abreast (3) 0 0 [vR 150, vI x1] (SH, RF, f) Q := by
  refine ret_of (L := [some (vR 150), some (vI x1), none, none]) (by decide) rfl (Nat.le_of_ble_eq_true rfl) ?_
  exact SX11_abreast_0 x1 f h
theorem dX11_loadOf_38 : decode cX11_loadOf 38 = .ok (.iinc 3 1, 3) := by decide +kernel
theorem dX11_loadOf_41 : decode cX11_loadOf 41 = .ok (.goto (-37), 3) := by decide +kernel
theorem dX11_loadOf_4 : decode cX11_loadOf 4 = .ok (.iload_n 3, 1) := by decide +kernel
theorem dX11_loadOf_5 : decode cX11_loadOf 5 = .ok (.iconst 1, 1) := by decide +kernel
theorem dX11_loadOf_6 : decode cX11_loadOf 6 = .ok (.aload_n 0, 1) := by decide +kernel
theorem dX11_loadOf_7 : decode cX11_loadOf 7 = .ok (.invokevirtual 269, 3) := by decide +kernel
theorem dX11_loadOf_10 : decode cX11_loadOf 10 = .ok (.ishl, 1) := by decide +kernel
theorem dX11_loadOf_11 : decode cX11_loadOf 11 = .ok (.if_icmp .ge 33, 3) := by decide +kernel
theorem dX11_loadOf_44 : decode cX11_loadOf 44 = .ok (.iload_n 2, 1) := by decide +kernel
theorem dX11_loadOf_45 : decode cX11_loadOf 45 = .ok (.ireturn, 1) := by decide +kernel
theorem dX11_loadOf_14 : decode cX11_loadOf 14 = .ok (.aload_n 0, 1) := by decide +kernel
theorem dX11_loadOf_15 : decode cX11_loadOf 15 = .ok (.iload_n 3, 1) := by decide +kernel
theorem dX11_loadOf_16 : decode cX11_loadOf 16 = .ok (.invokevirtual 378, 3) := by decide +kernel
theorem dX11_loadOf_19 : decode cX11_loadOf 19 = .ok (.iload_n 1, 1) := by decide +kernel
theorem dX11_loadOf_20 : decode cX11_loadOf 20 = .ok (.if_icmp .gt 18, 3) := by decide +kernel
theorem dX11_loadOf_23 : decode cX11_loadOf 23 = .ok (.aload_n 0, 1) := by decide +kernel
theorem dX11_loadOf_24 : decode cX11_loadOf 24 = .ok (.iload_n 3, 1) := by decide +kernel
theorem dX11_loadOf_25 : decode cX11_loadOf 25 = .ok (.invokevirtual 333, 3) := by decide +kernel
theorem dX11_loadOf_28 : decode cX11_loadOf 28 = .ok (.aload_n 0, 1) := by decide +kernel
theorem dX11_loadOf_29 : decode cX11_loadOf 29 = .ok (.iload_n 2, 1) := by decide +kernel
theorem dX11_loadOf_30 : decode cX11_loadOf 30 = .ok (.invokevirtual 333, 3) := by decide +kernel
theorem dX11_loadOf_33 : decode cX11_loadOf 33 = .ok (.if_icmp .le 5, 3) := by decide +kernel
theorem dX11_loadOf_36 : decode cX11_loadOf 36 = .ok (.iload_n 3, 1) := by decide +kernel
theorem dX11_loadOf_37 : decode cX11_loadOf 37 = .ok (.istore_n 2, 1) := by decide +kernel
theorem dX11_loadOf_0 : decode cX11_loadOf 0 = .ok (.iconst 0, 1) := by decide +kernel
theorem dX11_loadOf_1 : decode cX11_loadOf 1 = .ok (.istore_n 2, 1) := by decide +kernel
theorem dX11_loadOf_2 : decode cX11_loadOf 2 = .ok (.iconst 0, 1) := by decide +kernel
theorem dX11_loadOf_3 : decode cX11_loadOf 3 = .ok (.istore_n 3, 1) := by decide +kernel
def FX11_loadOf_38 (k4 : Int → Int → Int → Mm → Option (Int × Mm)) (x1 : Int) (x2 : Int) (x3 : Int) (f : Mm) : Option (Int × Mm) := k4 x1 x2 (w32 (x3 + 1)) f
set_option maxHeartbeats 4000000 in
set_option maxRecDepth 100000 in
theorem SX11_loadOf_38 {G : GT} {l : Launch} {Q : Option AV → Mem → Prop} {k4 : Int → Int → Int → Mm → Option (Int × Mm)} (q4 : ∀ (x1 : Int) (x2 : Int) (x3 : Int) (f : Mm), OkI Q (k4 x1 x2 x3 f) → Ev G l MX11_loadOf (Rm 3 0 0) (ZM G Q 0 0) 0 0 4 [some (vR 150), some (vI x1), some (vI x2), some (vI x3)] [] (SH, RF, f)) (x1 : Int) (x2 : Int) (x3 : Int) (f : Mm) (h : OkI Q (FX11_loadOf_38 k4 x1 x2 x3 f)) : Ev G l MX11_loadOf (Rm 3 0 0) (ZM G Q 0 0) 0 0 38 [some (vR 150), some (vI x1), some (vI x2), some (vI x3)] [] (SH, RF, f) := by
  unfold FX11_loadOf_38 at h
  refine ev_iinc (L' := [some (vR 150), some (vI x1), some (vI x2), some (vI (w32 (x3 + 1)))]) dX11_loadOf_38 rfl (by decide) rfl ?_
  refine ev_goto (tgt := 4) dX11_loadOf_41 (by decide) ?_
  exact q4 x1 x2 (w32 (x3 + 1)) _ h
def FX11_loadOf_4  : Nat → Int → Int → Int → Mm → Option (Int × Mm)
  | 0, _, _, _, _ => none
  | n + 1, x1, x2, x3, f => (b2 (FX11_carts f) fun y1 f1 => (if (bShl 1 y1) ≤ x3 then some (x2, f1) else (b2 (FX11_wideOf x3 f1) fun y2 f2 => (if x1 < y2 then FX11_loadOf_38 (FX11_loadOf_4 n) x1 x2 x3 f2 else (b2 (FX11_payOf x3 f2) fun y3 f3 => (b2 (FX11_payOf x2 f3) fun y4 f4 => (if y3 ≤ y4 then FX11_loadOf_38 (FX11_loadOf_4 n) x1 x2 x3 f4 else FX11_loadOf_38 (FX11_loadOf_4 n) x1 x3 x3 f4)))))))
set_option maxHeartbeats 4000000 in
set_option maxRecDepth 100000 in
theorem SX11_loadOf_4 {G : GT} {l : Launch} {Q : Option AV → Mem → Prop}  : ∀ (n : Nat) (x1 : Int) (x2 : Int) (x3 : Int) (f : Mm), OkI Q (FX11_loadOf_4  n x1 x2 x3 f) → Ev G l MX11_loadOf (Rm 3 0 0) (ZM G Q 0 0) 0 0 4 [some (vR 150), some (vI x1), some (vI x2), some (vI x3)] [] (SH, RF, f) := by
  intro n
  induction n with
  | zero => intro x1 x2 x3 f h; exact absurd h (by rw [FX11_loadOf_4]; exact fun q => q)
  | succ n ih =>
    intro x1 x2 x3 f h
    rw [FX11_loadOf_4] at h
    refine ev_iload_n (i := 3) dX11_loadOf_4 rfl rfl ?_
    refine ev_iconst dX11_loadOf_5 (r32c rfl) ?_
    refine ev_aload_n (i := 0) dX11_loadOf_6 rfl rfl ?_
    refine ev_cVI (b := 150) (av := []) (S := [vI 1, vI x3]) (fun q => q) h dX11_loadOf_7 (fun Q' q => TX11_carts _ q) kvX11_carts ml_X11_269 sh_150 rfl (RRc (by decide) (by decide)) (Nat.le_of_ble_eq_true rfl) ⟨Nat.le_of_ble_eq_true rfl, Nat.le_of_ble_eq_true rfl⟩ (fun y1 f1 h => ?_)
    refine ev_ishl dX11_loadOf_10 ?_
    refine ev_icmp_ge (tgt := 44) dX11_loadOf_11 (by decide) (fun c7 => ?_) (fun c7 => ?_)
    · rw [if_pos c7] at h
      refine ev_iload_n (i := 2) dX11_loadOf_44 rfl rfl ?_
      exact ev_iret rfl dX11_loadOf_45 h
    · rw [if_neg c7] at h
      refine ev_aload_n (i := 0) dX11_loadOf_14 rfl rfl ?_
      refine ev_iload_n (i := 3) dX11_loadOf_15 rfl rfl ?_
      refine ev_cVI (b := 150) (av := [vI x3]) (S := []) (fun q => q) h dX11_loadOf_16 (fun Q' q => TX11_wideOf x3 _ q) kvX11_wideOf ml_X11_378 sh_150 rfl (RRc (by decide) (by decide)) (Nat.le_of_ble_eq_true rfl) ⟨Nat.le_of_ble_eq_true rfl, Nat.le_of_ble_eq_true rfl⟩ (fun y2 f2 h => ?_)
      refine ev_iload_n (i := 1) dX11_loadOf_19 rfl rfl ?_
      refine ev_icmp_gt (tgt := 38) dX11_loadOf_20 (by decide) (fun c6 => ?_) (fun c6 => ?_)
      · rw [if_pos c6] at h
        exact SX11_loadOf_38 ih x1 x2 x3 _ h
      · rw [if_neg c6] at h
        refine ev_aload_n (i := 0) dX11_loadOf_23 rfl rfl ?_
        refine ev_iload_n (i := 3) dX11_loadOf_24 rfl rfl ?_
        refine ev_cVI (b := 150) (av := [vI x3]) (S := []) (fun q => q) h dX11_loadOf_25 (fun Q' q => TX11_payOf x3 _ q) kvX11_payOf ml_X11_333 sh_150 rfl (RRc (by decide) (by decide)) (Nat.le_of_ble_eq_true rfl) ⟨Nat.le_of_ble_eq_true rfl, Nat.le_of_ble_eq_true rfl⟩ (fun y3 f3 h => ?_)
        refine ev_aload_n (i := 0) dX11_loadOf_28 rfl rfl ?_
        refine ev_iload_n (i := 2) dX11_loadOf_29 rfl rfl ?_
        refine ev_cVI (b := 150) (av := [vI x2]) (S := [vI y3]) (fun q => q) h dX11_loadOf_30 (fun Q' q => TX11_payOf x2 _ q) kvX11_payOf ml_X11_333 sh_150 rfl (RRc (by decide) (by decide)) (Nat.le_of_ble_eq_true rfl) ⟨Nat.le_of_ble_eq_true rfl, Nat.le_of_ble_eq_true rfl⟩ (fun y4 f4 h => ?_)
        refine ev_icmp_le (tgt := 38) dX11_loadOf_33 (by decide) (fun c5 => ?_) (fun c5 => ?_)
        · rw [if_pos c5] at h
          exact SX11_loadOf_38 ih x1 x2 x3 _ h
        · rw [if_neg c5] at h
          refine ev_iload_n (i := 3) dX11_loadOf_36 rfl rfl ?_
          refine ev_istore_n (i := 2) (L' := [some (vR 150), some (vI x1), some (vI x3), some (vI x3)]) dX11_loadOf_37 rfl (by decide) rfl ?_
          exact SX11_loadOf_38 ih x1 x3 x3 _ h
def FX11_loadOf_0  (x1 : Int) (f : Mm) : Option (Int × Mm) := FX11_loadOf_4 fu x1 0 0 f
set_option maxHeartbeats 4000000 in
set_option maxRecDepth 100000 in
theorem SX11_loadOf_0 {G : GT} {l : Launch} {Q : Option AV → Mem → Prop}  (x1 : Int) (f : Mm) (h : OkI Q (FX11_loadOf_0  x1 f)) : Ev G l MX11_loadOf (Rm 3 0 0) (ZM G Q 0 0) 0 0 0 [some (vR 150), some (vI x1), none, none] [] (SH, RF, f) := by
  unfold FX11_loadOf_0 at h
  refine ev_iconst dX11_loadOf_0 (r32c rfl) ?_
  refine ev_istore_n (i := 2) (L' := [some (vR 150), some (vI x1), some (vI 0), none]) dX11_loadOf_1 rfl (by decide) rfl ?_
  refine ev_iconst dX11_loadOf_2 (r32c rfl) ?_
  refine ev_istore_n (i := 3) (L' := [some (vR 150), some (vI x1), some (vI 0), some (vI 0)]) dX11_loadOf_3 rfl (by decide) rfl ?_
  exact SX11_loadOf_4  fu x1 0 0 _ h
def FX11_loadOf (x1 : Int) (f : Mm) : Option (Int × Mm) := FX11_loadOf_0 x1 f
set_option maxRecDepth 100000 in
theorem TX11_loadOf {G : GT} {l : Launch} {Q : Option AV → Mem → Prop} (x1 : Int) (f : Mm) (h : OkI Q (FX11_loadOf x1 f)) : Ret G l MX11_loadOf (3) 0 0 [vR 150, vI x1] (SH, RF, f) Q := by
  refine ret_of (L := [some (vR 150), some (vI x1), none, none]) (by decide) rfl (Nat.le_of_ble_eq_true rfl) ?_
  exact SX11_loadOf_0 x1 f h
theorem dX11_load_0 : decode cX11_load 0 = .ok (.aload_n 0, 1) := by decide +kernel
theorem dX11_load_1 : decode cX11_load 1 = .ok (.iconst 0, 1) := by decide +kernel
theorem dX11_load_2 : decode cX11_load 2 = .ok (.putfield 98, 3) := by decide +kernel
theorem dX11_load_5 : decode cX11_load 5 = .ok (.aload_n 0, 1) := by decide +kernel
theorem dX11_load_6 : decode cX11_load 6 = .ok (.iload_n 1, 1) := by decide +kernel
theorem dX11_load_7 : decode cX11_load 7 = .ok (.invokevirtual 375, 3) := by decide +kernel
theorem dX11_load_10 : decode cX11_load 10 = .ok (.ifCond .eq 15, 3) := by decide +kernel
theorem dX11_load_25 : decode cX11_load 25 = .ok (.bipush (-2), 2) := by decide +kernel
theorem dX11_load_27 : decode cX11_load 27 = .ok (.ireturn, 1) := by decide +kernel
theorem dX11_load_13 : decode cX11_load 13 = .ok (.aload_n 0, 1) := by decide +kernel
theorem dX11_load_14 : decode cX11_load 14 = .ok (.aload_n 0, 1) := by decide +kernel
theorem dX11_load_15 : decode cX11_load 15 = .ok (.iload_n 1, 1) := by decide +kernel
theorem dX11_load_16 : decode cX11_load 16 = .ok (.invokevirtual 384, 3) := by decide +kernel
theorem dX11_load_19 : decode cX11_load 19 = .ok (.invokevirtual 333, 3) := by decide +kernel
theorem dX11_load_22 : decode cX11_load 22 = .ok (.goto 5, 3) := by decide +kernel
def FX11_load_0  (x1 : Int) (f : Mm) : Option (Int × Mm) := (b2 (FX11_isAbreast x1 (up f 150 0 0)) fun y1 f1 => (if y1 = 0 then some ((-2), f1) else (b2 (FX11_loadOf x1 f1) fun y2 f2 => (b2 (FX11_payOf y2 f2) fun y3 f3 => some (y3, f3)))))
set_option maxHeartbeats 4000000 in
set_option maxRecDepth 100000 in
theorem SX11_load_0 {G : GT} {l : Launch} {Q : Option AV → Mem → Prop}  (x1 : Int) (f : Mm) (h : OkI Q (FX11_load_0  x1 f)) : Ev G l MX11_load (Rm 4 0 0) (ZM G Q 0 0) 0 0 0 [some (vR 150), some (vI x1)] [] (SH, RF, f) := by
  unfold FX11_load_0 at h
  refine ev_aload_n (i := 0) dX11_load_0 rfl rfl ?_
  refine ev_iconst dX11_load_1 (r32c rfl) ?_
  refine ev_putI dX11_load_2 fl_X11_98 sh_150 (by decide) (by decide) ?_
  refine ev_aload_n (i := 0) dX11_load_5 rfl rfl ?_
  refine ev_iload_n (i := 1) dX11_load_6 rfl rfl ?_
  refine ev_cVI (b := 150) (av := [vI x1]) (S := []) (fun q => q) h dX11_load_7 (fun Q' q => TX11_isAbreast x1 _ q) kvX11_isAbreast ml_X11_375 sh_150 rfl (RRc (by decide) (by decide)) (Nat.le_of_ble_eq_true rfl) ⟨Nat.le_of_ble_eq_true rfl, Nat.le_of_ble_eq_true rfl⟩ (fun y1 f1 h => ?_)
  refine ev_if_eq (tgt := 25) dX11_load_10 (by decide) (fun c4 => ?_) (fun c4 => ?_)
  · rw [if_pos c4] at h
    refine ev_bipush (v := (-2)) dX11_load_25 (r32c rfl) (by decide) ?_
    exact ev_iret rfl dX11_load_27 h
  · rw [if_neg c4] at h
    refine ev_aload_n (i := 0) dX11_load_13 rfl rfl ?_
    refine ev_aload_n (i := 0) dX11_load_14 rfl rfl ?_
    refine ev_iload_n (i := 1) dX11_load_15 rfl rfl ?_
    refine ev_cVI (b := 150) (av := [vI x1]) (S := [vR 150]) (fun q => q) h dX11_load_16 (fun Q' q => TX11_loadOf x1 _ q) kvX11_loadOf ml_X11_384 sh_150 rfl (RRc (by decide) (by decide)) (Nat.le_of_ble_eq_true rfl) ⟨Nat.le_of_ble_eq_true rfl, Nat.le_of_ble_eq_true rfl⟩ (fun y2 f2 h => ?_)
    refine ev_cVI (b := 150) (av := [vI y2]) (S := []) (fun q => q) h dX11_load_19 (fun Q' q => TX11_payOf y2 _ q) kvX11_payOf ml_X11_333 sh_150 rfl (RRc (by decide) (by decide)) (Nat.le_of_ble_eq_true rfl) ⟨Nat.le_of_ble_eq_true rfl, Nat.le_of_ble_eq_true rfl⟩ (fun y3 f3 h => ?_)
    refine ev_goto (tgt := 27) dX11_load_22 (by decide) ?_
    exact ev_iret rfl dX11_load_27 h
def FX11_load (x1 : Int) (f : Mm) : Option (Int × Mm) := FX11_load_0 x1 f
set_option maxRecDepth 100000 in
theorem TX11_load {G : GT} {l : Launch} {Q : Option AV → Mem → Prop} (x1 : Int) (f : Mm) (h : OkI Q (FX11_load x1 f)) : Ret G l MX11_load (4) 0 0 [vR 150, vI x1] (SH, RF, f) Q := by
  refine ret_of (L := [some (vR 150), some (vI x1)]) (by decide) rfl (Nat.le_of_ble_eq_true rfl) ?_
  exact SX11_load_0 x1 f h
theorem dX11_loads_0 : decode cX11_loads 0 = .ok (.aload_n 0, 1) := by decide +kernel
theorem dX11_loads_1 : decode cX11_loads 1 = .ok (.iconst 0, 1) := by decide +kernel
theorem dX11_loads_2 : decode cX11_loads 2 = .ok (.putfield 98, 3) := by decide +kernel
theorem dX11_loads_5 : decode cX11_loads 5 = .ok (.aload_n 0, 1) := by decide +kernel
theorem dX11_loads_6 : decode cX11_loads 6 = .ok (.iload_n 1, 1) := by decide +kernel
theorem dX11_loads_7 : decode cX11_loads 7 = .ok (.invokevirtual 375, 3) := by decide +kernel
theorem dX11_loads_10 : decode cX11_loads 10 = .ok (.ifCond .eq 11, 3) := by decide +kernel
theorem dX11_loads_21 : decode cX11_loads 21 = .ok (.bipush (-2), 2) := by decide +kernel
theorem dX11_loads_23 : decode cX11_loads 23 = .ok (.ireturn, 1) := by decide +kernel
theorem dX11_loads_13 : decode cX11_loads 13 = .ok (.aload_n 0, 1) := by decide +kernel
theorem dX11_loads_14 : decode cX11_loads 14 = .ok (.iload_n 1, 1) := by decide +kernel
theorem dX11_loads_15 : decode cX11_loads 15 = .ok (.invokevirtual 384, 3) := by decide +kernel
theorem dX11_loads_18 : decode cX11_loads 18 = .ok (.goto 5, 3) := by decide +kernel
def FX11_loads_0  (x1 : Int) (f : Mm) : Option (Int × Mm) := (b2 (FX11_isAbreast x1 (up f 150 0 0)) fun y1 f1 => (if y1 = 0 then some ((-2), f1) else (b2 (FX11_loadOf x1 f1) fun y2 f2 => some (y2, f2))))
set_option maxHeartbeats 4000000 in
set_option maxRecDepth 100000 in
theorem SX11_loads_0 {G : GT} {l : Launch} {Q : Option AV → Mem → Prop}  (x1 : Int) (f : Mm) (h : OkI Q (FX11_loads_0  x1 f)) : Ev G l MX11_loads (Rm 4 0 0) (ZM G Q 0 0) 0 0 0 [some (vR 150), some (vI x1)] [] (SH, RF, f) := by
  unfold FX11_loads_0 at h
  refine ev_aload_n (i := 0) dX11_loads_0 rfl rfl ?_
  refine ev_iconst dX11_loads_1 (r32c rfl) ?_
  refine ev_putI dX11_loads_2 fl_X11_98 sh_150 (by decide) (by decide) ?_
  refine ev_aload_n (i := 0) dX11_loads_5 rfl rfl ?_
  refine ev_iload_n (i := 1) dX11_loads_6 rfl rfl ?_
  refine ev_cVI (b := 150) (av := [vI x1]) (S := []) (fun q => q) h dX11_loads_7 (fun Q' q => TX11_isAbreast x1 _ q) kvX11_isAbreast ml_X11_375 sh_150 rfl (RRc (by decide) (by decide)) (Nat.le_of_ble_eq_true rfl) ⟨Nat.le_of_ble_eq_true rfl, Nat.le_of_ble_eq_true rfl⟩ (fun y1 f1 h => ?_)
  refine ev_if_eq (tgt := 21) dX11_loads_10 (by decide) (fun c3 => ?_) (fun c3 => ?_)
  · rw [if_pos c3] at h
    refine ev_bipush (v := (-2)) dX11_loads_21 (r32c rfl) (by decide) ?_
    exact ev_iret rfl dX11_loads_23 h
  · rw [if_neg c3] at h
    refine ev_aload_n (i := 0) dX11_loads_13 rfl rfl ?_
    refine ev_iload_n (i := 1) dX11_loads_14 rfl rfl ?_
    refine ev_cVI (b := 150) (av := [vI x1]) (S := []) (fun q => q) h dX11_loads_15 (fun Q' q => TX11_loadOf x1 _ q) kvX11_loadOf ml_X11_384 sh_150 rfl (RRc (by decide) (by decide)) (Nat.le_of_ble_eq_true rfl) ⟨Nat.le_of_ble_eq_true rfl, Nat.le_of_ble_eq_true rfl⟩ (fun y2 f2 h => ?_)
    refine ev_goto (tgt := 23) dX11_loads_18 (by decide) ?_
    exact ev_iret rfl dX11_loads_23 h
def FX11_loads (x1 : Int) (f : Mm) : Option (Int × Mm) := FX11_loads_0 x1 f
set_option maxRecDepth 100000 in
theorem TX11_loads {G : GT} {l : Launch} {Q : Option AV → Mem → Prop} (x1 : Int) (f : Mm) (h : OkI Q (FX11_loads x1 f)) : Ret G l MX11_loads (4) 0 0 [vR 150, vI x1] (SH, RF, f) Q := by
  refine ret_of (L := [some (vR 150), some (vI x1)]) (by decide) rfl (Nat.le_of_ble_eq_true rfl) ?_
  exact SX11_loads_0 x1 f h
theorem dX11_orderTells_104 : decode cX11_orderTells 104 = .ok (.iload_n 3, 1) := by decide +kernel
theorem dX11_orderTells_105 : decode cX11_orderTells 105 = .ok (.aload_n 0, 1) := by decide +kernel
theorem dX11_orderTells_106 : decode cX11_orderTells 106 = .ok (.invokevirtual 269, 3) := by decide +kernel
theorem dX11_orderTells_109 : decode cX11_orderTells 109 = .ok (.if_icmp .ge 21, 3) := by decide +kernel
theorem dX11_orderTells_130 : decode cX11_orderTells 130 = .ok (.return_, 1) := by decide +kernel
theorem dX11_orderTells_112 : decode cX11_orderTells 112 = .ok (.aload_n 0, 1) := by decide +kernel
theorem dX11_orderTells_113 : decode cX11_orderTells 113 = .ok (.getfield 92, 3) := by decide +kernel
theorem dX11_orderTells_116 : decode cX11_orderTells 116 = .ok (.iload_n 3, 1) := by decide +kernel
theorem dX11_orderTells_117 : decode cX11_orderTells 117 = .ok (.aload_n 0, 1) := by decide +kernel
theorem dX11_orderTells_118 : decode cX11_orderTells 118 = .ok (.getfield 62, 3) := by decide +kernel
theorem dX11_orderTells_121 : decode cX11_orderTells 121 = .ok (.iload_n 3, 1) := by decide +kernel
theorem dX11_orderTells_122 : decode cX11_orderTells 122 = .ok (.iaload, 1) := by decide +kernel
theorem dX11_orderTells_123 : decode cX11_orderTells 123 = .ok (.iastore, 1) := by decide +kernel
theorem dX11_orderTells_124 : decode cX11_orderTells 124 = .ok (.iinc 3 1, 3) := by decide +kernel
theorem dX11_orderTells_127 : decode cX11_orderTells 127 = .ok (.goto (-23), 3) := by decide +kernel
theorem dX11_orderTells_85 : decode cX11_orderTells 85 = .ok (.putfield 387, 3) := by decide +kernel
theorem dX11_orderTells_88 : decode cX11_orderTells 88 = .ok (.iload_n 1, 1) := by decide +kernel
theorem dX11_orderTells_89 : decode cX11_orderTells 89 = .ok (.aload_n 0, 1) := by decide +kernel
theorem dX11_orderTells_90 : decode cX11_orderTells 90 = .ok (.getfield 390, 3) := by decide +kernel
theorem dX11_orderTells_93 : decode cX11_orderTells 93 = .ok (.if_icmp .lt 4, 3) := by decide +kernel
theorem dX11_orderTells_97 : decode cX11_orderTells 97 = .ok (.aload_n 0, 1) := by decide +kernel
theorem dX11_orderTells_98 : decode cX11_orderTells 98 = .ok (.iload_n 1, 1) := by decide +kernel
theorem dX11_orderTells_99 : decode cX11_orderTells 99 = .ok (.putfield 390, 3) := by decide +kernel
theorem dX11_orderTells_102 : decode cX11_orderTells 102 = .ok (.iconst 0, 1) := by decide +kernel
theorem dX11_orderTells_103 : decode cX11_orderTells 103 = .ok (.istore_n 3, 1) := by decide +kernel
theorem dX11_orderTells_96 : decode cX11_orderTells 96 = .ok (.return_, 1) := by decide +kernel
theorem dX11_orderTells_59 : decode cX11_orderTells 59 = .ok (.aload_n 0, 1) := by decide +kernel
theorem dX11_orderTells_60 : decode cX11_orderTells 60 = .ok (.aload_n 0, 1) := by decide +kernel
theorem dX11_orderTells_61 : decode cX11_orderTells 61 = .ok (.invokevirtual 330, 3) := by decide +kernel
theorem dX11_orderTells_64 : decode cX11_orderTells 64 = .ok (.invokevirtual 333, 3) := by decide +kernel
theorem dX11_orderTells_67 : decode cX11_orderTells 67 = .ok (.istore_n 2, 1) := by decide +kernel
theorem dX11_orderTells_68 : decode cX11_orderTells 68 = .ok (.aload_n 0, 1) := by decide +kernel
theorem dX11_orderTells_69 : decode cX11_orderTells 69 = .ok (.iload_n 2, 1) := by decide +kernel
theorem dX11_orderTells_70 : decode cX11_orderTells 70 = .ok (.aload_n 0, 1) := by decide +kernel
theorem dX11_orderTells_71 : decode cX11_orderTells 71 = .ok (.getfield 387, 3) := by decide +kernel
theorem dX11_orderTells_74 : decode cX11_orderTells 74 = .ok (.if_icmp .le 7, 3) := by decide +kernel
theorem dX11_orderTells_81 : decode cX11_orderTells 81 = .ok (.aload_n 0, 1) := by decide +kernel
theorem dX11_orderTells_82 : decode cX11_orderTells 82 = .ok (.getfield 387, 3) := by decide +kernel
theorem dX11_orderTells_77 : decode cX11_orderTells 77 = .ok (.iload_n 2, 1) := by decide +kernel
theorem dX11_orderTells_78 : decode cX11_orderTells 78 = .ok (.goto 7, 3) := by decide +kernel
theorem dX11_orderTells_52 : decode cX11_orderTells 52 = .ok (.istore_n 1, 1) := by decide +kernel
theorem dX11_orderTells_53 : decode cX11_orderTells 53 = .ok (.iinc 2 1, 3) := by decide +kernel
theorem dX11_orderTells_56 : decode cX11_orderTells 56 = .ok (.goto (-48), 3) := by decide +kernel
theorem dX11_orderTells_8 : decode cX11_orderTells 8 = .ok (.iload_n 2, 1) := by decide +kernel
theorem dX11_orderTells_9 : decode cX11_orderTells 9 = .ok (.aload_n 0, 1) := by decide +kernel
theorem dX11_orderTells_10 : decode cX11_orderTells 10 = .ok (.invokevirtual 269, 3) := by decide +kernel
theorem dX11_orderTells_13 : decode cX11_orderTells 13 = .ok (.if_icmp .ge 46, 3) := by decide +kernel
theorem dX11_orderTells_16 : decode cX11_orderTells 16 = .ok (.aload_n 0, 1) := by decide +kernel
theorem dX11_orderTells_17 : decode cX11_orderTells 17 = .ok (.getfield 65, 3) := by decide +kernel
theorem dX11_orderTells_20 : decode cX11_orderTells 20 = .ok (.iload_n 2, 1) := by decide +kernel
theorem dX11_orderTells_21 : decode cX11_orderTells 21 = .ok (.iaload, 1) := by decide +kernel
theorem dX11_orderTells_22 : decode cX11_orderTells 22 = .ok (.iconst (-1), 1) := by decide +kernel
theorem dX11_orderTells_23 : decode cX11_orderTells 23 = .ok (.if_icmp .ne 9, 3) := by decide +kernel
theorem dX11_orderTells_32 : decode cX11_orderTells 32 = .ok (.aload_n 0, 1) := by decide +kernel
theorem dX11_orderTells_33 : decode cX11_orderTells 33 = .ok (.getfield 65, 3) := by decide +kernel
theorem dX11_orderTells_36 : decode cX11_orderTells 36 = .ok (.iload_n 2, 1) := by decide +kernel
theorem dX11_orderTells_37 : decode cX11_orderTells 37 = .ok (.iaload, 1) := by decide +kernel
theorem dX11_orderTells_38 : decode cX11_orderTells 38 = .ok (.iload_n 1, 1) := by decide +kernel
theorem dX11_orderTells_39 : decode cX11_orderTells 39 = .ok (.if_icmp .le 12, 3) := by decide +kernel
theorem dX11_orderTells_51 : decode cX11_orderTells 51 = .ok (.iload_n 1, 1) := by decide +kernel
theorem dX11_orderTells_42 : decode cX11_orderTells 42 = .ok (.aload_n 0, 1) := by decide +kernel
theorem dX11_orderTells_43 : decode cX11_orderTells 43 = .ok (.getfield 65, 3) := by decide +kernel
theorem dX11_orderTells_46 : decode cX11_orderTells 46 = .ok (.iload_n 2, 1) := by decide +kernel
theorem dX11_orderTells_47 : decode cX11_orderTells 47 = .ok (.iaload, 1) := by decide +kernel
theorem dX11_orderTells_48 : decode cX11_orderTells 48 = .ok (.goto 4, 3) := by decide +kernel
theorem dX11_orderTells_26 : decode cX11_orderTells 26 = .ok (.ldc_w 349, 3) := by decide +kernel
theorem dX11_orderTells_29 : decode cX11_orderTells 29 = .ok (.goto 23, 3) := by decide +kernel
theorem dX11_orderTells_0 : decode cX11_orderTells 0 = .ok (.aload_n 0, 1) := by decide +kernel
theorem dX11_orderTells_1 : decode cX11_orderTells 1 = .ok (.invokevirtual 307, 3) := by decide +kernel
theorem dX11_orderTells_4 : decode cX11_orderTells 4 = .ok (.iconst 0, 1) := by decide +kernel
theorem dX11_orderTells_5 : decode cX11_orderTells 5 = .ok (.istore_n 1, 1) := by decide +kernel
theorem dX11_orderTells_6 : decode cX11_orderTells 6 = .ok (.iconst 0, 1) := by decide +kernel
theorem dX11_orderTells_7 : decode cX11_orderTells 7 = .ok (.istore_n 2, 1) := by decide +kernel
def FX11_orderTells_104  : Nat → Int → Mm → Option Mm
  | 0, _, _ => none
  | n + 1, x3, f => (b2 (FX11_carts f) fun y1 f1 => (if y1 ≤ x3 then some f1 else (if 0 ≤ x3 ∧ x3 < 6 then (if 0 ≤ x3 ∧ x3 < 6 then FX11_orderTells_104 n (w32 (x3 + 1)) (up f1 176 x3.toNat (f1 166 x3.toNat)) else none) else none)))
set_option maxHeartbeats 4000000 in
set_option maxRecDepth 100000 in
theorem SX11_orderTells_104 {G : GT} {l : Launch} {Q : Option AV → Mem → Prop}  : ∀ (n : Nat) (x3 : Int) (f : Mm), OkV Q (FX11_orderTells_104  n x3 f) → Ev G l MX11_orderTells (Rm 3 0 0) (ZM G Q 0 0) 0 0 104 [some (vR 150), none, none, some (vI x3)] [] (SH, RF, f) := by
  intro n
  induction n with
  | zero => intro x3 f h; exact absurd h (by rw [FX11_orderTells_104]; exact fun q => q)
  | succ n ih =>
    intro x3 f h
    rw [FX11_orderTells_104] at h
    refine ev_iload_n (i := 3) dX11_orderTells_104 rfl rfl ?_
    refine ev_aload_n (i := 0) dX11_orderTells_105 rfl rfl ?_
    refine ev_cVI (b := 150) (av := []) (S := [vI x3]) (fun q => q) h dX11_orderTells_106 (fun Q' q => TX11_carts _ q) kvX11_carts ml_X11_269 sh_150 rfl (RRc (by decide) (by decide)) (Nat.le_of_ble_eq_true rfl) ⟨Nat.le_of_ble_eq_true rfl, Nat.le_of_ble_eq_true rfl⟩ (fun y1 f1 h => ?_)
    refine ev_icmp_ge (tgt := 130) dX11_orderTells_109 (by decide) (fun c4 => ?_) (fun c4 => ?_)
    · rw [if_pos c4] at h
      exact ev_vret rfl dX11_orderTells_130 h
    · rw [if_neg c4] at h
      refine ev_aload_n (i := 0) dX11_orderTells_112 rfl rfl ?_
      refine ev_getR dX11_orderTells_113 fl_X11_92 sh_150 (by decide) (by decide) rf_150_43 ?_
      refine ev_iload_n (i := 3) dX11_orderTells_116 rfl rfl ?_
      refine ev_aload_n (i := 0) dX11_orderTells_117 rfl rfl ?_
      refine ev_getR dX11_orderTells_118 fl_X11_62 sh_150 (by decide) (by decide) rf_150_28 ?_
      refine ev_iload_n (i := 3) dX11_orderTells_121 rfl rfl ?_
      by_cases g2 : 0 ≤ x3 ∧ x3 < 6
      · rw [if_pos g2] at h
        refine ex_iald (x := (f1 166 x3.toNat)) dX11_orderTells_122 sh_166 g2.1 g2.2 rfl ?_
        by_cases g3 : 0 ≤ x3 ∧ x3 < 6
        · rw [if_pos g3] at h
          refine ex_iast (j := x3.toNat) dX11_orderTells_123 sh_176 g3.1 g3.2 rfl ?_
          refine ev_iinc (L' := [some (vR 150), none, none, some (vI (w32 (x3 + 1)))]) dX11_orderTells_124 rfl (by decide) rfl ?_
          refine ev_goto (tgt := 104) dX11_orderTells_127 (by decide) ?_
          exact ih (w32 (x3 + 1)) _ h
        · rw [if_neg g3] at h; exact h.elim
      · rw [if_neg g2] at h; exact h.elim
def FX11_orderTells_85  (x1 : Int) (s1 : Int) (f : Mm) : Option Mm := (if x1 < (f 150 41) then FX11_orderTells_104 fu 0 (up (up f 150 42 s1) 150 41 x1) else some (up f 150 42 s1))
set_option maxHeartbeats 4000000 in
set_option maxRecDepth 100000 in
theorem SX11_orderTells_85 {G : GT} {l : Launch} {Q : Option AV → Mem → Prop}  (x1 : Int) (s1 : Int) (f : Mm) (h : OkV Q (FX11_orderTells_85  x1 s1 f)) : Ev G l MX11_orderTells (Rm 3 0 0) (ZM G Q 0 0) 0 0 85 [some (vR 150), some (vI x1), none, none] [vI s1, vR 150] (SH, RF, f) := by
  unfold FX11_orderTells_85 at h
  refine ev_putI dX11_orderTells_85 fl_X11_387 sh_150 (by decide) (by decide) ?_
  refine ev_iload_n (i := 1) dX11_orderTells_88 rfl rfl ?_
  refine ev_aload_n (i := 0) dX11_orderTells_89 rfl rfl ?_
  refine ex_getI (x := (f 150 41)) dX11_orderTells_90 fl_X11_390 sh_150 (by decide) (by decide) rfl ?_
  refine ev_icmp_lt (tgt := 97) dX11_orderTells_93 (by decide) (fun c1 => ?_) (fun c1 => ?_)
  · rw [if_pos c1] at h
    refine ev_aload_n (i := 0) dX11_orderTells_97 rfl rfl ?_
    refine ev_iload_n (i := 1) dX11_orderTells_98 rfl rfl ?_
    refine ev_putI dX11_orderTells_99 fl_X11_390 sh_150 (by decide) (by decide) ?_
    refine ev_iconst dX11_orderTells_102 (r32c rfl) ?_
    refine ev_istore_n (i := 3) (L' := [some (vR 150), some (vI x1), none, some (vI 0)]) dX11_orderTells_103 rfl (by decide) rfl ?_
    refine ev_fg [true, false, true, true] rfl ?_
    exact SX11_orderTells_104  fu 0 _ h
  · rw [if_neg c1] at h
    exact ev_vret rfl dX11_orderTells_96 h
def FX11_orderTells_59  (x1 : Int) (f : Mm) : Option Mm := (b2 (FX11_keptNow f) fun y1 f1 => (b2 (FX11_payOf y1 f1) fun y2 f2 => (if y2 ≤ (f2 150 42) then FX11_orderTells_85 x1 (f2 150 42) f2 else FX11_orderTells_85 x1 y2 f2)))
set_option maxHeartbeats 4000000 in
set_option maxRecDepth 100000 in
theorem SX11_orderTells_59 {G : GT} {l : Launch} {Q : Option AV → Mem → Prop}  (x1 : Int) (f : Mm) (h : OkV Q (FX11_orderTells_59  x1 f)) : Ev G l MX11_orderTells (Rm 3 0 0) (ZM G Q 0 0) 0 0 59 [some (vR 150), some (vI x1), none, none] [] (SH, RF, f) := by
  unfold FX11_orderTells_59 at h
  refine ev_aload_n (i := 0) dX11_orderTells_59 rfl rfl ?_
  refine ev_aload_n (i := 0) dX11_orderTells_60 rfl rfl ?_
  refine ev_cVI (b := 150) (av := []) (S := [vR 150]) (fun q => q) h dX11_orderTells_61 (fun Q' q => TX11_keptNow _ q) kvX11_keptNow ml_X11_330 sh_150 rfl (RRc (by decide) (by decide)) (Nat.le_of_ble_eq_true rfl) ⟨Nat.le_of_ble_eq_true rfl, Nat.le_of_ble_eq_true rfl⟩ (fun y1 f1 h => ?_)
  refine ev_cVI (b := 150) (av := [vI y1]) (S := []) (fun q => q) h dX11_orderTells_64 (fun Q' q => TX11_payOf y1 _ q) kvX11_payOf ml_X11_333 sh_150 rfl (RRc (by decide) (by decide)) (Nat.le_of_ble_eq_true rfl) ⟨Nat.le_of_ble_eq_true rfl, Nat.le_of_ble_eq_true rfl⟩ (fun y2 f2 h => ?_)
  refine ev_istore_n (i := 2) (L' := [some (vR 150), some (vI x1), some (vI y2), none]) dX11_orderTells_67 rfl (by decide) rfl ?_
  refine ev_aload_n (i := 0) dX11_orderTells_68 rfl rfl ?_
  refine ev_iload_n (i := 2) dX11_orderTells_69 rfl rfl ?_
  refine ev_aload_n (i := 0) dX11_orderTells_70 rfl rfl ?_
  refine ex_getI (x := (f2 150 42)) dX11_orderTells_71 fl_X11_387 sh_150 (by decide) (by decide) rfl ?_
  refine ev_icmp_le (tgt := 81) dX11_orderTells_74 (by decide) (fun c3 => ?_) (fun c3 => ?_)
  · rw [if_pos c3] at h
    refine ev_aload_n (i := 0) dX11_orderTells_81 rfl rfl ?_
    refine ex_getI (x := (f2 150 42)) dX11_orderTells_82 fl_X11_387 sh_150 (by decide) (by decide) rfl ?_
    refine ev_fg [true, true, false, true] rfl ?_
    exact SX11_orderTells_85  x1 (f2 150 42) _ h
  · rw [if_neg c3] at h
    refine ev_iload_n (i := 2) dX11_orderTells_77 rfl rfl ?_
    refine ev_goto (tgt := 85) dX11_orderTells_78 (by decide) ?_
    refine ev_fg [true, true, false, true] rfl ?_
    exact SX11_orderTells_85  x1 y2 _ h
def FX11_orderTells_52 (k8 : Int → Int → Mm → Option Mm) (x2 : Int) (s0 : Int) (f : Mm) : Option Mm := k8 s0 (w32 (x2 + 1)) f
set_option maxHeartbeats 4000000 in
set_option maxRecDepth 100000 in
theorem SX11_orderTells_52 {G : GT} {l : Launch} {Q : Option AV → Mem → Prop} {k8 : Int → Int → Mm → Option Mm} (q8 : ∀ (x1 : Int) (x2 : Int) (f : Mm), OkV Q (k8 x1 x2 f) → Ev G l MX11_orderTells (Rm 3 0 0) (ZM G Q 0 0) 0 0 8 [some (vR 150), some (vI x1), some (vI x2), none] [] (SH, RF, f)) (x2 : Int) (s0 : Int) (f : Mm) (h : OkV Q (FX11_orderTells_52 k8 x2 s0 f)) : Ev G l MX11_orderTells (Rm 3 0 0) (ZM G Q 0 0) 0 0 52 [some (vR 150), none, some (vI x2), none] [vI s0] (SH, RF, f) := by
  unfold FX11_orderTells_52 at h
  refine ev_istore_n (i := 1) (L' := [some (vR 150), some (vI s0), some (vI x2), none]) dX11_orderTells_52 rfl (by decide) rfl ?_
  refine ev_iinc (L' := [some (vR 150), some (vI s0), some (vI (w32 (x2 + 1))), none]) dX11_orderTells_53 rfl (by decide) rfl ?_
  refine ev_goto (tgt := 8) dX11_orderTells_56 (by decide) ?_
  exact q8 s0 (w32 (x2 + 1)) _ h
def FX11_orderTells_8  : Nat → Int → Int → Mm → Option Mm
  | 0, _, _, _ => none
  | n + 1, x1, x2, f => (b2 (FX11_carts f) fun y1 f1 => (if y1 ≤ x2 then FX11_orderTells_59 x1 f1 else (if 0 ≤ x2 ∧ x2 < 6 then (if (f1 167 x2.toNat) = (-1) then FX11_orderTells_52 (FX11_orderTells_8 n) x2 10000000 f1 else (if 0 ≤ x2 ∧ x2 < 6 then (if (f1 167 x2.toNat) ≤ x1 then FX11_orderTells_52 (FX11_orderTells_8 n) x2 x1 f1 else (if 0 ≤ x2 ∧ x2 < 6 then FX11_orderTells_52 (FX11_orderTells_8 n) x2 (f1 167 x2.toNat) f1 else none)) else none)) else none)))
set_option maxHeartbeats 4000000 in
set_option maxRecDepth 100000 in
theorem SX11_orderTells_8 {G : GT} {l : Launch} {Q : Option AV → Mem → Prop}  : ∀ (n : Nat) (x1 : Int) (x2 : Int) (f : Mm), OkV Q (FX11_orderTells_8  n x1 x2 f) → Ev G l MX11_orderTells (Rm 3 0 0) (ZM G Q 0 0) 0 0 8 [some (vR 150), some (vI x1), some (vI x2), none] [] (SH, RF, f) := by
  intro n
  induction n with
  | zero => intro x1 x2 f h; exact absurd h (by rw [FX11_orderTells_8]; exact fun q => q)
  | succ n ih =>
    intro x1 x2 f h
    rw [FX11_orderTells_8] at h
    refine ev_iload_n (i := 2) dX11_orderTells_8 rfl rfl ?_
    refine ev_aload_n (i := 0) dX11_orderTells_9 rfl rfl ?_
    refine ev_cVI (b := 150) (av := []) (S := [vI x2]) (fun q => q) h dX11_orderTells_10 (fun Q' q => TX11_carts _ q) kvX11_carts ml_X11_269 sh_150 rfl (RRc (by decide) (by decide)) (Nat.le_of_ble_eq_true rfl) ⟨Nat.le_of_ble_eq_true rfl, Nat.le_of_ble_eq_true rfl⟩ (fun y1 f1 h => ?_)
    refine ev_icmp_ge (tgt := 59) dX11_orderTells_13 (by decide) (fun c7 => ?_) (fun c7 => ?_)
    · rw [if_pos c7] at h
      refine ev_fg [true, true, false, true] rfl ?_
      exact SX11_orderTells_59  x1 _ h
    · rw [if_neg c7] at h
      refine ev_aload_n (i := 0) dX11_orderTells_16 rfl rfl ?_
      refine ev_getR dX11_orderTells_17 fl_X11_65 sh_150 (by decide) (by decide) rf_150_29 ?_
      refine ev_iload_n (i := 2) dX11_orderTells_20 rfl rfl ?_
      by_cases g2 : 0 ≤ x2 ∧ x2 < 6
      · rw [if_pos g2] at h
        refine ex_iald (x := (f1 167 x2.toNat)) dX11_orderTells_21 sh_167 g2.1 g2.2 rfl ?_
        refine ev_iconst dX11_orderTells_22 (r32c rfl) ?_
        refine ev_icmp_ne (tgt := 32) dX11_orderTells_23 (by decide) (fun c6 => ?_) (fun c6 => ?_)
        · rw [if_neg c6] at h
          refine ev_aload_n (i := 0) dX11_orderTells_32 rfl rfl ?_
          refine ev_getR dX11_orderTells_33 fl_X11_65 sh_150 (by decide) (by decide) rf_150_29 ?_
          refine ev_iload_n (i := 2) dX11_orderTells_36 rfl rfl ?_
          by_cases g3 : 0 ≤ x2 ∧ x2 < 6
          · rw [if_pos g3] at h
            refine ex_iald (x := (f1 167 x2.toNat)) dX11_orderTells_37 sh_167 g3.1 g3.2 rfl ?_
            refine ev_iload_n (i := 1) dX11_orderTells_38 rfl rfl ?_
            refine ev_icmp_le (tgt := 51) dX11_orderTells_39 (by decide) (fun c5 => ?_) (fun c5 => ?_)
            · rw [if_pos c5] at h
              refine ev_iload_n (i := 1) dX11_orderTells_51 rfl rfl ?_
              refine ev_fg [true, false, true, true] rfl ?_
              exact SX11_orderTells_52 ih x2 x1 _ h
            · rw [if_neg c5] at h
              refine ev_aload_n (i := 0) dX11_orderTells_42 rfl rfl ?_
              refine ev_getR dX11_orderTells_43 fl_X11_65 sh_150 (by decide) (by decide) rf_150_29 ?_
              refine ev_iload_n (i := 2) dX11_orderTells_46 rfl rfl ?_
              by_cases g4 : 0 ≤ x2 ∧ x2 < 6
              · rw [if_pos g4] at h
                refine ex_iald (x := (f1 167 x2.toNat)) dX11_orderTells_47 sh_167 g4.1 g4.2 rfl ?_
                refine ev_goto (tgt := 52) dX11_orderTells_48 (by decide) ?_
                refine ev_fg [true, false, true, true] rfl ?_
                exact SX11_orderTells_52 ih x2 (f1 167 x2.toNat) _ h
              · rw [if_neg g4] at h; exact h.elim
          · rw [if_neg g3] at h; exact h.elim
        · rw [if_pos c6] at h
          refine ev_ldcw (v := 10000000) dX11_orderTells_26 (r32c rfl) kc_X11_349 ?_
          refine ev_goto (tgt := 52) dX11_orderTells_29 (by decide) ?_
          refine ev_fg [true, false, true, true] rfl ?_
          exact SX11_orderTells_52 ih x2 10000000 _ h
      · rw [if_neg g2] at h; exact h.elim
def FX11_orderTells_0   (f : Mm) : Option Mm := ((FX11_passes f).bind fun f1 => FX11_orderTells_8 fu 0 0 f1)
set_option maxHeartbeats 4000000 in
set_option maxRecDepth 100000 in
theorem SX11_orderTells_0 {G : GT} {l : Launch} {Q : Option AV → Mem → Prop}   (f : Mm) (h : OkV Q (FX11_orderTells_0   f)) : Ev G l MX11_orderTells (Rm 3 0 0) (ZM G Q 0 0) 0 0 0 [some (vR 150), none, none, none] [] (SH, RF, f) := by
  unfold FX11_orderTells_0 at h
  refine ev_aload_n (i := 0) dX11_orderTells_0 rfl rfl ?_
  refine ev_cVV (b := 150) (av := []) (S := []) (fun q => q) h dX11_orderTells_1 (fun Q' q => TX11_passes _ q) kvX11_passes ml_X11_307 sh_150 rfl (RRc (by decide) (by decide)) (Nat.le_of_ble_eq_true rfl) ⟨Nat.le_of_ble_eq_true rfl, Nat.le_of_ble_eq_true rfl⟩ (fun f1 h => ?_)
  refine ev_iconst dX11_orderTells_4 (r32c rfl) ?_
  refine ev_istore_n (i := 1) (L' := [some (vR 150), some (vI 0), none, none]) dX11_orderTells_5 rfl (by decide) rfl ?_
  refine ev_iconst dX11_orderTells_6 (r32c rfl) ?_
  refine ev_istore_n (i := 2) (L' := [some (vR 150), some (vI 0), some (vI 0), none]) dX11_orderTells_7 rfl (by decide) rfl ?_
  exact SX11_orderTells_8  fu 0 0 _ h
def FX11_orderTells  (f : Mm) : Option Mm := FX11_orderTells_0  f
set_option maxRecDepth 100000 in
theorem TX11_orderTells {G : GT} {l : Launch} {Q : Option AV → Mem → Prop}  (f : Mm) (h : OkV Q (FX11_orderTells  f)) : Ret G l MX11_orderTells (3) 0 0 [vR 150] (SH, RF, f) Q := by
  refine ret_of (L := [some (vR 150), none, none, none]) (by decide) rfl (Nat.le_of_ble_eq_true rfl) ?_
  exact SX11_orderTells_0  f h
theorem dX11_orders_53 : decode cX11_orders 53 = .ok (.iinc 3 1, 3) := by decide +kernel
theorem dX11_orders_56 : decode cX11_orders 56 = .ok (.goto (-41), 3) := by decide +kernel
theorem dX11_orders_15 : decode cX11_orders 15 = .ok (.iload_n 3, 1) := by decide +kernel
theorem dX11_orders_16 : decode cX11_orders 16 = .ok (.aload_n 0, 1) := by decide +kernel
theorem dX11_orders_17 : decode cX11_orders 17 = .ok (.invokevirtual 269, 3) := by decide +kernel
theorem dX11_orders_20 : decode cX11_orders 20 = .ok (.if_icmp .ge 39, 3) := by decide +kernel
theorem dX11_orders_59 : decode cX11_orders 59 = .ok (.return_, 1) := by decide +kernel
theorem dX11_orders_23 : decode cX11_orders 23 = .ok (.iload_n 2, 1) := by decide +kernel
theorem dX11_orders_24 : decode cX11_orders 24 = .ok (.iload_n 3, 1) := by decide +kernel
theorem dX11_orders_25 : decode cX11_orders 25 = .ok (.invokestatic 289, 3) := by decide +kernel
theorem dX11_orders_28 : decode cX11_orders 28 = .ok (.ifCond .eq 6, 3) := by decide +kernel
theorem dX11_orders_34 : decode cX11_orders 34 = .ok (.aload_n 0, 1) := by decide +kernel
theorem dX11_orders_35 : decode cX11_orders 35 = .ok (.getfield 62, 3) := by decide +kernel
theorem dX11_orders_38 : decode cX11_orders 38 = .ok (.iload_n 1, 1) := by decide +kernel
theorem dX11_orders_39 : decode cX11_orders 39 = .ok (.iload_n 3, 1) := by decide +kernel
theorem dX11_orders_40 : decode cX11_orders 40 = .ok (.iastore, 1) := by decide +kernel
theorem dX11_orders_41 : decode cX11_orders 41 = .ok (.aload_n 0, 1) := by decide +kernel
theorem dX11_orders_42 : decode cX11_orders 42 = .ok (.iload_n 1, 1) := by decide +kernel
theorem dX11_orders_43 : decode cX11_orders 43 = .ok (.iconst 1, 1) := by decide +kernel
theorem dX11_orders_44 : decode cX11_orders 44 = .ok (.iadd, 1) := by decide +kernel
theorem dX11_orders_45 : decode cX11_orders 45 = .ok (.iload_n 2, 1) := by decide +kernel
theorem dX11_orders_46 : decode cX11_orders 46 = .ok (.iconst 1, 1) := by decide +kernel
theorem dX11_orders_47 : decode cX11_orders 47 = .ok (.iload_n 3, 1) := by decide +kernel
theorem dX11_orders_48 : decode cX11_orders 48 = .ok (.ishl, 1) := by decide +kernel
theorem dX11_orders_49 : decode cX11_orders 49 = .ok (.ior, 1) := by decide +kernel
theorem dX11_orders_50 : decode cX11_orders 50 = .ok (.invokevirtual 396, 3) := by decide +kernel
theorem dX11_orders_31 : decode cX11_orders 31 = .ok (.goto 22, 3) := by decide +kernel
theorem dX11_orders_0 : decode cX11_orders 0 = .ok (.iload_n 1, 1) := by decide +kernel
theorem dX11_orders_1 : decode cX11_orders 1 = .ok (.aload_n 0, 1) := by decide +kernel
theorem dX11_orders_2 : decode cX11_orders 2 = .ok (.invokevirtual 269, 3) := by decide +kernel
theorem dX11_orders_5 : decode cX11_orders 5 = .ok (.if_icmp .ne 8, 3) := by decide +kernel
theorem dX11_orders_13 : decode cX11_orders 13 = .ok (.iconst 0, 1) := by decide +kernel
theorem dX11_orders_14 : decode cX11_orders 14 = .ok (.istore_n 3, 1) := by decide +kernel
theorem dX11_orders_8 : decode cX11_orders 8 = .ok (.aload_n 0, 1) := by decide +kernel
theorem dX11_orders_9 : decode cX11_orders 9 = .ok (.invokevirtual 393, 3) := by decide +kernel
theorem dX11_orders_12 : decode cX11_orders 12 = .ok (.return_, 1) := by decide +kernel
def FX11_orders_53 (rc : Int → Int → Mm → Option Mm) (k15 : Int → Int → Int → Mm → Option Mm) (x1 : Int) (x2 : Int) (x3 : Int) (f : Mm) : Option Mm := k15 x1 x2 (w32 (x3 + 1)) f
set_option maxHeartbeats 4000000 in
set_option maxRecDepth 100000 in
theorem SX11_orders_53 {G : GT} {l : Launch} {Q : Option AV → Mem → Prop} {m0 : Nat} {rc : Int → Int → Mm → Option Mm} (hrc : ∀ (y0 y1 : Int) (g : Mm) (Q' : Option AV → Mem → Prop), OkV Q' (rc y0 y1 g) → Ret G l MX11_orders (m0 + 3) 0 0 [vR 150, vI y0, vI y1] (SH, RF, g) Q') {k15 : Int → Int → Int → Mm → Option Mm} (q15 : ∀ (x1 : Int) (x2 : Int) (x3 : Int) (f : Mm), OkV Q (k15 x1 x2 x3 f) → Ev G l MX11_orders (Rm (m0 + 4) 0 0) (ZM G Q 0 0) 0 0 15 [some (vR 150), some (vI x1), some (vI x2), some (vI x3)] [] (SH, RF, f)) (x1 : Int) (x2 : Int) (x3 : Int) (f : Mm) (h : OkV Q (FX11_orders_53 rc k15 x1 x2 x3 f)) : Ev G l MX11_orders (Rm (m0 + 4) 0 0) (ZM G Q 0 0) 0 0 53 [some (vR 150), some (vI x1), some (vI x2), some (vI x3)] [] (SH, RF, f) := by
  unfold FX11_orders_53 at h
  refine ev_iinc (L' := [some (vR 150), some (vI x1), some (vI x2), some (vI (w32 (x3 + 1)))]) dX11_orders_53 rfl (by decide) rfl ?_
  refine ev_goto (tgt := 15) dX11_orders_56 (by decide) ?_
  exact q15 x1 x2 (w32 (x3 + 1)) _ h
def FX11_orders_15 (rc : Int → Int → Mm → Option Mm)  : Nat → Int → Int → Int → Mm → Option Mm
  | 0, _, _, _, _ => none
  | n + 1, x1, x2, x3, f => (b2 (FX11_carts f) fun y1 f1 => (if y1 ≤ x3 then some f1 else (b2 (FX11_isBit x2 x3 f1) fun y2 f2 => (if y2 = 0 then (if 0 ≤ x1 ∧ x1 < 6 then ((rc (w32 (x1 + 1)) (bOr x2 (bShl 1 x3)) (up f2 166 x1.toNat x3)).bind fun f4 => FX11_orders_53 rc (FX11_orders_15 rc n) x1 x2 x3 f4) else none) else FX11_orders_53 rc (FX11_orders_15 rc n) x1 x2 x3 f2))))
set_option maxHeartbeats 4000000 in
set_option maxRecDepth 100000 in
theorem SX11_orders_15 {G : GT} {l : Launch} {Q : Option AV → Mem → Prop} {m0 : Nat} {rc : Int → Int → Mm → Option Mm} (hrc : ∀ (y0 y1 : Int) (g : Mm) (Q' : Option AV → Mem → Prop), OkV Q' (rc y0 y1 g) → Ret G l MX11_orders (m0 + 3) 0 0 [vR 150, vI y0, vI y1] (SH, RF, g) Q')  : ∀ (n : Nat) (x1 : Int) (x2 : Int) (x3 : Int) (f : Mm), OkV Q (FX11_orders_15 rc  n x1 x2 x3 f) → Ev G l MX11_orders (Rm (m0 + 4) 0 0) (ZM G Q 0 0) 0 0 15 [some (vR 150), some (vI x1), some (vI x2), some (vI x3)] [] (SH, RF, f) := by
  intro n
  induction n with
  | zero => intro x1 x2 x3 f h; exact absurd h (by rw [FX11_orders_15]; exact fun q => q)
  | succ n ih =>
    intro x1 x2 x3 f h
    rw [FX11_orders_15] at h
    refine ev_iload_n (i := 3) dX11_orders_15 rfl rfl ?_
    refine ev_aload_n (i := 0) dX11_orders_16 rfl rfl ?_
    refine ev_cVI (b := 150) (av := []) (S := [vI x3]) (fun q => q) h dX11_orders_17 (fun Q' q => TX11_carts _ q) kvX11_carts ml_X11_269 sh_150 rfl (RRc (by omega) (by decide)) (Nat.le_of_ble_eq_true rfl) ⟨Nat.le_of_ble_eq_true rfl, Nat.le_of_ble_eq_true rfl⟩ (fun y1 f1 h => ?_)
    refine ev_icmp_ge (tgt := 59) dX11_orders_20 (by decide) (fun c6 => ?_) (fun c6 => ?_)
    · rw [if_pos c6] at h
      exact ev_vret rfl dX11_orders_59 h
    · rw [if_neg c6] at h
      refine ev_iload_n (i := 2) dX11_orders_23 rfl rfl ?_
      refine ev_iload_n (i := 3) dX11_orders_24 rfl rfl ?_
      refine ev_cSI (av := [vI x2, vI x3]) (S := []) (fun q => q) h dX11_orders_25 (fun Q' q => TX11_isBit x2 x3 _ q) ksX11_isBit ml_X11_289 rfl (RRc (by omega) (by decide)) (Nat.le_of_ble_eq_true rfl) ⟨Nat.le_of_ble_eq_true rfl, Nat.le_of_ble_eq_true rfl⟩ (fun y2 f2 h => ?_)
      refine ev_if_eq (tgt := 34) dX11_orders_28 (by decide) (fun c5 => ?_) (fun c5 => ?_)
      · rw [if_pos c5] at h
        refine ev_aload_n (i := 0) dX11_orders_34 rfl rfl ?_
        refine ev_getR dX11_orders_35 fl_X11_62 sh_150 (by decide) (by decide) rf_150_28 ?_
        refine ev_iload_n (i := 1) dX11_orders_38 rfl rfl ?_
        refine ev_iload_n (i := 3) dX11_orders_39 rfl rfl ?_
        by_cases g3 : 0 ≤ x1 ∧ x1 < 6
        · rw [if_pos g3] at h
          refine ex_iast (j := x1.toNat) dX11_orders_40 sh_166 g3.1 g3.2 rfl ?_
          refine ev_aload_n (i := 0) dX11_orders_41 rfl rfl ?_
          refine ev_iload_n (i := 1) dX11_orders_42 rfl rfl ?_
          refine ev_iconst dX11_orders_43 (r32c rfl) ?_
          refine ev_iadd dX11_orders_44 ?_
          refine ev_iload_n (i := 2) dX11_orders_45 rfl rfl ?_
          refine ev_iconst dX11_orders_46 (r32c rfl) ?_
          refine ev_iload_n (i := 3) dX11_orders_47 rfl rfl ?_
          refine ev_ishl dX11_orders_48 ?_
          refine ev_ior dX11_orders_49 ?_
          refine ev_cVV (b := 150) (av := [vI (w32 (x1 + 1)), vI (bOr x2 (bShl 1 x3))]) (S := []) (fun q => q) h dX11_orders_50 (fun Q' q => hrc (w32 (x1 + 1)) (bOr x2 (bShl 1 x3)) _ Q' q) kvX11_orders ml_X11_396 sh_150 rfl (RRc (by omega) (by decide)) (Nat.le_of_ble_eq_true rfl) ⟨Nat.le_of_ble_eq_true rfl, Nat.le_of_ble_eq_true rfl⟩ (fun f4 h => ?_)
          exact SX11_orders_53 hrc ih x1 x2 x3 _ h
        · rw [if_neg g3] at h; exact h.elim
      · rw [if_neg c5] at h
        refine ev_goto (tgt := 53) dX11_orders_31 (by decide) ?_
        exact SX11_orders_53 hrc ih x1 x2 x3 _ h
def FX11_orders_0 (rc : Int → Int → Mm → Option Mm)  (x1 : Int) (x2 : Int) (f : Mm) : Option Mm := (b2 (FX11_carts f) fun y1 f1 => (if x1 = y1 then ((FX11_orderTells f1).bind fun f2 => some f2) else FX11_orders_15 rc fu x1 x2 0 f1))
set_option maxHeartbeats 4000000 in
set_option maxRecDepth 100000 in
theorem SX11_orders_0 {G : GT} {l : Launch} {Q : Option AV → Mem → Prop} {m0 : Nat} {rc : Int → Int → Mm → Option Mm} (hrc : ∀ (y0 y1 : Int) (g : Mm) (Q' : Option AV → Mem → Prop), OkV Q' (rc y0 y1 g) → Ret G l MX11_orders (m0 + 3) 0 0 [vR 150, vI y0, vI y1] (SH, RF, g) Q')  (x1 : Int) (x2 : Int) (f : Mm) (h : OkV Q (FX11_orders_0 rc  x1 x2 f)) : Ev G l MX11_orders (Rm (m0 + 4) 0 0) (ZM G Q 0 0) 0 0 0 [some (vR 150), some (vI x1), some (vI x2), none] [] (SH, RF, f) := by
  unfold FX11_orders_0 at h
  refine ev_iload_n (i := 1) dX11_orders_0 rfl rfl ?_
  refine ev_aload_n (i := 0) dX11_orders_1 rfl rfl ?_
  refine ev_cVI (b := 150) (av := []) (S := [vI x1]) (fun q => q) h dX11_orders_2 (fun Q' q => TX11_carts _ q) kvX11_carts ml_X11_269 sh_150 rfl (RRc (by omega) (by decide)) (Nat.le_of_ble_eq_true rfl) ⟨Nat.le_of_ble_eq_true rfl, Nat.le_of_ble_eq_true rfl⟩ (fun y1 f1 h => ?_)
  refine ev_icmp_ne (tgt := 13) dX11_orders_5 (by decide) (fun c3 => ?_) (fun c3 => ?_)
  · rw [if_neg c3] at h
    refine ev_iconst dX11_orders_13 (r32c rfl) ?_
    refine ev_istore_n (i := 3) (L' := [some (vR 150), some (vI x1), some (vI x2), some (vI 0)]) dX11_orders_14 rfl (by decide) rfl ?_
    exact SX11_orders_15 hrc  fu x1 x2 0 _ h
  · rw [if_pos c3] at h
    refine ev_aload_n (i := 0) dX11_orders_8 rfl rfl ?_
    refine ev_cVV (b := 150) (av := []) (S := []) (fun q => q) h dX11_orders_9 (fun Q' q => TX11_orderTells _ q) kvX11_orderTells ml_X11_393 sh_150 rfl (RRc (by omega) (by decide)) (Nat.le_of_ble_eq_true rfl) ⟨Nat.le_of_ble_eq_true rfl, Nat.le_of_ble_eq_true rfl⟩ (fun f2 h => ?_)
    exact ev_vret rfl dX11_orders_12 h
def FX11_orders (rc : Int → Int → Mm → Option Mm) (x1 : Int) (x2 : Int) (f : Mm) : Option Mm := FX11_orders_0 rc x1 x2 f
set_option maxRecDepth 100000 in
theorem TX11_orders {G : GT} {l : Launch} {Q : Option AV → Mem → Prop} {m0 : Nat} {rc : Int → Int → Mm → Option Mm} (hrc : ∀ (y0 y1 : Int) (g : Mm) (Q' : Option AV → Mem → Prop), OkV Q' (rc y0 y1 g) → Ret G l MX11_orders (m0 + 3) 0 0 [vR 150, vI y0, vI y1] (SH, RF, g) Q') (x1 : Int) (x2 : Int) (f : Mm) (h : OkV Q (FX11_orders rc x1 x2 f)) : Ret G l MX11_orders ((m0 + 4)) 0 0 [vR 150, vI x1, vI x2] (SH, RF, f) Q := by
  refine ret_of (L := [some (vR 150), some (vI x1), some (vI x2), none]) (by decide) rfl (Nat.le_of_ble_eq_true rfl) ?_
  exact SX11_orders_0 hrc x1 x2 f h
def FX11_ordersR : Nat → Int → Int → Mm → Option Mm
  | 0, _, _, _ => none
  | n + 1, y0, y1, g => FX11_orders (FX11_ordersR n) y0 y1 g
set_option maxRecDepth 100000 in
theorem TX11_ordersR {G : GT} {l : Launch} : ∀ (n : Nat) (y0 y1 : Int) (g : Mm) (Q' : Option AV → Mem → Prop), OkV Q' (FX11_ordersR n y0 y1 g) → Ret G l MX11_orders (n + 3) 0 0 [vR 150, vI y0, vI y1] (SH, RF, g) Q'
  | 0, _, _, _, _, h => absurd h (fun q => q)
  | n + 1, y0, y1, g, Q', h => TX11_orders (m0 := n) (hrc := TX11_ordersR n) y0 y1 g h
theorem dX11_laysOrders_0 : decode cX11_laysOrders 0 = .ok (.aload_n 0, 1) := by decide +kernel
theorem dX11_laysOrders_1 : decode cX11_laysOrders 1 = .ok (.invokevirtual 301, 3) := by decide +kernel
theorem dX11_laysOrders_4 : decode cX11_laysOrders 4 = .ok (.aload_n 0, 1) := by decide +kernel
theorem dX11_laysOrders_5 : decode cX11_laysOrders 5 = .ok (.ldc_w 349, 3) := by decide +kernel
theorem dX11_laysOrders_8 : decode cX11_laysOrders 8 = .ok (.putfield 390, 3) := by decide +kernel
theorem dX11_laysOrders_11 : decode cX11_laysOrders 11 = .ok (.aload_n 0, 1) := by decide +kernel
theorem dX11_laysOrders_12 : decode cX11_laysOrders 12 = .ok (.iconst 0, 1) := by decide +kernel
theorem dX11_laysOrders_13 : decode cX11_laysOrders 13 = .ok (.putfield 387, 3) := by decide +kernel
theorem dX11_laysOrders_16 : decode cX11_laysOrders 16 = .ok (.aload_n 0, 1) := by decide +kernel
theorem dX11_laysOrders_17 : decode cX11_laysOrders 17 = .ok (.iconst 0, 1) := by decide +kernel
theorem dX11_laysOrders_18 : decode cX11_laysOrders 18 = .ok (.iconst 0, 1) := by decide +kernel
theorem dX11_laysOrders_19 : decode cX11_laysOrders 19 = .ok (.invokevirtual 396, 3) := by decide +kernel
theorem dX11_laysOrders_22 : decode cX11_laysOrders 22 = .ok (.return_, 1) := by decide +kernel
def FX11_laysOrders_0   (f : Mm) : Option Mm := ((FX11_laysNow f).bind fun f1 => ((FX11_ordersR 8 0 0 (up (up f1 150 41 10000000) 150 42 0)).bind fun f2 => some f2))
set_option maxHeartbeats 4000000 in
set_option maxRecDepth 100000 in
theorem SX11_laysOrders_0 {G : GT} {l : Launch} {Q : Option AV → Mem → Prop}   (f : Mm) (h : OkV Q (FX11_laysOrders_0   f)) : Ev G l MX11_laysOrders (Rm 12 0 0) (ZM G Q 0 0) 0 0 0 [some (vR 150)] [] (SH, RF, f) := by
  unfold FX11_laysOrders_0 at h
  refine ev_aload_n (i := 0) dX11_laysOrders_0 rfl rfl ?_
  refine ev_cVV (b := 150) (av := []) (S := []) (fun q => q) h dX11_laysOrders_1 (fun Q' q => TX11_laysNow _ q) kvX11_laysNow ml_X11_301 sh_150 rfl (RRc (by decide) (by decide)) (Nat.le_of_ble_eq_true rfl) ⟨Nat.le_of_ble_eq_true rfl, Nat.le_of_ble_eq_true rfl⟩ (fun f1 h => ?_)
  refine ev_aload_n (i := 0) dX11_laysOrders_4 rfl rfl ?_
  refine ev_ldcw (v := 10000000) dX11_laysOrders_5 (r32c rfl) kc_X11_349 ?_
  refine ev_putI dX11_laysOrders_8 fl_X11_390 sh_150 (by decide) (by decide) ?_
  refine ev_aload_n (i := 0) dX11_laysOrders_11 rfl rfl ?_
  refine ev_iconst dX11_laysOrders_12 (r32c rfl) ?_
  refine ev_putI dX11_laysOrders_13 fl_X11_387 sh_150 (by decide) (by decide) ?_
  refine ev_aload_n (i := 0) dX11_laysOrders_16 rfl rfl ?_
  refine ev_iconst dX11_laysOrders_17 (r32c rfl) ?_
  refine ev_iconst dX11_laysOrders_18 (r32c rfl) ?_
  refine ev_cVV (b := 150) (av := [vI 0, vI 0]) (S := []) (fun q => q) h dX11_laysOrders_19 (fun Q' q => TX11_ordersR 8 0 0 _ Q' q) kvX11_orders ml_X11_396 sh_150 rfl (RRc (by decide) (by decide)) (Nat.le_of_ble_eq_true rfl) ⟨Nat.le_of_ble_eq_true rfl, Nat.le_of_ble_eq_true rfl⟩ (fun f2 h => ?_)
  exact ev_vret rfl dX11_laysOrders_22 h
def FX11_laysOrders  (f : Mm) : Option Mm := FX11_laysOrders_0  f
set_option maxRecDepth 100000 in
theorem TX11_laysOrders {G : GT} {l : Launch} {Q : Option AV → Mem → Prop}  (f : Mm) (h : OkV Q (FX11_laysOrders  f)) : Ret G l MX11_laysOrders (12) 0 0 [vR 150] (SH, RF, f) Q := by
  refine ret_of (L := [some (vR 150)]) (by decide) rfl (Nat.le_of_ble_eq_true rfl) ?_
  exact SX11_laysOrders_0  f h
theorem dX11_queue_0 : decode cX11_queue 0 = .ok (.aload_n 0, 1) := by decide +kernel
theorem dX11_queue_1 : decode cX11_queue 1 = .ok (.iconst 0, 1) := by decide +kernel
theorem dX11_queue_2 : decode cX11_queue 2 = .ok (.putfield 98, 3) := by decide +kernel
theorem dX11_queue_5 : decode cX11_queue 5 = .ok (.aload_n 0, 1) := by decide +kernel
theorem dX11_queue_6 : decode cX11_queue 6 = .ok (.invokevirtual 272, 3) := by decide +kernel
theorem dX11_queue_9 : decode cX11_queue 9 = .ok (.ifCond .ne 6, 3) := by decide +kernel
theorem dX11_queue_15 : decode cX11_queue 15 = .ok (.aload_n 0, 1) := by decide +kernel
theorem dX11_queue_16 : decode cX11_queue 16 = .ok (.invokevirtual 399, 3) := by decide +kernel
theorem dX11_queue_19 : decode cX11_queue 19 = .ok (.aload_n 0, 1) := by decide +kernel
theorem dX11_queue_20 : decode cX11_queue 20 = .ok (.getfield 390, 3) := by decide +kernel
theorem dX11_queue_23 : decode cX11_queue 23 = .ok (.ldc_w 349, 3) := by decide +kernel
theorem dX11_queue_26 : decode cX11_queue 26 = .ok (.if_icmp .lt 7, 3) := by decide +kernel
theorem dX11_queue_33 : decode cX11_queue 33 = .ok (.aload_n 0, 1) := by decide +kernel
theorem dX11_queue_34 : decode cX11_queue 34 = .ok (.getfield 390, 3) := by decide +kernel
theorem dX11_queue_37 : decode cX11_queue 37 = .ok (.ireturn, 1) := by decide +kernel
theorem dX11_queue_29 : decode cX11_queue 29 = .ok (.iconst (-1), 1) := by decide +kernel
theorem dX11_queue_30 : decode cX11_queue 30 = .ok (.goto 7, 3) := by decide +kernel
theorem dX11_queue_12 : decode cX11_queue 12 = .ok (.bipush (-2), 2) := by decide +kernel
theorem dX11_queue_14 : decode cX11_queue 14 = .ok (.ireturn, 1) := by decide +kernel
def FX11_queue_0   (f : Mm) : Option (Int × Mm) := (b2 (FX11_isBridge (up f 150 0 0)) fun y1 f1 => (if y1 = 0 then some ((-2), f1) else ((FX11_laysOrders f1).bind fun f2 => (if (f2 150 41) < 10000000 then some ((f2 150 41), f2) else some ((-1), f2)))))
set_option maxHeartbeats 4000000 in
set_option maxRecDepth 100000 in
theorem SX11_queue_0 {G : GT} {l : Launch} {Q : Option AV → Mem → Prop}   (f : Mm) (h : OkI Q (FX11_queue_0   f)) : Ev G l MX11_queue (Rm 13 0 0) (ZM G Q 0 0) 0 0 0 [some (vR 150)] [] (SH, RF, f) := by
  unfold FX11_queue_0 at h
  refine ev_aload_n (i := 0) dX11_queue_0 rfl rfl ?_
  refine ev_iconst dX11_queue_1 (r32c rfl) ?_
  refine ev_putI dX11_queue_2 fl_X11_98 sh_150 (by decide) (by decide) ?_
  refine ev_aload_n (i := 0) dX11_queue_5 rfl rfl ?_
  refine ev_cVI (b := 150) (av := []) (S := []) (fun q => q) h dX11_queue_6 (fun Q' q => TX11_isBridge _ q) kvX11_isBridge ml_X11_272 sh_150 rfl (RRc (by decide) (by decide)) (Nat.le_of_ble_eq_true rfl) ⟨Nat.le_of_ble_eq_true rfl, Nat.le_of_ble_eq_true rfl⟩ (fun y1 f1 h => ?_)
  refine ev_if_ne (tgt := 15) dX11_queue_9 (by decide) (fun c4 => ?_) (fun c4 => ?_)
  · rw [if_neg c4] at h
    refine ev_aload_n (i := 0) dX11_queue_15 rfl rfl ?_
    refine ev_cVV (b := 150) (av := []) (S := []) (fun q => q) h dX11_queue_16 (fun Q' q => TX11_laysOrders _ q) kvX11_laysOrders ml_X11_399 sh_150 rfl (RRc (by decide) (by decide)) (Nat.le_of_ble_eq_true rfl) ⟨Nat.le_of_ble_eq_true rfl, Nat.le_of_ble_eq_true rfl⟩ (fun f2 h => ?_)
    refine ev_aload_n (i := 0) dX11_queue_19 rfl rfl ?_
    refine ex_getI (x := (f2 150 41)) dX11_queue_20 fl_X11_390 sh_150 (by decide) (by decide) rfl ?_
    refine ev_ldcw (v := 10000000) dX11_queue_23 (r32c rfl) kc_X11_349 ?_
    refine ev_icmp_lt (tgt := 33) dX11_queue_26 (by decide) (fun c3 => ?_) (fun c3 => ?_)
    · rw [if_pos c3] at h
      refine ev_aload_n (i := 0) dX11_queue_33 rfl rfl ?_
      refine ex_getI (x := (f2 150 41)) dX11_queue_34 fl_X11_390 sh_150 (by decide) (by decide) rfl ?_
      exact ev_iret rfl dX11_queue_37 h
    · rw [if_neg c3] at h
      refine ev_iconst dX11_queue_29 (r32c rfl) ?_
      refine ev_goto (tgt := 37) dX11_queue_30 (by decide) ?_
      exact ev_iret rfl dX11_queue_37 h
  · rw [if_pos c4] at h
    refine ev_bipush (v := (-2)) dX11_queue_12 (r32c rfl) (by decide) ?_
    exact ev_iret rfl dX11_queue_14 h
def FX11_queue  (f : Mm) : Option (Int × Mm) := FX11_queue_0  f
set_option maxRecDepth 100000 in
theorem TX11_queue {G : GT} {l : Launch} {Q : Option AV → Mem → Prop}  (f : Mm) (h : OkI Q (FX11_queue  f)) : Ret G l MX11_queue (13) 0 0 [vR 150] (SH, RF, f) Q := by
  refine ret_of (L := [some (vR 150)]) (by decide) rfl (Nat.le_of_ble_eq_true rfl) ?_
  exact SX11_queue_0  f h
theorem dX11_queues_0 : decode cX11_queues 0 = .ok (.aload_n 0, 1) := by decide +kernel
theorem dX11_queues_1 : decode cX11_queues 1 = .ok (.iconst 0, 1) := by decide +kernel
theorem dX11_queues_2 : decode cX11_queues 2 = .ok (.putfield 98, 3) := by decide +kernel
theorem dX11_queues_5 : decode cX11_queues 5 = .ok (.aload_n 0, 1) := by decide +kernel
theorem dX11_queues_6 : decode cX11_queues 6 = .ok (.invokevirtual 272, 3) := by decide +kernel
theorem dX11_queues_9 : decode cX11_queues 9 = .ok (.ifCond .ne 6, 3) := by decide +kernel
theorem dX11_queues_15 : decode cX11_queues 15 = .ok (.aload_n 0, 1) := by decide +kernel
theorem dX11_queues_16 : decode cX11_queues 16 = .ok (.invokevirtual 399, 3) := by decide +kernel
theorem dX11_queues_19 : decode cX11_queues 19 = .ok (.aload_n 0, 1) := by decide +kernel
theorem dX11_queues_20 : decode cX11_queues 20 = .ok (.getfield 390, 3) := by decide +kernel
theorem dX11_queues_23 : decode cX11_queues 23 = .ok (.ldc_w 349, 3) := by decide +kernel
theorem dX11_queues_26 : decode cX11_queues 26 = .ok (.if_icmp .ge 28, 3) := by decide +kernel
theorem dX11_queues_54 : decode cX11_queues 54 = .ok (.iconst (-1), 1) := by decide +kernel
theorem dX11_queues_55 : decode cX11_queues 55 = .ok (.ireturn, 1) := by decide +kernel
theorem dX11_queues_29 : decode cX11_queues 29 = .ok (.iload_n 1, 1) := by decide +kernel
theorem dX11_queues_30 : decode cX11_queues 30 = .ok (.i2l, 1) := by decide +kernel
theorem dX11_queues_31 : decode cX11_queues 31 = .ok (.lconst 0, 1) := by decide +kernel
theorem dX11_queues_32 : decode cX11_queues 32 = .ok (.aload_n 0, 1) := by decide +kernel
theorem dX11_queues_33 : decode cX11_queues 33 = .ok (.invokevirtual 269, 3) := by decide +kernel
theorem dX11_queues_36 : decode cX11_queues 36 = .ok (.iconst 1, 1) := by decide +kernel
theorem dX11_queues_37 : decode cX11_queues 37 = .ok (.isub, 1) := by decide +kernel
theorem dX11_queues_38 : decode cX11_queues 38 = .ok (.i2l, 1) := by decide +kernel
theorem dX11_queues_39 : decode cX11_queues 39 = .ok (.invokestatic 103, 3) := by decide +kernel
theorem dX11_queues_42 : decode cX11_queues 42 = .ok (.ifCond .eq 12, 3) := by decide +kernel
theorem dX11_queues_45 : decode cX11_queues 45 = .ok (.aload_n 0, 1) := by decide +kernel
theorem dX11_queues_46 : decode cX11_queues 46 = .ok (.getfield 92, 3) := by decide +kernel
theorem dX11_queues_49 : decode cX11_queues 49 = .ok (.iload_n 1, 1) := by decide +kernel
theorem dX11_queues_50 : decode cX11_queues 50 = .ok (.iaload, 1) := by decide +kernel
theorem dX11_queues_51 : decode cX11_queues 51 = .ok (.goto 4, 3) := by decide +kernel
theorem dX11_queues_12 : decode cX11_queues 12 = .ok (.bipush (-2), 2) := by decide +kernel
theorem dX11_queues_14 : decode cX11_queues 14 = .ok (.ireturn, 1) := by decide +kernel
def FX11_queues_0  (x1 : Int) (f : Mm) : Option (Int × Mm) := (b2 (FX11_isBridge (up f 150 0 0)) fun y1 f1 => (if y1 = 0 then some ((-2), f1) else ((FX11_laysOrders f1).bind fun f2 => (if 10000000 ≤ (f2 150 41) then some ((-1), f2) else (b2 (FX11_carts f2) fun y3 f3 => (b2 (FX11_in x1 0 (w32 (y3 - 1)) f3) fun y4 f4 => (if y4 = 0 then some ((-1), f4) else (if 0 ≤ x1 ∧ x1 < 6 then some ((f4 176 x1.toNat), f4) else none))))))))
set_option maxHeartbeats 4000000 in
set_option maxRecDepth 100000 in
theorem SX11_queues_0 {G : GT} {l : Launch} {Q : Option AV → Mem → Prop}  (x1 : Int) (f : Mm) (h : OkI Q (FX11_queues_0  x1 f)) : Ev G l MX11_queues (Rm 13 0 0) (ZM G Q 0 0) 0 0 0 [some (vR 150), some (vI x1)] [] (SH, RF, f) := by
  unfold FX11_queues_0 at h
  refine ev_aload_n (i := 0) dX11_queues_0 rfl rfl ?_
  refine ev_iconst dX11_queues_1 (r32c rfl) ?_
  refine ev_putI dX11_queues_2 fl_X11_98 sh_150 (by decide) (by decide) ?_
  refine ev_aload_n (i := 0) dX11_queues_5 rfl rfl ?_
  refine ev_cVI (b := 150) (av := []) (S := []) (fun q => q) h dX11_queues_6 (fun Q' q => TX11_isBridge _ q) kvX11_isBridge ml_X11_272 sh_150 rfl (RRc (by decide) (by decide)) (Nat.le_of_ble_eq_true rfl) ⟨Nat.le_of_ble_eq_true rfl, Nat.le_of_ble_eq_true rfl⟩ (fun y1 f1 h => ?_)
  refine ev_if_ne (tgt := 15) dX11_queues_9 (by decide) (fun c8 => ?_) (fun c8 => ?_)
  · rw [if_neg c8] at h
    refine ev_aload_n (i := 0) dX11_queues_15 rfl rfl ?_
    refine ev_cVV (b := 150) (av := []) (S := []) (fun q => q) h dX11_queues_16 (fun Q' q => TX11_laysOrders _ q) kvX11_laysOrders ml_X11_399 sh_150 rfl (RRc (by decide) (by decide)) (Nat.le_of_ble_eq_true rfl) ⟨Nat.le_of_ble_eq_true rfl, Nat.le_of_ble_eq_true rfl⟩ (fun f2 h => ?_)
    refine ev_aload_n (i := 0) dX11_queues_19 rfl rfl ?_
    refine ex_getI (x := (f2 150 41)) dX11_queues_20 fl_X11_390 sh_150 (by decide) (by decide) rfl ?_
    refine ev_ldcw (v := 10000000) dX11_queues_23 (r32c rfl) kc_X11_349 ?_
    refine ev_icmp_ge (tgt := 54) dX11_queues_26 (by decide) (fun c7 => ?_) (fun c7 => ?_)
    · rw [if_pos c7] at h
      refine ev_iconst dX11_queues_54 (r32c rfl) ?_
      exact ev_iret rfl dX11_queues_55 h
    · rw [if_neg c7] at h
      refine ev_iload_n (i := 1) dX11_queues_29 rfl rfl ?_
      refine ev_i2l dX11_queues_30 ?_
      refine ev_lconst (v := 0) dX11_queues_31 (r64c rfl) (by decide) ?_
      refine ev_aload_n (i := 0) dX11_queues_32 rfl rfl ?_
      refine ev_cVI (b := 150) (av := []) (S := [vJ 0, vJ x1]) (fun q => q) h dX11_queues_33 (fun Q' q => TX11_carts _ q) kvX11_carts ml_X11_269 sh_150 rfl (RRc (by decide) (by decide)) (Nat.le_of_ble_eq_true rfl) ⟨Nat.le_of_ble_eq_true rfl, Nat.le_of_ble_eq_true rfl⟩ (fun y3 f3 h => ?_)
      refine ev_iconst dX11_queues_36 (r32c rfl) ?_
      refine ev_isub dX11_queues_37 ?_
      refine ev_i2l dX11_queues_38 ?_
      refine ev_cSI (av := [vJ x1, vJ 0, vJ (w32 (y3 - 1))]) (S := []) (fun q => q) h dX11_queues_39 (fun Q' q => TX11_in x1 0 (w32 (y3 - 1)) _ q) ksX11_in ml_X11_103 rfl (RRc (by decide) (by decide)) (Nat.le_of_ble_eq_true rfl) ⟨Nat.le_of_ble_eq_true rfl, Nat.le_of_ble_eq_true rfl⟩ (fun y4 f4 h => ?_)
      refine ev_if_eq (tgt := 54) dX11_queues_42 (by decide) (fun c6 => ?_) (fun c6 => ?_)
      · rw [if_pos c6] at h
        refine ev_iconst dX11_queues_54 (r32c rfl) ?_
        exact ev_iret rfl dX11_queues_55 h
      · rw [if_neg c6] at h
        refine ev_aload_n (i := 0) dX11_queues_45 rfl rfl ?_
        refine ev_getR dX11_queues_46 fl_X11_92 sh_150 (by decide) (by decide) rf_150_43 ?_
        refine ev_iload_n (i := 1) dX11_queues_49 rfl rfl ?_
        by_cases g5 : 0 ≤ x1 ∧ x1 < 6
        · rw [if_pos g5] at h
          refine ex_iald (x := (f4 176 x1.toNat)) dX11_queues_50 sh_176 g5.1 g5.2 rfl ?_
          refine ev_goto (tgt := 55) dX11_queues_51 (by decide) ?_
          exact ev_iret rfl dX11_queues_55 h
        · rw [if_neg g5] at h; exact h.elim
  · rw [if_pos c8] at h
    refine ev_bipush (v := (-2)) dX11_queues_12 (r32c rfl) (by decide) ?_
    exact ev_iret rfl dX11_queues_14 h
def FX11_queues (x1 : Int) (f : Mm) : Option (Int × Mm) := FX11_queues_0 x1 f
set_option maxRecDepth 100000 in
theorem TX11_queues {G : GT} {l : Launch} {Q : Option AV → Mem → Prop} (x1 : Int) (f : Mm) (h : OkI Q (FX11_queues x1 f)) : Ret G l MX11_queues (13) 0 0 [vR 150, vI x1] (SH, RF, f) Q := by
  refine ret_of (L := [some (vR 150), some (vI x1)]) (by decide) rfl (Nat.le_of_ble_eq_true rfl) ?_
  exact SX11_queues_0 x1 f h
theorem dX11_line_0 : decode cX11_line 0 = .ok (.aload_n 0, 1) := by decide +kernel
theorem dX11_line_1 : decode cX11_line 1 = .ok (.iconst 0, 1) := by decide +kernel
theorem dX11_line_2 : decode cX11_line 2 = .ok (.putfield 98, 3) := by decide +kernel
theorem dX11_line_5 : decode cX11_line 5 = .ok (.aload_n 0, 1) := by decide +kernel
theorem dX11_line_6 : decode cX11_line 6 = .ok (.invokevirtual 272, 3) := by decide +kernel
theorem dX11_line_9 : decode cX11_line 9 = .ok (.ifCond .ne 6, 3) := by decide +kernel
theorem dX11_line_15 : decode cX11_line 15 = .ok (.aload_n 0, 1) := by decide +kernel
theorem dX11_line_16 : decode cX11_line 16 = .ok (.invokevirtual 399, 3) := by decide +kernel
theorem dX11_line_19 : decode cX11_line 19 = .ok (.aload_n 0, 1) := by decide +kernel
theorem dX11_line_20 : decode cX11_line 20 = .ok (.getfield 387, 3) := by decide +kernel
theorem dX11_line_23 : decode cX11_line 23 = .ok (.ireturn, 1) := by decide +kernel
theorem dX11_line_12 : decode cX11_line 12 = .ok (.bipush (-2), 2) := by decide +kernel
theorem dX11_line_14 : decode cX11_line 14 = .ok (.ireturn, 1) := by decide +kernel
def FX11_line_0   (f : Mm) : Option (Int × Mm) := (b2 (FX11_isBridge (up f 150 0 0)) fun y1 f1 => (if y1 = 0 then some ((-2), f1) else ((FX11_laysOrders f1).bind fun f2 => some ((f2 150 42), f2))))
set_option maxHeartbeats 4000000 in
set_option maxRecDepth 100000 in
theorem SX11_line_0 {G : GT} {l : Launch} {Q : Option AV → Mem → Prop}   (f : Mm) (h : OkI Q (FX11_line_0   f)) : Ev G l MX11_line (Rm 13 0 0) (ZM G Q 0 0) 0 0 0 [some (vR 150)] [] (SH, RF, f) := by
  unfold FX11_line_0 at h
  refine ev_aload_n (i := 0) dX11_line_0 rfl rfl ?_
  refine ev_iconst dX11_line_1 (r32c rfl) ?_
  refine ev_putI dX11_line_2 fl_X11_98 sh_150 (by decide) (by decide) ?_
  refine ev_aload_n (i := 0) dX11_line_5 rfl rfl ?_
  refine ev_cVI (b := 150) (av := []) (S := []) (fun q => q) h dX11_line_6 (fun Q' q => TX11_isBridge _ q) kvX11_isBridge ml_X11_272 sh_150 rfl (RRc (by decide) (by decide)) (Nat.le_of_ble_eq_true rfl) ⟨Nat.le_of_ble_eq_true rfl, Nat.le_of_ble_eq_true rfl⟩ (fun y1 f1 h => ?_)
  refine ev_if_ne (tgt := 15) dX11_line_9 (by decide) (fun c3 => ?_) (fun c3 => ?_)
  · rw [if_neg c3] at h
    refine ev_aload_n (i := 0) dX11_line_15 rfl rfl ?_
    refine ev_cVV (b := 150) (av := []) (S := []) (fun q => q) h dX11_line_16 (fun Q' q => TX11_laysOrders _ q) kvX11_laysOrders ml_X11_399 sh_150 rfl (RRc (by decide) (by decide)) (Nat.le_of_ble_eq_true rfl) ⟨Nat.le_of_ble_eq_true rfl, Nat.le_of_ble_eq_true rfl⟩ (fun f2 h => ?_)
    refine ev_aload_n (i := 0) dX11_line_19 rfl rfl ?_
    refine ex_getI (x := (f2 150 42)) dX11_line_20 fl_X11_387 sh_150 (by decide) (by decide) rfl ?_
    exact ev_iret rfl dX11_line_23 h
  · rw [if_pos c3] at h
    refine ev_bipush (v := (-2)) dX11_line_12 (r32c rfl) (by decide) ?_
    exact ev_iret rfl dX11_line_14 h
def FX11_line  (f : Mm) : Option (Int × Mm) := FX11_line_0  f
set_option maxRecDepth 100000 in
theorem TX11_line {G : GT} {l : Launch} {Q : Option AV → Mem → Prop}  (f : Mm) (h : OkI Q (FX11_line  f)) : Ret G l MX11_line (13) 0 0 [vR 150] (SH, RF, f) Q := by
  refine ret_of (L := [some (vR 150)]) (by decide) rfl (Nat.le_of_ble_eq_true rfl) ?_
  exact SX11_line_0  f h
theorem dX11_whyNot_46 : decode cX11_whyNot 46 = .ok (.iload_n 2, 1) := by decide +kernel
theorem dX11_whyNot_47 : decode cX11_whyNot 47 = .ok (.aload_n 0, 1) := by decide +kernel
theorem dX11_whyNot_48 : decode cX11_whyNot 48 = .ok (.getfield 13, 3) := by decide +kernel
theorem dX11_whyNot_51 : decode cX11_whyNot 51 = .ok (.iload_n 1, 1) := by decide +kernel
theorem dX11_whyNot_52 : decode cX11_whyNot 52 = .ok (.iaload, 1) := by decide +kernel
theorem dX11_whyNot_53 : decode cX11_whyNot 53 = .ok (.if_icmp .ge 53, 3) := by decide +kernel
theorem dX11_whyNot_106 : decode cX11_whyNot 106 = .ok (.iconst 0, 1) := by decide +kernel
theorem dX11_whyNot_107 : decode cX11_whyNot 107 = .ok (.ireturn, 1) := by decide +kernel
theorem dX11_whyNot_56 : decode cX11_whyNot 56 = .ok (.aload_n 0, 1) := by decide +kernel
theorem dX11_whyNot_57 : decode cX11_whyNot 57 = .ok (.aload_n 0, 1) := by decide +kernel
theorem dX11_whyNot_58 : decode cX11_whyNot 58 = .ok (.getfield 16, 3) := by decide +kernel
theorem dX11_whyNot_61 : decode cX11_whyNot 61 = .ok (.bipush 60, 2) := by decide +kernel
theorem dX11_whyNot_63 : decode cX11_whyNot 63 = .ok (.iload_n 1, 1) := by decide +kernel
theorem dX11_whyNot_64 : decode cX11_whyNot 64 = .ok (.imul, 1) := by decide +kernel
theorem dX11_whyNot_65 : decode cX11_whyNot 65 = .ok (.iload_n 2, 1) := by decide +kernel
theorem dX11_whyNot_66 : decode cX11_whyNot 66 = .ok (.iadd, 1) := by decide +kernel
theorem dX11_whyNot_67 : decode cX11_whyNot 67 = .ok (.laload, 1) := by decide +kernel
theorem dX11_whyNot_68 : decode cX11_whyNot 68 = .ok (.invokevirtual 324, 3) := by decide +kernel
theorem dX11_whyNot_71 : decode cX11_whyNot 71 = .ok (.ifCond .eq 26, 3) := by decide +kernel
theorem dX11_whyNot_97 : decode cX11_whyNot 97 = .ok (.bipush (-2), 2) := by decide +kernel
theorem dX11_whyNot_99 : decode cX11_whyNot 99 = .ok (.ireturn, 1) := by decide +kernel
theorem dX11_whyNot_74 : decode cX11_whyNot 74 = .ok (.aload_n 0, 1) := by decide +kernel
theorem dX11_whyNot_75 : decode cX11_whyNot 75 = .ok (.getfield 16, 3) := by decide +kernel
theorem dX11_whyNot_78 : decode cX11_whyNot 78 = .ok (.bipush 60, 2) := by decide +kernel
theorem dX11_whyNot_80 : decode cX11_whyNot 80 = .ok (.iload_n 1, 1) := by decide +kernel
theorem dX11_whyNot_81 : decode cX11_whyNot 81 = .ok (.imul, 1) := by decide +kernel
theorem dX11_whyNot_82 : decode cX11_whyNot 82 = .ok (.iload_n 2, 1) := by decide +kernel
theorem dX11_whyNot_83 : decode cX11_whyNot 83 = .ok (.iadd, 1) := by decide +kernel
theorem dX11_whyNot_84 : decode cX11_whyNot 84 = .ok (.iconst 1, 1) := by decide +kernel
theorem dX11_whyNot_85 : decode cX11_whyNot 85 = .ok (.iadd, 1) := by decide +kernel
theorem dX11_whyNot_86 : decode cX11_whyNot 86 = .ok (.laload, 1) := by decide +kernel
theorem dX11_whyNot_87 : decode cX11_whyNot 87 = .ok (.lconst 0, 1) := by decide +kernel
theorem dX11_whyNot_88 : decode cX11_whyNot 88 = .ok (.ldc2_w 275, 3) := by decide +kernel
theorem dX11_whyNot_91 : decode cX11_whyNot 91 = .ok (.invokestatic 103, 3) := by decide +kernel
theorem dX11_whyNot_94 : decode cX11_whyNot 94 = .ok (.ifCond .ne 6, 3) := by decide +kernel
theorem dX11_whyNot_100 : decode cX11_whyNot 100 = .ok (.iinc 2 2, 3) := by decide +kernel
theorem dX11_whyNot_103 : decode cX11_whyNot 103 = .ok (.goto (-57), 3) := by decide +kernel
theorem dX11_whyNot_0 : decode cX11_whyNot 0 = .ok (.iload_n 1, 1) := by decide +kernel
theorem dX11_whyNot_1 : decode cX11_whyNot 1 = .ok (.invokestatic 107, 3) := by decide +kernel
theorem dX11_whyNot_4 : decode cX11_whyNot 4 = .ok (.ifCond .eq 10, 3) := by decide +kernel
theorem dX11_whyNot_14 : decode cX11_whyNot 14 = .ok (.bipush (-2), 2) := by decide +kernel
theorem dX11_whyNot_16 : decode cX11_whyNot 16 = .ok (.ireturn, 1) := by decide +kernel
theorem dX11_whyNot_7 : decode cX11_whyNot 7 = .ok (.aload_n 0, 1) := by decide +kernel
theorem dX11_whyNot_8 : decode cX11_whyNot 8 = .ok (.invokevirtual 272, 3) := by decide +kernel
theorem dX11_whyNot_11 : decode cX11_whyNot 11 = .ok (.ifCond .ne 6, 3) := by decide +kernel
theorem dX11_whyNot_17 : decode cX11_whyNot 17 = .ok (.aload_n 0, 1) := by decide +kernel
theorem dX11_whyNot_18 : decode cX11_whyNot 18 = .ok (.getfield 7, 3) := by decide +kernel
theorem dX11_whyNot_21 : decode cX11_whyNot 21 = .ok (.iload_n 1, 1) := by decide +kernel
theorem dX11_whyNot_22 : decode cX11_whyNot 22 = .ok (.iaload, 1) := by decide +kernel
theorem dX11_whyNot_23 : decode cX11_whyNot 23 = .ok (.iconst (-1), 1) := by decide +kernel
theorem dX11_whyNot_24 : decode cX11_whyNot 24 = .ok (.if_icmp .ne 6, 3) := by decide +kernel
theorem dX11_whyNot_30 : decode cX11_whyNot 30 = .ok (.aload_n 0, 1) := by decide +kernel
theorem dX11_whyNot_31 : decode cX11_whyNot 31 = .ok (.getfield 13, 3) := by decide +kernel
theorem dX11_whyNot_34 : decode cX11_whyNot 34 = .ok (.iload_n 1, 1) := by decide +kernel
theorem dX11_whyNot_35 : decode cX11_whyNot 35 = .ok (.iaload, 1) := by decide +kernel
theorem dX11_whyNot_36 : decode cX11_whyNot 36 = .ok (.iconst 2, 1) := by decide +kernel
theorem dX11_whyNot_37 : decode cX11_whyNot 37 = .ok (.irem, 1) := by decide +kernel
theorem dX11_whyNot_38 : decode cX11_whyNot 38 = .ok (.ifCond .eq 6, 3) := by decide +kernel
theorem dX11_whyNot_44 : decode cX11_whyNot 44 = .ok (.iconst 0, 1) := by decide +kernel
theorem dX11_whyNot_45 : decode cX11_whyNot 45 = .ok (.istore_n 2, 1) := by decide +kernel
theorem dX11_whyNot_41 : decode cX11_whyNot 41 = .ok (.bipush (-2), 2) := by decide +kernel
theorem dX11_whyNot_43 : decode cX11_whyNot 43 = .ok (.ireturn, 1) := by decide +kernel
theorem dX11_whyNot_27 : decode cX11_whyNot 27 = .ok (.bipush (-6), 2) := by decide +kernel
theorem dX11_whyNot_29 : decode cX11_whyNot 29 = .ok (.ireturn, 1) := by decide +kernel
def FX11_whyNot_46  : Nat → Int → Int → Mm → Option (Int × Mm)
  | 0, _, _, _ => none
  | n + 1, x1, x2, f => (if 0 ≤ x1 ∧ x1 < 4 then (if (f 152 x1.toNat) ≤ x2 then some (0, f) else (if 0 ≤ (w32 ((w32 (60 * x1)) + x2)) ∧ (w32 ((w32 (60 * x1)) + x2)) < 240 then (b2 (FX11_isDay (f 153 (w32 ((w32 (60 * x1)) + x2)).toNat) f) fun y3 f3 => (if y3 = 0 then some ((-2), f3) else (if 0 ≤ (w32 ((w32 ((w32 (60 * x1)) + x2)) + 1)) ∧ (w32 ((w32 ((w32 (60 * x1)) + x2)) + 1)) < 240 then (b2 (FX11_in (f3 153 (w32 ((w32 ((w32 (60 * x1)) + x2)) + 1)).toNat) 0 60 f3) fun y5 f5 => (if y5 = 0 then some ((-2), f5) else FX11_whyNot_46 n x1 (w32 (x2 + 2)) f5)) else none))) else none)) else none)
set_option maxHeartbeats 4000000 in
set_option maxRecDepth 100000 in
theorem SX11_whyNot_46 {G : GT} {l : Launch} {Q : Option AV → Mem → Prop}  : ∀ (n : Nat) (x1 : Int) (x2 : Int) (f : Mm), OkI Q (FX11_whyNot_46  n x1 x2 f) → Ev G l MX11_whyNot (Rm 3 0 0) (ZM G Q 0 0) 0 0 46 [some (vR 150), some (vI x1), some (vI x2)] [] (SH, RF, f) := by
  intro n
  induction n with
  | zero => intro x1 x2 f h; exact absurd h (by rw [FX11_whyNot_46]; exact fun q => q)
  | succ n ih =>
    intro x1 x2 f h
    rw [FX11_whyNot_46] at h
    refine ev_iload_n (i := 2) dX11_whyNot_46 rfl rfl ?_
    refine ev_aload_n (i := 0) dX11_whyNot_47 rfl rfl ?_
    refine ev_getR dX11_whyNot_48 fl_X11_13 sh_150 (by decide) (by decide) rf_150_2 ?_
    refine ev_iload_n (i := 1) dX11_whyNot_51 rfl rfl ?_
    by_cases g1 : 0 ≤ x1 ∧ x1 < 4
    · rw [if_pos g1] at h
      refine ex_iald (x := (f 152 x1.toNat)) dX11_whyNot_52 sh_152 g1.1 g1.2 rfl ?_
      refine ev_icmp_ge (tgt := 106) dX11_whyNot_53 (by decide) (fun c8 => ?_) (fun c8 => ?_)
      · rw [if_pos c8] at h
        refine ev_iconst dX11_whyNot_106 (r32c rfl) ?_
        exact ev_iret rfl dX11_whyNot_107 h
      · rw [if_neg c8] at h
        refine ev_aload_n (i := 0) dX11_whyNot_56 rfl rfl ?_
        refine ev_aload_n (i := 0) dX11_whyNot_57 rfl rfl ?_
        refine ev_getR dX11_whyNot_58 fl_X11_16 sh_150 (by decide) (by decide) rf_150_3 ?_
        refine ev_bipush (v := 60) dX11_whyNot_61 (r32c rfl) (by decide) ?_
        refine ev_iload_n (i := 1) dX11_whyNot_63 rfl rfl ?_
        refine ev_imul dX11_whyNot_64 ?_
        refine ev_iload_n (i := 2) dX11_whyNot_65 rfl rfl ?_
        refine ev_iadd dX11_whyNot_66 ?_
        by_cases g2 : 0 ≤ (w32 ((w32 (60 * x1)) + x2)) ∧ (w32 ((w32 (60 * x1)) + x2)) < 240
        · rw [if_pos g2] at h
          refine ex_lald (x := (f 153 (w32 ((w32 (60 * x1)) + x2)).toNat)) dX11_whyNot_67 sh_153 g2.1 g2.2 rfl ?_
          refine ev_cVI (b := 150) (av := [vJ (f 153 (w32 ((w32 (60 * x1)) + x2)).toNat)]) (S := []) (fun q => q) h dX11_whyNot_68 (fun Q' q => TX11_isDay (f 153 (w32 ((w32 (60 * x1)) + x2)).toNat) _ q) kvX11_isDay ml_X11_324 sh_150 rfl (RRc (by decide) (by decide)) (Nat.le_of_ble_eq_true rfl) ⟨Nat.le_of_ble_eq_true rfl, Nat.le_of_ble_eq_true rfl⟩ (fun y3 f3 h => ?_)
          refine ev_if_eq (tgt := 97) dX11_whyNot_71 (by decide) (fun c7 => ?_) (fun c7 => ?_)
          · rw [if_pos c7] at h
            refine ev_bipush (v := (-2)) dX11_whyNot_97 (r32c rfl) (by decide) ?_
            exact ev_iret rfl dX11_whyNot_99 h
          · rw [if_neg c7] at h
            refine ev_aload_n (i := 0) dX11_whyNot_74 rfl rfl ?_
            refine ev_getR dX11_whyNot_75 fl_X11_16 sh_150 (by decide) (by decide) rf_150_3 ?_
            refine ev_bipush (v := 60) dX11_whyNot_78 (r32c rfl) (by decide) ?_
            refine ev_iload_n (i := 1) dX11_whyNot_80 rfl rfl ?_
            refine ev_imul dX11_whyNot_81 ?_
            refine ev_iload_n (i := 2) dX11_whyNot_82 rfl rfl ?_
            refine ev_iadd dX11_whyNot_83 ?_
            refine ev_iconst dX11_whyNot_84 (r32c rfl) ?_
            refine ev_iadd dX11_whyNot_85 ?_
            by_cases g4 : 0 ≤ (w32 ((w32 ((w32 (60 * x1)) + x2)) + 1)) ∧ (w32 ((w32 ((w32 (60 * x1)) + x2)) + 1)) < 240
            · rw [if_pos g4] at h
              refine ex_lald (x := (f3 153 (w32 ((w32 ((w32 (60 * x1)) + x2)) + 1)).toNat)) dX11_whyNot_86 sh_153 g4.1 g4.2 rfl ?_
              refine ev_lconst (v := 0) dX11_whyNot_87 (r64c rfl) (by decide) ?_
              refine ev_ldc2 (v := 60) dX11_whyNot_88 (r64c rfl) kc_X11_275 ?_
              refine ev_cSI (av := [vJ (f3 153 (w32 ((w32 ((w32 (60 * x1)) + x2)) + 1)).toNat), vJ 0, vJ 60]) (S := []) (fun q => q) h dX11_whyNot_91 (fun Q' q => TX11_in (f3 153 (w32 ((w32 ((w32 (60 * x1)) + x2)) + 1)).toNat) 0 60 _ q) ksX11_in ml_X11_103 rfl (RRc (by decide) (by decide)) (Nat.le_of_ble_eq_true rfl) ⟨Nat.le_of_ble_eq_true rfl, Nat.le_of_ble_eq_true rfl⟩ (fun y5 f5 h => ?_)
              refine ev_if_ne (tgt := 100) dX11_whyNot_94 (by decide) (fun c6 => ?_) (fun c6 => ?_)
              · rw [if_neg c6] at h
                refine ev_iinc (L' := [some (vR 150), some (vI x1), some (vI (w32 (x2 + 2)))]) dX11_whyNot_100 rfl (by decide) rfl ?_
                refine ev_goto (tgt := 46) dX11_whyNot_103 (by decide) ?_
                exact ih x1 (w32 (x2 + 2)) _ h
              · rw [if_pos c6] at h
                refine ev_bipush (v := (-2)) dX11_whyNot_97 (r32c rfl) (by decide) ?_
                exact ev_iret rfl dX11_whyNot_99 h
            · rw [if_neg g4] at h; exact h.elim
        · rw [if_neg g2] at h; exact h.elim
    · rw [if_neg g1] at h; exact h.elim
def FX11_whyNot_0  (x1 : Int) (f : Mm) : Option (Int × Mm) := (b2 (FX11_isSlot x1 f) fun y1 f1 => (if y1 = 0 then some ((-2), f1) else (b2 (FX11_isBridge f1) fun y2 f2 => (if y2 = 0 then some ((-2), f2) else (if 0 ≤ x1 ∧ x1 < 4 then (if (f2 151 x1.toNat) = (-1) then some ((-6), f2) else (if 0 ≤ x1 ∧ x1 < 4 then (if (iRem (f2 152 x1.toNat) 2) = 0 then FX11_whyNot_46 fu x1 0 f2 else some ((-2), f2)) else none)) else none)))))
set_option maxHeartbeats 4000000 in
set_option maxRecDepth 100000 in
theorem SX11_whyNot_0 {G : GT} {l : Launch} {Q : Option AV → Mem → Prop}  (x1 : Int) (f : Mm) (h : OkI Q (FX11_whyNot_0  x1 f)) : Ev G l MX11_whyNot (Rm 3 0 0) (ZM G Q 0 0) 0 0 0 [some (vR 150), some (vI x1), none] [] (SH, RF, f) := by
  unfold FX11_whyNot_0 at h
  refine ev_iload_n (i := 1) dX11_whyNot_0 rfl rfl ?_
  refine ev_cSI (av := [vI x1]) (S := []) (fun q => q) h dX11_whyNot_1 (fun Q' q => TX11_isSlot x1 _ q) ksX11_isSlot ml_X11_107 rfl (RRc (by decide) (by decide)) (Nat.le_of_ble_eq_true rfl) ⟨Nat.le_of_ble_eq_true rfl, Nat.le_of_ble_eq_true rfl⟩ (fun y1 f1 h => ?_)
  refine ev_if_eq (tgt := 14) dX11_whyNot_4 (by decide) (fun c8 => ?_) (fun c8 => ?_)
  · rw [if_pos c8] at h
    refine ev_bipush (v := (-2)) dX11_whyNot_14 (r32c rfl) (by decide) ?_
    exact ev_iret rfl dX11_whyNot_16 h
  · rw [if_neg c8] at h
    refine ev_aload_n (i := 0) dX11_whyNot_7 rfl rfl ?_
    refine ev_cVI (b := 150) (av := []) (S := []) (fun q => q) h dX11_whyNot_8 (fun Q' q => TX11_isBridge _ q) kvX11_isBridge ml_X11_272 sh_150 rfl (RRc (by decide) (by decide)) (Nat.le_of_ble_eq_true rfl) ⟨Nat.le_of_ble_eq_true rfl, Nat.le_of_ble_eq_true rfl⟩ (fun y2 f2 h => ?_)
    refine ev_if_ne (tgt := 17) dX11_whyNot_11 (by decide) (fun c7 => ?_) (fun c7 => ?_)
    · rw [if_neg c7] at h
      refine ev_aload_n (i := 0) dX11_whyNot_17 rfl rfl ?_
      refine ev_getR dX11_whyNot_18 fl_X11_7 sh_150 (by decide) (by decide) rf_150_1 ?_
      refine ev_iload_n (i := 1) dX11_whyNot_21 rfl rfl ?_
      by_cases g3 : 0 ≤ x1 ∧ x1 < 4
      · rw [if_pos g3] at h
        refine ex_iald (x := (f2 151 x1.toNat)) dX11_whyNot_22 sh_151 g3.1 g3.2 rfl ?_
        refine ev_iconst dX11_whyNot_23 (r32c rfl) ?_
        refine ev_icmp_ne (tgt := 30) dX11_whyNot_24 (by decide) (fun c6 => ?_) (fun c6 => ?_)
        · rw [if_neg c6] at h
          refine ev_aload_n (i := 0) dX11_whyNot_30 rfl rfl ?_
          refine ev_getR dX11_whyNot_31 fl_X11_13 sh_150 (by decide) (by decide) rf_150_2 ?_
          refine ev_iload_n (i := 1) dX11_whyNot_34 rfl rfl ?_
          by_cases g4 : 0 ≤ x1 ∧ x1 < 4
          · rw [if_pos g4] at h
            refine ex_iald (x := (f2 152 x1.toNat)) dX11_whyNot_35 sh_152 g4.1 g4.2 rfl ?_
            refine ev_iconst dX11_whyNot_36 (r32c rfl) ?_
            refine ev_irem dX11_whyNot_37 (by decide) ?_
            refine ev_if_eq (tgt := 44) dX11_whyNot_38 (by decide) (fun c5 => ?_) (fun c5 => ?_)
            · rw [if_pos c5] at h
              refine ev_iconst dX11_whyNot_44 (r32c rfl) ?_
              refine ev_istore_n (i := 2) (L' := [some (vR 150), some (vI x1), some (vI 0)]) dX11_whyNot_45 rfl (by decide) rfl ?_
              exact SX11_whyNot_46  fu x1 0 _ h
            · rw [if_neg c5] at h
              refine ev_bipush (v := (-2)) dX11_whyNot_41 (r32c rfl) (by decide) ?_
              exact ev_iret rfl dX11_whyNot_43 h
          · rw [if_neg g4] at h; exact h.elim
        · rw [if_pos c6] at h
          refine ev_bipush (v := (-6)) dX11_whyNot_27 (r32c rfl) (by decide) ?_
          exact ev_iret rfl dX11_whyNot_29 h
      · rw [if_neg g3] at h; exact h.elim
    · rw [if_pos c7] at h
      refine ev_bipush (v := (-2)) dX11_whyNot_14 (r32c rfl) (by decide) ?_
      exact ev_iret rfl dX11_whyNot_16 h
def FX11_whyNot (x1 : Int) (f : Mm) : Option (Int × Mm) := FX11_whyNot_0 x1 f
set_option maxRecDepth 100000 in
theorem TX11_whyNot {G : GT} {l : Launch} {Q : Option AV → Mem → Prop} (x1 : Int) (f : Mm) (h : OkI Q (FX11_whyNot x1 f)) : Ret G l MX11_whyNot (3) 0 0 [vR 150, vI x1] (SH, RF, f) Q := by
  refine ret_of (L := [some (vR 150), some (vI x1), none]) (by decide) rfl (Nat.le_of_ble_eq_true rfl) ?_
  exact SX11_whyNot_0 x1 f h
theorem dX11_isSo_2 : decode cX11_isSo 2 = .ok (.iload_n 2, 1) := by decide +kernel
theorem dX11_isSo_3 : decode cX11_isSo 3 = .ok (.aload_n 0, 1) := by decide +kernel
theorem dX11_isSo_4 : decode cX11_isSo 4 = .ok (.getfield 13, 3) := by decide +kernel
theorem dX11_isSo_7 : decode cX11_isSo 7 = .ok (.iload_n 1, 1) := by decide +kernel
theorem dX11_isSo_8 : decode cX11_isSo 8 = .ok (.iaload, 1) := by decide +kernel
theorem dX11_isSo_9 : decode cX11_isSo 9 = .ok (.if_icmp .ge 46, 3) := by decide +kernel
theorem dX11_isSo_55 : decode cX11_isSo 55 = .ok (.iconst 1, 1) := by decide +kernel
theorem dX11_isSo_56 : decode cX11_isSo 56 = .ok (.ireturn, 1) := by decide +kernel
theorem dX11_isSo_12 : decode cX11_isSo 12 = .ok (.aload_n 0, 1) := by decide +kernel
theorem dX11_isSo_13 : decode cX11_isSo 13 = .ok (.getfield 56, 3) := by decide +kernel
theorem dX11_isSo_16 : decode cX11_isSo 16 = .ok (.aload_n 0, 1) := by decide +kernel
theorem dX11_isSo_17 : decode cX11_isSo 17 = .ok (.getfield 16, 3) := by decide +kernel
theorem dX11_isSo_20 : decode cX11_isSo 20 = .ok (.bipush 60, 2) := by decide +kernel
theorem dX11_isSo_22 : decode cX11_isSo 22 = .ok (.iload_n 1, 1) := by decide +kernel
theorem dX11_isSo_23 : decode cX11_isSo 23 = .ok (.imul, 1) := by decide +kernel
theorem dX11_isSo_24 : decode cX11_isSo 24 = .ok (.iload_n 2, 1) := by decide +kernel
theorem dX11_isSo_25 : decode cX11_isSo 25 = .ok (.iadd, 1) := by decide +kernel
theorem dX11_isSo_26 : decode cX11_isSo 26 = .ok (.laload, 1) := by decide +kernel
theorem dX11_isSo_27 : decode cX11_isSo 27 = .ok (.l2i, 1) := by decide +kernel
theorem dX11_isSo_28 : decode cX11_isSo 28 = .ok (.iaload, 1) := by decide +kernel
theorem dX11_isSo_29 : decode cX11_isSo 29 = .ok (.i2l, 1) := by decide +kernel
theorem dX11_isSo_30 : decode cX11_isSo 30 = .ok (.aload_n 0, 1) := by decide +kernel
theorem dX11_isSo_31 : decode cX11_isSo 31 = .ok (.getfield 16, 3) := by decide +kernel
theorem dX11_isSo_34 : decode cX11_isSo 34 = .ok (.bipush 60, 2) := by decide +kernel
theorem dX11_isSo_36 : decode cX11_isSo 36 = .ok (.iload_n 1, 1) := by decide +kernel
theorem dX11_isSo_37 : decode cX11_isSo 37 = .ok (.imul, 1) := by decide +kernel
theorem dX11_isSo_38 : decode cX11_isSo 38 = .ok (.iload_n 2, 1) := by decide +kernel
theorem dX11_isSo_39 : decode cX11_isSo 39 = .ok (.iadd, 1) := by decide +kernel
theorem dX11_isSo_40 : decode cX11_isSo 40 = .ok (.iconst 1, 1) := by decide +kernel
theorem dX11_isSo_41 : decode cX11_isSo 41 = .ok (.iadd, 1) := by decide +kernel
theorem dX11_isSo_42 : decode cX11_isSo 42 = .ok (.laload, 1) := by decide +kernel
theorem dX11_isSo_43 : decode cX11_isSo 43 = .ok (.lcmp, 1) := by decide +kernel
theorem dX11_isSo_44 : decode cX11_isSo 44 = .ok (.ifCond .eq 5, 3) := by decide +kernel
theorem dX11_isSo_49 : decode cX11_isSo 49 = .ok (.iinc 2 2, 3) := by decide +kernel
theorem dX11_isSo_52 : decode cX11_isSo 52 = .ok (.goto (-50), 3) := by decide +kernel
theorem dX11_isSo_47 : decode cX11_isSo 47 = .ok (.iconst 0, 1) := by decide +kernel
theorem dX11_isSo_48 : decode cX11_isSo 48 = .ok (.ireturn, 1) := by decide +kernel
theorem dX11_isSo_0 : decode cX11_isSo 0 = .ok (.iconst 0, 1) := by decide +kernel
theorem dX11_isSo_1 : decode cX11_isSo 1 = .ok (.istore_n 2, 1) := by decide +kernel
def FX11_isSo_2  : Nat → Int → Int → Mm → Option (Int × Mm)
  | 0, _, _, _ => none
  | n + 1, x1, x2, f => (if 0 ≤ x1 ∧ x1 < 4 then (if (f 152 x1.toNat) ≤ x2 then some (1, f) else (if 0 ≤ (w32 ((w32 (60 * x1)) + x2)) ∧ (w32 ((w32 (60 * x1)) + x2)) < 240 then (if 0 ≤ (w32 (f 153 (w32 ((w32 (60 * x1)) + x2)).toNat)) ∧ (w32 (f 153 (w32 ((w32 (60 * x1)) + x2)).toNat)) < 6 then (if 0 ≤ (w32 ((w32 ((w32 (60 * x1)) + x2)) + 1)) ∧ (w32 ((w32 ((w32 (60 * x1)) + x2)) + 1)) < 240 then (if (cmp3 (f 164 (w32 (f 153 (w32 ((w32 (60 * x1)) + x2)).toNat)).toNat) (f 153 (w32 ((w32 ((w32 (60 * x1)) + x2)) + 1)).toNat)) = 0 then FX11_isSo_2 n x1 (w32 (x2 + 2)) f else some (0, f)) else none) else none) else none)) else none)
set_option maxHeartbeats 4000000 in
set_option maxRecDepth 100000 in
theorem SX11_isSo_2 {G : GT} {l : Launch} {Q : Option AV → Mem → Prop}  : ∀ (n : Nat) (x1 : Int) (x2 : Int) (f : Mm), OkI Q (FX11_isSo_2  n x1 x2 f) → Ev G l MX11_isSo (Rm 1 0 0) (ZM G Q 0 0) 0 0 2 [some (vR 150), some (vI x1), some (vI x2)] [] (SH, RF, f) := by
  intro n
  induction n with
  | zero => intro x1 x2 f h; exact absurd h (by rw [FX11_isSo_2]; exact fun q => q)
  | succ n ih =>
    intro x1 x2 f h
    rw [FX11_isSo_2] at h
    refine ev_iload_n (i := 2) dX11_isSo_2 rfl rfl ?_
    refine ev_aload_n (i := 0) dX11_isSo_3 rfl rfl ?_
    refine ev_getR dX11_isSo_4 fl_X11_13 sh_150 (by decide) (by decide) rf_150_2 ?_
    refine ev_iload_n (i := 1) dX11_isSo_7 rfl rfl ?_
    by_cases g1 : 0 ≤ x1 ∧ x1 < 4
    · rw [if_pos g1] at h
      refine ex_iald (x := (f 152 x1.toNat)) dX11_isSo_8 sh_152 g1.1 g1.2 rfl ?_
      refine ev_icmp_ge (tgt := 55) dX11_isSo_9 (by decide) (fun c6 => ?_) (fun c6 => ?_)
      · rw [if_pos c6] at h
        refine ev_iconst dX11_isSo_55 (r32c rfl) ?_
        exact ev_zret rfl (by decide) dX11_isSo_56 h
      · rw [if_neg c6] at h
        refine ev_aload_n (i := 0) dX11_isSo_12 rfl rfl ?_
        refine ev_getR dX11_isSo_13 fl_X11_56 sh_150 (by decide) (by decide) rf_150_26 ?_
        refine ev_aload_n (i := 0) dX11_isSo_16 rfl rfl ?_
        refine ev_getR dX11_isSo_17 fl_X11_16 sh_150 (by decide) (by decide) rf_150_3 ?_
        refine ev_bipush (v := 60) dX11_isSo_20 (r32c rfl) (by decide) ?_
        refine ev_iload_n (i := 1) dX11_isSo_22 rfl rfl ?_
        refine ev_imul dX11_isSo_23 ?_
        refine ev_iload_n (i := 2) dX11_isSo_24 rfl rfl ?_
        refine ev_iadd dX11_isSo_25 ?_
        by_cases g2 : 0 ≤ (w32 ((w32 (60 * x1)) + x2)) ∧ (w32 ((w32 (60 * x1)) + x2)) < 240
        · rw [if_pos g2] at h
          refine ex_lald (x := (f 153 (w32 ((w32 (60 * x1)) + x2)).toNat)) dX11_isSo_26 sh_153 g2.1 g2.2 rfl ?_
          refine ev_l2i dX11_isSo_27 ?_
          by_cases g3 : 0 ≤ (w32 (f 153 (w32 ((w32 (60 * x1)) + x2)).toNat)) ∧ (w32 (f 153 (w32 ((w32 (60 * x1)) + x2)).toNat)) < 6
          · rw [if_pos g3] at h
            refine ex_iald (x := (f 164 (w32 (f 153 (w32 ((w32 (60 * x1)) + x2)).toNat)).toNat)) dX11_isSo_28 sh_164 g3.1 g3.2 rfl ?_
            refine ev_i2l dX11_isSo_29 ?_
            refine ev_aload_n (i := 0) dX11_isSo_30 rfl rfl ?_
            refine ev_getR dX11_isSo_31 fl_X11_16 sh_150 (by decide) (by decide) rf_150_3 ?_
            refine ev_bipush (v := 60) dX11_isSo_34 (r32c rfl) (by decide) ?_
            refine ev_iload_n (i := 1) dX11_isSo_36 rfl rfl ?_
            refine ev_imul dX11_isSo_37 ?_
            refine ev_iload_n (i := 2) dX11_isSo_38 rfl rfl ?_
            refine ev_iadd dX11_isSo_39 ?_
            refine ev_iconst dX11_isSo_40 (r32c rfl) ?_
            refine ev_iadd dX11_isSo_41 ?_
            by_cases g4 : 0 ≤ (w32 ((w32 ((w32 (60 * x1)) + x2)) + 1)) ∧ (w32 ((w32 ((w32 (60 * x1)) + x2)) + 1)) < 240
            · rw [if_pos g4] at h
              refine ex_lald (x := (f 153 (w32 ((w32 ((w32 (60 * x1)) + x2)) + 1)).toNat)) dX11_isSo_42 sh_153 g4.1 g4.2 rfl ?_
              refine ev_lcmp dX11_isSo_43 ?_
              refine ev_if_eq (tgt := 49) dX11_isSo_44 (by decide) (fun c5 => ?_) (fun c5 => ?_)
              · rw [if_pos c5] at h
                refine ev_iinc (L' := [some (vR 150), some (vI x1), some (vI (w32 (x2 + 2)))]) dX11_isSo_49 rfl (by decide) rfl ?_
                refine ev_goto (tgt := 2) dX11_isSo_52 (by decide) ?_
                exact ih x1 (w32 (x2 + 2)) _ h
              · rw [if_neg c5] at h
                refine ev_iconst dX11_isSo_47 (r32c rfl) ?_
                exact ev_zret rfl (by decide) dX11_isSo_48 h
            · rw [if_neg g4] at h; exact h.elim
          · rw [if_neg g3] at h; exact h.elim
        · rw [if_neg g2] at h; exact h.elim
    · rw [if_neg g1] at h; exact h.elim
def FX11_isSo_0  (x1 : Int) (f : Mm) : Option (Int × Mm) := FX11_isSo_2 fu x1 0 f
set_option maxHeartbeats 4000000 in
set_option maxRecDepth 100000 in
theorem SX11_isSo_0 {G : GT} {l : Launch} {Q : Option AV → Mem → Prop}  (x1 : Int) (f : Mm) (h : OkI Q (FX11_isSo_0  x1 f)) : Ev G l MX11_isSo (Rm 1 0 0) (ZM G Q 0 0) 0 0 0 [some (vR 150), some (vI x1), none] [] (SH, RF, f) := by
  unfold FX11_isSo_0 at h
  refine ev_iconst dX11_isSo_0 (r32c rfl) ?_
  refine ev_istore_n (i := 2) (L' := [some (vR 150), some (vI x1), some (vI 0)]) dX11_isSo_1 rfl (by decide) rfl ?_
  exact SX11_isSo_2  fu x1 0 _ h
def FX11_isSo (x1 : Int) (f : Mm) : Option (Int × Mm) := FX11_isSo_0 x1 f
set_option maxRecDepth 100000 in
theorem TX11_isSo {G : GT} {l : Launch} {Q : Option AV → Mem → Prop} (x1 : Int) (f : Mm) (h : OkI Q (FX11_isSo x1 f)) : Ret G l MX11_isSo (1) 0 0 [vR 150, vI x1] (SH, RF, f) Q := by
  refine ret_of (L := [some (vR 150), some (vI x1), none]) (by decide) rfl (Nat.le_of_ble_eq_true rfl) ?_
  exact SX11_isSo_0 x1 f h
theorem dX11_laysFits_193 : decode cX11_laysFits 193 = .ok (.iinc 3 1, 3) := by decide +kernel
theorem dX11_laysFits_196 : decode cX11_laysFits 196 = .ok (.goto (-153), 3) := by decide +kernel
theorem dX11_laysFits_187 : decode cX11_laysFits 187 = .ok (.iinc 4 1, 3) := by decide +kernel
theorem dX11_laysFits_190 : decode cX11_laysFits 190 = .ok (.goto (-134), 3) := by decide +kernel
theorem dX11_laysFits_184 : decode cX11_laysFits 184 = .ok (.putfield 411, 3) := by decide +kernel
theorem dX11_laysFits_110 : decode cX11_laysFits 110 = .ok (.aload_n 0, 1) := by decide +kernel
theorem dX11_laysFits_111 : decode cX11_laysFits 111 = .ok (.dup, 1) := by decide +kernel
theorem dX11_laysFits_112 : decode cX11_laysFits 112 = .ok (.getfield 402, 3) := by decide +kernel
theorem dX11_laysFits_115 : decode cX11_laysFits 115 = .ok (.iconst 1, 1) := by decide +kernel
theorem dX11_laysFits_116 : decode cX11_laysFits 116 = .ok (.iadd, 1) := by decide +kernel
theorem dX11_laysFits_117 : decode cX11_laysFits 117 = .ok (.putfield 402, 3) := by decide +kernel
theorem dX11_laysFits_120 : decode cX11_laysFits 120 = .ok (.aload_n 0, 1) := by decide +kernel
theorem dX11_laysFits_121 : decode cX11_laysFits 121 = .ok (.dup, 1) := by decide +kernel
theorem dX11_laysFits_122 : decode cX11_laysFits 122 = .ok (.getfield 405, 3) := by decide +kernel
theorem dX11_laysFits_125 : decode cX11_laysFits 125 = .ok (.iconst 1, 1) := by decide +kernel
theorem dX11_laysFits_126 : decode cX11_laysFits 126 = .ok (.iload_n 3, 1) := by decide +kernel
theorem dX11_laysFits_127 : decode cX11_laysFits 127 = .ok (.ishl, 1) := by decide +kernel
theorem dX11_laysFits_128 : decode cX11_laysFits 128 = .ok (.ior, 1) := by decide +kernel
theorem dX11_laysFits_129 : decode cX11_laysFits 129 = .ok (.putfield 405, 3) := by decide +kernel
theorem dX11_laysFits_132 : decode cX11_laysFits 132 = .ok (.aload_n 0, 1) := by decide +kernel
theorem dX11_laysFits_133 : decode cX11_laysFits 133 = .ok (.getfield 95, 3) := by decide +kernel
theorem dX11_laysFits_136 : decode cX11_laysFits 136 = .ok (.aload_n 0, 1) := by decide +kernel
theorem dX11_laysFits_137 : decode cX11_laysFits 137 = .ok (.getfield 56, 3) := by decide +kernel
theorem dX11_laysFits_140 : decode cX11_laysFits 140 = .ok (.iload_n 2, 1) := by decide +kernel
theorem dX11_laysFits_141 : decode cX11_laysFits 141 = .ok (.iaload, 1) := by decide +kernel
theorem dX11_laysFits_142 : decode cX11_laysFits 142 = .ok (.dup2, 1) := by decide +kernel
theorem dX11_laysFits_143 : decode cX11_laysFits 143 = .ok (.iaload, 1) := by decide +kernel
theorem dX11_laysFits_144 : decode cX11_laysFits 144 = .ok (.iconst 1, 1) := by decide +kernel
theorem dX11_laysFits_145 : decode cX11_laysFits 145 = .ok (.iadd, 1) := by decide +kernel
theorem dX11_laysFits_146 : decode cX11_laysFits 146 = .ok (.iastore, 1) := by decide +kernel
theorem dX11_laysFits_147 : decode cX11_laysFits 147 = .ok (.aload_n 0, 1) := by decide +kernel
theorem dX11_laysFits_148 : decode cX11_laysFits 148 = .ok (.aload_n 0, 1) := by decide +kernel
theorem dX11_laysFits_149 : decode cX11_laysFits 149 = .ok (.getfield 95, 3) := by decide +kernel
theorem dX11_laysFits_152 : decode cX11_laysFits 152 = .ok (.aload_n 0, 1) := by decide +kernel
theorem dX11_laysFits_153 : decode cX11_laysFits 153 = .ok (.getfield 56, 3) := by decide +kernel
theorem dX11_laysFits_156 : decode cX11_laysFits 156 = .ok (.iload_n 2, 1) := by decide +kernel
theorem dX11_laysFits_157 : decode cX11_laysFits 157 = .ok (.iaload, 1) := by decide +kernel
theorem dX11_laysFits_158 : decode cX11_laysFits 158 = .ok (.iaload, 1) := by decide +kernel
theorem dX11_laysFits_159 : decode cX11_laysFits 159 = .ok (.aload_n 0, 1) := by decide +kernel
theorem dX11_laysFits_160 : decode cX11_laysFits 160 = .ok (.getfield 411, 3) := by decide +kernel
theorem dX11_laysFits_163 : decode cX11_laysFits 163 = .ok (.if_icmp .le 17, 3) := by decide +kernel
theorem dX11_laysFits_180 : decode cX11_laysFits 180 = .ok (.aload_n 0, 1) := by decide +kernel
theorem dX11_laysFits_181 : decode cX11_laysFits 181 = .ok (.getfield 411, 3) := by decide +kernel
theorem dX11_laysFits_166 : decode cX11_laysFits 166 = .ok (.aload_n 0, 1) := by decide +kernel
theorem dX11_laysFits_167 : decode cX11_laysFits 167 = .ok (.getfield 95, 3) := by decide +kernel
theorem dX11_laysFits_170 : decode cX11_laysFits 170 = .ok (.aload_n 0, 1) := by decide +kernel
theorem dX11_laysFits_171 : decode cX11_laysFits 171 = .ok (.getfield 56, 3) := by decide +kernel
theorem dX11_laysFits_174 : decode cX11_laysFits 174 = .ok (.iload_n 2, 1) := by decide +kernel
theorem dX11_laysFits_175 : decode cX11_laysFits 175 = .ok (.iaload, 1) := by decide +kernel
theorem dX11_laysFits_176 : decode cX11_laysFits 176 = .ok (.iaload, 1) := by decide +kernel
theorem dX11_laysFits_177 : decode cX11_laysFits 177 = .ok (.goto 7, 3) := by decide +kernel
theorem dX11_laysFits_56 : decode cX11_laysFits 56 = .ok (.iload 4, 2) := by decide +kernel
theorem dX11_laysFits_58 : decode cX11_laysFits 58 = .ok (.aload_n 0, 1) := by decide +kernel
theorem dX11_laysFits_59 : decode cX11_laysFits 59 = .ok (.invokevirtual 266, 3) := by decide +kernel
theorem dX11_laysFits_62 : decode cX11_laysFits 62 = .ok (.if_icmp .ge 131, 3) := by decide +kernel
theorem dX11_laysFits_65 : decode cX11_laysFits 65 = .ok (.aload_n 0, 1) := by decide +kernel
theorem dX11_laysFits_66 : decode cX11_laysFits 66 = .ok (.invokevirtual 296, 3) := by decide +kernel
theorem dX11_laysFits_69 : decode cX11_laysFits 69 = .ok (.aload_n 0, 1) := by decide +kernel
theorem dX11_laysFits_70 : decode cX11_laysFits 70 = .ok (.getfield 50, 3) := by decide +kernel
theorem dX11_laysFits_73 : decode cX11_laysFits 73 = .ok (.iload 4, 2) := by decide +kernel
theorem dX11_laysFits_75 : decode cX11_laysFits 75 = .ok (.iload_n 3, 1) := by decide +kernel
theorem dX11_laysFits_76 : decode cX11_laysFits 76 = .ok (.iastore, 1) := by decide +kernel
theorem dX11_laysFits_77 : decode cX11_laysFits 77 = .ok (.aload_n 0, 1) := by decide +kernel
theorem dX11_laysFits_78 : decode cX11_laysFits 78 = .ok (.invokevirtual 299, 3) := by decide +kernel
theorem dX11_laysFits_81 : decode cX11_laysFits 81 = .ok (.aload_n 0, 1) := by decide +kernel
theorem dX11_laysFits_82 : decode cX11_laysFits 82 = .ok (.iload_n 1, 1) := by decide +kernel
theorem dX11_laysFits_83 : decode cX11_laysFits 83 = .ok (.invokevirtual 414, 3) := by decide +kernel
theorem dX11_laysFits_86 : decode cX11_laysFits 86 = .ok (.ifCond .ne 6, 3) := by decide +kernel
theorem dX11_laysFits_92 : decode cX11_laysFits 92 = .ok (.aload_n 0, 1) := by decide +kernel
theorem dX11_laysFits_93 : decode cX11_laysFits 93 = .ok (.getfield 402, 3) := by decide +kernel
theorem dX11_laysFits_96 : decode cX11_laysFits 96 = .ok (.ifCond .ne 14, 3) := by decide +kernel
theorem dX11_laysFits_99 : decode cX11_laysFits 99 = .ok (.aload_n 0, 1) := by decide +kernel
theorem dX11_laysFits_100 : decode cX11_laysFits 100 = .ok (.bipush 10, 2) := by decide +kernel
theorem dX11_laysFits_102 : decode cX11_laysFits 102 = .ok (.iload_n 3, 1) := by decide +kernel
theorem dX11_laysFits_103 : decode cX11_laysFits 103 = .ok (.imul, 1) := by decide +kernel
theorem dX11_laysFits_104 : decode cX11_laysFits 104 = .ok (.iload 4, 2) := by decide +kernel
theorem dX11_laysFits_106 : decode cX11_laysFits 106 = .ok (.iadd, 1) := by decide +kernel
theorem dX11_laysFits_107 : decode cX11_laysFits 107 = .ok (.putfield 408, 3) := by decide +kernel
theorem dX11_laysFits_89 : decode cX11_laysFits 89 = .ok (.goto 98, 3) := by decide +kernel
theorem dX11_laysFits_43 : decode cX11_laysFits 43 = .ok (.iload_n 3, 1) := by decide +kernel
theorem dX11_laysFits_44 : decode cX11_laysFits 44 = .ok (.aload_n 0, 1) := by decide +kernel
theorem dX11_laysFits_45 : decode cX11_laysFits 45 = .ok (.getfield 34, 3) := by decide +kernel
theorem dX11_laysFits_48 : decode cX11_laysFits 48 = .ok (.iconst 5, 1) := by decide +kernel
theorem dX11_laysFits_49 : decode cX11_laysFits 49 = .ok (.iaload, 1) := by decide +kernel
theorem dX11_laysFits_50 : decode cX11_laysFits 50 = .ok (.if_icmp .ge 149, 3) := by decide +kernel
theorem dX11_laysFits_199 : decode cX11_laysFits 199 = .ok (.return_, 1) := by decide +kernel
theorem dX11_laysFits_53 : decode cX11_laysFits 53 = .ok (.iconst 0, 1) := by decide +kernel
theorem dX11_laysFits_54 : decode cX11_laysFits 54 = .ok (.istore 4, 2) := by decide +kernel
theorem dX11_laysFits_41 : decode cX11_laysFits 41 = .ok (.iconst 0, 1) := by decide +kernel
theorem dX11_laysFits_42 : decode cX11_laysFits 42 = .ok (.istore_n 3, 1) := by decide +kernel
theorem dX11_laysFits_22 : decode cX11_laysFits 22 = .ok (.iload_n 3, 1) := by decide +kernel
theorem dX11_laysFits_23 : decode cX11_laysFits 23 = .ok (.bipush 60, 2) := by decide +kernel
theorem dX11_laysFits_25 : decode cX11_laysFits 25 = .ok (.if_icmp .gt 16, 3) := by decide +kernel
theorem dX11_laysFits_28 : decode cX11_laysFits 28 = .ok (.aload_n 0, 1) := by decide +kernel
theorem dX11_laysFits_29 : decode cX11_laysFits 29 = .ok (.getfield 95, 3) := by decide +kernel
theorem dX11_laysFits_32 : decode cX11_laysFits 32 = .ok (.iload_n 3, 1) := by decide +kernel
theorem dX11_laysFits_33 : decode cX11_laysFits 33 = .ok (.iconst 0, 1) := by decide +kernel
theorem dX11_laysFits_34 : decode cX11_laysFits 34 = .ok (.iastore, 1) := by decide +kernel
theorem dX11_laysFits_35 : decode cX11_laysFits 35 = .ok (.iinc 3 1, 3) := by decide +kernel
theorem dX11_laysFits_38 : decode cX11_laysFits 38 = .ok (.goto (-16), 3) := by decide +kernel
theorem dX11_laysFits_0 : decode cX11_laysFits 0 = .ok (.aload_n 0, 1) := by decide +kernel
theorem dX11_laysFits_1 : decode cX11_laysFits 1 = .ok (.iconst 0, 1) := by decide +kernel
theorem dX11_laysFits_2 : decode cX11_laysFits 2 = .ok (.putfield 402, 3) := by decide +kernel
theorem dX11_laysFits_5 : decode cX11_laysFits 5 = .ok (.aload_n 0, 1) := by decide +kernel
theorem dX11_laysFits_6 : decode cX11_laysFits 6 = .ok (.iconst 0, 1) := by decide +kernel
theorem dX11_laysFits_7 : decode cX11_laysFits 7 = .ok (.putfield 405, 3) := by decide +kernel
theorem dX11_laysFits_10 : decode cX11_laysFits 10 = .ok (.aload_n 0, 1) := by decide +kernel
theorem dX11_laysFits_11 : decode cX11_laysFits 11 = .ok (.iconst (-1), 1) := by decide +kernel
theorem dX11_laysFits_12 : decode cX11_laysFits 12 = .ok (.putfield 408, 3) := by decide +kernel
theorem dX11_laysFits_15 : decode cX11_laysFits 15 = .ok (.aload_n 0, 1) := by decide +kernel
theorem dX11_laysFits_16 : decode cX11_laysFits 16 = .ok (.iconst 0, 1) := by decide +kernel
theorem dX11_laysFits_17 : decode cX11_laysFits 17 = .ok (.putfield 411, 3) := by decide +kernel
theorem dX11_laysFits_20 : decode cX11_laysFits 20 = .ok (.iconst 0, 1) := by decide +kernel
theorem dX11_laysFits_21 : decode cX11_laysFits 21 = .ok (.istore_n 3, 1) := by decide +kernel
def FX11_laysFits_193 (k43 : Int → Int → Int → Mm → Option Mm) (x1 : Int) (x2 : Int) (x3 : Int) (f : Mm) : Option Mm := k43 x1 x2 (w32 (x3 + 1)) f
set_option maxHeartbeats 4000000 in
set_option maxRecDepth 100000 in
theorem SX11_laysFits_193 {G : GT} {l : Launch} {Q : Option AV → Mem → Prop} {k43 : Int → Int → Int → Mm → Option Mm} (q43 : ∀ (x1 : Int) (x2 : Int) (x3 : Int) (f : Mm), OkV Q (k43 x1 x2 x3 f) → Ev G l MX11_laysFits (Rm 5 0 0) (ZM G Q 0 0) 0 0 43 [some (vR 150), some (vI x1), some (vI x2), some (vI x3), none] [] (SH, RF, f)) (x1 : Int) (x2 : Int) (x3 : Int) (f : Mm) (h : OkV Q (FX11_laysFits_193 k43 x1 x2 x3 f)) : Ev G l MX11_laysFits (Rm 5 0 0) (ZM G Q 0 0) 0 0 193 [some (vR 150), some (vI x1), some (vI x2), some (vI x3), none] [] (SH, RF, f) := by
  unfold FX11_laysFits_193 at h
  refine ev_iinc (L' := [some (vR 150), some (vI x1), some (vI x2), some (vI (w32 (x3 + 1))), none]) dX11_laysFits_193 rfl (by decide) rfl ?_
  refine ev_goto (tgt := 43) dX11_laysFits_196 (by decide) ?_
  exact q43 x1 x2 (w32 (x3 + 1)) _ h
def FX11_laysFits_187 (k43 : Int → Int → Int → Mm → Option Mm) (k56 : Int → Int → Int → Int → Mm → Option Mm) (x1 : Int) (x2 : Int) (x3 : Int) (x4 : Int) (f : Mm) : Option Mm := k56 x1 x2 x3 (w32 (x4 + 1)) f
set_option maxHeartbeats 4000000 in
set_option maxRecDepth 100000 in
theorem SX11_laysFits_187 {G : GT} {l : Launch} {Q : Option AV → Mem → Prop} {k43 : Int → Int → Int → Mm → Option Mm} {k56 : Int → Int → Int → Int → Mm → Option Mm} (q43 : ∀ (x1 : Int) (x2 : Int) (x3 : Int) (f : Mm), OkV Q (k43 x1 x2 x3 f) → Ev G l MX11_laysFits (Rm 5 0 0) (ZM G Q 0 0) 0 0 43 [some (vR 150), some (vI x1), some (vI x2), some (vI x3), none] [] (SH, RF, f)) (q56 : ∀ (x1 : Int) (x2 : Int) (x3 : Int) (x4 : Int) (f : Mm), OkV Q (k56 x1 x2 x3 x4 f) → Ev G l MX11_laysFits (Rm 5 0 0) (ZM G Q 0 0) 0 0 56 [some (vR 150), some (vI x1), some (vI x2), some (vI x3), some (vI x4)] [] (SH, RF, f)) (x1 : Int) (x2 : Int) (x3 : Int) (x4 : Int) (f : Mm) (h : OkV Q (FX11_laysFits_187 k43 k56 x1 x2 x3 x4 f)) : Ev G l MX11_laysFits (Rm 5 0 0) (ZM G Q 0 0) 0 0 187 [some (vR 150), some (vI x1), some (vI x2), some (vI x3), some (vI x4)] [] (SH, RF, f) := by
  unfold FX11_laysFits_187 at h
  refine ev_iinc (L' := [some (vR 150), some (vI x1), some (vI x2), some (vI x3), some (vI (w32 (x4 + 1)))]) dX11_laysFits_187 rfl (by decide) rfl ?_
  refine ev_goto (tgt := 56) dX11_laysFits_190 (by decide) ?_
  exact q56 x1 x2 x3 (w32 (x4 + 1)) _ h
def FX11_laysFits_184 (k43 : Int → Int → Int → Mm → Option Mm) (k56 : Int → Int → Int → Int → Mm → Option Mm) (x1 : Int) (x2 : Int) (x3 : Int) (x4 : Int) (s1 : Int) (f : Mm) : Option Mm := FX11_laysFits_187 k43 k56 x1 x2 x3 x4 (up f 150 48 s1)
set_option maxHeartbeats 4000000 in
set_option maxRecDepth 100000 in
theorem SX11_laysFits_184 {G : GT} {l : Launch} {Q : Option AV → Mem → Prop} {k43 : Int → Int → Int → Mm → Option Mm} {k56 : Int → Int → Int → Int → Mm → Option Mm} (q43 : ∀ (x1 : Int) (x2 : Int) (x3 : Int) (f : Mm), OkV Q (k43 x1 x2 x3 f) → Ev G l MX11_laysFits (Rm 5 0 0) (ZM G Q 0 0) 0 0 43 [some (vR 150), some (vI x1), some (vI x2), some (vI x3), none] [] (SH, RF, f)) (q56 : ∀ (x1 : Int) (x2 : Int) (x3 : Int) (x4 : Int) (f : Mm), OkV Q (k56 x1 x2 x3 x4 f) → Ev G l MX11_laysFits (Rm 5 0 0) (ZM G Q 0 0) 0 0 56 [some (vR 150), some (vI x1), some (vI x2), some (vI x3), some (vI x4)] [] (SH, RF, f)) (x1 : Int) (x2 : Int) (x3 : Int) (x4 : Int) (s1 : Int) (f : Mm) (h : OkV Q (FX11_laysFits_184 k43 k56 x1 x2 x3 x4 s1 f)) : Ev G l MX11_laysFits (Rm 5 0 0) (ZM G Q 0 0) 0 0 184 [some (vR 150), some (vI x1), some (vI x2), some (vI x3), some (vI x4)] [vI s1, vR 150] (SH, RF, f) := by
  unfold FX11_laysFits_184 at h
  refine ev_putI dX11_laysFits_184 fl_X11_411 sh_150 (by decide) (by decide) ?_
  exact SX11_laysFits_187 q43 q56 x1 x2 x3 x4 _ h
def FX11_laysFits_110 (k43 : Int → Int → Int → Mm → Option Mm) (k56 : Int → Int → Int → Int → Mm → Option Mm) (x1 : Int) (x2 : Int) (x3 : Int) (x4 : Int) (f : Mm) : Option Mm := (if 0 ≤ x2 ∧ x2 < 6 then (if 0 ≤ (f 164 x2.toNat) ∧ (f 164 x2.toNat) < 61 then (if 0 ≤ (f 164 x2.toNat) ∧ (f 164 x2.toNat) < 61 then (if 0 ≤ x2 ∧ x2 < 6 then (if 0 ≤ (f 164 x2.toNat) ∧ (f 164 x2.toNat) < 61 then (if ((up (up (up f 150 45 (w32 ((f 150 45) + 1))) 150 46 (bOr (f 150 46) (bShl 1 x3))) 177 (f 164 x2.toNat).toNat (w32 ((f 177 (f 164 x2.toNat).toNat) + 1))) 177 (f 164 x2.toNat).toNat) ≤ (f 150 48) then FX11_laysFits_184 k43 k56 x1 x2 x3 x4 (f 150 48) (up (up (up f 150 45 (w32 ((f 150 45) + 1))) 150 46 (bOr (f 150 46) (bShl 1 x3))) 177 (f 164 x2.toNat).toNat (w32 ((f 177 (f 164 x2.toNat).toNat) + 1))) else (if 0 ≤ x2 ∧ x2 < 6 then (if 0 ≤ (f 164 x2.toNat) ∧ (f 164 x2.toNat) < 61 then FX11_laysFits_184 k43 k56 x1 x2 x3 x4 ((up (up (up f 150 45 (w32 ((f 150 45) + 1))) 150 46 (bOr (f 150 46) (bShl 1 x3))) 177 (f 164 x2.toNat).toNat (w32 ((f 177 (f 164 x2.toNat).toNat) + 1))) 177 (f 164 x2.toNat).toNat) (up (up (up f 150 45 (w32 ((f 150 45) + 1))) 150 46 (bOr (f 150 46) (bShl 1 x3))) 177 (f 164 x2.toNat).toNat (w32 ((f 177 (f 164 x2.toNat).toNat) + 1))) else none) else none)) else none) else none) else none) else none) else none)
set_option maxHeartbeats 4000000 in
set_option maxRecDepth 100000 in
theorem SX11_laysFits_110 {G : GT} {l : Launch} {Q : Option AV → Mem → Prop} {k43 : Int → Int → Int → Mm → Option Mm} {k56 : Int → Int → Int → Int → Mm → Option Mm} (q43 : ∀ (x1 : Int) (x2 : Int) (x3 : Int) (f : Mm), OkV Q (k43 x1 x2 x3 f) → Ev G l MX11_laysFits (Rm 5 0 0) (ZM G Q 0 0) 0 0 43 [some (vR 150), some (vI x1), some (vI x2), some (vI x3), none] [] (SH, RF, f)) (q56 : ∀ (x1 : Int) (x2 : Int) (x3 : Int) (x4 : Int) (f : Mm), OkV Q (k56 x1 x2 x3 x4 f) → Ev G l MX11_laysFits (Rm 5 0 0) (ZM G Q 0 0) 0 0 56 [some (vR 150), some (vI x1), some (vI x2), some (vI x3), some (vI x4)] [] (SH, RF, f)) (x1 : Int) (x2 : Int) (x3 : Int) (x4 : Int) (f : Mm) (h : OkV Q (FX11_laysFits_110 k43 k56 x1 x2 x3 x4 f)) : Ev G l MX11_laysFits (Rm 5 0 0) (ZM G Q 0 0) 0 0 110 [some (vR 150), some (vI x1), some (vI x2), some (vI x3), some (vI x4)] [] (SH, RF, f) := by
  unfold FX11_laysFits_110 at h
  refine ev_aload_n (i := 0) dX11_laysFits_110 rfl rfl ?_
  refine ev_dupR dX11_laysFits_111 ?_
  refine ex_getI (x := (f 150 45)) dX11_laysFits_112 fl_X11_402 sh_150 (by decide) (by decide) rfl ?_
  refine ev_iconst dX11_laysFits_115 (r32c rfl) ?_
  refine ev_iadd dX11_laysFits_116 ?_
  refine ev_putI dX11_laysFits_117 fl_X11_402 sh_150 (by decide) (by decide) ?_
  refine ev_aload_n (i := 0) dX11_laysFits_120 rfl rfl ?_
  refine ev_dupR dX11_laysFits_121 ?_
  refine ex_getI (x := (f 150 46)) dX11_laysFits_122 fl_X11_405 sh_150 (by decide) (by decide) rfl ?_
  refine ev_iconst dX11_laysFits_125 (r32c rfl) ?_
  refine ev_iload_n (i := 3) dX11_laysFits_126 rfl rfl ?_
  refine ev_ishl dX11_laysFits_127 ?_
  refine ev_ior dX11_laysFits_128 ?_
  refine ev_putI dX11_laysFits_129 fl_X11_405 sh_150 (by decide) (by decide) ?_
  refine ev_aload_n (i := 0) dX11_laysFits_132 rfl rfl ?_
  refine ev_getR dX11_laysFits_133 fl_X11_95 sh_150 (by decide) (by decide) rf_150_44 ?_
  refine ev_aload_n (i := 0) dX11_laysFits_136 rfl rfl ?_
  refine ev_getR dX11_laysFits_137 fl_X11_56 sh_150 (by decide) (by decide) rf_150_26 ?_
  refine ev_iload_n (i := 2) dX11_laysFits_140 rfl rfl ?_
  by_cases g1 : 0 ≤ x2 ∧ x2 < 6
  · rw [if_pos g1] at h
    refine ex_iald (x := (f 164 x2.toNat)) dX11_laysFits_141 sh_164 g1.1 g1.2 rfl ?_
    refine ev_dup2IR dX11_laysFits_142 ?_
    by_cases g2 : 0 ≤ (f 164 x2.toNat) ∧ (f 164 x2.toNat) < 61
    · rw [if_pos g2] at h
      refine ex_iald (x := (f 177 (f 164 x2.toNat).toNat)) dX11_laysFits_143 sh_177 g2.1 g2.2 rfl ?_
      refine ev_iconst dX11_laysFits_144 (r32c rfl) ?_
      refine ev_iadd dX11_laysFits_145 ?_
      by_cases g3 : 0 ≤ (f 164 x2.toNat) ∧ (f 164 x2.toNat) < 61
      · rw [if_pos g3] at h
        refine ex_iast (j := (f 164 x2.toNat).toNat) dX11_laysFits_146 sh_177 g3.1 g3.2 rfl ?_
        refine ev_aload_n (i := 0) dX11_laysFits_147 rfl rfl ?_
        refine ev_aload_n (i := 0) dX11_laysFits_148 rfl rfl ?_
        refine ev_getR dX11_laysFits_149 fl_X11_95 sh_150 (by decide) (by decide) rf_150_44 ?_
        refine ev_aload_n (i := 0) dX11_laysFits_152 rfl rfl ?_
        refine ev_getR dX11_laysFits_153 fl_X11_56 sh_150 (by decide) (by decide) rf_150_26 ?_
        refine ev_iload_n (i := 2) dX11_laysFits_156 rfl rfl ?_
        by_cases g4 : 0 ≤ x2 ∧ x2 < 6
        · rw [if_pos g4] at h
          refine ex_iald (x := (f 164 x2.toNat)) dX11_laysFits_157 sh_164 g4.1 g4.2 rfl ?_
          by_cases g5 : 0 ≤ (f 164 x2.toNat) ∧ (f 164 x2.toNat) < 61
          · rw [if_pos g5] at h
            refine ex_iald (x := ((up (up (up f 150 45 (w32 ((f 150 45) + 1))) 150 46 (bOr (f 150 46) (bShl 1 x3))) 177 (f 164 x2.toNat).toNat (w32 ((f 177 (f 164 x2.toNat).toNat) + 1))) 177 (f 164 x2.toNat).toNat)) dX11_laysFits_158 sh_177 g5.1 g5.2 rfl ?_
            refine ev_aload_n (i := 0) dX11_laysFits_159 rfl rfl ?_
            refine ex_getI (x := (f 150 48)) dX11_laysFits_160 fl_X11_411 sh_150 (by decide) (by decide) rfl ?_
            refine ev_icmp_le (tgt := 180) dX11_laysFits_163 (by decide) (fun c8 => ?_) (fun c8 => ?_)
            · rw [if_pos c8] at h
              refine ev_aload_n (i := 0) dX11_laysFits_180 rfl rfl ?_
              refine ex_getI (x := (f 150 48)) dX11_laysFits_181 fl_X11_411 sh_150 (by decide) (by decide) rfl ?_
              exact SX11_laysFits_184 q43 q56 x1 x2 x3 x4 (f 150 48) _ h
            · rw [if_neg c8] at h
              refine ev_aload_n (i := 0) dX11_laysFits_166 rfl rfl ?_
              refine ev_getR dX11_laysFits_167 fl_X11_95 sh_150 (by decide) (by decide) rf_150_44 ?_
              refine ev_aload_n (i := 0) dX11_laysFits_170 rfl rfl ?_
              refine ev_getR dX11_laysFits_171 fl_X11_56 sh_150 (by decide) (by decide) rf_150_26 ?_
              refine ev_iload_n (i := 2) dX11_laysFits_174 rfl rfl ?_
              by_cases g6 : 0 ≤ x2 ∧ x2 < 6
              · rw [if_pos g6] at h
                refine ex_iald (x := (f 164 x2.toNat)) dX11_laysFits_175 sh_164 g6.1 g6.2 rfl ?_
                by_cases g7 : 0 ≤ (f 164 x2.toNat) ∧ (f 164 x2.toNat) < 61
                · rw [if_pos g7] at h
                  refine ex_iald (x := ((up (up (up f 150 45 (w32 ((f 150 45) + 1))) 150 46 (bOr (f 150 46) (bShl 1 x3))) 177 (f 164 x2.toNat).toNat (w32 ((f 177 (f 164 x2.toNat).toNat) + 1))) 177 (f 164 x2.toNat).toNat)) dX11_laysFits_176 sh_177 g7.1 g7.2 rfl ?_
                  refine ev_goto (tgt := 184) dX11_laysFits_177 (by decide) ?_
                  exact SX11_laysFits_184 q43 q56 x1 x2 x3 x4 ((up (up (up f 150 45 (w32 ((f 150 45) + 1))) 150 46 (bOr (f 150 46) (bShl 1 x3))) 177 (f 164 x2.toNat).toNat (w32 ((f 177 (f 164 x2.toNat).toNat) + 1))) 177 (f 164 x2.toNat).toNat) _ h
                · rw [if_neg g7] at h; exact h.elim
              · rw [if_neg g6] at h; exact h.elim
          · rw [if_neg g5] at h; exact h.elim
        · rw [if_neg g4] at h; exact h.elim
      · rw [if_neg g3] at h; exact h.elim
    · rw [if_neg g2] at h; exact h.elim
  · rw [if_neg g1] at h; exact h.elim
def FX11_laysFits_56 (k43 : Int → Int → Int → Mm → Option Mm) : Nat → Int → Int → Int → Int → Mm → Option Mm
  | 0, _, _, _, _, _ => none
  | n + 1, x1, x2, x3, x4, f => (b2 (FX11_days f) fun y1 f1 => (if y1 ≤ x4 then FX11_laysFits_193 k43 x1 x2 x3 f1 else ((FX11_lays f1).bind fun f2 => (if 0 ≤ x4 ∧ x4 < 6 then ((FX11_goes_ (up f2 162 x4.toNat x3)).bind fun f4 => (b2 (FX11_isSo x1 f4) fun y5 f5 => (if y5 = 0 then FX11_laysFits_187 k43 (FX11_laysFits_56 k43 n) x1 x2 x3 x4 f5 else (if (f5 150 45) = 0 then FX11_laysFits_110 k43 (FX11_laysFits_56 k43 n) x1 x2 x3 x4 (up f5 150 47 (w32 ((w32 (10 * x3)) + x4))) else FX11_laysFits_110 k43 (FX11_laysFits_56 k43 n) x1 x2 x3 x4 f5)))) else none))))
set_option maxHeartbeats 4000000 in
set_option maxRecDepth 100000 in
theorem SX11_laysFits_56 {G : GT} {l : Launch} {Q : Option AV → Mem → Prop} {k43 : Int → Int → Int → Mm → Option Mm} (q43 : ∀ (x1 : Int) (x2 : Int) (x3 : Int) (f : Mm), OkV Q (k43 x1 x2 x3 f) → Ev G l MX11_laysFits (Rm 5 0 0) (ZM G Q 0 0) 0 0 43 [some (vR 150), some (vI x1), some (vI x2), some (vI x3), none] [] (SH, RF, f)) : ∀ (n : Nat) (x1 : Int) (x2 : Int) (x3 : Int) (x4 : Int) (f : Mm), OkV Q (FX11_laysFits_56 k43 n x1 x2 x3 x4 f) → Ev G l MX11_laysFits (Rm 5 0 0) (ZM G Q 0 0) 0 0 56 [some (vR 150), some (vI x1), some (vI x2), some (vI x3), some (vI x4)] [] (SH, RF, f) := by
  intro n
  induction n with
  | zero => intro x1 x2 x3 x4 f h; exact absurd h (by rw [FX11_laysFits_56]; exact fun q => q)
  | succ n ih =>
    intro x1 x2 x3 x4 f h
    rw [FX11_laysFits_56] at h
    refine ev_iload dX11_laysFits_56 rfl ?_
    refine ev_aload_n (i := 0) dX11_laysFits_58 rfl rfl ?_
    refine ev_cVI (b := 150) (av := []) (S := [vI x4]) (fun q => q) h dX11_laysFits_59 (fun Q' q => TX11_days _ q) kvX11_days ml_X11_266 sh_150 rfl (RRc (by decide) (by decide)) (Nat.le_of_ble_eq_true rfl) ⟨Nat.le_of_ble_eq_true rfl, Nat.le_of_ble_eq_true rfl⟩ (fun y1 f1 h => ?_)
    refine ev_icmp_ge (tgt := 193) dX11_laysFits_62 (by decide) (fun c8 => ?_) (fun c8 => ?_)
    · rw [if_pos c8] at h
      refine ev_fg [true, true, true, true, false] rfl ?_
      exact SX11_laysFits_193 q43 x1 x2 x3 _ h
    · rw [if_neg c8] at h
      refine ev_aload_n (i := 0) dX11_laysFits_65 rfl rfl ?_
      refine ev_cVV (b := 150) (av := []) (S := []) (fun q => q) h dX11_laysFits_66 (fun Q' q => TX11_lays _ q) kvX11_lays ml_X11_296 sh_150 rfl (RRc (by decide) (by decide)) (Nat.le_of_ble_eq_true rfl) ⟨Nat.le_of_ble_eq_true rfl, Nat.le_of_ble_eq_true rfl⟩ (fun f2 h => ?_)
      refine ev_aload_n (i := 0) dX11_laysFits_69 rfl rfl ?_
      refine ev_getR dX11_laysFits_70 fl_X11_50 sh_150 (by decide) (by decide) rf_150_22 ?_
      refine ev_iload dX11_laysFits_73 rfl ?_
      refine ev_iload_n (i := 3) dX11_laysFits_75 rfl rfl ?_
      by_cases g3 : 0 ≤ x4 ∧ x4 < 6
      · rw [if_pos g3] at h
        refine ex_iast (j := x4.toNat) dX11_laysFits_76 sh_162 g3.1 g3.2 rfl ?_
        refine ev_aload_n (i := 0) dX11_laysFits_77 rfl rfl ?_
        refine ev_cVV (b := 150) (av := []) (S := []) (fun q => q) h dX11_laysFits_78 (fun Q' q => TX11_goes_ _ q) kvX11_goes_ ml_X11_299 sh_150 rfl (RRc (by decide) (by decide)) (Nat.le_of_ble_eq_true rfl) ⟨Nat.le_of_ble_eq_true rfl, Nat.le_of_ble_eq_true rfl⟩ (fun f4 h => ?_)
        refine ev_aload_n (i := 0) dX11_laysFits_81 rfl rfl ?_
        refine ev_iload_n (i := 1) dX11_laysFits_82 rfl rfl ?_
        refine ev_cVI (b := 150) (av := [vI x1]) (S := []) (fun q => q) h dX11_laysFits_83 (fun Q' q => TX11_isSo x1 _ q) kvX11_isSo ml_X11_414 sh_150 rfl (RRc (by decide) (by decide)) (Nat.le_of_ble_eq_true rfl) ⟨Nat.le_of_ble_eq_true rfl, Nat.le_of_ble_eq_true rfl⟩ (fun y5 f5 h => ?_)
        refine ev_if_ne (tgt := 92) dX11_laysFits_86 (by decide) (fun c7 => ?_) (fun c7 => ?_)
        · rw [if_neg c7] at h
          refine ev_aload_n (i := 0) dX11_laysFits_92 rfl rfl ?_
          refine ex_getI (x := (f5 150 45)) dX11_laysFits_93 fl_X11_402 sh_150 (by decide) (by decide) rfl ?_
          refine ev_if_ne (tgt := 110) dX11_laysFits_96 (by decide) (fun c6 => ?_) (fun c6 => ?_)
          · rw [if_neg c6] at h
            exact SX11_laysFits_110 q43 ih x1 x2 x3 x4 _ h
          · rw [if_pos c6] at h
            refine ev_aload_n (i := 0) dX11_laysFits_99 rfl rfl ?_
            refine ev_bipush (v := 10) dX11_laysFits_100 (r32c rfl) (by decide) ?_
            refine ev_iload_n (i := 3) dX11_laysFits_102 rfl rfl ?_
            refine ev_imul dX11_laysFits_103 ?_
            refine ev_iload dX11_laysFits_104 rfl ?_
            refine ev_iadd dX11_laysFits_106 ?_
            refine ev_putI dX11_laysFits_107 fl_X11_408 sh_150 (by decide) (by decide) ?_
            exact SX11_laysFits_110 q43 ih x1 x2 x3 x4 _ h
        · rw [if_pos c7] at h
          refine ev_goto (tgt := 187) dX11_laysFits_89 (by decide) ?_
          exact SX11_laysFits_187 q43 ih x1 x2 x3 x4 _ h
      · rw [if_neg g3] at h; exact h.elim
def FX11_laysFits_43  : Nat → Int → Int → Int → Mm → Option Mm
  | 0, _, _, _, _ => none
  | n + 1, x1, x2, x3, f => (if (f 157 5) ≤ x3 then some f else FX11_laysFits_56 (FX11_laysFits_43 n) fu x1 x2 x3 0 f)
set_option maxHeartbeats 4000000 in
set_option maxRecDepth 100000 in
theorem SX11_laysFits_43 {G : GT} {l : Launch} {Q : Option AV → Mem → Prop}  : ∀ (n : Nat) (x1 : Int) (x2 : Int) (x3 : Int) (f : Mm), OkV Q (FX11_laysFits_43  n x1 x2 x3 f) → Ev G l MX11_laysFits (Rm 5 0 0) (ZM G Q 0 0) 0 0 43 [some (vR 150), some (vI x1), some (vI x2), some (vI x3), none] [] (SH, RF, f) := by
  intro n
  induction n with
  | zero => intro x1 x2 x3 f h; exact absurd h (by rw [FX11_laysFits_43]; exact fun q => q)
  | succ n ih =>
    intro x1 x2 x3 f h
    rw [FX11_laysFits_43] at h
    refine ev_iload_n (i := 3) dX11_laysFits_43 rfl rfl ?_
    refine ev_aload_n (i := 0) dX11_laysFits_44 rfl rfl ?_
    refine ev_getR dX11_laysFits_45 fl_X11_34 sh_150 (by decide) (by decide) rf_150_17 ?_
    refine ev_iconst dX11_laysFits_48 (r32c rfl) ?_
    refine ex_iald (x := (f 157 5)) dX11_laysFits_49 sh_157 (by decide) (by decide) rfl ?_
    refine ev_icmp_ge (tgt := 199) dX11_laysFits_50 (by decide) (fun c1 => ?_) (fun c1 => ?_)
    · rw [if_pos c1] at h
      exact ev_vret rfl dX11_laysFits_199 h
    · rw [if_neg c1] at h
      refine ev_iconst dX11_laysFits_53 (r32c rfl) ?_
      refine ev_istore (L' := [some (vR 150), some (vI x1), some (vI x2), some (vI x3), some (vI 0)]) dX11_laysFits_54 (by decide) rfl ?_
      exact SX11_laysFits_56 ih fu x1 x2 x3 0 _ h
def FX11_laysFits_41  (x1 : Int) (x2 : Int) (f : Mm) : Option Mm := FX11_laysFits_43 fu x1 x2 0 f
set_option maxHeartbeats 4000000 in
set_option maxRecDepth 100000 in
theorem SX11_laysFits_41 {G : GT} {l : Launch} {Q : Option AV → Mem → Prop}  (x1 : Int) (x2 : Int) (f : Mm) (h : OkV Q (FX11_laysFits_41  x1 x2 f)) : Ev G l MX11_laysFits (Rm 5 0 0) (ZM G Q 0 0) 0 0 41 [some (vR 150), some (vI x1), some (vI x2), none, none] [] (SH, RF, f) := by
  unfold FX11_laysFits_41 at h
  refine ev_iconst dX11_laysFits_41 (r32c rfl) ?_
  refine ev_istore_n (i := 3) (L' := [some (vR 150), some (vI x1), some (vI x2), some (vI 0), none]) dX11_laysFits_42 rfl (by decide) rfl ?_
  exact SX11_laysFits_43  fu x1 x2 0 _ h
def FX11_laysFits_22  : Nat → Int → Int → Int → Mm → Option Mm
  | 0, _, _, _, _ => none
  | n + 1, x1, x2, x3, f => (if 60 < x3 then FX11_laysFits_41 x1 x2 f else (if 0 ≤ x3 ∧ x3 < 61 then FX11_laysFits_22 n x1 x2 (w32 (x3 + 1)) (up f 177 x3.toNat 0) else none))
set_option maxHeartbeats 4000000 in
set_option maxRecDepth 100000 in
theorem SX11_laysFits_22 {G : GT} {l : Launch} {Q : Option AV → Mem → Prop}  : ∀ (n : Nat) (x1 : Int) (x2 : Int) (x3 : Int) (f : Mm), OkV Q (FX11_laysFits_22  n x1 x2 x3 f) → Ev G l MX11_laysFits (Rm 5 0 0) (ZM G Q 0 0) 0 0 22 [some (vR 150), some (vI x1), some (vI x2), some (vI x3), none] [] (SH, RF, f) := by
  intro n
  induction n with
  | zero => intro x1 x2 x3 f h; exact absurd h (by rw [FX11_laysFits_22]; exact fun q => q)
  | succ n ih =>
    intro x1 x2 x3 f h
    rw [FX11_laysFits_22] at h
    refine ev_iload_n (i := 3) dX11_laysFits_22 rfl rfl ?_
    refine ev_bipush (v := 60) dX11_laysFits_23 (r32c rfl) (by decide) ?_
    refine ev_icmp_gt (tgt := 41) dX11_laysFits_25 (by decide) (fun c2 => ?_) (fun c2 => ?_)
    · rw [if_pos c2] at h
      refine ev_fg [true, true, true, false, true] rfl ?_
      exact SX11_laysFits_41  x1 x2 _ h
    · rw [if_neg c2] at h
      refine ev_aload_n (i := 0) dX11_laysFits_28 rfl rfl ?_
      refine ev_getR dX11_laysFits_29 fl_X11_95 sh_150 (by decide) (by decide) rf_150_44 ?_
      refine ev_iload_n (i := 3) dX11_laysFits_32 rfl rfl ?_
      refine ev_iconst dX11_laysFits_33 (r32c rfl) ?_
      by_cases g1 : 0 ≤ x3 ∧ x3 < 61
      · rw [if_pos g1] at h
        refine ex_iast (j := x3.toNat) dX11_laysFits_34 sh_177 g1.1 g1.2 rfl ?_
        refine ev_iinc (L' := [some (vR 150), some (vI x1), some (vI x2), some (vI (w32 (x3 + 1))), none]) dX11_laysFits_35 rfl (by decide) rfl ?_
        refine ev_goto (tgt := 22) dX11_laysFits_38 (by decide) ?_
        exact ih x1 x2 (w32 (x3 + 1)) _ h
      · rw [if_neg g1] at h; exact h.elim
def FX11_laysFits_0  (x1 : Int) (x2 : Int) (f : Mm) : Option Mm := FX11_laysFits_22 fu x1 x2 0 (up (up (up (up f 150 45 0) 150 46 0) 150 47 (-1)) 150 48 0)
set_option maxHeartbeats 4000000 in
set_option maxRecDepth 100000 in
theorem SX11_laysFits_0 {G : GT} {l : Launch} {Q : Option AV → Mem → Prop}  (x1 : Int) (x2 : Int) (f : Mm) (h : OkV Q (FX11_laysFits_0  x1 x2 f)) : Ev G l MX11_laysFits (Rm 5 0 0) (ZM G Q 0 0) 0 0 0 [some (vR 150), some (vI x1), some (vI x2), none, none] [] (SH, RF, f) := by
  unfold FX11_laysFits_0 at h
  refine ev_aload_n (i := 0) dX11_laysFits_0 rfl rfl ?_
  refine ev_iconst dX11_laysFits_1 (r32c rfl) ?_
  refine ev_putI dX11_laysFits_2 fl_X11_402 sh_150 (by decide) (by decide) ?_
  refine ev_aload_n (i := 0) dX11_laysFits_5 rfl rfl ?_
  refine ev_iconst dX11_laysFits_6 (r32c rfl) ?_
  refine ev_putI dX11_laysFits_7 fl_X11_405 sh_150 (by decide) (by decide) ?_
  refine ev_aload_n (i := 0) dX11_laysFits_10 rfl rfl ?_
  refine ev_iconst dX11_laysFits_11 (r32c rfl) ?_
  refine ev_putI dX11_laysFits_12 fl_X11_408 sh_150 (by decide) (by decide) ?_
  refine ev_aload_n (i := 0) dX11_laysFits_15 rfl rfl ?_
  refine ev_iconst dX11_laysFits_16 (r32c rfl) ?_
  refine ev_putI dX11_laysFits_17 fl_X11_411 sh_150 (by decide) (by decide) ?_
  refine ev_iconst dX11_laysFits_20 (r32c rfl) ?_
  refine ev_istore_n (i := 3) (L' := [some (vR 150), some (vI x1), some (vI x2), some (vI 0), none]) dX11_laysFits_21 rfl (by decide) rfl ?_
  exact SX11_laysFits_22  fu x1 x2 0 _ h
def FX11_laysFits (x1 : Int) (x2 : Int) (f : Mm) : Option Mm := FX11_laysFits_0 x1 x2 f
set_option maxRecDepth 100000 in
theorem TX11_laysFits {G : GT} {l : Launch} {Q : Option AV → Mem → Prop} (x1 : Int) (x2 : Int) (f : Mm) (h : OkV Q (FX11_laysFits x1 x2 f)) : Ret G l MX11_laysFits (5) 0 0 [vR 150, vI x1, vI x2] (SH, RF, f) Q := by
  refine ret_of (L := [some (vR 150), some (vI x1), some (vI x2), none, none]) (by decide) rfl (Nat.le_of_ble_eq_true rfl) ?_
  exact SX11_laysFits_0 x1 x2 f h
theorem dX11_fits_0 : decode cX11_fits 0 = .ok (.aload_n 0, 1) := by decide +kernel
theorem dX11_fits_1 : decode cX11_fits 1 = .ok (.iconst 0, 1) := by decide +kernel
theorem dX11_fits_2 : decode cX11_fits 2 = .ok (.putfield 98, 3) := by decide +kernel
theorem dX11_fits_5 : decode cX11_fits 5 = .ok (.aload_n 0, 1) := by decide +kernel
theorem dX11_fits_6 : decode cX11_fits 6 = .ok (.iload_n 1, 1) := by decide +kernel
theorem dX11_fits_7 : decode cX11_fits 7 = .ok (.invokevirtual 417, 3) := by decide +kernel
theorem dX11_fits_10 : decode cX11_fits 10 = .ok (.istore_n 2, 1) := by decide +kernel
theorem dX11_fits_11 : decode cX11_fits 11 = .ok (.iload_n 2, 1) := by decide +kernel
theorem dX11_fits_12 : decode cX11_fits 12 = .ok (.ifCond .eq 5, 3) := by decide +kernel
theorem dX11_fits_17 : decode cX11_fits 17 = .ok (.aload_n 0, 1) := by decide +kernel
theorem dX11_fits_18 : decode cX11_fits 18 = .ok (.iload_n 1, 1) := by decide +kernel
theorem dX11_fits_19 : decode cX11_fits 19 = .ok (.iconst 0, 1) := by decide +kernel
theorem dX11_fits_20 : decode cX11_fits 20 = .ok (.invokevirtual 420, 3) := by decide +kernel
theorem dX11_fits_23 : decode cX11_fits 23 = .ok (.aload_n 0, 1) := by decide +kernel
theorem dX11_fits_24 : decode cX11_fits 24 = .ok (.getfield 402, 3) := by decide +kernel
theorem dX11_fits_27 : decode cX11_fits 27 = .ok (.ireturn, 1) := by decide +kernel
theorem dX11_fits_15 : decode cX11_fits 15 = .ok (.iload_n 2, 1) := by decide +kernel
theorem dX11_fits_16 : decode cX11_fits 16 = .ok (.ireturn, 1) := by decide +kernel
def FX11_fits_0  (x1 : Int) (f : Mm) : Option (Int × Mm) := (b2 (FX11_whyNot x1 (up f 150 0 0)) fun y1 f1 => (if y1 = 0 then ((FX11_laysFits x1 0 f1).bind fun f2 => some ((f2 150 45), f2)) else some (y1, f1)))
set_option maxHeartbeats 4000000 in
set_option maxRecDepth 100000 in
theorem SX11_fits_0 {G : GT} {l : Launch} {Q : Option AV → Mem → Prop}  (x1 : Int) (f : Mm) (h : OkI Q (FX11_fits_0  x1 f)) : Ev G l MX11_fits (Rm 6 0 0) (ZM G Q 0 0) 0 0 0 [some (vR 150), some (vI x1), none] [] (SH, RF, f) := by
  unfold FX11_fits_0 at h
  refine ev_aload_n (i := 0) dX11_fits_0 rfl rfl ?_
  refine ev_iconst dX11_fits_1 (r32c rfl) ?_
  refine ev_putI dX11_fits_2 fl_X11_98 sh_150 (by decide) (by decide) ?_
  refine ev_aload_n (i := 0) dX11_fits_5 rfl rfl ?_
  refine ev_iload_n (i := 1) dX11_fits_6 rfl rfl ?_
  refine ev_cVI (b := 150) (av := [vI x1]) (S := []) (fun q => q) h dX11_fits_7 (fun Q' q => TX11_whyNot x1 _ q) kvX11_whyNot ml_X11_417 sh_150 rfl (RRc (by decide) (by decide)) (Nat.le_of_ble_eq_true rfl) ⟨Nat.le_of_ble_eq_true rfl, Nat.le_of_ble_eq_true rfl⟩ (fun y1 f1 h => ?_)
  refine ev_istore_n (i := 2) (L' := [some (vR 150), some (vI x1), some (vI y1)]) dX11_fits_10 rfl (by decide) rfl ?_
  refine ev_iload_n (i := 2) dX11_fits_11 rfl rfl ?_
  refine ev_if_eq (tgt := 17) dX11_fits_12 (by decide) (fun c3 => ?_) (fun c3 => ?_)
  · rw [if_pos c3] at h
    refine ev_aload_n (i := 0) dX11_fits_17 rfl rfl ?_
    refine ev_iload_n (i := 1) dX11_fits_18 rfl rfl ?_
    refine ev_iconst dX11_fits_19 (r32c rfl) ?_
    refine ev_cVV (b := 150) (av := [vI x1, vI 0]) (S := []) (fun q => q) h dX11_fits_20 (fun Q' q => TX11_laysFits x1 0 _ q) kvX11_laysFits ml_X11_420 sh_150 rfl (RRc (by decide) (by decide)) (Nat.le_of_ble_eq_true rfl) ⟨Nat.le_of_ble_eq_true rfl, Nat.le_of_ble_eq_true rfl⟩ (fun f2 h => ?_)
    refine ev_aload_n (i := 0) dX11_fits_23 rfl rfl ?_
    refine ex_getI (x := (f2 150 45)) dX11_fits_24 fl_X11_402 sh_150 (by decide) (by decide) rfl ?_
    exact ev_iret rfl dX11_fits_27 h
  · rw [if_neg c3] at h
    refine ev_iload_n (i := 2) dX11_fits_15 rfl rfl ?_
    exact ev_iret rfl dX11_fits_16 h
def FX11_fits (x1 : Int) (f : Mm) : Option (Int × Mm) := FX11_fits_0 x1 f
set_option maxRecDepth 100000 in
theorem TX11_fits {G : GT} {l : Launch} {Q : Option AV → Mem → Prop} (x1 : Int) (f : Mm) (h : OkI Q (FX11_fits x1 f)) : Ret G l MX11_fits (6) 0 0 [vR 150, vI x1] (SH, RF, f) Q := by
  refine ret_of (L := [some (vR 150), some (vI x1), none]) (by decide) rfl (Nat.le_of_ble_eq_true rfl) ?_
  exact SX11_fits_0 x1 f h
theorem dX11_slights_0 : decode cX11_slights 0 = .ok (.aload_n 0, 1) := by decide +kernel
theorem dX11_slights_1 : decode cX11_slights 1 = .ok (.iconst 0, 1) := by decide +kernel
theorem dX11_slights_2 : decode cX11_slights 2 = .ok (.putfield 98, 3) := by decide +kernel
theorem dX11_slights_5 : decode cX11_slights 5 = .ok (.aload_n 0, 1) := by decide +kernel
theorem dX11_slights_6 : decode cX11_slights 6 = .ok (.iload_n 1, 1) := by decide +kernel
theorem dX11_slights_7 : decode cX11_slights 7 = .ok (.invokevirtual 417, 3) := by decide +kernel
theorem dX11_slights_10 : decode cX11_slights 10 = .ok (.istore_n 2, 1) := by decide +kernel
theorem dX11_slights_11 : decode cX11_slights 11 = .ok (.iload_n 2, 1) := by decide +kernel
theorem dX11_slights_12 : decode cX11_slights 12 = .ok (.ifCond .eq 5, 3) := by decide +kernel
theorem dX11_slights_17 : decode cX11_slights 17 = .ok (.aload_n 0, 1) := by decide +kernel
theorem dX11_slights_18 : decode cX11_slights 18 = .ok (.iload_n 1, 1) := by decide +kernel
theorem dX11_slights_19 : decode cX11_slights 19 = .ok (.iconst 0, 1) := by decide +kernel
theorem dX11_slights_20 : decode cX11_slights 20 = .ok (.invokevirtual 420, 3) := by decide +kernel
theorem dX11_slights_23 : decode cX11_slights 23 = .ok (.aload_n 0, 1) := by decide +kernel
theorem dX11_slights_24 : decode cX11_slights 24 = .ok (.getfield 405, 3) := by decide +kernel
theorem dX11_slights_27 : decode cX11_slights 27 = .ok (.ireturn, 1) := by decide +kernel
theorem dX11_slights_15 : decode cX11_slights 15 = .ok (.iload_n 2, 1) := by decide +kernel
theorem dX11_slights_16 : decode cX11_slights 16 = .ok (.ireturn, 1) := by decide +kernel
def FX11_slights_0  (x1 : Int) (f : Mm) : Option (Int × Mm) := (b2 (FX11_whyNot x1 (up f 150 0 0)) fun y1 f1 => (if y1 = 0 then ((FX11_laysFits x1 0 f1).bind fun f2 => some ((f2 150 46), f2)) else some (y1, f1)))
set_option maxHeartbeats 4000000 in
set_option maxRecDepth 100000 in
theorem SX11_slights_0 {G : GT} {l : Launch} {Q : Option AV → Mem → Prop}  (x1 : Int) (f : Mm) (h : OkI Q (FX11_slights_0  x1 f)) : Ev G l MX11_slights (Rm 6 0 0) (ZM G Q 0 0) 0 0 0 [some (vR 150), some (vI x1), none] [] (SH, RF, f) := by
  unfold FX11_slights_0 at h
  refine ev_aload_n (i := 0) dX11_slights_0 rfl rfl ?_
  refine ev_iconst dX11_slights_1 (r32c rfl) ?_
  refine ev_putI dX11_slights_2 fl_X11_98 sh_150 (by decide) (by decide) ?_
  refine ev_aload_n (i := 0) dX11_slights_5 rfl rfl ?_
  refine ev_iload_n (i := 1) dX11_slights_6 rfl rfl ?_
  refine ev_cVI (b := 150) (av := [vI x1]) (S := []) (fun q => q) h dX11_slights_7 (fun Q' q => TX11_whyNot x1 _ q) kvX11_whyNot ml_X11_417 sh_150 rfl (RRc (by decide) (by decide)) (Nat.le_of_ble_eq_true rfl) ⟨Nat.le_of_ble_eq_true rfl, Nat.le_of_ble_eq_true rfl⟩ (fun y1 f1 h => ?_)
  refine ev_istore_n (i := 2) (L' := [some (vR 150), some (vI x1), some (vI y1)]) dX11_slights_10 rfl (by decide) rfl ?_
  refine ev_iload_n (i := 2) dX11_slights_11 rfl rfl ?_
  refine ev_if_eq (tgt := 17) dX11_slights_12 (by decide) (fun c3 => ?_) (fun c3 => ?_)
  · rw [if_pos c3] at h
    refine ev_aload_n (i := 0) dX11_slights_17 rfl rfl ?_
    refine ev_iload_n (i := 1) dX11_slights_18 rfl rfl ?_
    refine ev_iconst dX11_slights_19 (r32c rfl) ?_
    refine ev_cVV (b := 150) (av := [vI x1, vI 0]) (S := []) (fun q => q) h dX11_slights_20 (fun Q' q => TX11_laysFits x1 0 _ q) kvX11_laysFits ml_X11_420 sh_150 rfl (RRc (by decide) (by decide)) (Nat.le_of_ble_eq_true rfl) ⟨Nat.le_of_ble_eq_true rfl, Nat.le_of_ble_eq_true rfl⟩ (fun f2 h => ?_)
    refine ev_aload_n (i := 0) dX11_slights_23 rfl rfl ?_
    refine ex_getI (x := (f2 150 46)) dX11_slights_24 fl_X11_405 sh_150 (by decide) (by decide) rfl ?_
    exact ev_iret rfl dX11_slights_27 h
  · rw [if_neg c3] at h
    refine ev_iload_n (i := 2) dX11_slights_15 rfl rfl ?_
    exact ev_iret rfl dX11_slights_16 h
def FX11_slights (x1 : Int) (f : Mm) : Option (Int × Mm) := FX11_slights_0 x1 f
set_option maxRecDepth 100000 in
theorem TX11_slights {G : GT} {l : Launch} {Q : Option AV → Mem → Prop} (x1 : Int) (f : Mm) (h : OkI Q (FX11_slights x1 f)) : Ret G l MX11_slights (6) 0 0 [vR 150, vI x1] (SH, RF, f) Q := by
  refine ret_of (L := [some (vR 150), some (vI x1), none]) (by decide) rfl (Nat.le_of_ble_eq_true rfl) ?_
  exact SX11_slights_0 x1 f h
theorem dX11_slight_0 : decode cX11_slight 0 = .ok (.aload_n 0, 1) := by decide +kernel
theorem dX11_slight_1 : decode cX11_slight 1 = .ok (.iconst 0, 1) := by decide +kernel
theorem dX11_slight_2 : decode cX11_slight 2 = .ok (.putfield 98, 3) := by decide +kernel
theorem dX11_slight_5 : decode cX11_slight 5 = .ok (.aload_n 0, 1) := by decide +kernel
theorem dX11_slight_6 : decode cX11_slight 6 = .ok (.iload_n 1, 1) := by decide +kernel
theorem dX11_slight_7 : decode cX11_slight 7 = .ok (.invokevirtual 417, 3) := by decide +kernel
theorem dX11_slight_10 : decode cX11_slight 10 = .ok (.istore_n 2, 1) := by decide +kernel
theorem dX11_slight_11 : decode cX11_slight 11 = .ok (.iload_n 2, 1) := by decide +kernel
theorem dX11_slight_12 : decode cX11_slight 12 = .ok (.ifCond .eq 5, 3) := by decide +kernel
theorem dX11_slight_17 : decode cX11_slight 17 = .ok (.aload_n 0, 1) := by decide +kernel
theorem dX11_slight_18 : decode cX11_slight 18 = .ok (.iload_n 1, 1) := by decide +kernel
theorem dX11_slight_19 : decode cX11_slight 19 = .ok (.iconst 0, 1) := by decide +kernel
theorem dX11_slight_20 : decode cX11_slight 20 = .ok (.invokevirtual 420, 3) := by decide +kernel
theorem dX11_slight_23 : decode cX11_slight 23 = .ok (.aload_n 0, 1) := by decide +kernel
theorem dX11_slight_24 : decode cX11_slight 24 = .ok (.getfield 408, 3) := by decide +kernel
theorem dX11_slight_27 : decode cX11_slight 27 = .ok (.ireturn, 1) := by decide +kernel
theorem dX11_slight_15 : decode cX11_slight 15 = .ok (.iload_n 2, 1) := by decide +kernel
theorem dX11_slight_16 : decode cX11_slight 16 = .ok (.ireturn, 1) := by decide +kernel
def FX11_slight_0  (x1 : Int) (f : Mm) : Option (Int × Mm) := (b2 (FX11_whyNot x1 (up f 150 0 0)) fun y1 f1 => (if y1 = 0 then ((FX11_laysFits x1 0 f1).bind fun f2 => some ((f2 150 47), f2)) else some (y1, f1)))
set_option maxHeartbeats 4000000 in
set_option maxRecDepth 100000 in
theorem SX11_slight_0 {G : GT} {l : Launch} {Q : Option AV → Mem → Prop}  (x1 : Int) (f : Mm) (h : OkI Q (FX11_slight_0  x1 f)) : Ev G l MX11_slight (Rm 6 0 0) (ZM G Q 0 0) 0 0 0 [some (vR 150), some (vI x1), none] [] (SH, RF, f) := by
  unfold FX11_slight_0 at h
  refine ev_aload_n (i := 0) dX11_slight_0 rfl rfl ?_
  refine ev_iconst dX11_slight_1 (r32c rfl) ?_
  refine ev_putI dX11_slight_2 fl_X11_98 sh_150 (by decide) (by decide) ?_
  refine ev_aload_n (i := 0) dX11_slight_5 rfl rfl ?_
  refine ev_iload_n (i := 1) dX11_slight_6 rfl rfl ?_
  refine ev_cVI (b := 150) (av := [vI x1]) (S := []) (fun q => q) h dX11_slight_7 (fun Q' q => TX11_whyNot x1 _ q) kvX11_whyNot ml_X11_417 sh_150 rfl (RRc (by decide) (by decide)) (Nat.le_of_ble_eq_true rfl) ⟨Nat.le_of_ble_eq_true rfl, Nat.le_of_ble_eq_true rfl⟩ (fun y1 f1 h => ?_)
  refine ev_istore_n (i := 2) (L' := [some (vR 150), some (vI x1), some (vI y1)]) dX11_slight_10 rfl (by decide) rfl ?_
  refine ev_iload_n (i := 2) dX11_slight_11 rfl rfl ?_
  refine ev_if_eq (tgt := 17) dX11_slight_12 (by decide) (fun c3 => ?_) (fun c3 => ?_)
  · rw [if_pos c3] at h
    refine ev_aload_n (i := 0) dX11_slight_17 rfl rfl ?_
    refine ev_iload_n (i := 1) dX11_slight_18 rfl rfl ?_
    refine ev_iconst dX11_slight_19 (r32c rfl) ?_
    refine ev_cVV (b := 150) (av := [vI x1, vI 0]) (S := []) (fun q => q) h dX11_slight_20 (fun Q' q => TX11_laysFits x1 0 _ q) kvX11_laysFits ml_X11_420 sh_150 rfl (RRc (by decide) (by decide)) (Nat.le_of_ble_eq_true rfl) ⟨Nat.le_of_ble_eq_true rfl, Nat.le_of_ble_eq_true rfl⟩ (fun f2 h => ?_)
    refine ev_aload_n (i := 0) dX11_slight_23 rfl rfl ?_
    refine ex_getI (x := (f2 150 47)) dX11_slight_24 fl_X11_408 sh_150 (by decide) (by decide) rfl ?_
    exact ev_iret rfl dX11_slight_27 h
  · rw [if_neg c3] at h
    refine ev_iload_n (i := 2) dX11_slight_15 rfl rfl ?_
    exact ev_iret rfl dX11_slight_16 h
def FX11_slight (x1 : Int) (f : Mm) : Option (Int × Mm) := FX11_slight_0 x1 f
set_option maxRecDepth 100000 in
theorem TX11_slight {G : GT} {l : Launch} {Q : Option AV → Mem → Prop} (x1 : Int) (f : Mm) (h : OkI Q (FX11_slight x1 f)) : Ret G l MX11_slight (6) 0 0 [vR 150, vI x1] (SH, RF, f) Q := by
  refine ret_of (L := [some (vR 150), some (vI x1), none]) (by decide) rfl (Nat.le_of_ble_eq_true rfl) ?_
  exact SX11_slight_0 x1 f h
theorem dX11_laysAsk_62 : decode cX11_laysAsk 62 = .ok (.iinc 2 1, 3) := by decide +kernel
theorem dX11_laysAsk_65 : decode cX11_laysAsk 65 = .ok (.goto (-44), 3) := by decide +kernel
theorem dX11_laysAsk_21 : decode cX11_laysAsk 21 = .ok (.iload_n 2, 1) := by decide +kernel
theorem dX11_laysAsk_22 : decode cX11_laysAsk 22 = .ok (.aload_n 0, 1) := by decide +kernel
theorem dX11_laysAsk_23 : decode cX11_laysAsk 23 = .ok (.invokevirtual 266, 3) := by decide +kernel
theorem dX11_laysAsk_26 : decode cX11_laysAsk 26 = .ok (.if_icmp .ge 42, 3) := by decide +kernel
theorem dX11_laysAsk_68 : decode cX11_laysAsk 68 = .ok (.return_, 1) := by decide +kernel
theorem dX11_laysAsk_29 : decode cX11_laysAsk 29 = .ok (.aload_n 0, 1) := by decide +kernel
theorem dX11_laysAsk_30 : decode cX11_laysAsk 30 = .ok (.iload_n 1, 1) := by decide +kernel
theorem dX11_laysAsk_31 : decode cX11_laysAsk 31 = .ok (.iload_n 2, 1) := by decide +kernel
theorem dX11_laysAsk_32 : decode cX11_laysAsk 32 = .ok (.invokevirtual 420, 3) := by decide +kernel
theorem dX11_laysAsk_35 : decode cX11_laysAsk 35 = .ok (.aload_n 0, 1) := by decide +kernel
theorem dX11_laysAsk_36 : decode cX11_laysAsk 36 = .ok (.getfield 411, 3) := by decide +kernel
theorem dX11_laysAsk_39 : decode cX11_laysAsk 39 = .ok (.aload_n 0, 1) := by decide +kernel
theorem dX11_laysAsk_40 : decode cX11_laysAsk 40 = .ok (.getfield 426, 3) := by decide +kernel
theorem dX11_laysAsk_43 : decode cX11_laysAsk 43 = .ok (.if_icmp .lt 6, 3) := by decide +kernel
theorem dX11_laysAsk_49 : decode cX11_laysAsk 49 = .ok (.aload_n 0, 1) := by decide +kernel
theorem dX11_laysAsk_50 : decode cX11_laysAsk 50 = .ok (.iload_n 2, 1) := by decide +kernel
theorem dX11_laysAsk_51 : decode cX11_laysAsk 51 = .ok (.putfield 423, 3) := by decide +kernel
theorem dX11_laysAsk_54 : decode cX11_laysAsk 54 = .ok (.aload_n 0, 1) := by decide +kernel
theorem dX11_laysAsk_55 : decode cX11_laysAsk 55 = .ok (.aload_n 0, 1) := by decide +kernel
theorem dX11_laysAsk_56 : decode cX11_laysAsk 56 = .ok (.getfield 411, 3) := by decide +kernel
theorem dX11_laysAsk_59 : decode cX11_laysAsk 59 = .ok (.putfield 426, 3) := by decide +kernel
theorem dX11_laysAsk_46 : decode cX11_laysAsk 46 = .ok (.goto 16, 3) := by decide +kernel
theorem dX11_laysAsk_0 : decode cX11_laysAsk 0 = .ok (.aload_n 0, 1) := by decide +kernel
theorem dX11_laysAsk_1 : decode cX11_laysAsk 1 = .ok (.iload_n 1, 1) := by decide +kernel
theorem dX11_laysAsk_2 : decode cX11_laysAsk 2 = .ok (.iconst 0, 1) := by decide +kernel
theorem dX11_laysAsk_3 : decode cX11_laysAsk 3 = .ok (.invokevirtual 420, 3) := by decide +kernel
theorem dX11_laysAsk_6 : decode cX11_laysAsk 6 = .ok (.aload_n 0, 1) := by decide +kernel
theorem dX11_laysAsk_7 : decode cX11_laysAsk 7 = .ok (.iconst (-1), 1) := by decide +kernel
theorem dX11_laysAsk_8 : decode cX11_laysAsk 8 = .ok (.putfield 423, 3) := by decide +kernel
theorem dX11_laysAsk_11 : decode cX11_laysAsk 11 = .ok (.aload_n 0, 1) := by decide +kernel
theorem dX11_laysAsk_12 : decode cX11_laysAsk 12 = .ok (.aload_n 0, 1) := by decide +kernel
theorem dX11_laysAsk_13 : decode cX11_laysAsk 13 = .ok (.getfield 402, 3) := by decide +kernel
theorem dX11_laysAsk_16 : decode cX11_laysAsk 16 = .ok (.putfield 426, 3) := by decide +kernel
theorem dX11_laysAsk_19 : decode cX11_laysAsk 19 = .ok (.iconst 0, 1) := by decide +kernel
theorem dX11_laysAsk_20 : decode cX11_laysAsk 20 = .ok (.istore_n 2, 1) := by decide +kernel
def FX11_laysAsk_62 (k21 : Int → Int → Mm → Option Mm) (x1 : Int) (x2 : Int) (f : Mm) : Option Mm := k21 x1 (w32 (x2 + 1)) f
set_option maxHeartbeats 4000000 in
set_option maxRecDepth 100000 in
theorem SX11_laysAsk_62 {G : GT} {l : Launch} {Q : Option AV → Mem → Prop} {k21 : Int → Int → Mm → Option Mm} (q21 : ∀ (x1 : Int) (x2 : Int) (f : Mm), OkV Q (k21 x1 x2 f) → Ev G l MX11_laysAsk (Rm 6 0 0) (ZM G Q 0 0) 0 0 21 [some (vR 150), some (vI x1), some (vI x2)] [] (SH, RF, f)) (x1 : Int) (x2 : Int) (f : Mm) (h : OkV Q (FX11_laysAsk_62 k21 x1 x2 f)) : Ev G l MX11_laysAsk (Rm 6 0 0) (ZM G Q 0 0) 0 0 62 [some (vR 150), some (vI x1), some (vI x2)] [] (SH, RF, f) := by
  unfold FX11_laysAsk_62 at h
  refine ev_iinc (L' := [some (vR 150), some (vI x1), some (vI (w32 (x2 + 1)))]) dX11_laysAsk_62 rfl (by decide) rfl ?_
  refine ev_goto (tgt := 21) dX11_laysAsk_65 (by decide) ?_
  exact q21 x1 (w32 (x2 + 1)) _ h
def FX11_laysAsk_21  : Nat → Int → Int → Mm → Option Mm
  | 0, _, _, _ => none
  | n + 1, x1, x2, f => (b2 (FX11_days f) fun y1 f1 => (if y1 ≤ x2 then some f1 else ((FX11_laysFits x1 x2 f1).bind fun f2 => (if (f2 150 48) < (f2 150 50) then FX11_laysAsk_62 (FX11_laysAsk_21 n) x1 x2 (up (up f2 150 49 x2) 150 50 (f2 150 48)) else FX11_laysAsk_62 (FX11_laysAsk_21 n) x1 x2 f2))))
set_option maxHeartbeats 4000000 in
set_option maxRecDepth 100000 in
theorem SX11_laysAsk_21 {G : GT} {l : Launch} {Q : Option AV → Mem → Prop}  : ∀ (n : Nat) (x1 : Int) (x2 : Int) (f : Mm), OkV Q (FX11_laysAsk_21  n x1 x2 f) → Ev G l MX11_laysAsk (Rm 6 0 0) (ZM G Q 0 0) 0 0 21 [some (vR 150), some (vI x1), some (vI x2)] [] (SH, RF, f) := by
  intro n
  induction n with
  | zero => intro x1 x2 f h; exact absurd h (by rw [FX11_laysAsk_21]; exact fun q => q)
  | succ n ih =>
    intro x1 x2 f h
    rw [FX11_laysAsk_21] at h
    refine ev_iload_n (i := 2) dX11_laysAsk_21 rfl rfl ?_
    refine ev_aload_n (i := 0) dX11_laysAsk_22 rfl rfl ?_
    refine ev_cVI (b := 150) (av := []) (S := [vI x2]) (fun q => q) h dX11_laysAsk_23 (fun Q' q => TX11_days _ q) kvX11_days ml_X11_266 sh_150 rfl (RRc (by decide) (by decide)) (Nat.le_of_ble_eq_true rfl) ⟨Nat.le_of_ble_eq_true rfl, Nat.le_of_ble_eq_true rfl⟩ (fun y1 f1 h => ?_)
    refine ev_icmp_ge (tgt := 68) dX11_laysAsk_26 (by decide) (fun c4 => ?_) (fun c4 => ?_)
    · rw [if_pos c4] at h
      exact ev_vret rfl dX11_laysAsk_68 h
    · rw [if_neg c4] at h
      refine ev_aload_n (i := 0) dX11_laysAsk_29 rfl rfl ?_
      refine ev_iload_n (i := 1) dX11_laysAsk_30 rfl rfl ?_
      refine ev_iload_n (i := 2) dX11_laysAsk_31 rfl rfl ?_
      refine ev_cVV (b := 150) (av := [vI x1, vI x2]) (S := []) (fun q => q) h dX11_laysAsk_32 (fun Q' q => TX11_laysFits x1 x2 _ q) kvX11_laysFits ml_X11_420 sh_150 rfl (RRc (by decide) (by decide)) (Nat.le_of_ble_eq_true rfl) ⟨Nat.le_of_ble_eq_true rfl, Nat.le_of_ble_eq_true rfl⟩ (fun f2 h => ?_)
      refine ev_aload_n (i := 0) dX11_laysAsk_35 rfl rfl ?_
      refine ex_getI (x := (f2 150 48)) dX11_laysAsk_36 fl_X11_411 sh_150 (by decide) (by decide) rfl ?_
      refine ev_aload_n (i := 0) dX11_laysAsk_39 rfl rfl ?_
      refine ex_getI (x := (f2 150 50)) dX11_laysAsk_40 fl_X11_426 sh_150 (by decide) (by decide) rfl ?_
      refine ev_icmp_lt (tgt := 49) dX11_laysAsk_43 (by decide) (fun c3 => ?_) (fun c3 => ?_)
      · rw [if_pos c3] at h
        refine ev_aload_n (i := 0) dX11_laysAsk_49 rfl rfl ?_
        refine ev_iload_n (i := 2) dX11_laysAsk_50 rfl rfl ?_
        refine ev_putI dX11_laysAsk_51 fl_X11_423 sh_150 (by decide) (by decide) ?_
        refine ev_aload_n (i := 0) dX11_laysAsk_54 rfl rfl ?_
        refine ev_aload_n (i := 0) dX11_laysAsk_55 rfl rfl ?_
        refine ex_getI (x := (f2 150 48)) dX11_laysAsk_56 fl_X11_411 sh_150 (by decide) (by decide) rfl ?_
        refine ev_putI dX11_laysAsk_59 fl_X11_426 sh_150 (by decide) (by decide) ?_
        exact SX11_laysAsk_62 ih x1 x2 _ h
      · rw [if_neg c3] at h
        refine ev_goto (tgt := 62) dX11_laysAsk_46 (by decide) ?_
        exact SX11_laysAsk_62 ih x1 x2 _ h
def FX11_laysAsk_0  (x1 : Int) (f : Mm) : Option Mm := ((FX11_laysFits x1 0 f).bind fun f1 => FX11_laysAsk_21 fu x1 0 (up (up f1 150 49 (-1)) 150 50 (f1 150 45)))
set_option maxHeartbeats 4000000 in
set_option maxRecDepth 100000 in
theorem SX11_laysAsk_0 {G : GT} {l : Launch} {Q : Option AV → Mem → Prop}  (x1 : Int) (f : Mm) (h : OkV Q (FX11_laysAsk_0  x1 f)) : Ev G l MX11_laysAsk (Rm 6 0 0) (ZM G Q 0 0) 0 0 0 [some (vR 150), some (vI x1), none] [] (SH, RF, f) := by
  unfold FX11_laysAsk_0 at h
  refine ev_aload_n (i := 0) dX11_laysAsk_0 rfl rfl ?_
  refine ev_iload_n (i := 1) dX11_laysAsk_1 rfl rfl ?_
  refine ev_iconst dX11_laysAsk_2 (r32c rfl) ?_
  refine ev_cVV (b := 150) (av := [vI x1, vI 0]) (S := []) (fun q => q) h dX11_laysAsk_3 (fun Q' q => TX11_laysFits x1 0 _ q) kvX11_laysFits ml_X11_420 sh_150 rfl (RRc (by decide) (by decide)) (Nat.le_of_ble_eq_true rfl) ⟨Nat.le_of_ble_eq_true rfl, Nat.le_of_ble_eq_true rfl⟩ (fun f1 h => ?_)
  refine ev_aload_n (i := 0) dX11_laysAsk_6 rfl rfl ?_
  refine ev_iconst dX11_laysAsk_7 (r32c rfl) ?_
  refine ev_putI dX11_laysAsk_8 fl_X11_423 sh_150 (by decide) (by decide) ?_
  refine ev_aload_n (i := 0) dX11_laysAsk_11 rfl rfl ?_
  refine ev_aload_n (i := 0) dX11_laysAsk_12 rfl rfl ?_
  refine ex_getI (x := (f1 150 45)) dX11_laysAsk_13 fl_X11_402 sh_150 (by decide) (by decide) rfl ?_
  refine ev_putI dX11_laysAsk_16 fl_X11_426 sh_150 (by decide) (by decide) ?_
  refine ev_iconst dX11_laysAsk_19 (r32c rfl) ?_
  refine ev_istore_n (i := 2) (L' := [some (vR 150), some (vI x1), some (vI 0)]) dX11_laysAsk_20 rfl (by decide) rfl ?_
  exact SX11_laysAsk_21  fu x1 0 _ h
def FX11_laysAsk (x1 : Int) (f : Mm) : Option Mm := FX11_laysAsk_0 x1 f
set_option maxRecDepth 100000 in
theorem TX11_laysAsk {G : GT} {l : Launch} {Q : Option AV → Mem → Prop} (x1 : Int) (f : Mm) (h : OkV Q (FX11_laysAsk x1 f)) : Ret G l MX11_laysAsk (6) 0 0 [vR 150, vI x1] (SH, RF, f) Q := by
  refine ret_of (L := [some (vR 150), some (vI x1), none]) (by decide) rfl (Nat.le_of_ble_eq_true rfl) ?_
  exact SX11_laysAsk_0 x1 f h

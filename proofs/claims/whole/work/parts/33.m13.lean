theorem dX10_does_30 : decode cX10_does 30 = .ok (.aload_n 0, 1) := by decide +kernel
theorem dX10_does_31 : decode cX10_does 31 = .ok (.getfield 19, 3) := by decide +kernel
theorem dX10_does_34 : decode cX10_does 34 = .ok (.getfield 365, 3) := by decide +kernel
theorem dX10_does_37 : decode cX10_does 37 = .ok (.bipush 40, 2) := by decide +kernel
theorem dX10_does_39 : decode cX10_does 39 = .ok (.if_icmp .lt 6, 3) := by decide +kernel
theorem dX10_does_45 : decode cX10_does 45 = .ok (.aload_n 0, 1) := by decide +kernel
theorem dX10_does_46 : decode cX10_does 46 = .ok (.getfield 19, 3) := by decide +kernel
theorem dX10_does_49 : decode cX10_does 49 = .ok (.iload_n 1, 1) := by decide +kernel
theorem dX10_does_50 : decode cX10_does 50 = .ok (.iload_n 2, 1) := by decide +kernel
theorem dX10_does_51 : decode cX10_does 51 = .ok (.invokevirtual 368, 3) := by decide +kernel
theorem dX10_does_54 : decode cX10_does 54 = .ok (.ireturn, 1) := by decide +kernel
theorem dX10_does_42 : decode cX10_does 42 = .ok (.bipush (-5), 2) := by decide +kernel
theorem dX10_does_44 : decode cX10_does 44 = .ok (.ireturn, 1) := by decide +kernel
theorem dX10_does_0 : decode cX10_does 0 = .ok (.aload_n 0, 1) := by decide +kernel
theorem dX10_does_1 : decode cX10_does 1 = .ok (.getfield 19, 3) := by decide +kernel
theorem dX10_does_4 : decode cX10_does 4 = .ok (.iload_n 1, 1) := by decide +kernel
theorem dX10_does_5 : decode cX10_does 5 = .ok (.invokevirtual 126, 3) := by decide +kernel
theorem dX10_does_8 : decode cX10_does 8 = .ok (.ifCond .eq 19, 3) := by decide +kernel
theorem dX10_does_27 : decode cX10_does 27 = .ok (.bipush (-2), 2) := by decide +kernel
theorem dX10_does_29 : decode cX10_does 29 = .ok (.ireturn, 1) := by decide +kernel
theorem dX10_does_11 : decode cX10_does 11 = .ok (.iload_n 2, 1) := by decide +kernel
theorem dX10_does_12 : decode cX10_does 12 = .ok (.iconst (-1), 1) := by decide +kernel
theorem dX10_does_13 : decode cX10_does 13 = .ok (.if_icmp .eq 17, 3) := by decide +kernel
theorem dX10_does_16 : decode cX10_does 16 = .ok (.aload_n 0, 1) := by decide +kernel
theorem dX10_does_17 : decode cX10_does 17 = .ok (.getfield 19, 3) := by decide +kernel
theorem dX10_does_20 : decode cX10_does 20 = .ok (.iload_n 2, 1) := by decide +kernel
theorem dX10_does_21 : decode cX10_does 21 = .ok (.invokevirtual 109, 3) := by decide +kernel
theorem dX10_does_24 : decode cX10_does 24 = .ok (.ifCond .ne 6, 3) := by decide +kernel
def FX10_does_30  (x1 : Int) (x2 : Int) (f : Mm) : Option (Int × Mm) := (if (f 4 6) < 40 then (b2 (FX0_act_4 x1 x2 f) fun y1 f1 => some (y1, f1)) else some ((-5), f))
set_option maxHeartbeats 4000000 in
set_option maxRecDepth 100000 in
theorem SX10_does_30 {G : GT} {l : Launch} {Q : Option AV → Mem → Prop}  (x1 : Int) (x2 : Int) (f : Mm) (h : OkI Q (FX10_does_30  x1 x2 f)) : Ev G l MX10_does (Rm 3 0 0) (ZM G Q 0 0) 0 0 30 [some (vR 0), some (vI x1), some (vI x2)] [] (SH, RF, f) := by
  unfold FX10_does_30 at h
  refine ev_aload_n (i := 0) dX10_does_30 rfl rfl ?_
  refine ev_getR dX10_does_31 fl_X10_19 sh_0 (by decide) (by decide) rf_0_1 ?_
  refine ex_getI (x := (f 4 6)) dX10_does_34 fl_X10_365 sh_4 (by decide) (by decide) rfl ?_
  refine ev_bipush (v := 40) dX10_does_37 (r32c rfl) (by decide) ?_
  refine ev_icmp_lt (tgt := 45) dX10_does_39 (by decide) (fun c2 => ?_) (fun c2 => ?_)
  · rw [if_pos c2] at h
    refine ev_aload_n (i := 0) dX10_does_45 rfl rfl ?_
    refine ev_getR dX10_does_46 fl_X10_19 sh_0 (by decide) (by decide) rf_0_1 ?_
    refine ev_iload_n (i := 1) dX10_does_49 rfl rfl ?_
    refine ev_iload_n (i := 2) dX10_does_50 rfl rfl ?_
    refine ev_cVI (b := 4) (av := [vI x1, vI x2]) (S := []) (fun q => q) h dX10_does_51 (fun Q' q => TX0_act_4 x1 x2 _ q) kvX0_act ml_X10_368 sh_4 rfl (RRc (by decide) (by decide)) (Nat.le_of_ble_eq_true rfl) ⟨Nat.le_of_ble_eq_true rfl, Nat.le_of_ble_eq_true rfl⟩ (fun y1 f1 h => ?_)
    exact ev_iret rfl dX10_does_54 h
  · rw [if_neg c2] at h
    refine ev_bipush (v := (-5)) dX10_does_42 (r32c rfl) (by decide) ?_
    exact ev_iret rfl dX10_does_44 h
def FX10_does_0  (x1 : Int) (x2 : Int) (f : Mm) : Option (Int × Mm) := (b2 (FX0_hasDay_4 x1 f) fun y1 f1 => (if y1 = 0 then some ((-2), f1) else (if x2 = (-1) then FX10_does_30 x1 x2 f1 else (b2 (FX0_hasDeed_4 x2 f1) fun y2 f2 => (if y2 = 0 then some ((-2), f2) else FX10_does_30 x1 x2 f2)))))
set_option maxHeartbeats 4000000 in
set_option maxRecDepth 100000 in
theorem SX10_does_0 {G : GT} {l : Launch} {Q : Option AV → Mem → Prop}  (x1 : Int) (x2 : Int) (f : Mm) (h : OkI Q (FX10_does_0  x1 x2 f)) : Ev G l MX10_does (Rm 3 0 0) (ZM G Q 0 0) 0 0 0 [some (vR 0), some (vI x1), some (vI x2)] [] (SH, RF, f) := by
  unfold FX10_does_0 at h
  refine ev_aload_n (i := 0) dX10_does_0 rfl rfl ?_
  refine ev_getR dX10_does_1 fl_X10_19 sh_0 (by decide) (by decide) rf_0_1 ?_
  refine ev_iload_n (i := 1) dX10_does_4 rfl rfl ?_
  refine ev_cVI (b := 4) (av := [vI x1]) (S := []) (fun q => q) h dX10_does_5 (fun Q' q => TX0_hasDay_4 x1 _ q) kvX0_hasDay ml_X10_126 sh_4 rfl (RRc (by decide) (by decide)) (Nat.le_of_ble_eq_true rfl) ⟨Nat.le_of_ble_eq_true rfl, Nat.le_of_ble_eq_true rfl⟩ (fun y1 f1 h => ?_)
  refine ev_if_eq (tgt := 27) dX10_does_8 (by decide) (fun c5 => ?_) (fun c5 => ?_)
  · rw [if_pos c5] at h
    refine ev_bipush (v := (-2)) dX10_does_27 (r32c rfl) (by decide) ?_
    exact ev_iret rfl dX10_does_29 h
  · rw [if_neg c5] at h
    refine ev_iload_n (i := 2) dX10_does_11 rfl rfl ?_
    refine ev_iconst dX10_does_12 (r32c rfl) ?_
    refine ev_icmp_eq (tgt := 30) dX10_does_13 (by decide) (fun c4 => ?_) (fun c4 => ?_)
    · rw [if_pos c4] at h
      exact SX10_does_30  x1 x2 _ h
    · rw [if_neg c4] at h
      refine ev_aload_n (i := 0) dX10_does_16 rfl rfl ?_
      refine ev_getR dX10_does_17 fl_X10_19 sh_0 (by decide) (by decide) rf_0_1 ?_
      refine ev_iload_n (i := 2) dX10_does_20 rfl rfl ?_
      refine ev_cVI (b := 4) (av := [vI x2]) (S := []) (fun q => q) h dX10_does_21 (fun Q' q => TX0_hasDeed_4 x2 _ q) kvX0_hasDeed ml_X10_109 sh_4 rfl (RRc (by decide) (by decide)) (Nat.le_of_ble_eq_true rfl) ⟨Nat.le_of_ble_eq_true rfl, Nat.le_of_ble_eq_true rfl⟩ (fun y2 f2 h => ?_)
      refine ev_if_ne (tgt := 30) dX10_does_24 (by decide) (fun c3 => ?_) (fun c3 => ?_)
      · rw [if_neg c3] at h
        exact SX10_does_30  x1 x2 _ h
      · rw [if_pos c3] at h
        refine ev_bipush (v := (-2)) dX10_does_27 (r32c rfl) (by decide) ?_
        exact ev_iret rfl dX10_does_29 h
def FX10_does (x1 : Int) (x2 : Int) (f : Mm) : Option (Int × Mm) := FX10_does_0 x1 x2 f
set_option maxRecDepth 100000 in
theorem TX10_does {G : GT} {l : Launch} {Q : Option AV → Mem → Prop} (x1 : Int) (x2 : Int) (f : Mm) (h : OkI Q (FX10_does x1 x2 f)) : Ret G l MX10_does (3) 0 0 [vR 0, vI x1, vI x2] (SH, RF, f) Q := by
  refine ret_of (L := [some (vR 0), some (vI x1), some (vI x2)]) (by decide) rfl (Nat.le_of_ble_eq_true rfl) ?_
  exact SX10_does_0 x1 x2 f h
theorem dX0_takeBack_0 : decode cX0_takeBack 0 = .ok (.aload_n 0, 1) := by decide +kernel
theorem dX0_takeBack_1 : decode cX0_takeBack 1 = .ok (.getfield 54, 3) := by decide +kernel
theorem dX0_takeBack_4 : decode cX0_takeBack 4 = .ok (.ifCond .le 36, 3) := by decide +kernel
theorem dX0_takeBack_40 : decode cX0_takeBack 40 = .ok (.return_, 1) := by decide +kernel
theorem dX0_takeBack_7 : decode cX0_takeBack 7 = .ok (.aload_n 0, 1) := by decide +kernel
theorem dX0_takeBack_8 : decode cX0_takeBack 8 = .ok (.dup, 1) := by decide +kernel
theorem dX0_takeBack_9 : decode cX0_takeBack 9 = .ok (.getfield 54, 3) := by decide +kernel
theorem dX0_takeBack_12 : decode cX0_takeBack 12 = .ok (.iconst 1, 1) := by decide +kernel
theorem dX0_takeBack_13 : decode cX0_takeBack 13 = .ok (.isub, 1) := by decide +kernel
theorem dX0_takeBack_14 : decode cX0_takeBack 14 = .ok (.putfield 54, 3) := by decide +kernel
theorem dX0_takeBack_17 : decode cX0_takeBack 17 = .ok (.aload_n 0, 1) := by decide +kernel
theorem dX0_takeBack_18 : decode cX0_takeBack 18 = .ok (.getfield 23, 3) := by decide +kernel
theorem dX0_takeBack_21 : decode cX0_takeBack 21 = .ok (.aload_n 0, 1) := by decide +kernel
theorem dX0_takeBack_22 : decode cX0_takeBack 22 = .ok (.getfield 26, 3) := by decide +kernel
theorem dX0_takeBack_25 : decode cX0_takeBack 25 = .ok (.aload_n 0, 1) := by decide +kernel
theorem dX0_takeBack_26 : decode cX0_takeBack 26 = .ok (.getfield 54, 3) := by decide +kernel
theorem dX0_takeBack_29 : decode cX0_takeBack 29 = .ok (.iaload, 1) := by decide +kernel
theorem dX0_takeBack_30 : decode cX0_takeBack 30 = .ok (.aload_n 0, 1) := by decide +kernel
theorem dX0_takeBack_31 : decode cX0_takeBack 31 = .ok (.getfield 29, 3) := by decide +kernel
theorem dX0_takeBack_34 : decode cX0_takeBack 34 = .ok (.aload_n 0, 1) := by decide +kernel
theorem dX0_takeBack_35 : decode cX0_takeBack 35 = .ok (.getfield 54, 3) := by decide +kernel
theorem dX0_takeBack_38 : decode cX0_takeBack 38 = .ok (.iaload, 1) := by decide +kernel
theorem dX0_takeBack_39 : decode cX0_takeBack 39 = .ok (.iastore, 1) := by decide +kernel
def FX0_takeBack_4_0   (f : Mm) : Option Mm := (if (f 4 6) ≤ 0 then some f else (if 0 ≤ (w32 ((f 4 6) - 1)) ∧ (w32 ((f 4 6) - 1)) < 40 then (if 0 ≤ (w32 ((f 4 6) - 1)) ∧ (w32 ((f 4 6) - 1)) < 40 then (if 0 ≤ (f 19 (w32 ((f 4 6) - 1)).toNat) ∧ (f 19 (w32 ((f 4 6) - 1)).toNat) < 6 then some (up (up f 4 6 (w32 ((f 4 6) - 1))) 18 (f 19 (w32 ((f 4 6) - 1)).toNat).toNat (f 20 (w32 ((f 4 6) - 1)).toNat)) else none) else none) else none))
set_option maxHeartbeats 4000000 in
set_option maxRecDepth 100000 in
theorem SX0_takeBack_4_0 {G : GT} {l : Launch} {Q : Option AV → Mem → Prop}   (f : Mm) (h : OkV Q (FX0_takeBack_4_0   f)) : Ev G l MX0_takeBack (Rm 1 0 0) (ZM G Q 0 0) 0 0 0 [some (vR 4)] [] (SH, RF, f) := by
  unfold FX0_takeBack_4_0 at h
  refine ev_aload_n (i := 0) dX0_takeBack_0 rfl rfl ?_
  refine ex_getI (x := (f 4 6)) dX0_takeBack_1 fl_X0_54 sh_4 (by decide) (by decide) rfl ?_
  refine ev_if_le (tgt := 40) dX0_takeBack_4 (by decide) (fun c4 => ?_) (fun c4 => ?_)
  · rw [if_pos c4] at h
    exact ev_vret rfl dX0_takeBack_40 h
  · rw [if_neg c4] at h
    refine ev_aload_n (i := 0) dX0_takeBack_7 rfl rfl ?_
    refine ev_dupR dX0_takeBack_8 ?_
    refine ex_getI (x := (f 4 6)) dX0_takeBack_9 fl_X0_54 sh_4 (by decide) (by decide) rfl ?_
    refine ev_iconst dX0_takeBack_12 (r32c rfl) ?_
    refine ev_isub dX0_takeBack_13 ?_
    refine ev_putI dX0_takeBack_14 fl_X0_54 sh_4 (by decide) (by decide) ?_
    refine ev_aload_n (i := 0) dX0_takeBack_17 rfl rfl ?_
    refine ev_getR dX0_takeBack_18 fl_X0_23 sh_4 (by decide) (by decide) rf_4_10 ?_
    refine ev_aload_n (i := 0) dX0_takeBack_21 rfl rfl ?_
    refine ev_getR dX0_takeBack_22 fl_X0_26 sh_4 (by decide) (by decide) rf_4_11 ?_
    refine ev_aload_n (i := 0) dX0_takeBack_25 rfl rfl ?_
    refine ex_getI (x := (w32 ((f 4 6) - 1))) dX0_takeBack_26 fl_X0_54 sh_4 (by decide) (by decide) rfl ?_
    by_cases g1 : 0 ≤ (w32 ((f 4 6) - 1)) ∧ (w32 ((f 4 6) - 1)) < 40
    · rw [if_pos g1] at h
      refine ex_iald (x := (f 19 (w32 ((f 4 6) - 1)).toNat)) dX0_takeBack_29 sh_19 g1.1 g1.2 rfl ?_
      refine ev_aload_n (i := 0) dX0_takeBack_30 rfl rfl ?_
      refine ev_getR dX0_takeBack_31 fl_X0_29 sh_4 (by decide) (by decide) rf_4_12 ?_
      refine ev_aload_n (i := 0) dX0_takeBack_34 rfl rfl ?_
      refine ex_getI (x := (w32 ((f 4 6) - 1))) dX0_takeBack_35 fl_X0_54 sh_4 (by decide) (by decide) rfl ?_
      by_cases g2 : 0 ≤ (w32 ((f 4 6) - 1)) ∧ (w32 ((f 4 6) - 1)) < 40
      · rw [if_pos g2] at h
        refine ex_iald (x := (f 20 (w32 ((f 4 6) - 1)).toNat)) dX0_takeBack_38 sh_20 g2.1 g2.2 rfl ?_
        by_cases g3 : 0 ≤ (f 19 (w32 ((f 4 6) - 1)).toNat) ∧ (f 19 (w32 ((f 4 6) - 1)).toNat) < 6
        · rw [if_pos g3] at h
          refine ex_iast (j := (f 19 (w32 ((f 4 6) - 1)).toNat).toNat) dX0_takeBack_39 sh_18 g3.1 g3.2 rfl ?_
          exact ev_vret rfl dX0_takeBack_40 h
        · rw [if_neg g3] at h; exact h.elim
      · rw [if_neg g2] at h; exact h.elim
    · rw [if_neg g1] at h; exact h.elim
def FX0_takeBack_4  (f : Mm) : Option Mm := FX0_takeBack_4_0  f
set_option maxRecDepth 100000 in
theorem TX0_takeBack_4 {G : GT} {l : Launch} {Q : Option AV → Mem → Prop}  (f : Mm) (h : OkV Q (FX0_takeBack_4  f)) : Ret G l MX0_takeBack (1) 0 0 [vR 4] (SH, RF, f) Q := by
  refine ret_of (L := [some (vR 4)]) (by decide) rfl (Nat.le_of_ble_eq_true rfl) ?_
  exact SX0_takeBack_4_0  f h
theorem dX10_undo_0 : decode cX10_undo 0 = .ok (.aload_n 0, 1) := by decide +kernel
theorem dX10_undo_1 : decode cX10_undo 1 = .ok (.getfield 19, 3) := by decide +kernel
theorem dX10_undo_4 : decode cX10_undo 4 = .ok (.invokevirtual 140, 3) := by decide +kernel
theorem dX10_undo_7 : decode cX10_undo 7 = .ok (.ifCond .ne 6, 3) := by decide +kernel
theorem dX10_undo_13 : decode cX10_undo 13 = .ok (.aload_n 0, 1) := by decide +kernel
theorem dX10_undo_14 : decode cX10_undo 14 = .ok (.getfield 19, 3) := by decide +kernel
theorem dX10_undo_17 : decode cX10_undo 17 = .ok (.getfield 365, 3) := by decide +kernel
theorem dX10_undo_20 : decode cX10_undo 20 = .ok (.ifCond .gt 6, 3) := by decide +kernel
theorem dX10_undo_26 : decode cX10_undo 26 = .ok (.aload_n 0, 1) := by decide +kernel
theorem dX10_undo_27 : decode cX10_undo 27 = .ok (.getfield 19, 3) := by decide +kernel
theorem dX10_undo_30 : decode cX10_undo 30 = .ok (.invokevirtual 371, 3) := by decide +kernel
theorem dX10_undo_33 : decode cX10_undo 33 = .ok (.aload_n 0, 1) := by decide +kernel
theorem dX10_undo_34 : decode cX10_undo 34 = .ok (.getfield 19, 3) := by decide +kernel
theorem dX10_undo_37 : decode cX10_undo 37 = .ok (.getfield 365, 3) := by decide +kernel
theorem dX10_undo_40 : decode cX10_undo 40 = .ok (.ireturn, 1) := by decide +kernel
theorem dX10_undo_23 : decode cX10_undo 23 = .ok (.bipush (-5), 2) := by decide +kernel
theorem dX10_undo_25 : decode cX10_undo 25 = .ok (.ireturn, 1) := by decide +kernel
theorem dX10_undo_10 : decode cX10_undo 10 = .ok (.bipush (-2), 2) := by decide +kernel
theorem dX10_undo_12 : decode cX10_undo 12 = .ok (.ireturn, 1) := by decide +kernel
def FX10_undo_0   (f : Mm) : Option (Int × Mm) := (b2 (FX0_stands_4 f) fun y1 f1 => (if y1 = 0 then some ((-2), f1) else (if 0 < (f1 4 6) then ((FX0_takeBack_4 f1).bind fun f2 => some ((f2 4 6), f2)) else some ((-5), f1))))
set_option maxHeartbeats 4000000 in
set_option maxRecDepth 100000 in
theorem SX10_undo_0 {G : GT} {l : Launch} {Q : Option AV → Mem → Prop}   (f : Mm) (h : OkI Q (FX10_undo_0   f)) : Ev G l MX10_undo (Rm 2 0 0) (ZM G Q 0 0) 0 0 0 [some (vR 0)] [] (SH, RF, f) := by
  unfold FX10_undo_0 at h
  refine ev_aload_n (i := 0) dX10_undo_0 rfl rfl ?_
  refine ev_getR dX10_undo_1 fl_X10_19 sh_0 (by decide) (by decide) rf_0_1 ?_
  refine ev_cVI (b := 4) (av := []) (S := []) (fun q => q) h dX10_undo_4 (fun Q' q => TX0_stands_4 _ q) kvX0_stands ml_X10_140 sh_4 rfl (RRc (by decide) (by decide)) (Nat.le_of_ble_eq_true rfl) ⟨Nat.le_of_ble_eq_true rfl, Nat.le_of_ble_eq_true rfl⟩ (fun y1 f1 h => ?_)
  refine ev_if_ne (tgt := 13) dX10_undo_7 (by decide) (fun c4 => ?_) (fun c4 => ?_)
  · rw [if_neg c4] at h
    refine ev_aload_n (i := 0) dX10_undo_13 rfl rfl ?_
    refine ev_getR dX10_undo_14 fl_X10_19 sh_0 (by decide) (by decide) rf_0_1 ?_
    refine ex_getI (x := (f1 4 6)) dX10_undo_17 fl_X10_365 sh_4 (by decide) (by decide) rfl ?_
    refine ev_if_gt (tgt := 26) dX10_undo_20 (by decide) (fun c3 => ?_) (fun c3 => ?_)
    · rw [if_pos c3] at h
      refine ev_aload_n (i := 0) dX10_undo_26 rfl rfl ?_
      refine ev_getR dX10_undo_27 fl_X10_19 sh_0 (by decide) (by decide) rf_0_1 ?_
      refine ev_cVV (b := 4) (av := []) (S := []) (fun q => q) h dX10_undo_30 (fun Q' q => TX0_takeBack_4 _ q) kvX0_takeBack ml_X10_371 sh_4 rfl (RRc (by decide) (by decide)) (Nat.le_of_ble_eq_true rfl) ⟨Nat.le_of_ble_eq_true rfl, Nat.le_of_ble_eq_true rfl⟩ (fun f2 h => ?_)
      refine ev_aload_n (i := 0) dX10_undo_33 rfl rfl ?_
      refine ev_getR dX10_undo_34 fl_X10_19 sh_0 (by decide) (by decide) rf_0_1 ?_
      refine ex_getI (x := (f2 4 6)) dX10_undo_37 fl_X10_365 sh_4 (by decide) (by decide) rfl ?_
      exact ev_iret rfl dX10_undo_40 h
    · rw [if_neg c3] at h
      refine ev_bipush (v := (-5)) dX10_undo_23 (r32c rfl) (by decide) ?_
      exact ev_iret rfl dX10_undo_25 h
  · rw [if_pos c4] at h
    refine ev_bipush (v := (-2)) dX10_undo_10 (r32c rfl) (by decide) ?_
    exact ev_iret rfl dX10_undo_12 h
def FX10_undo  (f : Mm) : Option (Int × Mm) := FX10_undo_0  f
set_option maxRecDepth 100000 in
theorem TX10_undo {G : GT} {l : Launch} {Q : Option AV → Mem → Prop}  (f : Mm) (h : OkI Q (FX10_undo  f)) : Ret G l MX10_undo (2) 0 0 [vR 0] (SH, RF, f) Q := by
  refine ret_of (L := [some (vR 0)]) (by decide) rfl (Nat.le_of_ble_eq_true rfl) ?_
  exact SX10_undo_0  f h
def FX0_takeAllBack_4_7  : Nat → Int → Mm → Option Mm
  | 0, _, _ => none
  | n + 1, x1, f => (if 6 ≤ x1 then some f else (if 0 ≤ x1 ∧ x1 < 6 then FX0_takeAllBack_4_7 n (w32 (x1 + 1)) (up f 18 x1.toNat (-1)) else none))
set_option maxHeartbeats 4000000 in
set_option maxRecDepth 100000 in
theorem SX0_takeAllBack_4_7 {G : GT} {l : Launch} {Q : Option AV → Mem → Prop}  : ∀ (n : Nat) (x1 : Int) (f : Mm), OkV Q (FX0_takeAllBack_4_7  n x1 f) → Ev G l MX0_takeAllBack (Rm 1 0 0) (ZM G Q 0 0) 0 0 7 [some (vR 4), some (vI x1)] [] (SH, RF, f) := by
  intro n
  induction n with
  | zero => intro x1 f h; exact absurd h (by rw [FX0_takeAllBack_4_7]; exact fun q => q)
  | succ n ih =>
    intro x1 f h
    rw [FX0_takeAllBack_4_7] at h
    refine ev_iload_n (i := 1) dX0_takeAllBack_7 rfl rfl ?_
    refine ev_bipush (v := 6) dX0_takeAllBack_8 (r32c rfl) (by decide) ?_
    refine ev_icmp_ge (tgt := 26) dX0_takeAllBack_10 (by decide) (fun c2 => ?_) (fun c2 => ?_)
    · rw [if_pos c2] at h
      exact ev_vret rfl dX0_takeAllBack_26 h
    · rw [if_neg c2] at h
      refine ev_aload_n (i := 0) dX0_takeAllBack_13 rfl rfl ?_
      refine ev_getR dX0_takeAllBack_14 fl_X0_23 sh_4 (by decide) (by decide) rf_4_10 ?_
      refine ev_iload_n (i := 1) dX0_takeAllBack_17 rfl rfl ?_
      refine ev_iconst dX0_takeAllBack_18 (r32c rfl) ?_
      by_cases g1 : 0 ≤ x1 ∧ x1 < 6
      · rw [if_pos g1] at h
        refine ex_iast (j := x1.toNat) dX0_takeAllBack_19 sh_18 g1.1 g1.2 rfl ?_
        refine ev_iinc (L' := [some (vR 4), some (vI (w32 (x1 + 1)))]) dX0_takeAllBack_20 rfl (by decide) rfl ?_
        refine ev_goto (tgt := 7) dX0_takeAllBack_23 (by decide) ?_
        exact ih (w32 (x1 + 1)) _ h
      · rw [if_neg g1] at h; exact h.elim
def FX0_takeAllBack_4_0   (f : Mm) : Option Mm := FX0_takeAllBack_4_7 fu 0 (up f 4 6 0)
set_option maxHeartbeats 4000000 in
set_option maxRecDepth 100000 in
theorem SX0_takeAllBack_4_0 {G : GT} {l : Launch} {Q : Option AV → Mem → Prop}   (f : Mm) (h : OkV Q (FX0_takeAllBack_4_0   f)) : Ev G l MX0_takeAllBack (Rm 1 0 0) (ZM G Q 0 0) 0 0 0 [some (vR 4), none] [] (SH, RF, f) := by
  unfold FX0_takeAllBack_4_0 at h
  refine ev_aload_n (i := 0) dX0_takeAllBack_0 rfl rfl ?_
  refine ev_iconst dX0_takeAllBack_1 (r32c rfl) ?_
  refine ev_putI dX0_takeAllBack_2 fl_X0_54 sh_4 (by decide) (by decide) ?_
  refine ev_iconst dX0_takeAllBack_5 (r32c rfl) ?_
  refine ev_istore_n (i := 1) (L' := [some (vR 4), some (vI 0)]) dX0_takeAllBack_6 rfl (by decide) rfl ?_
  exact SX0_takeAllBack_4_7  fu 0 _ h
def FX0_takeAllBack_4  (f : Mm) : Option Mm := FX0_takeAllBack_4_0  f
set_option maxRecDepth 100000 in
theorem TX0_takeAllBack_4 {G : GT} {l : Launch} {Q : Option AV → Mem → Prop}  (f : Mm) (h : OkV Q (FX0_takeAllBack_4  f)) : Ret G l MX0_takeAllBack (1) 0 0 [vR 4] (SH, RF, f) Q := by
  refine ret_of (L := [some (vR 4), none]) (by decide) rfl (Nat.le_of_ble_eq_true rfl) ?_
  exact SX0_takeAllBack_4_0  f h
theorem dX10_anew_0 : decode cX10_anew 0 = .ok (.aload_n 0, 1) := by decide +kernel
theorem dX10_anew_1 : decode cX10_anew 1 = .ok (.getfield 19, 3) := by decide +kernel
theorem dX10_anew_4 : decode cX10_anew 4 = .ok (.invokevirtual 140, 3) := by decide +kernel
theorem dX10_anew_7 : decode cX10_anew 7 = .ok (.ifCond .ne 6, 3) := by decide +kernel
theorem dX10_anew_13 : decode cX10_anew 13 = .ok (.aload_n 0, 1) := by decide +kernel
theorem dX10_anew_14 : decode cX10_anew 14 = .ok (.getfield 19, 3) := by decide +kernel
theorem dX10_anew_17 : decode cX10_anew 17 = .ok (.getfield 365, 3) := by decide +kernel
theorem dX10_anew_20 : decode cX10_anew 20 = .ok (.istore_n 1, 1) := by decide +kernel
theorem dX10_anew_21 : decode cX10_anew 21 = .ok (.aload_n 0, 1) := by decide +kernel
theorem dX10_anew_22 : decode cX10_anew 22 = .ok (.getfield 19, 3) := by decide +kernel
theorem dX10_anew_25 : decode cX10_anew 25 = .ok (.invokevirtual 374, 3) := by decide +kernel
theorem dX10_anew_28 : decode cX10_anew 28 = .ok (.iload_n 1, 1) := by decide +kernel
theorem dX10_anew_29 : decode cX10_anew 29 = .ok (.ireturn, 1) := by decide +kernel
theorem dX10_anew_10 : decode cX10_anew 10 = .ok (.bipush (-2), 2) := by decide +kernel
theorem dX10_anew_12 : decode cX10_anew 12 = .ok (.ireturn, 1) := by decide +kernel
def FX10_anew_0   (f : Mm) : Option (Int × Mm) := (b2 (FX0_stands_4 f) fun y1 f1 => (if y1 = 0 then some ((-2), f1) else ((FX0_takeAllBack_4 f1).bind fun f2 => some ((f1 4 6), f2))))
set_option maxHeartbeats 4000000 in
set_option maxRecDepth 100000 in
theorem SX10_anew_0 {G : GT} {l : Launch} {Q : Option AV → Mem → Prop}   (f : Mm) (h : OkI Q (FX10_anew_0   f)) : Ev G l MX10_anew (Rm 2 0 0) (ZM G Q 0 0) 0 0 0 [some (vR 0), none] [] (SH, RF, f) := by
  unfold FX10_anew_0 at h
  refine ev_aload_n (i := 0) dX10_anew_0 rfl rfl ?_
  refine ev_getR dX10_anew_1 fl_X10_19 sh_0 (by decide) (by decide) rf_0_1 ?_
  refine ev_cVI (b := 4) (av := []) (S := []) (fun q => q) h dX10_anew_4 (fun Q' q => TX0_stands_4 _ q) kvX0_stands ml_X10_140 sh_4 rfl (RRc (by decide) (by decide)) (Nat.le_of_ble_eq_true rfl) ⟨Nat.le_of_ble_eq_true rfl, Nat.le_of_ble_eq_true rfl⟩ (fun y1 f1 h => ?_)
  refine ev_if_ne (tgt := 13) dX10_anew_7 (by decide) (fun c3 => ?_) (fun c3 => ?_)
  · rw [if_neg c3] at h
    refine ev_aload_n (i := 0) dX10_anew_13 rfl rfl ?_
    refine ev_getR dX10_anew_14 fl_X10_19 sh_0 (by decide) (by decide) rf_0_1 ?_
    refine ex_getI (x := (f1 4 6)) dX10_anew_17 fl_X10_365 sh_4 (by decide) (by decide) rfl ?_
    refine ev_istore_n (i := 1) (L' := [some (vR 0), some (vI (f1 4 6))]) dX10_anew_20 rfl (by decide) rfl ?_
    refine ev_aload_n (i := 0) dX10_anew_21 rfl rfl ?_
    refine ev_getR dX10_anew_22 fl_X10_19 sh_0 (by decide) (by decide) rf_0_1 ?_
    refine ev_cVV (b := 4) (av := []) (S := []) (fun q => q) h dX10_anew_25 (fun Q' q => TX0_takeAllBack_4 _ q) kvX0_takeAllBack ml_X10_374 sh_4 rfl (RRc (by decide) (by decide)) (Nat.le_of_ble_eq_true rfl) ⟨Nat.le_of_ble_eq_true rfl, Nat.le_of_ble_eq_true rfl⟩ (fun f2 h => ?_)
    refine ev_iload_n (i := 1) dX10_anew_28 rfl rfl ?_
    exact ev_iret rfl dX10_anew_29 h
  · rw [if_pos c3] at h
    refine ev_bipush (v := (-2)) dX10_anew_10 (r32c rfl) (by decide) ?_
    exact ev_iret rfl dX10_anew_12 h
def FX10_anew  (f : Mm) : Option (Int × Mm) := FX10_anew_0  f
set_option maxRecDepth 100000 in
theorem TX10_anew {G : GT} {l : Launch} {Q : Option AV → Mem → Prop}  (f : Mm) (h : OkI Q (FX10_anew  f)) : Ret G l MX10_anew (2) 0 0 [vR 0] (SH, RF, f) Q := by
  refine ret_of (L := [some (vR 0), none]) (by decide) rfl (Nat.le_of_ble_eq_true rfl) ?_
  exact SX10_anew_0  f h
theorem dX10_done_0 : decode cX10_done 0 = .ok (.aload_n 0, 1) := by decide +kernel
theorem dX10_done_1 : decode cX10_done 1 = .ok (.getfield 19, 3) := by decide +kernel
theorem dX10_done_4 : decode cX10_done 4 = .ok (.iload_n 1, 1) := by decide +kernel
theorem dX10_done_5 : decode cX10_done 5 = .ok (.invokevirtual 126, 3) := by decide +kernel
theorem dX10_done_8 : decode cX10_done 8 = .ok (.ifCond .eq 15, 3) := by decide +kernel
theorem dX10_done_23 : decode cX10_done 23 = .ok (.bipush (-2), 2) := by decide +kernel
theorem dX10_done_25 : decode cX10_done 25 = .ok (.ireturn, 1) := by decide +kernel
theorem dX10_done_11 : decode cX10_done 11 = .ok (.aload_n 0, 1) := by decide +kernel
theorem dX10_done_12 : decode cX10_done 12 = .ok (.getfield 19, 3) := by decide +kernel
theorem dX10_done_15 : decode cX10_done 15 = .ok (.getfield 182, 3) := by decide +kernel
theorem dX10_done_18 : decode cX10_done 18 = .ok (.iload_n 1, 1) := by decide +kernel
theorem dX10_done_19 : decode cX10_done 19 = .ok (.iaload, 1) := by decide +kernel
theorem dX10_done_20 : decode cX10_done 20 = .ok (.goto 5, 3) := by decide +kernel
def FX10_done_0  (x1 : Int) (f : Mm) : Option (Int × Mm) := (b2 (FX0_hasDay_4 x1 f) fun y1 f1 => (if y1 = 0 then some ((-2), f1) else (if 0 ≤ x1 ∧ x1 < 6 then some ((f1 18 x1.toNat), f1) else none)))
set_option maxHeartbeats 4000000 in
set_option maxRecDepth 100000 in
theorem SX10_done_0 {G : GT} {l : Launch} {Q : Option AV → Mem → Prop}  (x1 : Int) (f : Mm) (h : OkI Q (FX10_done_0  x1 f)) : Ev G l MX10_done (Rm 2 0 0) (ZM G Q 0 0) 0 0 0 [some (vR 0), some (vI x1)] [] (SH, RF, f) := by
  unfold FX10_done_0 at h
  refine ev_aload_n (i := 0) dX10_done_0 rfl rfl ?_
  refine ev_getR dX10_done_1 fl_X10_19 sh_0 (by decide) (by decide) rf_0_1 ?_
  refine ev_iload_n (i := 1) dX10_done_4 rfl rfl ?_
  refine ev_cVI (b := 4) (av := [vI x1]) (S := []) (fun q => q) h dX10_done_5 (fun Q' q => TX0_hasDay_4 x1 _ q) kvX0_hasDay ml_X10_126 sh_4 rfl (RRc (by decide) (by decide)) (Nat.le_of_ble_eq_true rfl) ⟨Nat.le_of_ble_eq_true rfl, Nat.le_of_ble_eq_true rfl⟩ (fun y1 f1 h => ?_)
  refine ev_if_eq (tgt := 23) dX10_done_8 (by decide) (fun c3 => ?_) (fun c3 => ?_)
  · rw [if_pos c3] at h
    refine ev_bipush (v := (-2)) dX10_done_23 (r32c rfl) (by decide) ?_
    exact ev_iret rfl dX10_done_25 h
  · rw [if_neg c3] at h
    refine ev_aload_n (i := 0) dX10_done_11 rfl rfl ?_
    refine ev_getR dX10_done_12 fl_X10_19 sh_0 (by decide) (by decide) rf_0_1 ?_
    refine ev_getR dX10_done_15 fl_X10_182 sh_4 (by decide) (by decide) rf_4_10 ?_
    refine ev_iload_n (i := 1) dX10_done_18 rfl rfl ?_
    by_cases g2 : 0 ≤ x1 ∧ x1 < 6
    · rw [if_pos g2] at h
      refine ex_iald (x := (f1 18 x1.toNat)) dX10_done_19 sh_18 g2.1 g2.2 rfl ?_
      refine ev_goto (tgt := 25) dX10_done_20 (by decide) ?_
      exact ev_iret rfl dX10_done_25 h
    · rw [if_neg g2] at h; exact h.elim
def FX10_done (x1 : Int) (f : Mm) : Option (Int × Mm) := FX10_done_0 x1 f
set_option maxRecDepth 100000 in
theorem TX10_done {G : GT} {l : Launch} {Q : Option AV → Mem → Prop} (x1 : Int) (f : Mm) (h : OkI Q (FX10_done x1 f)) : Ret G l MX10_done (2) 0 0 [vR 0, vI x1] (SH, RF, f) Q := by
  refine ret_of (L := [some (vR 0), some (vI x1)]) (by decide) rfl (Nat.le_of_ble_eq_true rfl) ?_
  exact SX10_done_0 x1 f h
theorem dX10_isPay_0 : decode cX10_isPay 0 = .ok (.iload_n 0, 1) := by decide +kernel
theorem dX10_isPay_1 : decode cX10_isPay 1 = .ok (.ifCond .lt 14, 3) := by decide +kernel
theorem dX10_isPay_15 : decode cX10_isPay 15 = .ok (.iconst 0, 1) := by decide +kernel
theorem dX10_isPay_16 : decode cX10_isPay 16 = .ok (.ireturn, 1) := by decide +kernel
theorem dX10_isPay_4 : decode cX10_isPay 4 = .ok (.iload_n 0, 1) := by decide +kernel
theorem dX10_isPay_5 : decode cX10_isPay 5 = .ok (.sipush 999, 3) := by decide +kernel
theorem dX10_isPay_8 : decode cX10_isPay 8 = .ok (.if_icmp .gt 7, 3) := by decide +kernel
theorem dX10_isPay_11 : decode cX10_isPay 11 = .ok (.iconst 1, 1) := by decide +kernel
theorem dX10_isPay_12 : decode cX10_isPay 12 = .ok (.goto 4, 3) := by decide +kernel
def FX10_isPay_0  (x0 : Int) (f : Mm) : Option (Int × Mm) := (if x0 < 0 then some (0, f) else (if 999 < x0 then some (0, f) else some (1, f)))
set_option maxHeartbeats 4000000 in
set_option maxRecDepth 100000 in
theorem SX10_isPay_0 {G : GT} {l : Launch} {Q : Option AV → Mem → Prop}  (x0 : Int) (f : Mm) (h : OkI Q (FX10_isPay_0  x0 f)) : Ev G l MX10_isPay (Rm 1 0 0) (ZM G Q 0 0) 0 0 0 [some (vI x0)] [] (SH, RF, f) := by
  unfold FX10_isPay_0 at h
  refine ev_iload_n (i := 0) dX10_isPay_0 rfl rfl ?_
  refine ev_if_lt (tgt := 15) dX10_isPay_1 (by decide) (fun c2 => ?_) (fun c2 => ?_)
  · rw [if_pos c2] at h
    refine ev_iconst dX10_isPay_15 (r32c rfl) ?_
    exact ev_zret rfl (by decide) dX10_isPay_16 h
  · rw [if_neg c2] at h
    refine ev_iload_n (i := 0) dX10_isPay_4 rfl rfl ?_
    refine ev_sipush (v := 999) dX10_isPay_5 (r32c rfl) (by decide) ?_
    refine ev_icmp_gt (tgt := 15) dX10_isPay_8 (by decide) (fun c1 => ?_) (fun c1 => ?_)
    · rw [if_pos c1] at h
      refine ev_iconst dX10_isPay_15 (r32c rfl) ?_
      exact ev_zret rfl (by decide) dX10_isPay_16 h
    · rw [if_neg c1] at h
      refine ev_iconst dX10_isPay_11 (r32c rfl) ?_
      refine ev_goto (tgt := 16) dX10_isPay_12 (by decide) ?_
      exact ev_zret rfl (by decide) dX10_isPay_16 h
def FX10_isPay (x0 : Int) (f : Mm) : Option (Int × Mm) := FX10_isPay_0 x0 f
set_option maxRecDepth 100000 in
theorem TX10_isPay {G : GT} {l : Launch} {Q : Option AV → Mem → Prop} (x0 : Int) (f : Mm) (h : OkI Q (FX10_isPay x0 f)) : Ret G l MX10_isPay (1) 0 0 [vI x0] (SH, RF, f) Q := by
  refine ret_of (L := [some (vI x0)]) (by decide) rfl (Nat.le_of_ble_eq_true rfl) ?_
  exact SX10_isPay_0 x0 f h
theorem dX10_rate_0 : decode cX10_rate 0 = .ok (.aload_n 0, 1) := by decide +kernel
theorem dX10_rate_1 : decode cX10_rate 1 = .ok (.getfield 19, 3) := by decide +kernel
theorem dX10_rate_4 : decode cX10_rate 4 = .ok (.iload_n 1, 1) := by decide +kernel
theorem dX10_rate_5 : decode cX10_rate 5 = .ok (.invokevirtual 117, 3) := by decide +kernel
theorem dX10_rate_8 : decode cX10_rate 8 = .ok (.ifCond .eq 10, 3) := by decide +kernel
theorem dX10_rate_18 : decode cX10_rate 18 = .ok (.bipush (-2), 2) := by decide +kernel
theorem dX10_rate_20 : decode cX10_rate 20 = .ok (.ireturn, 1) := by decide +kernel
theorem dX10_rate_11 : decode cX10_rate 11 = .ok (.iload_n 2, 1) := by decide +kernel
theorem dX10_rate_12 : decode cX10_rate 12 = .ok (.invokestatic 377, 3) := by decide +kernel
theorem dX10_rate_15 : decode cX10_rate 15 = .ok (.ifCond .ne 6, 3) := by decide +kernel
theorem dX10_rate_21 : decode cX10_rate 21 = .ok (.aload_n 0, 1) := by decide +kernel
theorem dX10_rate_22 : decode cX10_rate 22 = .ok (.getfield 19, 3) := by decide +kernel
theorem dX10_rate_25 : decode cX10_rate 25 = .ok (.getfield 365, 3) := by decide +kernel
theorem dX10_rate_28 : decode cX10_rate 28 = .ok (.ifCond .le 6, 3) := by decide +kernel
theorem dX10_rate_34 : decode cX10_rate 34 = .ok (.aload_n 0, 1) := by decide +kernel
theorem dX10_rate_35 : decode cX10_rate 35 = .ok (.getfield 19, 3) := by decide +kernel
theorem dX10_rate_38 : decode cX10_rate 38 = .ok (.getfield 120, 3) := by decide +kernel
theorem dX10_rate_41 : decode cX10_rate 41 = .ok (.iload_n 1, 1) := by decide +kernel
theorem dX10_rate_42 : decode cX10_rate 42 = .ok (.aaload, 1) := by decide +kernel
theorem dX10_rate_43 : decode cX10_rate 43 = .ok (.iconst 4, 1) := by decide +kernel
theorem dX10_rate_44 : decode cX10_rate 44 = .ok (.iaload, 1) := by decide +kernel
theorem dX10_rate_45 : decode cX10_rate 45 = .ok (.istore_n 3, 1) := by decide +kernel
theorem dX10_rate_46 : decode cX10_rate 46 = .ok (.aload_n 0, 1) := by decide +kernel
theorem dX10_rate_47 : decode cX10_rate 47 = .ok (.getfield 19, 3) := by decide +kernel
theorem dX10_rate_50 : decode cX10_rate 50 = .ok (.getfield 120, 3) := by decide +kernel
theorem dX10_rate_53 : decode cX10_rate 53 = .ok (.iload_n 1, 1) := by decide +kernel
theorem dX10_rate_54 : decode cX10_rate 54 = .ok (.aaload, 1) := by decide +kernel
theorem dX10_rate_55 : decode cX10_rate 55 = .ok (.iconst 4, 1) := by decide +kernel
theorem dX10_rate_56 : decode cX10_rate 56 = .ok (.iload_n 2, 1) := by decide +kernel
theorem dX10_rate_57 : decode cX10_rate 57 = .ok (.iastore, 1) := by decide +kernel
theorem dX10_rate_58 : decode cX10_rate 58 = .ok (.iload_n 3, 1) := by decide +kernel
theorem dX10_rate_59 : decode cX10_rate 59 = .ok (.ireturn, 1) := by decide +kernel
theorem dX10_rate_31 : decode cX10_rate 31 = .ok (.bipush (-5), 2) := by decide +kernel
theorem dX10_rate_33 : decode cX10_rate 33 = .ok (.ireturn, 1) := by decide +kernel
def FX10_rate_0  (x1 : Int) (x2 : Int) (f : Mm) : Option (Int × Mm) := (b2 (FX0_hasCart_4 x1 f) fun y1 f1 => (if y1 = 0 then some ((-2), f1) else (b2 (FX10_isPay x2 f1) fun y2 f2 => (if y2 = 0 then some ((-2), f2) else (if (f2 4 6) ≤ 0 then (if 0 ≤ x1 ∧ x1 < 6 then (if 0 ≤ x1 ∧ x1 < 6 then some ((f2 (12 + x1.toNat) 4), (up f2 (12 + x1.toNat) 4 x2)) else none) else none) else some ((-5), f2))))))
set_option maxHeartbeats 4000000 in
set_option maxRecDepth 100000 in
theorem SX10_rate_0 {G : GT} {l : Launch} {Q : Option AV → Mem → Prop}  (x1 : Int) (x2 : Int) (f : Mm) (h : OkI Q (FX10_rate_0  x1 x2 f)) : Ev G l MX10_rate (Rm 2 0 0) (ZM G Q 0 0) 0 0 0 [some (vR 0), some (vI x1), some (vI x2), none] [] (SH, RF, f) := by
  unfold FX10_rate_0 at h
  refine ev_aload_n (i := 0) dX10_rate_0 rfl rfl ?_
  refine ev_getR dX10_rate_1 fl_X10_19 sh_0 (by decide) (by decide) rf_0_1 ?_
  refine ev_iload_n (i := 1) dX10_rate_4 rfl rfl ?_
  refine ev_cVI (b := 4) (av := [vI x1]) (S := []) (fun q => q) h dX10_rate_5 (fun Q' q => TX0_hasCart_4 x1 _ q) kvX0_hasCart ml_X10_117 sh_4 rfl (RRc (by decide) (by decide)) (Nat.le_of_ble_eq_true rfl) ⟨Nat.le_of_ble_eq_true rfl, Nat.le_of_ble_eq_true rfl⟩ (fun y1 f1 h => ?_)
  refine ev_if_eq (tgt := 18) dX10_rate_8 (by decide) (fun c7 => ?_) (fun c7 => ?_)
  · rw [if_pos c7] at h
    refine ev_bipush (v := (-2)) dX10_rate_18 (r32c rfl) (by decide) ?_
    exact ev_iret rfl dX10_rate_20 h
  · rw [if_neg c7] at h
    refine ev_iload_n (i := 2) dX10_rate_11 rfl rfl ?_
    refine ev_cSI (av := [vI x2]) (S := []) (fun q => q) h dX10_rate_12 (fun Q' q => TX10_isPay x2 _ q) ksX10_isPay ml_X10_377 rfl (RRc (by decide) (by decide)) (Nat.le_of_ble_eq_true rfl) ⟨Nat.le_of_ble_eq_true rfl, Nat.le_of_ble_eq_true rfl⟩ (fun y2 f2 h => ?_)
    refine ev_if_ne (tgt := 21) dX10_rate_15 (by decide) (fun c6 => ?_) (fun c6 => ?_)
    · rw [if_neg c6] at h
      refine ev_aload_n (i := 0) dX10_rate_21 rfl rfl ?_
      refine ev_getR dX10_rate_22 fl_X10_19 sh_0 (by decide) (by decide) rf_0_1 ?_
      refine ex_getI (x := (f2 4 6)) dX10_rate_25 fl_X10_365 sh_4 (by decide) (by decide) rfl ?_
      refine ev_if_le (tgt := 34) dX10_rate_28 (by decide) (fun c5 => ?_) (fun c5 => ?_)
      · rw [if_pos c5] at h
        refine ev_aload_n (i := 0) dX10_rate_34 rfl rfl ?_
        refine ev_getR dX10_rate_35 fl_X10_19 sh_0 (by decide) (by decide) rf_0_1 ?_
        refine ev_getR dX10_rate_38 fl_X10_120 sh_4 (by decide) (by decide) rf_4_9 ?_
        refine ev_iload_n (i := 1) dX10_rate_41 rfl rfl ?_
        by_cases g3 : 0 ≤ x1 ∧ x1 < 6
        · rw [if_pos g3] at h
          refine ev_aald (b := (12 + x1.toNat)) dX10_rate_42 (Or.inl rfl) sh_11 g3.1 g3.2 (rfr_11 g3) ?_
          refine ev_iconst dX10_rate_43 (r32c rfl) ?_
          refine ex_iald (x := (f2 (12 + x1.toNat) 4)) dX10_rate_44 (shr_11 g3) (by decide) (by decide) rfl ?_
          refine ev_istore_n (i := 3) (L' := [some (vR 0), some (vI x1), some (vI x2), some (vI (f2 (12 + x1.toNat) 4))]) dX10_rate_45 rfl (by decide) rfl ?_
          refine ev_aload_n (i := 0) dX10_rate_46 rfl rfl ?_
          refine ev_getR dX10_rate_47 fl_X10_19 sh_0 (by decide) (by decide) rf_0_1 ?_
          refine ev_getR dX10_rate_50 fl_X10_120 sh_4 (by decide) (by decide) rf_4_9 ?_
          refine ev_iload_n (i := 1) dX10_rate_53 rfl rfl ?_
          by_cases g4 : 0 ≤ x1 ∧ x1 < 6
          · rw [if_pos g4] at h
            refine ev_aald (b := (12 + x1.toNat)) dX10_rate_54 (Or.inl rfl) sh_11 g4.1 g4.2 (rfr_11 g4) ?_
            refine ev_iconst dX10_rate_55 (r32c rfl) ?_
            refine ev_iload_n (i := 2) dX10_rate_56 rfl rfl ?_
            refine ex_iast (j := 4) dX10_rate_57 (shr_11 g4) (by decide) (by decide) rfl ?_
            refine ev_iload_n (i := 3) dX10_rate_58 rfl rfl ?_
            exact ev_iret rfl dX10_rate_59 h
          · rw [if_neg g4] at h; exact h.elim
        · rw [if_neg g3] at h; exact h.elim
      · rw [if_neg c5] at h
        refine ev_bipush (v := (-5)) dX10_rate_31 (r32c rfl) (by decide) ?_
        exact ev_iret rfl dX10_rate_33 h
    · rw [if_pos c6] at h
      refine ev_bipush (v := (-2)) dX10_rate_18 (r32c rfl) (by decide) ?_
      exact ev_iret rfl dX10_rate_20 h
def FX10_rate (x1 : Int) (x2 : Int) (f : Mm) : Option (Int × Mm) := FX10_rate_0 x1 x2 f
set_option maxRecDepth 100000 in
theorem TX10_rate {G : GT} {l : Launch} {Q : Option AV → Mem → Prop} (x1 : Int) (x2 : Int) (f : Mm) (h : OkI Q (FX10_rate x1 x2 f)) : Ret G l MX10_rate (2) 0 0 [vR 0, vI x1, vI x2] (SH, RF, f) Q := by
  refine ret_of (L := [some (vR 0), some (vI x1), some (vI x2), none]) (by decide) rfl (Nat.le_of_ble_eq_true rfl) ?_
  exact SX10_rate_0 x1 x2 f h
theorem dX6_filled_20 : decode cX6_filled 20 = .ok (.iinc 2 1, 3) := by decide +kernel
theorem dX6_filled_23 : decode cX6_filled 23 = .ok (.goto (-19), 3) := by decide +kernel
theorem dX6_filled_4 : decode cX6_filled 4 = .ok (.iload_n 2, 1) := by decide +kernel
theorem dX6_filled_5 : decode cX6_filled 5 = .ok (.iconst 4, 1) := by decide +kernel
theorem dX6_filled_6 : decode cX6_filled 6 = .ok (.if_icmp .ge 20, 3) := by decide +kernel
theorem dX6_filled_26 : decode cX6_filled 26 = .ok (.iload_n 1, 1) := by decide +kernel
theorem dX6_filled_27 : decode cX6_filled 27 = .ok (.ireturn, 1) := by decide +kernel
theorem dX6_filled_9 : decode cX6_filled 9 = .ok (.aload_n 0, 1) := by decide +kernel
theorem dX6_filled_10 : decode cX6_filled 10 = .ok (.iload_n 2, 1) := by decide +kernel
theorem dX6_filled_11 : decode cX6_filled 11 = .ok (.invokevirtual 23, 3) := by decide +kernel
theorem dX6_filled_14 : decode cX6_filled 14 = .ok (.ifCond .eq 6, 3) := by decide +kernel
theorem dX6_filled_17 : decode cX6_filled 17 = .ok (.iinc 1 1, 3) := by decide +kernel
theorem dX6_filled_0 : decode cX6_filled 0 = .ok (.iconst 0, 1) := by decide +kernel
theorem dX6_filled_1 : decode cX6_filled 1 = .ok (.istore_n 1, 1) := by decide +kernel
theorem dX6_filled_2 : decode cX6_filled 2 = .ok (.iconst 0, 1) := by decide +kernel
theorem dX6_filled_3 : decode cX6_filled 3 = .ok (.istore_n 2, 1) := by decide +kernel
def FX6_filled_20 (k4 : Int → Int → Mm → Option (Int × Mm)) (x1 : Int) (x2 : Int) (f : Mm) : Option (Int × Mm) := k4 x1 (w32 (x2 + 1)) f
set_option maxHeartbeats 4000000 in
set_option maxRecDepth 100000 in
theorem SX6_filled_20 {G : GT} {l : Launch} {Q : Option AV → Mem → Prop} {k4 : Int → Int → Mm → Option (Int × Mm)} (q4 : ∀ (x1 : Int) (x2 : Int) (f : Mm), OkI Q (k4 x1 x2 f) → Ev G l MX6_filled (Rm 2 0 0) (ZM G Q 0 0) 0 0 4 [some (vR 40), some (vI x1), some (vI x2)] [] (SH, RF, f)) (x1 : Int) (x2 : Int) (f : Mm) (h : OkI Q (FX6_filled_20 k4 x1 x2 f)) : Ev G l MX6_filled (Rm 2 0 0) (ZM G Q 0 0) 0 0 20 [some (vR 40), some (vI x1), some (vI x2)] [] (SH, RF, f) := by
  unfold FX6_filled_20 at h
  refine ev_iinc (L' := [some (vR 40), some (vI x1), some (vI (w32 (x2 + 1)))]) dX6_filled_20 rfl (by decide) rfl ?_
  refine ev_goto (tgt := 4) dX6_filled_23 (by decide) ?_
  exact q4 x1 (w32 (x2 + 1)) _ h
def FX6_filled_4  : Nat → Int → Int → Mm → Option (Int × Mm)
  | 0, _, _, _ => none
  | n + 1, x1, x2, f => (if 4 ≤ x2 then some (x1, f) else (b2 (FX6_hasRow x2 f) fun y1 f1 => (if y1 = 0 then FX6_filled_20 (FX6_filled_4 n) x1 x2 f1 else FX6_filled_20 (FX6_filled_4 n) (w32 (x1 + 1)) x2 f1)))
set_option maxHeartbeats 4000000 in
set_option maxRecDepth 100000 in
theorem SX6_filled_4 {G : GT} {l : Launch} {Q : Option AV → Mem → Prop}  : ∀ (n : Nat) (x1 : Int) (x2 : Int) (f : Mm), OkI Q (FX6_filled_4  n x1 x2 f) → Ev G l MX6_filled (Rm 2 0 0) (ZM G Q 0 0) 0 0 4 [some (vR 40), some (vI x1), some (vI x2)] [] (SH, RF, f) := by
  intro n
  induction n with
  | zero => intro x1 x2 f h; exact absurd h (by rw [FX6_filled_4]; exact fun q => q)
  | succ n ih =>
    intro x1 x2 f h
    rw [FX6_filled_4] at h
    refine ev_iload_n (i := 2) dX6_filled_4 rfl rfl ?_
    refine ev_iconst dX6_filled_5 (r32c rfl) ?_
    refine ev_icmp_ge (tgt := 26) dX6_filled_6 (by decide) (fun c3 => ?_) (fun c3 => ?_)
    · rw [if_pos c3] at h
      refine ev_iload_n (i := 1) dX6_filled_26 rfl rfl ?_
      exact ev_iret rfl dX6_filled_27 h
    · rw [if_neg c3] at h
      refine ev_aload_n (i := 0) dX6_filled_9 rfl rfl ?_
      refine ev_iload_n (i := 2) dX6_filled_10 rfl rfl ?_
      refine ev_cVI (b := 40) (av := [vI x2]) (S := []) (fun q => q) h dX6_filled_11 (fun Q' q => TX6_hasRow x2 _ q) kvX6_hasRow ml_X6_23 sh_40 rfl (RRc (by decide) (by decide)) (Nat.le_of_ble_eq_true rfl) ⟨Nat.le_of_ble_eq_true rfl, Nat.le_of_ble_eq_true rfl⟩ (fun y1 f1 h => ?_)
      refine ev_if_eq (tgt := 20) dX6_filled_14 (by decide) (fun c2 => ?_) (fun c2 => ?_)
      · rw [if_pos c2] at h
        exact SX6_filled_20 ih x1 x2 _ h
      · rw [if_neg c2] at h
        refine ev_iinc (L' := [some (vR 40), some (vI (w32 (x1 + 1))), some (vI x2)]) dX6_filled_17 rfl (by decide) rfl ?_
        exact SX6_filled_20 ih (w32 (x1 + 1)) x2 _ h
def FX6_filled_0   (f : Mm) : Option (Int × Mm) := FX6_filled_4 fu 0 0 f
set_option maxHeartbeats 4000000 in
set_option maxRecDepth 100000 in
theorem SX6_filled_0 {G : GT} {l : Launch} {Q : Option AV → Mem → Prop}   (f : Mm) (h : OkI Q (FX6_filled_0   f)) : Ev G l MX6_filled (Rm 2 0 0) (ZM G Q 0 0) 0 0 0 [some (vR 40), none, none] [] (SH, RF, f) := by
  unfold FX6_filled_0 at h
  refine ev_iconst dX6_filled_0 (r32c rfl) ?_
  refine ev_istore_n (i := 1) (L' := [some (vR 40), some (vI 0), none]) dX6_filled_1 rfl (by decide) rfl ?_
  refine ev_iconst dX6_filled_2 (r32c rfl) ?_
  refine ev_istore_n (i := 2) (L' := [some (vR 40), some (vI 0), some (vI 0)]) dX6_filled_3 rfl (by decide) rfl ?_
  exact SX6_filled_4  fu 0 0 _ h
def FX6_filled  (f : Mm) : Option (Int × Mm) := FX6_filled_0  f
set_option maxRecDepth 100000 in
theorem TX6_filled {G : GT} {l : Launch} {Q : Option AV → Mem → Prop}  (f : Mm) (h : OkI Q (FX6_filled  f)) : Ret G l MX6_filled (2) 0 0 [vR 40] (SH, RF, f) Q := by
  refine ret_of (L := [some (vR 40), none, none]) (by decide) rfl (Nat.le_of_ble_eq_true rfl) ?_
  exact SX6_filled_0  f h
theorem dX10_count_0 : decode cX10_count 0 = .ok (.iload_n 1, 1) := by decide +kernel
theorem dX10_count_1 : decode cX10_count 1 = .ok (.tableswitch 126 0 8 #[51, 59, 67, 75, 83, 91, 99, 107, 118], 51) := by decide +kernel
theorem dX10_count_52 : decode cX10_count 52 = .ok (.aload_n 0, 1) := by decide +kernel
theorem dX10_count_53 : decode cX10_count 53 = .ok (.getfield 19, 3) := by decide +kernel
theorem dX10_count_56 : decode cX10_count 56 = .ok (.getfield 144, 3) := by decide +kernel
theorem dX10_count_59 : decode cX10_count 59 = .ok (.ireturn, 1) := by decide +kernel
theorem dX10_count_60 : decode cX10_count 60 = .ok (.aload_n 0, 1) := by decide +kernel
theorem dX10_count_61 : decode cX10_count 61 = .ok (.getfield 19, 3) := by decide +kernel
theorem dX10_count_64 : decode cX10_count 64 = .ok (.getfield 380, 3) := by decide +kernel
theorem dX10_count_67 : decode cX10_count 67 = .ok (.ireturn, 1) := by decide +kernel
theorem dX10_count_68 : decode cX10_count 68 = .ok (.aload_n 0, 1) := by decide +kernel
theorem dX10_count_69 : decode cX10_count 69 = .ok (.getfield 19, 3) := by decide +kernel
theorem dX10_count_72 : decode cX10_count 72 = .ok (.getfield 383, 3) := by decide +kernel
theorem dX10_count_75 : decode cX10_count 75 = .ok (.ireturn, 1) := by decide +kernel
theorem dX10_count_76 : decode cX10_count 76 = .ok (.aload_n 0, 1) := by decide +kernel
theorem dX10_count_77 : decode cX10_count 77 = .ok (.getfield 19, 3) := by decide +kernel
theorem dX10_count_80 : decode cX10_count 80 = .ok (.getfield 220, 3) := by decide +kernel
theorem dX10_count_83 : decode cX10_count 83 = .ok (.ireturn, 1) := by decide +kernel
theorem dX10_count_84 : decode cX10_count 84 = .ok (.aload_n 0, 1) := by decide +kernel
theorem dX10_count_85 : decode cX10_count 85 = .ok (.getfield 19, 3) := by decide +kernel
theorem dX10_count_88 : decode cX10_count 88 = .ok (.getfield 161, 3) := by decide +kernel
theorem dX10_count_91 : decode cX10_count 91 = .ok (.ireturn, 1) := by decide +kernel
theorem dX10_count_92 : decode cX10_count 92 = .ok (.aload_n 0, 1) := by decide +kernel
theorem dX10_count_93 : decode cX10_count 93 = .ok (.getfield 19, 3) := by decide +kernel
theorem dX10_count_96 : decode cX10_count 96 = .ok (.getfield 365, 3) := by decide +kernel
theorem dX10_count_99 : decode cX10_count 99 = .ok (.ireturn, 1) := by decide +kernel
theorem dX10_count_100 : decode cX10_count 100 = .ok (.aload_n 0, 1) := by decide +kernel
theorem dX10_count_101 : decode cX10_count 101 = .ok (.getfield 19, 3) := by decide +kernel
theorem dX10_count_104 : decode cX10_count 104 = .ok (.getfield 103, 3) := by decide +kernel
theorem dX10_count_107 : decode cX10_count 107 = .ok (.ireturn, 1) := by decide +kernel
theorem dX10_count_108 : decode cX10_count 108 = .ok (.aload_n 0, 1) := by decide +kernel
theorem dX10_count_109 : decode cX10_count 109 = .ok (.getfield 10, 3) := by decide +kernel
theorem dX10_count_112 : decode cX10_count 112 = .ok (.getfield 76, 3) := by decide +kernel
theorem dX10_count_115 : decode cX10_count 115 = .ok (.getfield 80, 3) := by decide +kernel
theorem dX10_count_118 : decode cX10_count 118 = .ok (.ireturn, 1) := by decide +kernel
theorem dX10_count_119 : decode cX10_count 119 = .ok (.aload_n 0, 1) := by decide +kernel
theorem dX10_count_120 : decode cX10_count 120 = .ok (.getfield 37, 3) := by decide +kernel
theorem dX10_count_123 : decode cX10_count 123 = .ok (.invokevirtual 386, 3) := by decide +kernel
theorem dX10_count_126 : decode cX10_count 126 = .ok (.ireturn, 1) := by decide +kernel
theorem dX10_count_127 : decode cX10_count 127 = .ok (.iconst (-1), 1) := by decide +kernel
theorem dX10_count_128 : decode cX10_count 128 = .ok (.ireturn, 1) := by decide +kernel
def FX10_count_0  (x1 : Int) (f : Mm) : Option (Int × Mm) := (if x1 = 0 then some ((f 4 1), f) else (if x1 = 1 then some ((f 4 2), f) else (if x1 = 2 then some ((f 4 3), f) else (if x1 = 3 then some ((f 4 4), f) else (if x1 = 4 then some ((f 4 5), f) else (if x1 = 5 then some ((f 4 6), f) else (if x1 = 6 then some ((f 4 0), f) else (if x1 = 7 then some ((f 2 1), f) else (if x1 = 8 then (b2 (FX6_filled f) fun y10 f10 => some (y10, f10)) else some ((-1), f))))))))))
set_option maxHeartbeats 4000000 in
set_option maxRecDepth 100000 in
theorem SX10_count_0 {G : GT} {l : Launch} {Q : Option AV → Mem → Prop}  (x1 : Int) (f : Mm) (h : OkI Q (FX10_count_0  x1 f)) : Ev G l MX10_count (Rm 3 0 0) (ZM G Q 0 0) 0 0 0 [some (vR 0), some (vI x1)] [] (SH, RF, f) := by
  unfold FX10_count_0 at h
  refine ev_iload_n (i := 1) dX10_count_0 rfl rfl ?_
  by_cases c1 : x1 = 0
  · rw [if_pos c1] at h
    refine ev_tIn (off := 51) (tgt := 52) dX10_count_1 (by omega) (by omega) (by rw [c1]; rfl) (by decide) ?_
    refine ev_aload_n (i := 0) dX10_count_52 rfl rfl ?_
    refine ev_getR dX10_count_53 fl_X10_19 sh_0 (by decide) (by decide) rf_0_1 ?_
    refine ex_getI (x := (f 4 1)) dX10_count_56 fl_X10_144 sh_4 (by decide) (by decide) rfl ?_
    exact ev_iret rfl dX10_count_59 h
  · rw [if_neg c1] at h
    by_cases c2 : x1 = 1
    · rw [if_pos c2] at h
      refine ev_tIn (off := 59) (tgt := 60) dX10_count_1 (by omega) (by omega) (by rw [c2]; rfl) (by decide) ?_
      refine ev_aload_n (i := 0) dX10_count_60 rfl rfl ?_
      refine ev_getR dX10_count_61 fl_X10_19 sh_0 (by decide) (by decide) rf_0_1 ?_
      refine ex_getI (x := (f 4 2)) dX10_count_64 fl_X10_380 sh_4 (by decide) (by decide) rfl ?_
      exact ev_iret rfl dX10_count_67 h
    · rw [if_neg c2] at h
      by_cases c3 : x1 = 2
      · rw [if_pos c3] at h
        refine ev_tIn (off := 67) (tgt := 68) dX10_count_1 (by omega) (by omega) (by rw [c3]; rfl) (by decide) ?_
        refine ev_aload_n (i := 0) dX10_count_68 rfl rfl ?_
        refine ev_getR dX10_count_69 fl_X10_19 sh_0 (by decide) (by decide) rf_0_1 ?_
        refine ex_getI (x := (f 4 3)) dX10_count_72 fl_X10_383 sh_4 (by decide) (by decide) rfl ?_
        exact ev_iret rfl dX10_count_75 h
      · rw [if_neg c3] at h
        by_cases c4 : x1 = 3
        · rw [if_pos c4] at h
          refine ev_tIn (off := 75) (tgt := 76) dX10_count_1 (by omega) (by omega) (by rw [c4]; rfl) (by decide) ?_
          refine ev_aload_n (i := 0) dX10_count_76 rfl rfl ?_
          refine ev_getR dX10_count_77 fl_X10_19 sh_0 (by decide) (by decide) rf_0_1 ?_
          refine ex_getI (x := (f 4 4)) dX10_count_80 fl_X10_220 sh_4 (by decide) (by decide) rfl ?_
          exact ev_iret rfl dX10_count_83 h
        · rw [if_neg c4] at h
          by_cases c5 : x1 = 4
          · rw [if_pos c5] at h
            refine ev_tIn (off := 83) (tgt := 84) dX10_count_1 (by omega) (by omega) (by rw [c5]; rfl) (by decide) ?_
            refine ev_aload_n (i := 0) dX10_count_84 rfl rfl ?_
            refine ev_getR dX10_count_85 fl_X10_19 sh_0 (by decide) (by decide) rf_0_1 ?_
            refine ex_getI (x := (f 4 5)) dX10_count_88 fl_X10_161 sh_4 (by decide) (by decide) rfl ?_
            exact ev_iret rfl dX10_count_91 h
          · rw [if_neg c5] at h
            by_cases c6 : x1 = 5
            · rw [if_pos c6] at h
              refine ev_tIn (off := 91) (tgt := 92) dX10_count_1 (by omega) (by omega) (by rw [c6]; rfl) (by decide) ?_
              refine ev_aload_n (i := 0) dX10_count_92 rfl rfl ?_
              refine ev_getR dX10_count_93 fl_X10_19 sh_0 (by decide) (by decide) rf_0_1 ?_
              refine ex_getI (x := (f 4 6)) dX10_count_96 fl_X10_365 sh_4 (by decide) (by decide) rfl ?_
              exact ev_iret rfl dX10_count_99 h
            · rw [if_neg c6] at h
              by_cases c7 : x1 = 6
              · rw [if_pos c7] at h
                refine ev_tIn (off := 99) (tgt := 100) dX10_count_1 (by omega) (by omega) (by rw [c7]; rfl) (by decide) ?_
                refine ev_aload_n (i := 0) dX10_count_100 rfl rfl ?_
                refine ev_getR dX10_count_101 fl_X10_19 sh_0 (by decide) (by decide) rf_0_1 ?_
                refine ex_getI (x := (f 4 0)) dX10_count_104 fl_X10_103 sh_4 (by decide) (by decide) rfl ?_
                exact ev_iret rfl dX10_count_107 h
              · rw [if_neg c7] at h
                by_cases c8 : x1 = 7
                · rw [if_pos c8] at h
                  refine ev_tIn (off := 107) (tgt := 108) dX10_count_1 (by omega) (by omega) (by rw [c8]; rfl) (by decide) ?_
                  refine ev_aload_n (i := 0) dX10_count_108 rfl rfl ?_
                  refine ev_getR dX10_count_109 fl_X10_10 sh_0 (by decide) (by decide) rf_0_0 ?_
                  refine ev_getR dX10_count_112 fl_X10_76 sh_1 (by decide) (by decide) rf_1_2 ?_
                  refine ex_getI (x := (f 2 1)) dX10_count_115 fl_X10_80 sh_2 (by decide) (by decide) rfl ?_
                  exact ev_iret rfl dX10_count_118 h
                · rw [if_neg c8] at h
                  by_cases c9 : x1 = 8
                  · rw [if_pos c9] at h
                    refine ev_tIn (off := 118) (tgt := 119) dX10_count_1 (by omega) (by omega) (by rw [c9]; rfl) (by decide) ?_
                    refine ev_aload_n (i := 0) dX10_count_119 rfl rfl ?_
                    refine ev_getR dX10_count_120 fl_X10_37 sh_0 (by decide) (by decide) rf_0_5 ?_
                    refine ev_cVI (b := 40) (av := []) (S := []) (fun q => q) h dX10_count_123 (fun Q' q => TX6_filled _ q) kvX6_filled ml_X10_386 sh_40 rfl (RRc (by decide) (by decide)) (Nat.le_of_ble_eq_true rfl) ⟨Nat.le_of_ble_eq_true rfl, Nat.le_of_ble_eq_true rfl⟩ (fun y10 f10 h => ?_)
                    exact ev_iret rfl dX10_count_126 h
                  · rw [if_neg c9] at h
                    refine ev_tOut (tgt := 127) dX10_count_1 (by omega) (by decide) ?_
                    refine ev_iconst dX10_count_127 (r32c rfl) ?_
                    exact ev_iret rfl dX10_count_128 h
def FX10_count (x1 : Int) (f : Mm) : Option (Int × Mm) := FX10_count_0 x1 f
set_option maxRecDepth 100000 in
theorem TX10_count {G : GT} {l : Launch} {Q : Option AV → Mem → Prop} (x1 : Int) (f : Mm) (h : OkI Q (FX10_count x1 f)) : Ret G l MX10_count (3) 0 0 [vR 0, vI x1] (SH, RF, f) Q := by
  refine ret_of (L := [some (vR 0), some (vI x1)]) (by decide) rfl (Nat.le_of_ble_eq_true rfl) ?_
  exact SX10_count_0 x1 f h
def FX0_become_99_4_124   (f : Mm) : Option Mm := ((FX0_copyRow 18 113 f).bind fun f1 => ((FX0_copyRow 19 114 f1).bind fun f2 => ((FX0_copyRow 20 115 f2).bind fun f3 => some f3)))
set_option maxHeartbeats 4000000 in
set_option maxRecDepth 100000 in
theorem SX0_become_99_4_124 {G : GT} {l : Launch} {Q : Option AV → Mem → Prop}   (f : Mm) (h : OkV Q (FX0_become_99_4_124   f)) : Ev G l MX0_become (Rm 2 0 0) (ZM G Q 0 0) 0 0 124 [some (vR 99), some (vR 4), none] [] (SH, RF, f) := by
  unfold FX0_become_99_4_124 at h
  refine ev_aload_n (i := 1) dX0_become_124 rfl rfl ?_
  refine ev_getR dX0_become_125 fl_X0_23 sh_4 (by decide) (by decide) rf_4_10 ?_
  refine ev_aload_n (i := 0) dX0_become_128 rfl rfl ?_
  refine ev_getR dX0_become_129 fl_X0_23 sh_99 (by decide) (by decide) rf_99_10 ?_
  refine ev_cSV (av := [vR 18, vR 113]) (S := []) (fun q => q) h dX0_become_132 (fun Q' q => TX0_copyRow 18 113 _ q) ksX0_copyRow ml_X0_57 rfl (RRc (by decide) (by decide)) (Nat.le_of_ble_eq_true rfl) ⟨Nat.le_of_ble_eq_true rfl, Nat.le_of_ble_eq_true rfl⟩ (fun f1 h => ?_)
  refine ev_aload_n (i := 1) dX0_become_135 rfl rfl ?_
  refine ev_getR dX0_become_136 fl_X0_26 sh_4 (by decide) (by decide) rf_4_11 ?_
  refine ev_aload_n (i := 0) dX0_become_139 rfl rfl ?_
  refine ev_getR dX0_become_140 fl_X0_26 sh_99 (by decide) (by decide) rf_99_11 ?_
  refine ev_cSV (av := [vR 19, vR 114]) (S := []) (fun q => q) h dX0_become_143 (fun Q' q => TX0_copyRow 19 114 _ q) ksX0_copyRow ml_X0_57 rfl (RRc (by decide) (by decide)) (Nat.le_of_ble_eq_true rfl) ⟨Nat.le_of_ble_eq_true rfl, Nat.le_of_ble_eq_true rfl⟩ (fun f2 h => ?_)
  refine ev_aload_n (i := 1) dX0_become_146 rfl rfl ?_
  refine ev_getR dX0_become_147 fl_X0_29 sh_4 (by decide) (by decide) rf_4_12 ?_
  refine ev_aload_n (i := 0) dX0_become_150 rfl rfl ?_
  refine ev_getR dX0_become_151 fl_X0_29 sh_99 (by decide) (by decide) rf_99_12 ?_
  refine ev_cSV (av := [vR 20, vR 115]) (S := []) (fun q => q) h dX0_become_154 (fun Q' q => TX0_copyRow 20 115 _ q) ksX0_copyRow ml_X0_57 rfl (RRc (by decide) (by decide)) (Nat.le_of_ble_eq_true rfl) ⟨Nat.le_of_ble_eq_true rfl, Nat.le_of_ble_eq_true rfl⟩ (fun f3 h => ?_)
  exact ev_vret rfl dX0_become_157 h
def FX0_become_99_4_97  : Nat → Int → Mm → Option Mm
  | 0, _, _ => none
  | n + 1, x2, f => (if 6 ≤ x2 then FX0_become_99_4_124 f else (if 0 ≤ x2 ∧ x2 < 6 then (if 0 ≤ x2 ∧ x2 < 6 then ((FX0_copyRow (12 + x2.toNat) (107 + x2.toNat) f).bind fun f3 => FX0_become_99_4_97 n (w32 (x2 + 1)) f3) else none) else none))
set_option maxHeartbeats 4000000 in
set_option maxRecDepth 100000 in
theorem SX0_become_99_4_97 {G : GT} {l : Launch} {Q : Option AV → Mem → Prop}  : ∀ (n : Nat) (x2 : Int) (f : Mm), OkV Q (FX0_become_99_4_97  n x2 f) → Ev G l MX0_become (Rm 2 0 0) (ZM G Q 0 0) 0 0 97 [some (vR 99), some (vR 4), some (vI x2)] [] (SH, RF, f) := by
  intro n
  induction n with
  | zero => intro x2 f h; exact absurd h (by rw [FX0_become_99_4_97]; exact fun q => q)
  | succ n ih =>
    intro x2 f h
    rw [FX0_become_99_4_97] at h
    refine ev_iload_n (i := 2) dX0_become_97 rfl rfl ?_
    refine ev_bipush (v := 6) dX0_become_98 (r32c rfl) (by decide) ?_
    refine ev_icmp_ge (tgt := 124) dX0_become_100 (by decide) (fun c4 => ?_) (fun c4 => ?_)
    · rw [if_pos c4] at h
      refine ev_fg [true, true, false] rfl ?_
      exact SX0_become_99_4_124   _ h
    · rw [if_neg c4] at h
      refine ev_aload_n (i := 1) dX0_become_103 rfl rfl ?_
      refine ev_getR dX0_become_104 fl_X0_20 sh_4 (by decide) (by decide) rf_4_9 ?_
      refine ev_iload_n (i := 2) dX0_become_107 rfl rfl ?_
      by_cases g1 : 0 ≤ x2 ∧ x2 < 6
      · rw [if_pos g1] at h
        refine ev_aald (b := (12 + x2.toNat)) dX0_become_108 (Or.inl rfl) sh_11 g1.1 g1.2 (rfr_11 g1) ?_
        refine ev_aload_n (i := 0) dX0_become_109 rfl rfl ?_
        refine ev_getR dX0_become_110 fl_X0_20 sh_99 (by decide) (by decide) rf_99_9 ?_
        refine ev_iload_n (i := 2) dX0_become_113 rfl rfl ?_
        by_cases g2 : 0 ≤ x2 ∧ x2 < 6
        · rw [if_pos g2] at h
          refine ev_aald (b := (107 + x2.toNat)) dX0_become_114 (Or.inl rfl) sh_106 g2.1 g2.2 (rfr_106 g2) ?_
          refine ev_cSV (av := [vR (12 + x2.toNat), vR (107 + x2.toNat)]) (S := []) (fun q => q) h dX0_become_115 (fun Q' q => TX0_copyRow (12 + x2.toNat) (107 + x2.toNat) _ q) ksX0_copyRow ml_X0_57 rfl (RRc (by decide) (by decide)) (Nat.le_of_ble_eq_true rfl) ⟨Nat.le_of_ble_eq_true rfl, Nat.le_of_ble_eq_true rfl⟩ (fun f3 h => ?_)
          refine ev_iinc (L' := [some (vR 99), some (vR 4), some (vI (w32 (x2 + 1)))]) dX0_become_118 rfl (by decide) rfl ?_
          refine ev_goto (tgt := 97) dX0_become_121 (by decide) ?_
          exact ih (w32 (x2 + 1)) _ h
        · rw [if_neg g2] at h; exact h.elim
      · rw [if_neg g1] at h; exact h.elim
def FX0_become_99_4_95   (f : Mm) : Option Mm := FX0_become_99_4_97 fu 0 f
set_option maxHeartbeats 4000000 in
set_option maxRecDepth 100000 in
theorem SX0_become_99_4_95 {G : GT} {l : Launch} {Q : Option AV → Mem → Prop}   (f : Mm) (h : OkV Q (FX0_become_99_4_95   f)) : Ev G l MX0_become (Rm 2 0 0) (ZM G Q 0 0) 0 0 95 [some (vR 99), some (vR 4), none] [] (SH, RF, f) := by
  unfold FX0_become_99_4_95 at h
  refine ev_iconst dX0_become_95 (r32c rfl) ?_
  refine ev_istore_n (i := 2) (L' := [some (vR 99), some (vR 4), some (vI 0)]) dX0_become_96 rfl (by decide) rfl ?_
  exact SX0_become_99_4_97  fu 0 _ h
def FX0_become_99_4_69  : Nat → Int → Mm → Option Mm
  | 0, _, _ => none
  | n + 1, x2, f => (if 4 ≤ x2 then FX0_become_99_4_95 f else (if 0 ≤ x2 ∧ x2 < 4 then (if 0 ≤ x2 ∧ x2 < 4 then ((FX0_copyRow (7 + x2.toNat) (102 + x2.toNat) f).bind fun f3 => FX0_become_99_4_69 n (w32 (x2 + 1)) f3) else none) else none))
set_option maxHeartbeats 4000000 in
set_option maxRecDepth 100000 in
theorem SX0_become_99_4_69 {G : GT} {l : Launch} {Q : Option AV → Mem → Prop}  : ∀ (n : Nat) (x2 : Int) (f : Mm), OkV Q (FX0_become_99_4_69  n x2 f) → Ev G l MX0_become (Rm 2 0 0) (ZM G Q 0 0) 0 0 69 [some (vR 99), some (vR 4), some (vI x2)] [] (SH, RF, f) := by
  intro n
  induction n with
  | zero => intro x2 f h; exact absurd h (by rw [FX0_become_99_4_69]; exact fun q => q)
  | succ n ih =>
    intro x2 f h
    rw [FX0_become_99_4_69] at h
    refine ev_iload_n (i := 2) dX0_become_69 rfl rfl ?_
    refine ev_iconst dX0_become_70 (r32c rfl) ?_
    refine ev_icmp_ge (tgt := 95) dX0_become_71 (by decide) (fun c4 => ?_) (fun c4 => ?_)
    · rw [if_pos c4] at h
      refine ev_fg [true, true, false] rfl ?_
      exact SX0_become_99_4_95   _ h
    · rw [if_neg c4] at h
      refine ev_aload_n (i := 1) dX0_become_74 rfl rfl ?_
      refine ev_getR dX0_become_75 fl_X0_17 sh_4 (by decide) (by decide) rf_4_8 ?_
      refine ev_iload_n (i := 2) dX0_become_78 rfl rfl ?_
      by_cases g1 : 0 ≤ x2 ∧ x2 < 4
      · rw [if_pos g1] at h
        refine ev_aald (b := (7 + x2.toNat)) dX0_become_79 (Or.inl rfl) sh_6 g1.1 g1.2 (rfr_6 g1) ?_
        refine ev_aload_n (i := 0) dX0_become_80 rfl rfl ?_
        refine ev_getR dX0_become_81 fl_X0_17 sh_99 (by decide) (by decide) rf_99_8 ?_
        refine ev_iload_n (i := 2) dX0_become_84 rfl rfl ?_
        by_cases g2 : 0 ≤ x2 ∧ x2 < 4
        · rw [if_pos g2] at h
          refine ev_aald (b := (102 + x2.toNat)) dX0_become_85 (Or.inl rfl) sh_101 g2.1 g2.2 (rfr_101 g2) ?_
          refine ev_cSV (av := [vR (7 + x2.toNat), vR (102 + x2.toNat)]) (S := []) (fun q => q) h dX0_become_86 (fun Q' q => TX0_copyRow (7 + x2.toNat) (102 + x2.toNat) _ q) ksX0_copyRow ml_X0_57 rfl (RRc (by decide) (by decide)) (Nat.le_of_ble_eq_true rfl) ⟨Nat.le_of_ble_eq_true rfl, Nat.le_of_ble_eq_true rfl⟩ (fun f3 h => ?_)
          refine ev_iinc (L' := [some (vR 99), some (vR 4), some (vI (w32 (x2 + 1)))]) dX0_become_89 rfl (by decide) rfl ?_
          refine ev_goto (tgt := 69) dX0_become_92 (by decide) ?_
          exact ih (w32 (x2 + 1)) _ h
        · rw [if_neg g2] at h; exact h.elim
      · rw [if_neg g1] at h; exact h.elim
def FX0_become_99_4_0   (f : Mm) : Option Mm := ((FX0_copyRow 5 100 (up (up (up (up (up (up (up f 99 0 (f 4 0)) 99 1 (f 4 1)) 99 2 (f 4 2)) 99 3 (f 4 3)) 99 4 (f 4 4)) 99 5 (f 4 5)) 99 6 (f 4 6))).bind fun f1 => FX0_become_99_4_69 fu 0 f1)
set_option maxHeartbeats 4000000 in
set_option maxRecDepth 100000 in
theorem SX0_become_99_4_0 {G : GT} {l : Launch} {Q : Option AV → Mem → Prop}   (f : Mm) (h : OkV Q (FX0_become_99_4_0   f)) : Ev G l MX0_become (Rm 2 0 0) (ZM G Q 0 0) 0 0 0 [some (vR 99), some (vR 4), none] [] (SH, RF, f) := by
  unfold FX0_become_99_4_0 at h
  refine ev_aload_n (i := 0) dX0_become_0 rfl rfl ?_
  refine ev_aload_n (i := 1) dX0_become_1 rfl rfl ?_
  refine ex_getI (x := (f 4 0)) dX0_become_2 fl_X0_32 sh_4 (by decide) (by decide) rfl ?_
  refine ev_putI dX0_become_5 fl_X0_32 sh_99 (by decide) (by decide) ?_
  refine ev_aload_n (i := 0) dX0_become_8 rfl rfl ?_
  refine ev_aload_n (i := 1) dX0_become_9 rfl rfl ?_
  refine ex_getI (x := (f 4 1)) dX0_become_10 fl_X0_36 sh_4 (by decide) (by decide) rfl ?_
  refine ev_putI dX0_become_13 fl_X0_36 sh_99 (by decide) (by decide) ?_
  refine ev_aload_n (i := 0) dX0_become_16 rfl rfl ?_
  refine ev_aload_n (i := 1) dX0_become_17 rfl rfl ?_
  refine ex_getI (x := (f 4 2)) dX0_become_18 fl_X0_39 sh_4 (by decide) (by decide) rfl ?_
  refine ev_putI dX0_become_21 fl_X0_39 sh_99 (by decide) (by decide) ?_
  refine ev_aload_n (i := 0) dX0_become_24 rfl rfl ?_
  refine ev_aload_n (i := 1) dX0_become_25 rfl rfl ?_
  refine ex_getI (x := (f 4 3)) dX0_become_26 fl_X0_42 sh_4 (by decide) (by decide) rfl ?_
  refine ev_putI dX0_become_29 fl_X0_42 sh_99 (by decide) (by decide) ?_
  refine ev_aload_n (i := 0) dX0_become_32 rfl rfl ?_
  refine ev_aload_n (i := 1) dX0_become_33 rfl rfl ?_
  refine ex_getI (x := (f 4 4)) dX0_become_34 fl_X0_45 sh_4 (by decide) (by decide) rfl ?_
  refine ev_putI dX0_become_37 fl_X0_45 sh_99 (by decide) (by decide) ?_
  refine ev_aload_n (i := 0) dX0_become_40 rfl rfl ?_
  refine ev_aload_n (i := 1) dX0_become_41 rfl rfl ?_
  refine ex_getI (x := (f 4 5)) dX0_become_42 fl_X0_48 sh_4 (by decide) (by decide) rfl ?_
  refine ev_putI dX0_become_45 fl_X0_48 sh_99 (by decide) (by decide) ?_
  refine ev_aload_n (i := 0) dX0_become_48 rfl rfl ?_
  refine ev_aload_n (i := 1) dX0_become_49 rfl rfl ?_
  refine ex_getI (x := (f 4 6)) dX0_become_50 fl_X0_54 sh_4 (by decide) (by decide) rfl ?_
  refine ev_putI dX0_become_53 fl_X0_54 sh_99 (by decide) (by decide) ?_
  refine ev_aload_n (i := 1) dX0_become_56 rfl rfl ?_
  refine ev_getR dX0_become_57 fl_X0_9 sh_4 (by decide) (by decide) rf_4_7 ?_
  refine ev_aload_n (i := 0) dX0_become_60 rfl rfl ?_
  refine ev_getR dX0_become_61 fl_X0_9 sh_99 (by decide) (by decide) rf_99_7 ?_
  refine ev_cSV (av := [vR 5, vR 100]) (S := []) (fun q => q) h dX0_become_64 (fun Q' q => TX0_copyRow 5 100 _ q) ksX0_copyRow ml_X0_57 rfl (RRc (by decide) (by decide)) (Nat.le_of_ble_eq_true rfl) ⟨Nat.le_of_ble_eq_true rfl, Nat.le_of_ble_eq_true rfl⟩ (fun f1 h => ?_)
  refine ev_iconst dX0_become_67 (r32c rfl) ?_
  refine ev_istore_n (i := 2) (L' := [some (vR 99), some (vR 4), some (vI 0)]) dX0_become_68 rfl (by decide) rfl ?_
  exact SX0_become_99_4_69  fu 0 _ h
def FX0_become_99_4  (f : Mm) : Option Mm := FX0_become_99_4_0  f
set_option maxRecDepth 100000 in
theorem TX0_become_99_4 {G : GT} {l : Launch} {Q : Option AV → Mem → Prop}  (f : Mm) (h : OkV Q (FX0_become_99_4  f)) : Ret G l MX0_become (2) 0 0 [vR 99, vR 4] (SH, RF, f) Q := by
  refine ret_of (L := [some (vR 99), some (vR 4), none]) (by decide) rfl (Nat.le_of_ble_eq_true rfl) ?_
  exact SX0_become_99_4_0  f h
def FX0_become_116_4_124   (f : Mm) : Option Mm := ((FX0_copyRow 18 130 f).bind fun f1 => ((FX0_copyRow 19 131 f1).bind fun f2 => ((FX0_copyRow 20 132 f2).bind fun f3 => some f3)))
set_option maxHeartbeats 4000000 in
set_option maxRecDepth 100000 in
theorem SX0_become_116_4_124 {G : GT} {l : Launch} {Q : Option AV → Mem → Prop}   (f : Mm) (h : OkV Q (FX0_become_116_4_124   f)) : Ev G l MX0_become (Rm 2 0 0) (ZM G Q 0 0) 0 0 124 [some (vR 116), some (vR 4), none] [] (SH, RF, f) := by
  unfold FX0_become_116_4_124 at h
  refine ev_aload_n (i := 1) dX0_become_124 rfl rfl ?_
  refine ev_getR dX0_become_125 fl_X0_23 sh_4 (by decide) (by decide) rf_4_10 ?_
  refine ev_aload_n (i := 0) dX0_become_128 rfl rfl ?_
  refine ev_getR dX0_become_129 fl_X0_23 sh_116 (by decide) (by decide) rf_116_10 ?_
  refine ev_cSV (av := [vR 18, vR 130]) (S := []) (fun q => q) h dX0_become_132 (fun Q' q => TX0_copyRow 18 130 _ q) ksX0_copyRow ml_X0_57 rfl (RRc (by decide) (by decide)) (Nat.le_of_ble_eq_true rfl) ⟨Nat.le_of_ble_eq_true rfl, Nat.le_of_ble_eq_true rfl⟩ (fun f1 h => ?_)
  refine ev_aload_n (i := 1) dX0_become_135 rfl rfl ?_
  refine ev_getR dX0_become_136 fl_X0_26 sh_4 (by decide) (by decide) rf_4_11 ?_
  refine ev_aload_n (i := 0) dX0_become_139 rfl rfl ?_
  refine ev_getR dX0_become_140 fl_X0_26 sh_116 (by decide) (by decide) rf_116_11 ?_
  refine ev_cSV (av := [vR 19, vR 131]) (S := []) (fun q => q) h dX0_become_143 (fun Q' q => TX0_copyRow 19 131 _ q) ksX0_copyRow ml_X0_57 rfl (RRc (by decide) (by decide)) (Nat.le_of_ble_eq_true rfl) ⟨Nat.le_of_ble_eq_true rfl, Nat.le_of_ble_eq_true rfl⟩ (fun f2 h => ?_)
  refine ev_aload_n (i := 1) dX0_become_146 rfl rfl ?_
  refine ev_getR dX0_become_147 fl_X0_29 sh_4 (by decide) (by decide) rf_4_12 ?_
  refine ev_aload_n (i := 0) dX0_become_150 rfl rfl ?_
  refine ev_getR dX0_become_151 fl_X0_29 sh_116 (by decide) (by decide) rf_116_12 ?_
  refine ev_cSV (av := [vR 20, vR 132]) (S := []) (fun q => q) h dX0_become_154 (fun Q' q => TX0_copyRow 20 132 _ q) ksX0_copyRow ml_X0_57 rfl (RRc (by decide) (by decide)) (Nat.le_of_ble_eq_true rfl) ⟨Nat.le_of_ble_eq_true rfl, Nat.le_of_ble_eq_true rfl⟩ (fun f3 h => ?_)
  exact ev_vret rfl dX0_become_157 h
def FX0_become_116_4_97  : Nat → Int → Mm → Option Mm
  | 0, _, _ => none
  | n + 1, x2, f => (if 6 ≤ x2 then FX0_become_116_4_124 f else (if 0 ≤ x2 ∧ x2 < 6 then (if 0 ≤ x2 ∧ x2 < 6 then ((FX0_copyRow (12 + x2.toNat) (124 + x2.toNat) f).bind fun f3 => FX0_become_116_4_97 n (w32 (x2 + 1)) f3) else none) else none))
set_option maxHeartbeats 4000000 in
set_option maxRecDepth 100000 in
theorem SX0_become_116_4_97 {G : GT} {l : Launch} {Q : Option AV → Mem → Prop}  : ∀ (n : Nat) (x2 : Int) (f : Mm), OkV Q (FX0_become_116_4_97  n x2 f) → Ev G l MX0_become (Rm 2 0 0) (ZM G Q 0 0) 0 0 97 [some (vR 116), some (vR 4), some (vI x2)] [] (SH, RF, f) := by
  intro n
  induction n with
  | zero => intro x2 f h; exact absurd h (by rw [FX0_become_116_4_97]; exact fun q => q)
  | succ n ih =>
    intro x2 f h
    rw [FX0_become_116_4_97] at h
    refine ev_iload_n (i := 2) dX0_become_97 rfl rfl ?_
    refine ev_bipush (v := 6) dX0_become_98 (r32c rfl) (by decide) ?_
    refine ev_icmp_ge (tgt := 124) dX0_become_100 (by decide) (fun c4 => ?_) (fun c4 => ?_)
    · rw [if_pos c4] at h
      refine ev_fg [true, true, false] rfl ?_
      exact SX0_become_116_4_124   _ h
    · rw [if_neg c4] at h
      refine ev_aload_n (i := 1) dX0_become_103 rfl rfl ?_
      refine ev_getR dX0_become_104 fl_X0_20 sh_4 (by decide) (by decide) rf_4_9 ?_
      refine ev_iload_n (i := 2) dX0_become_107 rfl rfl ?_
      by_cases g1 : 0 ≤ x2 ∧ x2 < 6
      · rw [if_pos g1] at h
        refine ev_aald (b := (12 + x2.toNat)) dX0_become_108 (Or.inl rfl) sh_11 g1.1 g1.2 (rfr_11 g1) ?_
        refine ev_aload_n (i := 0) dX0_become_109 rfl rfl ?_
        refine ev_getR dX0_become_110 fl_X0_20 sh_116 (by decide) (by decide) rf_116_9 ?_
        refine ev_iload_n (i := 2) dX0_become_113 rfl rfl ?_
        by_cases g2 : 0 ≤ x2 ∧ x2 < 6
        · rw [if_pos g2] at h
          refine ev_aald (b := (124 + x2.toNat)) dX0_become_114 (Or.inl rfl) sh_123 g2.1 g2.2 (rfr_123 g2) ?_
          refine ev_cSV (av := [vR (12 + x2.toNat), vR (124 + x2.toNat)]) (S := []) (fun q => q) h dX0_become_115 (fun Q' q => TX0_copyRow (12 + x2.toNat) (124 + x2.toNat) _ q) ksX0_copyRow ml_X0_57 rfl (RRc (by decide) (by decide)) (Nat.le_of_ble_eq_true rfl) ⟨Nat.le_of_ble_eq_true rfl, Nat.le_of_ble_eq_true rfl⟩ (fun f3 h => ?_)
          refine ev_iinc (L' := [some (vR 116), some (vR 4), some (vI (w32 (x2 + 1)))]) dX0_become_118 rfl (by decide) rfl ?_
          refine ev_goto (tgt := 97) dX0_become_121 (by decide) ?_
          exact ih (w32 (x2 + 1)) _ h
        · rw [if_neg g2] at h; exact h.elim
      · rw [if_neg g1] at h; exact h.elim
def FX0_become_116_4_95   (f : Mm) : Option Mm := FX0_become_116_4_97 fu 0 f
set_option maxHeartbeats 4000000 in
set_option maxRecDepth 100000 in
theorem SX0_become_116_4_95 {G : GT} {l : Launch} {Q : Option AV → Mem → Prop}   (f : Mm) (h : OkV Q (FX0_become_116_4_95   f)) : Ev G l MX0_become (Rm 2 0 0) (ZM G Q 0 0) 0 0 95 [some (vR 116), some (vR 4), none] [] (SH, RF, f) := by
  unfold FX0_become_116_4_95 at h
  refine ev_iconst dX0_become_95 (r32c rfl) ?_
  refine ev_istore_n (i := 2) (L' := [some (vR 116), some (vR 4), some (vI 0)]) dX0_become_96 rfl (by decide) rfl ?_
  exact SX0_become_116_4_97  fu 0 _ h
def FX0_become_116_4_69  : Nat → Int → Mm → Option Mm
  | 0, _, _ => none
  | n + 1, x2, f => (if 4 ≤ x2 then FX0_become_116_4_95 f else (if 0 ≤ x2 ∧ x2 < 4 then (if 0 ≤ x2 ∧ x2 < 4 then ((FX0_copyRow (7 + x2.toNat) (119 + x2.toNat) f).bind fun f3 => FX0_become_116_4_69 n (w32 (x2 + 1)) f3) else none) else none))
set_option maxHeartbeats 4000000 in
set_option maxRecDepth 100000 in
theorem SX0_become_116_4_69 {G : GT} {l : Launch} {Q : Option AV → Mem → Prop}  : ∀ (n : Nat) (x2 : Int) (f : Mm), OkV Q (FX0_become_116_4_69  n x2 f) → Ev G l MX0_become (Rm 2 0 0) (ZM G Q 0 0) 0 0 69 [some (vR 116), some (vR 4), some (vI x2)] [] (SH, RF, f) := by
  intro n
  induction n with
  | zero => intro x2 f h; exact absurd h (by rw [FX0_become_116_4_69]; exact fun q => q)
  | succ n ih =>
    intro x2 f h
    rw [FX0_become_116_4_69] at h
    refine ev_iload_n (i := 2) dX0_become_69 rfl rfl ?_
    refine ev_iconst dX0_become_70 (r32c rfl) ?_
    refine ev_icmp_ge (tgt := 95) dX0_become_71 (by decide) (fun c4 => ?_) (fun c4 => ?_)
    · rw [if_pos c4] at h
      refine ev_fg [true, true, false] rfl ?_
      exact SX0_become_116_4_95   _ h
    · rw [if_neg c4] at h
      refine ev_aload_n (i := 1) dX0_become_74 rfl rfl ?_
      refine ev_getR dX0_become_75 fl_X0_17 sh_4 (by decide) (by decide) rf_4_8 ?_
      refine ev_iload_n (i := 2) dX0_become_78 rfl rfl ?_
      by_cases g1 : 0 ≤ x2 ∧ x2 < 4
      · rw [if_pos g1] at h
        refine ev_aald (b := (7 + x2.toNat)) dX0_become_79 (Or.inl rfl) sh_6 g1.1 g1.2 (rfr_6 g1) ?_
        refine ev_aload_n (i := 0) dX0_become_80 rfl rfl ?_
        refine ev_getR dX0_become_81 fl_X0_17 sh_116 (by decide) (by decide) rf_116_8 ?_
        refine ev_iload_n (i := 2) dX0_become_84 rfl rfl ?_
        by_cases g2 : 0 ≤ x2 ∧ x2 < 4
        · rw [if_pos g2] at h
          refine ev_aald (b := (119 + x2.toNat)) dX0_become_85 (Or.inl rfl) sh_118 g2.1 g2.2 (rfr_118 g2) ?_
          refine ev_cSV (av := [vR (7 + x2.toNat), vR (119 + x2.toNat)]) (S := []) (fun q => q) h dX0_become_86 (fun Q' q => TX0_copyRow (7 + x2.toNat) (119 + x2.toNat) _ q) ksX0_copyRow ml_X0_57 rfl (RRc (by decide) (by decide)) (Nat.le_of_ble_eq_true rfl) ⟨Nat.le_of_ble_eq_true rfl, Nat.le_of_ble_eq_true rfl⟩ (fun f3 h => ?_)
          refine ev_iinc (L' := [some (vR 116), some (vR 4), some (vI (w32 (x2 + 1)))]) dX0_become_89 rfl (by decide) rfl ?_
          refine ev_goto (tgt := 69) dX0_become_92 (by decide) ?_
          exact ih (w32 (x2 + 1)) _ h
        · rw [if_neg g2] at h; exact h.elim
      · rw [if_neg g1] at h; exact h.elim
def FX0_become_116_4_0   (f : Mm) : Option Mm := ((FX0_copyRow 5 117 (up (up (up (up (up (up (up f 116 0 (f 4 0)) 116 1 (f 4 1)) 116 2 (f 4 2)) 116 3 (f 4 3)) 116 4 (f 4 4)) 116 5 (f 4 5)) 116 6 (f 4 6))).bind fun f1 => FX0_become_116_4_69 fu 0 f1)
set_option maxHeartbeats 4000000 in
set_option maxRecDepth 100000 in
theorem SX0_become_116_4_0 {G : GT} {l : Launch} {Q : Option AV → Mem → Prop}   (f : Mm) (h : OkV Q (FX0_become_116_4_0   f)) : Ev G l MX0_become (Rm 2 0 0) (ZM G Q 0 0) 0 0 0 [some (vR 116), some (vR 4), none] [] (SH, RF, f) := by
  unfold FX0_become_116_4_0 at h
  refine ev_aload_n (i := 0) dX0_become_0 rfl rfl ?_
  refine ev_aload_n (i := 1) dX0_become_1 rfl rfl ?_
  refine ex_getI (x := (f 4 0)) dX0_become_2 fl_X0_32 sh_4 (by decide) (by decide) rfl ?_
  refine ev_putI dX0_become_5 fl_X0_32 sh_116 (by decide) (by decide) ?_
  refine ev_aload_n (i := 0) dX0_become_8 rfl rfl ?_
  refine ev_aload_n (i := 1) dX0_become_9 rfl rfl ?_
  refine ex_getI (x := (f 4 1)) dX0_become_10 fl_X0_36 sh_4 (by decide) (by decide) rfl ?_
  refine ev_putI dX0_become_13 fl_X0_36 sh_116 (by decide) (by decide) ?_
  refine ev_aload_n (i := 0) dX0_become_16 rfl rfl ?_
  refine ev_aload_n (i := 1) dX0_become_17 rfl rfl ?_
  refine ex_getI (x := (f 4 2)) dX0_become_18 fl_X0_39 sh_4 (by decide) (by decide) rfl ?_
  refine ev_putI dX0_become_21 fl_X0_39 sh_116 (by decide) (by decide) ?_
  refine ev_aload_n (i := 0) dX0_become_24 rfl rfl ?_
  refine ev_aload_n (i := 1) dX0_become_25 rfl rfl ?_
  refine ex_getI (x := (f 4 3)) dX0_become_26 fl_X0_42 sh_4 (by decide) (by decide) rfl ?_
  refine ev_putI dX0_become_29 fl_X0_42 sh_116 (by decide) (by decide) ?_
  refine ev_aload_n (i := 0) dX0_become_32 rfl rfl ?_
  refine ev_aload_n (i := 1) dX0_become_33 rfl rfl ?_
  refine ex_getI (x := (f 4 4)) dX0_become_34 fl_X0_45 sh_4 (by decide) (by decide) rfl ?_
  refine ev_putI dX0_become_37 fl_X0_45 sh_116 (by decide) (by decide) ?_
  refine ev_aload_n (i := 0) dX0_become_40 rfl rfl ?_
  refine ev_aload_n (i := 1) dX0_become_41 rfl rfl ?_
  refine ex_getI (x := (f 4 5)) dX0_become_42 fl_X0_48 sh_4 (by decide) (by decide) rfl ?_
  refine ev_putI dX0_become_45 fl_X0_48 sh_116 (by decide) (by decide) ?_
  refine ev_aload_n (i := 0) dX0_become_48 rfl rfl ?_
  refine ev_aload_n (i := 1) dX0_become_49 rfl rfl ?_
  refine ex_getI (x := (f 4 6)) dX0_become_50 fl_X0_54 sh_4 (by decide) (by decide) rfl ?_
  refine ev_putI dX0_become_53 fl_X0_54 sh_116 (by decide) (by decide) ?_
  refine ev_aload_n (i := 1) dX0_become_56 rfl rfl ?_
  refine ev_getR dX0_become_57 fl_X0_9 sh_4 (by decide) (by decide) rf_4_7 ?_
  refine ev_aload_n (i := 0) dX0_become_60 rfl rfl ?_
  refine ev_getR dX0_become_61 fl_X0_9 sh_116 (by decide) (by decide) rf_116_7 ?_
  refine ev_cSV (av := [vR 5, vR 117]) (S := []) (fun q => q) h dX0_become_64 (fun Q' q => TX0_copyRow 5 117 _ q) ksX0_copyRow ml_X0_57 rfl (RRc (by decide) (by decide)) (Nat.le_of_ble_eq_true rfl) ⟨Nat.le_of_ble_eq_true rfl, Nat.le_of_ble_eq_true rfl⟩ (fun f1 h => ?_)
  refine ev_iconst dX0_become_67 (r32c rfl) ?_
  refine ev_istore_n (i := 2) (L' := [some (vR 116), some (vR 4), some (vI 0)]) dX0_become_68 rfl (by decide) rfl ?_
  exact SX0_become_116_4_69  fu 0 _ h
def FX0_become_116_4  (f : Mm) : Option Mm := FX0_become_116_4_0  f
set_option maxRecDepth 100000 in
theorem TX0_become_116_4 {G : GT} {l : Launch} {Q : Option AV → Mem → Prop}  (f : Mm) (h : OkV Q (FX0_become_116_4  f)) : Ret G l MX0_become (2) 0 0 [vR 116, vR 4] (SH, RF, f) Q := by
  refine ret_of (L := [some (vR 116), some (vR 4), none]) (by decide) rfl (Nat.le_of_ble_eq_true rfl) ?_
  exact SX0_become_116_4_0  f h
def FX0_become_133_4_124   (f : Mm) : Option Mm := ((FX0_copyRow 18 147 f).bind fun f1 => ((FX0_copyRow 19 148 f1).bind fun f2 => ((FX0_copyRow 20 149 f2).bind fun f3 => some f3)))
set_option maxHeartbeats 4000000 in
set_option maxRecDepth 100000 in
theorem SX0_become_133_4_124 {G : GT} {l : Launch} {Q : Option AV → Mem → Prop}   (f : Mm) (h : OkV Q (FX0_become_133_4_124   f)) : Ev G l MX0_become (Rm 2 0 0) (ZM G Q 0 0) 0 0 124 [some (vR 133), some (vR 4), none] [] (SH, RF, f) := by
  unfold FX0_become_133_4_124 at h
  refine ev_aload_n (i := 1) dX0_become_124 rfl rfl ?_
  refine ev_getR dX0_become_125 fl_X0_23 sh_4 (by decide) (by decide) rf_4_10 ?_
  refine ev_aload_n (i := 0) dX0_become_128 rfl rfl ?_
  refine ev_getR dX0_become_129 fl_X0_23 sh_133 (by decide) (by decide) rf_133_10 ?_
  refine ev_cSV (av := [vR 18, vR 147]) (S := []) (fun q => q) h dX0_become_132 (fun Q' q => TX0_copyRow 18 147 _ q) ksX0_copyRow ml_X0_57 rfl (RRc (by decide) (by decide)) (Nat.le_of_ble_eq_true rfl) ⟨Nat.le_of_ble_eq_true rfl, Nat.le_of_ble_eq_true rfl⟩ (fun f1 h => ?_)
  refine ev_aload_n (i := 1) dX0_become_135 rfl rfl ?_
  refine ev_getR dX0_become_136 fl_X0_26 sh_4 (by decide) (by decide) rf_4_11 ?_
  refine ev_aload_n (i := 0) dX0_become_139 rfl rfl ?_
  refine ev_getR dX0_become_140 fl_X0_26 sh_133 (by decide) (by decide) rf_133_11 ?_
  refine ev_cSV (av := [vR 19, vR 148]) (S := []) (fun q => q) h dX0_become_143 (fun Q' q => TX0_copyRow 19 148 _ q) ksX0_copyRow ml_X0_57 rfl (RRc (by decide) (by decide)) (Nat.le_of_ble_eq_true rfl) ⟨Nat.le_of_ble_eq_true rfl, Nat.le_of_ble_eq_true rfl⟩ (fun f2 h => ?_)
  refine ev_aload_n (i := 1) dX0_become_146 rfl rfl ?_
  refine ev_getR dX0_become_147 fl_X0_29 sh_4 (by decide) (by decide) rf_4_12 ?_
  refine ev_aload_n (i := 0) dX0_become_150 rfl rfl ?_
  refine ev_getR dX0_become_151 fl_X0_29 sh_133 (by decide) (by decide) rf_133_12 ?_
  refine ev_cSV (av := [vR 20, vR 149]) (S := []) (fun q => q) h dX0_become_154 (fun Q' q => TX0_copyRow 20 149 _ q) ksX0_copyRow ml_X0_57 rfl (RRc (by decide) (by decide)) (Nat.le_of_ble_eq_true rfl) ⟨Nat.le_of_ble_eq_true rfl, Nat.le_of_ble_eq_true rfl⟩ (fun f3 h => ?_)
  exact ev_vret rfl dX0_become_157 h
def FX0_become_133_4_97  : Nat → Int → Mm → Option Mm
  | 0, _, _ => none
  | n + 1, x2, f => (if 6 ≤ x2 then FX0_become_133_4_124 f else (if 0 ≤ x2 ∧ x2 < 6 then (if 0 ≤ x2 ∧ x2 < 6 then ((FX0_copyRow (12 + x2.toNat) (141 + x2.toNat) f).bind fun f3 => FX0_become_133_4_97 n (w32 (x2 + 1)) f3) else none) else none))
set_option maxHeartbeats 4000000 in
set_option maxRecDepth 100000 in
theorem SX0_become_133_4_97 {G : GT} {l : Launch} {Q : Option AV → Mem → Prop}  : ∀ (n : Nat) (x2 : Int) (f : Mm), OkV Q (FX0_become_133_4_97  n x2 f) → Ev G l MX0_become (Rm 2 0 0) (ZM G Q 0 0) 0 0 97 [some (vR 133), some (vR 4), some (vI x2)] [] (SH, RF, f) := by
  intro n
  induction n with
  | zero => intro x2 f h; exact absurd h (by rw [FX0_become_133_4_97]; exact fun q => q)
  | succ n ih =>
    intro x2 f h
    rw [FX0_become_133_4_97] at h
    refine ev_iload_n (i := 2) dX0_become_97 rfl rfl ?_
    refine ev_bipush (v := 6) dX0_become_98 (r32c rfl) (by decide) ?_
    refine ev_icmp_ge (tgt := 124) dX0_become_100 (by decide) (fun c4 => ?_) (fun c4 => ?_)
    · rw [if_pos c4] at h
      refine ev_fg [true, true, false] rfl ?_
      exact SX0_become_133_4_124   _ h
    · rw [if_neg c4] at h
      refine ev_aload_n (i := 1) dX0_become_103 rfl rfl ?_
      refine ev_getR dX0_become_104 fl_X0_20 sh_4 (by decide) (by decide) rf_4_9 ?_
      refine ev_iload_n (i := 2) dX0_become_107 rfl rfl ?_
      by_cases g1 : 0 ≤ x2 ∧ x2 < 6
      · rw [if_pos g1] at h
        refine ev_aald (b := (12 + x2.toNat)) dX0_become_108 (Or.inl rfl) sh_11 g1.1 g1.2 (rfr_11 g1) ?_
        refine ev_aload_n (i := 0) dX0_become_109 rfl rfl ?_
        refine ev_getR dX0_become_110 fl_X0_20 sh_133 (by decide) (by decide) rf_133_9 ?_
        refine ev_iload_n (i := 2) dX0_become_113 rfl rfl ?_
        by_cases g2 : 0 ≤ x2 ∧ x2 < 6
        · rw [if_pos g2] at h
          refine ev_aald (b := (141 + x2.toNat)) dX0_become_114 (Or.inl rfl) sh_140 g2.1 g2.2 (rfr_140 g2) ?_
          refine ev_cSV (av := [vR (12 + x2.toNat), vR (141 + x2.toNat)]) (S := []) (fun q => q) h dX0_become_115 (fun Q' q => TX0_copyRow (12 + x2.toNat) (141 + x2.toNat) _ q) ksX0_copyRow ml_X0_57 rfl (RRc (by decide) (by decide)) (Nat.le_of_ble_eq_true rfl) ⟨Nat.le_of_ble_eq_true rfl, Nat.le_of_ble_eq_true rfl⟩ (fun f3 h => ?_)
          refine ev_iinc (L' := [some (vR 133), some (vR 4), some (vI (w32 (x2 + 1)))]) dX0_become_118 rfl (by decide) rfl ?_
          refine ev_goto (tgt := 97) dX0_become_121 (by decide) ?_
          exact ih (w32 (x2 + 1)) _ h
        · rw [if_neg g2] at h; exact h.elim
      · rw [if_neg g1] at h; exact h.elim
def FX0_become_133_4_95   (f : Mm) : Option Mm := FX0_become_133_4_97 fu 0 f
set_option maxHeartbeats 4000000 in
set_option maxRecDepth 100000 in
theorem SX0_become_133_4_95 {G : GT} {l : Launch} {Q : Option AV → Mem → Prop}   (f : Mm) (h : OkV Q (FX0_become_133_4_95   f)) : Ev G l MX0_become (Rm 2 0 0) (ZM G Q 0 0) 0 0 95 [some (vR 133), some (vR 4), none] [] (SH, RF, f) := by
  unfold FX0_become_133_4_95 at h
  refine ev_iconst dX0_become_95 (r32c rfl) ?_
  refine ev_istore_n (i := 2) (L' := [some (vR 133), some (vR 4), some (vI 0)]) dX0_become_96 rfl (by decide) rfl ?_
  exact SX0_become_133_4_97  fu 0 _ h
def FX0_become_133_4_69  : Nat → Int → Mm → Option Mm
  | 0, _, _ => none
  | n + 1, x2, f => (if 4 ≤ x2 then FX0_become_133_4_95 f else (if 0 ≤ x2 ∧ x2 < 4 then (if 0 ≤ x2 ∧ x2 < 4 then ((FX0_copyRow (7 + x2.toNat) (136 + x2.toNat) f).bind fun f3 => FX0_become_133_4_69 n (w32 (x2 + 1)) f3) else none) else none))
set_option maxHeartbeats 4000000 in
set_option maxRecDepth 100000 in
theorem SX0_become_133_4_69 {G : GT} {l : Launch} {Q : Option AV → Mem → Prop}  : ∀ (n : Nat) (x2 : Int) (f : Mm), OkV Q (FX0_become_133_4_69  n x2 f) → Ev G l MX0_become (Rm 2 0 0) (ZM G Q 0 0) 0 0 69 [some (vR 133), some (vR 4), some (vI x2)] [] (SH, RF, f) := by
  intro n
  induction n with
  | zero => intro x2 f h; exact absurd h (by rw [FX0_become_133_4_69]; exact fun q => q)
  | succ n ih =>
    intro x2 f h
    rw [FX0_become_133_4_69] at h
    refine ev_iload_n (i := 2) dX0_become_69 rfl rfl ?_
    refine ev_iconst dX0_become_70 (r32c rfl) ?_
    refine ev_icmp_ge (tgt := 95) dX0_become_71 (by decide) (fun c4 => ?_) (fun c4 => ?_)
    · rw [if_pos c4] at h
      refine ev_fg [true, true, false] rfl ?_
      exact SX0_become_133_4_95   _ h
    · rw [if_neg c4] at h
      refine ev_aload_n (i := 1) dX0_become_74 rfl rfl ?_
      refine ev_getR dX0_become_75 fl_X0_17 sh_4 (by decide) (by decide) rf_4_8 ?_
      refine ev_iload_n (i := 2) dX0_become_78 rfl rfl ?_
      by_cases g1 : 0 ≤ x2 ∧ x2 < 4
      · rw [if_pos g1] at h
        refine ev_aald (b := (7 + x2.toNat)) dX0_become_79 (Or.inl rfl) sh_6 g1.1 g1.2 (rfr_6 g1) ?_
        refine ev_aload_n (i := 0) dX0_become_80 rfl rfl ?_
        refine ev_getR dX0_become_81 fl_X0_17 sh_133 (by decide) (by decide) rf_133_8 ?_
        refine ev_iload_n (i := 2) dX0_become_84 rfl rfl ?_
        by_cases g2 : 0 ≤ x2 ∧ x2 < 4
        · rw [if_pos g2] at h
          refine ev_aald (b := (136 + x2.toNat)) dX0_become_85 (Or.inl rfl) sh_135 g2.1 g2.2 (rfr_135 g2) ?_
          refine ev_cSV (av := [vR (7 + x2.toNat), vR (136 + x2.toNat)]) (S := []) (fun q => q) h dX0_become_86 (fun Q' q => TX0_copyRow (7 + x2.toNat) (136 + x2.toNat) _ q) ksX0_copyRow ml_X0_57 rfl (RRc (by decide) (by decide)) (Nat.le_of_ble_eq_true rfl) ⟨Nat.le_of_ble_eq_true rfl, Nat.le_of_ble_eq_true rfl⟩ (fun f3 h => ?_)
          refine ev_iinc (L' := [some (vR 133), some (vR 4), some (vI (w32 (x2 + 1)))]) dX0_become_89 rfl (by decide) rfl ?_
          refine ev_goto (tgt := 69) dX0_become_92 (by decide) ?_
          exact ih (w32 (x2 + 1)) _ h
        · rw [if_neg g2] at h; exact h.elim
      · rw [if_neg g1] at h; exact h.elim
def FX0_become_133_4_0   (f : Mm) : Option Mm := ((FX0_copyRow 5 134 (up (up (up (up (up (up (up f 133 0 (f 4 0)) 133 1 (f 4 1)) 133 2 (f 4 2)) 133 3 (f 4 3)) 133 4 (f 4 4)) 133 5 (f 4 5)) 133 6 (f 4 6))).bind fun f1 => FX0_become_133_4_69 fu 0 f1)
set_option maxHeartbeats 4000000 in
set_option maxRecDepth 100000 in
theorem SX0_become_133_4_0 {G : GT} {l : Launch} {Q : Option AV → Mem → Prop}   (f : Mm) (h : OkV Q (FX0_become_133_4_0   f)) : Ev G l MX0_become (Rm 2 0 0) (ZM G Q 0 0) 0 0 0 [some (vR 133), some (vR 4), none] [] (SH, RF, f) := by
  unfold FX0_become_133_4_0 at h
  refine ev_aload_n (i := 0) dX0_become_0 rfl rfl ?_
  refine ev_aload_n (i := 1) dX0_become_1 rfl rfl ?_
  refine ex_getI (x := (f 4 0)) dX0_become_2 fl_X0_32 sh_4 (by decide) (by decide) rfl ?_
  refine ev_putI dX0_become_5 fl_X0_32 sh_133 (by decide) (by decide) ?_
  refine ev_aload_n (i := 0) dX0_become_8 rfl rfl ?_
  refine ev_aload_n (i := 1) dX0_become_9 rfl rfl ?_
  refine ex_getI (x := (f 4 1)) dX0_become_10 fl_X0_36 sh_4 (by decide) (by decide) rfl ?_
  refine ev_putI dX0_become_13 fl_X0_36 sh_133 (by decide) (by decide) ?_
  refine ev_aload_n (i := 0) dX0_become_16 rfl rfl ?_
  refine ev_aload_n (i := 1) dX0_become_17 rfl rfl ?_
  refine ex_getI (x := (f 4 2)) dX0_become_18 fl_X0_39 sh_4 (by decide) (by decide) rfl ?_
  refine ev_putI dX0_become_21 fl_X0_39 sh_133 (by decide) (by decide) ?_
  refine ev_aload_n (i := 0) dX0_become_24 rfl rfl ?_
  refine ev_aload_n (i := 1) dX0_become_25 rfl rfl ?_
  refine ex_getI (x := (f 4 3)) dX0_become_26 fl_X0_42 sh_4 (by decide) (by decide) rfl ?_
  refine ev_putI dX0_become_29 fl_X0_42 sh_133 (by decide) (by decide) ?_
  refine ev_aload_n (i := 0) dX0_become_32 rfl rfl ?_
  refine ev_aload_n (i := 1) dX0_become_33 rfl rfl ?_
  refine ex_getI (x := (f 4 4)) dX0_become_34 fl_X0_45 sh_4 (by decide) (by decide) rfl ?_
  refine ev_putI dX0_become_37 fl_X0_45 sh_133 (by decide) (by decide) ?_
  refine ev_aload_n (i := 0) dX0_become_40 rfl rfl ?_
  refine ev_aload_n (i := 1) dX0_become_41 rfl rfl ?_
  refine ex_getI (x := (f 4 5)) dX0_become_42 fl_X0_48 sh_4 (by decide) (by decide) rfl ?_
  refine ev_putI dX0_become_45 fl_X0_48 sh_133 (by decide) (by decide) ?_
  refine ev_aload_n (i := 0) dX0_become_48 rfl rfl ?_
  refine ev_aload_n (i := 1) dX0_become_49 rfl rfl ?_
  refine ex_getI (x := (f 4 6)) dX0_become_50 fl_X0_54 sh_4 (by decide) (by decide) rfl ?_
  refine ev_putI dX0_become_53 fl_X0_54 sh_133 (by decide) (by decide) ?_
  refine ev_aload_n (i := 1) dX0_become_56 rfl rfl ?_
  refine ev_getR dX0_become_57 fl_X0_9 sh_4 (by decide) (by decide) rf_4_7 ?_
  refine ev_aload_n (i := 0) dX0_become_60 rfl rfl ?_
  refine ev_getR dX0_become_61 fl_X0_9 sh_133 (by decide) (by decide) rf_133_7 ?_
  refine ev_cSV (av := [vR 5, vR 134]) (S := []) (fun q => q) h dX0_become_64 (fun Q' q => TX0_copyRow 5 134 _ q) ksX0_copyRow ml_X0_57 rfl (RRc (by decide) (by decide)) (Nat.le_of_ble_eq_true rfl) ⟨Nat.le_of_ble_eq_true rfl, Nat.le_of_ble_eq_true rfl⟩ (fun f1 h => ?_)
  refine ev_iconst dX0_become_67 (r32c rfl) ?_
  refine ev_istore_n (i := 2) (L' := [some (vR 133), some (vR 4), some (vI 0)]) dX0_become_68 rfl (by decide) rfl ?_
  exact SX0_become_133_4_69  fu 0 _ h
def FX0_become_133_4  (f : Mm) : Option Mm := FX0_become_133_4_0  f
set_option maxRecDepth 100000 in
theorem TX0_become_133_4 {G : GT} {l : Launch} {Q : Option AV → Mem → Prop}  (f : Mm) (h : OkV Q (FX0_become_133_4  f)) : Ret G l MX0_become (2) 0 0 [vR 133, vR 4] (SH, RF, f) Q := by
  refine ret_of (L := [some (vR 133), some (vR 4), none]) (by decide) rfl (Nat.le_of_ble_eq_true rfl) ?_
  exact SX0_become_133_4_0  f h
theorem dX10_image_0 : decode cX10_image 0 = .ok (.iload_n 1, 1) := by decide +kernel
theorem dX10_image_1 : decode cX10_image 1 = .ok (.ifCond .lt 8, 3) := by decide +kernel
theorem dX10_image_9 : decode cX10_image 9 = .ok (.bipush (-2), 2) := by decide +kernel
theorem dX10_image_11 : decode cX10_image 11 = .ok (.ireturn, 1) := by decide +kernel
theorem dX10_image_4 : decode cX10_image 4 = .ok (.iload_n 1, 1) := by decide +kernel
theorem dX10_image_5 : decode cX10_image 5 = .ok (.iconst 3, 1) := by decide +kernel
theorem dX10_image_6 : decode cX10_image 6 = .ok (.if_icmp .lt 6, 3) := by decide +kernel
theorem dX10_image_12 : decode cX10_image 12 = .ok (.aload_n 0, 1) := by decide +kernel
theorem dX10_image_13 : decode cX10_image 13 = .ok (.getfield 26, 3) := by decide +kernel
theorem dX10_image_16 : decode cX10_image 16 = .ok (.iload_n 1, 1) := by decide +kernel
theorem dX10_image_17 : decode cX10_image 17 = .ok (.aaload, 1) := by decide +kernel
theorem dX10_image_18 : decode cX10_image 18 = .ok (.aload_n 0, 1) := by decide +kernel
theorem dX10_image_19 : decode cX10_image 19 = .ok (.getfield 19, 3) := by decide +kernel
theorem dX10_image_22 : decode cX10_image 22 = .ok (.invokevirtual 97, 3) := by decide +kernel
theorem dX10_image_25 : decode cX10_image 25 = .ok (.aload_n 0, 1) := by decide +kernel
theorem dX10_image_26 : decode cX10_image 26 = .ok (.getfield 30, 3) := by decide +kernel
theorem dX10_image_29 : decode cX10_image 29 = .ok (.iload_n 1, 1) := by decide +kernel
theorem dX10_image_30 : decode cX10_image 30 = .ok (.iconst 1, 1) := by decide +kernel
theorem dX10_image_31 : decode cX10_image 31 = .ok (.bastore, 1) := by decide +kernel
theorem dX10_image_32 : decode cX10_image 32 = .ok (.iconst 0, 1) := by decide +kernel
theorem dX10_image_33 : decode cX10_image 33 = .ok (.ireturn, 1) := by decide +kernel
def FX10_image_0  (x1 : Int) (f : Mm) : Option (Int × Mm) := (if x1 < 0 then some ((-2), f) else (if x1 < 3 then (if x1 = 0 then ((FX0_become_99_4 f).bind fun f2 => (if 0 ≤ x1 ∧ x1 < 3 then some (0, (up f2 39 x1.toNat 1)) else none)) else (if x1 = 1 then ((FX0_become_116_4 f).bind fun f5 => (if 0 ≤ x1 ∧ x1 < 3 then some (0, (up f5 39 x1.toNat 1)) else none)) else (if x1 = 2 then ((FX0_become_133_4 f).bind fun f8 => (if 0 ≤ x1 ∧ x1 < 3 then some (0, (up f8 39 x1.toNat 1)) else none)) else none))) else some ((-2), f)))
set_option maxHeartbeats 4000000 in
set_option maxRecDepth 100000 in
theorem SX10_image_0 {G : GT} {l : Launch} {Q : Option AV → Mem → Prop}  (x1 : Int) (f : Mm) (h : OkI Q (FX10_image_0  x1 f)) : Ev G l MX10_image (Rm 3 0 0) (ZM G Q 0 0) 0 0 0 [some (vR 0), some (vI x1)] [] (SH, RF, f) := by
  unfold FX10_image_0 at h
  refine ev_iload_n (i := 1) dX10_image_0 rfl rfl ?_
  refine ev_if_lt (tgt := 9) dX10_image_1 (by decide) (fun c11 => ?_) (fun c11 => ?_)
  · rw [if_pos c11] at h
    refine ev_bipush (v := (-2)) dX10_image_9 (r32c rfl) (by decide) ?_
    exact ev_iret rfl dX10_image_11 h
  · rw [if_neg c11] at h
    refine ev_iload_n (i := 1) dX10_image_4 rfl rfl ?_
    refine ev_iconst dX10_image_5 (r32c rfl) ?_
    refine ev_icmp_lt (tgt := 12) dX10_image_6 (by decide) (fun c10 => ?_) (fun c10 => ?_)
    · rw [if_pos c10] at h
      refine ev_aload_n (i := 0) dX10_image_12 rfl rfl ?_
      refine ev_getR dX10_image_13 fl_X10_26 sh_0 (by decide) (by decide) rf_0_3 ?_
      refine ev_iload_n (i := 1) dX10_image_16 rfl rfl ?_
      by_cases c1 : x1 = 0
      · rw [if_pos c1] at h
        refine ev_aald (b := 99) dX10_image_17 (Or.inr (Or.inr rfl)) sh_38 (by omega) (by omega) (by rw [c1]; exact rf_38_0) ?_
        refine ev_aload_n (i := 0) dX10_image_18 rfl rfl ?_
        refine ev_getR dX10_image_19 fl_X10_19 sh_0 (by decide) (by decide) rf_0_1 ?_
        refine ev_cVV (b := 99) (av := [vR 4]) (S := []) (fun q => q) h dX10_image_22 (fun Q' q => TX0_become_99_4 _ q) kvX0_become ml_X10_97 sh_99 rfl (RRc (by decide) (by decide)) (Nat.le_of_ble_eq_true rfl) ⟨Nat.le_of_ble_eq_true rfl, Nat.le_of_ble_eq_true rfl⟩ (fun f2 h => ?_)
        refine ev_aload_n (i := 0) dX10_image_25 rfl rfl ?_
        refine ev_getR dX10_image_26 fl_X10_30 sh_0 (by decide) (by decide) rf_0_4 ?_
        refine ev_iload_n (i := 1) dX10_image_29 rfl rfl ?_
        refine ev_iconst dX10_image_30 (r32c rfl) ?_
        by_cases g3 : 0 ≤ x1 ∧ x1 < 3
        · rw [if_pos g3] at h
          refine ex_zast (j := x1.toNat) dX10_image_31 sh_39 g3.1 g3.2 (by decide) rfl ?_
          refine ev_iconst dX10_image_32 (r32c rfl) ?_
          exact ev_iret rfl dX10_image_33 h
        · rw [if_neg g3] at h; exact h.elim
      · rw [if_neg c1] at h
        by_cases c4 : x1 = 1
        · rw [if_pos c4] at h
          refine ev_aald (b := 116) dX10_image_17 (Or.inr (Or.inr rfl)) sh_38 (by omega) (by omega) (by rw [c4]; exact rf_38_1) ?_
          refine ev_aload_n (i := 0) dX10_image_18 rfl rfl ?_
          refine ev_getR dX10_image_19 fl_X10_19 sh_0 (by decide) (by decide) rf_0_1 ?_
          refine ev_cVV (b := 116) (av := [vR 4]) (S := []) (fun q => q) h dX10_image_22 (fun Q' q => TX0_become_116_4 _ q) kvX0_become ml_X10_97 sh_116 rfl (RRc (by decide) (by decide)) (Nat.le_of_ble_eq_true rfl) ⟨Nat.le_of_ble_eq_true rfl, Nat.le_of_ble_eq_true rfl⟩ (fun f5 h => ?_)
          refine ev_aload_n (i := 0) dX10_image_25 rfl rfl ?_
          refine ev_getR dX10_image_26 fl_X10_30 sh_0 (by decide) (by decide) rf_0_4 ?_
          refine ev_iload_n (i := 1) dX10_image_29 rfl rfl ?_
          refine ev_iconst dX10_image_30 (r32c rfl) ?_
          by_cases g6 : 0 ≤ x1 ∧ x1 < 3
          · rw [if_pos g6] at h
            refine ex_zast (j := x1.toNat) dX10_image_31 sh_39 g6.1 g6.2 (by decide) rfl ?_
            refine ev_iconst dX10_image_32 (r32c rfl) ?_
            exact ev_iret rfl dX10_image_33 h
          · rw [if_neg g6] at h; exact h.elim
        · rw [if_neg c4] at h
          by_cases c7 : x1 = 2
          · rw [if_pos c7] at h
            refine ev_aald (b := 133) dX10_image_17 (Or.inr (Or.inr rfl)) sh_38 (by omega) (by omega) (by rw [c7]; exact rf_38_2) ?_
            refine ev_aload_n (i := 0) dX10_image_18 rfl rfl ?_
            refine ev_getR dX10_image_19 fl_X10_19 sh_0 (by decide) (by decide) rf_0_1 ?_
            refine ev_cVV (b := 133) (av := [vR 4]) (S := []) (fun q => q) h dX10_image_22 (fun Q' q => TX0_become_133_4 _ q) kvX0_become ml_X10_97 sh_133 rfl (RRc (by decide) (by decide)) (Nat.le_of_ble_eq_true rfl) ⟨Nat.le_of_ble_eq_true rfl, Nat.le_of_ble_eq_true rfl⟩ (fun f8 h => ?_)
            refine ev_aload_n (i := 0) dX10_image_25 rfl rfl ?_
            refine ev_getR dX10_image_26 fl_X10_30 sh_0 (by decide) (by decide) rf_0_4 ?_
            refine ev_iload_n (i := 1) dX10_image_29 rfl rfl ?_
            refine ev_iconst dX10_image_30 (r32c rfl) ?_
            by_cases g9 : 0 ≤ x1 ∧ x1 < 3
            · rw [if_pos g9] at h
              refine ex_zast (j := x1.toNat) dX10_image_31 sh_39 g9.1 g9.2 (by decide) rfl ?_
              refine ev_iconst dX10_image_32 (r32c rfl) ?_
              exact ev_iret rfl dX10_image_33 h
            · rw [if_neg g9] at h; exact h.elim
          · rw [if_neg c7] at h
            exact h.elim
    · rw [if_neg c10] at h
      refine ev_bipush (v := (-2)) dX10_image_9 (r32c rfl) (by decide) ?_
      exact ev_iret rfl dX10_image_11 h
def FX10_image (x1 : Int) (f : Mm) : Option (Int × Mm) := FX10_image_0 x1 f
set_option maxRecDepth 100000 in
theorem TX10_image {G : GT} {l : Launch} {Q : Option AV → Mem → Prop} (x1 : Int) (f : Mm) (h : OkI Q (FX10_image x1 f)) : Ret G l MX10_image (3) 0 0 [vR 0, vI x1] (SH, RF, f) Q := by
  refine ret_of (L := [some (vR 0), some (vI x1)]) (by decide) rfl (Nat.le_of_ble_eq_true rfl) ?_
  exact SX10_image_0 x1 f h
def FX0_become_4_99_124   (f : Mm) : Option Mm := ((FX0_copyRow 113 18 f).bind fun f1 => ((FX0_copyRow 114 19 f1).bind fun f2 => ((FX0_copyRow 115 20 f2).bind fun f3 => some f3)))
set_option maxHeartbeats 4000000 in
set_option maxRecDepth 100000 in
theorem SX0_become_4_99_124 {G : GT} {l : Launch} {Q : Option AV → Mem → Prop}   (f : Mm) (h : OkV Q (FX0_become_4_99_124   f)) : Ev G l MX0_become (Rm 2 0 0) (ZM G Q 0 0) 0 0 124 [some (vR 4), some (vR 99), none] [] (SH, RF, f) := by
  unfold FX0_become_4_99_124 at h
  refine ev_aload_n (i := 1) dX0_become_124 rfl rfl ?_
  refine ev_getR dX0_become_125 fl_X0_23 sh_99 (by decide) (by decide) rf_99_10 ?_
  refine ev_aload_n (i := 0) dX0_become_128 rfl rfl ?_
  refine ev_getR dX0_become_129 fl_X0_23 sh_4 (by decide) (by decide) rf_4_10 ?_
  refine ev_cSV (av := [vR 113, vR 18]) (S := []) (fun q => q) h dX0_become_132 (fun Q' q => TX0_copyRow 113 18 _ q) ksX0_copyRow ml_X0_57 rfl (RRc (by decide) (by decide)) (Nat.le_of_ble_eq_true rfl) ⟨Nat.le_of_ble_eq_true rfl, Nat.le_of_ble_eq_true rfl⟩ (fun f1 h => ?_)
  refine ev_aload_n (i := 1) dX0_become_135 rfl rfl ?_
  refine ev_getR dX0_become_136 fl_X0_26 sh_99 (by decide) (by decide) rf_99_11 ?_
  refine ev_aload_n (i := 0) dX0_become_139 rfl rfl ?_
  refine ev_getR dX0_become_140 fl_X0_26 sh_4 (by decide) (by decide) rf_4_11 ?_
  refine ev_cSV (av := [vR 114, vR 19]) (S := []) (fun q => q) h dX0_become_143 (fun Q' q => TX0_copyRow 114 19 _ q) ksX0_copyRow ml_X0_57 rfl (RRc (by decide) (by decide)) (Nat.le_of_ble_eq_true rfl) ⟨Nat.le_of_ble_eq_true rfl, Nat.le_of_ble_eq_true rfl⟩ (fun f2 h => ?_)
  refine ev_aload_n (i := 1) dX0_become_146 rfl rfl ?_
  refine ev_getR dX0_become_147 fl_X0_29 sh_99 (by decide) (by decide) rf_99_12 ?_
  refine ev_aload_n (i := 0) dX0_become_150 rfl rfl ?_
  refine ev_getR dX0_become_151 fl_X0_29 sh_4 (by decide) (by decide) rf_4_12 ?_
  refine ev_cSV (av := [vR 115, vR 20]) (S := []) (fun q => q) h dX0_become_154 (fun Q' q => TX0_copyRow 115 20 _ q) ksX0_copyRow ml_X0_57 rfl (RRc (by decide) (by decide)) (Nat.le_of_ble_eq_true rfl) ⟨Nat.le_of_ble_eq_true rfl, Nat.le_of_ble_eq_true rfl⟩ (fun f3 h => ?_)
  exact ev_vret rfl dX0_become_157 h
def FX0_become_4_99_97  : Nat → Int → Mm → Option Mm
  | 0, _, _ => none
  | n + 1, x2, f => (if 6 ≤ x2 then FX0_become_4_99_124 f else (if 0 ≤ x2 ∧ x2 < 6 then (if 0 ≤ x2 ∧ x2 < 6 then ((FX0_copyRow (107 + x2.toNat) (12 + x2.toNat) f).bind fun f3 => FX0_become_4_99_97 n (w32 (x2 + 1)) f3) else none) else none))
set_option maxHeartbeats 4000000 in
set_option maxRecDepth 100000 in
theorem SX0_become_4_99_97 {G : GT} {l : Launch} {Q : Option AV → Mem → Prop}  : ∀ (n : Nat) (x2 : Int) (f : Mm), OkV Q (FX0_become_4_99_97  n x2 f) → Ev G l MX0_become (Rm 2 0 0) (ZM G Q 0 0) 0 0 97 [some (vR 4), some (vR 99), some (vI x2)] [] (SH, RF, f) := by
  intro n
  induction n with
  | zero => intro x2 f h; exact absurd h (by rw [FX0_become_4_99_97]; exact fun q => q)
  | succ n ih =>
    intro x2 f h
    rw [FX0_become_4_99_97] at h
    refine ev_iload_n (i := 2) dX0_become_97 rfl rfl ?_
    refine ev_bipush (v := 6) dX0_become_98 (r32c rfl) (by decide) ?_
    refine ev_icmp_ge (tgt := 124) dX0_become_100 (by decide) (fun c4 => ?_) (fun c4 => ?_)
    · rw [if_pos c4] at h
      refine ev_fg [true, true, false] rfl ?_
      exact SX0_become_4_99_124   _ h
    · rw [if_neg c4] at h
      refine ev_aload_n (i := 1) dX0_become_103 rfl rfl ?_
      refine ev_getR dX0_become_104 fl_X0_20 sh_99 (by decide) (by decide) rf_99_9 ?_
      refine ev_iload_n (i := 2) dX0_become_107 rfl rfl ?_
      by_cases g1 : 0 ≤ x2 ∧ x2 < 6
      · rw [if_pos g1] at h
        refine ev_aald (b := (107 + x2.toNat)) dX0_become_108 (Or.inl rfl) sh_106 g1.1 g1.2 (rfr_106 g1) ?_
        refine ev_aload_n (i := 0) dX0_become_109 rfl rfl ?_
        refine ev_getR dX0_become_110 fl_X0_20 sh_4 (by decide) (by decide) rf_4_9 ?_
        refine ev_iload_n (i := 2) dX0_become_113 rfl rfl ?_
        by_cases g2 : 0 ≤ x2 ∧ x2 < 6
        · rw [if_pos g2] at h
          refine ev_aald (b := (12 + x2.toNat)) dX0_become_114 (Or.inl rfl) sh_11 g2.1 g2.2 (rfr_11 g2) ?_
          refine ev_cSV (av := [vR (107 + x2.toNat), vR (12 + x2.toNat)]) (S := []) (fun q => q) h dX0_become_115 (fun Q' q => TX0_copyRow (107 + x2.toNat) (12 + x2.toNat) _ q) ksX0_copyRow ml_X0_57 rfl (RRc (by decide) (by decide)) (Nat.le_of_ble_eq_true rfl) ⟨Nat.le_of_ble_eq_true rfl, Nat.le_of_ble_eq_true rfl⟩ (fun f3 h => ?_)
          refine ev_iinc (L' := [some (vR 4), some (vR 99), some (vI (w32 (x2 + 1)))]) dX0_become_118 rfl (by decide) rfl ?_
          refine ev_goto (tgt := 97) dX0_become_121 (by decide) ?_
          exact ih (w32 (x2 + 1)) _ h
        · rw [if_neg g2] at h; exact h.elim
      · rw [if_neg g1] at h; exact h.elim
def FX0_become_4_99_95   (f : Mm) : Option Mm := FX0_become_4_99_97 fu 0 f
set_option maxHeartbeats 4000000 in
set_option maxRecDepth 100000 in
theorem SX0_become_4_99_95 {G : GT} {l : Launch} {Q : Option AV → Mem → Prop}   (f : Mm) (h : OkV Q (FX0_become_4_99_95   f)) : Ev G l MX0_become (Rm 2 0 0) (ZM G Q 0 0) 0 0 95 [some (vR 4), some (vR 99), none] [] (SH, RF, f) := by
  unfold FX0_become_4_99_95 at h
  refine ev_iconst dX0_become_95 (r32c rfl) ?_
  refine ev_istore_n (i := 2) (L' := [some (vR 4), some (vR 99), some (vI 0)]) dX0_become_96 rfl (by decide) rfl ?_
  exact SX0_become_4_99_97  fu 0 _ h
def FX0_become_4_99_69  : Nat → Int → Mm → Option Mm
  | 0, _, _ => none
  | n + 1, x2, f => (if 4 ≤ x2 then FX0_become_4_99_95 f else (if 0 ≤ x2 ∧ x2 < 4 then (if 0 ≤ x2 ∧ x2 < 4 then ((FX0_copyRow (102 + x2.toNat) (7 + x2.toNat) f).bind fun f3 => FX0_become_4_99_69 n (w32 (x2 + 1)) f3) else none) else none))
set_option maxHeartbeats 4000000 in
set_option maxRecDepth 100000 in
theorem SX0_become_4_99_69 {G : GT} {l : Launch} {Q : Option AV → Mem → Prop}  : ∀ (n : Nat) (x2 : Int) (f : Mm), OkV Q (FX0_become_4_99_69  n x2 f) → Ev G l MX0_become (Rm 2 0 0) (ZM G Q 0 0) 0 0 69 [some (vR 4), some (vR 99), some (vI x2)] [] (SH, RF, f) := by
  intro n
  induction n with
  | zero => intro x2 f h; exact absurd h (by rw [FX0_become_4_99_69]; exact fun q => q)
  | succ n ih =>
    intro x2 f h
    rw [FX0_become_4_99_69] at h
    refine ev_iload_n (i := 2) dX0_become_69 rfl rfl ?_
    refine ev_iconst dX0_become_70 (r32c rfl) ?_
    refine ev_icmp_ge (tgt := 95) dX0_become_71 (by decide) (fun c4 => ?_) (fun c4 => ?_)
    · rw [if_pos c4] at h
      refine ev_fg [true, true, false] rfl ?_
      exact SX0_become_4_99_95   _ h
    · rw [if_neg c4] at h
      refine ev_aload_n (i := 1) dX0_become_74 rfl rfl ?_
      refine ev_getR dX0_become_75 fl_X0_17 sh_99 (by decide) (by decide) rf_99_8 ?_
      refine ev_iload_n (i := 2) dX0_become_78 rfl rfl ?_
      by_cases g1 : 0 ≤ x2 ∧ x2 < 4
      · rw [if_pos g1] at h
        refine ev_aald (b := (102 + x2.toNat)) dX0_become_79 (Or.inl rfl) sh_101 g1.1 g1.2 (rfr_101 g1) ?_
        refine ev_aload_n (i := 0) dX0_become_80 rfl rfl ?_
        refine ev_getR dX0_become_81 fl_X0_17 sh_4 (by decide) (by decide) rf_4_8 ?_
        refine ev_iload_n (i := 2) dX0_become_84 rfl rfl ?_
        by_cases g2 : 0 ≤ x2 ∧ x2 < 4
        · rw [if_pos g2] at h
          refine ev_aald (b := (7 + x2.toNat)) dX0_become_85 (Or.inl rfl) sh_6 g2.1 g2.2 (rfr_6 g2) ?_
          refine ev_cSV (av := [vR (102 + x2.toNat), vR (7 + x2.toNat)]) (S := []) (fun q => q) h dX0_become_86 (fun Q' q => TX0_copyRow (102 + x2.toNat) (7 + x2.toNat) _ q) ksX0_copyRow ml_X0_57 rfl (RRc (by decide) (by decide)) (Nat.le_of_ble_eq_true rfl) ⟨Nat.le_of_ble_eq_true rfl, Nat.le_of_ble_eq_true rfl⟩ (fun f3 h => ?_)
          refine ev_iinc (L' := [some (vR 4), some (vR 99), some (vI (w32 (x2 + 1)))]) dX0_become_89 rfl (by decide) rfl ?_
          refine ev_goto (tgt := 69) dX0_become_92 (by decide) ?_
          exact ih (w32 (x2 + 1)) _ h
        · rw [if_neg g2] at h; exact h.elim
      · rw [if_neg g1] at h; exact h.elim
def FX0_become_4_99_0   (f : Mm) : Option Mm := ((FX0_copyRow 100 5 (up (up (up (up (up (up (up f 4 0 (f 99 0)) 4 1 (f 99 1)) 4 2 (f 99 2)) 4 3 (f 99 3)) 4 4 (f 99 4)) 4 5 (f 99 5)) 4 6 (f 99 6))).bind fun f1 => FX0_become_4_99_69 fu 0 f1)
set_option maxHeartbeats 4000000 in
set_option maxRecDepth 100000 in
theorem SX0_become_4_99_0 {G : GT} {l : Launch} {Q : Option AV → Mem → Prop}   (f : Mm) (h : OkV Q (FX0_become_4_99_0   f)) : Ev G l MX0_become (Rm 2 0 0) (ZM G Q 0 0) 0 0 0 [some (vR 4), some (vR 99), none] [] (SH, RF, f) := by
  unfold FX0_become_4_99_0 at h
  refine ev_aload_n (i := 0) dX0_become_0 rfl rfl ?_
  refine ev_aload_n (i := 1) dX0_become_1 rfl rfl ?_
  refine ex_getI (x := (f 99 0)) dX0_become_2 fl_X0_32 sh_99 (by decide) (by decide) rfl ?_
  refine ev_putI dX0_become_5 fl_X0_32 sh_4 (by decide) (by decide) ?_
  refine ev_aload_n (i := 0) dX0_become_8 rfl rfl ?_
  refine ev_aload_n (i := 1) dX0_become_9 rfl rfl ?_
  refine ex_getI (x := (f 99 1)) dX0_become_10 fl_X0_36 sh_99 (by decide) (by decide) rfl ?_
  refine ev_putI dX0_become_13 fl_X0_36 sh_4 (by decide) (by decide) ?_
  refine ev_aload_n (i := 0) dX0_become_16 rfl rfl ?_
  refine ev_aload_n (i := 1) dX0_become_17 rfl rfl ?_
  refine ex_getI (x := (f 99 2)) dX0_become_18 fl_X0_39 sh_99 (by decide) (by decide) rfl ?_
  refine ev_putI dX0_become_21 fl_X0_39 sh_4 (by decide) (by decide) ?_
  refine ev_aload_n (i := 0) dX0_become_24 rfl rfl ?_
  refine ev_aload_n (i := 1) dX0_become_25 rfl rfl ?_
  refine ex_getI (x := (f 99 3)) dX0_become_26 fl_X0_42 sh_99 (by decide) (by decide) rfl ?_
  refine ev_putI dX0_become_29 fl_X0_42 sh_4 (by decide) (by decide) ?_
  refine ev_aload_n (i := 0) dX0_become_32 rfl rfl ?_
  refine ev_aload_n (i := 1) dX0_become_33 rfl rfl ?_
  refine ex_getI (x := (f 99 4)) dX0_become_34 fl_X0_45 sh_99 (by decide) (by decide) rfl ?_
  refine ev_putI dX0_become_37 fl_X0_45 sh_4 (by decide) (by decide) ?_
  refine ev_aload_n (i := 0) dX0_become_40 rfl rfl ?_
  refine ev_aload_n (i := 1) dX0_become_41 rfl rfl ?_
  refine ex_getI (x := (f 99 5)) dX0_become_42 fl_X0_48 sh_99 (by decide) (by decide) rfl ?_
  refine ev_putI dX0_become_45 fl_X0_48 sh_4 (by decide) (by decide) ?_
  refine ev_aload_n (i := 0) dX0_become_48 rfl rfl ?_
  refine ev_aload_n (i := 1) dX0_become_49 rfl rfl ?_
  refine ex_getI (x := (f 99 6)) dX0_become_50 fl_X0_54 sh_99 (by decide) (by decide) rfl ?_
  refine ev_putI dX0_become_53 fl_X0_54 sh_4 (by decide) (by decide) ?_
  refine ev_aload_n (i := 1) dX0_become_56 rfl rfl ?_
  refine ev_getR dX0_become_57 fl_X0_9 sh_99 (by decide) (by decide) rf_99_7 ?_
  refine ev_aload_n (i := 0) dX0_become_60 rfl rfl ?_
  refine ev_getR dX0_become_61 fl_X0_9 sh_4 (by decide) (by decide) rf_4_7 ?_
  refine ev_cSV (av := [vR 100, vR 5]) (S := []) (fun q => q) h dX0_become_64 (fun Q' q => TX0_copyRow 100 5 _ q) ksX0_copyRow ml_X0_57 rfl (RRc (by decide) (by decide)) (Nat.le_of_ble_eq_true rfl) ⟨Nat.le_of_ble_eq_true rfl, Nat.le_of_ble_eq_true rfl⟩ (fun f1 h => ?_)
  refine ev_iconst dX0_become_67 (r32c rfl) ?_
  refine ev_istore_n (i := 2) (L' := [some (vR 4), some (vR 99), some (vI 0)]) dX0_become_68 rfl (by decide) rfl ?_
  exact SX0_become_4_99_69  fu 0 _ h
def FX0_become_4_99  (f : Mm) : Option Mm := FX0_become_4_99_0  f
set_option maxRecDepth 100000 in
theorem TX0_become_4_99 {G : GT} {l : Launch} {Q : Option AV → Mem → Prop}  (f : Mm) (h : OkV Q (FX0_become_4_99  f)) : Ret G l MX0_become (2) 0 0 [vR 4, vR 99] (SH, RF, f) Q := by
  refine ret_of (L := [some (vR 4), some (vR 99), none]) (by decide) rfl (Nat.le_of_ble_eq_true rfl) ?_
  exact SX0_become_4_99_0  f h
def FX0_become_4_116_124   (f : Mm) : Option Mm := ((FX0_copyRow 130 18 f).bind fun f1 => ((FX0_copyRow 131 19 f1).bind fun f2 => ((FX0_copyRow 132 20 f2).bind fun f3 => some f3)))
set_option maxHeartbeats 4000000 in
set_option maxRecDepth 100000 in
theorem SX0_become_4_116_124 {G : GT} {l : Launch} {Q : Option AV → Mem → Prop}   (f : Mm) (h : OkV Q (FX0_become_4_116_124   f)) : Ev G l MX0_become (Rm 2 0 0) (ZM G Q 0 0) 0 0 124 [some (vR 4), some (vR 116), none] [] (SH, RF, f) := by
  unfold FX0_become_4_116_124 at h
  refine ev_aload_n (i := 1) dX0_become_124 rfl rfl ?_
  refine ev_getR dX0_become_125 fl_X0_23 sh_116 (by decide) (by decide) rf_116_10 ?_
  refine ev_aload_n (i := 0) dX0_become_128 rfl rfl ?_
  refine ev_getR dX0_become_129 fl_X0_23 sh_4 (by decide) (by decide) rf_4_10 ?_
  refine ev_cSV (av := [vR 130, vR 18]) (S := []) (fun q => q) h dX0_become_132 (fun Q' q => TX0_copyRow 130 18 _ q) ksX0_copyRow ml_X0_57 rfl (RRc (by decide) (by decide)) (Nat.le_of_ble_eq_true rfl) ⟨Nat.le_of_ble_eq_true rfl, Nat.le_of_ble_eq_true rfl⟩ (fun f1 h => ?_)
  refine ev_aload_n (i := 1) dX0_become_135 rfl rfl ?_
  refine ev_getR dX0_become_136 fl_X0_26 sh_116 (by decide) (by decide) rf_116_11 ?_
  refine ev_aload_n (i := 0) dX0_become_139 rfl rfl ?_
  refine ev_getR dX0_become_140 fl_X0_26 sh_4 (by decide) (by decide) rf_4_11 ?_
  refine ev_cSV (av := [vR 131, vR 19]) (S := []) (fun q => q) h dX0_become_143 (fun Q' q => TX0_copyRow 131 19 _ q) ksX0_copyRow ml_X0_57 rfl (RRc (by decide) (by decide)) (Nat.le_of_ble_eq_true rfl) ⟨Nat.le_of_ble_eq_true rfl, Nat.le_of_ble_eq_true rfl⟩ (fun f2 h => ?_)
  refine ev_aload_n (i := 1) dX0_become_146 rfl rfl ?_
  refine ev_getR dX0_become_147 fl_X0_29 sh_116 (by decide) (by decide) rf_116_12 ?_
  refine ev_aload_n (i := 0) dX0_become_150 rfl rfl ?_
  refine ev_getR dX0_become_151 fl_X0_29 sh_4 (by decide) (by decide) rf_4_12 ?_
  refine ev_cSV (av := [vR 132, vR 20]) (S := []) (fun q => q) h dX0_become_154 (fun Q' q => TX0_copyRow 132 20 _ q) ksX0_copyRow ml_X0_57 rfl (RRc (by decide) (by decide)) (Nat.le_of_ble_eq_true rfl) ⟨Nat.le_of_ble_eq_true rfl, Nat.le_of_ble_eq_true rfl⟩ (fun f3 h => ?_)
  exact ev_vret rfl dX0_become_157 h
def FX0_become_4_116_97  : Nat → Int → Mm → Option Mm
  | 0, _, _ => none
  | n + 1, x2, f => (if 6 ≤ x2 then FX0_become_4_116_124 f else (if 0 ≤ x2 ∧ x2 < 6 then (if 0 ≤ x2 ∧ x2 < 6 then ((FX0_copyRow (124 + x2.toNat) (12 + x2.toNat) f).bind fun f3 => FX0_become_4_116_97 n (w32 (x2 + 1)) f3) else none) else none))
set_option maxHeartbeats 4000000 in
set_option maxRecDepth 100000 in
theorem SX0_become_4_116_97 {G : GT} {l : Launch} {Q : Option AV → Mem → Prop}  : ∀ (n : Nat) (x2 : Int) (f : Mm), OkV Q (FX0_become_4_116_97  n x2 f) → Ev G l MX0_become (Rm 2 0 0) (ZM G Q 0 0) 0 0 97 [some (vR 4), some (vR 116), some (vI x2)] [] (SH, RF, f) := by
  intro n
  induction n with
  | zero => intro x2 f h; exact absurd h (by rw [FX0_become_4_116_97]; exact fun q => q)
  | succ n ih =>
    intro x2 f h
    rw [FX0_become_4_116_97] at h
    refine ev_iload_n (i := 2) dX0_become_97 rfl rfl ?_
    refine ev_bipush (v := 6) dX0_become_98 (r32c rfl) (by decide) ?_
    refine ev_icmp_ge (tgt := 124) dX0_become_100 (by decide) (fun c4 => ?_) (fun c4 => ?_)
    · rw [if_pos c4] at h
      refine ev_fg [true, true, false] rfl ?_
      exact SX0_become_4_116_124   _ h
    · rw [if_neg c4] at h
      refine ev_aload_n (i := 1) dX0_become_103 rfl rfl ?_
      refine ev_getR dX0_become_104 fl_X0_20 sh_116 (by decide) (by decide) rf_116_9 ?_
      refine ev_iload_n (i := 2) dX0_become_107 rfl rfl ?_
      by_cases g1 : 0 ≤ x2 ∧ x2 < 6
      · rw [if_pos g1] at h
        refine ev_aald (b := (124 + x2.toNat)) dX0_become_108 (Or.inl rfl) sh_123 g1.1 g1.2 (rfr_123 g1) ?_
        refine ev_aload_n (i := 0) dX0_become_109 rfl rfl ?_
        refine ev_getR dX0_become_110 fl_X0_20 sh_4 (by decide) (by decide) rf_4_9 ?_
        refine ev_iload_n (i := 2) dX0_become_113 rfl rfl ?_
        by_cases g2 : 0 ≤ x2 ∧ x2 < 6
        · rw [if_pos g2] at h
          refine ev_aald (b := (12 + x2.toNat)) dX0_become_114 (Or.inl rfl) sh_11 g2.1 g2.2 (rfr_11 g2) ?_
          refine ev_cSV (av := [vR (124 + x2.toNat), vR (12 + x2.toNat)]) (S := []) (fun q => q) h dX0_become_115 (fun Q' q => TX0_copyRow (124 + x2.toNat) (12 + x2.toNat) _ q) ksX0_copyRow ml_X0_57 rfl (RRc (by decide) (by decide)) (Nat.le_of_ble_eq_true rfl) ⟨Nat.le_of_ble_eq_true rfl, Nat.le_of_ble_eq_true rfl⟩ (fun f3 h => ?_)
          refine ev_iinc (L' := [some (vR 4), some (vR 116), some (vI (w32 (x2 + 1)))]) dX0_become_118 rfl (by decide) rfl ?_
          refine ev_goto (tgt := 97) dX0_become_121 (by decide) ?_
          exact ih (w32 (x2 + 1)) _ h
        · rw [if_neg g2] at h; exact h.elim
      · rw [if_neg g1] at h; exact h.elim
def FX0_become_4_116_95   (f : Mm) : Option Mm := FX0_become_4_116_97 fu 0 f
set_option maxHeartbeats 4000000 in
set_option maxRecDepth 100000 in
theorem SX0_become_4_116_95 {G : GT} {l : Launch} {Q : Option AV → Mem → Prop}   (f : Mm) (h : OkV Q (FX0_become_4_116_95   f)) : Ev G l MX0_become (Rm 2 0 0) (ZM G Q 0 0) 0 0 95 [some (vR 4), some (vR 116), none] [] (SH, RF, f) := by
  unfold FX0_become_4_116_95 at h
  refine ev_iconst dX0_become_95 (r32c rfl) ?_
  refine ev_istore_n (i := 2) (L' := [some (vR 4), some (vR 116), some (vI 0)]) dX0_become_96 rfl (by decide) rfl ?_
  exact SX0_become_4_116_97  fu 0 _ h
def FX0_become_4_116_69  : Nat → Int → Mm → Option Mm
  | 0, _, _ => none
  | n + 1, x2, f => (if 4 ≤ x2 then FX0_become_4_116_95 f else (if 0 ≤ x2 ∧ x2 < 4 then (if 0 ≤ x2 ∧ x2 < 4 then ((FX0_copyRow (119 + x2.toNat) (7 + x2.toNat) f).bind fun f3 => FX0_become_4_116_69 n (w32 (x2 + 1)) f3) else none) else none))
set_option maxHeartbeats 4000000 in
set_option maxRecDepth 100000 in
theorem SX0_become_4_116_69 {G : GT} {l : Launch} {Q : Option AV → Mem → Prop}  : ∀ (n : Nat) (x2 : Int) (f : Mm), OkV Q (FX0_become_4_116_69  n x2 f) → Ev G l MX0_become (Rm 2 0 0) (ZM G Q 0 0) 0 0 69 [some (vR 4), some (vR 116), some (vI x2)] [] (SH, RF, f) := by
  intro n
  induction n with
  | zero => intro x2 f h; exact absurd h (by rw [FX0_become_4_116_69]; exact fun q => q)
  | succ n ih =>
    intro x2 f h
    rw [FX0_become_4_116_69] at h
    refine ev_iload_n (i := 2) dX0_become_69 rfl rfl ?_
    refine ev_iconst dX0_become_70 (r32c rfl) ?_
    refine ev_icmp_ge (tgt := 95) dX0_become_71 (by decide) (fun c4 => ?_) (fun c4 => ?_)
    · rw [if_pos c4] at h
      refine ev_fg [true, true, false] rfl ?_
      exact SX0_become_4_116_95   _ h
    · rw [if_neg c4] at h
      refine ev_aload_n (i := 1) dX0_become_74 rfl rfl ?_
      refine ev_getR dX0_become_75 fl_X0_17 sh_116 (by decide) (by decide) rf_116_8 ?_
      refine ev_iload_n (i := 2) dX0_become_78 rfl rfl ?_
      by_cases g1 : 0 ≤ x2 ∧ x2 < 4
      · rw [if_pos g1] at h
        refine ev_aald (b := (119 + x2.toNat)) dX0_become_79 (Or.inl rfl) sh_118 g1.1 g1.2 (rfr_118 g1) ?_
        refine ev_aload_n (i := 0) dX0_become_80 rfl rfl ?_
        refine ev_getR dX0_become_81 fl_X0_17 sh_4 (by decide) (by decide) rf_4_8 ?_
        refine ev_iload_n (i := 2) dX0_become_84 rfl rfl ?_
        by_cases g2 : 0 ≤ x2 ∧ x2 < 4
        · rw [if_pos g2] at h
          refine ev_aald (b := (7 + x2.toNat)) dX0_become_85 (Or.inl rfl) sh_6 g2.1 g2.2 (rfr_6 g2) ?_
          refine ev_cSV (av := [vR (119 + x2.toNat), vR (7 + x2.toNat)]) (S := []) (fun q => q) h dX0_become_86 (fun Q' q => TX0_copyRow (119 + x2.toNat) (7 + x2.toNat) _ q) ksX0_copyRow ml_X0_57 rfl (RRc (by decide) (by decide)) (Nat.le_of_ble_eq_true rfl) ⟨Nat.le_of_ble_eq_true rfl, Nat.le_of_ble_eq_true rfl⟩ (fun f3 h => ?_)
          refine ev_iinc (L' := [some (vR 4), some (vR 116), some (vI (w32 (x2 + 1)))]) dX0_become_89 rfl (by decide) rfl ?_
          refine ev_goto (tgt := 69) dX0_become_92 (by decide) ?_
          exact ih (w32 (x2 + 1)) _ h
        · rw [if_neg g2] at h; exact h.elim
      · rw [if_neg g1] at h; exact h.elim
def FX0_become_4_116_0   (f : Mm) : Option Mm := ((FX0_copyRow 117 5 (up (up (up (up (up (up (up f 4 0 (f 116 0)) 4 1 (f 116 1)) 4 2 (f 116 2)) 4 3 (f 116 3)) 4 4 (f 116 4)) 4 5 (f 116 5)) 4 6 (f 116 6))).bind fun f1 => FX0_become_4_116_69 fu 0 f1)
set_option maxHeartbeats 4000000 in
set_option maxRecDepth 100000 in
theorem SX0_become_4_116_0 {G : GT} {l : Launch} {Q : Option AV → Mem → Prop}   (f : Mm) (h : OkV Q (FX0_become_4_116_0   f)) : Ev G l MX0_become (Rm 2 0 0) (ZM G Q 0 0) 0 0 0 [some (vR 4), some (vR 116), none] [] (SH, RF, f) := by
  unfold FX0_become_4_116_0 at h
  refine ev_aload_n (i := 0) dX0_become_0 rfl rfl ?_
  refine ev_aload_n (i := 1) dX0_become_1 rfl rfl ?_
  refine ex_getI (x := (f 116 0)) dX0_become_2 fl_X0_32 sh_116 (by decide) (by decide) rfl ?_
  refine ev_putI dX0_become_5 fl_X0_32 sh_4 (by decide) (by decide) ?_
  refine ev_aload_n (i := 0) dX0_become_8 rfl rfl ?_
  refine ev_aload_n (i := 1) dX0_become_9 rfl rfl ?_
  refine ex_getI (x := (f 116 1)) dX0_become_10 fl_X0_36 sh_116 (by decide) (by decide) rfl ?_
  refine ev_putI dX0_become_13 fl_X0_36 sh_4 (by decide) (by decide) ?_
  refine ev_aload_n (i := 0) dX0_become_16 rfl rfl ?_
  refine ev_aload_n (i := 1) dX0_become_17 rfl rfl ?_
  refine ex_getI (x := (f 116 2)) dX0_become_18 fl_X0_39 sh_116 (by decide) (by decide) rfl ?_
  refine ev_putI dX0_become_21 fl_X0_39 sh_4 (by decide) (by decide) ?_
  refine ev_aload_n (i := 0) dX0_become_24 rfl rfl ?_
  refine ev_aload_n (i := 1) dX0_become_25 rfl rfl ?_
  refine ex_getI (x := (f 116 3)) dX0_become_26 fl_X0_42 sh_116 (by decide) (by decide) rfl ?_
  refine ev_putI dX0_become_29 fl_X0_42 sh_4 (by decide) (by decide) ?_
  refine ev_aload_n (i := 0) dX0_become_32 rfl rfl ?_
  refine ev_aload_n (i := 1) dX0_become_33 rfl rfl ?_
  refine ex_getI (x := (f 116 4)) dX0_become_34 fl_X0_45 sh_116 (by decide) (by decide) rfl ?_
  refine ev_putI dX0_become_37 fl_X0_45 sh_4 (by decide) (by decide) ?_
  refine ev_aload_n (i := 0) dX0_become_40 rfl rfl ?_
  refine ev_aload_n (i := 1) dX0_become_41 rfl rfl ?_
  refine ex_getI (x := (f 116 5)) dX0_become_42 fl_X0_48 sh_116 (by decide) (by decide) rfl ?_
  refine ev_putI dX0_become_45 fl_X0_48 sh_4 (by decide) (by decide) ?_
  refine ev_aload_n (i := 0) dX0_become_48 rfl rfl ?_
  refine ev_aload_n (i := 1) dX0_become_49 rfl rfl ?_
  refine ex_getI (x := (f 116 6)) dX0_become_50 fl_X0_54 sh_116 (by decide) (by decide) rfl ?_
  refine ev_putI dX0_become_53 fl_X0_54 sh_4 (by decide) (by decide) ?_
  refine ev_aload_n (i := 1) dX0_become_56 rfl rfl ?_
  refine ev_getR dX0_become_57 fl_X0_9 sh_116 (by decide) (by decide) rf_116_7 ?_
  refine ev_aload_n (i := 0) dX0_become_60 rfl rfl ?_
  refine ev_getR dX0_become_61 fl_X0_9 sh_4 (by decide) (by decide) rf_4_7 ?_
  refine ev_cSV (av := [vR 117, vR 5]) (S := []) (fun q => q) h dX0_become_64 (fun Q' q => TX0_copyRow 117 5 _ q) ksX0_copyRow ml_X0_57 rfl (RRc (by decide) (by decide)) (Nat.le_of_ble_eq_true rfl) ⟨Nat.le_of_ble_eq_true rfl, Nat.le_of_ble_eq_true rfl⟩ (fun f1 h => ?_)
  refine ev_iconst dX0_become_67 (r32c rfl) ?_
  refine ev_istore_n (i := 2) (L' := [some (vR 4), some (vR 116), some (vI 0)]) dX0_become_68 rfl (by decide) rfl ?_
  exact SX0_become_4_116_69  fu 0 _ h
def FX0_become_4_116  (f : Mm) : Option Mm := FX0_become_4_116_0  f
set_option maxRecDepth 100000 in
theorem TX0_become_4_116 {G : GT} {l : Launch} {Q : Option AV → Mem → Prop}  (f : Mm) (h : OkV Q (FX0_become_4_116  f)) : Ret G l MX0_become (2) 0 0 [vR 4, vR 116] (SH, RF, f) Q := by
  refine ret_of (L := [some (vR 4), some (vR 116), none]) (by decide) rfl (Nat.le_of_ble_eq_true rfl) ?_
  exact SX0_become_4_116_0  f h
def FX0_become_4_133_124   (f : Mm) : Option Mm := ((FX0_copyRow 147 18 f).bind fun f1 => ((FX0_copyRow 148 19 f1).bind fun f2 => ((FX0_copyRow 149 20 f2).bind fun f3 => some f3)))
set_option maxHeartbeats 4000000 in
set_option maxRecDepth 100000 in
theorem SX0_become_4_133_124 {G : GT} {l : Launch} {Q : Option AV → Mem → Prop}   (f : Mm) (h : OkV Q (FX0_become_4_133_124   f)) : Ev G l MX0_become (Rm 2 0 0) (ZM G Q 0 0) 0 0 124 [some (vR 4), some (vR 133), none] [] (SH, RF, f) := by
  unfold FX0_become_4_133_124 at h
  refine ev_aload_n (i := 1) dX0_become_124 rfl rfl ?_
  refine ev_getR dX0_become_125 fl_X0_23 sh_133 (by decide) (by decide) rf_133_10 ?_
  refine ev_aload_n (i := 0) dX0_become_128 rfl rfl ?_
  refine ev_getR dX0_become_129 fl_X0_23 sh_4 (by decide) (by decide) rf_4_10 ?_
  refine ev_cSV (av := [vR 147, vR 18]) (S := []) (fun q => q) h dX0_become_132 (fun Q' q => TX0_copyRow 147 18 _ q) ksX0_copyRow ml_X0_57 rfl (RRc (by decide) (by decide)) (Nat.le_of_ble_eq_true rfl) ⟨Nat.le_of_ble_eq_true rfl, Nat.le_of_ble_eq_true rfl⟩ (fun f1 h => ?_)
  refine ev_aload_n (i := 1) dX0_become_135 rfl rfl ?_
  refine ev_getR dX0_become_136 fl_X0_26 sh_133 (by decide) (by decide) rf_133_11 ?_
  refine ev_aload_n (i := 0) dX0_become_139 rfl rfl ?_
  refine ev_getR dX0_become_140 fl_X0_26 sh_4 (by decide) (by decide) rf_4_11 ?_
  refine ev_cSV (av := [vR 148, vR 19]) (S := []) (fun q => q) h dX0_become_143 (fun Q' q => TX0_copyRow 148 19 _ q) ksX0_copyRow ml_X0_57 rfl (RRc (by decide) (by decide)) (Nat.le_of_ble_eq_true rfl) ⟨Nat.le_of_ble_eq_true rfl, Nat.le_of_ble_eq_true rfl⟩ (fun f2 h => ?_)
  refine ev_aload_n (i := 1) dX0_become_146 rfl rfl ?_
  refine ev_getR dX0_become_147 fl_X0_29 sh_133 (by decide) (by decide) rf_133_12 ?_
  refine ev_aload_n (i := 0) dX0_become_150 rfl rfl ?_
  refine ev_getR dX0_become_151 fl_X0_29 sh_4 (by decide) (by decide) rf_4_12 ?_
  refine ev_cSV (av := [vR 149, vR 20]) (S := []) (fun q => q) h dX0_become_154 (fun Q' q => TX0_copyRow 149 20 _ q) ksX0_copyRow ml_X0_57 rfl (RRc (by decide) (by decide)) (Nat.le_of_ble_eq_true rfl) ⟨Nat.le_of_ble_eq_true rfl, Nat.le_of_ble_eq_true rfl⟩ (fun f3 h => ?_)
  exact ev_vret rfl dX0_become_157 h
def FX0_become_4_133_97  : Nat → Int → Mm → Option Mm
  | 0, _, _ => none
  | n + 1, x2, f => (if 6 ≤ x2 then FX0_become_4_133_124 f else (if 0 ≤ x2 ∧ x2 < 6 then (if 0 ≤ x2 ∧ x2 < 6 then ((FX0_copyRow (141 + x2.toNat) (12 + x2.toNat) f).bind fun f3 => FX0_become_4_133_97 n (w32 (x2 + 1)) f3) else none) else none))
set_option maxHeartbeats 4000000 in
set_option maxRecDepth 100000 in
theorem SX0_become_4_133_97 {G : GT} {l : Launch} {Q : Option AV → Mem → Prop}  : ∀ (n : Nat) (x2 : Int) (f : Mm), OkV Q (FX0_become_4_133_97  n x2 f) → Ev G l MX0_become (Rm 2 0 0) (ZM G Q 0 0) 0 0 97 [some (vR 4), some (vR 133), some (vI x2)] [] (SH, RF, f) := by
  intro n
  induction n with
  | zero => intro x2 f h; exact absurd h (by rw [FX0_become_4_133_97]; exact fun q => q)
  | succ n ih =>
    intro x2 f h
    rw [FX0_become_4_133_97] at h
    refine ev_iload_n (i := 2) dX0_become_97 rfl rfl ?_
    refine ev_bipush (v := 6) dX0_become_98 (r32c rfl) (by decide) ?_
    refine ev_icmp_ge (tgt := 124) dX0_become_100 (by decide) (fun c4 => ?_) (fun c4 => ?_)
    · rw [if_pos c4] at h
      refine ev_fg [true, true, false] rfl ?_
      exact SX0_become_4_133_124   _ h
    · rw [if_neg c4] at h
      refine ev_aload_n (i := 1) dX0_become_103 rfl rfl ?_
      refine ev_getR dX0_become_104 fl_X0_20 sh_133 (by decide) (by decide) rf_133_9 ?_
      refine ev_iload_n (i := 2) dX0_become_107 rfl rfl ?_
      by_cases g1 : 0 ≤ x2 ∧ x2 < 6
      · rw [if_pos g1] at h
        refine ev_aald (b := (141 + x2.toNat)) dX0_become_108 (Or.inl rfl) sh_140 g1.1 g1.2 (rfr_140 g1) ?_
        refine ev_aload_n (i := 0) dX0_become_109 rfl rfl ?_
        refine ev_getR dX0_become_110 fl_X0_20 sh_4 (by decide) (by decide) rf_4_9 ?_
        refine ev_iload_n (i := 2) dX0_become_113 rfl rfl ?_
        by_cases g2 : 0 ≤ x2 ∧ x2 < 6
        · rw [if_pos g2] at h
          refine ev_aald (b := (12 + x2.toNat)) dX0_become_114 (Or.inl rfl) sh_11 g2.1 g2.2 (rfr_11 g2) ?_
          refine ev_cSV (av := [vR (141 + x2.toNat), vR (12 + x2.toNat)]) (S := []) (fun q => q) h dX0_become_115 (fun Q' q => TX0_copyRow (141 + x2.toNat) (12 + x2.toNat) _ q) ksX0_copyRow ml_X0_57 rfl (RRc (by decide) (by decide)) (Nat.le_of_ble_eq_true rfl) ⟨Nat.le_of_ble_eq_true rfl, Nat.le_of_ble_eq_true rfl⟩ (fun f3 h => ?_)
          refine ev_iinc (L' := [some (vR 4), some (vR 133), some (vI (w32 (x2 + 1)))]) dX0_become_118 rfl (by decide) rfl ?_
          refine ev_goto (tgt := 97) dX0_become_121 (by decide) ?_
          exact ih (w32 (x2 + 1)) _ h
        · rw [if_neg g2] at h; exact h.elim
      · rw [if_neg g1] at h; exact h.elim
def FX0_become_4_133_95   (f : Mm) : Option Mm := FX0_become_4_133_97 fu 0 f
set_option maxHeartbeats 4000000 in
set_option maxRecDepth 100000 in
theorem SX0_become_4_133_95 {G : GT} {l : Launch} {Q : Option AV → Mem → Prop}   (f : Mm) (h : OkV Q (FX0_become_4_133_95   f)) : Ev G l MX0_become (Rm 2 0 0) (ZM G Q 0 0) 0 0 95 [some (vR 4), some (vR 133), none] [] (SH, RF, f) := by
  unfold FX0_become_4_133_95 at h
  refine ev_iconst dX0_become_95 (r32c rfl) ?_
  refine ev_istore_n (i := 2) (L' := [some (vR 4), some (vR 133), some (vI 0)]) dX0_become_96 rfl (by decide) rfl ?_
  exact SX0_become_4_133_97  fu 0 _ h
def FX0_become_4_133_69  : Nat → Int → Mm → Option Mm
  | 0, _, _ => none
  | n + 1, x2, f => (if 4 ≤ x2 then FX0_become_4_133_95 f else (if 0 ≤ x2 ∧ x2 < 4 then (if 0 ≤ x2 ∧ x2 < 4 then ((FX0_copyRow (136 + x2.toNat) (7 + x2.toNat) f).bind fun f3 => FX0_become_4_133_69 n (w32 (x2 + 1)) f3) else none) else none))
set_option maxHeartbeats 4000000 in
set_option maxRecDepth 100000 in
theorem SX0_become_4_133_69 {G : GT} {l : Launch} {Q : Option AV → Mem → Prop}  : ∀ (n : Nat) (x2 : Int) (f : Mm), OkV Q (FX0_become_4_133_69  n x2 f) → Ev G l MX0_become (Rm 2 0 0) (ZM G Q 0 0) 0 0 69 [some (vR 4), some (vR 133), some (vI x2)] [] (SH, RF, f) := by
  intro n
  induction n with
  | zero => intro x2 f h; exact absurd h (by rw [FX0_become_4_133_69]; exact fun q => q)
  | succ n ih =>
    intro x2 f h
    rw [FX0_become_4_133_69] at h
    refine ev_iload_n (i := 2) dX0_become_69 rfl rfl ?_
    refine ev_iconst dX0_become_70 (r32c rfl) ?_
    refine ev_icmp_ge (tgt := 95) dX0_become_71 (by decide) (fun c4 => ?_) (fun c4 => ?_)
    · rw [if_pos c4] at h
      refine ev_fg [true, true, false] rfl ?_
      exact SX0_become_4_133_95   _ h
    · rw [if_neg c4] at h
      refine ev_aload_n (i := 1) dX0_become_74 rfl rfl ?_
      refine ev_getR dX0_become_75 fl_X0_17 sh_133 (by decide) (by decide) rf_133_8 ?_
      refine ev_iload_n (i := 2) dX0_become_78 rfl rfl ?_
      by_cases g1 : 0 ≤ x2 ∧ x2 < 4
      · rw [if_pos g1] at h
        refine ev_aald (b := (136 + x2.toNat)) dX0_become_79 (Or.inl rfl) sh_135 g1.1 g1.2 (rfr_135 g1) ?_
        refine ev_aload_n (i := 0) dX0_become_80 rfl rfl ?_
        refine ev_getR dX0_become_81 fl_X0_17 sh_4 (by decide) (by decide) rf_4_8 ?_
        refine ev_iload_n (i := 2) dX0_become_84 rfl rfl ?_
        by_cases g2 : 0 ≤ x2 ∧ x2 < 4
        · rw [if_pos g2] at h
          refine ev_aald (b := (7 + x2.toNat)) dX0_become_85 (Or.inl rfl) sh_6 g2.1 g2.2 (rfr_6 g2) ?_
          refine ev_cSV (av := [vR (136 + x2.toNat), vR (7 + x2.toNat)]) (S := []) (fun q => q) h dX0_become_86 (fun Q' q => TX0_copyRow (136 + x2.toNat) (7 + x2.toNat) _ q) ksX0_copyRow ml_X0_57 rfl (RRc (by decide) (by decide)) (Nat.le_of_ble_eq_true rfl) ⟨Nat.le_of_ble_eq_true rfl, Nat.le_of_ble_eq_true rfl⟩ (fun f3 h => ?_)
          refine ev_iinc (L' := [some (vR 4), some (vR 133), some (vI (w32 (x2 + 1)))]) dX0_become_89 rfl (by decide) rfl ?_
          refine ev_goto (tgt := 69) dX0_become_92 (by decide) ?_
          exact ih (w32 (x2 + 1)) _ h
        · rw [if_neg g2] at h; exact h.elim
      · rw [if_neg g1] at h; exact h.elim
def FX0_become_4_133_0   (f : Mm) : Option Mm := ((FX0_copyRow 134 5 (up (up (up (up (up (up (up f 4 0 (f 133 0)) 4 1 (f 133 1)) 4 2 (f 133 2)) 4 3 (f 133 3)) 4 4 (f 133 4)) 4 5 (f 133 5)) 4 6 (f 133 6))).bind fun f1 => FX0_become_4_133_69 fu 0 f1)
set_option maxHeartbeats 4000000 in
set_option maxRecDepth 100000 in
theorem SX0_become_4_133_0 {G : GT} {l : Launch} {Q : Option AV → Mem → Prop}   (f : Mm) (h : OkV Q (FX0_become_4_133_0   f)) : Ev G l MX0_become (Rm 2 0 0) (ZM G Q 0 0) 0 0 0 [some (vR 4), some (vR 133), none] [] (SH, RF, f) := by
  unfold FX0_become_4_133_0 at h
  refine ev_aload_n (i := 0) dX0_become_0 rfl rfl ?_
  refine ev_aload_n (i := 1) dX0_become_1 rfl rfl ?_
  refine ex_getI (x := (f 133 0)) dX0_become_2 fl_X0_32 sh_133 (by decide) (by decide) rfl ?_
  refine ev_putI dX0_become_5 fl_X0_32 sh_4 (by decide) (by decide) ?_
  refine ev_aload_n (i := 0) dX0_become_8 rfl rfl ?_
  refine ev_aload_n (i := 1) dX0_become_9 rfl rfl ?_
  refine ex_getI (x := (f 133 1)) dX0_become_10 fl_X0_36 sh_133 (by decide) (by decide) rfl ?_
  refine ev_putI dX0_become_13 fl_X0_36 sh_4 (by decide) (by decide) ?_
  refine ev_aload_n (i := 0) dX0_become_16 rfl rfl ?_
  refine ev_aload_n (i := 1) dX0_become_17 rfl rfl ?_
  refine ex_getI (x := (f 133 2)) dX0_become_18 fl_X0_39 sh_133 (by decide) (by decide) rfl ?_
  refine ev_putI dX0_become_21 fl_X0_39 sh_4 (by decide) (by decide) ?_
  refine ev_aload_n (i := 0) dX0_become_24 rfl rfl ?_
  refine ev_aload_n (i := 1) dX0_become_25 rfl rfl ?_
  refine ex_getI (x := (f 133 3)) dX0_become_26 fl_X0_42 sh_133 (by decide) (by decide) rfl ?_
  refine ev_putI dX0_become_29 fl_X0_42 sh_4 (by decide) (by decide) ?_
  refine ev_aload_n (i := 0) dX0_become_32 rfl rfl ?_
  refine ev_aload_n (i := 1) dX0_become_33 rfl rfl ?_
  refine ex_getI (x := (f 133 4)) dX0_become_34 fl_X0_45 sh_133 (by decide) (by decide) rfl ?_
  refine ev_putI dX0_become_37 fl_X0_45 sh_4 (by decide) (by decide) ?_
  refine ev_aload_n (i := 0) dX0_become_40 rfl rfl ?_
  refine ev_aload_n (i := 1) dX0_become_41 rfl rfl ?_
  refine ex_getI (x := (f 133 5)) dX0_become_42 fl_X0_48 sh_133 (by decide) (by decide) rfl ?_
  refine ev_putI dX0_become_45 fl_X0_48 sh_4 (by decide) (by decide) ?_
  refine ev_aload_n (i := 0) dX0_become_48 rfl rfl ?_
  refine ev_aload_n (i := 1) dX0_become_49 rfl rfl ?_
  refine ex_getI (x := (f 133 6)) dX0_become_50 fl_X0_54 sh_133 (by decide) (by decide) rfl ?_
  refine ev_putI dX0_become_53 fl_X0_54 sh_4 (by decide) (by decide) ?_
  refine ev_aload_n (i := 1) dX0_become_56 rfl rfl ?_
  refine ev_getR dX0_become_57 fl_X0_9 sh_133 (by decide) (by decide) rf_133_7 ?_
  refine ev_aload_n (i := 0) dX0_become_60 rfl rfl ?_
  refine ev_getR dX0_become_61 fl_X0_9 sh_4 (by decide) (by decide) rf_4_7 ?_
  refine ev_cSV (av := [vR 134, vR 5]) (S := []) (fun q => q) h dX0_become_64 (fun Q' q => TX0_copyRow 134 5 _ q) ksX0_copyRow ml_X0_57 rfl (RRc (by decide) (by decide)) (Nat.le_of_ble_eq_true rfl) ⟨Nat.le_of_ble_eq_true rfl, Nat.le_of_ble_eq_true rfl⟩ (fun f1 h => ?_)
  refine ev_iconst dX0_become_67 (r32c rfl) ?_
  refine ev_istore_n (i := 2) (L' := [some (vR 4), some (vR 133), some (vI 0)]) dX0_become_68 rfl (by decide) rfl ?_
  exact SX0_become_4_133_69  fu 0 _ h
def FX0_become_4_133  (f : Mm) : Option Mm := FX0_become_4_133_0  f
set_option maxRecDepth 100000 in
theorem TX0_become_4_133 {G : GT} {l : Launch} {Q : Option AV → Mem → Prop}  (f : Mm) (h : OkV Q (FX0_become_4_133  f)) : Ret G l MX0_become (2) 0 0 [vR 4, vR 133] (SH, RF, f) Q := by
  refine ret_of (L := [some (vR 4), some (vR 133), none]) (by decide) rfl (Nat.le_of_ble_eq_true rfl) ?_
  exact SX0_become_4_133_0  f h

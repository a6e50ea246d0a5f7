theorem dX10_ordered_0 : decode cX10_ordered 0 = .ok (.aload_n 0, 1) := by decide +kernel
theorem dX10_ordered_1 : decode cX10_ordered 1 = .ok (.getfield 58, 3) := by decide +kernel
theorem dX10_ordered_4 : decode cX10_ordered 4 = .ok (.aload_n 0, 1) := by decide +kernel
theorem dX10_ordered_5 : decode cX10_ordered 5 = .ok (.getfield 19, 3) := by decide +kernel
theorem dX10_ordered_8 : decode cX10_ordered 8 = .ok (.aload_n 0, 1) := by decide +kernel
theorem dX10_ordered_9 : decode cX10_ordered 9 = .ok (.invokevirtual 129, 3) := by decide +kernel
theorem dX10_ordered_12 : decode cX10_ordered 12 = .ok (.invokevirtual 427, 3) := by decide +kernel
theorem dX10_ordered_15 : decode cX10_ordered 15 = .ok (.aload_n 0, 1) := by decide +kernel
theorem dX10_ordered_16 : decode cX10_ordered 16 = .ok (.getfield 58, 3) := by decide +kernel
theorem dX10_ordered_19 : decode cX10_ordered 19 = .ok (.areturn, 1) := by decide +kernel
def FX10_ordered_0   (f : Mm) : Option Mm := ((FX10_asNow f).bind fun f1 => ((FX2_tryAll_67_4_48 f1).bind fun f2 => some f2))
set_option maxHeartbeats 4000000 in
set_option maxRecDepth 100000 in
theorem SX10_ordered_0 {G : GT} {l : Launch} {Q : Option AV → Mem → Prop}   (f : Mm) (h : OkC 67 Q (FX10_ordered_0   f)) : Ev G l MX10_ordered (Rm 6 0 0) (ZM G Q 0 0) 0 0 0 [some (vR 0)] [] (SH, RF, f) := by
  unfold FX10_ordered_0 at h
  refine ev_aload_n (i := 0) dX10_ordered_0 rfl rfl ?_
  refine ev_getR dX10_ordered_1 fl_X10_58 sh_0 (by decide) (by decide) rf_0_8 ?_
  refine ev_aload_n (i := 0) dX10_ordered_4 rfl rfl ?_
  refine ev_getR dX10_ordered_5 fl_X10_19 sh_0 (by decide) (by decide) rf_0_1 ?_
  refine ev_aload_n (i := 0) dX10_ordered_8 rfl rfl ?_
  refine ev_cVC (b := 0) (av := []) (S := [vR 4, vR 67]) (fun q => q) h dX10_ordered_9 (fun Q' q => TX10_asNow _ q) kvX10_asNow ml_X10_129 sh_0 rfl (RRc (by decide) (by decide)) (Nat.le_of_ble_eq_true rfl) ⟨Nat.le_of_ble_eq_true rfl, Nat.le_of_ble_eq_true rfl⟩ (fun f1 h => ?_)
  refine ev_cVV (b := 67) (av := [vR 4, vR 48]) (S := []) (fun q => q) h dX10_ordered_12 (fun Q' q => TX2_tryAll_67_4_48 _ q) kvX2_tryAll ml_X10_427 sh_67 rfl (RRc (by decide) (by decide)) (Nat.le_of_ble_eq_true rfl) ⟨Nat.le_of_ble_eq_true rfl, Nat.le_of_ble_eq_true rfl⟩ (fun f2 h => ?_)
  refine ev_aload_n (i := 0) dX10_ordered_15 rfl rfl ?_
  refine ev_getR dX10_ordered_16 fl_X10_58 sh_0 (by decide) (by decide) rf_0_8 ?_
  exact ev_aret rfl dX10_ordered_19 h
def FX10_ordered  (f : Mm) : Option Mm := FX10_ordered_0  f
set_option maxRecDepth 100000 in
theorem TX10_ordered {G : GT} {l : Launch} {Q : Option AV → Mem → Prop}  (f : Mm) (h : OkC 67 Q (FX10_ordered  f)) : Ret G l MX10_ordered (6) 0 0 [vR 0] (SH, RF, f) Q := by
  refine ret_of (L := [some (vR 0)]) (by decide) rfl (Nat.le_of_ble_eq_true rfl) ?_
  exact SX10_ordered_0  f h
theorem dX10_queue_0 : decode cX10_queue 0 = .ok (.aload_n 0, 1) := by decide +kernel
theorem dX10_queue_1 : decode cX10_queue 1 = .ok (.getfield 19, 3) := by decide +kernel
theorem dX10_queue_4 : decode cX10_queue 4 = .ok (.invokevirtual 140, 3) := by decide +kernel
theorem dX10_queue_7 : decode cX10_queue 7 = .ok (.ifCond .eq 13, 3) := by decide +kernel
theorem dX10_queue_20 : decode cX10_queue 20 = .ok (.bipush (-2), 2) := by decide +kernel
theorem dX10_queue_22 : decode cX10_queue 22 = .ok (.ireturn, 1) := by decide +kernel
theorem dX10_queue_10 : decode cX10_queue 10 = .ok (.aload_n 0, 1) := by decide +kernel
theorem dX10_queue_11 : decode cX10_queue 11 = .ok (.invokevirtual 272, 3) := by decide +kernel
theorem dX10_queue_14 : decode cX10_queue 14 = .ok (.getfield 276, 3) := by decide +kernel
theorem dX10_queue_17 : decode cX10_queue 17 = .ok (.goto 5, 3) := by decide +kernel
def FX10_queue_0   (f : Mm) : Option (Int × Mm) := (b2 (FX0_stands_4 f) fun y1 f1 => (if y1 = 0 then some ((-2), f1) else ((FX10_ordered f1).bind fun f2 => some ((f2 67 0), f2))))
set_option maxHeartbeats 4000000 in
set_option maxRecDepth 100000 in
theorem SX10_queue_0 {G : GT} {l : Launch} {Q : Option AV → Mem → Prop}   (f : Mm) (h : OkI Q (FX10_queue_0   f)) : Ev G l MX10_queue (Rm 7 0 0) (ZM G Q 0 0) 0 0 0 [some (vR 0)] [] (SH, RF, f) := by
  unfold FX10_queue_0 at h
  refine ev_aload_n (i := 0) dX10_queue_0 rfl rfl ?_
  refine ev_getR dX10_queue_1 fl_X10_19 sh_0 (by decide) (by decide) rf_0_1 ?_
  refine ev_cVI (b := 4) (av := []) (S := []) (fun q => q) h dX10_queue_4 (fun Q' q => TX0_stands_4 _ q) kvX0_stands ml_X10_140 sh_4 rfl (RRc (by decide) (by decide)) (Nat.le_of_ble_eq_true rfl) ⟨Nat.le_of_ble_eq_true rfl, Nat.le_of_ble_eq_true rfl⟩ (fun y1 f1 h => ?_)
  refine ev_if_eq (tgt := 20) dX10_queue_7 (by decide) (fun c3 => ?_) (fun c3 => ?_)
  · rw [if_pos c3] at h
    refine ev_bipush (v := (-2)) dX10_queue_20 (r32c rfl) (by decide) ?_
    exact ev_iret rfl dX10_queue_22 h
  · rw [if_neg c3] at h
    refine ev_aload_n (i := 0) dX10_queue_10 rfl rfl ?_
    refine ev_cVC (b := 0) (av := []) (S := []) (fun q => q) h dX10_queue_11 (fun Q' q => TX10_ordered _ q) kvX10_ordered ml_X10_272 sh_0 rfl (RRc (by decide) (by decide)) (Nat.le_of_ble_eq_true rfl) ⟨Nat.le_of_ble_eq_true rfl, Nat.le_of_ble_eq_true rfl⟩ (fun f2 h => ?_)
    refine ex_getI (x := (f2 67 0)) dX10_queue_14 fl_X10_276 sh_67 (by decide) (by decide) rfl ?_
    refine ev_goto (tgt := 22) dX10_queue_17 (by decide) ?_
    exact ev_iret rfl dX10_queue_22 h
def FX10_queue  (f : Mm) : Option (Int × Mm) := FX10_queue_0  f
set_option maxRecDepth 100000 in
theorem TX10_queue {G : GT} {l : Launch} {Q : Option AV → Mem → Prop}  (f : Mm) (h : OkI Q (FX10_queue  f)) : Ret G l MX10_queue (7) 0 0 [vR 0] (SH, RF, f) Q := by
  refine ret_of (L := [some (vR 0)]) (by decide) rfl (Nat.le_of_ble_eq_true rfl) ?_
  exact SX10_queue_0  f h
theorem dX10_queues_0 : decode cX10_queues 0 = .ok (.aload_n 0, 1) := by decide +kernel
theorem dX10_queues_1 : decode cX10_queues 1 = .ok (.getfield 19, 3) := by decide +kernel
theorem dX10_queues_4 : decode cX10_queues 4 = .ok (.invokevirtual 140, 3) := by decide +kernel
theorem dX10_queues_7 : decode cX10_queues 7 = .ok (.ifCond .ne 6, 3) := by decide +kernel
theorem dX10_queues_13 : decode cX10_queues 13 = .ok (.iload_n 1, 1) := by decide +kernel
theorem dX10_queues_14 : decode cX10_queues 14 = .ok (.ifCond .lt 14, 3) := by decide +kernel
theorem dX10_queues_28 : decode cX10_queues 28 = .ok (.iconst (-1), 1) := by decide +kernel
theorem dX10_queues_29 : decode cX10_queues 29 = .ok (.ireturn, 1) := by decide +kernel
theorem dX10_queues_17 : decode cX10_queues 17 = .ok (.iload_n 1, 1) := by decide +kernel
theorem dX10_queues_18 : decode cX10_queues 18 = .ok (.aload_n 0, 1) := by decide +kernel
theorem dX10_queues_19 : decode cX10_queues 19 = .ok (.getfield 19, 3) := by decide +kernel
theorem dX10_queues_22 : decode cX10_queues 22 = .ok (.getfield 161, 3) := by decide +kernel
theorem dX10_queues_25 : decode cX10_queues 25 = .ok (.if_icmp .lt 5, 3) := by decide +kernel
theorem dX10_queues_30 : decode cX10_queues 30 = .ok (.aload_n 0, 1) := by decide +kernel
theorem dX10_queues_31 : decode cX10_queues 31 = .ok (.invokevirtual 272, 3) := by decide +kernel
theorem dX10_queues_34 : decode cX10_queues 34 = .ok (.astore_n 2, 1) := by decide +kernel
theorem dX10_queues_35 : decode cX10_queues 35 = .ok (.aload_n 2, 1) := by decide +kernel
theorem dX10_queues_36 : decode cX10_queues 36 = .ok (.getfield 276, 3) := by decide +kernel
theorem dX10_queues_39 : decode cX10_queues 39 = .ok (.iconst (-1), 1) := by decide +kernel
theorem dX10_queues_40 : decode cX10_queues 40 = .ok (.if_icmp .ne 7, 3) := by decide +kernel
theorem dX10_queues_47 : decode cX10_queues 47 = .ok (.aload_n 2, 1) := by decide +kernel
theorem dX10_queues_48 : decode cX10_queues 48 = .ok (.getfield 279, 3) := by decide +kernel
theorem dX10_queues_51 : decode cX10_queues 51 = .ok (.iload_n 1, 1) := by decide +kernel
theorem dX10_queues_52 : decode cX10_queues 52 = .ok (.iaload, 1) := by decide +kernel
theorem dX10_queues_53 : decode cX10_queues 53 = .ok (.ireturn, 1) := by decide +kernel
theorem dX10_queues_43 : decode cX10_queues 43 = .ok (.iconst (-1), 1) := by decide +kernel
theorem dX10_queues_44 : decode cX10_queues 44 = .ok (.goto 9, 3) := by decide +kernel
theorem dX10_queues_10 : decode cX10_queues 10 = .ok (.bipush (-2), 2) := by decide +kernel
theorem dX10_queues_12 : decode cX10_queues 12 = .ok (.ireturn, 1) := by decide +kernel
def FX10_queues_0  (x1 : Int) (f : Mm) : Option (Int × Mm) := (b2 (FX0_stands_4 f) fun y1 f1 => (if y1 = 0 then some ((-2), f1) else (if x1 < 0 then some ((-1), f1) else (if x1 < (f1 4 5) then ((FX10_ordered f1).bind fun f2 => (if (f2 67 0) = (-1) then some ((-1), f2) else (if 0 ≤ x1 ∧ x1 < 6 then some ((f2 68 x1.toNat), f2) else none))) else some ((-1), f1)))))
set_option maxHeartbeats 4000000 in
set_option maxRecDepth 100000 in
theorem SX10_queues_0 {G : GT} {l : Launch} {Q : Option AV → Mem → Prop}  (x1 : Int) (f : Mm) (h : OkI Q (FX10_queues_0  x1 f)) : Ev G l MX10_queues (Rm 7 0 0) (ZM G Q 0 0) 0 0 0 [some (vR 0), some (vI x1), none] [] (SH, RF, f) := by
  unfold FX10_queues_0 at h
  refine ev_aload_n (i := 0) dX10_queues_0 rfl rfl ?_
  refine ev_getR dX10_queues_1 fl_X10_19 sh_0 (by decide) (by decide) rf_0_1 ?_
  refine ev_cVI (b := 4) (av := []) (S := []) (fun q => q) h dX10_queues_4 (fun Q' q => TX0_stands_4 _ q) kvX0_stands ml_X10_140 sh_4 rfl (RRc (by decide) (by decide)) (Nat.le_of_ble_eq_true rfl) ⟨Nat.le_of_ble_eq_true rfl, Nat.le_of_ble_eq_true rfl⟩ (fun y1 f1 h => ?_)
  refine ev_if_ne (tgt := 13) dX10_queues_7 (by decide) (fun c7 => ?_) (fun c7 => ?_)
  · rw [if_neg c7] at h
    refine ev_iload_n (i := 1) dX10_queues_13 rfl rfl ?_
    refine ev_if_lt (tgt := 28) dX10_queues_14 (by decide) (fun c6 => ?_) (fun c6 => ?_)
    · rw [if_pos c6] at h
      refine ev_iconst dX10_queues_28 (r32c rfl) ?_
      exact ev_iret rfl dX10_queues_29 h
    · rw [if_neg c6] at h
      refine ev_iload_n (i := 1) dX10_queues_17 rfl rfl ?_
      refine ev_aload_n (i := 0) dX10_queues_18 rfl rfl ?_
      refine ev_getR dX10_queues_19 fl_X10_19 sh_0 (by decide) (by decide) rf_0_1 ?_
      refine ex_getI (x := (f1 4 5)) dX10_queues_22 fl_X10_161 sh_4 (by decide) (by decide) rfl ?_
      refine ev_icmp_lt (tgt := 30) dX10_queues_25 (by decide) (fun c5 => ?_) (fun c5 => ?_)
      · rw [if_pos c5] at h
        refine ev_aload_n (i := 0) dX10_queues_30 rfl rfl ?_
        refine ev_cVC (b := 0) (av := []) (S := []) (fun q => q) h dX10_queues_31 (fun Q' q => TX10_ordered _ q) kvX10_ordered ml_X10_272 sh_0 rfl (RRc (by decide) (by decide)) (Nat.le_of_ble_eq_true rfl) ⟨Nat.le_of_ble_eq_true rfl, Nat.le_of_ble_eq_true rfl⟩ (fun f2 h => ?_)
        refine ev_astore_n (i := 2) (L' := [some (vR 0), some (vI x1), some (vR 67)]) dX10_queues_34 rfl (by decide) rfl ?_
        refine ev_aload_n (i := 2) dX10_queues_35 rfl rfl ?_
        refine ex_getI (x := (f2 67 0)) dX10_queues_36 fl_X10_276 sh_67 (by decide) (by decide) rfl ?_
        refine ev_iconst dX10_queues_39 (r32c rfl) ?_
        refine ev_icmp_ne (tgt := 47) dX10_queues_40 (by decide) (fun c4 => ?_) (fun c4 => ?_)
        · rw [if_neg c4] at h
          refine ev_aload_n (i := 2) dX10_queues_47 rfl rfl ?_
          refine ev_getR dX10_queues_48 fl_X10_279 sh_67 (by decide) (by decide) rf_67_2 ?_
          refine ev_iload_n (i := 1) dX10_queues_51 rfl rfl ?_
          by_cases g3 : 0 ≤ x1 ∧ x1 < 6
          · rw [if_pos g3] at h
            refine ex_iald (x := (f2 68 x1.toNat)) dX10_queues_52 sh_68 g3.1 g3.2 rfl ?_
            exact ev_iret rfl dX10_queues_53 h
          · rw [if_neg g3] at h; exact h.elim
        · rw [if_pos c4] at h
          refine ev_iconst dX10_queues_43 (r32c rfl) ?_
          refine ev_goto (tgt := 53) dX10_queues_44 (by decide) ?_
          exact ev_iret rfl dX10_queues_53 h
      · rw [if_neg c5] at h
        refine ev_iconst dX10_queues_28 (r32c rfl) ?_
        exact ev_iret rfl dX10_queues_29 h
  · rw [if_pos c7] at h
    refine ev_bipush (v := (-2)) dX10_queues_10 (r32c rfl) (by decide) ?_
    exact ev_iret rfl dX10_queues_12 h
def FX10_queues (x1 : Int) (f : Mm) : Option (Int × Mm) := FX10_queues_0 x1 f
set_option maxRecDepth 100000 in
theorem TX10_queues {G : GT} {l : Launch} {Q : Option AV → Mem → Prop} (x1 : Int) (f : Mm) (h : OkI Q (FX10_queues x1 f)) : Ret G l MX10_queues (7) 0 0 [vR 0, vI x1] (SH, RF, f) Q := by
  refine ret_of (L := [some (vR 0), some (vI x1), none]) (by decide) rfl (Nat.le_of_ble_eq_true rfl) ?_
  exact SX10_queues_0 x1 f h
theorem dX10_line_0 : decode cX10_line 0 = .ok (.aload_n 0, 1) := by decide +kernel
theorem dX10_line_1 : decode cX10_line 1 = .ok (.getfield 19, 3) := by decide +kernel
theorem dX10_line_4 : decode cX10_line 4 = .ok (.invokevirtual 140, 3) := by decide +kernel
theorem dX10_line_7 : decode cX10_line 7 = .ok (.ifCond .eq 13, 3) := by decide +kernel
theorem dX10_line_20 : decode cX10_line 20 = .ok (.bipush (-2), 2) := by decide +kernel
theorem dX10_line_22 : decode cX10_line 22 = .ok (.ireturn, 1) := by decide +kernel
theorem dX10_line_10 : decode cX10_line 10 = .ok (.aload_n 0, 1) := by decide +kernel
theorem dX10_line_11 : decode cX10_line 11 = .ok (.invokevirtual 272, 3) := by decide +kernel
theorem dX10_line_14 : decode cX10_line 14 = .ok (.getfield 282, 3) := by decide +kernel
theorem dX10_line_17 : decode cX10_line 17 = .ok (.goto 5, 3) := by decide +kernel
def FX10_line_0   (f : Mm) : Option (Int × Mm) := (b2 (FX0_stands_4 f) fun y1 f1 => (if y1 = 0 then some ((-2), f1) else ((FX10_ordered f1).bind fun f2 => some ((f2 67 1), f2))))
set_option maxHeartbeats 4000000 in
set_option maxRecDepth 100000 in
theorem SX10_line_0 {G : GT} {l : Launch} {Q : Option AV → Mem → Prop}   (f : Mm) (h : OkI Q (FX10_line_0   f)) : Ev G l MX10_line (Rm 7 0 0) (ZM G Q 0 0) 0 0 0 [some (vR 0)] [] (SH, RF, f) := by
  unfold FX10_line_0 at h
  refine ev_aload_n (i := 0) dX10_line_0 rfl rfl ?_
  refine ev_getR dX10_line_1 fl_X10_19 sh_0 (by decide) (by decide) rf_0_1 ?_
  refine ev_cVI (b := 4) (av := []) (S := []) (fun q => q) h dX10_line_4 (fun Q' q => TX0_stands_4 _ q) kvX0_stands ml_X10_140 sh_4 rfl (RRc (by decide) (by decide)) (Nat.le_of_ble_eq_true rfl) ⟨Nat.le_of_ble_eq_true rfl, Nat.le_of_ble_eq_true rfl⟩ (fun y1 f1 h => ?_)
  refine ev_if_eq (tgt := 20) dX10_line_7 (by decide) (fun c3 => ?_) (fun c3 => ?_)
  · rw [if_pos c3] at h
    refine ev_bipush (v := (-2)) dX10_line_20 (r32c rfl) (by decide) ?_
    exact ev_iret rfl dX10_line_22 h
  · rw [if_neg c3] at h
    refine ev_aload_n (i := 0) dX10_line_10 rfl rfl ?_
    refine ev_cVC (b := 0) (av := []) (S := []) (fun q => q) h dX10_line_11 (fun Q' q => TX10_ordered _ q) kvX10_ordered ml_X10_272 sh_0 rfl (RRc (by decide) (by decide)) (Nat.le_of_ble_eq_true rfl) ⟨Nat.le_of_ble_eq_true rfl, Nat.le_of_ble_eq_true rfl⟩ (fun f2 h => ?_)
    refine ex_getI (x := (f2 67 1)) dX10_line_14 fl_X10_282 sh_67 (by decide) (by decide) rfl ?_
    refine ev_goto (tgt := 22) dX10_line_17 (by decide) ?_
    exact ev_iret rfl dX10_line_22 h
def FX10_line  (f : Mm) : Option (Int × Mm) := FX10_line_0  f
set_option maxRecDepth 100000 in
theorem TX10_line {G : GT} {l : Launch} {Q : Option AV → Mem → Prop}  (f : Mm) (h : OkI Q (FX10_line  f)) : Ret G l MX10_line (7) 0 0 [vR 0] (SH, RF, f) Q := by
  refine ret_of (L := [some (vR 0)]) (by decide) rfl (Nat.le_of_ble_eq_true rfl) ?_
  exact SX10_line_0  f h
theorem dX10_isSlot_0 : decode cX10_isSlot 0 = .ok (.iload_n 0, 1) := by decide +kernel
theorem dX10_isSlot_1 : decode cX10_isSlot 1 = .ok (.ifCond .lt 12, 3) := by decide +kernel
theorem dX10_isSlot_13 : decode cX10_isSlot 13 = .ok (.iconst 0, 1) := by decide +kernel
theorem dX10_isSlot_14 : decode cX10_isSlot 14 = .ok (.ireturn, 1) := by decide +kernel
theorem dX10_isSlot_4 : decode cX10_isSlot 4 = .ok (.iload_n 0, 1) := by decide +kernel
theorem dX10_isSlot_5 : decode cX10_isSlot 5 = .ok (.iconst 4, 1) := by decide +kernel
theorem dX10_isSlot_6 : decode cX10_isSlot 6 = .ok (.if_icmp .ge 7, 3) := by decide +kernel
theorem dX10_isSlot_9 : decode cX10_isSlot 9 = .ok (.iconst 1, 1) := by decide +kernel
theorem dX10_isSlot_10 : decode cX10_isSlot 10 = .ok (.goto 4, 3) := by decide +kernel
def FX10_isSlot_0  (x0 : Int) (f : Mm) : Option (Int × Mm) := (if x0 < 0 then some (0, f) else (if 4 ≤ x0 then some (0, f) else some (1, f)))
set_option maxHeartbeats 4000000 in
set_option maxRecDepth 100000 in
theorem SX10_isSlot_0 {G : GT} {l : Launch} {Q : Option AV → Mem → Prop}  (x0 : Int) (f : Mm) (h : OkI Q (FX10_isSlot_0  x0 f)) : Ev G l MX10_isSlot (Rm 1 0 0) (ZM G Q 0 0) 0 0 0 [some (vI x0)] [] (SH, RF, f) := by
  unfold FX10_isSlot_0 at h
  refine ev_iload_n (i := 0) dX10_isSlot_0 rfl rfl ?_
  refine ev_if_lt (tgt := 13) dX10_isSlot_1 (by decide) (fun c2 => ?_) (fun c2 => ?_)
  · rw [if_pos c2] at h
    refine ev_iconst dX10_isSlot_13 (r32c rfl) ?_
    exact ev_zret rfl (by decide) dX10_isSlot_14 h
  · rw [if_neg c2] at h
    refine ev_iload_n (i := 0) dX10_isSlot_4 rfl rfl ?_
    refine ev_iconst dX10_isSlot_5 (r32c rfl) ?_
    refine ev_icmp_ge (tgt := 13) dX10_isSlot_6 (by decide) (fun c1 => ?_) (fun c1 => ?_)
    · rw [if_pos c1] at h
      refine ev_iconst dX10_isSlot_13 (r32c rfl) ?_
      exact ev_zret rfl (by decide) dX10_isSlot_14 h
    · rw [if_neg c1] at h
      refine ev_iconst dX10_isSlot_9 (r32c rfl) ?_
      refine ev_goto (tgt := 14) dX10_isSlot_10 (by decide) ?_
      exact ev_zret rfl (by decide) dX10_isSlot_14 h
def FX10_isSlot (x0 : Int) (f : Mm) : Option (Int × Mm) := FX10_isSlot_0 x0 f
set_option maxRecDepth 100000 in
theorem TX10_isSlot {G : GT} {l : Launch} {Q : Option AV → Mem → Prop} (x0 : Int) (f : Mm) (h : OkI Q (FX10_isSlot x0 f)) : Ret G l MX10_isSlot (1) 0 0 [vI x0] (SH, RF, f) Q := by
  refine ret_of (L := [some (vI x0)]) (by decide) rfl (Nat.le_of_ble_eq_true rfl) ?_
  exact SX10_isSlot_0 x0 f h
theorem dX6_hasRow_0 : decode cX6_hasRow 0 = .ok (.aload_n 0, 1) := by decide +kernel
theorem dX6_hasRow_1 : decode cX6_hasRow 1 = .ok (.getfield 16, 3) := by decide +kernel
theorem dX6_hasRow_4 : decode cX6_hasRow 4 = .ok (.iload_n 1, 1) := by decide +kernel
theorem dX6_hasRow_5 : decode cX6_hasRow 5 = .ok (.iaload, 1) := by decide +kernel
theorem dX6_hasRow_6 : decode cX6_hasRow 6 = .ok (.iconst (-1), 1) := by decide +kernel
theorem dX6_hasRow_7 : decode cX6_hasRow 7 = .ok (.if_icmp .eq 7, 3) := by decide +kernel
theorem dX6_hasRow_14 : decode cX6_hasRow 14 = .ok (.iconst 0, 1) := by decide +kernel
theorem dX6_hasRow_15 : decode cX6_hasRow 15 = .ok (.ireturn, 1) := by decide +kernel
theorem dX6_hasRow_10 : decode cX6_hasRow 10 = .ok (.iconst 1, 1) := by decide +kernel
theorem dX6_hasRow_11 : decode cX6_hasRow 11 = .ok (.goto 4, 3) := by decide +kernel
def FX6_hasRow_0  (x1 : Int) (f : Mm) : Option (Int × Mm) := (if 0 ≤ x1 ∧ x1 < 4 then (if (f 46 x1.toNat) = (-1) then some (0, f) else some (1, f)) else none)
set_option maxHeartbeats 4000000 in
set_option maxRecDepth 100000 in
theorem SX6_hasRow_0 {G : GT} {l : Launch} {Q : Option AV → Mem → Prop}  (x1 : Int) (f : Mm) (h : OkI Q (FX6_hasRow_0  x1 f)) : Ev G l MX6_hasRow (Rm 1 0 0) (ZM G Q 0 0) 0 0 0 [some (vR 40), some (vI x1)] [] (SH, RF, f) := by
  unfold FX6_hasRow_0 at h
  refine ev_aload_n (i := 0) dX6_hasRow_0 rfl rfl ?_
  refine ev_getR dX6_hasRow_1 fl_X6_16 sh_40 (by decide) (by decide) rf_40_1 ?_
  refine ev_iload_n (i := 1) dX6_hasRow_4 rfl rfl ?_
  by_cases g1 : 0 ≤ x1 ∧ x1 < 4
  · rw [if_pos g1] at h
    refine ex_iald (x := (f 46 x1.toNat)) dX6_hasRow_5 sh_46 g1.1 g1.2 rfl ?_
    refine ev_iconst dX6_hasRow_6 (r32c rfl) ?_
    refine ev_icmp_eq (tgt := 14) dX6_hasRow_7 (by decide) (fun c2 => ?_) (fun c2 => ?_)
    · rw [if_pos c2] at h
      refine ev_iconst dX6_hasRow_14 (r32c rfl) ?_
      exact ev_zret rfl (by decide) dX6_hasRow_15 h
    · rw [if_neg c2] at h
      refine ev_iconst dX6_hasRow_10 (r32c rfl) ?_
      refine ev_goto (tgt := 15) dX6_hasRow_11 (by decide) ?_
      exact ev_zret rfl (by decide) dX6_hasRow_15 h
  · rw [if_neg g1] at h; exact h.elim
def FX6_hasRow (x1 : Int) (f : Mm) : Option (Int × Mm) := FX6_hasRow_0 x1 f
set_option maxRecDepth 100000 in
theorem TX6_hasRow {G : GT} {l : Launch} {Q : Option AV → Mem → Prop} (x1 : Int) (f : Mm) (h : OkI Q (FX6_hasRow x1 f)) : Ret G l MX6_hasRow (1) 0 0 [vR 40, vI x1] (SH, RF, f) Q := by
  refine ret_of (L := [some (vR 40), some (vI x1)]) (by decide) rfl (Nat.le_of_ble_eq_true rfl) ?_
  exact SX6_hasRow_0 x1 f h
theorem dX10_slotWrong_0 : decode cX10_slotWrong 0 = .ok (.iload_n 1, 1) := by decide +kernel
theorem dX10_slotWrong_1 : decode cX10_slotWrong 1 = .ok (.invokestatic 389, 3) := by decide +kernel
theorem dX10_slotWrong_4 : decode cX10_slotWrong 4 = .ok (.ifCond .eq 13, 3) := by decide +kernel
theorem dX10_slotWrong_17 : decode cX10_slotWrong 17 = .ok (.bipush (-2), 2) := by decide +kernel
theorem dX10_slotWrong_19 : decode cX10_slotWrong 19 = .ok (.ireturn, 1) := by decide +kernel
theorem dX10_slotWrong_7 : decode cX10_slotWrong 7 = .ok (.aload_n 0, 1) := by decide +kernel
theorem dX10_slotWrong_8 : decode cX10_slotWrong 8 = .ok (.getfield 19, 3) := by decide +kernel
theorem dX10_slotWrong_11 : decode cX10_slotWrong 11 = .ok (.invokevirtual 140, 3) := by decide +kernel
theorem dX10_slotWrong_14 : decode cX10_slotWrong 14 = .ok (.ifCond .ne 6, 3) := by decide +kernel
theorem dX10_slotWrong_20 : decode cX10_slotWrong 20 = .ok (.aload_n 0, 1) := by decide +kernel
theorem dX10_slotWrong_21 : decode cX10_slotWrong 21 = .ok (.getfield 37, 3) := by decide +kernel
theorem dX10_slotWrong_24 : decode cX10_slotWrong 24 = .ok (.iload_n 1, 1) := by decide +kernel
theorem dX10_slotWrong_25 : decode cX10_slotWrong 25 = .ok (.invokevirtual 396, 3) := by decide +kernel
theorem dX10_slotWrong_28 : decode cX10_slotWrong 28 = .ok (.ifCond .eq 7, 3) := by decide +kernel
theorem dX10_slotWrong_35 : decode cX10_slotWrong 35 = .ok (.bipush (-6), 2) := by decide +kernel
theorem dX10_slotWrong_37 : decode cX10_slotWrong 37 = .ok (.ireturn, 1) := by decide +kernel
theorem dX10_slotWrong_31 : decode cX10_slotWrong 31 = .ok (.iconst 0, 1) := by decide +kernel
theorem dX10_slotWrong_32 : decode cX10_slotWrong 32 = .ok (.goto 5, 3) := by decide +kernel
def FX10_slotWrong_0  (x1 : Int) (f : Mm) : Option (Int × Mm) := (b2 (FX10_isSlot x1 f) fun y1 f1 => (if y1 = 0 then some ((-2), f1) else (b2 (FX0_stands_4 f1) fun y2 f2 => (if y2 = 0 then some ((-2), f2) else (b2 (FX6_hasRow x1 f2) fun y3 f3 => (if y3 = 0 then some ((-6), f3) else some (0, f3)))))))
set_option maxHeartbeats 4000000 in
set_option maxRecDepth 100000 in
theorem SX10_slotWrong_0 {G : GT} {l : Launch} {Q : Option AV → Mem → Prop}  (x1 : Int) (f : Mm) (h : OkI Q (FX10_slotWrong_0  x1 f)) : Ev G l MX10_slotWrong (Rm 2 0 0) (ZM G Q 0 0) 0 0 0 [some (vR 0), some (vI x1)] [] (SH, RF, f) := by
  unfold FX10_slotWrong_0 at h
  refine ev_iload_n (i := 1) dX10_slotWrong_0 rfl rfl ?_
  refine ev_cSI (av := [vI x1]) (S := []) (fun q => q) h dX10_slotWrong_1 (fun Q' q => TX10_isSlot x1 _ q) ksX10_isSlot ml_X10_389 rfl (RRc (by decide) (by decide)) (Nat.le_of_ble_eq_true rfl) ⟨Nat.le_of_ble_eq_true rfl, Nat.le_of_ble_eq_true rfl⟩ (fun y1 f1 h => ?_)
  refine ev_if_eq (tgt := 17) dX10_slotWrong_4 (by decide) (fun c6 => ?_) (fun c6 => ?_)
  · rw [if_pos c6] at h
    refine ev_bipush (v := (-2)) dX10_slotWrong_17 (r32c rfl) (by decide) ?_
    exact ev_iret rfl dX10_slotWrong_19 h
  · rw [if_neg c6] at h
    refine ev_aload_n (i := 0) dX10_slotWrong_7 rfl rfl ?_
    refine ev_getR dX10_slotWrong_8 fl_X10_19 sh_0 (by decide) (by decide) rf_0_1 ?_
    refine ev_cVI (b := 4) (av := []) (S := []) (fun q => q) h dX10_slotWrong_11 (fun Q' q => TX0_stands_4 _ q) kvX0_stands ml_X10_140 sh_4 rfl (RRc (by decide) (by decide)) (Nat.le_of_ble_eq_true rfl) ⟨Nat.le_of_ble_eq_true rfl, Nat.le_of_ble_eq_true rfl⟩ (fun y2 f2 h => ?_)
    refine ev_if_ne (tgt := 20) dX10_slotWrong_14 (by decide) (fun c5 => ?_) (fun c5 => ?_)
    · rw [if_neg c5] at h
      refine ev_aload_n (i := 0) dX10_slotWrong_20 rfl rfl ?_
      refine ev_getR dX10_slotWrong_21 fl_X10_37 sh_0 (by decide) (by decide) rf_0_5 ?_
      refine ev_iload_n (i := 1) dX10_slotWrong_24 rfl rfl ?_
      refine ev_cVI (b := 40) (av := [vI x1]) (S := []) (fun q => q) h dX10_slotWrong_25 (fun Q' q => TX6_hasRow x1 _ q) kvX6_hasRow ml_X10_396 sh_40 rfl (RRc (by decide) (by decide)) (Nat.le_of_ble_eq_true rfl) ⟨Nat.le_of_ble_eq_true rfl, Nat.le_of_ble_eq_true rfl⟩ (fun y3 f3 h => ?_)
      refine ev_if_eq (tgt := 35) dX10_slotWrong_28 (by decide) (fun c4 => ?_) (fun c4 => ?_)
      · rw [if_pos c4] at h
        refine ev_bipush (v := (-6)) dX10_slotWrong_35 (r32c rfl) (by decide) ?_
        exact ev_iret rfl dX10_slotWrong_37 h
      · rw [if_neg c4] at h
        refine ev_iconst dX10_slotWrong_31 (r32c rfl) ?_
        refine ev_goto (tgt := 37) dX10_slotWrong_32 (by decide) ?_
        exact ev_iret rfl dX10_slotWrong_37 h
    · rw [if_pos c5] at h
      refine ev_bipush (v := (-2)) dX10_slotWrong_17 (r32c rfl) (by decide) ?_
      exact ev_iret rfl dX10_slotWrong_19 h
def FX10_slotWrong (x1 : Int) (f : Mm) : Option (Int × Mm) := FX10_slotWrong_0 x1 f
set_option maxRecDepth 100000 in
theorem TX10_slotWrong {G : GT} {l : Launch} {Q : Option AV → Mem → Prop} (x1 : Int) (f : Mm) (h : OkI Q (FX10_slotWrong x1 f)) : Ret G l MX10_slotWrong (2) 0 0 [vR 0, vI x1] (SH, RF, f) Q := by
  refine ret_of (L := [some (vR 0), some (vI x1)]) (by decide) rfl (Nat.le_of_ble_eq_true rfl) ?_
  exact SX10_slotWrong_0 x1 f h
theorem dX10_widthsWrong_34 : decode cX10_widthsWrong 34 = .ok (.iload 4, 2) := by decide +kernel
theorem dX10_widthsWrong_36 : decode cX10_widthsWrong 36 = .ok (.iconst 1, 1) := by decide +kernel
theorem dX10_widthsWrong_37 : decode cX10_widthsWrong 37 = .ok (.iadd, 1) := by decide +kernel
theorem dX10_widthsWrong_38 : decode cX10_widthsWrong 38 = .ok (.iload_n 3, 1) := by decide +kernel
theorem dX10_widthsWrong_39 : decode cX10_widthsWrong 39 = .ok (.if_icmp .ge 79, 3) := by decide +kernel
theorem dX10_widthsWrong_118 : decode cX10_widthsWrong 118 = .ok (.iconst 0, 1) := by decide +kernel
theorem dX10_widthsWrong_119 : decode cX10_widthsWrong 119 = .ok (.ireturn, 1) := by decide +kernel
theorem dX10_widthsWrong_42 : decode cX10_widthsWrong 42 = .ok (.aload_n 0, 1) := by decide +kernel
theorem dX10_widthsWrong_43 : decode cX10_widthsWrong 43 = .ok (.getfield 37, 3) := by decide +kernel
theorem dX10_widthsWrong_46 : decode cX10_widthsWrong 46 = .ok (.getfield 402, 3) := by decide +kernel
theorem dX10_widthsWrong_49 : decode cX10_widthsWrong 49 = .ok (.iload_n 1, 1) := by decide +kernel
theorem dX10_widthsWrong_50 : decode cX10_widthsWrong 50 = .ok (.aaload, 1) := by decide +kernel
theorem dX10_widthsWrong_51 : decode cX10_widthsWrong 51 = .ok (.iload 4, 2) := by decide +kernel
theorem dX10_widthsWrong_53 : decode cX10_widthsWrong 53 = .ok (.laload, 1) := by decide +kernel
theorem dX10_widthsWrong_54 : decode cX10_widthsWrong 54 = .ok (.lstore 5, 2) := by decide +kernel
theorem dX10_widthsWrong_56 : decode cX10_widthsWrong 56 = .ok (.aload_n 0, 1) := by decide +kernel
theorem dX10_widthsWrong_57 : decode cX10_widthsWrong 57 = .ok (.getfield 37, 3) := by decide +kernel
theorem dX10_widthsWrong_60 : decode cX10_widthsWrong 60 = .ok (.getfield 402, 3) := by decide +kernel
theorem dX10_widthsWrong_63 : decode cX10_widthsWrong 63 = .ok (.iload_n 1, 1) := by decide +kernel
theorem dX10_widthsWrong_64 : decode cX10_widthsWrong 64 = .ok (.aaload, 1) := by decide +kernel
theorem dX10_widthsWrong_65 : decode cX10_widthsWrong 65 = .ok (.iload 4, 2) := by decide +kernel
theorem dX10_widthsWrong_67 : decode cX10_widthsWrong 67 = .ok (.iconst 1, 1) := by decide +kernel
theorem dX10_widthsWrong_68 : decode cX10_widthsWrong 68 = .ok (.iadd, 1) := by decide +kernel
theorem dX10_widthsWrong_69 : decode cX10_widthsWrong 69 = .ok (.laload, 1) := by decide +kernel
theorem dX10_widthsWrong_70 : decode cX10_widthsWrong 70 = .ok (.lstore 7, 2) := by decide +kernel
theorem dX10_widthsWrong_72 : decode cX10_widthsWrong 72 = .ok (.lload 5, 2) := by decide +kernel
theorem dX10_widthsWrong_74 : decode cX10_widthsWrong 74 = .ok (.lconst 0, 1) := by decide +kernel
theorem dX10_widthsWrong_75 : decode cX10_widthsWrong 75 = .ok (.lcmp, 1) := by decide +kernel
theorem dX10_widthsWrong_76 : decode cX10_widthsWrong 76 = .ok (.ifCond .lt 33, 3) := by decide +kernel
theorem dX10_widthsWrong_109 : decode cX10_widthsWrong 109 = .ok (.bipush (-2), 2) := by decide +kernel
theorem dX10_widthsWrong_111 : decode cX10_widthsWrong 111 = .ok (.ireturn, 1) := by decide +kernel
theorem dX10_widthsWrong_79 : decode cX10_widthsWrong 79 = .ok (.lload 5, 2) := by decide +kernel
theorem dX10_widthsWrong_81 : decode cX10_widthsWrong 81 = .ok (.aload_n 0, 1) := by decide +kernel
theorem dX10_widthsWrong_82 : decode cX10_widthsWrong 82 = .ok (.getfield 19, 3) := by decide +kernel
theorem dX10_widthsWrong_85 : decode cX10_widthsWrong 85 = .ok (.getfield 144, 3) := by decide +kernel
theorem dX10_widthsWrong_88 : decode cX10_widthsWrong 88 = .ok (.i2l, 1) := by decide +kernel
theorem dX10_widthsWrong_89 : decode cX10_widthsWrong 89 = .ok (.lcmp, 1) := by decide +kernel
theorem dX10_widthsWrong_90 : decode cX10_widthsWrong 90 = .ok (.ifCond .ge 19, 3) := by decide +kernel
theorem dX10_widthsWrong_93 : decode cX10_widthsWrong 93 = .ok (.lload 7, 2) := by decide +kernel
theorem dX10_widthsWrong_95 : decode cX10_widthsWrong 95 = .ok (.lconst 0, 1) := by decide +kernel
theorem dX10_widthsWrong_96 : decode cX10_widthsWrong 96 = .ok (.lcmp, 1) := by decide +kernel
theorem dX10_widthsWrong_97 : decode cX10_widthsWrong 97 = .ok (.ifCond .lt 12, 3) := by decide +kernel
theorem dX10_widthsWrong_100 : decode cX10_widthsWrong 100 = .ok (.lload 7, 2) := by decide +kernel
theorem dX10_widthsWrong_102 : decode cX10_widthsWrong 102 = .ok (.ldc2_w 442, 3) := by decide +kernel
theorem dX10_widthsWrong_105 : decode cX10_widthsWrong 105 = .ok (.lcmp, 1) := by decide +kernel
theorem dX10_widthsWrong_106 : decode cX10_widthsWrong 106 = .ok (.ifCond .le 6, 3) := by decide +kernel
theorem dX10_widthsWrong_112 : decode cX10_widthsWrong 112 = .ok (.iinc 4 2, 3) := by decide +kernel
theorem dX10_widthsWrong_115 : decode cX10_widthsWrong 115 = .ok (.goto (-81), 3) := by decide +kernel
theorem dX10_widthsWrong_0 : decode cX10_widthsWrong 0 = .ok (.aload_n 0, 1) := by decide +kernel
theorem dX10_widthsWrong_1 : decode cX10_widthsWrong 1 = .ok (.iload_n 1, 1) := by decide +kernel
theorem dX10_widthsWrong_2 : decode cX10_widthsWrong 2 = .ok (.invokevirtual 439, 3) := by decide +kernel
theorem dX10_widthsWrong_5 : decode cX10_widthsWrong 5 = .ok (.istore_n 2, 1) := by decide +kernel
theorem dX10_widthsWrong_6 : decode cX10_widthsWrong 6 = .ok (.iload_n 2, 1) := by decide +kernel
theorem dX10_widthsWrong_7 : decode cX10_widthsWrong 7 = .ok (.ifCond .eq 5, 3) := by decide +kernel
theorem dX10_widthsWrong_12 : decode cX10_widthsWrong 12 = .ok (.aload_n 0, 1) := by decide +kernel
theorem dX10_widthsWrong_13 : decode cX10_widthsWrong 13 = .ok (.getfield 37, 3) := by decide +kernel
theorem dX10_widthsWrong_16 : decode cX10_widthsWrong 16 = .ok (.getfield 399, 3) := by decide +kernel
theorem dX10_widthsWrong_19 : decode cX10_widthsWrong 19 = .ok (.iload_n 1, 1) := by decide +kernel
theorem dX10_widthsWrong_20 : decode cX10_widthsWrong 20 = .ok (.iaload, 1) := by decide +kernel
theorem dX10_widthsWrong_21 : decode cX10_widthsWrong 21 = .ok (.istore_n 3, 1) := by decide +kernel
theorem dX10_widthsWrong_22 : decode cX10_widthsWrong 22 = .ok (.iload_n 3, 1) := by decide +kernel
theorem dX10_widthsWrong_23 : decode cX10_widthsWrong 23 = .ok (.iconst 2, 1) := by decide +kernel
theorem dX10_widthsWrong_24 : decode cX10_widthsWrong 24 = .ok (.irem, 1) := by decide +kernel
theorem dX10_widthsWrong_25 : decode cX10_widthsWrong 25 = .ok (.ifCond .eq 6, 3) := by decide +kernel
theorem dX10_widthsWrong_31 : decode cX10_widthsWrong 31 = .ok (.iconst 0, 1) := by decide +kernel
theorem dX10_widthsWrong_32 : decode cX10_widthsWrong 32 = .ok (.istore 4, 2) := by decide +kernel
theorem dX10_widthsWrong_28 : decode cX10_widthsWrong 28 = .ok (.bipush (-2), 2) := by decide +kernel
theorem dX10_widthsWrong_30 : decode cX10_widthsWrong 30 = .ok (.ireturn, 1) := by decide +kernel
theorem dX10_widthsWrong_10 : decode cX10_widthsWrong 10 = .ok (.iload_n 2, 1) := by decide +kernel
theorem dX10_widthsWrong_11 : decode cX10_widthsWrong 11 = .ok (.ireturn, 1) := by decide +kernel
def FX10_widthsWrong_34  : Nat → Int → Int → Int → Mm → Option (Int × Mm)
  | 0, _, _, _, _ => none
  | n + 1, x1, x3, x4, f => (if x3 ≤ (w32 (x4 + 1)) then some (0, f) else (if 0 ≤ x1 ∧ x1 < 4 then (if 0 ≤ x4 ∧ x4 < 60 then (if 0 ≤ x1 ∧ x1 < 4 then (if 0 ≤ (w32 (x4 + 1)) ∧ (w32 (x4 + 1)) < 60 then (if (cmp3 (f (42 + x1.toNat) x4.toNat) 0) < 0 then some ((-2), f) else (if 0 ≤ (cmp3 (f (42 + x1.toNat) x4.toNat) (f 4 1)) then some ((-2), f) else (if (cmp3 (f (42 + x1.toNat) (w32 (x4 + 1)).toNat) 0) < 0 then some ((-2), f) else (if (cmp3 (f (42 + x1.toNat) (w32 (x4 + 1)).toNat) 60) ≤ 0 then FX10_widthsWrong_34 n x1 x3 (w32 (x4 + 2)) f else some ((-2), f))))) else none) else none) else none) else none))
set_option maxHeartbeats 4000000 in
set_option maxRecDepth 100000 in
theorem SX10_widthsWrong_34 {G : GT} {l : Launch} {Q : Option AV → Mem → Prop}  : ∀ (n : Nat) (x1 : Int) (x3 : Int) (x4 : Int) (f : Mm), OkI Q (FX10_widthsWrong_34  n x1 x3 x4 f) → Ev G l MX10_widthsWrong (Rm 3 0 0) (ZM G Q 0 0) 0 0 34 [some (vR 0), some (vI x1), none, some (vI x3), some (vI x4), none, none, none, none] [] (SH, RF, f) := by
  intro n
  induction n with
  | zero => intro x1 x3 x4 f h; exact absurd h (by rw [FX10_widthsWrong_34]; exact fun q => q)
  | succ n ih =>
    intro x1 x3 x4 f h
    rw [FX10_widthsWrong_34] at h
    refine ev_iload dX10_widthsWrong_34 rfl ?_
    refine ev_iconst dX10_widthsWrong_36 (r32c rfl) ?_
    refine ev_iadd dX10_widthsWrong_37 ?_
    refine ev_iload_n (i := 3) dX10_widthsWrong_38 rfl rfl ?_
    refine ev_icmp_ge (tgt := 118) dX10_widthsWrong_39 (by decide) (fun c9 => ?_) (fun c9 => ?_)
    · rw [if_pos c9] at h
      refine ev_iconst dX10_widthsWrong_118 (r32c rfl) ?_
      exact ev_iret rfl dX10_widthsWrong_119 h
    · rw [if_neg c9] at h
      refine ev_aload_n (i := 0) dX10_widthsWrong_42 rfl rfl ?_
      refine ev_getR dX10_widthsWrong_43 fl_X10_37 sh_0 (by decide) (by decide) rf_0_5 ?_
      refine ev_getR dX10_widthsWrong_46 fl_X10_402 sh_40 (by decide) (by decide) rf_40_0 ?_
      refine ev_iload_n (i := 1) dX10_widthsWrong_49 rfl rfl ?_
      by_cases g1 : 0 ≤ x1 ∧ x1 < 4
      · rw [if_pos g1] at h
        refine ev_aald (b := (42 + x1.toNat)) dX10_widthsWrong_50 (Or.inr (Or.inl rfl)) sh_41 g1.1 g1.2 (rfr_41 g1) ?_
        refine ev_iload dX10_widthsWrong_51 rfl ?_
        by_cases g2 : 0 ≤ x4 ∧ x4 < 60
        · rw [if_pos g2] at h
          refine ex_lald (x := (f (42 + x1.toNat) x4.toNat)) dX10_widthsWrong_53 (shr_41 g1) g2.1 g2.2 rfl ?_
          refine ev_lstore (L' := [some (vR 0), some (vI x1), none, some (vI x3), some (vI x4), some (vJ (f (42 + x1.toNat) x4.toNat)), none, none, none]) dX10_widthsWrong_54 (by decide) rfl ?_
          refine ev_aload_n (i := 0) dX10_widthsWrong_56 rfl rfl ?_
          refine ev_getR dX10_widthsWrong_57 fl_X10_37 sh_0 (by decide) (by decide) rf_0_5 ?_
          refine ev_getR dX10_widthsWrong_60 fl_X10_402 sh_40 (by decide) (by decide) rf_40_0 ?_
          refine ev_iload_n (i := 1) dX10_widthsWrong_63 rfl rfl ?_
          by_cases g3 : 0 ≤ x1 ∧ x1 < 4
          · rw [if_pos g3] at h
            refine ev_aald (b := (42 + x1.toNat)) dX10_widthsWrong_64 (Or.inr (Or.inl rfl)) sh_41 g3.1 g3.2 (rfr_41 g3) ?_
            refine ev_iload dX10_widthsWrong_65 rfl ?_
            refine ev_iconst dX10_widthsWrong_67 (r32c rfl) ?_
            refine ev_iadd dX10_widthsWrong_68 ?_
            by_cases g4 : 0 ≤ (w32 (x4 + 1)) ∧ (w32 (x4 + 1)) < 60
            · rw [if_pos g4] at h
              refine ex_lald (x := (f (42 + x1.toNat) (w32 (x4 + 1)).toNat)) dX10_widthsWrong_69 (shr_41 g3) g4.1 g4.2 rfl ?_
              refine ev_lstore (L' := [some (vR 0), some (vI x1), none, some (vI x3), some (vI x4), some (vJ (f (42 + x1.toNat) x4.toNat)), none, some (vJ (f (42 + x1.toNat) (w32 (x4 + 1)).toNat)), none]) dX10_widthsWrong_70 (by decide) rfl ?_
              refine ev_lload dX10_widthsWrong_72 rfl ?_
              refine ev_lconst (v := 0) dX10_widthsWrong_74 (r64c rfl) (by decide) ?_
              refine ev_lcmp dX10_widthsWrong_75 ?_
              refine ev_if_lt (tgt := 109) dX10_widthsWrong_76 (by decide) (fun c8 => ?_) (fun c8 => ?_)
              · rw [if_pos c8] at h
                refine ev_bipush (v := (-2)) dX10_widthsWrong_109 (r32c rfl) (by decide) ?_
                exact ev_iret rfl dX10_widthsWrong_111 h
              · rw [if_neg c8] at h
                refine ev_lload dX10_widthsWrong_79 rfl ?_
                refine ev_aload_n (i := 0) dX10_widthsWrong_81 rfl rfl ?_
                refine ev_getR dX10_widthsWrong_82 fl_X10_19 sh_0 (by decide) (by decide) rf_0_1 ?_
                refine ex_getI (x := (f 4 1)) dX10_widthsWrong_85 fl_X10_144 sh_4 (by decide) (by decide) rfl ?_
                refine ev_i2l dX10_widthsWrong_88 ?_
                refine ev_lcmp dX10_widthsWrong_89 ?_
                refine ev_if_ge (tgt := 109) dX10_widthsWrong_90 (by decide) (fun c7 => ?_) (fun c7 => ?_)
                · rw [if_pos c7] at h
                  refine ev_bipush (v := (-2)) dX10_widthsWrong_109 (r32c rfl) (by decide) ?_
                  exact ev_iret rfl dX10_widthsWrong_111 h
                · rw [if_neg c7] at h
                  refine ev_lload dX10_widthsWrong_93 rfl ?_
                  refine ev_lconst (v := 0) dX10_widthsWrong_95 (r64c rfl) (by decide) ?_
                  refine ev_lcmp dX10_widthsWrong_96 ?_
                  refine ev_if_lt (tgt := 109) dX10_widthsWrong_97 (by decide) (fun c6 => ?_) (fun c6 => ?_)
                  · rw [if_pos c6] at h
                    refine ev_bipush (v := (-2)) dX10_widthsWrong_109 (r32c rfl) (by decide) ?_
                    exact ev_iret rfl dX10_widthsWrong_111 h
                  · rw [if_neg c6] at h
                    refine ev_lload dX10_widthsWrong_100 rfl ?_
                    refine ev_ldc2 (v := 60) dX10_widthsWrong_102 (r64c rfl) kc_X10_442 ?_
                    refine ev_lcmp dX10_widthsWrong_105 ?_
                    refine ev_if_le (tgt := 112) dX10_widthsWrong_106 (by decide) (fun c5 => ?_) (fun c5 => ?_)
                    · rw [if_pos c5] at h
                      refine ev_iinc (L' := [some (vR 0), some (vI x1), none, some (vI x3), some (vI (w32 (x4 + 2))), some (vJ (f (42 + x1.toNat) x4.toNat)), none, some (vJ (f (42 + x1.toNat) (w32 (x4 + 1)).toNat)), none]) dX10_widthsWrong_112 rfl (by decide) rfl ?_
                      refine ev_goto (tgt := 34) dX10_widthsWrong_115 (by decide) ?_
                      refine ev_fg [true, true, true, true, true, false, true, false, true] rfl ?_
                      exact ih x1 x3 (w32 (x4 + 2)) _ h
                    · rw [if_neg c5] at h
                      refine ev_bipush (v := (-2)) dX10_widthsWrong_109 (r32c rfl) (by decide) ?_
                      exact ev_iret rfl dX10_widthsWrong_111 h
            · rw [if_neg g4] at h; exact h.elim
          · rw [if_neg g3] at h; exact h.elim
        · rw [if_neg g2] at h; exact h.elim
      · rw [if_neg g1] at h; exact h.elim
def FX10_widthsWrong_0  (x1 : Int) (f : Mm) : Option (Int × Mm) := (b2 (FX10_slotWrong x1 f) fun y1 f1 => (if y1 = 0 then (if 0 ≤ x1 ∧ x1 < 4 then (if (iRem (f1 46 x1.toNat) 2) = 0 then FX10_widthsWrong_34 fu x1 (f1 46 x1.toNat) 0 f1 else some ((-2), f1)) else none) else some (y1, f1)))
set_option maxHeartbeats 4000000 in
set_option maxRecDepth 100000 in
theorem SX10_widthsWrong_0 {G : GT} {l : Launch} {Q : Option AV → Mem → Prop}  (x1 : Int) (f : Mm) (h : OkI Q (FX10_widthsWrong_0  x1 f)) : Ev G l MX10_widthsWrong (Rm 3 0 0) (ZM G Q 0 0) 0 0 0 [some (vR 0), some (vI x1), none, none, none, none, none, none, none] [] (SH, RF, f) := by
  unfold FX10_widthsWrong_0 at h
  refine ev_aload_n (i := 0) dX10_widthsWrong_0 rfl rfl ?_
  refine ev_iload_n (i := 1) dX10_widthsWrong_1 rfl rfl ?_
  refine ev_cVI (b := 0) (av := [vI x1]) (S := []) (fun q => q) h dX10_widthsWrong_2 (fun Q' q => TX10_slotWrong x1 _ q) kvX10_slotWrong ml_X10_439 sh_0 rfl (RRc (by decide) (by decide)) (Nat.le_of_ble_eq_true rfl) ⟨Nat.le_of_ble_eq_true rfl, Nat.le_of_ble_eq_true rfl⟩ (fun y1 f1 h => ?_)
  refine ev_istore_n (i := 2) (L' := [some (vR 0), some (vI x1), some (vI y1), none, none, none, none, none, none]) dX10_widthsWrong_5 rfl (by decide) rfl ?_
  refine ev_iload_n (i := 2) dX10_widthsWrong_6 rfl rfl ?_
  refine ev_if_eq (tgt := 12) dX10_widthsWrong_7 (by decide) (fun c4 => ?_) (fun c4 => ?_)
  · rw [if_pos c4] at h
    refine ev_aload_n (i := 0) dX10_widthsWrong_12 rfl rfl ?_
    refine ev_getR dX10_widthsWrong_13 fl_X10_37 sh_0 (by decide) (by decide) rf_0_5 ?_
    refine ev_getR dX10_widthsWrong_16 fl_X10_399 sh_40 (by decide) (by decide) rf_40_1 ?_
    refine ev_iload_n (i := 1) dX10_widthsWrong_19 rfl rfl ?_
    by_cases g2 : 0 ≤ x1 ∧ x1 < 4
    · rw [if_pos g2] at h
      refine ex_iald (x := (f1 46 x1.toNat)) dX10_widthsWrong_20 sh_46 g2.1 g2.2 rfl ?_
      refine ev_istore_n (i := 3) (L' := [some (vR 0), some (vI x1), some (vI y1), some (vI (f1 46 x1.toNat)), none, none, none, none, none]) dX10_widthsWrong_21 rfl (by decide) rfl ?_
      refine ev_iload_n (i := 3) dX10_widthsWrong_22 rfl rfl ?_
      refine ev_iconst dX10_widthsWrong_23 (r32c rfl) ?_
      refine ev_irem dX10_widthsWrong_24 (by decide) ?_
      refine ev_if_eq (tgt := 31) dX10_widthsWrong_25 (by decide) (fun c3 => ?_) (fun c3 => ?_)
      · rw [if_pos c3] at h
        refine ev_iconst dX10_widthsWrong_31 (r32c rfl) ?_
        refine ev_istore (L' := [some (vR 0), some (vI x1), some (vI y1), some (vI (f1 46 x1.toNat)), some (vI 0), none, none, none, none]) dX10_widthsWrong_32 (by decide) rfl ?_
        refine ev_fg [true, true, false, true, true, true, true, true, true] rfl ?_
        exact SX10_widthsWrong_34  fu x1 (f1 46 x1.toNat) 0 _ h
      · rw [if_neg c3] at h
        refine ev_bipush (v := (-2)) dX10_widthsWrong_28 (r32c rfl) (by decide) ?_
        exact ev_iret rfl dX10_widthsWrong_30 h
    · rw [if_neg g2] at h; exact h.elim
  · rw [if_neg c4] at h
    refine ev_iload_n (i := 2) dX10_widthsWrong_10 rfl rfl ?_
    exact ev_iret rfl dX10_widthsWrong_11 h
def FX10_widthsWrong (x1 : Int) (f : Mm) : Option (Int × Mm) := FX10_widthsWrong_0 x1 f
set_option maxRecDepth 100000 in
theorem TX10_widthsWrong {G : GT} {l : Launch} {Q : Option AV → Mem → Prop} (x1 : Int) (f : Mm) (h : OkI Q (FX10_widthsWrong x1 f)) : Ret G l MX10_widthsWrong (3) 0 0 [vR 0, vI x1] (SH, RF, f) Q := by
  refine ret_of (L := [some (vR 0), some (vI x1), none, none, none, none, none, none, none]) (by decide) rfl (Nat.le_of_ble_eq_true rfl) ?_
  exact SX10_widthsWrong_0 x1 f h
theorem dX6_tells_2 : decode cX6_tells 2 = .ok (.iload_n 3, 1) := by decide +kernel
theorem dX6_tells_3 : decode cX6_tells 3 = .ok (.iconst 1, 1) := by decide +kernel
theorem dX6_tells_4 : decode cX6_tells 4 = .ok (.iadd, 1) := by decide +kernel
theorem dX6_tells_5 : decode cX6_tells 5 = .ok (.aload_n 0, 1) := by decide +kernel
theorem dX6_tells_6 : decode cX6_tells 6 = .ok (.getfield 16, 3) := by decide +kernel
theorem dX6_tells_9 : decode cX6_tells 9 = .ok (.iload_n 1, 1) := by decide +kernel
theorem dX6_tells_10 : decode cX6_tells 10 = .ok (.iaload, 1) := by decide +kernel
theorem dX6_tells_11 : decode cX6_tells 11 = .ok (.if_icmp .ge 39, 3) := by decide +kernel
theorem dX6_tells_50 : decode cX6_tells 50 = .ok (.iconst 1, 1) := by decide +kernel
theorem dX6_tells_51 : decode cX6_tells 51 = .ok (.ireturn, 1) := by decide +kernel
theorem dX6_tells_14 : decode cX6_tells 14 = .ok (.aload_n 2, 1) := by decide +kernel
theorem dX6_tells_15 : decode cX6_tells 15 = .ok (.aload_n 0, 1) := by decide +kernel
theorem dX6_tells_16 : decode cX6_tells 16 = .ok (.getfield 11, 3) := by decide +kernel
theorem dX6_tells_19 : decode cX6_tells 19 = .ok (.iload_n 1, 1) := by decide +kernel
theorem dX6_tells_20 : decode cX6_tells 20 = .ok (.aaload, 1) := by decide +kernel
theorem dX6_tells_21 : decode cX6_tells 21 = .ok (.iload_n 3, 1) := by decide +kernel
theorem dX6_tells_22 : decode cX6_tells 22 = .ok (.laload, 1) := by decide +kernel
theorem dX6_tells_23 : decode cX6_tells 23 = .ok (.l2i, 1) := by decide +kernel
theorem dX6_tells_24 : decode cX6_tells 24 = .ok (.invokevirtual 31, 3) := by decide +kernel
theorem dX6_tells_27 : decode cX6_tells 27 = .ok (.i2l, 1) := by decide +kernel
theorem dX6_tells_28 : decode cX6_tells 28 = .ok (.aload_n 0, 1) := by decide +kernel
theorem dX6_tells_29 : decode cX6_tells 29 = .ok (.getfield 11, 3) := by decide +kernel
theorem dX6_tells_32 : decode cX6_tells 32 = .ok (.iload_n 1, 1) := by decide +kernel
theorem dX6_tells_33 : decode cX6_tells 33 = .ok (.aaload, 1) := by decide +kernel
theorem dX6_tells_34 : decode cX6_tells 34 = .ok (.iload_n 3, 1) := by decide +kernel
theorem dX6_tells_35 : decode cX6_tells 35 = .ok (.iconst 1, 1) := by decide +kernel
theorem dX6_tells_36 : decode cX6_tells 36 = .ok (.iadd, 1) := by decide +kernel
theorem dX6_tells_37 : decode cX6_tells 37 = .ok (.laload, 1) := by decide +kernel
theorem dX6_tells_38 : decode cX6_tells 38 = .ok (.lcmp, 1) := by decide +kernel
theorem dX6_tells_39 : decode cX6_tells 39 = .ok (.ifCond .eq 5, 3) := by decide +kernel
theorem dX6_tells_44 : decode cX6_tells 44 = .ok (.iinc 3 2, 3) := by decide +kernel
theorem dX6_tells_47 : decode cX6_tells 47 = .ok (.goto (-45), 3) := by decide +kernel
theorem dX6_tells_42 : decode cX6_tells 42 = .ok (.iconst 0, 1) := by decide +kernel
theorem dX6_tells_43 : decode cX6_tells 43 = .ok (.ireturn, 1) := by decide +kernel
theorem dX6_tells_0 : decode cX6_tells 0 = .ok (.iconst 0, 1) := by decide +kernel
theorem dX6_tells_1 : decode cX6_tells 1 = .ok (.istore_n 3, 1) := by decide +kernel
def FX6_tells_40_48_2  : Nat → Int → Int → Mm → Option (Int × Mm)
  | 0, _, _, _ => none
  | n + 1, x1, x3, f => (if 0 ≤ x1 ∧ x1 < 4 then (if (f 46 x1.toNat) ≤ (w32 (x3 + 1)) then some (1, f) else (if 0 ≤ x1 ∧ x1 < 4 then (if 0 ≤ x3 ∧ x3 < 60 then (b2 (FX1_widthOn (w32 (f (42 + x1.toNat) x3.toNat)) f) fun y4 f4 => (if 0 ≤ x1 ∧ x1 < 4 then (if 0 ≤ (w32 (x3 + 1)) ∧ (w32 (x3 + 1)) < 60 then (if (cmp3 y4 (f4 (42 + x1.toNat) (w32 (x3 + 1)).toNat)) = 0 then FX6_tells_40_48_2 n x1 (w32 (x3 + 2)) f4 else some (0, f4)) else none) else none)) else none) else none)) else none)
set_option maxHeartbeats 4000000 in
set_option maxRecDepth 100000 in
theorem SX6_tells_40_48_2 {G : GT} {l : Launch} {Q : Option AV → Mem → Prop}  : ∀ (n : Nat) (x1 : Int) (x3 : Int) (f : Mm), OkI Q (FX6_tells_40_48_2  n x1 x3 f) → Ev G l MX6_tells (Rm 2 0 0) (ZM G Q 0 0) 0 0 2 [some (vR 40), some (vI x1), some (vR 48), some (vI x3)] [] (SH, RF, f) := by
  intro n
  induction n with
  | zero => intro x1 x3 f h; exact absurd h (by rw [FX6_tells_40_48_2]; exact fun q => q)
  | succ n ih =>
    intro x1 x3 f h
    rw [FX6_tells_40_48_2] at h
    refine ev_iload_n (i := 3) dX6_tells_2 rfl rfl ?_
    refine ev_iconst dX6_tells_3 (r32c rfl) ?_
    refine ev_iadd dX6_tells_4 ?_
    refine ev_aload_n (i := 0) dX6_tells_5 rfl rfl ?_
    refine ev_getR dX6_tells_6 fl_X6_16 sh_40 (by decide) (by decide) rf_40_1 ?_
    refine ev_iload_n (i := 1) dX6_tells_9 rfl rfl ?_
    by_cases g1 : 0 ≤ x1 ∧ x1 < 4
    · rw [if_pos g1] at h
      refine ex_iald (x := (f 46 x1.toNat)) dX6_tells_10 sh_46 g1.1 g1.2 rfl ?_
      refine ev_icmp_ge (tgt := 50) dX6_tells_11 (by decide) (fun c8 => ?_) (fun c8 => ?_)
      · rw [if_pos c8] at h
        refine ev_iconst dX6_tells_50 (r32c rfl) ?_
        exact ev_zret rfl (by decide) dX6_tells_51 h
      · rw [if_neg c8] at h
        refine ev_aload_n (i := 2) dX6_tells_14 rfl rfl ?_
        refine ev_aload_n (i := 0) dX6_tells_15 rfl rfl ?_
        refine ev_getR dX6_tells_16 fl_X6_11 sh_40 (by decide) (by decide) rf_40_0 ?_
        refine ev_iload_n (i := 1) dX6_tells_19 rfl rfl ?_
        by_cases g2 : 0 ≤ x1 ∧ x1 < 4
        · rw [if_pos g2] at h
          refine ev_aald (b := (42 + x1.toNat)) dX6_tells_20 (Or.inr (Or.inl rfl)) sh_41 g2.1 g2.2 (rfr_41 g2) ?_
          refine ev_iload_n (i := 3) dX6_tells_21 rfl rfl ?_
          by_cases g3 : 0 ≤ x3 ∧ x3 < 60
          · rw [if_pos g3] at h
            refine ex_lald (x := (f (42 + x1.toNat) x3.toNat)) dX6_tells_22 (shr_41 g2) g3.1 g3.2 rfl ?_
            refine ev_l2i dX6_tells_23 ?_
            refine ev_cVI (b := 48) (av := [vI (w32 (f (42 + x1.toNat) x3.toNat))]) (S := []) (fun q => q) h dX6_tells_24 (fun Q' q => TX1_widthOn (w32 (f (42 + x1.toNat) x3.toNat)) _ q) kvX1_widthOn ml_X6_31 sh_48 rfl (RRc (by decide) (by decide)) (Nat.le_of_ble_eq_true rfl) ⟨Nat.le_of_ble_eq_true rfl, Nat.le_of_ble_eq_true rfl⟩ (fun y4 f4 h => ?_)
            refine ev_i2l dX6_tells_27 ?_
            refine ev_aload_n (i := 0) dX6_tells_28 rfl rfl ?_
            refine ev_getR dX6_tells_29 fl_X6_11 sh_40 (by decide) (by decide) rf_40_0 ?_
            refine ev_iload_n (i := 1) dX6_tells_32 rfl rfl ?_
            by_cases g5 : 0 ≤ x1 ∧ x1 < 4
            · rw [if_pos g5] at h
              refine ev_aald (b := (42 + x1.toNat)) dX6_tells_33 (Or.inr (Or.inl rfl)) sh_41 g5.1 g5.2 (rfr_41 g5) ?_
              refine ev_iload_n (i := 3) dX6_tells_34 rfl rfl ?_
              refine ev_iconst dX6_tells_35 (r32c rfl) ?_
              refine ev_iadd dX6_tells_36 ?_
              by_cases g6 : 0 ≤ (w32 (x3 + 1)) ∧ (w32 (x3 + 1)) < 60
              · rw [if_pos g6] at h
                refine ex_lald (x := (f4 (42 + x1.toNat) (w32 (x3 + 1)).toNat)) dX6_tells_37 (shr_41 g5) g6.1 g6.2 rfl ?_
                refine ev_lcmp dX6_tells_38 ?_
                refine ev_if_eq (tgt := 44) dX6_tells_39 (by decide) (fun c7 => ?_) (fun c7 => ?_)
                · rw [if_pos c7] at h
                  refine ev_iinc (L' := [some (vR 40), some (vI x1), some (vR 48), some (vI (w32 (x3 + 2)))]) dX6_tells_44 rfl (by decide) rfl ?_
                  refine ev_goto (tgt := 2) dX6_tells_47 (by decide) ?_
                  exact ih x1 (w32 (x3 + 2)) _ h
                · rw [if_neg c7] at h
                  refine ev_iconst dX6_tells_42 (r32c rfl) ?_
                  exact ev_zret rfl (by decide) dX6_tells_43 h
              · rw [if_neg g6] at h; exact h.elim
            · rw [if_neg g5] at h; exact h.elim
          · rw [if_neg g3] at h; exact h.elim
        · rw [if_neg g2] at h; exact h.elim
    · rw [if_neg g1] at h; exact h.elim
def FX6_tells_40_48_0  (x1 : Int) (f : Mm) : Option (Int × Mm) := FX6_tells_40_48_2 fu x1 0 f
set_option maxHeartbeats 4000000 in
set_option maxRecDepth 100000 in
theorem SX6_tells_40_48_0 {G : GT} {l : Launch} {Q : Option AV → Mem → Prop}  (x1 : Int) (f : Mm) (h : OkI Q (FX6_tells_40_48_0  x1 f)) : Ev G l MX6_tells (Rm 2 0 0) (ZM G Q 0 0) 0 0 0 [some (vR 40), some (vI x1), some (vR 48), none] [] (SH, RF, f) := by
  unfold FX6_tells_40_48_0 at h
  refine ev_iconst dX6_tells_0 (r32c rfl) ?_
  refine ev_istore_n (i := 3) (L' := [some (vR 40), some (vI x1), some (vR 48), some (vI 0)]) dX6_tells_1 rfl (by decide) rfl ?_
  exact SX6_tells_40_48_2  fu x1 0 _ h
def FX6_tells_40_48 (x1 : Int) (f : Mm) : Option (Int × Mm) := FX6_tells_40_48_0 x1 f
set_option maxRecDepth 100000 in
theorem TX6_tells_40_48 {G : GT} {l : Launch} {Q : Option AV → Mem → Prop} (x1 : Int) (f : Mm) (h : OkI Q (FX6_tells_40_48 x1 f)) : Ret G l MX6_tells (2) 0 0 [vR 40, vI x1, vR 48] (SH, RF, f) Q := by
  refine ret_of (L := [some (vR 40), some (vI x1), some (vR 48), none]) (by decide) rfl (Nat.le_of_ble_eq_true rfl) ?_
  exact SX6_tells_40_48_0 x1 f h
theorem dX5_keep_66 : decode cX5_keep 66 = .ok (.aload_n 0, 1) := by decide +kernel
theorem dX5_keep_67 : decode cX5_keep 67 = .ok (.dup, 1) := by decide +kernel
theorem dX5_keep_68 : decode cX5_keep 68 = .ok (.getfield 16, 3) := by decide +kernel
theorem dX5_keep_71 : decode cX5_keep 71 = .ok (.iconst 1, 1) := by decide +kernel
theorem dX5_keep_72 : decode cX5_keep 72 = .ok (.iadd, 1) := by decide +kernel
theorem dX5_keep_73 : decode cX5_keep 73 = .ok (.putfield 16, 3) := by decide +kernel
theorem dX5_keep_76 : decode cX5_keep 76 = .ok (.return_, 1) := by decide +kernel
theorem dX5_keep_33 : decode cX5_keep 33 = .ok (.iload 5, 2) := by decide +kernel
theorem dX5_keep_35 : decode cX5_keep 35 = .ok (.aload_n 1, 1) := by decide +kernel
theorem dX5_keep_36 : decode cX5_keep 36 = .ok (.getfield 31, 3) := by decide +kernel
theorem dX5_keep_39 : decode cX5_keep 39 = .ok (.if_icmp .ge 27, 3) := by decide +kernel
theorem dX5_keep_42 : decode cX5_keep 42 = .ok (.aload_n 0, 1) := by decide +kernel
theorem dX5_keep_43 : decode cX5_keep 43 = .ok (.getfield 11, 3) := by decide +kernel
theorem dX5_keep_46 : decode cX5_keep 46 = .ok (.aload_n 0, 1) := by decide +kernel
theorem dX5_keep_47 : decode cX5_keep 47 = .ok (.getfield 16, 3) := by decide +kernel
theorem dX5_keep_50 : decode cX5_keep 50 = .ok (.aaload, 1) := by decide +kernel
theorem dX5_keep_51 : decode cX5_keep 51 = .ok (.iload 5, 2) := by decide +kernel
theorem dX5_keep_53 : decode cX5_keep 53 = .ok (.aload_n 2, 1) := by decide +kernel
theorem dX5_keep_54 : decode cX5_keep 54 = .ok (.iload 5, 2) := by decide +kernel
theorem dX5_keep_56 : decode cX5_keep 56 = .ok (.invokevirtual 58, 3) := by decide +kernel
theorem dX5_keep_59 : decode cX5_keep 59 = .ok (.iastore, 1) := by decide +kernel
theorem dX5_keep_60 : decode cX5_keep 60 = .ok (.iinc 5 1, 3) := by decide +kernel
theorem dX5_keep_63 : decode cX5_keep 63 = .ok (.goto (-30), 3) := by decide +kernel
theorem dX5_keep_18 : decode cX5_keep 18 = .ok (.aload_n 0, 1) := by decide +kernel
theorem dX5_keep_19 : decode cX5_keep 19 = .ok (.dup, 1) := by decide +kernel
theorem dX5_keep_20 : decode cX5_keep 20 = .ok (.getfield 20, 3) := by decide +kernel
theorem dX5_keep_23 : decode cX5_keep 23 = .ok (.iconst 1, 1) := by decide +kernel
theorem dX5_keep_24 : decode cX5_keep 24 = .ok (.iload_n 3, 1) := by decide +kernel
theorem dX5_keep_25 : decode cX5_keep 25 = .ok (.ishl, 1) := by decide +kernel
theorem dX5_keep_26 : decode cX5_keep 26 = .ok (.ior, 1) := by decide +kernel
theorem dX5_keep_27 : decode cX5_keep 27 = .ok (.putfield 20, 3) := by decide +kernel
theorem dX5_keep_30 : decode cX5_keep 30 = .ok (.iconst 0, 1) := by decide +kernel
theorem dX5_keep_31 : decode cX5_keep 31 = .ok (.istore 5, 2) := by decide +kernel
theorem dX5_keep_0 : decode cX5_keep 0 = .ok (.aload_n 0, 1) := by decide +kernel
theorem dX5_keep_1 : decode cX5_keep 1 = .ok (.getfield 16, 3) := by decide +kernel
theorem dX5_keep_4 : decode cX5_keep 4 = .ok (.ifCond .ne 14, 3) := by decide +kernel
theorem dX5_keep_7 : decode cX5_keep 7 = .ok (.aload_n 0, 1) := by decide +kernel
theorem dX5_keep_8 : decode cX5_keep 8 = .ok (.bipush 10, 2) := by decide +kernel
theorem dX5_keep_10 : decode cX5_keep 10 = .ok (.iload_n 3, 1) := by decide +kernel
theorem dX5_keep_11 : decode cX5_keep 11 = .ok (.imul, 1) := by decide +kernel
theorem dX5_keep_12 : decode cX5_keep 12 = .ok (.iload 4, 2) := by decide +kernel
theorem dX5_keep_14 : decode cX5_keep 14 = .ok (.iadd, 1) := by decide +kernel
theorem dX5_keep_15 : decode cX5_keep 15 = .ok (.putfield 23, 3) := by decide +kernel
def FX5_keep_69_4_48_66   (f : Mm) : Option Mm := some (up f 69 0 (w32 ((f 69 0) + 1)))
set_option maxHeartbeats 4000000 in
set_option maxRecDepth 100000 in
theorem SX5_keep_69_4_48_66 {G : GT} {l : Launch} {Q : Option AV → Mem → Prop}   (f : Mm) (h : OkV Q (FX5_keep_69_4_48_66   f)) : Ev G l MX5_keep (Rm 2 0 0) (ZM G Q 0 0) 0 0 66 [some (vR 69), none, none, none, none, none] [] (SH, RF, f) := by
  unfold FX5_keep_69_4_48_66 at h
  refine ev_aload_n (i := 0) dX5_keep_66 rfl rfl ?_
  refine ev_dupR dX5_keep_67 ?_
  refine ex_getI (x := (f 69 0)) dX5_keep_68 fl_X5_16 sh_69 (by decide) (by decide) rfl ?_
  refine ev_iconst dX5_keep_71 (r32c rfl) ?_
  refine ev_iadd dX5_keep_72 ?_
  refine ev_putI dX5_keep_73 fl_X5_16 sh_69 (by decide) (by decide) ?_
  exact ev_vret rfl dX5_keep_76 h
def FX5_keep_69_4_48_33  : Nat → Int → Mm → Option Mm
  | 0, _, _ => none
  | n + 1, x5, f => (if (f 4 1) ≤ x5 then FX5_keep_69_4_48_66 f else (if 0 ≤ (f 69 0) ∧ (f 69 0) < 24 then (b2 (FX1_widthOn x5 f) fun y2 f2 => (if 0 ≤ x5 ∧ x5 < 6 then FX5_keep_69_4_48_33 n (w32 (x5 + 1)) (up f2 (71 + (f 69 0).toNat) x5.toNat y2) else none)) else none))
set_option maxHeartbeats 4000000 in
set_option maxRecDepth 100000 in
theorem SX5_keep_69_4_48_33 {G : GT} {l : Launch} {Q : Option AV → Mem → Prop}  : ∀ (n : Nat) (x5 : Int) (f : Mm), OkV Q (FX5_keep_69_4_48_33  n x5 f) → Ev G l MX5_keep (Rm 2 0 0) (ZM G Q 0 0) 0 0 33 [some (vR 69), some (vR 4), some (vR 48), none, none, some (vI x5)] [] (SH, RF, f) := by
  intro n
  induction n with
  | zero => intro x5 f h; exact absurd h (by rw [FX5_keep_69_4_48_33]; exact fun q => q)
  | succ n ih =>
    intro x5 f h
    rw [FX5_keep_69_4_48_33] at h
    refine ev_iload dX5_keep_33 rfl ?_
    refine ev_aload_n (i := 1) dX5_keep_35 rfl rfl ?_
    refine ex_getI (x := (f 4 1)) dX5_keep_36 fl_X5_31 sh_4 (by decide) (by decide) rfl ?_
    refine ev_icmp_ge (tgt := 66) dX5_keep_39 (by decide) (fun c4 => ?_) (fun c4 => ?_)
    · rw [if_pos c4] at h
      refine ev_fg [true, false, false, true, true, false] rfl ?_
      exact SX5_keep_69_4_48_66   _ h
    · rw [if_neg c4] at h
      refine ev_aload_n (i := 0) dX5_keep_42 rfl rfl ?_
      refine ev_getR dX5_keep_43 fl_X5_11 sh_69 (by decide) (by decide) rf_69_3 ?_
      refine ev_aload_n (i := 0) dX5_keep_46 rfl rfl ?_
      refine ex_getI (x := (f 69 0)) dX5_keep_47 fl_X5_16 sh_69 (by decide) (by decide) rfl ?_
      by_cases g1 : 0 ≤ (f 69 0) ∧ (f 69 0) < 24
      · rw [if_pos g1] at h
        refine ev_aald (b := (71 + (f 69 0).toNat)) dX5_keep_50 (Or.inl rfl) sh_70 g1.1 g1.2 (rfr_70 g1) ?_
        refine ev_iload dX5_keep_51 rfl ?_
        refine ev_aload_n (i := 2) dX5_keep_53 rfl rfl ?_
        refine ev_iload dX5_keep_54 rfl ?_
        refine ev_cVI (b := 48) (av := [vI x5]) (S := [vI x5, vR (71 + (f 69 0).toNat)]) (fun q => q) h dX5_keep_56 (fun Q' q => TX1_widthOn x5 _ q) kvX1_widthOn ml_X5_58 sh_48 rfl (RRc (by decide) (by decide)) (Nat.le_of_ble_eq_true rfl) ⟨Nat.le_of_ble_eq_true rfl, Nat.le_of_ble_eq_true rfl⟩ (fun y2 f2 h => ?_)
        by_cases g3 : 0 ≤ x5 ∧ x5 < 6
        · rw [if_pos g3] at h
          refine ex_iast (j := x5.toNat) dX5_keep_59 (shr_70 g1) g3.1 g3.2 rfl ?_
          refine ev_iinc (L' := [some (vR 69), some (vR 4), some (vR 48), none, none, some (vI (w32 (x5 + 1)))]) dX5_keep_60 rfl (by decide) rfl ?_
          refine ev_goto (tgt := 33) dX5_keep_63 (by decide) ?_
          exact ih (w32 (x5 + 1)) _ h
        · rw [if_neg g3] at h; exact h.elim
      · rw [if_neg g1] at h; exact h.elim
def FX5_keep_69_4_48_18  (x3 : Int) (f : Mm) : Option Mm := FX5_keep_69_4_48_33 fu 0 (up f 69 1 (bOr (f 69 1) (bShl 1 x3)))
set_option maxHeartbeats 4000000 in
set_option maxRecDepth 100000 in
theorem SX5_keep_69_4_48_18 {G : GT} {l : Launch} {Q : Option AV → Mem → Prop}  (x3 : Int) (f : Mm) (h : OkV Q (FX5_keep_69_4_48_18  x3 f)) : Ev G l MX5_keep (Rm 2 0 0) (ZM G Q 0 0) 0 0 18 [some (vR 69), some (vR 4), some (vR 48), some (vI x3), none, none] [] (SH, RF, f) := by
  unfold FX5_keep_69_4_48_18 at h
  refine ev_aload_n (i := 0) dX5_keep_18 rfl rfl ?_
  refine ev_dupR dX5_keep_19 ?_
  refine ex_getI (x := (f 69 1)) dX5_keep_20 fl_X5_20 sh_69 (by decide) (by decide) rfl ?_
  refine ev_iconst dX5_keep_23 (r32c rfl) ?_
  refine ev_iload_n (i := 3) dX5_keep_24 rfl rfl ?_
  refine ev_ishl dX5_keep_25 ?_
  refine ev_ior dX5_keep_26 ?_
  refine ev_putI dX5_keep_27 fl_X5_20 sh_69 (by decide) (by decide) ?_
  refine ev_iconst dX5_keep_30 (r32c rfl) ?_
  refine ev_istore (L' := [some (vR 69), some (vR 4), some (vR 48), some (vI x3), none, some (vI 0)]) dX5_keep_31 (by decide) rfl ?_
  refine ev_fg [true, true, true, false, true, true] rfl ?_
  exact SX5_keep_69_4_48_33  fu 0 _ h
def FX5_keep_69_4_48_0  (x3 : Int) (x4 : Int) (f : Mm) : Option Mm := (if (f 69 0) = 0 then FX5_keep_69_4_48_18 x3 (up f 69 2 (w32 ((w32 (10 * x3)) + x4))) else FX5_keep_69_4_48_18 x3 f)
set_option maxHeartbeats 4000000 in
set_option maxRecDepth 100000 in
theorem SX5_keep_69_4_48_0 {G : GT} {l : Launch} {Q : Option AV → Mem → Prop}  (x3 : Int) (x4 : Int) (f : Mm) (h : OkV Q (FX5_keep_69_4_48_0  x3 x4 f)) : Ev G l MX5_keep (Rm 2 0 0) (ZM G Q 0 0) 0 0 0 [some (vR 69), some (vR 4), some (vR 48), some (vI x3), some (vI x4), none] [] (SH, RF, f) := by
  unfold FX5_keep_69_4_48_0 at h
  refine ev_aload_n (i := 0) dX5_keep_0 rfl rfl ?_
  refine ex_getI (x := (f 69 0)) dX5_keep_1 fl_X5_16 sh_69 (by decide) (by decide) rfl ?_
  refine ev_if_ne (tgt := 18) dX5_keep_4 (by decide) (fun c1 => ?_) (fun c1 => ?_)
  · rw [if_neg c1] at h
    refine ev_fg [true, true, true, true, false, true] rfl ?_
    exact SX5_keep_69_4_48_18  x3 _ h
  · rw [if_pos c1] at h
    refine ev_aload_n (i := 0) dX5_keep_7 rfl rfl ?_
    refine ev_bipush (v := 10) dX5_keep_8 (r32c rfl) (by decide) ?_
    refine ev_iload_n (i := 3) dX5_keep_10 rfl rfl ?_
    refine ev_imul dX5_keep_11 ?_
    refine ev_iload dX5_keep_12 rfl ?_
    refine ev_iadd dX5_keep_14 ?_
    refine ev_putI dX5_keep_15 fl_X5_23 sh_69 (by decide) (by decide) ?_
    refine ev_fg [true, true, true, true, false, true] rfl ?_
    exact SX5_keep_69_4_48_18  x3 _ h
def FX5_keep_69_4_48 (x3 : Int) (x4 : Int) (f : Mm) : Option Mm := FX5_keep_69_4_48_0 x3 x4 f
set_option maxRecDepth 100000 in
theorem TX5_keep_69_4_48 {G : GT} {l : Launch} {Q : Option AV → Mem → Prop} (x3 : Int) (x4 : Int) (f : Mm) (h : OkV Q (FX5_keep_69_4_48 x3 x4 f)) : Ret G l MX5_keep (2) 0 0 [vR 69, vR 4, vR 48, vI x3, vI x4] (SH, RF, f) Q := by
  refine ret_of (L := [some (vR 69), some (vR 4), some (vR 48), some (vI x3), some (vI x4), none]) (by decide) rfl (Nat.le_of_ble_eq_true rfl) ?_
  exact SX5_keep_69_4_48_0 x3 x4 f h
theorem dX5_search_90 : decode cX5_search 90 = .ok (.iinc 5 1, 3) := by decide +kernel
theorem dX5_search_93 : decode cX5_search 93 = .ok (.goto (-75), 3) := by decide +kernel
theorem dX5_search_84 : decode cX5_search 84 = .ok (.iinc 6 1, 3) := by decide +kernel
theorem dX5_search_87 : decode cX5_search 87 = .ok (.goto (-57), 3) := by decide +kernel
theorem dX5_search_30 : decode cX5_search 30 = .ok (.iload 6, 2) := by decide +kernel
theorem dX5_search_32 : decode cX5_search 32 = .ok (.aload_n 1, 1) := by decide +kernel
theorem dX5_search_33 : decode cX5_search 33 = .ok (.getfield 31, 3) := by decide +kernel
theorem dX5_search_36 : decode cX5_search 36 = .ok (.if_icmp .ge 54, 3) := by decide +kernel
theorem dX5_search_39 : decode cX5_search 39 = .ok (.aload_n 2, 1) := by decide +kernel
theorem dX5_search_40 : decode cX5_search 40 = .ok (.aload_n 1, 1) := by decide +kernel
theorem dX5_search_41 : decode cX5_search 41 = .ok (.invokevirtual 34, 3) := by decide +kernel
theorem dX5_search_44 : decode cX5_search 44 = .ok (.aload_n 2, 1) := by decide +kernel
theorem dX5_search_45 : decode cX5_search 45 = .ok (.getfield 40, 3) := by decide +kernel
theorem dX5_search_48 : decode cX5_search 48 = .ok (.iload 6, 2) := by decide +kernel
theorem dX5_search_50 : decode cX5_search 50 = .ok (.iload 5, 2) := by decide +kernel
theorem dX5_search_52 : decode cX5_search 52 = .ok (.iastore, 1) := by decide +kernel
theorem dX5_search_53 : decode cX5_search 53 = .ok (.aload_n 2, 1) := by decide +kernel
theorem dX5_search_54 : decode cX5_search 54 = .ok (.aload_n 1, 1) := by decide +kernel
theorem dX5_search_55 : decode cX5_search 55 = .ok (.aload_n 1, 1) := by decide +kernel
theorem dX5_search_56 : decode cX5_search 56 = .ok (.getfield 31, 3) := by decide +kernel
theorem dX5_search_59 : decode cX5_search 59 = .ok (.iconst 1, 1) := by decide +kernel
theorem dX5_search_60 : decode cX5_search 60 = .ok (.isub, 1) := by decide +kernel
theorem dX5_search_61 : decode cX5_search 61 = .ok (.invokevirtual 44, 3) := by decide +kernel
theorem dX5_search_64 : decode cX5_search 64 = .ok (.aload_n 3, 1) := by decide +kernel
theorem dX5_search_65 : decode cX5_search 65 = .ok (.iload 4, 2) := by decide +kernel
theorem dX5_search_67 : decode cX5_search 67 = .ok (.aload_n 2, 1) := by decide +kernel
theorem dX5_search_68 : decode cX5_search 68 = .ok (.invokevirtual 48, 3) := by decide +kernel
theorem dX5_search_71 : decode cX5_search 71 = .ok (.ifCond .eq 13, 3) := by decide +kernel
theorem dX5_search_74 : decode cX5_search 74 = .ok (.aload_n 0, 1) := by decide +kernel
theorem dX5_search_75 : decode cX5_search 75 = .ok (.aload_n 1, 1) := by decide +kernel
theorem dX5_search_76 : decode cX5_search 76 = .ok (.aload_n 2, 1) := by decide +kernel
theorem dX5_search_77 : decode cX5_search 77 = .ok (.iload 5, 2) := by decide +kernel
theorem dX5_search_79 : decode cX5_search 79 = .ok (.iload 6, 2) := by decide +kernel
theorem dX5_search_81 : decode cX5_search 81 = .ok (.invokevirtual 54, 3) := by decide +kernel
theorem dX5_search_18 : decode cX5_search 18 = .ok (.iload 5, 2) := by decide +kernel
theorem dX5_search_20 : decode cX5_search 20 = .ok (.aload_n 1, 1) := by decide +kernel
theorem dX5_search_21 : decode cX5_search 21 = .ok (.getfield 26, 3) := by decide +kernel
theorem dX5_search_24 : decode cX5_search 24 = .ok (.if_icmp .ge 72, 3) := by decide +kernel
theorem dX5_search_96 : decode cX5_search 96 = .ok (.return_, 1) := by decide +kernel
theorem dX5_search_27 : decode cX5_search 27 = .ok (.iconst 0, 1) := by decide +kernel
theorem dX5_search_28 : decode cX5_search 28 = .ok (.istore 6, 2) := by decide +kernel
theorem dX5_search_0 : decode cX5_search 0 = .ok (.aload_n 0, 1) := by decide +kernel
theorem dX5_search_1 : decode cX5_search 1 = .ok (.iconst 0, 1) := by decide +kernel
theorem dX5_search_2 : decode cX5_search 2 = .ok (.putfield 16, 3) := by decide +kernel
theorem dX5_search_5 : decode cX5_search 5 = .ok (.aload_n 0, 1) := by decide +kernel
theorem dX5_search_6 : decode cX5_search 6 = .ok (.iconst 0, 1) := by decide +kernel
theorem dX5_search_7 : decode cX5_search 7 = .ok (.putfield 20, 3) := by decide +kernel
theorem dX5_search_10 : decode cX5_search 10 = .ok (.aload_n 0, 1) := by decide +kernel
theorem dX5_search_11 : decode cX5_search 11 = .ok (.iconst (-1), 1) := by decide +kernel
theorem dX5_search_12 : decode cX5_search 12 = .ok (.putfield 23, 3) := by decide +kernel
theorem dX5_search_15 : decode cX5_search 15 = .ok (.iconst 0, 1) := by decide +kernel
theorem dX5_search_16 : decode cX5_search 16 = .ok (.istore 5, 2) := by decide +kernel
def FX5_search_69_4_48_40_90 (k18 : Int → Int → Mm → Option Mm) (x4 : Int) (x5 : Int) (f : Mm) : Option Mm := k18 x4 (w32 (x5 + 1)) f
set_option maxHeartbeats 4000000 in
set_option maxRecDepth 100000 in
theorem SX5_search_69_4_48_40_90 {G : GT} {l : Launch} {Q : Option AV → Mem → Prop} {k18 : Int → Int → Mm → Option Mm} (q18 : ∀ (x4 : Int) (x5 : Int) (f : Mm), OkV Q (k18 x4 x5 f) → Ev G l MX5_search (Rm 5 0 0) (ZM G Q 0 0) 0 0 18 [some (vR 69), some (vR 4), some (vR 48), some (vR 40), some (vI x4), some (vI x5), none] [] (SH, RF, f)) (x4 : Int) (x5 : Int) (f : Mm) (h : OkV Q (FX5_search_69_4_48_40_90 k18 x4 x5 f)) : Ev G l MX5_search (Rm 5 0 0) (ZM G Q 0 0) 0 0 90 [some (vR 69), some (vR 4), some (vR 48), some (vR 40), some (vI x4), some (vI x5), none] [] (SH, RF, f) := by
  unfold FX5_search_69_4_48_40_90 at h
  refine ev_iinc (L' := [some (vR 69), some (vR 4), some (vR 48), some (vR 40), some (vI x4), some (vI (w32 (x5 + 1))), none]) dX5_search_90 rfl (by decide) rfl ?_
  refine ev_goto (tgt := 18) dX5_search_93 (by decide) ?_
  exact q18 x4 (w32 (x5 + 1)) _ h
def FX5_search_69_4_48_40_84 (k18 : Int → Int → Mm → Option Mm) (k30 : Int → Int → Int → Mm → Option Mm) (x4 : Int) (x5 : Int) (x6 : Int) (f : Mm) : Option Mm := k30 x4 x5 (w32 (x6 + 1)) f
set_option maxHeartbeats 4000000 in
set_option maxRecDepth 100000 in
theorem SX5_search_69_4_48_40_84 {G : GT} {l : Launch} {Q : Option AV → Mem → Prop} {k18 : Int → Int → Mm → Option Mm} {k30 : Int → Int → Int → Mm → Option Mm} (q18 : ∀ (x4 : Int) (x5 : Int) (f : Mm), OkV Q (k18 x4 x5 f) → Ev G l MX5_search (Rm 5 0 0) (ZM G Q 0 0) 0 0 18 [some (vR 69), some (vR 4), some (vR 48), some (vR 40), some (vI x4), some (vI x5), none] [] (SH, RF, f)) (q30 : ∀ (x4 : Int) (x5 : Int) (x6 : Int) (f : Mm), OkV Q (k30 x4 x5 x6 f) → Ev G l MX5_search (Rm 5 0 0) (ZM G Q 0 0) 0 0 30 [some (vR 69), some (vR 4), some (vR 48), some (vR 40), some (vI x4), some (vI x5), some (vI x6)] [] (SH, RF, f)) (x4 : Int) (x5 : Int) (x6 : Int) (f : Mm) (h : OkV Q (FX5_search_69_4_48_40_84 k18 k30 x4 x5 x6 f)) : Ev G l MX5_search (Rm 5 0 0) (ZM G Q 0 0) 0 0 84 [some (vR 69), some (vR 4), some (vR 48), some (vR 40), some (vI x4), some (vI x5), some (vI x6)] [] (SH, RF, f) := by
  unfold FX5_search_69_4_48_40_84 at h
  refine ev_iinc (L' := [some (vR 69), some (vR 4), some (vR 48), some (vR 40), some (vI x4), some (vI x5), some (vI (w32 (x6 + 1)))]) dX5_search_84 rfl (by decide) rfl ?_
  refine ev_goto (tgt := 30) dX5_search_87 (by decide) ?_
  exact q30 x4 x5 (w32 (x6 + 1)) _ h
def FX5_search_69_4_48_40_30 (k18 : Int → Int → Mm → Option Mm) : Nat → Int → Int → Int → Mm → Option Mm
  | 0, _, _, _, _ => none
  | n + 1, x4, x5, x6, f => (if (f 4 1) ≤ x6 then FX5_search_69_4_48_40_90 k18 x4 x5 f else ((FX1_asDone_48_4 f).bind fun f1 => (if 0 ≤ x6 ∧ x6 < 6 then ((FX1_feelThrough_48_4 (w32 ((f1 4 1) - 1)) (up f1 49 x6.toNat x5)).bind fun f3 => (b2 (FX6_tells_40_48 x4 f3) fun y4 f4 => (if y4 = 0 then FX5_search_69_4_48_40_84 k18 (FX5_search_69_4_48_40_30 k18 n) x4 x5 x6 f4 else ((FX5_keep_69_4_48 x5 x6 f4).bind fun f5 => FX5_search_69_4_48_40_84 k18 (FX5_search_69_4_48_40_30 k18 n) x4 x5 x6 f5)))) else none)))
set_option maxHeartbeats 4000000 in
set_option maxRecDepth 100000 in
theorem SX5_search_69_4_48_40_30 {G : GT} {l : Launch} {Q : Option AV → Mem → Prop} {k18 : Int → Int → Mm → Option Mm} (q18 : ∀ (x4 : Int) (x5 : Int) (f : Mm), OkV Q (k18 x4 x5 f) → Ev G l MX5_search (Rm 5 0 0) (ZM G Q 0 0) 0 0 18 [some (vR 69), some (vR 4), some (vR 48), some (vR 40), some (vI x4), some (vI x5), none] [] (SH, RF, f)) : ∀ (n : Nat) (x4 : Int) (x5 : Int) (x6 : Int) (f : Mm), OkV Q (FX5_search_69_4_48_40_30 k18 n x4 x5 x6 f) → Ev G l MX5_search (Rm 5 0 0) (ZM G Q 0 0) 0 0 30 [some (vR 69), some (vR 4), some (vR 48), some (vR 40), some (vI x4), some (vI x5), some (vI x6)] [] (SH, RF, f) := by
  intro n
  induction n with
  | zero => intro x4 x5 x6 f h; exact absurd h (by rw [FX5_search_69_4_48_40_30]; exact fun q => q)
  | succ n ih =>
    intro x4 x5 x6 f h
    rw [FX5_search_69_4_48_40_30] at h
    refine ev_iload dX5_search_30 rfl ?_
    refine ev_aload_n (i := 1) dX5_search_32 rfl rfl ?_
    refine ex_getI (x := (f 4 1)) dX5_search_33 fl_X5_31 sh_4 (by decide) (by decide) rfl ?_
    refine ev_icmp_ge (tgt := 90) dX5_search_36 (by decide) (fun c7 => ?_) (fun c7 => ?_)
    · rw [if_pos c7] at h
      refine ev_fg [true, true, true, true, true, true, false] rfl ?_
      exact SX5_search_69_4_48_40_90 q18 x4 x5 _ h
    · rw [if_neg c7] at h
      refine ev_aload_n (i := 2) dX5_search_39 rfl rfl ?_
      refine ev_aload_n (i := 1) dX5_search_40 rfl rfl ?_
      refine ev_cVV (b := 48) (av := [vR 4]) (S := []) (fun q => q) h dX5_search_41 (fun Q' q => TX1_asDone_48_4 _ q) kvX1_asDone ml_X5_34 sh_48 rfl (RRc (by decide) (by decide)) (Nat.le_of_ble_eq_true rfl) ⟨Nat.le_of_ble_eq_true rfl, Nat.le_of_ble_eq_true rfl⟩ (fun f1 h => ?_)
      refine ev_aload_n (i := 2) dX5_search_44 rfl rfl ?_
      refine ev_getR dX5_search_45 fl_X5_40 sh_48 (by decide) (by decide) rf_48_0 ?_
      refine ev_iload dX5_search_48 rfl ?_
      refine ev_iload dX5_search_50 rfl ?_
      by_cases g2 : 0 ≤ x6 ∧ x6 < 6
      · rw [if_pos g2] at h
        refine ex_iast (j := x6.toNat) dX5_search_52 sh_49 g2.1 g2.2 rfl ?_
        refine ev_aload_n (i := 2) dX5_search_53 rfl rfl ?_
        refine ev_aload_n (i := 1) dX5_search_54 rfl rfl ?_
        refine ev_aload_n (i := 1) dX5_search_55 rfl rfl ?_
        refine ex_getI (x := (f1 4 1)) dX5_search_56 fl_X5_31 sh_4 (by decide) (by decide) rfl ?_
        refine ev_iconst dX5_search_59 (r32c rfl) ?_
        refine ev_isub dX5_search_60 ?_
        refine ev_cVV (b := 48) (av := [vR 4, vI (w32 ((f1 4 1) - 1))]) (S := []) (fun q => q) h dX5_search_61 (fun Q' q => TX1_feelThrough_48_4 (w32 ((f1 4 1) - 1)) _ q) kvX1_feelThrough ml_X5_44 sh_48 rfl (RRc (by decide) (by decide)) (Nat.le_of_ble_eq_true rfl) ⟨Nat.le_of_ble_eq_true rfl, Nat.le_of_ble_eq_true rfl⟩ (fun f3 h => ?_)
        refine ev_aload_n (i := 3) dX5_search_64 rfl rfl ?_
        refine ev_iload dX5_search_65 rfl ?_
        refine ev_aload_n (i := 2) dX5_search_67 rfl rfl ?_
        refine ev_cVI (b := 40) (av := [vI x4, vR 48]) (S := []) (fun q => q) h dX5_search_68 (fun Q' q => TX6_tells_40_48 x4 _ q) kvX6_tells ml_X5_48 sh_40 rfl (RRc (by decide) (by decide)) (Nat.le_of_ble_eq_true rfl) ⟨Nat.le_of_ble_eq_true rfl, Nat.le_of_ble_eq_true rfl⟩ (fun y4 f4 h => ?_)
        refine ev_if_eq (tgt := 84) dX5_search_71 (by decide) (fun c6 => ?_) (fun c6 => ?_)
        · rw [if_pos c6] at h
          exact SX5_search_69_4_48_40_84 q18 ih x4 x5 x6 _ h
        · rw [if_neg c6] at h
          refine ev_aload_n (i := 0) dX5_search_74 rfl rfl ?_
          refine ev_aload_n (i := 1) dX5_search_75 rfl rfl ?_
          refine ev_aload_n (i := 2) dX5_search_76 rfl rfl ?_
          refine ev_iload dX5_search_77 rfl ?_
          refine ev_iload dX5_search_79 rfl ?_
          refine ev_cVV (b := 69) (av := [vR 4, vR 48, vI x5, vI x6]) (S := []) (fun q => q) h dX5_search_81 (fun Q' q => TX5_keep_69_4_48 x5 x6 _ q) kvX5_keep ml_X5_54 sh_69 rfl (RRc (by decide) (by decide)) (Nat.le_of_ble_eq_true rfl) ⟨Nat.le_of_ble_eq_true rfl, Nat.le_of_ble_eq_true rfl⟩ (fun f5 h => ?_)
          exact SX5_search_69_4_48_40_84 q18 ih x4 x5 x6 _ h
      · rw [if_neg g2] at h; exact h.elim
def FX5_search_69_4_48_40_18  : Nat → Int → Int → Mm → Option Mm
  | 0, _, _, _ => none
  | n + 1, x4, x5, f => (if (f 4 4) ≤ x5 then some f else FX5_search_69_4_48_40_30 (FX5_search_69_4_48_40_18 n) fu x4 x5 0 f)
set_option maxHeartbeats 4000000 in
set_option maxRecDepth 100000 in
theorem SX5_search_69_4_48_40_18 {G : GT} {l : Launch} {Q : Option AV → Mem → Prop}  : ∀ (n : Nat) (x4 : Int) (x5 : Int) (f : Mm), OkV Q (FX5_search_69_4_48_40_18  n x4 x5 f) → Ev G l MX5_search (Rm 5 0 0) (ZM G Q 0 0) 0 0 18 [some (vR 69), some (vR 4), some (vR 48), some (vR 40), some (vI x4), some (vI x5), none] [] (SH, RF, f) := by
  intro n
  induction n with
  | zero => intro x4 x5 f h; exact absurd h (by rw [FX5_search_69_4_48_40_18]; exact fun q => q)
  | succ n ih =>
    intro x4 x5 f h
    rw [FX5_search_69_4_48_40_18] at h
    refine ev_iload dX5_search_18 rfl ?_
    refine ev_aload_n (i := 1) dX5_search_20 rfl rfl ?_
    refine ex_getI (x := (f 4 4)) dX5_search_21 fl_X5_26 sh_4 (by decide) (by decide) rfl ?_
    refine ev_icmp_ge (tgt := 96) dX5_search_24 (by decide) (fun c1 => ?_) (fun c1 => ?_)
    · rw [if_pos c1] at h
      exact ev_vret rfl dX5_search_96 h
    · rw [if_neg c1] at h
      refine ev_iconst dX5_search_27 (r32c rfl) ?_
      refine ev_istore (L' := [some (vR 69), some (vR 4), some (vR 48), some (vR 40), some (vI x4), some (vI x5), some (vI 0)]) dX5_search_28 (by decide) rfl ?_
      exact SX5_search_69_4_48_40_30 ih fu x4 x5 0 _ h
def FX5_search_69_4_48_40_0  (x4 : Int) (f : Mm) : Option Mm := FX5_search_69_4_48_40_18 fu x4 0 (up (up (up f 69 0 0) 69 1 0) 69 2 (-1))
set_option maxHeartbeats 4000000 in
set_option maxRecDepth 100000 in
theorem SX5_search_69_4_48_40_0 {G : GT} {l : Launch} {Q : Option AV → Mem → Prop}  (x4 : Int) (f : Mm) (h : OkV Q (FX5_search_69_4_48_40_0  x4 f)) : Ev G l MX5_search (Rm 5 0 0) (ZM G Q 0 0) 0 0 0 [some (vR 69), some (vR 4), some (vR 48), some (vR 40), some (vI x4), none, none] [] (SH, RF, f) := by
  unfold FX5_search_69_4_48_40_0 at h
  refine ev_aload_n (i := 0) dX5_search_0 rfl rfl ?_
  refine ev_iconst dX5_search_1 (r32c rfl) ?_
  refine ev_putI dX5_search_2 fl_X5_16 sh_69 (by decide) (by decide) ?_
  refine ev_aload_n (i := 0) dX5_search_5 rfl rfl ?_
  refine ev_iconst dX5_search_6 (r32c rfl) ?_
  refine ev_putI dX5_search_7 fl_X5_20 sh_69 (by decide) (by decide) ?_
  refine ev_aload_n (i := 0) dX5_search_10 rfl rfl ?_
  refine ev_iconst dX5_search_11 (r32c rfl) ?_
  refine ev_putI dX5_search_12 fl_X5_23 sh_69 (by decide) (by decide) ?_
  refine ev_iconst dX5_search_15 (r32c rfl) ?_
  refine ev_istore (L' := [some (vR 69), some (vR 4), some (vR 48), some (vR 40), some (vI x4), some (vI 0), none]) dX5_search_16 (by decide) rfl ?_
  exact SX5_search_69_4_48_40_18  fu x4 0 _ h
def FX5_search_69_4_48_40 (x4 : Int) (f : Mm) : Option Mm := FX5_search_69_4_48_40_0 x4 f
set_option maxRecDepth 100000 in
theorem TX5_search_69_4_48_40 {G : GT} {l : Launch} {Q : Option AV → Mem → Prop} (x4 : Int) (f : Mm) (h : OkV Q (FX5_search_69_4_48_40 x4 f)) : Ret G l MX5_search (5) 0 0 [vR 69, vR 4, vR 48, vR 40, vI x4] (SH, RF, f) Q := by
  refine ret_of (L := [some (vR 69), some (vR 4), some (vR 48), some (vR 40), some (vI x4), none, none]) (by decide) rfl (Nat.le_of_ble_eq_true rfl) ?_
  exact SX5_search_69_4_48_40_0 x4 f h
theorem dX10_suspected_0 : decode cX10_suspected 0 = .ok (.aload_n 0, 1) := by decide +kernel
theorem dX10_suspected_1 : decode cX10_suspected 1 = .ok (.getfield 65, 3) := by decide +kernel
theorem dX10_suspected_4 : decode cX10_suspected 4 = .ok (.aload_n 0, 1) := by decide +kernel
theorem dX10_suspected_5 : decode cX10_suspected 5 = .ok (.getfield 19, 3) := by decide +kernel
theorem dX10_suspected_8 : decode cX10_suspected 8 = .ok (.aload_n 0, 1) := by decide +kernel
theorem dX10_suspected_9 : decode cX10_suspected 9 = .ok (.getfield 44, 3) := by decide +kernel
theorem dX10_suspected_12 : decode cX10_suspected 12 = .ok (.aload_n 0, 1) := by decide +kernel
theorem dX10_suspected_13 : decode cX10_suspected 13 = .ok (.getfield 37, 3) := by decide +kernel
theorem dX10_suspected_16 : decode cX10_suspected 16 = .ok (.iload_n 1, 1) := by decide +kernel
theorem dX10_suspected_17 : decode cX10_suspected 17 = .ok (.invokevirtual 430, 3) := by decide +kernel
theorem dX10_suspected_20 : decode cX10_suspected 20 = .ok (.aload_n 0, 1) := by decide +kernel
theorem dX10_suspected_21 : decode cX10_suspected 21 = .ok (.getfield 65, 3) := by decide +kernel
theorem dX10_suspected_24 : decode cX10_suspected 24 = .ok (.areturn, 1) := by decide +kernel
def FX10_suspected_0  (x1 : Int) (f : Mm) : Option Mm := ((FX5_search_69_4_48_40 x1 f).bind fun f1 => some f1)
set_option maxHeartbeats 4000000 in
set_option maxRecDepth 100000 in
theorem SX10_suspected_0 {G : GT} {l : Launch} {Q : Option AV → Mem → Prop}  (x1 : Int) (f : Mm) (h : OkC 69 Q (FX10_suspected_0  x1 f)) : Ev G l MX10_suspected (Rm 6 0 0) (ZM G Q 0 0) 0 0 0 [some (vR 0), some (vI x1)] [] (SH, RF, f) := by
  unfold FX10_suspected_0 at h
  refine ev_aload_n (i := 0) dX10_suspected_0 rfl rfl ?_
  refine ev_getR dX10_suspected_1 fl_X10_65 sh_0 (by decide) (by decide) rf_0_9 ?_
  refine ev_aload_n (i := 0) dX10_suspected_4 rfl rfl ?_
  refine ev_getR dX10_suspected_5 fl_X10_19 sh_0 (by decide) (by decide) rf_0_1 ?_
  refine ev_aload_n (i := 0) dX10_suspected_8 rfl rfl ?_
  refine ev_getR dX10_suspected_9 fl_X10_44 sh_0 (by decide) (by decide) rf_0_6 ?_
  refine ev_aload_n (i := 0) dX10_suspected_12 rfl rfl ?_
  refine ev_getR dX10_suspected_13 fl_X10_37 sh_0 (by decide) (by decide) rf_0_5 ?_
  refine ev_iload_n (i := 1) dX10_suspected_16 rfl rfl ?_
  refine ev_cVV (b := 69) (av := [vR 4, vR 48, vR 40, vI x1]) (S := []) (fun q => q) h dX10_suspected_17 (fun Q' q => TX5_search_69_4_48_40 x1 _ q) kvX5_search ml_X10_430 sh_69 rfl (RRc (by decide) (by decide)) (Nat.le_of_ble_eq_true rfl) ⟨Nat.le_of_ble_eq_true rfl, Nat.le_of_ble_eq_true rfl⟩ (fun f1 h => ?_)
  refine ev_aload_n (i := 0) dX10_suspected_20 rfl rfl ?_
  refine ev_getR dX10_suspected_21 fl_X10_65 sh_0 (by decide) (by decide) rf_0_9 ?_
  exact ev_aret rfl dX10_suspected_24 h
def FX10_suspected (x1 : Int) (f : Mm) : Option Mm := FX10_suspected_0 x1 f
set_option maxRecDepth 100000 in
theorem TX10_suspected {G : GT} {l : Launch} {Q : Option AV → Mem → Prop} (x1 : Int) (f : Mm) (h : OkC 69 Q (FX10_suspected x1 f)) : Ret G l MX10_suspected (6) 0 0 [vR 0, vI x1] (SH, RF, f) Q := by
  refine ret_of (L := [some (vR 0), some (vI x1)]) (by decide) rfl (Nat.le_of_ble_eq_true rfl) ?_
  exact SX10_suspected_0 x1 f h
theorem dX10_fits_0 : decode cX10_fits 0 = .ok (.aload_n 0, 1) := by decide +kernel
theorem dX10_fits_1 : decode cX10_fits 1 = .ok (.iload_n 1, 1) := by decide +kernel
theorem dX10_fits_2 : decode cX10_fits 2 = .ok (.invokevirtual 285, 3) := by decide +kernel
theorem dX10_fits_5 : decode cX10_fits 5 = .ok (.istore_n 2, 1) := by decide +kernel
theorem dX10_fits_6 : decode cX10_fits 6 = .ok (.iload_n 2, 1) := by decide +kernel
theorem dX10_fits_7 : decode cX10_fits 7 = .ok (.ifCond .eq 7, 3) := by decide +kernel
theorem dX10_fits_14 : decode cX10_fits 14 = .ok (.aload_n 0, 1) := by decide +kernel
theorem dX10_fits_15 : decode cX10_fits 15 = .ok (.iload_n 1, 1) := by decide +kernel
theorem dX10_fits_16 : decode cX10_fits 16 = .ok (.invokevirtual 288, 3) := by decide +kernel
theorem dX10_fits_19 : decode cX10_fits 19 = .ok (.getfield 292, 3) := by decide +kernel
theorem dX10_fits_22 : decode cX10_fits 22 = .ok (.ireturn, 1) := by decide +kernel
theorem dX10_fits_10 : decode cX10_fits 10 = .ok (.iload_n 2, 1) := by decide +kernel
theorem dX10_fits_11 : decode cX10_fits 11 = .ok (.goto 11, 3) := by decide +kernel
def FX10_fits_0  (x1 : Int) (f : Mm) : Option (Int × Mm) := (b2 (FX10_widthsWrong x1 f) fun y1 f1 => (if y1 = 0 then ((FX10_suspected x1 f1).bind fun f2 => some ((f2 69 0), f2)) else some (y1, f1)))
set_option maxHeartbeats 4000000 in
set_option maxRecDepth 100000 in
theorem SX10_fits_0 {G : GT} {l : Launch} {Q : Option AV → Mem → Prop}  (x1 : Int) (f : Mm) (h : OkI Q (FX10_fits_0  x1 f)) : Ev G l MX10_fits (Rm 7 0 0) (ZM G Q 0 0) 0 0 0 [some (vR 0), some (vI x1), none] [] (SH, RF, f) := by
  unfold FX10_fits_0 at h
  refine ev_aload_n (i := 0) dX10_fits_0 rfl rfl ?_
  refine ev_iload_n (i := 1) dX10_fits_1 rfl rfl ?_
  refine ev_cVI (b := 0) (av := [vI x1]) (S := []) (fun q => q) h dX10_fits_2 (fun Q' q => TX10_widthsWrong x1 _ q) kvX10_widthsWrong ml_X10_285 sh_0 rfl (RRc (by decide) (by decide)) (Nat.le_of_ble_eq_true rfl) ⟨Nat.le_of_ble_eq_true rfl, Nat.le_of_ble_eq_true rfl⟩ (fun y1 f1 h => ?_)
  refine ev_istore_n (i := 2) (L' := [some (vR 0), some (vI x1), some (vI y1)]) dX10_fits_5 rfl (by decide) rfl ?_
  refine ev_iload_n (i := 2) dX10_fits_6 rfl rfl ?_
  refine ev_if_eq (tgt := 14) dX10_fits_7 (by decide) (fun c3 => ?_) (fun c3 => ?_)
  · rw [if_pos c3] at h
    refine ev_aload_n (i := 0) dX10_fits_14 rfl rfl ?_
    refine ev_iload_n (i := 1) dX10_fits_15 rfl rfl ?_
    refine ev_cVC (b := 0) (av := [vI x1]) (S := []) (fun q => q) h dX10_fits_16 (fun Q' q => TX10_suspected x1 _ q) kvX10_suspected ml_X10_288 sh_0 rfl (RRc (by decide) (by decide)) (Nat.le_of_ble_eq_true rfl) ⟨Nat.le_of_ble_eq_true rfl, Nat.le_of_ble_eq_true rfl⟩ (fun f2 h => ?_)
    refine ex_getI (x := (f2 69 0)) dX10_fits_19 fl_X10_292 sh_69 (by decide) (by decide) rfl ?_
    exact ev_iret rfl dX10_fits_22 h
  · rw [if_neg c3] at h
    refine ev_iload_n (i := 2) dX10_fits_10 rfl rfl ?_
    refine ev_goto (tgt := 22) dX10_fits_11 (by decide) ?_
    exact ev_iret rfl dX10_fits_22 h
def FX10_fits (x1 : Int) (f : Mm) : Option (Int × Mm) := FX10_fits_0 x1 f
set_option maxRecDepth 100000 in
theorem TX10_fits {G : GT} {l : Launch} {Q : Option AV → Mem → Prop} (x1 : Int) (f : Mm) (h : OkI Q (FX10_fits x1 f)) : Ret G l MX10_fits (7) 0 0 [vR 0, vI x1] (SH, RF, f) Q := by
  refine ret_of (L := [some (vR 0), some (vI x1), none]) (by decide) rfl (Nat.le_of_ble_eq_true rfl) ?_
  exact SX10_fits_0 x1 f h
theorem dX10_slights_0 : decode cX10_slights 0 = .ok (.aload_n 0, 1) := by decide +kernel
theorem dX10_slights_1 : decode cX10_slights 1 = .ok (.iload_n 1, 1) := by decide +kernel
theorem dX10_slights_2 : decode cX10_slights 2 = .ok (.invokevirtual 285, 3) := by decide +kernel
theorem dX10_slights_5 : decode cX10_slights 5 = .ok (.istore_n 2, 1) := by decide +kernel
theorem dX10_slights_6 : decode cX10_slights 6 = .ok (.iload_n 2, 1) := by decide +kernel
theorem dX10_slights_7 : decode cX10_slights 7 = .ok (.ifCond .eq 7, 3) := by decide +kernel
theorem dX10_slights_14 : decode cX10_slights 14 = .ok (.aload_n 0, 1) := by decide +kernel
theorem dX10_slights_15 : decode cX10_slights 15 = .ok (.iload_n 1, 1) := by decide +kernel
theorem dX10_slights_16 : decode cX10_slights 16 = .ok (.invokevirtual 288, 3) := by decide +kernel
theorem dX10_slights_19 : decode cX10_slights 19 = .ok (.getfield 295, 3) := by decide +kernel
theorem dX10_slights_22 : decode cX10_slights 22 = .ok (.ireturn, 1) := by decide +kernel
theorem dX10_slights_10 : decode cX10_slights 10 = .ok (.iload_n 2, 1) := by decide +kernel
theorem dX10_slights_11 : decode cX10_slights 11 = .ok (.goto 11, 3) := by decide +kernel
def FX10_slights_0  (x1 : Int) (f : Mm) : Option (Int × Mm) := (b2 (FX10_widthsWrong x1 f) fun y1 f1 => (if y1 = 0 then ((FX10_suspected x1 f1).bind fun f2 => some ((f2 69 1), f2)) else some (y1, f1)))
set_option maxHeartbeats 4000000 in
set_option maxRecDepth 100000 in
theorem SX10_slights_0 {G : GT} {l : Launch} {Q : Option AV → Mem → Prop}  (x1 : Int) (f : Mm) (h : OkI Q (FX10_slights_0  x1 f)) : Ev G l MX10_slights (Rm 7 0 0) (ZM G Q 0 0) 0 0 0 [some (vR 0), some (vI x1), none] [] (SH, RF, f) := by
  unfold FX10_slights_0 at h
  refine ev_aload_n (i := 0) dX10_slights_0 rfl rfl ?_
  refine ev_iload_n (i := 1) dX10_slights_1 rfl rfl ?_
  refine ev_cVI (b := 0) (av := [vI x1]) (S := []) (fun q => q) h dX10_slights_2 (fun Q' q => TX10_widthsWrong x1 _ q) kvX10_widthsWrong ml_X10_285 sh_0 rfl (RRc (by decide) (by decide)) (Nat.le_of_ble_eq_true rfl) ⟨Nat.le_of_ble_eq_true rfl, Nat.le_of_ble_eq_true rfl⟩ (fun y1 f1 h => ?_)
  refine ev_istore_n (i := 2) (L' := [some (vR 0), some (vI x1), some (vI y1)]) dX10_slights_5 rfl (by decide) rfl ?_
  refine ev_iload_n (i := 2) dX10_slights_6 rfl rfl ?_
  refine ev_if_eq (tgt := 14) dX10_slights_7 (by decide) (fun c3 => ?_) (fun c3 => ?_)
  · rw [if_pos c3] at h
    refine ev_aload_n (i := 0) dX10_slights_14 rfl rfl ?_
    refine ev_iload_n (i := 1) dX10_slights_15 rfl rfl ?_
    refine ev_cVC (b := 0) (av := [vI x1]) (S := []) (fun q => q) h dX10_slights_16 (fun Q' q => TX10_suspected x1 _ q) kvX10_suspected ml_X10_288 sh_0 rfl (RRc (by decide) (by decide)) (Nat.le_of_ble_eq_true rfl) ⟨Nat.le_of_ble_eq_true rfl, Nat.le_of_ble_eq_true rfl⟩ (fun f2 h => ?_)
    refine ex_getI (x := (f2 69 1)) dX10_slights_19 fl_X10_295 sh_69 (by decide) (by decide) rfl ?_
    exact ev_iret rfl dX10_slights_22 h
  · rw [if_neg c3] at h
    refine ev_iload_n (i := 2) dX10_slights_10 rfl rfl ?_
    refine ev_goto (tgt := 22) dX10_slights_11 (by decide) ?_
    exact ev_iret rfl dX10_slights_22 h
def FX10_slights (x1 : Int) (f : Mm) : Option (Int × Mm) := FX10_slights_0 x1 f
set_option maxRecDepth 100000 in
theorem TX10_slights {G : GT} {l : Launch} {Q : Option AV → Mem → Prop} (x1 : Int) (f : Mm) (h : OkI Q (FX10_slights x1 f)) : Ret G l MX10_slights (7) 0 0 [vR 0, vI x1] (SH, RF, f) Q := by
  refine ret_of (L := [some (vR 0), some (vI x1), none]) (by decide) rfl (Nat.le_of_ble_eq_true rfl) ?_
  exact SX10_slights_0 x1 f h
theorem dX5_firstPair_0 : decode cX5_firstPair 0 = .ok (.aload_n 0, 1) := by decide +kernel
theorem dX5_firstPair_1 : decode cX5_firstPair 1 = .ok (.getfield 23, 3) := by decide +kernel
theorem dX5_firstPair_4 : decode cX5_firstPair 4 = .ok (.ireturn, 1) := by decide +kernel
def FX5_firstPair_0   (f : Mm) : Option (Int × Mm) := some ((f 69 2), f)
set_option maxHeartbeats 4000000 in
set_option maxRecDepth 100000 in
theorem SX5_firstPair_0 {G : GT} {l : Launch} {Q : Option AV → Mem → Prop}   (f : Mm) (h : OkI Q (FX5_firstPair_0   f)) : Ev G l MX5_firstPair (Rm 1 0 0) (ZM G Q 0 0) 0 0 0 [some (vR 69)] [] (SH, RF, f) := by
  unfold FX5_firstPair_0 at h
  refine ev_aload_n (i := 0) dX5_firstPair_0 rfl rfl ?_
  refine ex_getI (x := (f 69 2)) dX5_firstPair_1 fl_X5_23 sh_69 (by decide) (by decide) rfl ?_
  exact ev_iret rfl dX5_firstPair_4 h
def FX5_firstPair  (f : Mm) : Option (Int × Mm) := FX5_firstPair_0  f
set_option maxRecDepth 100000 in
theorem TX5_firstPair {G : GT} {l : Launch} {Q : Option AV → Mem → Prop}  (f : Mm) (h : OkI Q (FX5_firstPair  f)) : Ret G l MX5_firstPair (1) 0 0 [vR 69] (SH, RF, f) Q := by
  refine ret_of (L := [some (vR 69)]) (by decide) rfl (Nat.le_of_ble_eq_true rfl) ?_
  exact SX5_firstPair_0  f h
theorem dX10_slight_0 : decode cX10_slight 0 = .ok (.aload_n 0, 1) := by decide +kernel
theorem dX10_slight_1 : decode cX10_slight 1 = .ok (.iload_n 1, 1) := by decide +kernel
theorem dX10_slight_2 : decode cX10_slight 2 = .ok (.invokevirtual 285, 3) := by decide +kernel
theorem dX10_slight_5 : decode cX10_slight 5 = .ok (.istore_n 2, 1) := by decide +kernel
theorem dX10_slight_6 : decode cX10_slight 6 = .ok (.iload_n 2, 1) := by decide +kernel
theorem dX10_slight_7 : decode cX10_slight 7 = .ok (.ifCond .eq 7, 3) := by decide +kernel
theorem dX10_slight_14 : decode cX10_slight 14 = .ok (.aload_n 0, 1) := by decide +kernel
theorem dX10_slight_15 : decode cX10_slight 15 = .ok (.iload_n 1, 1) := by decide +kernel
theorem dX10_slight_16 : decode cX10_slight 16 = .ok (.invokevirtual 288, 3) := by decide +kernel
theorem dX10_slight_19 : decode cX10_slight 19 = .ok (.invokevirtual 298, 3) := by decide +kernel
theorem dX10_slight_22 : decode cX10_slight 22 = .ok (.ireturn, 1) := by decide +kernel
theorem dX10_slight_10 : decode cX10_slight 10 = .ok (.iload_n 2, 1) := by decide +kernel
theorem dX10_slight_11 : decode cX10_slight 11 = .ok (.goto 11, 3) := by decide +kernel
def FX10_slight_0  (x1 : Int) (f : Mm) : Option (Int × Mm) := (b2 (FX10_widthsWrong x1 f) fun y1 f1 => (if y1 = 0 then ((FX10_suspected x1 f1).bind fun f2 => (b2 (FX5_firstPair f2) fun y3 f3 => some (y3, f3))) else some (y1, f1)))
set_option maxHeartbeats 4000000 in
set_option maxRecDepth 100000 in
theorem SX10_slight_0 {G : GT} {l : Launch} {Q : Option AV → Mem → Prop}  (x1 : Int) (f : Mm) (h : OkI Q (FX10_slight_0  x1 f)) : Ev G l MX10_slight (Rm 7 0 0) (ZM G Q 0 0) 0 0 0 [some (vR 0), some (vI x1), none] [] (SH, RF, f) := by
  unfold FX10_slight_0 at h
  refine ev_aload_n (i := 0) dX10_slight_0 rfl rfl ?_
  refine ev_iload_n (i := 1) dX10_slight_1 rfl rfl ?_
  refine ev_cVI (b := 0) (av := [vI x1]) (S := []) (fun q => q) h dX10_slight_2 (fun Q' q => TX10_widthsWrong x1 _ q) kvX10_widthsWrong ml_X10_285 sh_0 rfl (RRc (by decide) (by decide)) (Nat.le_of_ble_eq_true rfl) ⟨Nat.le_of_ble_eq_true rfl, Nat.le_of_ble_eq_true rfl⟩ (fun y1 f1 h => ?_)
  refine ev_istore_n (i := 2) (L' := [some (vR 0), some (vI x1), some (vI y1)]) dX10_slight_5 rfl (by decide) rfl ?_
  refine ev_iload_n (i := 2) dX10_slight_6 rfl rfl ?_
  refine ev_if_eq (tgt := 14) dX10_slight_7 (by decide) (fun c4 => ?_) (fun c4 => ?_)
  · rw [if_pos c4] at h
    refine ev_aload_n (i := 0) dX10_slight_14 rfl rfl ?_
    refine ev_iload_n (i := 1) dX10_slight_15 rfl rfl ?_
    refine ev_cVC (b := 0) (av := [vI x1]) (S := []) (fun q => q) h dX10_slight_16 (fun Q' q => TX10_suspected x1 _ q) kvX10_suspected ml_X10_288 sh_0 rfl (RRc (by decide) (by decide)) (Nat.le_of_ble_eq_true rfl) ⟨Nat.le_of_ble_eq_true rfl, Nat.le_of_ble_eq_true rfl⟩ (fun f2 h => ?_)
    refine ev_cVI (b := 69) (av := []) (S := []) (fun q => q) h dX10_slight_19 (fun Q' q => TX5_firstPair _ q) kvX5_firstPair ml_X10_298 sh_69 rfl (RRc (by decide) (by decide)) (Nat.le_of_ble_eq_true rfl) ⟨Nat.le_of_ble_eq_true rfl, Nat.le_of_ble_eq_true rfl⟩ (fun y3 f3 h => ?_)
    exact ev_iret rfl dX10_slight_22 h
  · rw [if_neg c4] at h
    refine ev_iload_n (i := 2) dX10_slight_10 rfl rfl ?_
    refine ev_goto (tgt := 22) dX10_slight_11 (by decide) ?_
    exact ev_iret rfl dX10_slight_22 h
def FX10_slight (x1 : Int) (f : Mm) : Option (Int × Mm) := FX10_slight_0 x1 f
set_option maxRecDepth 100000 in
theorem TX10_slight {G : GT} {l : Launch} {Q : Option AV → Mem → Prop} (x1 : Int) (f : Mm) (h : OkI Q (FX10_slight x1 f)) : Ret G l MX10_slight (7) 0 0 [vR 0, vI x1] (SH, RF, f) Q := by
  refine ret_of (L := [some (vR 0), some (vI x1), none]) (by decide) rfl (Nat.le_of_ble_eq_true rfl) ?_
  exact SX10_slight_0 x1 f h
theorem dX5_worstOn_56 : decode cX5_worstOn 56 = .ok (.iload_n 2, 1) := by decide +kernel
theorem dX5_worstOn_57 : decode cX5_worstOn 57 = .ok (.iload 4, 2) := by decide +kernel
theorem dX5_worstOn_59 : decode cX5_worstOn 59 = .ok (.invokestatic 69, 3) := by decide +kernel
theorem dX5_worstOn_62 : decode cX5_worstOn 62 = .ok (.istore_n 2, 1) := by decide +kernel
theorem dX5_worstOn_63 : decode cX5_worstOn 63 = .ok (.iinc 3 1, 3) := by decide +kernel
theorem dX5_worstOn_66 : decode cX5_worstOn 66 = .ok (.goto (-62), 3) := by decide +kernel
theorem dX5_worstOn_50 : decode cX5_worstOn 50 = .ok (.iinc 5 1, 3) := by decide +kernel
theorem dX5_worstOn_53 : decode cX5_worstOn 53 = .ok (.goto (-35), 3) := by decide +kernel
theorem dX5_worstOn_18 : decode cX5_worstOn 18 = .ok (.iload 5, 2) := by decide +kernel
theorem dX5_worstOn_20 : decode cX5_worstOn 20 = .ok (.aload_n 0, 1) := by decide +kernel
theorem dX5_worstOn_21 : decode cX5_worstOn 21 = .ok (.getfield 16, 3) := by decide +kernel
theorem dX5_worstOn_24 : decode cX5_worstOn 24 = .ok (.if_icmp .ge 32, 3) := by decide +kernel
theorem dX5_worstOn_27 : decode cX5_worstOn 27 = .ok (.aload_n 0, 1) := by decide +kernel
theorem dX5_worstOn_28 : decode cX5_worstOn 28 = .ok (.getfield 11, 3) := by decide +kernel
theorem dX5_worstOn_31 : decode cX5_worstOn 31 = .ok (.iload 5, 2) := by decide +kernel
theorem dX5_worstOn_33 : decode cX5_worstOn 33 = .ok (.aaload, 1) := by decide +kernel
theorem dX5_worstOn_34 : decode cX5_worstOn 34 = .ok (.iload_n 1, 1) := by decide +kernel
theorem dX5_worstOn_35 : decode cX5_worstOn 35 = .ok (.iaload, 1) := by decide +kernel
theorem dX5_worstOn_36 : decode cX5_worstOn 36 = .ok (.aload_n 0, 1) := by decide +kernel
theorem dX5_worstOn_37 : decode cX5_worstOn 37 = .ok (.getfield 11, 3) := by decide +kernel
theorem dX5_worstOn_40 : decode cX5_worstOn 40 = .ok (.iload_n 3, 1) := by decide +kernel
theorem dX5_worstOn_41 : decode cX5_worstOn 41 = .ok (.aaload, 1) := by decide +kernel
theorem dX5_worstOn_42 : decode cX5_worstOn 42 = .ok (.iload_n 1, 1) := by decide +kernel
theorem dX5_worstOn_43 : decode cX5_worstOn 43 = .ok (.iaload, 1) := by decide +kernel
theorem dX5_worstOn_44 : decode cX5_worstOn 44 = .ok (.if_icmp .ne 6, 3) := by decide +kernel
theorem dX5_worstOn_47 : decode cX5_worstOn 47 = .ok (.iinc 4 1, 3) := by decide +kernel
theorem dX5_worstOn_4 : decode cX5_worstOn 4 = .ok (.iload_n 3, 1) := by decide +kernel
theorem dX5_worstOn_5 : decode cX5_worstOn 5 = .ok (.aload_n 0, 1) := by decide +kernel
theorem dX5_worstOn_6 : decode cX5_worstOn 6 = .ok (.getfield 16, 3) := by decide +kernel
theorem dX5_worstOn_9 : decode cX5_worstOn 9 = .ok (.if_icmp .ge 60, 3) := by decide +kernel
theorem dX5_worstOn_69 : decode cX5_worstOn 69 = .ok (.iload_n 2, 1) := by decide +kernel
theorem dX5_worstOn_70 : decode cX5_worstOn 70 = .ok (.ireturn, 1) := by decide +kernel
theorem dX5_worstOn_12 : decode cX5_worstOn 12 = .ok (.iconst 0, 1) := by decide +kernel
theorem dX5_worstOn_13 : decode cX5_worstOn 13 = .ok (.istore 4, 2) := by decide +kernel
theorem dX5_worstOn_15 : decode cX5_worstOn 15 = .ok (.iconst 0, 1) := by decide +kernel
theorem dX5_worstOn_16 : decode cX5_worstOn 16 = .ok (.istore 5, 2) := by decide +kernel
theorem dX5_worstOn_0 : decode cX5_worstOn 0 = .ok (.iconst 0, 1) := by decide +kernel
theorem dX5_worstOn_1 : decode cX5_worstOn 1 = .ok (.istore_n 2, 1) := by decide +kernel
theorem dX5_worstOn_2 : decode cX5_worstOn 2 = .ok (.iconst 0, 1) := by decide +kernel
theorem dX5_worstOn_3 : decode cX5_worstOn 3 = .ok (.istore_n 3, 1) := by decide +kernel
def FX5_worstOn_56 (k4 : Int → Int → Int → Mm → Option (Int × Mm)) (x1 : Int) (x2 : Int) (x3 : Int) (x4 : Int) (f : Mm) : Option (Int × Mm) := k4 x1 (jMax x2 x4) (w32 (x3 + 1)) f
set_option maxHeartbeats 4000000 in
set_option maxRecDepth 100000 in
theorem SX5_worstOn_56 {G : GT} {l : Launch} {Q : Option AV → Mem → Prop} {k4 : Int → Int → Int → Mm → Option (Int × Mm)} (q4 : ∀ (x1 : Int) (x2 : Int) (x3 : Int) (f : Mm), OkI Q (k4 x1 x2 x3 f) → Ev G l MX5_worstOn (Rm 1 0 0) (ZM G Q 0 0) 0 0 4 [some (vR 69), some (vI x1), some (vI x2), some (vI x3), none, none] [] (SH, RF, f)) (x1 : Int) (x2 : Int) (x3 : Int) (x4 : Int) (f : Mm) (h : OkI Q (FX5_worstOn_56 k4 x1 x2 x3 x4 f)) : Ev G l MX5_worstOn (Rm 1 0 0) (ZM G Q 0 0) 0 0 56 [some (vR 69), some (vI x1), some (vI x2), some (vI x3), some (vI x4), none] [] (SH, RF, f) := by
  unfold FX5_worstOn_56 at h
  refine ev_iload_n (i := 2) dX5_worstOn_56 rfl rfl ?_
  refine ev_iload dX5_worstOn_57 rfl ?_
  refine ev_mmax dX5_worstOn_59 mlm_X5_69 (Nat.le_of_ble_eq_true rfl) (Nat.le_of_ble_eq_true rfl) (Nat.le_of_ble_eq_true rfl) (Nat.le_of_ble_eq_true rfl) ?_
  refine ev_istore_n (i := 2) (L' := [some (vR 69), some (vI x1), some (vI (jMax x2 x4)), some (vI x3), some (vI x4), none]) dX5_worstOn_62 rfl (by decide) rfl ?_
  refine ev_iinc (L' := [some (vR 69), some (vI x1), some (vI (jMax x2 x4)), some (vI (w32 (x3 + 1))), some (vI x4), none]) dX5_worstOn_63 rfl (by decide) rfl ?_
  refine ev_goto (tgt := 4) dX5_worstOn_66 (by decide) ?_
  refine ev_fg [true, true, true, true, false, true] rfl ?_
  exact q4 x1 (jMax x2 x4) (w32 (x3 + 1)) _ h
def FX5_worstOn_50 (k4 : Int → Int → Int → Mm → Option (Int × Mm)) (k18 : Int → Int → Int → Int → Int → Mm → Option (Int × Mm)) (x1 : Int) (x2 : Int) (x3 : Int) (x4 : Int) (x5 : Int) (f : Mm) : Option (Int × Mm) := k18 x1 x2 x3 x4 (w32 (x5 + 1)) f
set_option maxHeartbeats 4000000 in
set_option maxRecDepth 100000 in
theorem SX5_worstOn_50 {G : GT} {l : Launch} {Q : Option AV → Mem → Prop} {k4 : Int → Int → Int → Mm → Option (Int × Mm)} {k18 : Int → Int → Int → Int → Int → Mm → Option (Int × Mm)} (q4 : ∀ (x1 : Int) (x2 : Int) (x3 : Int) (f : Mm), OkI Q (k4 x1 x2 x3 f) → Ev G l MX5_worstOn (Rm 1 0 0) (ZM G Q 0 0) 0 0 4 [some (vR 69), some (vI x1), some (vI x2), some (vI x3), none, none] [] (SH, RF, f)) (q18 : ∀ (x1 : Int) (x2 : Int) (x3 : Int) (x4 : Int) (x5 : Int) (f : Mm), OkI Q (k18 x1 x2 x3 x4 x5 f) → Ev G l MX5_worstOn (Rm 1 0 0) (ZM G Q 0 0) 0 0 18 [some (vR 69), some (vI x1), some (vI x2), some (vI x3), some (vI x4), some (vI x5)] [] (SH, RF, f)) (x1 : Int) (x2 : Int) (x3 : Int) (x4 : Int) (x5 : Int) (f : Mm) (h : OkI Q (FX5_worstOn_50 k4 k18 x1 x2 x3 x4 x5 f)) : Ev G l MX5_worstOn (Rm 1 0 0) (ZM G Q 0 0) 0 0 50 [some (vR 69), some (vI x1), some (vI x2), some (vI x3), some (vI x4), some (vI x5)] [] (SH, RF, f) := by
  unfold FX5_worstOn_50 at h
  refine ev_iinc (L' := [some (vR 69), some (vI x1), some (vI x2), some (vI x3), some (vI x4), some (vI (w32 (x5 + 1)))]) dX5_worstOn_50 rfl (by decide) rfl ?_
  refine ev_goto (tgt := 18) dX5_worstOn_53 (by decide) ?_
  exact q18 x1 x2 x3 x4 (w32 (x5 + 1)) _ h
def FX5_worstOn_18 (k4 : Int → Int → Int → Mm → Option (Int × Mm)) : Nat → Int → Int → Int → Int → Int → Mm → Option (Int × Mm)
  | 0, _, _, _, _, _, _ => none
  | n + 1, x1, x2, x3, x4, x5, f => (if (f 69 0) ≤ x5 then FX5_worstOn_56 k4 x1 x2 x3 x4 f else (if 0 ≤ x5 ∧ x5 < 24 then (if 0 ≤ x1 ∧ x1 < 6 then (if 0 ≤ x3 ∧ x3 < 24 then (if 0 ≤ x1 ∧ x1 < 6 then (if (f (71 + x5.toNat) x1.toNat) = (f (71 + x3.toNat) x1.toNat) then FX5_worstOn_50 k4 (FX5_worstOn_18 k4 n) x1 x2 x3 (w32 (x4 + 1)) x5 f else FX5_worstOn_50 k4 (FX5_worstOn_18 k4 n) x1 x2 x3 x4 x5 f) else none) else none) else none) else none))
set_option maxHeartbeats 4000000 in
set_option maxRecDepth 100000 in
theorem SX5_worstOn_18 {G : GT} {l : Launch} {Q : Option AV → Mem → Prop} {k4 : Int → Int → Int → Mm → Option (Int × Mm)} (q4 : ∀ (x1 : Int) (x2 : Int) (x3 : Int) (f : Mm), OkI Q (k4 x1 x2 x3 f) → Ev G l MX5_worstOn (Rm 1 0 0) (ZM G Q 0 0) 0 0 4 [some (vR 69), some (vI x1), some (vI x2), some (vI x3), none, none] [] (SH, RF, f)) : ∀ (n : Nat) (x1 : Int) (x2 : Int) (x3 : Int) (x4 : Int) (x5 : Int) (f : Mm), OkI Q (FX5_worstOn_18 k4 n x1 x2 x3 x4 x5 f) → Ev G l MX5_worstOn (Rm 1 0 0) (ZM G Q 0 0) 0 0 18 [some (vR 69), some (vI x1), some (vI x2), some (vI x3), some (vI x4), some (vI x5)] [] (SH, RF, f) := by
  intro n
  induction n with
  | zero => intro x1 x2 x3 x4 x5 f h; exact absurd h (by rw [FX5_worstOn_18]; exact fun q => q)
  | succ n ih =>
    intro x1 x2 x3 x4 x5 f h
    rw [FX5_worstOn_18] at h
    refine ev_iload dX5_worstOn_18 rfl ?_
    refine ev_aload_n (i := 0) dX5_worstOn_20 rfl rfl ?_
    refine ex_getI (x := (f 69 0)) dX5_worstOn_21 fl_X5_16 sh_69 (by decide) (by decide) rfl ?_
    refine ev_icmp_ge (tgt := 56) dX5_worstOn_24 (by decide) (fun c6 => ?_) (fun c6 => ?_)
    · rw [if_pos c6] at h
      refine ev_fg [true, true, true, true, true, false] rfl ?_
      exact SX5_worstOn_56 q4 x1 x2 x3 x4 _ h
    · rw [if_neg c6] at h
      refine ev_aload_n (i := 0) dX5_worstOn_27 rfl rfl ?_
      refine ev_getR dX5_worstOn_28 fl_X5_11 sh_69 (by decide) (by decide) rf_69_3 ?_
      refine ev_iload dX5_worstOn_31 rfl ?_
      by_cases g1 : 0 ≤ x5 ∧ x5 < 24
      · rw [if_pos g1] at h
        refine ev_aald (b := (71 + x5.toNat)) dX5_worstOn_33 (Or.inl rfl) sh_70 g1.1 g1.2 (rfr_70 g1) ?_
        refine ev_iload_n (i := 1) dX5_worstOn_34 rfl rfl ?_
        by_cases g2 : 0 ≤ x1 ∧ x1 < 6
        · rw [if_pos g2] at h
          refine ex_iald (x := (f (71 + x5.toNat) x1.toNat)) dX5_worstOn_35 (shr_70 g1) g2.1 g2.2 rfl ?_
          refine ev_aload_n (i := 0) dX5_worstOn_36 rfl rfl ?_
          refine ev_getR dX5_worstOn_37 fl_X5_11 sh_69 (by decide) (by decide) rf_69_3 ?_
          refine ev_iload_n (i := 3) dX5_worstOn_40 rfl rfl ?_
          by_cases g3 : 0 ≤ x3 ∧ x3 < 24
          · rw [if_pos g3] at h
            refine ev_aald (b := (71 + x3.toNat)) dX5_worstOn_41 (Or.inl rfl) sh_70 g3.1 g3.2 (rfr_70 g3) ?_
            refine ev_iload_n (i := 1) dX5_worstOn_42 rfl rfl ?_
            by_cases g4 : 0 ≤ x1 ∧ x1 < 6
            · rw [if_pos g4] at h
              refine ex_iald (x := (f (71 + x3.toNat) x1.toNat)) dX5_worstOn_43 (shr_70 g3) g4.1 g4.2 rfl ?_
              refine ev_icmp_ne (tgt := 50) dX5_worstOn_44 (by decide) (fun c5 => ?_) (fun c5 => ?_)
              · rw [if_neg c5] at h
                exact SX5_worstOn_50 q4 ih x1 x2 x3 x4 x5 _ h
              · rw [if_pos c5] at h
                refine ev_iinc (L' := [some (vR 69), some (vI x1), some (vI x2), some (vI x3), some (vI (w32 (x4 + 1))), some (vI x5)]) dX5_worstOn_47 rfl (by decide) rfl ?_
                exact SX5_worstOn_50 q4 ih x1 x2 x3 (w32 (x4 + 1)) x5 _ h
            · rw [if_neg g4] at h; exact h.elim
          · rw [if_neg g3] at h; exact h.elim
        · rw [if_neg g2] at h; exact h.elim
      · rw [if_neg g1] at h; exact h.elim
def FX5_worstOn_4  : Nat → Int → Int → Int → Mm → Option (Int × Mm)
  | 0, _, _, _, _ => none
  | n + 1, x1, x2, x3, f => (if (f 69 0) ≤ x3 then some (x2, f) else FX5_worstOn_18 (FX5_worstOn_4 n) fu x1 x2 x3 0 0 f)
set_option maxHeartbeats 4000000 in
set_option maxRecDepth 100000 in
theorem SX5_worstOn_4 {G : GT} {l : Launch} {Q : Option AV → Mem → Prop}  : ∀ (n : Nat) (x1 : Int) (x2 : Int) (x3 : Int) (f : Mm), OkI Q (FX5_worstOn_4  n x1 x2 x3 f) → Ev G l MX5_worstOn (Rm 1 0 0) (ZM G Q 0 0) 0 0 4 [some (vR 69), some (vI x1), some (vI x2), some (vI x3), none, none] [] (SH, RF, f) := by
  intro n
  induction n with
  | zero => intro x1 x2 x3 f h; exact absurd h (by rw [FX5_worstOn_4]; exact fun q => q)
  | succ n ih =>
    intro x1 x2 x3 f h
    rw [FX5_worstOn_4] at h
    refine ev_iload_n (i := 3) dX5_worstOn_4 rfl rfl ?_
    refine ev_aload_n (i := 0) dX5_worstOn_5 rfl rfl ?_
    refine ex_getI (x := (f 69 0)) dX5_worstOn_6 fl_X5_16 sh_69 (by decide) (by decide) rfl ?_
    refine ev_icmp_ge (tgt := 69) dX5_worstOn_9 (by decide) (fun c1 => ?_) (fun c1 => ?_)
    · rw [if_pos c1] at h
      refine ev_iload_n (i := 2) dX5_worstOn_69 rfl rfl ?_
      exact ev_iret rfl dX5_worstOn_70 h
    · rw [if_neg c1] at h
      refine ev_iconst dX5_worstOn_12 (r32c rfl) ?_
      refine ev_istore (L' := [some (vR 69), some (vI x1), some (vI x2), some (vI x3), some (vI 0), none]) dX5_worstOn_13 (by decide) rfl ?_
      refine ev_iconst dX5_worstOn_15 (r32c rfl) ?_
      refine ev_istore (L' := [some (vR 69), some (vI x1), some (vI x2), some (vI x3), some (vI 0), some (vI 0)]) dX5_worstOn_16 (by decide) rfl ?_
      exact SX5_worstOn_18 ih fu x1 x2 x3 0 0 _ h
def FX5_worstOn_0  (x1 : Int) (f : Mm) : Option (Int × Mm) := FX5_worstOn_4 fu x1 0 0 f
set_option maxHeartbeats 4000000 in
set_option maxRecDepth 100000 in
theorem SX5_worstOn_0 {G : GT} {l : Launch} {Q : Option AV → Mem → Prop}  (x1 : Int) (f : Mm) (h : OkI Q (FX5_worstOn_0  x1 f)) : Ev G l MX5_worstOn (Rm 1 0 0) (ZM G Q 0 0) 0 0 0 [some (vR 69), some (vI x1), none, none, none, none] [] (SH, RF, f) := by
  unfold FX5_worstOn_0 at h
  refine ev_iconst dX5_worstOn_0 (r32c rfl) ?_
  refine ev_istore_n (i := 2) (L' := [some (vR 69), some (vI x1), some (vI 0), none, none, none]) dX5_worstOn_1 rfl (by decide) rfl ?_
  refine ev_iconst dX5_worstOn_2 (r32c rfl) ?_
  refine ev_istore_n (i := 3) (L' := [some (vR 69), some (vI x1), some (vI 0), some (vI 0), none, none]) dX5_worstOn_3 rfl (by decide) rfl ?_
  exact SX5_worstOn_4  fu x1 0 0 _ h
def FX5_worstOn (x1 : Int) (f : Mm) : Option (Int × Mm) := FX5_worstOn_0 x1 f
set_option maxRecDepth 100000 in
theorem TX5_worstOn {G : GT} {l : Launch} {Q : Option AV → Mem → Prop} (x1 : Int) (f : Mm) (h : OkI Q (FX5_worstOn x1 f)) : Ret G l MX5_worstOn (1) 0 0 [vR 69, vI x1] (SH, RF, f) Q := by
  refine ret_of (L := [some (vR 69), some (vI x1), none, none, none, none]) (by decide) rfl (Nat.le_of_ble_eq_true rfl) ?_
  exact SX5_worstOn_0 x1 f h
theorem dX5_askedDay_39 : decode cX5_askedDay 39 = .ok (.iinc 4 1, 3) := by decide +kernel
theorem dX5_askedDay_42 : decode cX5_askedDay 42 = .ok (.goto (-32), 3) := by decide +kernel
theorem dX5_askedDay_10 : decode cX5_askedDay 10 = .ok (.iload 4, 2) := by decide +kernel
theorem dX5_askedDay_12 : decode cX5_askedDay 12 = .ok (.aload_n 1, 1) := by decide +kernel
theorem dX5_askedDay_13 : decode cX5_askedDay 13 = .ok (.getfield 31, 3) := by decide +kernel
theorem dX5_askedDay_16 : decode cX5_askedDay 16 = .ok (.if_icmp .ge 29, 3) := by decide +kernel
theorem dX5_askedDay_45 : decode cX5_askedDay 45 = .ok (.iload_n 3, 1) := by decide +kernel
theorem dX5_askedDay_46 : decode cX5_askedDay 46 = .ok (.ireturn, 1) := by decide +kernel
theorem dX5_askedDay_19 : decode cX5_askedDay 19 = .ok (.aload_n 0, 1) := by decide +kernel
theorem dX5_askedDay_20 : decode cX5_askedDay 20 = .ok (.iload 4, 2) := by decide +kernel
theorem dX5_askedDay_22 : decode cX5_askedDay 22 = .ok (.invokevirtual 62, 3) := by decide +kernel
theorem dX5_askedDay_25 : decode cX5_askedDay 25 = .ok (.istore 5, 2) := by decide +kernel
theorem dX5_askedDay_27 : decode cX5_askedDay 27 = .ok (.iload 5, 2) := by decide +kernel
theorem dX5_askedDay_29 : decode cX5_askedDay 29 = .ok (.iload_n 2, 1) := by decide +kernel
theorem dX5_askedDay_30 : decode cX5_askedDay 30 = .ok (.if_icmp .ge 9, 3) := by decide +kernel
theorem dX5_askedDay_33 : decode cX5_askedDay 33 = .ok (.iload 5, 2) := by decide +kernel
theorem dX5_askedDay_35 : decode cX5_askedDay 35 = .ok (.istore_n 2, 1) := by decide +kernel
theorem dX5_askedDay_36 : decode cX5_askedDay 36 = .ok (.iload 4, 2) := by decide +kernel
theorem dX5_askedDay_38 : decode cX5_askedDay 38 = .ok (.istore_n 3, 1) := by decide +kernel
theorem dX5_askedDay_0 : decode cX5_askedDay 0 = .ok (.aload_n 0, 1) := by decide +kernel
theorem dX5_askedDay_1 : decode cX5_askedDay 1 = .ok (.getfield 16, 3) := by decide +kernel
theorem dX5_askedDay_4 : decode cX5_askedDay 4 = .ok (.istore_n 2, 1) := by decide +kernel
theorem dX5_askedDay_5 : decode cX5_askedDay 5 = .ok (.iconst (-1), 1) := by decide +kernel
theorem dX5_askedDay_6 : decode cX5_askedDay 6 = .ok (.istore_n 3, 1) := by decide +kernel
theorem dX5_askedDay_7 : decode cX5_askedDay 7 = .ok (.iconst 0, 1) := by decide +kernel
theorem dX5_askedDay_8 : decode cX5_askedDay 8 = .ok (.istore 4, 2) := by decide +kernel
def FX5_askedDay_69_4_39 (k10 : Int → Int → Int → Mm → Option (Int × Mm)) (x2 : Int) (x3 : Int) (x4 : Int) (f : Mm) : Option (Int × Mm) := k10 x2 x3 (w32 (x4 + 1)) f
set_option maxHeartbeats 4000000 in
set_option maxRecDepth 100000 in
theorem SX5_askedDay_69_4_39 {G : GT} {l : Launch} {Q : Option AV → Mem → Prop} {k10 : Int → Int → Int → Mm → Option (Int × Mm)} (q10 : ∀ (x2 : Int) (x3 : Int) (x4 : Int) (f : Mm), OkI Q (k10 x2 x3 x4 f) → Ev G l MX5_askedDay (Rm 2 0 0) (ZM G Q 0 0) 0 0 10 [some (vR 69), some (vR 4), some (vI x2), some (vI x3), some (vI x4), none] [] (SH, RF, f)) (x2 : Int) (x3 : Int) (x4 : Int) (f : Mm) (h : OkI Q (FX5_askedDay_69_4_39 k10 x2 x3 x4 f)) : Ev G l MX5_askedDay (Rm 2 0 0) (ZM G Q 0 0) 0 0 39 [some (vR 69), some (vR 4), some (vI x2), some (vI x3), some (vI x4), none] [] (SH, RF, f) := by
  unfold FX5_askedDay_69_4_39 at h
  refine ev_iinc (L' := [some (vR 69), some (vR 4), some (vI x2), some (vI x3), some (vI (w32 (x4 + 1))), none]) dX5_askedDay_39 rfl (by decide) rfl ?_
  refine ev_goto (tgt := 10) dX5_askedDay_42 (by decide) ?_
  exact q10 x2 x3 (w32 (x4 + 1)) _ h
def FX5_askedDay_69_4_10  : Nat → Int → Int → Int → Mm → Option (Int × Mm)
  | 0, _, _, _, _ => none
  | n + 1, x2, x3, x4, f => (if (f 4 1) ≤ x4 then some (x3, f) else (b2 (FX5_worstOn x4 f) fun y1 f1 => (if x2 ≤ y1 then FX5_askedDay_69_4_39 (FX5_askedDay_69_4_10 n) x2 x3 x4 f1 else FX5_askedDay_69_4_39 (FX5_askedDay_69_4_10 n) y1 x4 x4 f1)))
set_option maxHeartbeats 4000000 in
set_option maxRecDepth 100000 in
theorem SX5_askedDay_69_4_10 {G : GT} {l : Launch} {Q : Option AV → Mem → Prop}  : ∀ (n : Nat) (x2 : Int) (x3 : Int) (x4 : Int) (f : Mm), OkI Q (FX5_askedDay_69_4_10  n x2 x3 x4 f) → Ev G l MX5_askedDay (Rm 2 0 0) (ZM G Q 0 0) 0 0 10 [some (vR 69), some (vR 4), some (vI x2), some (vI x3), some (vI x4), none] [] (SH, RF, f) := by
  intro n
  induction n with
  | zero => intro x2 x3 x4 f h; exact absurd h (by rw [FX5_askedDay_69_4_10]; exact fun q => q)
  | succ n ih =>
    intro x2 x3 x4 f h
    rw [FX5_askedDay_69_4_10] at h
    refine ev_iload dX5_askedDay_10 rfl ?_
    refine ev_aload_n (i := 1) dX5_askedDay_12 rfl rfl ?_
    refine ex_getI (x := (f 4 1)) dX5_askedDay_13 fl_X5_31 sh_4 (by decide) (by decide) rfl ?_
    refine ev_icmp_ge (tgt := 45) dX5_askedDay_16 (by decide) (fun c3 => ?_) (fun c3 => ?_)
    · rw [if_pos c3] at h
      refine ev_iload_n (i := 3) dX5_askedDay_45 rfl rfl ?_
      exact ev_iret rfl dX5_askedDay_46 h
    · rw [if_neg c3] at h
      refine ev_aload_n (i := 0) dX5_askedDay_19 rfl rfl ?_
      refine ev_iload dX5_askedDay_20 rfl ?_
      refine ev_cVI (b := 69) (av := [vI x4]) (S := []) (fun q => q) h dX5_askedDay_22 (fun Q' q => TX5_worstOn x4 _ q) kvX5_worstOn ml_X5_62 sh_69 rfl (RRc (by decide) (by decide)) (Nat.le_of_ble_eq_true rfl) ⟨Nat.le_of_ble_eq_true rfl, Nat.le_of_ble_eq_true rfl⟩ (fun y1 f1 h => ?_)
      refine ev_istore (L' := [some (vR 69), some (vR 4), some (vI x2), some (vI x3), some (vI x4), some (vI y1)]) dX5_askedDay_25 (by decide) rfl ?_
      refine ev_iload dX5_askedDay_27 rfl ?_
      refine ev_iload_n (i := 2) dX5_askedDay_29 rfl rfl ?_
      refine ev_icmp_ge (tgt := 39) dX5_askedDay_30 (by decide) (fun c2 => ?_) (fun c2 => ?_)
      · rw [if_pos c2] at h
        refine ev_fg [true, true, true, true, true, false] rfl ?_
        exact SX5_askedDay_69_4_39 ih x2 x3 x4 _ h
      · rw [if_neg c2] at h
        refine ev_iload dX5_askedDay_33 rfl ?_
        refine ev_istore_n (i := 2) (L' := [some (vR 69), some (vR 4), some (vI y1), some (vI x3), some (vI x4), some (vI y1)]) dX5_askedDay_35 rfl (by decide) rfl ?_
        refine ev_iload dX5_askedDay_36 rfl ?_
        refine ev_istore_n (i := 3) (L' := [some (vR 69), some (vR 4), some (vI y1), some (vI x4), some (vI x4), some (vI y1)]) dX5_askedDay_38 rfl (by decide) rfl ?_
        refine ev_fg [true, true, true, true, true, false] rfl ?_
        exact SX5_askedDay_69_4_39 ih y1 x4 x4 _ h
def FX5_askedDay_69_4_0   (f : Mm) : Option (Int × Mm) := FX5_askedDay_69_4_10 fu (f 69 0) (-1) 0 f
set_option maxHeartbeats 4000000 in
set_option maxRecDepth 100000 in
theorem SX5_askedDay_69_4_0 {G : GT} {l : Launch} {Q : Option AV → Mem → Prop}   (f : Mm) (h : OkI Q (FX5_askedDay_69_4_0   f)) : Ev G l MX5_askedDay (Rm 2 0 0) (ZM G Q 0 0) 0 0 0 [some (vR 69), some (vR 4), none, none, none, none] [] (SH, RF, f) := by
  unfold FX5_askedDay_69_4_0 at h
  refine ev_aload_n (i := 0) dX5_askedDay_0 rfl rfl ?_
  refine ex_getI (x := (f 69 0)) dX5_askedDay_1 fl_X5_16 sh_69 (by decide) (by decide) rfl ?_
  refine ev_istore_n (i := 2) (L' := [some (vR 69), some (vR 4), some (vI (f 69 0)), none, none, none]) dX5_askedDay_4 rfl (by decide) rfl ?_
  refine ev_iconst dX5_askedDay_5 (r32c rfl) ?_
  refine ev_istore_n (i := 3) (L' := [some (vR 69), some (vR 4), some (vI (f 69 0)), some (vI (-1)), none, none]) dX5_askedDay_6 rfl (by decide) rfl ?_
  refine ev_iconst dX5_askedDay_7 (r32c rfl) ?_
  refine ev_istore (L' := [some (vR 69), some (vR 4), some (vI (f 69 0)), some (vI (-1)), some (vI 0), none]) dX5_askedDay_8 (by decide) rfl ?_
  exact SX5_askedDay_69_4_10  fu (f 69 0) (-1) 0 _ h
def FX5_askedDay_69_4  (f : Mm) : Option (Int × Mm) := FX5_askedDay_69_4_0  f
set_option maxRecDepth 100000 in
theorem TX5_askedDay_69_4 {G : GT} {l : Launch} {Q : Option AV → Mem → Prop}  (f : Mm) (h : OkI Q (FX5_askedDay_69_4  f)) : Ret G l MX5_askedDay (2) 0 0 [vR 69, vR 4] (SH, RF, f) Q := by
  refine ret_of (L := [some (vR 69), some (vR 4), none, none, none, none]) (by decide) rfl (Nat.le_of_ble_eq_true rfl) ?_
  exact SX5_askedDay_69_4_0  f h
theorem dX10_ask_0 : decode cX10_ask 0 = .ok (.aload_n 0, 1) := by decide +kernel
theorem dX10_ask_1 : decode cX10_ask 1 = .ok (.iload_n 1, 1) := by decide +kernel
theorem dX10_ask_2 : decode cX10_ask 2 = .ok (.invokevirtual 285, 3) := by decide +kernel
theorem dX10_ask_5 : decode cX10_ask 5 = .ok (.istore_n 2, 1) := by decide +kernel
theorem dX10_ask_6 : decode cX10_ask 6 = .ok (.iload_n 2, 1) := by decide +kernel
theorem dX10_ask_7 : decode cX10_ask 7 = .ok (.ifCond .eq 7, 3) := by decide +kernel
theorem dX10_ask_14 : decode cX10_ask 14 = .ok (.aload_n 0, 1) := by decide +kernel
theorem dX10_ask_15 : decode cX10_ask 15 = .ok (.iload_n 1, 1) := by decide +kernel
theorem dX10_ask_16 : decode cX10_ask 16 = .ok (.invokevirtual 288, 3) := by decide +kernel
theorem dX10_ask_19 : decode cX10_ask 19 = .ok (.aload_n 0, 1) := by decide +kernel
theorem dX10_ask_20 : decode cX10_ask 20 = .ok (.getfield 19, 3) := by decide +kernel
theorem dX10_ask_23 : decode cX10_ask 23 = .ok (.invokevirtual 301, 3) := by decide +kernel
theorem dX10_ask_26 : decode cX10_ask 26 = .ok (.ireturn, 1) := by decide +kernel
theorem dX10_ask_10 : decode cX10_ask 10 = .ok (.iload_n 2, 1) := by decide +kernel
theorem dX10_ask_11 : decode cX10_ask 11 = .ok (.goto 15, 3) := by decide +kernel
def FX10_ask_0  (x1 : Int) (f : Mm) : Option (Int × Mm) := (b2 (FX10_widthsWrong x1 f) fun y1 f1 => (if y1 = 0 then ((FX10_suspected x1 f1).bind fun f2 => (b2 (FX5_askedDay_69_4 f2) fun y3 f3 => some (y3, f3))) else some (y1, f1)))
set_option maxHeartbeats 4000000 in
set_option maxRecDepth 100000 in
theorem SX10_ask_0 {G : GT} {l : Launch} {Q : Option AV → Mem → Prop}  (x1 : Int) (f : Mm) (h : OkI Q (FX10_ask_0  x1 f)) : Ev G l MX10_ask (Rm 7 0 0) (ZM G Q 0 0) 0 0 0 [some (vR 0), some (vI x1), none] [] (SH, RF, f) := by
  unfold FX10_ask_0 at h
  refine ev_aload_n (i := 0) dX10_ask_0 rfl rfl ?_
  refine ev_iload_n (i := 1) dX10_ask_1 rfl rfl ?_
  refine ev_cVI (b := 0) (av := [vI x1]) (S := []) (fun q => q) h dX10_ask_2 (fun Q' q => TX10_widthsWrong x1 _ q) kvX10_widthsWrong ml_X10_285 sh_0 rfl (RRc (by decide) (by decide)) (Nat.le_of_ble_eq_true rfl) ⟨Nat.le_of_ble_eq_true rfl, Nat.le_of_ble_eq_true rfl⟩ (fun y1 f1 h => ?_)
  refine ev_istore_n (i := 2) (L' := [some (vR 0), some (vI x1), some (vI y1)]) dX10_ask_5 rfl (by decide) rfl ?_
  refine ev_iload_n (i := 2) dX10_ask_6 rfl rfl ?_
  refine ev_if_eq (tgt := 14) dX10_ask_7 (by decide) (fun c4 => ?_) (fun c4 => ?_)
  · rw [if_pos c4] at h
    refine ev_aload_n (i := 0) dX10_ask_14 rfl rfl ?_
    refine ev_iload_n (i := 1) dX10_ask_15 rfl rfl ?_
    refine ev_cVC (b := 0) (av := [vI x1]) (S := []) (fun q => q) h dX10_ask_16 (fun Q' q => TX10_suspected x1 _ q) kvX10_suspected ml_X10_288 sh_0 rfl (RRc (by decide) (by decide)) (Nat.le_of_ble_eq_true rfl) ⟨Nat.le_of_ble_eq_true rfl, Nat.le_of_ble_eq_true rfl⟩ (fun f2 h => ?_)
    refine ev_aload_n (i := 0) dX10_ask_19 rfl rfl ?_
    refine ev_getR dX10_ask_20 fl_X10_19 sh_0 (by decide) (by decide) rf_0_1 ?_
    refine ev_cVI (b := 69) (av := [vR 4]) (S := []) (fun q => q) h dX10_ask_23 (fun Q' q => TX5_askedDay_69_4 _ q) kvX5_askedDay ml_X10_301 sh_69 rfl (RRc (by decide) (by decide)) (Nat.le_of_ble_eq_true rfl) ⟨Nat.le_of_ble_eq_true rfl, Nat.le_of_ble_eq_true rfl⟩ (fun y3 f3 h => ?_)
    exact ev_iret rfl dX10_ask_26 h
  · rw [if_neg c4] at h
    refine ev_iload_n (i := 2) dX10_ask_10 rfl rfl ?_
    refine ev_goto (tgt := 26) dX10_ask_11 (by decide) ?_
    exact ev_iret rfl dX10_ask_26 h
def FX10_ask (x1 : Int) (f : Mm) : Option (Int × Mm) := FX10_ask_0 x1 f
set_option maxRecDepth 100000 in
theorem TX10_ask {G : GT} {l : Launch} {Q : Option AV → Mem → Prop} (x1 : Int) (f : Mm) (h : OkI Q (FX10_ask x1 f)) : Ret G l MX10_ask (7) 0 0 [vR 0, vI x1] (SH, RF, f) Q := by
  refine ret_of (L := [some (vR 0), some (vI x1), none]) (by decide) rfl (Nat.le_of_ble_eq_true rfl) ?_
  exact SX10_ask_0 x1 f h
theorem dX5_leftAtWorst_0 : decode cX5_leftAtWorst 0 = .ok (.aload_n 0, 1) := by decide +kernel
theorem dX5_leftAtWorst_1 : decode cX5_leftAtWorst 1 = .ok (.aload_n 1, 1) := by decide +kernel
theorem dX5_leftAtWorst_2 : decode cX5_leftAtWorst 2 = .ok (.invokevirtual 65, 3) := by decide +kernel
theorem dX5_leftAtWorst_5 : decode cX5_leftAtWorst 5 = .ok (.istore_n 2, 1) := by decide +kernel
theorem dX5_leftAtWorst_6 : decode cX5_leftAtWorst 6 = .ok (.iload_n 2, 1) := by decide +kernel
theorem dX5_leftAtWorst_7 : decode cX5_leftAtWorst 7 = .ok (.iconst (-1), 1) := by decide +kernel
theorem dX5_leftAtWorst_8 : decode cX5_leftAtWorst 8 = .ok (.if_icmp .ne 10, 3) := by decide +kernel
theorem dX5_leftAtWorst_18 : decode cX5_leftAtWorst 18 = .ok (.aload_n 0, 1) := by decide +kernel
theorem dX5_leftAtWorst_19 : decode cX5_leftAtWorst 19 = .ok (.iload_n 2, 1) := by decide +kernel
theorem dX5_leftAtWorst_20 : decode cX5_leftAtWorst 20 = .ok (.invokevirtual 62, 3) := by decide +kernel
theorem dX5_leftAtWorst_23 : decode cX5_leftAtWorst 23 = .ok (.ireturn, 1) := by decide +kernel
theorem dX5_leftAtWorst_11 : decode cX5_leftAtWorst 11 = .ok (.aload_n 0, 1) := by decide +kernel
theorem dX5_leftAtWorst_12 : decode cX5_leftAtWorst 12 = .ok (.getfield 16, 3) := by decide +kernel
theorem dX5_leftAtWorst_15 : decode cX5_leftAtWorst 15 = .ok (.goto 8, 3) := by decide +kernel
def FX5_leftAtWorst_69_4_0   (f : Mm) : Option (Int × Mm) := (b2 (FX5_askedDay_69_4 f) fun y1 f1 => (if y1 = (-1) then some ((f1 69 0), f1) else (b2 (FX5_worstOn y1 f1) fun y2 f2 => some (y2, f2))))
set_option maxHeartbeats 4000000 in
set_option maxRecDepth 100000 in
theorem SX5_leftAtWorst_69_4_0 {G : GT} {l : Launch} {Q : Option AV → Mem → Prop}   (f : Mm) (h : OkI Q (FX5_leftAtWorst_69_4_0   f)) : Ev G l MX5_leftAtWorst (Rm 3 0 0) (ZM G Q 0 0) 0 0 0 [some (vR 69), some (vR 4), none] [] (SH, RF, f) := by
  unfold FX5_leftAtWorst_69_4_0 at h
  refine ev_aload_n (i := 0) dX5_leftAtWorst_0 rfl rfl ?_
  refine ev_aload_n (i := 1) dX5_leftAtWorst_1 rfl rfl ?_
  refine ev_cVI (b := 69) (av := [vR 4]) (S := []) (fun q => q) h dX5_leftAtWorst_2 (fun Q' q => TX5_askedDay_69_4 _ q) kvX5_askedDay ml_X5_65 sh_69 rfl (RRc (by decide) (by decide)) (Nat.le_of_ble_eq_true rfl) ⟨Nat.le_of_ble_eq_true rfl, Nat.le_of_ble_eq_true rfl⟩ (fun y1 f1 h => ?_)
  refine ev_istore_n (i := 2) (L' := [some (vR 69), some (vR 4), some (vI y1)]) dX5_leftAtWorst_5 rfl (by decide) rfl ?_
  refine ev_iload_n (i := 2) dX5_leftAtWorst_6 rfl rfl ?_
  refine ev_iconst dX5_leftAtWorst_7 (r32c rfl) ?_
  refine ev_icmp_ne (tgt := 18) dX5_leftAtWorst_8 (by decide) (fun c3 => ?_) (fun c3 => ?_)
  · rw [if_neg c3] at h
    refine ev_aload_n (i := 0) dX5_leftAtWorst_18 rfl rfl ?_
    refine ev_iload_n (i := 2) dX5_leftAtWorst_19 rfl rfl ?_
    refine ev_cVI (b := 69) (av := [vI y1]) (S := []) (fun q => q) h dX5_leftAtWorst_20 (fun Q' q => TX5_worstOn y1 _ q) kvX5_worstOn ml_X5_62 sh_69 rfl (RRc (by decide) (by decide)) (Nat.le_of_ble_eq_true rfl) ⟨Nat.le_of_ble_eq_true rfl, Nat.le_of_ble_eq_true rfl⟩ (fun y2 f2 h => ?_)
    exact ev_iret rfl dX5_leftAtWorst_23 h
  · rw [if_pos c3] at h
    refine ev_aload_n (i := 0) dX5_leftAtWorst_11 rfl rfl ?_
    refine ex_getI (x := (f1 69 0)) dX5_leftAtWorst_12 fl_X5_16 sh_69 (by decide) (by decide) rfl ?_
    refine ev_goto (tgt := 23) dX5_leftAtWorst_15 (by decide) ?_
    exact ev_iret rfl dX5_leftAtWorst_23 h
def FX5_leftAtWorst_69_4  (f : Mm) : Option (Int × Mm) := FX5_leftAtWorst_69_4_0  f
set_option maxRecDepth 100000 in
theorem TX5_leftAtWorst_69_4 {G : GT} {l : Launch} {Q : Option AV → Mem → Prop}  (f : Mm) (h : OkI Q (FX5_leftAtWorst_69_4  f)) : Ret G l MX5_leftAtWorst (3) 0 0 [vR 69, vR 4] (SH, RF, f) Q := by
  refine ret_of (L := [some (vR 69), some (vR 4), none]) (by decide) rfl (Nat.le_of_ble_eq_true rfl) ?_
  exact SX5_leftAtWorst_69_4_0  f h
theorem dX10_leaves_0 : decode cX10_leaves 0 = .ok (.aload_n 0, 1) := by decide +kernel
theorem dX10_leaves_1 : decode cX10_leaves 1 = .ok (.iload_n 1, 1) := by decide +kernel
theorem dX10_leaves_2 : decode cX10_leaves 2 = .ok (.invokevirtual 285, 3) := by decide +kernel
theorem dX10_leaves_5 : decode cX10_leaves 5 = .ok (.istore_n 2, 1) := by decide +kernel
theorem dX10_leaves_6 : decode cX10_leaves 6 = .ok (.iload_n 2, 1) := by decide +kernel
theorem dX10_leaves_7 : decode cX10_leaves 7 = .ok (.ifCond .eq 7, 3) := by decide +kernel
theorem dX10_leaves_14 : decode cX10_leaves 14 = .ok (.aload_n 0, 1) := by decide +kernel
theorem dX10_leaves_15 : decode cX10_leaves 15 = .ok (.iload_n 1, 1) := by decide +kernel
theorem dX10_leaves_16 : decode cX10_leaves 16 = .ok (.invokevirtual 288, 3) := by decide +kernel
theorem dX10_leaves_19 : decode cX10_leaves 19 = .ok (.aload_n 0, 1) := by decide +kernel
theorem dX10_leaves_20 : decode cX10_leaves 20 = .ok (.getfield 19, 3) := by decide +kernel
theorem dX10_leaves_23 : decode cX10_leaves 23 = .ok (.invokevirtual 304, 3) := by decide +kernel
theorem dX10_leaves_26 : decode cX10_leaves 26 = .ok (.ireturn, 1) := by decide +kernel
theorem dX10_leaves_10 : decode cX10_leaves 10 = .ok (.iload_n 2, 1) := by decide +kernel
theorem dX10_leaves_11 : decode cX10_leaves 11 = .ok (.goto 15, 3) := by decide +kernel
def FX10_leaves_0  (x1 : Int) (f : Mm) : Option (Int × Mm) := (b2 (FX10_widthsWrong x1 f) fun y1 f1 => (if y1 = 0 then ((FX10_suspected x1 f1).bind fun f2 => (b2 (FX5_leftAtWorst_69_4 f2) fun y3 f3 => some (y3, f3))) else some (y1, f1)))
set_option maxHeartbeats 4000000 in
set_option maxRecDepth 100000 in
theorem SX10_leaves_0 {G : GT} {l : Launch} {Q : Option AV → Mem → Prop}  (x1 : Int) (f : Mm) (h : OkI Q (FX10_leaves_0  x1 f)) : Ev G l MX10_leaves (Rm 7 0 0) (ZM G Q 0 0) 0 0 0 [some (vR 0), some (vI x1), none] [] (SH, RF, f) := by
  unfold FX10_leaves_0 at h
  refine ev_aload_n (i := 0) dX10_leaves_0 rfl rfl ?_
  refine ev_iload_n (i := 1) dX10_leaves_1 rfl rfl ?_
  refine ev_cVI (b := 0) (av := [vI x1]) (S := []) (fun q => q) h dX10_leaves_2 (fun Q' q => TX10_widthsWrong x1 _ q) kvX10_widthsWrong ml_X10_285 sh_0 rfl (RRc (by decide) (by decide)) (Nat.le_of_ble_eq_true rfl) ⟨Nat.le_of_ble_eq_true rfl, Nat.le_of_ble_eq_true rfl⟩ (fun y1 f1 h => ?_)
  refine ev_istore_n (i := 2) (L' := [some (vR 0), some (vI x1), some (vI y1)]) dX10_leaves_5 rfl (by decide) rfl ?_
  refine ev_iload_n (i := 2) dX10_leaves_6 rfl rfl ?_
  refine ev_if_eq (tgt := 14) dX10_leaves_7 (by decide) (fun c4 => ?_) (fun c4 => ?_)
  · rw [if_pos c4] at h
    refine ev_aload_n (i := 0) dX10_leaves_14 rfl rfl ?_
    refine ev_iload_n (i := 1) dX10_leaves_15 rfl rfl ?_
    refine ev_cVC (b := 0) (av := [vI x1]) (S := []) (fun q => q) h dX10_leaves_16 (fun Q' q => TX10_suspected x1 _ q) kvX10_suspected ml_X10_288 sh_0 rfl (RRc (by decide) (by decide)) (Nat.le_of_ble_eq_true rfl) ⟨Nat.le_of_ble_eq_true rfl, Nat.le_of_ble_eq_true rfl⟩ (fun f2 h => ?_)
    refine ev_aload_n (i := 0) dX10_leaves_19 rfl rfl ?_
    refine ev_getR dX10_leaves_20 fl_X10_19 sh_0 (by decide) (by decide) rf_0_1 ?_
    refine ev_cVI (b := 69) (av := [vR 4]) (S := []) (fun q => q) h dX10_leaves_23 (fun Q' q => TX5_leftAtWorst_69_4 _ q) kvX5_leftAtWorst ml_X10_304 sh_69 rfl (RRc (by decide) (by decide)) (Nat.le_of_ble_eq_true rfl) ⟨Nat.le_of_ble_eq_true rfl, Nat.le_of_ble_eq_true rfl⟩ (fun y3 f3 h => ?_)
    exact ev_iret rfl dX10_leaves_26 h
  · rw [if_neg c4] at h
    refine ev_iload_n (i := 2) dX10_leaves_10 rfl rfl ?_
    refine ev_goto (tgt := 26) dX10_leaves_11 (by decide) ?_
    exact ev_iret rfl dX10_leaves_26 h
def FX10_leaves (x1 : Int) (f : Mm) : Option (Int × Mm) := FX10_leaves_0 x1 f
set_option maxRecDepth 100000 in
theorem TX10_leaves {G : GT} {l : Launch} {Q : Option AV → Mem → Prop} (x1 : Int) (f : Mm) (h : OkI Q (FX10_leaves x1 f)) : Ret G l MX10_leaves (7) 0 0 [vR 0, vI x1] (SH, RF, f) Q := by
  refine ret_of (L := [some (vR 0), some (vI x1), none]) (by decide) rfl (Nat.le_of_ble_eq_true rfl) ?_
  exact SX10_leaves_0 x1 f h
theorem dX10_coolings_70 : decode cX10_coolings 70 = .ok (.iinc 3 1, 3) := by decide +kernel
theorem dX10_coolings_73 : decode cX10_coolings 73 = .ok (.goto (-58), 3) := by decide +kernel
theorem dX10_coolings_15 : decode cX10_coolings 15 = .ok (.iload_n 3, 1) := by decide +kernel
theorem dX10_coolings_16 : decode cX10_coolings 16 = .ok (.bipush 9, 2) := by decide +kernel
theorem dX10_coolings_18 : decode cX10_coolings 18 = .ok (.if_icmp .gt 58, 3) := by decide +kernel
theorem dX10_coolings_76 : decode cX10_coolings 76 = .ok (.iload_n 2, 1) := by decide +kernel
theorem dX10_coolings_77 : decode cX10_coolings 77 = .ok (.ireturn, 1) := by decide +kernel
theorem dX10_coolings_21 : decode cX10_coolings 21 = .ok (.aload_n 0, 1) := by decide +kernel
theorem dX10_coolings_22 : decode cX10_coolings 22 = .ok (.getfield 44, 3) := by decide +kernel
theorem dX10_coolings_25 : decode cX10_coolings 25 = .ok (.iload_n 3, 1) := by decide +kernel
theorem dX10_coolings_26 : decode cX10_coolings 26 = .ok (.putfield 434, 3) := by decide +kernel
theorem dX10_coolings_29 : decode cX10_coolings 29 = .ok (.aload_n 0, 1) := by decide +kernel
theorem dX10_coolings_30 : decode cX10_coolings 30 = .ok (.getfield 44, 3) := by decide +kernel
theorem dX10_coolings_33 : decode cX10_coolings 33 = .ok (.aload_n 0, 1) := by decide +kernel
theorem dX10_coolings_34 : decode cX10_coolings 34 = .ok (.getfield 19, 3) := by decide +kernel
theorem dX10_coolings_37 : decode cX10_coolings 37 = .ok (.aload_n 0, 1) := by decide +kernel
theorem dX10_coolings_38 : decode cX10_coolings 38 = .ok (.getfield 19, 3) := by decide +kernel
theorem dX10_coolings_41 : decode cX10_coolings 41 = .ok (.getfield 144, 3) := by decide +kernel
theorem dX10_coolings_44 : decode cX10_coolings 44 = .ok (.iconst 1, 1) := by decide +kernel
theorem dX10_coolings_45 : decode cX10_coolings 45 = .ok (.isub, 1) := by decide +kernel
theorem dX10_coolings_46 : decode cX10_coolings 46 = .ok (.invokevirtual 226, 3) := by decide +kernel
theorem dX10_coolings_49 : decode cX10_coolings 49 = .ok (.aload_n 0, 1) := by decide +kernel
theorem dX10_coolings_50 : decode cX10_coolings 50 = .ok (.getfield 37, 3) := by decide +kernel
theorem dX10_coolings_53 : decode cX10_coolings 53 = .ok (.iload_n 1, 1) := by decide +kernel
theorem dX10_coolings_54 : decode cX10_coolings 54 = .ok (.aload_n 0, 1) := by decide +kernel
theorem dX10_coolings_55 : decode cX10_coolings 55 = .ok (.getfield 44, 3) := by decide +kernel
theorem dX10_coolings_58 : decode cX10_coolings 58 = .ok (.invokevirtual 435, 3) := by decide +kernel
theorem dX10_coolings_61 : decode cX10_coolings 61 = .ok (.ifCond .eq 9, 3) := by decide +kernel
theorem dX10_coolings_64 : decode cX10_coolings 64 = .ok (.iload_n 2, 1) := by decide +kernel
theorem dX10_coolings_65 : decode cX10_coolings 65 = .ok (.iconst 1, 1) := by decide +kernel
theorem dX10_coolings_66 : decode cX10_coolings 66 = .ok (.iload_n 3, 1) := by decide +kernel
theorem dX10_coolings_67 : decode cX10_coolings 67 = .ok (.ishl, 1) := by decide +kernel
theorem dX10_coolings_68 : decode cX10_coolings 68 = .ok (.ior, 1) := by decide +kernel
theorem dX10_coolings_69 : decode cX10_coolings 69 = .ok (.istore_n 2, 1) := by decide +kernel
theorem dX10_coolings_0 : decode cX10_coolings 0 = .ok (.aload_n 0, 1) := by decide +kernel
theorem dX10_coolings_1 : decode cX10_coolings 1 = .ok (.getfield 44, 3) := by decide +kernel
theorem dX10_coolings_4 : decode cX10_coolings 4 = .ok (.aload_n 0, 1) := by decide +kernel
theorem dX10_coolings_5 : decode cX10_coolings 5 = .ok (.getfield 19, 3) := by decide +kernel
theorem dX10_coolings_8 : decode cX10_coolings 8 = .ok (.invokevirtual 230, 3) := by decide +kernel
theorem dX10_coolings_11 : decode cX10_coolings 11 = .ok (.iconst 0, 1) := by decide +kernel
theorem dX10_coolings_12 : decode cX10_coolings 12 = .ok (.istore_n 2, 1) := by decide +kernel
theorem dX10_coolings_13 : decode cX10_coolings 13 = .ok (.iconst 0, 1) := by decide +kernel
theorem dX10_coolings_14 : decode cX10_coolings 14 = .ok (.istore_n 3, 1) := by decide +kernel
def FX10_coolings_70 (k15 : Int → Int → Int → Mm → Option (Int × Mm)) (x1 : Int) (x2 : Int) (x3 : Int) (f : Mm) : Option (Int × Mm) := k15 x1 x2 (w32 (x3 + 1)) f
set_option maxHeartbeats 4000000 in
set_option maxRecDepth 100000 in
theorem SX10_coolings_70 {G : GT} {l : Launch} {Q : Option AV → Mem → Prop} {k15 : Int → Int → Int → Mm → Option (Int × Mm)} (q15 : ∀ (x1 : Int) (x2 : Int) (x3 : Int) (f : Mm), OkI Q (k15 x1 x2 x3 f) → Ev G l MX10_coolings (Rm 5 0 0) (ZM G Q 0 0) 0 0 15 [some (vR 0), some (vI x1), some (vI x2), some (vI x3)] [] (SH, RF, f)) (x1 : Int) (x2 : Int) (x3 : Int) (f : Mm) (h : OkI Q (FX10_coolings_70 k15 x1 x2 x3 f)) : Ev G l MX10_coolings (Rm 5 0 0) (ZM G Q 0 0) 0 0 70 [some (vR 0), some (vI x1), some (vI x2), some (vI x3)] [] (SH, RF, f) := by
  unfold FX10_coolings_70 at h
  refine ev_iinc (L' := [some (vR 0), some (vI x1), some (vI x2), some (vI (w32 (x3 + 1)))]) dX10_coolings_70 rfl (by decide) rfl ?_
  refine ev_goto (tgt := 15) dX10_coolings_73 (by decide) ?_
  exact q15 x1 x2 (w32 (x3 + 1)) _ h
def FX10_coolings_15  : Nat → Int → Int → Int → Mm → Option (Int × Mm)
  | 0, _, _, _, _ => none
  | n + 1, x1, x2, x3, f => (if 9 < x3 then some (x2, f) else ((FX1_feelThrough_48_4 (w32 ((f 4 1) - 1)) (up f 48 4 x3)).bind fun f1 => (b2 (FX6_tells_40_48 x1 f1) fun y2 f2 => (if y2 = 0 then FX10_coolings_70 (FX10_coolings_15 n) x1 x2 x3 f2 else FX10_coolings_70 (FX10_coolings_15 n) x1 (bOr x2 (bShl 1 x3)) x3 f2))))
set_option maxHeartbeats 4000000 in
set_option maxRecDepth 100000 in
theorem SX10_coolings_15 {G : GT} {l : Launch} {Q : Option AV → Mem → Prop}  : ∀ (n : Nat) (x1 : Int) (x2 : Int) (x3 : Int) (f : Mm), OkI Q (FX10_coolings_15  n x1 x2 x3 f) → Ev G l MX10_coolings (Rm 5 0 0) (ZM G Q 0 0) 0 0 15 [some (vR 0), some (vI x1), some (vI x2), some (vI x3)] [] (SH, RF, f) := by
  intro n
  induction n with
  | zero => intro x1 x2 x3 f h; exact absurd h (by rw [FX10_coolings_15]; exact fun q => q)
  | succ n ih =>
    intro x1 x2 x3 f h
    rw [FX10_coolings_15] at h
    refine ev_iload_n (i := 3) dX10_coolings_15 rfl rfl ?_
    refine ev_bipush (v := 9) dX10_coolings_16 (r32c rfl) (by decide) ?_
    refine ev_icmp_gt (tgt := 76) dX10_coolings_18 (by decide) (fun c4 => ?_) (fun c4 => ?_)
    · rw [if_pos c4] at h
      refine ev_iload_n (i := 2) dX10_coolings_76 rfl rfl ?_
      exact ev_iret rfl dX10_coolings_77 h
    · rw [if_neg c4] at h
      refine ev_aload_n (i := 0) dX10_coolings_21 rfl rfl ?_
      refine ev_getR dX10_coolings_22 fl_X10_44 sh_0 (by decide) (by decide) rf_0_6 ?_
      refine ev_iload_n (i := 3) dX10_coolings_25 rfl rfl ?_
      refine ev_putI dX10_coolings_26 fl_X10_434 sh_48 (by decide) (by decide) ?_
      refine ev_aload_n (i := 0) dX10_coolings_29 rfl rfl ?_
      refine ev_getR dX10_coolings_30 fl_X10_44 sh_0 (by decide) (by decide) rf_0_6 ?_
      refine ev_aload_n (i := 0) dX10_coolings_33 rfl rfl ?_
      refine ev_getR dX10_coolings_34 fl_X10_19 sh_0 (by decide) (by decide) rf_0_1 ?_
      refine ev_aload_n (i := 0) dX10_coolings_37 rfl rfl ?_
      refine ev_getR dX10_coolings_38 fl_X10_19 sh_0 (by decide) (by decide) rf_0_1 ?_
      refine ex_getI (x := (f 4 1)) dX10_coolings_41 fl_X10_144 sh_4 (by decide) (by decide) rfl ?_
      refine ev_iconst dX10_coolings_44 (r32c rfl) ?_
      refine ev_isub dX10_coolings_45 ?_
      refine ev_cVV (b := 48) (av := [vR 4, vI (w32 ((f 4 1) - 1))]) (S := []) (fun q => q) h dX10_coolings_46 (fun Q' q => TX1_feelThrough_48_4 (w32 ((f 4 1) - 1)) _ q) kvX1_feelThrough ml_X10_226 sh_48 rfl (RRc (by decide) (by decide)) (Nat.le_of_ble_eq_true rfl) ⟨Nat.le_of_ble_eq_true rfl, Nat.le_of_ble_eq_true rfl⟩ (fun f1 h => ?_)
      refine ev_aload_n (i := 0) dX10_coolings_49 rfl rfl ?_
      refine ev_getR dX10_coolings_50 fl_X10_37 sh_0 (by decide) (by decide) rf_0_5 ?_
      refine ev_iload_n (i := 1) dX10_coolings_53 rfl rfl ?_
      refine ev_aload_n (i := 0) dX10_coolings_54 rfl rfl ?_
      refine ev_getR dX10_coolings_55 fl_X10_44 sh_0 (by decide) (by decide) rf_0_6 ?_
      refine ev_cVI (b := 40) (av := [vI x1, vR 48]) (S := []) (fun q => q) h dX10_coolings_58 (fun Q' q => TX6_tells_40_48 x1 _ q) kvX6_tells ml_X10_435 sh_40 rfl (RRc (by decide) (by decide)) (Nat.le_of_ble_eq_true rfl) ⟨Nat.le_of_ble_eq_true rfl, Nat.le_of_ble_eq_true rfl⟩ (fun y2 f2 h => ?_)
      refine ev_if_eq (tgt := 70) dX10_coolings_61 (by decide) (fun c3 => ?_) (fun c3 => ?_)
      · rw [if_pos c3] at h
        exact SX10_coolings_70 ih x1 x2 x3 _ h
      · rw [if_neg c3] at h
        refine ev_iload_n (i := 2) dX10_coolings_64 rfl rfl ?_
        refine ev_iconst dX10_coolings_65 (r32c rfl) ?_
        refine ev_iload_n (i := 3) dX10_coolings_66 rfl rfl ?_
        refine ev_ishl dX10_coolings_67 ?_
        refine ev_ior dX10_coolings_68 ?_
        refine ev_istore_n (i := 2) (L' := [some (vR 0), some (vI x1), some (vI (bOr x2 (bShl 1 x3))), some (vI x3)]) dX10_coolings_69 rfl (by decide) rfl ?_
        exact SX10_coolings_70 ih x1 (bOr x2 (bShl 1 x3)) x3 _ h
def FX10_coolings_0  (x1 : Int) (f : Mm) : Option (Int × Mm) := ((FX1_asDone_48_4 f).bind fun f1 => FX10_coolings_15 fu x1 0 0 f1)
set_option maxHeartbeats 4000000 in
set_option maxRecDepth 100000 in
theorem SX10_coolings_0 {G : GT} {l : Launch} {Q : Option AV → Mem → Prop}  (x1 : Int) (f : Mm) (h : OkI Q (FX10_coolings_0  x1 f)) : Ev G l MX10_coolings (Rm 5 0 0) (ZM G Q 0 0) 0 0 0 [some (vR 0), some (vI x1), none, none] [] (SH, RF, f) := by
  unfold FX10_coolings_0 at h
  refine ev_aload_n (i := 0) dX10_coolings_0 rfl rfl ?_
  refine ev_getR dX10_coolings_1 fl_X10_44 sh_0 (by decide) (by decide) rf_0_6 ?_
  refine ev_aload_n (i := 0) dX10_coolings_4 rfl rfl ?_
  refine ev_getR dX10_coolings_5 fl_X10_19 sh_0 (by decide) (by decide) rf_0_1 ?_
  refine ev_cVV (b := 48) (av := [vR 4]) (S := []) (fun q => q) h dX10_coolings_8 (fun Q' q => TX1_asDone_48_4 _ q) kvX1_asDone ml_X10_230 sh_48 rfl (RRc (by decide) (by decide)) (Nat.le_of_ble_eq_true rfl) ⟨Nat.le_of_ble_eq_true rfl, Nat.le_of_ble_eq_true rfl⟩ (fun f1 h => ?_)
  refine ev_iconst dX10_coolings_11 (r32c rfl) ?_
  refine ev_istore_n (i := 2) (L' := [some (vR 0), some (vI x1), some (vI 0), none]) dX10_coolings_12 rfl (by decide) rfl ?_
  refine ev_iconst dX10_coolings_13 (r32c rfl) ?_
  refine ev_istore_n (i := 3) (L' := [some (vR 0), some (vI x1), some (vI 0), some (vI 0)]) dX10_coolings_14 rfl (by decide) rfl ?_
  exact SX10_coolings_15  fu x1 0 0 _ h
def FX10_coolings (x1 : Int) (f : Mm) : Option (Int × Mm) := FX10_coolings_0 x1 f
set_option maxRecDepth 100000 in
theorem TX10_coolings {G : GT} {l : Launch} {Q : Option AV → Mem → Prop} (x1 : Int) (f : Mm) (h : OkI Q (FX10_coolings x1 f)) : Ret G l MX10_coolings (5) 0 0 [vR 0, vI x1] (SH, RF, f) Q := by
  refine ret_of (L := [some (vR 0), some (vI x1), none, none]) (by decide) rfl (Nat.le_of_ble_eq_true rfl) ?_
  exact SX10_coolings_0 x1 f h
theorem dX10_cools_0 : decode cX10_cools 0 = .ok (.aload_n 0, 1) := by decide +kernel
theorem dX10_cools_1 : decode cX10_cools 1 = .ok (.iload_n 1, 1) := by decide +kernel
theorem dX10_cools_2 : decode cX10_cools 2 = .ok (.invokevirtual 285, 3) := by decide +kernel
theorem dX10_cools_5 : decode cX10_cools 5 = .ok (.istore_n 2, 1) := by decide +kernel
theorem dX10_cools_6 : decode cX10_cools 6 = .ok (.iload_n 2, 1) := by decide +kernel
theorem dX10_cools_7 : decode cX10_cools 7 = .ok (.ifCond .eq 7, 3) := by decide +kernel
theorem dX10_cools_14 : decode cX10_cools 14 = .ok (.aload_n 0, 1) := by decide +kernel
theorem dX10_cools_15 : decode cX10_cools 15 = .ok (.iload_n 1, 1) := by decide +kernel
theorem dX10_cools_16 : decode cX10_cools 16 = .ok (.invokevirtual 307, 3) := by decide +kernel
theorem dX10_cools_19 : decode cX10_cools 19 = .ok (.invokestatic 212, 3) := by decide +kernel
theorem dX10_cools_22 : decode cX10_cools 22 = .ok (.ireturn, 1) := by decide +kernel
theorem dX10_cools_10 : decode cX10_cools 10 = .ok (.iload_n 2, 1) := by decide +kernel
theorem dX10_cools_11 : decode cX10_cools 11 = .ok (.goto 11, 3) := by decide +kernel
def FX10_cools_0  (x1 : Int) (f : Mm) : Option (Int × Mm) := (b2 (FX10_widthsWrong x1 f) fun y1 f1 => (if y1 = 0 then (b2 (FX10_coolings x1 f1) fun y2 f2 => (b2 (FJ6_bitCount_0f7a4 y2 f2) fun y3 f3 => some (y3, f3))) else some (y1, f1)))
set_option maxHeartbeats 4000000 in
set_option maxRecDepth 100000 in
theorem SX10_cools_0 {G : GT} {l : Launch} {Q : Option AV → Mem → Prop}  (x1 : Int) (f : Mm) (h : OkI Q (FX10_cools_0  x1 f)) : Ev G l MX10_cools (Rm 6 0 0) (ZM G Q 0 0) 0 0 0 [some (vR 0), some (vI x1), none] [] (SH, RF, f) := by
  unfold FX10_cools_0 at h
  refine ev_aload_n (i := 0) dX10_cools_0 rfl rfl ?_
  refine ev_iload_n (i := 1) dX10_cools_1 rfl rfl ?_
  refine ev_cVI (b := 0) (av := [vI x1]) (S := []) (fun q => q) h dX10_cools_2 (fun Q' q => TX10_widthsWrong x1 _ q) kvX10_widthsWrong ml_X10_285 sh_0 rfl (RRc (by decide) (by decide)) (Nat.le_of_ble_eq_true rfl) ⟨Nat.le_of_ble_eq_true rfl, Nat.le_of_ble_eq_true rfl⟩ (fun y1 f1 h => ?_)
  refine ev_istore_n (i := 2) (L' := [some (vR 0), some (vI x1), some (vI y1)]) dX10_cools_5 rfl (by decide) rfl ?_
  refine ev_iload_n (i := 2) dX10_cools_6 rfl rfl ?_
  refine ev_if_eq (tgt := 14) dX10_cools_7 (by decide) (fun c4 => ?_) (fun c4 => ?_)
  · rw [if_pos c4] at h
    refine ev_aload_n (i := 0) dX10_cools_14 rfl rfl ?_
    refine ev_iload_n (i := 1) dX10_cools_15 rfl rfl ?_
    refine ev_cVI (b := 0) (av := [vI x1]) (S := []) (fun q => q) h dX10_cools_16 (fun Q' q => TX10_coolings x1 _ q) kvX10_coolings ml_X10_307 sh_0 rfl (RRc (by decide) (by decide)) (Nat.le_of_ble_eq_true rfl) ⟨Nat.le_of_ble_eq_true rfl, Nat.le_of_ble_eq_true rfl⟩ (fun y2 f2 h => ?_)
    refine ev_cSI (av := [vI y2]) (S := []) (fun q => q) h dX10_cools_19 (fun Q' q => TJ6_bitCount_0f7a4 y2 _ q) ksJ6_bitCount_0f7a4 ml_X10_212 rfl (RRc (by decide) (by decide)) (Nat.le_of_ble_eq_true rfl) ⟨Nat.le_of_ble_eq_true rfl, Nat.le_of_ble_eq_true rfl⟩ (fun y3 f3 h => ?_)
    exact ev_iret rfl dX10_cools_22 h
  · rw [if_neg c4] at h
    refine ev_iload_n (i := 2) dX10_cools_10 rfl rfl ?_
    refine ev_goto (tgt := 22) dX10_cools_11 (by decide) ?_
    exact ev_iret rfl dX10_cools_22 h
def FX10_cools (x1 : Int) (f : Mm) : Option (Int × Mm) := FX10_cools_0 x1 f
set_option maxRecDepth 100000 in
theorem TX10_cools {G : GT} {l : Launch} {Q : Option AV → Mem → Prop} (x1 : Int) (f : Mm) (h : OkI Q (FX10_cools x1 f)) : Ret G l MX10_cools (6) 0 0 [vR 0, vI x1] (SH, RF, f) Q := by
  refine ret_of (L := [some (vR 0), some (vI x1), none]) (by decide) rfl (Nat.le_of_ble_eq_true rfl) ?_
  exact SX10_cools_0 x1 f h
theorem dX10_leastBit_2 : decode cX10_leastBit 2 = .ok (.iload_n 1, 1) := by decide +kernel
theorem dX10_leastBit_3 : decode cX10_leastBit 3 = .ok (.bipush 32, 2) := by decide +kernel
theorem dX10_leastBit_5 : decode cX10_leastBit 5 = .ok (.if_icmp .ge 19, 3) := by decide +kernel
theorem dX10_leastBit_24 : decode cX10_leastBit 24 = .ok (.iconst (-1), 1) := by decide +kernel
theorem dX10_leastBit_25 : decode cX10_leastBit 25 = .ok (.ireturn, 1) := by decide +kernel
theorem dX10_leastBit_8 : decode cX10_leastBit 8 = .ok (.iload_n 0, 1) := by decide +kernel
theorem dX10_leastBit_9 : decode cX10_leastBit 9 = .ok (.iload_n 1, 1) := by decide +kernel
theorem dX10_leastBit_10 : decode cX10_leastBit 10 = .ok (.invokestatic 164, 3) := by decide +kernel
theorem dX10_leastBit_13 : decode cX10_leastBit 13 = .ok (.ifCond .eq 5, 3) := by decide +kernel
theorem dX10_leastBit_18 : decode cX10_leastBit 18 = .ok (.iinc 1 1, 3) := by decide +kernel
theorem dX10_leastBit_21 : decode cX10_leastBit 21 = .ok (.goto (-19), 3) := by decide +kernel
theorem dX10_leastBit_16 : decode cX10_leastBit 16 = .ok (.iload_n 1, 1) := by decide +kernel
theorem dX10_leastBit_17 : decode cX10_leastBit 17 = .ok (.ireturn, 1) := by decide +kernel
theorem dX10_leastBit_0 : decode cX10_leastBit 0 = .ok (.iconst 0, 1) := by decide +kernel
theorem dX10_leastBit_1 : decode cX10_leastBit 1 = .ok (.istore_n 1, 1) := by decide +kernel
def FX10_leastBit_2  : Nat → Int → Int → Mm → Option (Int × Mm)
  | 0, _, _, _ => none
  | n + 1, x0, x1, f => (if 32 ≤ x1 then some ((-1), f) else (b2 (FX10_holds x0 x1 f) fun y1 f1 => (if y1 = 0 then FX10_leastBit_2 n x0 (w32 (x1 + 1)) f1 else some (x1, f1))))
set_option maxHeartbeats 4000000 in
set_option maxRecDepth 100000 in
theorem SX10_leastBit_2 {G : GT} {l : Launch} {Q : Option AV → Mem → Prop}  : ∀ (n : Nat) (x0 : Int) (x1 : Int) (f : Mm), OkI Q (FX10_leastBit_2  n x0 x1 f) → Ev G l MX10_leastBit (Rm 2 0 0) (ZM G Q 0 0) 0 0 2 [some (vI x0), some (vI x1)] [] (SH, RF, f) := by
  intro n
  induction n with
  | zero => intro x0 x1 f h; exact absurd h (by rw [FX10_leastBit_2]; exact fun q => q)
  | succ n ih =>
    intro x0 x1 f h
    rw [FX10_leastBit_2] at h
    refine ev_iload_n (i := 1) dX10_leastBit_2 rfl rfl ?_
    refine ev_bipush (v := 32) dX10_leastBit_3 (r32c rfl) (by decide) ?_
    refine ev_icmp_ge (tgt := 24) dX10_leastBit_5 (by decide) (fun c3 => ?_) (fun c3 => ?_)
    · rw [if_pos c3] at h
      refine ev_iconst dX10_leastBit_24 (r32c rfl) ?_
      exact ev_iret rfl dX10_leastBit_25 h
    · rw [if_neg c3] at h
      refine ev_iload_n (i := 0) dX10_leastBit_8 rfl rfl ?_
      refine ev_iload_n (i := 1) dX10_leastBit_9 rfl rfl ?_
      refine ev_cSI (av := [vI x0, vI x1]) (S := []) (fun q => q) h dX10_leastBit_10 (fun Q' q => TX10_holds x0 x1 _ q) ksX10_holds ml_X10_164 rfl (RRc (by decide) (by decide)) (Nat.le_of_ble_eq_true rfl) ⟨Nat.le_of_ble_eq_true rfl, Nat.le_of_ble_eq_true rfl⟩ (fun y1 f1 h => ?_)
      refine ev_if_eq (tgt := 18) dX10_leastBit_13 (by decide) (fun c2 => ?_) (fun c2 => ?_)
      · rw [if_pos c2] at h
        refine ev_iinc (L' := [some (vI x0), some (vI (w32 (x1 + 1)))]) dX10_leastBit_18 rfl (by decide) rfl ?_
        refine ev_goto (tgt := 2) dX10_leastBit_21 (by decide) ?_
        exact ih x0 (w32 (x1 + 1)) _ h
      · rw [if_neg c2] at h
        refine ev_iload_n (i := 1) dX10_leastBit_16 rfl rfl ?_
        exact ev_iret rfl dX10_leastBit_17 h
def FX10_leastBit_0  (x0 : Int) (f : Mm) : Option (Int × Mm) := FX10_leastBit_2 fu x0 0 f
set_option maxHeartbeats 4000000 in
set_option maxRecDepth 100000 in
theorem SX10_leastBit_0 {G : GT} {l : Launch} {Q : Option AV → Mem → Prop}  (x0 : Int) (f : Mm) (h : OkI Q (FX10_leastBit_0  x0 f)) : Ev G l MX10_leastBit (Rm 2 0 0) (ZM G Q 0 0) 0 0 0 [some (vI x0), none] [] (SH, RF, f) := by
  unfold FX10_leastBit_0 at h
  refine ev_iconst dX10_leastBit_0 (r32c rfl) ?_
  refine ev_istore_n (i := 1) (L' := [some (vI x0), some (vI 0)]) dX10_leastBit_1 rfl (by decide) rfl ?_
  exact SX10_leastBit_2  fu x0 0 _ h
def FX10_leastBit (x0 : Int) (f : Mm) : Option (Int × Mm) := FX10_leastBit_0 x0 f
set_option maxRecDepth 100000 in
theorem TX10_leastBit {G : GT} {l : Launch} {Q : Option AV → Mem → Prop} (x0 : Int) (f : Mm) (h : OkI Q (FX10_leastBit x0 f)) : Ret G l MX10_leastBit (2) 0 0 [vI x0] (SH, RF, f) Q := by
  refine ret_of (L := [some (vI x0), none]) (by decide) rfl (Nat.le_of_ble_eq_true rfl) ?_
  exact SX10_leastBit_0 x0 f h
theorem dX10_cool_0 : decode cX10_cool 0 = .ok (.aload_n 0, 1) := by decide +kernel
theorem dX10_cool_1 : decode cX10_cool 1 = .ok (.iload_n 1, 1) := by decide +kernel
theorem dX10_cool_2 : decode cX10_cool 2 = .ok (.invokevirtual 285, 3) := by decide +kernel
theorem dX10_cool_5 : decode cX10_cool 5 = .ok (.istore_n 2, 1) := by decide +kernel
theorem dX10_cool_6 : decode cX10_cool 6 = .ok (.iload_n 2, 1) := by decide +kernel
theorem dX10_cool_7 : decode cX10_cool 7 = .ok (.ifCond .eq 7, 3) := by decide +kernel
theorem dX10_cool_14 : decode cX10_cool 14 = .ok (.aload_n 0, 1) := by decide +kernel
theorem dX10_cool_15 : decode cX10_cool 15 = .ok (.iload_n 1, 1) := by decide +kernel
theorem dX10_cool_16 : decode cX10_cool 16 = .ok (.invokevirtual 307, 3) := by decide +kernel
theorem dX10_cool_19 : decode cX10_cool 19 = .ok (.invokestatic 310, 3) := by decide +kernel
theorem dX10_cool_22 : decode cX10_cool 22 = .ok (.ireturn, 1) := by decide +kernel
theorem dX10_cool_10 : decode cX10_cool 10 = .ok (.iload_n 2, 1) := by decide +kernel
theorem dX10_cool_11 : decode cX10_cool 11 = .ok (.goto 11, 3) := by decide +kernel
def FX10_cool_0  (x1 : Int) (f : Mm) : Option (Int × Mm) := (b2 (FX10_widthsWrong x1 f) fun y1 f1 => (if y1 = 0 then (b2 (FX10_coolings x1 f1) fun y2 f2 => (b2 (FX10_leastBit y2 f2) fun y3 f3 => some (y3, f3))) else some (y1, f1)))
set_option maxHeartbeats 4000000 in
set_option maxRecDepth 100000 in
theorem SX10_cool_0 {G : GT} {l : Launch} {Q : Option AV → Mem → Prop}  (x1 : Int) (f : Mm) (h : OkI Q (FX10_cool_0  x1 f)) : Ev G l MX10_cool (Rm 6 0 0) (ZM G Q 0 0) 0 0 0 [some (vR 0), some (vI x1), none] [] (SH, RF, f) := by
  unfold FX10_cool_0 at h
  refine ev_aload_n (i := 0) dX10_cool_0 rfl rfl ?_
  refine ev_iload_n (i := 1) dX10_cool_1 rfl rfl ?_
  refine ev_cVI (b := 0) (av := [vI x1]) (S := []) (fun q => q) h dX10_cool_2 (fun Q' q => TX10_widthsWrong x1 _ q) kvX10_widthsWrong ml_X10_285 sh_0 rfl (RRc (by decide) (by decide)) (Nat.le_of_ble_eq_true rfl) ⟨Nat.le_of_ble_eq_true rfl, Nat.le_of_ble_eq_true rfl⟩ (fun y1 f1 h => ?_)
  refine ev_istore_n (i := 2) (L' := [some (vR 0), some (vI x1), some (vI y1)]) dX10_cool_5 rfl (by decide) rfl ?_
  refine ev_iload_n (i := 2) dX10_cool_6 rfl rfl ?_
  refine ev_if_eq (tgt := 14) dX10_cool_7 (by decide) (fun c4 => ?_) (fun c4 => ?_)
  · rw [if_pos c4] at h
    refine ev_aload_n (i := 0) dX10_cool_14 rfl rfl ?_
    refine ev_iload_n (i := 1) dX10_cool_15 rfl rfl ?_
    refine ev_cVI (b := 0) (av := [vI x1]) (S := []) (fun q => q) h dX10_cool_16 (fun Q' q => TX10_coolings x1 _ q) kvX10_coolings ml_X10_307 sh_0 rfl (RRc (by decide) (by decide)) (Nat.le_of_ble_eq_true rfl) ⟨Nat.le_of_ble_eq_true rfl, Nat.le_of_ble_eq_true rfl⟩ (fun y2 f2 h => ?_)
    refine ev_cSI (av := [vI y2]) (S := []) (fun q => q) h dX10_cool_19 (fun Q' q => TX10_leastBit y2 _ q) ksX10_leastBit ml_X10_310 rfl (RRc (by decide) (by decide)) (Nat.le_of_ble_eq_true rfl) ⟨Nat.le_of_ble_eq_true rfl, Nat.le_of_ble_eq_true rfl⟩ (fun y3 f3 h => ?_)
    exact ev_iret rfl dX10_cool_22 h
  · rw [if_neg c4] at h
    refine ev_iload_n (i := 2) dX10_cool_10 rfl rfl ?_
    refine ev_goto (tgt := 22) dX10_cool_11 (by decide) ?_
    exact ev_iret rfl dX10_cool_22 h
def FX10_cool (x1 : Int) (f : Mm) : Option (Int × Mm) := FX10_cool_0 x1 f
set_option maxRecDepth 100000 in
theorem TX10_cool {G : GT} {l : Launch} {Q : Option AV → Mem → Prop} (x1 : Int) (f : Mm) (h : OkI Q (FX10_cool x1 f)) : Ret G l MX10_cool (6) 0 0 [vR 0, vI x1] (SH, RF, f) Q := by
  refine ret_of (L := [some (vR 0), some (vI x1), none]) (by decide) rfl (Nat.le_of_ble_eq_true rfl) ?_
  exact SX10_cool_0 x1 f h
theorem dX0_mayChoose_25 : decode cX0_mayChoose 25 = .ok (.iconst 1, 1) := by decide +kernel
theorem dX0_mayChoose_26 : decode cX0_mayChoose 26 = .ok (.goto 4, 3) := by decide +kernel
theorem dX0_mayChoose_30 : decode cX0_mayChoose 30 = .ok (.ireturn, 1) := by decide +kernel
theorem dX0_mayChoose_0 : decode cX0_mayChoose 0 = .ok (.iload_n 2, 1) := by decide +kernel
theorem dX0_mayChoose_1 : decode cX0_mayChoose 1 = .ok (.iconst (-1), 1) := by decide +kernel
theorem dX0_mayChoose_2 : decode cX0_mayChoose 2 = .ok (.if_icmp .eq 23, 3) := by decide +kernel
theorem dX0_mayChoose_5 : decode cX0_mayChoose 5 = .ok (.aload_n 0, 1) := by decide +kernel
theorem dX0_mayChoose_6 : decode cX0_mayChoose 6 = .ok (.iload_n 2, 1) := by decide +kernel
theorem dX0_mayChoose_7 : decode cX0_mayChoose 7 = .ok (.invokevirtual 69, 3) := by decide +kernel
theorem dX0_mayChoose_10 : decode cX0_mayChoose 10 = .ok (.ifCond .eq 19, 3) := by decide +kernel
theorem dX0_mayChoose_29 : decode cX0_mayChoose 29 = .ok (.iconst 0, 1) := by decide +kernel
theorem dX0_mayChoose_13 : decode cX0_mayChoose 13 = .ok (.aload_n 0, 1) := by decide +kernel
theorem dX0_mayChoose_14 : decode cX0_mayChoose 14 = .ok (.getfield 17, 3) := by decide +kernel
theorem dX0_mayChoose_17 : decode cX0_mayChoose 17 = .ok (.iload_n 2, 1) := by decide +kernel
theorem dX0_mayChoose_18 : decode cX0_mayChoose 18 = .ok (.aaload, 1) := by decide +kernel
theorem dX0_mayChoose_19 : decode cX0_mayChoose 19 = .ok (.iconst 0, 1) := by decide +kernel
theorem dX0_mayChoose_20 : decode cX0_mayChoose 20 = .ok (.iaload, 1) := by decide +kernel
theorem dX0_mayChoose_21 : decode cX0_mayChoose 21 = .ok (.iload_n 1, 1) := by decide +kernel
theorem dX0_mayChoose_22 : decode cX0_mayChoose 22 = .ok (.if_icmp .ne 7, 3) := by decide +kernel
def FX0_mayChoose_4_25   (f : Mm) : Option (Int × Mm) := some (1, f)
set_option maxHeartbeats 4000000 in
set_option maxRecDepth 100000 in
theorem SX0_mayChoose_4_25 {G : GT} {l : Launch} {Q : Option AV → Mem → Prop}   (f : Mm) (h : OkI Q (FX0_mayChoose_4_25   f)) : Ev G l MX0_mayChoose (Rm 2 0 0) (ZM G Q 0 0) 0 0 25 [none, none, none] [] (SH, RF, f) := by
  unfold FX0_mayChoose_4_25 at h
  refine ev_iconst dX0_mayChoose_25 (r32c rfl) ?_
  refine ev_goto (tgt := 30) dX0_mayChoose_26 (by decide) ?_
  exact ev_zret rfl (by decide) dX0_mayChoose_30 h
def FX0_mayChoose_4_0  (x1 : Int) (x2 : Int) (f : Mm) : Option (Int × Mm) := (if x2 = (-1) then FX0_mayChoose_4_25 f else (b2 (FX0_hasDeed_4 x2 f) fun y1 f1 => (if y1 = 0 then some (0, f1) else (if 0 ≤ x2 ∧ x2 < 4 then (if (f1 (7 + x2.toNat) 0) = x1 then FX0_mayChoose_4_25 f1 else some (0, f1)) else none))))
set_option maxHeartbeats 4000000 in
set_option maxRecDepth 100000 in
theorem SX0_mayChoose_4_0 {G : GT} {l : Launch} {Q : Option AV → Mem → Prop}  (x1 : Int) (x2 : Int) (f : Mm) (h : OkI Q (FX0_mayChoose_4_0  x1 x2 f)) : Ev G l MX0_mayChoose (Rm 2 0 0) (ZM G Q 0 0) 0 0 0 [some (vR 4), some (vI x1), some (vI x2)] [] (SH, RF, f) := by
  unfold FX0_mayChoose_4_0 at h
  refine ev_iload_n (i := 2) dX0_mayChoose_0 rfl rfl ?_
  refine ev_iconst dX0_mayChoose_1 (r32c rfl) ?_
  refine ev_icmp_eq (tgt := 25) dX0_mayChoose_2 (by decide) (fun c5 => ?_) (fun c5 => ?_)
  · rw [if_pos c5] at h
    refine ev_fg [false, false, false] rfl ?_
    exact SX0_mayChoose_4_25   _ h
  · rw [if_neg c5] at h
    refine ev_aload_n (i := 0) dX0_mayChoose_5 rfl rfl ?_
    refine ev_iload_n (i := 2) dX0_mayChoose_6 rfl rfl ?_
    refine ev_cVI (b := 4) (av := [vI x2]) (S := []) (fun q => q) h dX0_mayChoose_7 (fun Q' q => TX0_hasDeed_4 x2 _ q) kvX0_hasDeed ml_X0_69 sh_4 rfl (RRc (by decide) (by decide)) (Nat.le_of_ble_eq_true rfl) ⟨Nat.le_of_ble_eq_true rfl, Nat.le_of_ble_eq_true rfl⟩ (fun y1 f1 h => ?_)
    refine ev_if_eq (tgt := 29) dX0_mayChoose_10 (by decide) (fun c4 => ?_) (fun c4 => ?_)
    · rw [if_pos c4] at h
      refine ev_iconst dX0_mayChoose_29 (r32c rfl) ?_
      exact ev_zret rfl (by decide) dX0_mayChoose_30 h
    · rw [if_neg c4] at h
      refine ev_aload_n (i := 0) dX0_mayChoose_13 rfl rfl ?_
      refine ev_getR dX0_mayChoose_14 fl_X0_17 sh_4 (by decide) (by decide) rf_4_8 ?_
      refine ev_iload_n (i := 2) dX0_mayChoose_17 rfl rfl ?_
      by_cases g2 : 0 ≤ x2 ∧ x2 < 4
      · rw [if_pos g2] at h
        refine ev_aald (b := (7 + x2.toNat)) dX0_mayChoose_18 (Or.inl rfl) sh_6 g2.1 g2.2 (rfr_6 g2) ?_
        refine ev_iconst dX0_mayChoose_19 (r32c rfl) ?_
        refine ex_iald (x := (f1 (7 + x2.toNat) 0)) dX0_mayChoose_20 (shr_6 g2) (by decide) (by decide) rfl ?_
        refine ev_iload_n (i := 1) dX0_mayChoose_21 rfl rfl ?_
        refine ev_icmp_ne (tgt := 29) dX0_mayChoose_22 (by decide) (fun c3 => ?_) (fun c3 => ?_)
        · rw [if_neg c3] at h
          refine ev_iconst dX0_mayChoose_29 (r32c rfl) ?_
          exact ev_zret rfl (by decide) dX0_mayChoose_30 h
        · rw [if_pos c3] at h
          refine ev_fg [false, false, false] rfl ?_
          exact SX0_mayChoose_4_25   _ h
      · rw [if_neg g2] at h; exact h.elim
def FX0_mayChoose_4 (x1 : Int) (x2 : Int) (f : Mm) : Option (Int × Mm) := FX0_mayChoose_4_0 x1 x2 f
set_option maxRecDepth 100000 in
theorem TX0_mayChoose_4 {G : GT} {l : Launch} {Q : Option AV → Mem → Prop} (x1 : Int) (x2 : Int) (f : Mm) (h : OkI Q (FX0_mayChoose_4 x1 x2 f)) : Ret G l MX0_mayChoose (2) 0 0 [vR 4, vI x1, vI x2] (SH, RF, f) Q := by
  refine ret_of (L := [some (vR 4), some (vI x1), some (vI x2)]) (by decide) rfl (Nat.le_of_ble_eq_true rfl) ?_
  exact SX0_mayChoose_4_0 x1 x2 f h
theorem dX9_agree_0 : decode cX9_agree 0 = .ok (.aload_n 2, 1) := by decide +kernel
theorem dX9_agree_1 : decode cX9_agree 1 = .ok (.aload_n 1, 1) := by decide +kernel
theorem dX9_agree_2 : decode cX9_agree 2 = .ok (.invokevirtual 38, 3) := by decide +kernel
theorem dX9_agree_5 : decode cX9_agree 5 = .ok (.aload_n 2, 1) := by decide +kernel
theorem dX9_agree_6 : decode cX9_agree 6 = .ok (.getfield 43, 3) := by decide +kernel
theorem dX9_agree_9 : decode cX9_agree 9 = .ok (.iload_n 3, 1) := by decide +kernel
theorem dX9_agree_10 : decode cX9_agree 10 = .ok (.iload 4, 2) := by decide +kernel
theorem dX9_agree_12 : decode cX9_agree 12 = .ok (.iastore, 1) := by decide +kernel
theorem dX9_agree_13 : decode cX9_agree 13 = .ok (.aload_n 2, 1) := by decide +kernel
theorem dX9_agree_14 : decode cX9_agree 14 = .ok (.iload_n 3, 1) := by decide +kernel
theorem dX9_agree_15 : decode cX9_agree 15 = .ok (.putfield 47, 3) := by decide +kernel
theorem dX9_agree_18 : decode cX9_agree 18 = .ok (.aload_n 2, 1) := by decide +kernel
theorem dX9_agree_19 : decode cX9_agree 19 = .ok (.iload 5, 2) := by decide +kernel
theorem dX9_agree_21 : decode cX9_agree 21 = .ok (.putfield 50, 3) := by decide +kernel
theorem dX9_agree_24 : decode cX9_agree 24 = .ok (.aload_n 2, 1) := by decide +kernel
theorem dX9_agree_25 : decode cX9_agree 25 = .ok (.aload_n 1, 1) := by decide +kernel
theorem dX9_agree_26 : decode cX9_agree 26 = .ok (.invokevirtual 53, 3) := by decide +kernel
theorem dX9_agree_29 : decode cX9_agree 29 = .ok (.return_, 1) := by decide +kernel
def FX9_agree_95_4_48_0  (x3 : Int) (x4 : Int) (x5 : Int) (f : Mm) : Option Mm := ((FX1_asDone_48_4 f).bind fun f1 => (if 0 ≤ x3 ∧ x3 < 6 then ((FX1_walk_48_4 (up (up (up f1 49 x3.toNat x4) 48 2 x3) 48 3 x5)).bind fun f3 => some f3) else none))
set_option maxHeartbeats 4000000 in
set_option maxRecDepth 100000 in
theorem SX9_agree_95_4_48_0 {G : GT} {l : Launch} {Q : Option AV → Mem → Prop}  (x3 : Int) (x4 : Int) (x5 : Int) (f : Mm) (h : OkV Q (FX9_agree_95_4_48_0  x3 x4 x5 f)) : Ev G l MX9_agree (Rm 5 0 0) (ZM G Q 0 0) 0 0 0 [none, some (vR 4), some (vR 48), some (vI x3), some (vI x4), some (vI x5)] [] (SH, RF, f) := by
  unfold FX9_agree_95_4_48_0 at h
  refine ev_aload_n (i := 2) dX9_agree_0 rfl rfl ?_
  refine ev_aload_n (i := 1) dX9_agree_1 rfl rfl ?_
  refine ev_cVV (b := 48) (av := [vR 4]) (S := []) (fun q => q) h dX9_agree_2 (fun Q' q => TX1_asDone_48_4 _ q) kvX1_asDone ml_X9_38 sh_48 rfl (RRc (by decide) (by decide)) (Nat.le_of_ble_eq_true rfl) ⟨Nat.le_of_ble_eq_true rfl, Nat.le_of_ble_eq_true rfl⟩ (fun f1 h => ?_)
  refine ev_aload_n (i := 2) dX9_agree_5 rfl rfl ?_
  refine ev_getR dX9_agree_6 fl_X9_43 sh_48 (by decide) (by decide) rf_48_0 ?_
  refine ev_iload_n (i := 3) dX9_agree_9 rfl rfl ?_
  refine ev_iload dX9_agree_10 rfl ?_
  by_cases g2 : 0 ≤ x3 ∧ x3 < 6
  · rw [if_pos g2] at h
    refine ex_iast (j := x3.toNat) dX9_agree_12 sh_49 g2.1 g2.2 rfl ?_
    refine ev_aload_n (i := 2) dX9_agree_13 rfl rfl ?_
    refine ev_iload_n (i := 3) dX9_agree_14 rfl rfl ?_
    refine ev_putI dX9_agree_15 fl_X9_47 sh_48 (by decide) (by decide) ?_
    refine ev_aload_n (i := 2) dX9_agree_18 rfl rfl ?_
    refine ev_iload dX9_agree_19 rfl ?_
    refine ev_putI dX9_agree_21 fl_X9_50 sh_48 (by decide) (by decide) ?_
    refine ev_aload_n (i := 2) dX9_agree_24 rfl rfl ?_
    refine ev_aload_n (i := 1) dX9_agree_25 rfl rfl ?_
    refine ev_cVV (b := 48) (av := [vR 4]) (S := []) (fun q => q) h dX9_agree_26 (fun Q' q => TX1_walk_48_4 _ q) kvX1_walk ml_X9_53 sh_48 rfl (RRc (by decide) (by decide)) (Nat.le_of_ble_eq_true rfl) ⟨Nat.le_of_ble_eq_true rfl, Nat.le_of_ble_eq_true rfl⟩ (fun f3 h => ?_)
    exact ev_vret rfl dX9_agree_29 h
  · rw [if_neg g2] at h; exact h.elim
def FX9_agree_95_4_48 (x3 : Int) (x4 : Int) (x5 : Int) (f : Mm) : Option Mm := FX9_agree_95_4_48_0 x3 x4 x5 f
set_option maxRecDepth 100000 in
theorem TX9_agree_95_4_48 {G : GT} {l : Launch} {Q : Option AV → Mem → Prop} (x3 : Int) (x4 : Int) (x5 : Int) (f : Mm) (h : OkV Q (FX9_agree_95_4_48 x3 x4 x5 f)) : Ret G l MX9_agree (5) 0 0 [vR 95, vR 4, vR 48, vI x3, vI x4, vI x5] (SH, RF, f) Q := by
  refine ret_of (L := [some (vR 95), some (vR 4), some (vR 48), some (vI x3), some (vI x4), some (vI x5)]) (by decide) rfl (Nat.le_of_ble_eq_true rfl) ?_
  refine ev_fg [false, true, true, true, true, true] rfl ?_
  exact SX9_agree_95_4_48_0 x3 x4 x5 f h
theorem dX9_gainOf_50 : decode cX9_gainOf 50 = .ok (.aload_n 1, 1) := by decide +kernel
theorem dX9_gainOf_51 : decode cX9_gainOf 51 = .ok (.iload 5, 2) := by decide +kernel
theorem dX9_gainOf_53 : decode cX9_gainOf 53 = .ok (.iload 6, 2) := by decide +kernel
theorem dX9_gainOf_55 : decode cX9_gainOf 55 = .ok (.iand, 1) := by decide +kernel
theorem dX9_gainOf_56 : decode cX9_gainOf 56 = .ok (.invokevirtual 66, 3) := by decide +kernel
theorem dX9_gainOf_59 : decode cX9_gainOf 59 = .ok (.aload_n 1, 1) := by decide +kernel
theorem dX9_gainOf_60 : decode cX9_gainOf 60 = .ok (.iload 4, 2) := by decide +kernel
theorem dX9_gainOf_62 : decode cX9_gainOf 62 = .ok (.invokevirtual 70, 3) := by decide +kernel
theorem dX9_gainOf_65 : decode cX9_gainOf 65 = .ok (.isub, 1) := by decide +kernel
theorem dX9_gainOf_66 : decode cX9_gainOf 66 = .ok (.ireturn, 1) := by decide +kernel
theorem dX9_gainOf_44 : decode cX9_gainOf 44 = .ok (.iinc 7 1, 3) := by decide +kernel
theorem dX9_gainOf_47 : decode cX9_gainOf 47 = .ok (.goto (-34), 3) := by decide +kernel
theorem dX9_gainOf_13 : decode cX9_gainOf 13 = .ok (.iload 7, 2) := by decide +kernel
theorem dX9_gainOf_15 : decode cX9_gainOf 15 = .ok (.aload_n 1, 1) := by decide +kernel
theorem dX9_gainOf_16 : decode cX9_gainOf 16 = .ok (.getfield 60, 3) := by decide +kernel
theorem dX9_gainOf_19 : decode cX9_gainOf 19 = .ok (.if_icmp .ge 31, 3) := by decide +kernel
theorem dX9_gainOf_22 : decode cX9_gainOf 22 = .ok (.aload_n 1, 1) := by decide +kernel
theorem dX9_gainOf_23 : decode cX9_gainOf 23 = .ok (.getfield 63, 3) := by decide +kernel
theorem dX9_gainOf_26 : decode cX9_gainOf 26 = .ok (.iload 7, 2) := by decide +kernel
theorem dX9_gainOf_28 : decode cX9_gainOf 28 = .ok (.aaload, 1) := by decide +kernel
theorem dX9_gainOf_29 : decode cX9_gainOf 29 = .ok (.iconst 0, 1) := by decide +kernel
theorem dX9_gainOf_30 : decode cX9_gainOf 30 = .ok (.iaload, 1) := by decide +kernel
theorem dX9_gainOf_31 : decode cX9_gainOf 31 = .ok (.iload_n 3, 1) := by decide +kernel
theorem dX9_gainOf_32 : decode cX9_gainOf 32 = .ok (.if_icmp .ne 12, 3) := by decide +kernel
theorem dX9_gainOf_35 : decode cX9_gainOf 35 = .ok (.iload 6, 2) := by decide +kernel
theorem dX9_gainOf_37 : decode cX9_gainOf 37 = .ok (.iconst 1, 1) := by decide +kernel
theorem dX9_gainOf_38 : decode cX9_gainOf 38 = .ok (.iload 7, 2) := by decide +kernel
theorem dX9_gainOf_40 : decode cX9_gainOf 40 = .ok (.ishl, 1) := by decide +kernel
theorem dX9_gainOf_41 : decode cX9_gainOf 41 = .ok (.ior, 1) := by decide +kernel
theorem dX9_gainOf_42 : decode cX9_gainOf 42 = .ok (.istore 6, 2) := by decide +kernel
theorem dX9_gainOf_0 : decode cX9_gainOf 0 = .ok (.aload_n 2, 1) := by decide +kernel
theorem dX9_gainOf_1 : decode cX9_gainOf 1 = .ok (.aload_n 1, 1) := by decide +kernel
theorem dX9_gainOf_2 : decode cX9_gainOf 2 = .ok (.invokevirtual 56, 3) := by decide +kernel
theorem dX9_gainOf_5 : decode cX9_gainOf 5 = .ok (.istore 5, 2) := by decide +kernel
theorem dX9_gainOf_7 : decode cX9_gainOf 7 = .ok (.iconst 0, 1) := by decide +kernel
theorem dX9_gainOf_8 : decode cX9_gainOf 8 = .ok (.istore 6, 2) := by decide +kernel
theorem dX9_gainOf_10 : decode cX9_gainOf 10 = .ok (.iconst 0, 1) := by decide +kernel
theorem dX9_gainOf_11 : decode cX9_gainOf 11 = .ok (.istore 7, 2) := by decide +kernel
def FX9_gainOf_95_4_48_50  (x4 : Int) (x5 : Int) (x6 : Int) (f : Mm) : Option (Int × Mm) := (b2 (FX0_payOf_4 (bAnd x5 x6) f) fun y1 f1 => (b2 (FX0_costOf_4 x4 f1) fun y2 f2 => some ((w32 (y1 - y2)), f2)))
set_option maxHeartbeats 4000000 in
set_option maxRecDepth 100000 in
theorem SX9_gainOf_95_4_48_50 {G : GT} {l : Launch} {Q : Option AV → Mem → Prop}  (x4 : Int) (x5 : Int) (x6 : Int) (f : Mm) (h : OkI Q (FX9_gainOf_95_4_48_50  x4 x5 x6 f)) : Ev G l MX9_gainOf (Rm 4 0 0) (ZM G Q 0 0) 0 0 50 [none, some (vR 4), none, none, some (vI x4), some (vI x5), some (vI x6), none] [] (SH, RF, f) := by
  unfold FX9_gainOf_95_4_48_50 at h
  refine ev_aload_n (i := 1) dX9_gainOf_50 rfl rfl ?_
  refine ev_iload dX9_gainOf_51 rfl ?_
  refine ev_iload dX9_gainOf_53 rfl ?_
  refine ev_iand dX9_gainOf_55 ?_
  refine ev_cVI (b := 4) (av := [vI (bAnd x5 x6)]) (S := []) (fun q => q) h dX9_gainOf_56 (fun Q' q => TX0_payOf_4 (bAnd x5 x6) _ q) kvX0_payOf ml_X9_66 sh_4 rfl (RRc (by decide) (by decide)) (Nat.le_of_ble_eq_true rfl) ⟨Nat.le_of_ble_eq_true rfl, Nat.le_of_ble_eq_true rfl⟩ (fun y1 f1 h => ?_)
  refine ev_aload_n (i := 1) dX9_gainOf_59 rfl rfl ?_
  refine ev_iload dX9_gainOf_60 rfl ?_
  refine ev_cVI (b := 4) (av := [vI x4]) (S := [vI y1]) (fun q => q) h dX9_gainOf_62 (fun Q' q => TX0_costOf_4 x4 _ q) kvX0_costOf ml_X9_70 sh_4 rfl (RRc (by decide) (by decide)) (Nat.le_of_ble_eq_true rfl) ⟨Nat.le_of_ble_eq_true rfl, Nat.le_of_ble_eq_true rfl⟩ (fun y2 f2 h => ?_)
  refine ev_isub dX9_gainOf_65 ?_
  exact ev_iret rfl dX9_gainOf_66 h
def FX9_gainOf_95_4_48_44 (k13 : Int → Int → Int → Int → Int → Mm → Option (Int × Mm)) (x3 : Int) (x4 : Int) (x5 : Int) (x6 : Int) (x7 : Int) (f : Mm) : Option (Int × Mm) := k13 x3 x4 x5 x6 (w32 (x7 + 1)) f
set_option maxHeartbeats 4000000 in
set_option maxRecDepth 100000 in
theorem SX9_gainOf_95_4_48_44 {G : GT} {l : Launch} {Q : Option AV → Mem → Prop} {k13 : Int → Int → Int → Int → Int → Mm → Option (Int × Mm)} (q13 : ∀ (x3 : Int) (x4 : Int) (x5 : Int) (x6 : Int) (x7 : Int) (f : Mm), OkI Q (k13 x3 x4 x5 x6 x7 f) → Ev G l MX9_gainOf (Rm 4 0 0) (ZM G Q 0 0) 0 0 13 [none, some (vR 4), none, some (vI x3), some (vI x4), some (vI x5), some (vI x6), some (vI x7)] [] (SH, RF, f)) (x3 : Int) (x4 : Int) (x5 : Int) (x6 : Int) (x7 : Int) (f : Mm) (h : OkI Q (FX9_gainOf_95_4_48_44 k13 x3 x4 x5 x6 x7 f)) : Ev G l MX9_gainOf (Rm 4 0 0) (ZM G Q 0 0) 0 0 44 [none, some (vR 4), none, some (vI x3), some (vI x4), some (vI x5), some (vI x6), some (vI x7)] [] (SH, RF, f) := by
  unfold FX9_gainOf_95_4_48_44 at h
  refine ev_iinc (L' := [none, some (vR 4), none, some (vI x3), some (vI x4), some (vI x5), some (vI x6), some (vI (w32 (x7 + 1)))]) dX9_gainOf_44 rfl (by decide) rfl ?_
  refine ev_goto (tgt := 13) dX9_gainOf_47 (by decide) ?_
  exact q13 x3 x4 x5 x6 (w32 (x7 + 1)) _ h
def FX9_gainOf_95_4_48_13  : Nat → Int → Int → Int → Int → Int → Mm → Option (Int × Mm)
  | 0, _, _, _, _, _, _ => none
  | n + 1, x3, x4, x5, x6, x7, f => (if (f 4 5) ≤ x7 then FX9_gainOf_95_4_48_50 x4 x5 x6 f else (if 0 ≤ x7 ∧ x7 < 6 then (if (f (12 + x7.toNat) 0) = x3 then FX9_gainOf_95_4_48_44 (FX9_gainOf_95_4_48_13 n) x3 x4 x5 (bOr x6 (bShl 1 x7)) x7 f else FX9_gainOf_95_4_48_44 (FX9_gainOf_95_4_48_13 n) x3 x4 x5 x6 x7 f) else none))
set_option maxHeartbeats 4000000 in
set_option maxRecDepth 100000 in
theorem SX9_gainOf_95_4_48_13 {G : GT} {l : Launch} {Q : Option AV → Mem → Prop}  : ∀ (n : Nat) (x3 : Int) (x4 : Int) (x5 : Int) (x6 : Int) (x7 : Int) (f : Mm), OkI Q (FX9_gainOf_95_4_48_13  n x3 x4 x5 x6 x7 f) → Ev G l MX9_gainOf (Rm 4 0 0) (ZM G Q 0 0) 0 0 13 [none, some (vR 4), none, some (vI x3), some (vI x4), some (vI x5), some (vI x6), some (vI x7)] [] (SH, RF, f) := by
  intro n
  induction n with
  | zero => intro x3 x4 x5 x6 x7 f h; exact absurd h (by rw [FX9_gainOf_95_4_48_13]; exact fun q => q)
  | succ n ih =>
    intro x3 x4 x5 x6 x7 f h
    rw [FX9_gainOf_95_4_48_13] at h
    refine ev_iload dX9_gainOf_13 rfl ?_
    refine ev_aload_n (i := 1) dX9_gainOf_15 rfl rfl ?_
    refine ex_getI (x := (f 4 5)) dX9_gainOf_16 fl_X9_60 sh_4 (by decide) (by decide) rfl ?_
    refine ev_icmp_ge (tgt := 50) dX9_gainOf_19 (by decide) (fun c3 => ?_) (fun c3 => ?_)
    · rw [if_pos c3] at h
      refine ev_fg [true, true, true, false, true, true, true, false] rfl ?_
      exact SX9_gainOf_95_4_48_50  x4 x5 x6 _ h
    · rw [if_neg c3] at h
      refine ev_aload_n (i := 1) dX9_gainOf_22 rfl rfl ?_
      refine ev_getR dX9_gainOf_23 fl_X9_63 sh_4 (by decide) (by decide) rf_4_9 ?_
      refine ev_iload dX9_gainOf_26 rfl ?_
      by_cases g1 : 0 ≤ x7 ∧ x7 < 6
      · rw [if_pos g1] at h
        refine ev_aald (b := (12 + x7.toNat)) dX9_gainOf_28 (Or.inl rfl) sh_11 g1.1 g1.2 (rfr_11 g1) ?_
        refine ev_iconst dX9_gainOf_29 (r32c rfl) ?_
        refine ex_iald (x := (f (12 + x7.toNat) 0)) dX9_gainOf_30 (shr_11 g1) (by decide) (by decide) rfl ?_
        refine ev_iload_n (i := 3) dX9_gainOf_31 rfl rfl ?_
        refine ev_icmp_ne (tgt := 44) dX9_gainOf_32 (by decide) (fun c2 => ?_) (fun c2 => ?_)
        · rw [if_neg c2] at h
          exact SX9_gainOf_95_4_48_44 ih x3 x4 x5 x6 x7 _ h
        · rw [if_pos c2] at h
          refine ev_iload dX9_gainOf_35 rfl ?_
          refine ev_iconst dX9_gainOf_37 (r32c rfl) ?_
          refine ev_iload dX9_gainOf_38 rfl ?_
          refine ev_ishl dX9_gainOf_40 ?_
          refine ev_ior dX9_gainOf_41 ?_
          refine ev_istore (L' := [none, some (vR 4), none, some (vI x3), some (vI x4), some (vI x5), some (vI (bOr x6 (bShl 1 x7))), some (vI x7)]) dX9_gainOf_42 (by decide) rfl ?_
          exact SX9_gainOf_95_4_48_44 ih x3 x4 x5 (bOr x6 (bShl 1 x7)) x7 _ h
      · rw [if_neg g1] at h; exact h.elim
def FX9_gainOf_95_4_48_0  (x3 : Int) (x4 : Int) (f : Mm) : Option (Int × Mm) := (b2 (FX1_keptBits_48_4 f) fun y1 f1 => FX9_gainOf_95_4_48_13 fu x3 x4 y1 0 0 f1)
set_option maxHeartbeats 4000000 in
set_option maxRecDepth 100000 in
theorem SX9_gainOf_95_4_48_0 {G : GT} {l : Launch} {Q : Option AV → Mem → Prop}  (x3 : Int) (x4 : Int) (f : Mm) (h : OkI Q (FX9_gainOf_95_4_48_0  x3 x4 f)) : Ev G l MX9_gainOf (Rm 4 0 0) (ZM G Q 0 0) 0 0 0 [none, some (vR 4), some (vR 48), some (vI x3), some (vI x4), none, none, none] [] (SH, RF, f) := by
  unfold FX9_gainOf_95_4_48_0 at h
  refine ev_aload_n (i := 2) dX9_gainOf_0 rfl rfl ?_
  refine ev_aload_n (i := 1) dX9_gainOf_1 rfl rfl ?_
  refine ev_cVI (b := 48) (av := [vR 4]) (S := []) (fun q => q) h dX9_gainOf_2 (fun Q' q => TX1_keptBits_48_4 _ q) kvX1_keptBits ml_X9_56 sh_48 rfl (RRc (by decide) (by decide)) (Nat.le_of_ble_eq_true rfl) ⟨Nat.le_of_ble_eq_true rfl, Nat.le_of_ble_eq_true rfl⟩ (fun y1 f1 h => ?_)
  refine ev_istore (L' := [none, some (vR 4), some (vR 48), some (vI x3), some (vI x4), some (vI y1), none, none]) dX9_gainOf_5 (by decide) rfl ?_
  refine ev_iconst dX9_gainOf_7 (r32c rfl) ?_
  refine ev_istore (L' := [none, some (vR 4), some (vR 48), some (vI x3), some (vI x4), some (vI y1), some (vI 0), none]) dX9_gainOf_8 (by decide) rfl ?_
  refine ev_iconst dX9_gainOf_10 (r32c rfl) ?_
  refine ev_istore (L' := [none, some (vR 4), some (vR 48), some (vI x3), some (vI x4), some (vI y1), some (vI 0), some (vI 0)]) dX9_gainOf_11 (by decide) rfl ?_
  refine ev_fg [true, true, false, true, true, true, true, true] rfl ?_
  exact SX9_gainOf_95_4_48_13  fu x3 x4 y1 0 0 _ h
def FX9_gainOf_95_4_48 (x3 : Int) (x4 : Int) (f : Mm) : Option (Int × Mm) := FX9_gainOf_95_4_48_0 x3 x4 f
set_option maxRecDepth 100000 in
theorem TX9_gainOf_95_4_48 {G : GT} {l : Launch} {Q : Option AV → Mem → Prop} (x3 : Int) (x4 : Int) (f : Mm) (h : OkI Q (FX9_gainOf_95_4_48 x3 x4 f)) : Ret G l MX9_gainOf (4) 0 0 [vR 95, vR 4, vR 48, vI x3, vI x4] (SH, RF, f) Q := by
  refine ret_of (L := [some (vR 95), some (vR 4), some (vR 48), some (vI x3), some (vI x4), none, none, none]) (by decide) rfl (Nat.le_of_ble_eq_true rfl) ?_
  refine ev_fg [false, true, true, true, true, true, true, true] rfl ?_
  exact SX9_gainOf_95_4_48_0 x3 x4 f h
theorem dX9_isRest_97 : decode cX9_isRest 97 = .ok (.iinc 5 1, 3) := by decide +kernel
theorem dX9_isRest_100 : decode cX9_isRest 100 = .ok (.goto (-90), 3) := by decide +kernel
theorem dX9_isRest_58 : decode cX9_isRest 58 = .ok (.aload_n 1, 1) := by decide +kernel
theorem dX9_isRest_59 : decode cX9_isRest 59 = .ok (.iconst 1, 1) := by decide +kernel
theorem dX9_isRest_60 : decode cX9_isRest 60 = .ok (.iload 5, 2) := by decide +kernel
theorem dX9_isRest_62 : decode cX9_isRest 62 = .ok (.iconst 1, 1) := by decide +kernel
theorem dX9_isRest_63 : decode cX9_isRest 63 = .ok (.isub, 1) := by decide +kernel
theorem dX9_isRest_64 : decode cX9_isRest 64 = .ok (.invokevirtual 22, 3) := by decide +kernel
theorem dX9_isRest_67 : decode cX9_isRest 67 = .ok (.ifCond .eq 30, 3) := by decide +kernel
theorem dX9_isRest_70 : decode cX9_isRest 70 = .ok (.aload_n 0, 1) := by decide +kernel
theorem dX9_isRest_71 : decode cX9_isRest 71 = .ok (.getfield 13, 3) := by decide +kernel
theorem dX9_isRest_74 : decode cX9_isRest 74 = .ok (.iconst 1, 1) := by decide +kernel
theorem dX9_isRest_75 : decode cX9_isRest 75 = .ok (.aaload, 1) := by decide +kernel
theorem dX9_isRest_76 : decode cX9_isRest 76 = .ok (.iload_n 2, 1) := by decide +kernel
theorem dX9_isRest_77 : decode cX9_isRest 77 = .ok (.iconst 5, 1) := by decide +kernel
theorem dX9_isRest_78 : decode cX9_isRest 78 = .ok (.imul, 1) := by decide +kernel
theorem dX9_isRest_79 : decode cX9_isRest 79 = .ok (.iload 5, 2) := by decide +kernel
theorem dX9_isRest_81 : decode cX9_isRest 81 = .ok (.iadd, 1) := by decide +kernel
theorem dX9_isRest_82 : decode cX9_isRest 82 = .ok (.iaload, 1) := by decide +kernel
theorem dX9_isRest_83 : decode cX9_isRest 83 = .ok (.aload_n 0, 1) := by decide +kernel
theorem dX9_isRest_84 : decode cX9_isRest 84 = .ok (.getfield 13, 3) := by decide +kernel
theorem dX9_isRest_87 : decode cX9_isRest 87 = .ok (.iconst 1, 1) := by decide +kernel
theorem dX9_isRest_88 : decode cX9_isRest 88 = .ok (.aaload, 1) := by decide +kernel
theorem dX9_isRest_89 : decode cX9_isRest 89 = .ok (.iload 4, 2) := by decide +kernel
theorem dX9_isRest_91 : decode cX9_isRest 91 = .ok (.iaload, 1) := by decide +kernel
theorem dX9_isRest_92 : decode cX9_isRest 92 = .ok (.if_icmp .le 5, 3) := by decide +kernel
theorem dX9_isRest_95 : decode cX9_isRest 95 = .ok (.iconst 0, 1) := by decide +kernel
theorem dX9_isRest_96 : decode cX9_isRest 96 = .ok (.ireturn, 1) := by decide +kernel
theorem dX9_isRest_10 : decode cX9_isRest 10 = .ok (.iload 5, 2) := by decide +kernel
theorem dX9_isRest_12 : decode cX9_isRest 12 = .ok (.aload_n 1, 1) := by decide +kernel
theorem dX9_isRest_13 : decode cX9_isRest 13 = .ok (.getfield 16, 3) := by decide +kernel
theorem dX9_isRest_16 : decode cX9_isRest 16 = .ok (.if_icmp .gt 87, 3) := by decide +kernel
theorem dX9_isRest_103 : decode cX9_isRest 103 = .ok (.iconst 1, 1) := by decide +kernel
theorem dX9_isRest_104 : decode cX9_isRest 104 = .ok (.ireturn, 1) := by decide +kernel
theorem dX9_isRest_19 : decode cX9_isRest 19 = .ok (.aload_n 1, 1) := by decide +kernel
theorem dX9_isRest_20 : decode cX9_isRest 20 = .ok (.iconst 0, 1) := by decide +kernel
theorem dX9_isRest_21 : decode cX9_isRest 21 = .ok (.iload 5, 2) := by decide +kernel
theorem dX9_isRest_23 : decode cX9_isRest 23 = .ok (.iconst 1, 1) := by decide +kernel
theorem dX9_isRest_24 : decode cX9_isRest 24 = .ok (.isub, 1) := by decide +kernel
theorem dX9_isRest_25 : decode cX9_isRest 25 = .ok (.invokevirtual 22, 3) := by decide +kernel
theorem dX9_isRest_28 : decode cX9_isRest 28 = .ok (.ifCond .eq 30, 3) := by decide +kernel
theorem dX9_isRest_31 : decode cX9_isRest 31 = .ok (.aload_n 0, 1) := by decide +kernel
theorem dX9_isRest_32 : decode cX9_isRest 32 = .ok (.getfield 13, 3) := by decide +kernel
theorem dX9_isRest_35 : decode cX9_isRest 35 = .ok (.iconst 0, 1) := by decide +kernel
theorem dX9_isRest_36 : decode cX9_isRest 36 = .ok (.aaload, 1) := by decide +kernel
theorem dX9_isRest_37 : decode cX9_isRest 37 = .ok (.iload 5, 2) := by decide +kernel
theorem dX9_isRest_39 : decode cX9_isRest 39 = .ok (.iconst 5, 1) := by decide +kernel
theorem dX9_isRest_40 : decode cX9_isRest 40 = .ok (.imul, 1) := by decide +kernel
theorem dX9_isRest_41 : decode cX9_isRest 41 = .ok (.iload_n 3, 1) := by decide +kernel
theorem dX9_isRest_42 : decode cX9_isRest 42 = .ok (.iadd, 1) := by decide +kernel
theorem dX9_isRest_43 : decode cX9_isRest 43 = .ok (.iaload, 1) := by decide +kernel
theorem dX9_isRest_44 : decode cX9_isRest 44 = .ok (.aload_n 0, 1) := by decide +kernel
theorem dX9_isRest_45 : decode cX9_isRest 45 = .ok (.getfield 13, 3) := by decide +kernel
theorem dX9_isRest_48 : decode cX9_isRest 48 = .ok (.iconst 0, 1) := by decide +kernel
theorem dX9_isRest_49 : decode cX9_isRest 49 = .ok (.aaload, 1) := by decide +kernel
theorem dX9_isRest_50 : decode cX9_isRest 50 = .ok (.iload 4, 2) := by decide +kernel
theorem dX9_isRest_52 : decode cX9_isRest 52 = .ok (.iaload, 1) := by decide +kernel
theorem dX9_isRest_53 : decode cX9_isRest 53 = .ok (.if_icmp .le 5, 3) := by decide +kernel
theorem dX9_isRest_56 : decode cX9_isRest 56 = .ok (.iconst 0, 1) := by decide +kernel
theorem dX9_isRest_57 : decode cX9_isRest 57 = .ok (.ireturn, 1) := by decide +kernel
theorem dX9_isRest_0 : decode cX9_isRest 0 = .ok (.iload_n 2, 1) := by decide +kernel
theorem dX9_isRest_1 : decode cX9_isRest 1 = .ok (.iconst 5, 1) := by decide +kernel
theorem dX9_isRest_2 : decode cX9_isRest 2 = .ok (.imul, 1) := by decide +kernel
theorem dX9_isRest_3 : decode cX9_isRest 3 = .ok (.iload_n 3, 1) := by decide +kernel
theorem dX9_isRest_4 : decode cX9_isRest 4 = .ok (.iadd, 1) := by decide +kernel
theorem dX9_isRest_5 : decode cX9_isRest 5 = .ok (.istore 4, 2) := by decide +kernel
theorem dX9_isRest_7 : decode cX9_isRest 7 = .ok (.iconst 0, 1) := by decide +kernel
theorem dX9_isRest_8 : decode cX9_isRest 8 = .ok (.istore 5, 2) := by decide +kernel
def FX9_isRest_95_4_97 (k10 : Int → Int → Int → Int → Mm → Option (Int × Mm)) (x2 : Int) (x3 : Int) (x4 : Int) (x5 : Int) (f : Mm) : Option (Int × Mm) := k10 x2 x3 x4 (w32 (x5 + 1)) f
set_option maxHeartbeats 4000000 in
set_option maxRecDepth 100000 in
theorem SX9_isRest_95_4_97 {G : GT} {l : Launch} {Q : Option AV → Mem → Prop} {k10 : Int → Int → Int → Int → Mm → Option (Int × Mm)} (q10 : ∀ (x2 : Int) (x3 : Int) (x4 : Int) (x5 : Int) (f : Mm), OkI Q (k10 x2 x3 x4 x5 f) → Ev G l MX9_isRest (Rm 3 0 0) (ZM G Q 0 0) 0 0 10 [some (vR 95), some (vR 4), some (vI x2), some (vI x3), some (vI x4), some (vI x5)] [] (SH, RF, f)) (x2 : Int) (x3 : Int) (x4 : Int) (x5 : Int) (f : Mm) (h : OkI Q (FX9_isRest_95_4_97 k10 x2 x3 x4 x5 f)) : Ev G l MX9_isRest (Rm 3 0 0) (ZM G Q 0 0) 0 0 97 [some (vR 95), some (vR 4), some (vI x2), some (vI x3), some (vI x4), some (vI x5)] [] (SH, RF, f) := by
  unfold FX9_isRest_95_4_97 at h
  refine ev_iinc (L' := [some (vR 95), some (vR 4), some (vI x2), some (vI x3), some (vI x4), some (vI (w32 (x5 + 1)))]) dX9_isRest_97 rfl (by decide) rfl ?_
  refine ev_goto (tgt := 10) dX9_isRest_100 (by decide) ?_
  exact q10 x2 x3 x4 (w32 (x5 + 1)) _ h
def FX9_isRest_95_4_58 (k10 : Int → Int → Int → Int → Mm → Option (Int × Mm)) (x2 : Int) (x3 : Int) (x4 : Int) (x5 : Int) (f : Mm) : Option (Int × Mm) := (b2 (FX0_mayChoose_4 1 (w32 (x5 - 1)) f) fun y1 f1 => (if y1 = 0 then FX9_isRest_95_4_97 k10 x2 x3 x4 x5 f1 else (if 0 ≤ (w32 ((w32 (x2 * 5)) + x5)) ∧ (w32 ((w32 (x2 * 5)) + x5)) < 25 then (if 0 ≤ x4 ∧ x4 < 25 then (if (f1 98 (w32 ((w32 (x2 * 5)) + x5)).toNat) ≤ (f1 98 x4.toNat) then FX9_isRest_95_4_97 k10 x2 x3 x4 x5 f1 else some (0, f1)) else none) else none)))
set_option maxHeartbeats 4000000 in
set_option maxRecDepth 100000 in
theorem SX9_isRest_95_4_58 {G : GT} {l : Launch} {Q : Option AV → Mem → Prop} {k10 : Int → Int → Int → Int → Mm → Option (Int × Mm)} (q10 : ∀ (x2 : Int) (x3 : Int) (x4 : Int) (x5 : Int) (f : Mm), OkI Q (k10 x2 x3 x4 x5 f) → Ev G l MX9_isRest (Rm 3 0 0) (ZM G Q 0 0) 0 0 10 [some (vR 95), some (vR 4), some (vI x2), some (vI x3), some (vI x4), some (vI x5)] [] (SH, RF, f)) (x2 : Int) (x3 : Int) (x4 : Int) (x5 : Int) (f : Mm) (h : OkI Q (FX9_isRest_95_4_58 k10 x2 x3 x4 x5 f)) : Ev G l MX9_isRest (Rm 3 0 0) (ZM G Q 0 0) 0 0 58 [some (vR 95), some (vR 4), some (vI x2), some (vI x3), some (vI x4), some (vI x5)] [] (SH, RF, f) := by
  unfold FX9_isRest_95_4_58 at h
  refine ev_aload_n (i := 1) dX9_isRest_58 rfl rfl ?_
  refine ev_iconst dX9_isRest_59 (r32c rfl) ?_
  refine ev_iload dX9_isRest_60 rfl ?_
  refine ev_iconst dX9_isRest_62 (r32c rfl) ?_
  refine ev_isub dX9_isRest_63 ?_
  refine ev_cVI (b := 4) (av := [vI 1, vI (w32 (x5 - 1))]) (S := []) (fun q => q) h dX9_isRest_64 (fun Q' q => TX0_mayChoose_4 1 (w32 (x5 - 1)) _ q) kvX0_mayChoose ml_X9_22 sh_4 rfl (RRc (by decide) (by decide)) (Nat.le_of_ble_eq_true rfl) ⟨Nat.le_of_ble_eq_true rfl, Nat.le_of_ble_eq_true rfl⟩ (fun y1 f1 h => ?_)
  refine ev_if_eq (tgt := 97) dX9_isRest_67 (by decide) (fun c5 => ?_) (fun c5 => ?_)
  · rw [if_pos c5] at h
    exact SX9_isRest_95_4_97 q10 x2 x3 x4 x5 _ h
  · rw [if_neg c5] at h
    refine ev_aload_n (i := 0) dX9_isRest_70 rfl rfl ?_
    refine ev_getR dX9_isRest_71 fl_X9_13 sh_95 (by decide) (by decide) rf_95_2 ?_
    refine ev_iconst dX9_isRest_74 (r32c rfl) ?_
    refine ev_aald (b := 98) dX9_isRest_75 (Or.inl rfl) sh_96 (by decide) (by decide) (rfd_96 1 (by decide)) ?_
    refine ev_iload_n (i := 2) dX9_isRest_76 rfl rfl ?_
    refine ev_iconst dX9_isRest_77 (r32c rfl) ?_
    refine ev_imul dX9_isRest_78 ?_
    refine ev_iload dX9_isRest_79 rfl ?_
    refine ev_iadd dX9_isRest_81 ?_
    by_cases g2 : 0 ≤ (w32 ((w32 (x2 * 5)) + x5)) ∧ (w32 ((w32 (x2 * 5)) + x5)) < 25
    · rw [if_pos g2] at h
      refine ex_iald (x := (f1 98 (w32 ((w32 (x2 * 5)) + x5)).toNat)) dX9_isRest_82 sh_98 g2.1 g2.2 rfl ?_
      refine ev_aload_n (i := 0) dX9_isRest_83 rfl rfl ?_
      refine ev_getR dX9_isRest_84 fl_X9_13 sh_95 (by decide) (by decide) rf_95_2 ?_
      refine ev_iconst dX9_isRest_87 (r32c rfl) ?_
      refine ev_aald (b := 98) dX9_isRest_88 (Or.inl rfl) sh_96 (by decide) (by decide) (rfd_96 1 (by decide)) ?_
      refine ev_iload dX9_isRest_89 rfl ?_
      by_cases g3 : 0 ≤ x4 ∧ x4 < 25
      · rw [if_pos g3] at h
        refine ex_iald (x := (f1 98 x4.toNat)) dX9_isRest_91 sh_98 g3.1 g3.2 rfl ?_
        refine ev_icmp_le (tgt := 97) dX9_isRest_92 (by decide) (fun c4 => ?_) (fun c4 => ?_)
        · rw [if_pos c4] at h
          exact SX9_isRest_95_4_97 q10 x2 x3 x4 x5 _ h
        · rw [if_neg c4] at h
          refine ev_iconst dX9_isRest_95 (r32c rfl) ?_
          exact ev_zret rfl (by decide) dX9_isRest_96 h
      · rw [if_neg g3] at h; exact h.elim
    · rw [if_neg g2] at h; exact h.elim
def FX9_isRest_95_4_10  : Nat → Int → Int → Int → Int → Mm → Option (Int × Mm)
  | 0, _, _, _, _, _ => none
  | n + 1, x2, x3, x4, x5, f => (if (f 4 4) < x5 then some (1, f) else (b2 (FX0_mayChoose_4 0 (w32 (x5 - 1)) f) fun y1 f1 => (if y1 = 0 then FX9_isRest_95_4_58 (FX9_isRest_95_4_10 n) x2 x3 x4 x5 f1 else (if 0 ≤ (w32 ((w32 (x5 * 5)) + x3)) ∧ (w32 ((w32 (x5 * 5)) + x3)) < 25 then (if 0 ≤ x4 ∧ x4 < 25 then (if (f1 97 (w32 ((w32 (x5 * 5)) + x3)).toNat) ≤ (f1 97 x4.toNat) then FX9_isRest_95_4_58 (FX9_isRest_95_4_10 n) x2 x3 x4 x5 f1 else some (0, f1)) else none) else none))))
set_option maxHeartbeats 4000000 in
set_option maxRecDepth 100000 in
theorem SX9_isRest_95_4_10 {G : GT} {l : Launch} {Q : Option AV → Mem → Prop}  : ∀ (n : Nat) (x2 : Int) (x3 : Int) (x4 : Int) (x5 : Int) (f : Mm), OkI Q (FX9_isRest_95_4_10  n x2 x3 x4 x5 f) → Ev G l MX9_isRest (Rm 3 0 0) (ZM G Q 0 0) 0 0 10 [some (vR 95), some (vR 4), some (vI x2), some (vI x3), some (vI x4), some (vI x5)] [] (SH, RF, f) := by
  intro n
  induction n with
  | zero => intro x2 x3 x4 x5 f h; exact absurd h (by rw [FX9_isRest_95_4_10]; exact fun q => q)
  | succ n ih =>
    intro x2 x3 x4 x5 f h
    rw [FX9_isRest_95_4_10] at h
    refine ev_iload dX9_isRest_10 rfl ?_
    refine ev_aload_n (i := 1) dX9_isRest_12 rfl rfl ?_
    refine ex_getI (x := (f 4 4)) dX9_isRest_13 fl_X9_16 sh_4 (by decide) (by decide) rfl ?_
    refine ev_icmp_gt (tgt := 103) dX9_isRest_16 (by decide) (fun c6 => ?_) (fun c6 => ?_)
    · rw [if_pos c6] at h
      refine ev_iconst dX9_isRest_103 (r32c rfl) ?_
      exact ev_zret rfl (by decide) dX9_isRest_104 h
    · rw [if_neg c6] at h
      refine ev_aload_n (i := 1) dX9_isRest_19 rfl rfl ?_
      refine ev_iconst dX9_isRest_20 (r32c rfl) ?_
      refine ev_iload dX9_isRest_21 rfl ?_
      refine ev_iconst dX9_isRest_23 (r32c rfl) ?_
      refine ev_isub dX9_isRest_24 ?_
      refine ev_cVI (b := 4) (av := [vI 0, vI (w32 (x5 - 1))]) (S := []) (fun q => q) h dX9_isRest_25 (fun Q' q => TX0_mayChoose_4 0 (w32 (x5 - 1)) _ q) kvX0_mayChoose ml_X9_22 sh_4 rfl (RRc (by decide) (by decide)) (Nat.le_of_ble_eq_true rfl) ⟨Nat.le_of_ble_eq_true rfl, Nat.le_of_ble_eq_true rfl⟩ (fun y1 f1 h => ?_)
      refine ev_if_eq (tgt := 58) dX9_isRest_28 (by decide) (fun c5 => ?_) (fun c5 => ?_)
      · rw [if_pos c5] at h
        exact SX9_isRest_95_4_58 ih x2 x3 x4 x5 _ h
      · rw [if_neg c5] at h
        refine ev_aload_n (i := 0) dX9_isRest_31 rfl rfl ?_
        refine ev_getR dX9_isRest_32 fl_X9_13 sh_95 (by decide) (by decide) rf_95_2 ?_
        refine ev_iconst dX9_isRest_35 (r32c rfl) ?_
        refine ev_aald (b := 97) dX9_isRest_36 (Or.inl rfl) sh_96 (by decide) (by decide) (rfd_96 0 (by decide)) ?_
        refine ev_iload dX9_isRest_37 rfl ?_
        refine ev_iconst dX9_isRest_39 (r32c rfl) ?_
        refine ev_imul dX9_isRest_40 ?_
        refine ev_iload_n (i := 3) dX9_isRest_41 rfl rfl ?_
        refine ev_iadd dX9_isRest_42 ?_
        by_cases g2 : 0 ≤ (w32 ((w32 (x5 * 5)) + x3)) ∧ (w32 ((w32 (x5 * 5)) + x3)) < 25
        · rw [if_pos g2] at h
          refine ex_iald (x := (f1 97 (w32 ((w32 (x5 * 5)) + x3)).toNat)) dX9_isRest_43 sh_97 g2.1 g2.2 rfl ?_
          refine ev_aload_n (i := 0) dX9_isRest_44 rfl rfl ?_
          refine ev_getR dX9_isRest_45 fl_X9_13 sh_95 (by decide) (by decide) rf_95_2 ?_
          refine ev_iconst dX9_isRest_48 (r32c rfl) ?_
          refine ev_aald (b := 97) dX9_isRest_49 (Or.inl rfl) sh_96 (by decide) (by decide) (rfd_96 0 (by decide)) ?_
          refine ev_iload dX9_isRest_50 rfl ?_
          by_cases g3 : 0 ≤ x4 ∧ x4 < 25
          · rw [if_pos g3] at h
            refine ex_iald (x := (f1 97 x4.toNat)) dX9_isRest_52 sh_97 g3.1 g3.2 rfl ?_
            refine ev_icmp_le (tgt := 58) dX9_isRest_53 (by decide) (fun c4 => ?_) (fun c4 => ?_)
            · rw [if_pos c4] at h
              exact SX9_isRest_95_4_58 ih x2 x3 x4 x5 _ h
            · rw [if_neg c4] at h
              refine ev_iconst dX9_isRest_56 (r32c rfl) ?_
              exact ev_zret rfl (by decide) dX9_isRest_57 h
          · rw [if_neg g3] at h; exact h.elim
        · rw [if_neg g2] at h; exact h.elim
def FX9_isRest_95_4_0  (x2 : Int) (x3 : Int) (f : Mm) : Option (Int × Mm) := FX9_isRest_95_4_10 fu x2 x3 (w32 ((w32 (x2 * 5)) + x3)) 0 f
set_option maxHeartbeats 4000000 in
set_option maxRecDepth 100000 in
theorem SX9_isRest_95_4_0 {G : GT} {l : Launch} {Q : Option AV → Mem → Prop}  (x2 : Int) (x3 : Int) (f : Mm) (h : OkI Q (FX9_isRest_95_4_0  x2 x3 f)) : Ev G l MX9_isRest (Rm 3 0 0) (ZM G Q 0 0) 0 0 0 [some (vR 95), some (vR 4), some (vI x2), some (vI x3), none, none] [] (SH, RF, f) := by
  unfold FX9_isRest_95_4_0 at h
  refine ev_iload_n (i := 2) dX9_isRest_0 rfl rfl ?_
  refine ev_iconst dX9_isRest_1 (r32c rfl) ?_
  refine ev_imul dX9_isRest_2 ?_
  refine ev_iload_n (i := 3) dX9_isRest_3 rfl rfl ?_
  refine ev_iadd dX9_isRest_4 ?_
  refine ev_istore (L' := [some (vR 95), some (vR 4), some (vI x2), some (vI x3), some (vI (w32 ((w32 (x2 * 5)) + x3))), none]) dX9_isRest_5 (by decide) rfl ?_
  refine ev_iconst dX9_isRest_7 (r32c rfl) ?_
  refine ev_istore (L' := [some (vR 95), some (vR 4), some (vI x2), some (vI x3), some (vI (w32 ((w32 (x2 * 5)) + x3))), some (vI 0)]) dX9_isRest_8 (by decide) rfl ?_
  exact SX9_isRest_95_4_10  fu x2 x3 (w32 ((w32 (x2 * 5)) + x3)) 0 _ h
def FX9_isRest_95_4 (x2 : Int) (x3 : Int) (f : Mm) : Option (Int × Mm) := FX9_isRest_95_4_0 x2 x3 f
set_option maxRecDepth 100000 in
theorem TX9_isRest_95_4 {G : GT} {l : Launch} {Q : Option AV → Mem → Prop} (x2 : Int) (x3 : Int) (f : Mm) (h : OkI Q (FX9_isRest_95_4 x2 x3 f)) : Ret G l MX9_isRest (3) 0 0 [vR 95, vR 4, vI x2, vI x3] (SH, RF, f) Q := by
  refine ret_of (L := [some (vR 95), some (vR 4), some (vI x2), some (vI x3), none, none]) (by decide) rfl (Nat.le_of_ble_eq_true rfl) ?_
  exact SX9_isRest_95_4_0 x2 x3 f h
theorem dX9_countRests_95 : decode cX9_countRests 95 = .ok (.iinc 2 1, 3) := by decide +kernel
theorem dX9_countRests_98 : decode cX9_countRests 98 = .ok (.goto (-86), 3) := by decide +kernel
theorem dX9_countRests_89 : decode cX9_countRests 89 = .ok (.iinc 3 1, 3) := by decide +kernel
theorem dX9_countRests_92 : decode cX9_countRests 92 = .ok (.goto (-70), 3) := by decide +kernel
theorem dX9_countRests_79 : decode cX9_countRests 79 = .ok (.aload_n 0, 1) := by decide +kernel
theorem dX9_countRests_80 : decode cX9_countRests 80 = .ok (.dup, 1) := by decide +kernel
theorem dX9_countRests_81 : decode cX9_countRests 81 = .ok (.getfield 73, 3) := by decide +kernel
theorem dX9_countRests_84 : decode cX9_countRests 84 = .ok (.iconst 1, 1) := by decide +kernel
theorem dX9_countRests_85 : decode cX9_countRests 85 = .ok (.iadd, 1) := by decide +kernel
theorem dX9_countRests_86 : decode cX9_countRests 86 = .ok (.putfield 73, 3) := by decide +kernel
theorem dX9_countRests_22 : decode cX9_countRests 22 = .ok (.iload_n 3, 1) := by decide +kernel
theorem dX9_countRests_23 : decode cX9_countRests 23 = .ok (.aload_n 1, 1) := by decide +kernel
theorem dX9_countRests_24 : decode cX9_countRests 24 = .ok (.getfield 16, 3) := by decide +kernel
theorem dX9_countRests_27 : decode cX9_countRests 27 = .ok (.if_icmp .gt 68, 3) := by decide +kernel
theorem dX9_countRests_30 : decode cX9_countRests 30 = .ok (.aload_n 1, 1) := by decide +kernel
theorem dX9_countRests_31 : decode cX9_countRests 31 = .ok (.iconst 0, 1) := by decide +kernel
theorem dX9_countRests_32 : decode cX9_countRests 32 = .ok (.iload_n 2, 1) := by decide +kernel
theorem dX9_countRests_33 : decode cX9_countRests 33 = .ok (.iconst 1, 1) := by decide +kernel
theorem dX9_countRests_34 : decode cX9_countRests 34 = .ok (.isub, 1) := by decide +kernel
theorem dX9_countRests_35 : decode cX9_countRests 35 = .ok (.invokevirtual 22, 3) := by decide +kernel
theorem dX9_countRests_38 : decode cX9_countRests 38 = .ok (.ifCond .eq 51, 3) := by decide +kernel
theorem dX9_countRests_41 : decode cX9_countRests 41 = .ok (.aload_n 1, 1) := by decide +kernel
theorem dX9_countRests_42 : decode cX9_countRests 42 = .ok (.iconst 1, 1) := by decide +kernel
theorem dX9_countRests_43 : decode cX9_countRests 43 = .ok (.iload_n 3, 1) := by decide +kernel
theorem dX9_countRests_44 : decode cX9_countRests 44 = .ok (.iconst 1, 1) := by decide +kernel
theorem dX9_countRests_45 : decode cX9_countRests 45 = .ok (.isub, 1) := by decide +kernel
theorem dX9_countRests_46 : decode cX9_countRests 46 = .ok (.invokevirtual 22, 3) := by decide +kernel
theorem dX9_countRests_49 : decode cX9_countRests 49 = .ok (.ifCond .eq 40, 3) := by decide +kernel
theorem dX9_countRests_52 : decode cX9_countRests 52 = .ok (.aload_n 0, 1) := by decide +kernel
theorem dX9_countRests_53 : decode cX9_countRests 53 = .ok (.aload_n 1, 1) := by decide +kernel
theorem dX9_countRests_54 : decode cX9_countRests 54 = .ok (.iload_n 2, 1) := by decide +kernel
theorem dX9_countRests_55 : decode cX9_countRests 55 = .ok (.iload_n 3, 1) := by decide +kernel
theorem dX9_countRests_56 : decode cX9_countRests 56 = .ok (.invokevirtual 79, 3) := by decide +kernel
theorem dX9_countRests_59 : decode cX9_countRests 59 = .ok (.ifCond .eq 30, 3) := by decide +kernel
theorem dX9_countRests_62 : decode cX9_countRests 62 = .ok (.aload_n 0, 1) := by decide +kernel
theorem dX9_countRests_63 : decode cX9_countRests 63 = .ok (.getfield 73, 3) := by decide +kernel
theorem dX9_countRests_66 : decode cX9_countRests 66 = .ok (.ifCond .ne 13, 3) := by decide +kernel
theorem dX9_countRests_69 : decode cX9_countRests 69 = .ok (.aload_n 0, 1) := by decide +kernel
theorem dX9_countRests_70 : decode cX9_countRests 70 = .ok (.bipush 10, 2) := by decide +kernel
theorem dX9_countRests_72 : decode cX9_countRests 72 = .ok (.iload_n 2, 1) := by decide +kernel
theorem dX9_countRests_73 : decode cX9_countRests 73 = .ok (.imul, 1) := by decide +kernel
theorem dX9_countRests_74 : decode cX9_countRests 74 = .ok (.iload_n 3, 1) := by decide +kernel
theorem dX9_countRests_75 : decode cX9_countRests 75 = .ok (.iadd, 1) := by decide +kernel
theorem dX9_countRests_76 : decode cX9_countRests 76 = .ok (.putfield 76, 3) := by decide +kernel
theorem dX9_countRests_12 : decode cX9_countRests 12 = .ok (.iload_n 2, 1) := by decide +kernel
theorem dX9_countRests_13 : decode cX9_countRests 13 = .ok (.aload_n 1, 1) := by decide +kernel
theorem dX9_countRests_14 : decode cX9_countRests 14 = .ok (.getfield 16, 3) := by decide +kernel
theorem dX9_countRests_17 : decode cX9_countRests 17 = .ok (.if_icmp .gt 84, 3) := by decide +kernel
theorem dX9_countRests_101 : decode cX9_countRests 101 = .ok (.return_, 1) := by decide +kernel
theorem dX9_countRests_20 : decode cX9_countRests 20 = .ok (.iconst 0, 1) := by decide +kernel
theorem dX9_countRests_21 : decode cX9_countRests 21 = .ok (.istore_n 3, 1) := by decide +kernel
theorem dX9_countRests_0 : decode cX9_countRests 0 = .ok (.aload_n 0, 1) := by decide +kernel
theorem dX9_countRests_1 : decode cX9_countRests 1 = .ok (.iconst 0, 1) := by decide +kernel
theorem dX9_countRests_2 : decode cX9_countRests 2 = .ok (.putfield 73, 3) := by decide +kernel
theorem dX9_countRests_5 : decode cX9_countRests 5 = .ok (.aload_n 0, 1) := by decide +kernel
theorem dX9_countRests_6 : decode cX9_countRests 6 = .ok (.iconst (-1), 1) := by decide +kernel
theorem dX9_countRests_7 : decode cX9_countRests 7 = .ok (.putfield 76, 3) := by decide +kernel
theorem dX9_countRests_10 : decode cX9_countRests 10 = .ok (.iconst 0, 1) := by decide +kernel
theorem dX9_countRests_11 : decode cX9_countRests 11 = .ok (.istore_n 2, 1) := by decide +kernel
def FX9_countRests_95_4_95 (k12 : Int → Mm → Option Mm) (x2 : Int) (f : Mm) : Option Mm := k12 (w32 (x2 + 1)) f
set_option maxHeartbeats 4000000 in
set_option maxRecDepth 100000 in
theorem SX9_countRests_95_4_95 {G : GT} {l : Launch} {Q : Option AV → Mem → Prop} {k12 : Int → Mm → Option Mm} (q12 : ∀ (x2 : Int) (f : Mm), OkV Q (k12 x2 f) → Ev G l MX9_countRests (Rm 4 0 0) (ZM G Q 0 0) 0 0 12 [some (vR 95), some (vR 4), some (vI x2), none] [] (SH, RF, f)) (x2 : Int) (f : Mm) (h : OkV Q (FX9_countRests_95_4_95 k12 x2 f)) : Ev G l MX9_countRests (Rm 4 0 0) (ZM G Q 0 0) 0 0 95 [some (vR 95), some (vR 4), some (vI x2), none] [] (SH, RF, f) := by
  unfold FX9_countRests_95_4_95 at h
  refine ev_iinc (L' := [some (vR 95), some (vR 4), some (vI (w32 (x2 + 1))), none]) dX9_countRests_95 rfl (by decide) rfl ?_
  refine ev_goto (tgt := 12) dX9_countRests_98 (by decide) ?_
  exact q12 (w32 (x2 + 1)) _ h
def FX9_countRests_95_4_89 (k12 : Int → Mm → Option Mm) (k22 : Int → Int → Mm → Option Mm) (x2 : Int) (x3 : Int) (f : Mm) : Option Mm := k22 x2 (w32 (x3 + 1)) f
set_option maxHeartbeats 4000000 in
set_option maxRecDepth 100000 in
theorem SX9_countRests_95_4_89 {G : GT} {l : Launch} {Q : Option AV → Mem → Prop} {k12 : Int → Mm → Option Mm} {k22 : Int → Int → Mm → Option Mm} (q12 : ∀ (x2 : Int) (f : Mm), OkV Q (k12 x2 f) → Ev G l MX9_countRests (Rm 4 0 0) (ZM G Q 0 0) 0 0 12 [some (vR 95), some (vR 4), some (vI x2), none] [] (SH, RF, f)) (q22 : ∀ (x2 : Int) (x3 : Int) (f : Mm), OkV Q (k22 x2 x3 f) → Ev G l MX9_countRests (Rm 4 0 0) (ZM G Q 0 0) 0 0 22 [some (vR 95), some (vR 4), some (vI x2), some (vI x3)] [] (SH, RF, f)) (x2 : Int) (x3 : Int) (f : Mm) (h : OkV Q (FX9_countRests_95_4_89 k12 k22 x2 x3 f)) : Ev G l MX9_countRests (Rm 4 0 0) (ZM G Q 0 0) 0 0 89 [some (vR 95), some (vR 4), some (vI x2), some (vI x3)] [] (SH, RF, f) := by
  unfold FX9_countRests_95_4_89 at h
  refine ev_iinc (L' := [some (vR 95), some (vR 4), some (vI x2), some (vI (w32 (x3 + 1)))]) dX9_countRests_89 rfl (by decide) rfl ?_
  refine ev_goto (tgt := 22) dX9_countRests_92 (by decide) ?_
  exact q22 x2 (w32 (x3 + 1)) _ h
def FX9_countRests_95_4_79 (k12 : Int → Mm → Option Mm) (k22 : Int → Int → Mm → Option Mm) (x2 : Int) (x3 : Int) (f : Mm) : Option Mm := FX9_countRests_95_4_89 k12 k22 x2 x3 (up f 95 0 (w32 ((f 95 0) + 1)))
set_option maxHeartbeats 4000000 in
set_option maxRecDepth 100000 in
theorem SX9_countRests_95_4_79 {G : GT} {l : Launch} {Q : Option AV → Mem → Prop} {k12 : Int → Mm → Option Mm} {k22 : Int → Int → Mm → Option Mm} (q12 : ∀ (x2 : Int) (f : Mm), OkV Q (k12 x2 f) → Ev G l MX9_countRests (Rm 4 0 0) (ZM G Q 0 0) 0 0 12 [some (vR 95), some (vR 4), some (vI x2), none] [] (SH, RF, f)) (q22 : ∀ (x2 : Int) (x3 : Int) (f : Mm), OkV Q (k22 x2 x3 f) → Ev G l MX9_countRests (Rm 4 0 0) (ZM G Q 0 0) 0 0 22 [some (vR 95), some (vR 4), some (vI x2), some (vI x3)] [] (SH, RF, f)) (x2 : Int) (x3 : Int) (f : Mm) (h : OkV Q (FX9_countRests_95_4_79 k12 k22 x2 x3 f)) : Ev G l MX9_countRests (Rm 4 0 0) (ZM G Q 0 0) 0 0 79 [some (vR 95), some (vR 4), some (vI x2), some (vI x3)] [] (SH, RF, f) := by
  unfold FX9_countRests_95_4_79 at h
  refine ev_aload_n (i := 0) dX9_countRests_79 rfl rfl ?_
  refine ev_dupR dX9_countRests_80 ?_
  refine ex_getI (x := (f 95 0)) dX9_countRests_81 fl_X9_73 sh_95 (by decide) (by decide) rfl ?_
  refine ev_iconst dX9_countRests_84 (r32c rfl) ?_
  refine ev_iadd dX9_countRests_85 ?_
  refine ev_putI dX9_countRests_86 fl_X9_73 sh_95 (by decide) (by decide) ?_
  exact SX9_countRests_95_4_89 q12 q22 x2 x3 _ h
def FX9_countRests_95_4_22 (k12 : Int → Mm → Option Mm) : Nat → Int → Int → Mm → Option Mm
  | 0, _, _, _ => none
  | n + 1, x2, x3, f => (if (f 4 4) < x3 then FX9_countRests_95_4_95 k12 x2 f else (b2 (FX0_mayChoose_4 0 (w32 (x2 - 1)) f) fun y1 f1 => (if y1 = 0 then FX9_countRests_95_4_89 k12 (FX9_countRests_95_4_22 k12 n) x2 x3 f1 else (b2 (FX0_mayChoose_4 1 (w32 (x3 - 1)) f1) fun y2 f2 => (if y2 = 0 then FX9_countRests_95_4_89 k12 (FX9_countRests_95_4_22 k12 n) x2 x3 f2 else (b2 (FX9_isRest_95_4 x2 x3 f2) fun y3 f3 => (if y3 = 0 then FX9_countRests_95_4_89 k12 (FX9_countRests_95_4_22 k12 n) x2 x3 f3 else (if (f3 95 0) = 0 then FX9_countRests_95_4_79 k12 (FX9_countRests_95_4_22 k12 n) x2 x3 (up f3 95 1 (w32 ((w32 (10 * x2)) + x3))) else FX9_countRests_95_4_79 k12 (FX9_countRests_95_4_22 k12 n) x2 x3 f3))))))))
set_option maxHeartbeats 4000000 in
set_option maxRecDepth 100000 in
theorem SX9_countRests_95_4_22 {G : GT} {l : Launch} {Q : Option AV → Mem → Prop} {k12 : Int → Mm → Option Mm} (q12 : ∀ (x2 : Int) (f : Mm), OkV Q (k12 x2 f) → Ev G l MX9_countRests (Rm 4 0 0) (ZM G Q 0 0) 0 0 12 [some (vR 95), some (vR 4), some (vI x2), none] [] (SH, RF, f)) : ∀ (n : Nat) (x2 : Int) (x3 : Int) (f : Mm), OkV Q (FX9_countRests_95_4_22 k12 n x2 x3 f) → Ev G l MX9_countRests (Rm 4 0 0) (ZM G Q 0 0) 0 0 22 [some (vR 95), some (vR 4), some (vI x2), some (vI x3)] [] (SH, RF, f) := by
  intro n
  induction n with
  | zero => intro x2 x3 f h; exact absurd h (by rw [FX9_countRests_95_4_22]; exact fun q => q)
  | succ n ih =>
    intro x2 x3 f h
    rw [FX9_countRests_95_4_22] at h
    refine ev_iload_n (i := 3) dX9_countRests_22 rfl rfl ?_
    refine ev_aload_n (i := 1) dX9_countRests_23 rfl rfl ?_
    refine ex_getI (x := (f 4 4)) dX9_countRests_24 fl_X9_16 sh_4 (by decide) (by decide) rfl ?_
    refine ev_icmp_gt (tgt := 95) dX9_countRests_27 (by decide) (fun c8 => ?_) (fun c8 => ?_)
    · rw [if_pos c8] at h
      refine ev_fg [true, true, true, false] rfl ?_
      exact SX9_countRests_95_4_95 q12 x2 _ h
    · rw [if_neg c8] at h
      refine ev_aload_n (i := 1) dX9_countRests_30 rfl rfl ?_
      refine ev_iconst dX9_countRests_31 (r32c rfl) ?_
      refine ev_iload_n (i := 2) dX9_countRests_32 rfl rfl ?_
      refine ev_iconst dX9_countRests_33 (r32c rfl) ?_
      refine ev_isub dX9_countRests_34 ?_
      refine ev_cVI (b := 4) (av := [vI 0, vI (w32 (x2 - 1))]) (S := []) (fun q => q) h dX9_countRests_35 (fun Q' q => TX0_mayChoose_4 0 (w32 (x2 - 1)) _ q) kvX0_mayChoose ml_X9_22 sh_4 rfl (RRc (by decide) (by decide)) (Nat.le_of_ble_eq_true rfl) ⟨Nat.le_of_ble_eq_true rfl, Nat.le_of_ble_eq_true rfl⟩ (fun y1 f1 h => ?_)
      refine ev_if_eq (tgt := 89) dX9_countRests_38 (by decide) (fun c7 => ?_) (fun c7 => ?_)
      · rw [if_pos c7] at h
        exact SX9_countRests_95_4_89 q12 ih x2 x3 _ h
      · rw [if_neg c7] at h
        refine ev_aload_n (i := 1) dX9_countRests_41 rfl rfl ?_
        refine ev_iconst dX9_countRests_42 (r32c rfl) ?_
        refine ev_iload_n (i := 3) dX9_countRests_43 rfl rfl ?_
        refine ev_iconst dX9_countRests_44 (r32c rfl) ?_
        refine ev_isub dX9_countRests_45 ?_
        refine ev_cVI (b := 4) (av := [vI 1, vI (w32 (x3 - 1))]) (S := []) (fun q => q) h dX9_countRests_46 (fun Q' q => TX0_mayChoose_4 1 (w32 (x3 - 1)) _ q) kvX0_mayChoose ml_X9_22 sh_4 rfl (RRc (by decide) (by decide)) (Nat.le_of_ble_eq_true rfl) ⟨Nat.le_of_ble_eq_true rfl, Nat.le_of_ble_eq_true rfl⟩ (fun y2 f2 h => ?_)
        refine ev_if_eq (tgt := 89) dX9_countRests_49 (by decide) (fun c6 => ?_) (fun c6 => ?_)
        · rw [if_pos c6] at h
          exact SX9_countRests_95_4_89 q12 ih x2 x3 _ h
        · rw [if_neg c6] at h
          refine ev_aload_n (i := 0) dX9_countRests_52 rfl rfl ?_
          refine ev_aload_n (i := 1) dX9_countRests_53 rfl rfl ?_
          refine ev_iload_n (i := 2) dX9_countRests_54 rfl rfl ?_
          refine ev_iload_n (i := 3) dX9_countRests_55 rfl rfl ?_
          refine ev_cVI (b := 95) (av := [vR 4, vI x2, vI x3]) (S := []) (fun q => q) h dX9_countRests_56 (fun Q' q => TX9_isRest_95_4 x2 x3 _ q) kvX9_isRest ml_X9_79 sh_95 rfl (RRc (by decide) (by decide)) (Nat.le_of_ble_eq_true rfl) ⟨Nat.le_of_ble_eq_true rfl, Nat.le_of_ble_eq_true rfl⟩ (fun y3 f3 h => ?_)
          refine ev_if_eq (tgt := 89) dX9_countRests_59 (by decide) (fun c5 => ?_) (fun c5 => ?_)
          · rw [if_pos c5] at h
            exact SX9_countRests_95_4_89 q12 ih x2 x3 _ h
          · rw [if_neg c5] at h
            refine ev_aload_n (i := 0) dX9_countRests_62 rfl rfl ?_
            refine ex_getI (x := (f3 95 0)) dX9_countRests_63 fl_X9_73 sh_95 (by decide) (by decide) rfl ?_
            refine ev_if_ne (tgt := 79) dX9_countRests_66 (by decide) (fun c4 => ?_) (fun c4 => ?_)
            · rw [if_neg c4] at h
              exact SX9_countRests_95_4_79 q12 ih x2 x3 _ h
            · rw [if_pos c4] at h
              refine ev_aload_n (i := 0) dX9_countRests_69 rfl rfl ?_
              refine ev_bipush (v := 10) dX9_countRests_70 (r32c rfl) (by decide) ?_
              refine ev_iload_n (i := 2) dX9_countRests_72 rfl rfl ?_
              refine ev_imul dX9_countRests_73 ?_
              refine ev_iload_n (i := 3) dX9_countRests_74 rfl rfl ?_
              refine ev_iadd dX9_countRests_75 ?_
              refine ev_putI dX9_countRests_76 fl_X9_76 sh_95 (by decide) (by decide) ?_
              exact SX9_countRests_95_4_79 q12 ih x2 x3 _ h
def FX9_countRests_95_4_12  : Nat → Int → Mm → Option Mm
  | 0, _, _ => none
  | n + 1, x2, f => (if (f 4 4) < x2 then some f else FX9_countRests_95_4_22 (FX9_countRests_95_4_12 n) fu x2 0 f)
set_option maxHeartbeats 4000000 in
set_option maxRecDepth 100000 in
theorem SX9_countRests_95_4_12 {G : GT} {l : Launch} {Q : Option AV → Mem → Prop}  : ∀ (n : Nat) (x2 : Int) (f : Mm), OkV Q (FX9_countRests_95_4_12  n x2 f) → Ev G l MX9_countRests (Rm 4 0 0) (ZM G Q 0 0) 0 0 12 [some (vR 95), some (vR 4), some (vI x2), none] [] (SH, RF, f) := by
  intro n
  induction n with
  | zero => intro x2 f h; exact absurd h (by rw [FX9_countRests_95_4_12]; exact fun q => q)
  | succ n ih =>
    intro x2 f h
    rw [FX9_countRests_95_4_12] at h
    refine ev_iload_n (i := 2) dX9_countRests_12 rfl rfl ?_
    refine ev_aload_n (i := 1) dX9_countRests_13 rfl rfl ?_
    refine ex_getI (x := (f 4 4)) dX9_countRests_14 fl_X9_16 sh_4 (by decide) (by decide) rfl ?_
    refine ev_icmp_gt (tgt := 101) dX9_countRests_17 (by decide) (fun c1 => ?_) (fun c1 => ?_)
    · rw [if_pos c1] at h
      exact ev_vret rfl dX9_countRests_101 h
    · rw [if_neg c1] at h
      refine ev_iconst dX9_countRests_20 (r32c rfl) ?_
      refine ev_istore_n (i := 3) (L' := [some (vR 95), some (vR 4), some (vI x2), some (vI 0)]) dX9_countRests_21 rfl (by decide) rfl ?_
      exact SX9_countRests_95_4_22 ih fu x2 0 _ h
def FX9_countRests_95_4_0   (f : Mm) : Option Mm := FX9_countRests_95_4_12 fu 0 (up (up f 95 0 0) 95 1 (-1))
set_option maxHeartbeats 4000000 in
set_option maxRecDepth 100000 in
theorem SX9_countRests_95_4_0 {G : GT} {l : Launch} {Q : Option AV → Mem → Prop}   (f : Mm) (h : OkV Q (FX9_countRests_95_4_0   f)) : Ev G l MX9_countRests (Rm 4 0 0) (ZM G Q 0 0) 0 0 0 [some (vR 95), some (vR 4), none, none] [] (SH, RF, f) := by
  unfold FX9_countRests_95_4_0 at h
  refine ev_aload_n (i := 0) dX9_countRests_0 rfl rfl ?_
  refine ev_iconst dX9_countRests_1 (r32c rfl) ?_
  refine ev_putI dX9_countRests_2 fl_X9_73 sh_95 (by decide) (by decide) ?_
  refine ev_aload_n (i := 0) dX9_countRests_5 rfl rfl ?_
  refine ev_iconst dX9_countRests_6 (r32c rfl) ?_
  refine ev_putI dX9_countRests_7 fl_X9_76 sh_95 (by decide) (by decide) ?_
  refine ev_iconst dX9_countRests_10 (r32c rfl) ?_
  refine ev_istore_n (i := 2) (L' := [some (vR 95), some (vR 4), some (vI 0), none]) dX9_countRests_11 rfl (by decide) rfl ?_
  exact SX9_countRests_95_4_12  fu 0 _ h
def FX9_countRests_95_4  (f : Mm) : Option Mm := FX9_countRests_95_4_0  f
set_option maxRecDepth 100000 in
theorem TX9_countRests_95_4 {G : GT} {l : Launch} {Q : Option AV → Mem → Prop}  (f : Mm) (h : OkV Q (FX9_countRests_95_4  f)) : Ret G l MX9_countRests (4) 0 0 [vR 95, vR 4] (SH, RF, f) Q := by
  refine ret_of (L := [some (vR 95), some (vR 4), none, none]) (by decide) rfl (Nat.le_of_ble_eq_true rfl) ?_
  exact SX9_countRests_95_4_0  f h

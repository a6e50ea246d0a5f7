theorem dX0_hasDeed_0 : decode cX0_hasDeed 0 = .ok (.iload_n 1, 1) := by decide +kernel
theorem dX0_hasDeed_1 : decode cX0_hasDeed 1 = .ok (.ifCond .lt 15, 3) := by decide +kernel
theorem dX0_hasDeed_16 : decode cX0_hasDeed 16 = .ok (.iconst 0, 1) := by decide +kernel
theorem dX0_hasDeed_17 : decode cX0_hasDeed 17 = .ok (.ireturn, 1) := by decide +kernel
theorem dX0_hasDeed_4 : decode cX0_hasDeed 4 = .ok (.iload_n 1, 1) := by decide +kernel
theorem dX0_hasDeed_5 : decode cX0_hasDeed 5 = .ok (.aload_n 0, 1) := by decide +kernel
theorem dX0_hasDeed_6 : decode cX0_hasDeed 6 = .ok (.getfield 45, 3) := by decide +kernel
theorem dX0_hasDeed_9 : decode cX0_hasDeed 9 = .ok (.if_icmp .ge 7, 3) := by decide +kernel
theorem dX0_hasDeed_12 : decode cX0_hasDeed 12 = .ok (.iconst 1, 1) := by decide +kernel
theorem dX0_hasDeed_13 : decode cX0_hasDeed 13 = .ok (.goto 4, 3) := by decide +kernel
def FX0_hasDeed_4_0  (x1 : Int) (f : Mm) : Option (Int × Mm) := (if x1 < 0 then some (0, f) else (if (f 4 4) ≤ x1 then some (0, f) else some (1, f)))
set_option maxHeartbeats 4000000 in
set_option maxRecDepth 100000 in
theorem SX0_hasDeed_4_0 {G : GT} {l : Launch} {Q : Option AV → Mem → Prop}  (x1 : Int) (f : Mm) (h : OkI Q (FX0_hasDeed_4_0  x1 f)) : Ev G l MX0_hasDeed (Rm 1 0 0) (ZM G Q 0 0) 0 0 0 [some (vR 4), some (vI x1)] [] (SH, RF, f) := by
  unfold FX0_hasDeed_4_0 at h
  refine ev_iload_n (i := 1) dX0_hasDeed_0 rfl rfl ?_
  refine ev_if_lt (tgt := 16) dX0_hasDeed_1 (by decide) (fun c2 => ?_) (fun c2 => ?_)
  · rw [if_pos c2] at h
    refine ev_iconst dX0_hasDeed_16 (r32c rfl) ?_
    exact ev_zret rfl (by decide) dX0_hasDeed_17 h
  · rw [if_neg c2] at h
    refine ev_iload_n (i := 1) dX0_hasDeed_4 rfl rfl ?_
    refine ev_aload_n (i := 0) dX0_hasDeed_5 rfl rfl ?_
    refine ex_getI (x := (f 4 4)) dX0_hasDeed_6 fl_X0_45 sh_4 (by decide) (by decide) rfl ?_
    refine ev_icmp_ge (tgt := 16) dX0_hasDeed_9 (by decide) (fun c1 => ?_) (fun c1 => ?_)
    · rw [if_pos c1] at h
      refine ev_iconst dX0_hasDeed_16 (r32c rfl) ?_
      exact ev_zret rfl (by decide) dX0_hasDeed_17 h
    · rw [if_neg c1] at h
      refine ev_iconst dX0_hasDeed_12 (r32c rfl) ?_
      refine ev_goto (tgt := 17) dX0_hasDeed_13 (by decide) ?_
      exact ev_zret rfl (by decide) dX0_hasDeed_17 h
def FX0_hasDeed_4 (x1 : Int) (f : Mm) : Option (Int × Mm) := FX0_hasDeed_4_0 x1 f
theorem TX0_hasDeed_4 {G : GT} {l : Launch} {Q : Option AV → Mem → Prop} (x1 : Int) (f : Mm) (h : OkI Q (FX0_hasDeed_4 x1 f)) : Ret G l MX0_hasDeed (1) 0 0 [vR 4, vI x1] (SH, RF, f) Q := by
  refine ret_of (L := [some (vR 4), some (vI x1)]) (by decide) rfl (Nat.le_of_ble_eq_true rfl) ?_
  exact SX0_hasDeed_4_0 x1 f h
theorem dX10_deed_0 : decode cX10_deed 0 = .ok (.aload_n 0, 1) := by decide +kernel
theorem dX10_deed_1 : decode cX10_deed 1 = .ok (.getfield 19, 3) := by decide +kernel
theorem dX10_deed_4 : decode cX10_deed 4 = .ok (.iload_n 1, 1) := by decide +kernel
theorem dX10_deed_5 : decode cX10_deed 5 = .ok (.invokevirtual 109, 3) := by decide +kernel
theorem dX10_deed_8 : decode cX10_deed 8 = .ok (.ifCond .eq 12, 3) := by decide +kernel
theorem dX10_deed_20 : decode cX10_deed 20 = .ok (.sipush (-1000), 3) := by decide +kernel
theorem dX10_deed_23 : decode cX10_deed 23 = .ok (.ireturn, 1) := by decide +kernel
theorem dX10_deed_11 : decode cX10_deed 11 = .ok (.iload_n 2, 1) := by decide +kernel
theorem dX10_deed_12 : decode cX10_deed 12 = .ok (.ifCond .lt 8, 3) := by decide +kernel
theorem dX10_deed_15 : decode cX10_deed 15 = .ok (.iload_n 2, 1) := by decide +kernel
theorem dX10_deed_16 : decode cX10_deed 16 = .ok (.iconst 4, 1) := by decide +kernel
theorem dX10_deed_17 : decode cX10_deed 17 = .ok (.if_icmp .lt 7, 3) := by decide +kernel
theorem dX10_deed_24 : decode cX10_deed 24 = .ok (.aload_n 0, 1) := by decide +kernel
theorem dX10_deed_25 : decode cX10_deed 25 = .ok (.getfield 19, 3) := by decide +kernel
theorem dX10_deed_28 : decode cX10_deed 28 = .ok (.getfield 113, 3) := by decide +kernel
theorem dX10_deed_31 : decode cX10_deed 31 = .ok (.iload_n 1, 1) := by decide +kernel
theorem dX10_deed_32 : decode cX10_deed 32 = .ok (.aaload, 1) := by decide +kernel
theorem dX10_deed_33 : decode cX10_deed 33 = .ok (.iload_n 2, 1) := by decide +kernel
theorem dX10_deed_34 : decode cX10_deed 34 = .ok (.iaload, 1) := by decide +kernel
theorem dX10_deed_35 : decode cX10_deed 35 = .ok (.ireturn, 1) := by decide +kernel
def FX10_deed_0  (x1 : Int) (x2 : Int) (f : Mm) : Option (Int × Mm) := (b2 (FX0_hasDeed_4 x1 f) fun y1 f1 => (if y1 = 0 then some ((-1000), f1) else (if x2 < 0 then some ((-1000), f1) else (if x2 < 4 then (if 0 ≤ x1 ∧ x1 < 4 then (if 0 ≤ x2 ∧ x2 < 4 then some ((f1 (7 + x1.toNat) x2.toNat), f1) else none) else none) else some ((-1000), f1)))))
set_option maxHeartbeats 4000000 in
set_option maxRecDepth 100000 in
theorem SX10_deed_0 {G : GT} {l : Launch} {Q : Option AV → Mem → Prop}  (x1 : Int) (x2 : Int) (f : Mm) (h : OkI Q (FX10_deed_0  x1 x2 f)) : Ev G l MX10_deed (Rm 2 0 0) (ZM G Q 0 0) 0 0 0 [some (vR 0), some (vI x1), some (vI x2)] [] (SH, RF, f) := by
  unfold FX10_deed_0 at h
  refine ev_aload_n (i := 0) dX10_deed_0 rfl rfl ?_
  refine ev_getR dX10_deed_1 fl_X10_19 sh_0 (by decide) (by decide) rf_0_1 ?_
  refine ev_iload_n (i := 1) dX10_deed_4 rfl rfl ?_
  refine ev_cVI (b := 4) (av := [vI x1]) (S := []) (fun q => q) h dX10_deed_5 (fun Q' q => TX0_hasDeed_4 x1 _ q) kvX0_hasDeed ml_X10_109 sh_4 rfl (RRc (by decide) (by decide)) (Nat.le_of_ble_eq_true rfl) ⟨Nat.le_of_ble_eq_true rfl, Nat.le_of_ble_eq_true rfl⟩ (fun y1 f1 h => ?_)
  refine ev_if_eq (tgt := 20) dX10_deed_8 (by decide) (fun c6 => ?_) (fun c6 => ?_)
  · rw [if_pos c6] at h
    refine ev_sipush (v := (-1000)) dX10_deed_20 (r32c rfl) (by decide) ?_
    exact ev_iret rfl dX10_deed_23 h
  · rw [if_neg c6] at h
    refine ev_iload_n (i := 2) dX10_deed_11 rfl rfl ?_
    refine ev_if_lt (tgt := 20) dX10_deed_12 (by decide) (fun c5 => ?_) (fun c5 => ?_)
    · rw [if_pos c5] at h
      refine ev_sipush (v := (-1000)) dX10_deed_20 (r32c rfl) (by decide) ?_
      exact ev_iret rfl dX10_deed_23 h
    · rw [if_neg c5] at h
      refine ev_iload_n (i := 2) dX10_deed_15 rfl rfl ?_
      refine ev_iconst dX10_deed_16 (r32c rfl) ?_
      refine ev_icmp_lt (tgt := 24) dX10_deed_17 (by decide) (fun c4 => ?_) (fun c4 => ?_)
      · rw [if_pos c4] at h
        refine ev_aload_n (i := 0) dX10_deed_24 rfl rfl ?_
        refine ev_getR dX10_deed_25 fl_X10_19 sh_0 (by decide) (by decide) rf_0_1 ?_
        refine ev_getR dX10_deed_28 fl_X10_113 sh_4 (by decide) (by decide) rf_4_8 ?_
        refine ev_iload_n (i := 1) dX10_deed_31 rfl rfl ?_
        by_cases g2 : 0 ≤ x1 ∧ x1 < 4
        · rw [if_pos g2] at h
          refine ev_aald (b := (7 + x1.toNat)) dX10_deed_32 (Or.inl rfl) sh_6 g2.1 g2.2 (rfr_6 g2) ?_
          refine ev_iload_n (i := 2) dX10_deed_33 rfl rfl ?_
          by_cases g3 : 0 ≤ x2 ∧ x2 < 4
          · rw [if_pos g3] at h
            refine ex_iald (x := (f1 (7 + x1.toNat) x2.toNat)) dX10_deed_34 (shr_6 g2) g3.1 g3.2 rfl ?_
            exact ev_iret rfl dX10_deed_35 h
          · rw [if_neg g3] at h; exact h.elim
        · rw [if_neg g2] at h; exact h.elim
      · rw [if_neg c4] at h
        refine ev_sipush (v := (-1000)) dX10_deed_20 (r32c rfl) (by decide) ?_
        exact ev_iret rfl dX10_deed_23 h
def FX10_deed (x1 : Int) (x2 : Int) (f : Mm) : Option (Int × Mm) := FX10_deed_0 x1 x2 f
theorem TX10_deed {G : GT} {l : Launch} {Q : Option AV → Mem → Prop} (x1 : Int) (x2 : Int) (f : Mm) (h : OkI Q (FX10_deed x1 x2 f)) : Ret G l MX10_deed (2) 0 0 [vR 0, vI x1, vI x2] (SH, RF, f) Q := by
  refine ret_of (L := [some (vR 0), some (vI x1), some (vI x2)]) (by decide) rfl (Nat.le_of_ble_eq_true rfl) ?_
  exact SX10_deed_0 x1 x2 f h
theorem dX0_hasCart_0 : decode cX0_hasCart 0 = .ok (.iload_n 1, 1) := by decide +kernel
theorem dX0_hasCart_1 : decode cX0_hasCart 1 = .ok (.ifCond .lt 15, 3) := by decide +kernel
theorem dX0_hasCart_16 : decode cX0_hasCart 16 = .ok (.iconst 0, 1) := by decide +kernel
theorem dX0_hasCart_17 : decode cX0_hasCart 17 = .ok (.ireturn, 1) := by decide +kernel
theorem dX0_hasCart_4 : decode cX0_hasCart 4 = .ok (.iload_n 1, 1) := by decide +kernel
theorem dX0_hasCart_5 : decode cX0_hasCart 5 = .ok (.aload_n 0, 1) := by decide +kernel
theorem dX0_hasCart_6 : decode cX0_hasCart 6 = .ok (.getfield 48, 3) := by decide +kernel
theorem dX0_hasCart_9 : decode cX0_hasCart 9 = .ok (.if_icmp .ge 7, 3) := by decide +kernel
theorem dX0_hasCart_12 : decode cX0_hasCart 12 = .ok (.iconst 1, 1) := by decide +kernel
theorem dX0_hasCart_13 : decode cX0_hasCart 13 = .ok (.goto 4, 3) := by decide +kernel
def FX0_hasCart_4_0  (x1 : Int) (f : Mm) : Option (Int × Mm) := (if x1 < 0 then some (0, f) else (if (f 4 5) ≤ x1 then some (0, f) else some (1, f)))
set_option maxHeartbeats 4000000 in
set_option maxRecDepth 100000 in
theorem SX0_hasCart_4_0 {G : GT} {l : Launch} {Q : Option AV → Mem → Prop}  (x1 : Int) (f : Mm) (h : OkI Q (FX0_hasCart_4_0  x1 f)) : Ev G l MX0_hasCart (Rm 1 0 0) (ZM G Q 0 0) 0 0 0 [some (vR 4), some (vI x1)] [] (SH, RF, f) := by
  unfold FX0_hasCart_4_0 at h
  refine ev_iload_n (i := 1) dX0_hasCart_0 rfl rfl ?_
  refine ev_if_lt (tgt := 16) dX0_hasCart_1 (by decide) (fun c2 => ?_) (fun c2 => ?_)
  · rw [if_pos c2] at h
    refine ev_iconst dX0_hasCart_16 (r32c rfl) ?_
    exact ev_zret rfl (by decide) dX0_hasCart_17 h
  · rw [if_neg c2] at h
    refine ev_iload_n (i := 1) dX0_hasCart_4 rfl rfl ?_
    refine ev_aload_n (i := 0) dX0_hasCart_5 rfl rfl ?_
    refine ex_getI (x := (f 4 5)) dX0_hasCart_6 fl_X0_48 sh_4 (by decide) (by decide) rfl ?_
    refine ev_icmp_ge (tgt := 16) dX0_hasCart_9 (by decide) (fun c1 => ?_) (fun c1 => ?_)
    · rw [if_pos c1] at h
      refine ev_iconst dX0_hasCart_16 (r32c rfl) ?_
      exact ev_zret rfl (by decide) dX0_hasCart_17 h
    · rw [if_neg c1] at h
      refine ev_iconst dX0_hasCart_12 (r32c rfl) ?_
      refine ev_goto (tgt := 17) dX0_hasCart_13 (by decide) ?_
      exact ev_zret rfl (by decide) dX0_hasCart_17 h
def FX0_hasCart_4 (x1 : Int) (f : Mm) : Option (Int × Mm) := FX0_hasCart_4_0 x1 f
theorem TX0_hasCart_4 {G : GT} {l : Launch} {Q : Option AV → Mem → Prop} (x1 : Int) (f : Mm) (h : OkI Q (FX0_hasCart_4 x1 f)) : Ret G l MX0_hasCart (1) 0 0 [vR 4, vI x1] (SH, RF, f) Q := by
  refine ret_of (L := [some (vR 4), some (vI x1)]) (by decide) rfl (Nat.le_of_ble_eq_true rfl) ?_
  exact SX0_hasCart_4_0 x1 f h
theorem dX10_cart_0 : decode cX10_cart 0 = .ok (.aload_n 0, 1) := by decide +kernel
theorem dX10_cart_1 : decode cX10_cart 1 = .ok (.getfield 19, 3) := by decide +kernel
theorem dX10_cart_4 : decode cX10_cart 4 = .ok (.iload_n 1, 1) := by decide +kernel
theorem dX10_cart_5 : decode cX10_cart 5 = .ok (.invokevirtual 117, 3) := by decide +kernel
theorem dX10_cart_8 : decode cX10_cart 8 = .ok (.ifCond .eq 12, 3) := by decide +kernel
theorem dX10_cart_20 : decode cX10_cart 20 = .ok (.bipush (-2), 2) := by decide +kernel
theorem dX10_cart_22 : decode cX10_cart 22 = .ok (.ireturn, 1) := by decide +kernel
theorem dX10_cart_11 : decode cX10_cart 11 = .ok (.iload_n 2, 1) := by decide +kernel
theorem dX10_cart_12 : decode cX10_cart 12 = .ok (.ifCond .lt 8, 3) := by decide +kernel
theorem dX10_cart_15 : decode cX10_cart 15 = .ok (.iload_n 2, 1) := by decide +kernel
theorem dX10_cart_16 : decode cX10_cart 16 = .ok (.iconst 5, 1) := by decide +kernel
theorem dX10_cart_17 : decode cX10_cart 17 = .ok (.if_icmp .lt 6, 3) := by decide +kernel
theorem dX10_cart_23 : decode cX10_cart 23 = .ok (.aload_n 0, 1) := by decide +kernel
theorem dX10_cart_24 : decode cX10_cart 24 = .ok (.getfield 19, 3) := by decide +kernel
theorem dX10_cart_27 : decode cX10_cart 27 = .ok (.getfield 120, 3) := by decide +kernel
theorem dX10_cart_30 : decode cX10_cart 30 = .ok (.iload_n 1, 1) := by decide +kernel
theorem dX10_cart_31 : decode cX10_cart 31 = .ok (.aaload, 1) := by decide +kernel
theorem dX10_cart_32 : decode cX10_cart 32 = .ok (.iload_n 2, 1) := by decide +kernel
theorem dX10_cart_33 : decode cX10_cart 33 = .ok (.iaload, 1) := by decide +kernel
theorem dX10_cart_34 : decode cX10_cart 34 = .ok (.ireturn, 1) := by decide +kernel
def FX10_cart_0  (x1 : Int) (x2 : Int) (f : Mm) : Option (Int × Mm) := (b2 (FX0_hasCart_4 x1 f) fun y1 f1 => (if y1 = 0 then some ((-2), f1) else (if x2 < 0 then some ((-2), f1) else (if x2 < 5 then (if 0 ≤ x1 ∧ x1 < 6 then (if 0 ≤ x2 ∧ x2 < 5 then some ((f1 (12 + x1.toNat) x2.toNat), f1) else none) else none) else some ((-2), f1)))))
set_option maxHeartbeats 4000000 in
set_option maxRecDepth 100000 in
theorem SX10_cart_0 {G : GT} {l : Launch} {Q : Option AV → Mem → Prop}  (x1 : Int) (x2 : Int) (f : Mm) (h : OkI Q (FX10_cart_0  x1 x2 f)) : Ev G l MX10_cart (Rm 2 0 0) (ZM G Q 0 0) 0 0 0 [some (vR 0), some (vI x1), some (vI x2)] [] (SH, RF, f) := by
  unfold FX10_cart_0 at h
  refine ev_aload_n (i := 0) dX10_cart_0 rfl rfl ?_
  refine ev_getR dX10_cart_1 fl_X10_19 sh_0 (by decide) (by decide) rf_0_1 ?_
  refine ev_iload_n (i := 1) dX10_cart_4 rfl rfl ?_
  refine ev_cVI (b := 4) (av := [vI x1]) (S := []) (fun q => q) h dX10_cart_5 (fun Q' q => TX0_hasCart_4 x1 _ q) kvX0_hasCart ml_X10_117 sh_4 rfl (RRc (by decide) (by decide)) (Nat.le_of_ble_eq_true rfl) ⟨Nat.le_of_ble_eq_true rfl, Nat.le_of_ble_eq_true rfl⟩ (fun y1 f1 h => ?_)
  refine ev_if_eq (tgt := 20) dX10_cart_8 (by decide) (fun c6 => ?_) (fun c6 => ?_)
  · rw [if_pos c6] at h
    refine ev_bipush (v := (-2)) dX10_cart_20 (r32c rfl) (by decide) ?_
    exact ev_iret rfl dX10_cart_22 h
  · rw [if_neg c6] at h
    refine ev_iload_n (i := 2) dX10_cart_11 rfl rfl ?_
    refine ev_if_lt (tgt := 20) dX10_cart_12 (by decide) (fun c5 => ?_) (fun c5 => ?_)
    · rw [if_pos c5] at h
      refine ev_bipush (v := (-2)) dX10_cart_20 (r32c rfl) (by decide) ?_
      exact ev_iret rfl dX10_cart_22 h
    · rw [if_neg c5] at h
      refine ev_iload_n (i := 2) dX10_cart_15 rfl rfl ?_
      refine ev_iconst dX10_cart_16 (r32c rfl) ?_
      refine ev_icmp_lt (tgt := 23) dX10_cart_17 (by decide) (fun c4 => ?_) (fun c4 => ?_)
      · rw [if_pos c4] at h
        refine ev_aload_n (i := 0) dX10_cart_23 rfl rfl ?_
        refine ev_getR dX10_cart_24 fl_X10_19 sh_0 (by decide) (by decide) rf_0_1 ?_
        refine ev_getR dX10_cart_27 fl_X10_120 sh_4 (by decide) (by decide) rf_4_9 ?_
        refine ev_iload_n (i := 1) dX10_cart_30 rfl rfl ?_
        by_cases g2 : 0 ≤ x1 ∧ x1 < 6
        · rw [if_pos g2] at h
          refine ev_aald (b := (12 + x1.toNat)) dX10_cart_31 (Or.inl rfl) sh_11 g2.1 g2.2 (rfr_11 g2) ?_
          refine ev_iload_n (i := 2) dX10_cart_32 rfl rfl ?_
          by_cases g3 : 0 ≤ x2 ∧ x2 < 5
          · rw [if_pos g3] at h
            refine ex_iald (x := (f1 (12 + x1.toNat) x2.toNat)) dX10_cart_33 (shr_11 g2) g3.1 g3.2 rfl ?_
            exact ev_iret rfl dX10_cart_34 h
          · rw [if_neg g3] at h; exact h.elim
        · rw [if_neg g2] at h; exact h.elim
      · rw [if_neg c4] at h
        refine ev_bipush (v := (-2)) dX10_cart_20 (r32c rfl) (by decide) ?_
        exact ev_iret rfl dX10_cart_22 h
def FX10_cart (x1 : Int) (x2 : Int) (f : Mm) : Option (Int × Mm) := FX10_cart_0 x1 x2 f
theorem TX10_cart {G : GT} {l : Launch} {Q : Option AV → Mem → Prop} (x1 : Int) (x2 : Int) (f : Mm) (h : OkI Q (FX10_cart x1 x2 f)) : Ret G l MX10_cart (2) 0 0 [vR 0, vI x1, vI x2] (SH, RF, f) Q := by
  refine ret_of (L := [some (vR 0), some (vI x1), some (vI x2)]) (by decide) rfl (Nat.le_of_ble_eq_true rfl) ?_
  exact SX10_cart_0 x1 x2 f h
theorem dX10_isSide_9 : decode cX10_isSide 9 = .ok (.iconst 1, 1) := by decide +kernel
theorem dX10_isSide_10 : decode cX10_isSide 10 = .ok (.goto 4, 3) := by decide +kernel
theorem dX10_isSide_14 : decode cX10_isSide 14 = .ok (.ireturn, 1) := by decide +kernel
theorem dX10_isSide_0 : decode cX10_isSide 0 = .ok (.iload_n 0, 1) := by decide +kernel
theorem dX10_isSide_1 : decode cX10_isSide 1 = .ok (.ifCond .eq 8, 3) := by decide +kernel
theorem dX10_isSide_4 : decode cX10_isSide 4 = .ok (.iload_n 0, 1) := by decide +kernel
theorem dX10_isSide_5 : decode cX10_isSide 5 = .ok (.iconst 1, 1) := by decide +kernel
theorem dX10_isSide_6 : decode cX10_isSide 6 = .ok (.if_icmp .ne 7, 3) := by decide +kernel
theorem dX10_isSide_13 : decode cX10_isSide 13 = .ok (.iconst 0, 1) := by decide +kernel
def FX10_isSide_9   (f : Mm) : Option (Int × Mm) := some (1, f)
set_option maxHeartbeats 4000000 in
set_option maxRecDepth 100000 in
theorem SX10_isSide_9 {G : GT} {l : Launch} {Q : Option AV → Mem → Prop}   (f : Mm) (h : OkI Q (FX10_isSide_9   f)) : Ev G l MX10_isSide (Rm 1 0 0) (ZM G Q 0 0) 0 0 9 [none] [] (SH, RF, f) := by
  unfold FX10_isSide_9 at h
  refine ev_iconst dX10_isSide_9 (r32c rfl) ?_
  refine ev_goto (tgt := 14) dX10_isSide_10 (by decide) ?_
  exact ev_zret rfl (by decide) dX10_isSide_14 h
def FX10_isSide_0  (x0 : Int) (f : Mm) : Option (Int × Mm) := (if x0 = 0 then FX10_isSide_9 f else (if x0 = 1 then FX10_isSide_9 f else some (0, f)))
set_option maxHeartbeats 4000000 in
set_option maxRecDepth 100000 in
theorem SX10_isSide_0 {G : GT} {l : Launch} {Q : Option AV → Mem → Prop}  (x0 : Int) (f : Mm) (h : OkI Q (FX10_isSide_0  x0 f)) : Ev G l MX10_isSide (Rm 1 0 0) (ZM G Q 0 0) 0 0 0 [some (vI x0)] [] (SH, RF, f) := by
  unfold FX10_isSide_0 at h
  refine ev_iload_n (i := 0) dX10_isSide_0 rfl rfl ?_
  refine ev_if_eq (tgt := 9) dX10_isSide_1 (by decide) (fun c2 => ?_) (fun c2 => ?_)
  · rw [if_pos c2] at h
    refine ev_fg [false] rfl ?_
    exact SX10_isSide_9   _ h
  · rw [if_neg c2] at h
    refine ev_iload_n (i := 0) dX10_isSide_4 rfl rfl ?_
    refine ev_iconst dX10_isSide_5 (r32c rfl) ?_
    refine ev_icmp_ne (tgt := 13) dX10_isSide_6 (by decide) (fun c1 => ?_) (fun c1 => ?_)
    · rw [if_neg c1] at h
      refine ev_iconst dX10_isSide_13 (r32c rfl) ?_
      exact ev_zret rfl (by decide) dX10_isSide_14 h
    · rw [if_pos c1] at h
      refine ev_fg [false] rfl ?_
      exact SX10_isSide_9   _ h
def FX10_isSide (x0 : Int) (f : Mm) : Option (Int × Mm) := FX10_isSide_0 x0 f
theorem TX10_isSide {G : GT} {l : Launch} {Q : Option AV → Mem → Prop} (x0 : Int) (f : Mm) (h : OkI Q (FX10_isSide x0 f)) : Ret G l MX10_isSide (1) 0 0 [vI x0] (SH, RF, f) Q := by
  refine ret_of (L := [some (vI x0)]) (by decide) rfl (Nat.le_of_ble_eq_true rfl) ?_
  exact SX10_isSide_0 x0 f h
theorem dX0_hasDay_0 : decode cX0_hasDay 0 = .ok (.iload_n 1, 1) := by decide +kernel
theorem dX0_hasDay_1 : decode cX0_hasDay 1 = .ok (.ifCond .lt 15, 3) := by decide +kernel
theorem dX0_hasDay_16 : decode cX0_hasDay 16 = .ok (.iconst 0, 1) := by decide +kernel
theorem dX0_hasDay_17 : decode cX0_hasDay 17 = .ok (.ireturn, 1) := by decide +kernel
theorem dX0_hasDay_4 : decode cX0_hasDay 4 = .ok (.iload_n 1, 1) := by decide +kernel
theorem dX0_hasDay_5 : decode cX0_hasDay 5 = .ok (.aload_n 0, 1) := by decide +kernel
theorem dX0_hasDay_6 : decode cX0_hasDay 6 = .ok (.getfield 36, 3) := by decide +kernel
theorem dX0_hasDay_9 : decode cX0_hasDay 9 = .ok (.if_icmp .ge 7, 3) := by decide +kernel
theorem dX0_hasDay_12 : decode cX0_hasDay 12 = .ok (.iconst 1, 1) := by decide +kernel
theorem dX0_hasDay_13 : decode cX0_hasDay 13 = .ok (.goto 4, 3) := by decide +kernel
def FX0_hasDay_4_0  (x1 : Int) (f : Mm) : Option (Int × Mm) := (if x1 < 0 then some (0, f) else (if (f 4 1) ≤ x1 then some (0, f) else some (1, f)))
set_option maxHeartbeats 4000000 in
set_option maxRecDepth 100000 in
theorem SX0_hasDay_4_0 {G : GT} {l : Launch} {Q : Option AV → Mem → Prop}  (x1 : Int) (f : Mm) (h : OkI Q (FX0_hasDay_4_0  x1 f)) : Ev G l MX0_hasDay (Rm 1 0 0) (ZM G Q 0 0) 0 0 0 [some (vR 4), some (vI x1)] [] (SH, RF, f) := by
  unfold FX0_hasDay_4_0 at h
  refine ev_iload_n (i := 1) dX0_hasDay_0 rfl rfl ?_
  refine ev_if_lt (tgt := 16) dX0_hasDay_1 (by decide) (fun c2 => ?_) (fun c2 => ?_)
  · rw [if_pos c2] at h
    refine ev_iconst dX0_hasDay_16 (r32c rfl) ?_
    exact ev_zret rfl (by decide) dX0_hasDay_17 h
  · rw [if_neg c2] at h
    refine ev_iload_n (i := 1) dX0_hasDay_4 rfl rfl ?_
    refine ev_aload_n (i := 0) dX0_hasDay_5 rfl rfl ?_
    refine ex_getI (x := (f 4 1)) dX0_hasDay_6 fl_X0_36 sh_4 (by decide) (by decide) rfl ?_
    refine ev_icmp_ge (tgt := 16) dX0_hasDay_9 (by decide) (fun c1 => ?_) (fun c1 => ?_)
    · rw [if_pos c1] at h
      refine ev_iconst dX0_hasDay_16 (r32c rfl) ?_
      exact ev_zret rfl (by decide) dX0_hasDay_17 h
    · rw [if_neg c1] at h
      refine ev_iconst dX0_hasDay_12 (r32c rfl) ?_
      refine ev_goto (tgt := 17) dX0_hasDay_13 (by decide) ?_
      exact ev_zret rfl (by decide) dX0_hasDay_17 h
def FX0_hasDay_4 (x1 : Int) (f : Mm) : Option (Int × Mm) := FX0_hasDay_4_0 x1 f
theorem TX0_hasDay_4 {G : GT} {l : Launch} {Q : Option AV → Mem → Prop} (x1 : Int) (f : Mm) (h : OkI Q (FX0_hasDay_4 x1 f)) : Ret G l MX0_hasDay (1) 0 0 [vR 4, vI x1] (SH, RF, f) Q := by
  refine ret_of (L := [some (vR 4), some (vI x1)]) (by decide) rfl (Nat.le_of_ble_eq_true rfl) ?_
  exact SX0_hasDay_4_0 x1 f h
theorem dX1_asDone_47 : decode cX1_asDone 47 = .ok (.aload_n 0, 1) := by decide +kernel
theorem dX1_asDone_48 : decode cX1_asDone 48 = .ok (.iconst (-1), 1) := by decide +kernel
theorem dX1_asDone_49 : decode cX1_asDone 49 = .ok (.putfield 37, 3) := by decide +kernel
theorem dX1_asDone_52 : decode cX1_asDone 52 = .ok (.aload_n 0, 1) := by decide +kernel
theorem dX1_asDone_53 : decode cX1_asDone 53 = .ok (.iconst (-1), 1) := by decide +kernel
theorem dX1_asDone_54 : decode cX1_asDone 54 = .ok (.putfield 41, 3) := by decide +kernel
theorem dX1_asDone_57 : decode cX1_asDone 57 = .ok (.aload_n 0, 1) := by decide +kernel
theorem dX1_asDone_58 : decode cX1_asDone 58 = .ok (.aload_n 1, 1) := by decide +kernel
theorem dX1_asDone_59 : decode cX1_asDone 59 = .ok (.getfield 44, 3) := by decide +kernel
theorem dX1_asDone_62 : decode cX1_asDone 62 = .ok (.putfield 47, 3) := by decide +kernel
theorem dX1_asDone_65 : decode cX1_asDone 65 = .ok (.aload_n 0, 1) := by decide +kernel
theorem dX1_asDone_66 : decode cX1_asDone 66 = .ok (.iconst 0, 1) := by decide +kernel
theorem dX1_asDone_67 : decode cX1_asDone 67 = .ok (.putfield 48, 3) := by decide +kernel
theorem dX1_asDone_70 : decode cX1_asDone 70 = .ok (.return_, 1) := by decide +kernel
theorem dX1_asDone_28 : decode cX1_asDone 28 = .ok (.iload_n 2, 1) := by decide +kernel
theorem dX1_asDone_29 : decode cX1_asDone 29 = .ok (.bipush 6, 2) := by decide +kernel
theorem dX1_asDone_31 : decode cX1_asDone 31 = .ok (.if_icmp .ge 16, 3) := by decide +kernel
theorem dX1_asDone_34 : decode cX1_asDone 34 = .ok (.aload_n 0, 1) := by decide +kernel
theorem dX1_asDone_35 : decode cX1_asDone 35 = .ok (.getfield 15, 3) := by decide +kernel
theorem dX1_asDone_38 : decode cX1_asDone 38 = .ok (.iload_n 2, 1) := by decide +kernel
theorem dX1_asDone_39 : decode cX1_asDone 39 = .ok (.iload_n 2, 1) := by decide +kernel
theorem dX1_asDone_40 : decode cX1_asDone 40 = .ok (.iastore, 1) := by decide +kernel
theorem dX1_asDone_41 : decode cX1_asDone 41 = .ok (.iinc 2 1, 3) := by decide +kernel
theorem dX1_asDone_44 : decode cX1_asDone 44 = .ok (.goto (-16), 3) := by decide +kernel
theorem dX1_asDone_26 : decode cX1_asDone 26 = .ok (.iconst 0, 1) := by decide +kernel
theorem dX1_asDone_27 : decode cX1_asDone 27 = .ok (.istore_n 2, 1) := by decide +kernel
theorem dX1_asDone_2 : decode cX1_asDone 2 = .ok (.iload_n 2, 1) := by decide +kernel
theorem dX1_asDone_3 : decode cX1_asDone 3 = .ok (.bipush 6, 2) := by decide +kernel
theorem dX1_asDone_5 : decode cX1_asDone 5 = .ok (.if_icmp .ge 21, 3) := by decide +kernel
theorem dX1_asDone_8 : decode cX1_asDone 8 = .ok (.aload_n 0, 1) := by decide +kernel
theorem dX1_asDone_9 : decode cX1_asDone 9 = .ok (.getfield 9, 3) := by decide +kernel
theorem dX1_asDone_12 : decode cX1_asDone 12 = .ok (.iload_n 2, 1) := by decide +kernel
theorem dX1_asDone_13 : decode cX1_asDone 13 = .ok (.aload_n 1, 1) := by decide +kernel
theorem dX1_asDone_14 : decode cX1_asDone 14 = .ok (.getfield 32, 3) := by decide +kernel
theorem dX1_asDone_17 : decode cX1_asDone 17 = .ok (.iload_n 2, 1) := by decide +kernel
theorem dX1_asDone_18 : decode cX1_asDone 18 = .ok (.iaload, 1) := by decide +kernel
theorem dX1_asDone_19 : decode cX1_asDone 19 = .ok (.iastore, 1) := by decide +kernel
theorem dX1_asDone_20 : decode cX1_asDone 20 = .ok (.iinc 2 1, 3) := by decide +kernel
theorem dX1_asDone_23 : decode cX1_asDone 23 = .ok (.goto (-21), 3) := by decide +kernel
theorem dX1_asDone_0 : decode cX1_asDone 0 = .ok (.iconst 0, 1) := by decide +kernel
theorem dX1_asDone_1 : decode cX1_asDone 1 = .ok (.istore_n 2, 1) := by decide +kernel
def FX1_asDone_48_4_47   (f : Mm) : Option Mm := some (up (up (up (up f 48 2 (-1)) 48 3 (-1)) 48 4 (f 4 2)) 48 5 0)
set_option maxHeartbeats 4000000 in
set_option maxRecDepth 100000 in
theorem SX1_asDone_48_4_47 {G : GT} {l : Launch} {Q : Option AV → Mem → Prop}   (f : Mm) (h : OkV Q (FX1_asDone_48_4_47   f)) : Ev G l MX1_asDone (Rm 1 0 0) (ZM G Q 0 0) 0 0 47 [some (vR 48), some (vR 4), none] [] (SH, RF, f) := by
  unfold FX1_asDone_48_4_47 at h
  refine ev_aload_n (i := 0) dX1_asDone_47 rfl rfl ?_
  refine ev_iconst dX1_asDone_48 (r32c rfl) ?_
  refine ev_putI dX1_asDone_49 fl_X1_37 sh_48 (by decide) (by decide) ?_
  refine ev_aload_n (i := 0) dX1_asDone_52 rfl rfl ?_
  refine ev_iconst dX1_asDone_53 (r32c rfl) ?_
  refine ev_putI dX1_asDone_54 fl_X1_41 sh_48 (by decide) (by decide) ?_
  refine ev_aload_n (i := 0) dX1_asDone_57 rfl rfl ?_
  refine ev_aload_n (i := 1) dX1_asDone_58 rfl rfl ?_
  refine ex_getI (x := (f 4 2)) dX1_asDone_59 fl_X1_44 sh_4 (by decide) (by decide) rfl ?_
  refine ev_putI dX1_asDone_62 fl_X1_47 sh_48 (by decide) (by decide) ?_
  refine ev_aload_n (i := 0) dX1_asDone_65 rfl rfl ?_
  refine ev_iconst dX1_asDone_66 (r32c rfl) ?_
  refine ev_putI dX1_asDone_67 fl_X1_48 sh_48 (by decide) (by decide) ?_
  exact ev_vret rfl dX1_asDone_70 h
def FX1_asDone_48_4_28  : Nat → Int → Mm → Option Mm
  | 0, _, _ => none
  | n + 1, x2, f => (if 6 ≤ x2 then FX1_asDone_48_4_47 f else (if 0 ≤ x2 ∧ x2 < 6 then FX1_asDone_48_4_28 n (w32 (x2 + 1)) (up f 50 x2.toNat x2) else none))
set_option maxHeartbeats 4000000 in
set_option maxRecDepth 100000 in
theorem SX1_asDone_48_4_28 {G : GT} {l : Launch} {Q : Option AV → Mem → Prop}  : ∀ (n : Nat) (x2 : Int) (f : Mm), OkV Q (FX1_asDone_48_4_28  n x2 f) → Ev G l MX1_asDone (Rm 1 0 0) (ZM G Q 0 0) 0 0 28 [some (vR 48), some (vR 4), some (vI x2)] [] (SH, RF, f) := by
  intro n
  induction n with
  | zero => intro x2 f h; exact absurd h (by rw [FX1_asDone_48_4_28]; exact fun q => q)
  | succ n ih =>
    intro x2 f h
    rw [FX1_asDone_48_4_28] at h
    refine ev_iload_n (i := 2) dX1_asDone_28 rfl rfl ?_
    refine ev_bipush (v := 6) dX1_asDone_29 (r32c rfl) (by decide) ?_
    refine ev_icmp_ge (tgt := 47) dX1_asDone_31 (by decide) (fun c2 => ?_) (fun c2 => ?_)
    · rw [if_pos c2] at h
      refine ev_fg [true, true, false] rfl ?_
      exact SX1_asDone_48_4_47   _ h
    · rw [if_neg c2] at h
      refine ev_aload_n (i := 0) dX1_asDone_34 rfl rfl ?_
      refine ev_getR dX1_asDone_35 fl_X1_15 sh_48 (by decide) (by decide) rf_48_1 ?_
      refine ev_iload_n (i := 2) dX1_asDone_38 rfl rfl ?_
      refine ev_iload_n (i := 2) dX1_asDone_39 rfl rfl ?_
      by_cases g1 : 0 ≤ x2 ∧ x2 < 6
      · rw [if_pos g1] at h
        refine ex_iast (j := x2.toNat) dX1_asDone_40 sh_50 g1.1 g1.2 rfl ?_
        refine ev_iinc (L' := [some (vR 48), some (vR 4), some (vI (w32 (x2 + 1)))]) dX1_asDone_41 rfl (by decide) rfl ?_
        refine ev_goto (tgt := 28) dX1_asDone_44 (by decide) ?_
        exact ih (w32 (x2 + 1)) _ h
      · rw [if_neg g1] at h; exact h.elim
def FX1_asDone_48_4_26   (f : Mm) : Option Mm := FX1_asDone_48_4_28 fu 0 f
set_option maxHeartbeats 4000000 in
set_option maxRecDepth 100000 in
theorem SX1_asDone_48_4_26 {G : GT} {l : Launch} {Q : Option AV → Mem → Prop}   (f : Mm) (h : OkV Q (FX1_asDone_48_4_26   f)) : Ev G l MX1_asDone (Rm 1 0 0) (ZM G Q 0 0) 0 0 26 [some (vR 48), some (vR 4), none] [] (SH, RF, f) := by
  unfold FX1_asDone_48_4_26 at h
  refine ev_iconst dX1_asDone_26 (r32c rfl) ?_
  refine ev_istore_n (i := 2) (L' := [some (vR 48), some (vR 4), some (vI 0)]) dX1_asDone_27 rfl (by decide) rfl ?_
  exact SX1_asDone_48_4_28  fu 0 _ h
def FX1_asDone_48_4_2  : Nat → Int → Mm → Option Mm
  | 0, _, _ => none
  | n + 1, x2, f => (if 6 ≤ x2 then FX1_asDone_48_4_26 f else (if 0 ≤ x2 ∧ x2 < 6 then (if 0 ≤ x2 ∧ x2 < 6 then FX1_asDone_48_4_2 n (w32 (x2 + 1)) (up f 49 x2.toNat (f 18 x2.toNat)) else none) else none))
set_option maxHeartbeats 4000000 in
set_option maxRecDepth 100000 in
theorem SX1_asDone_48_4_2 {G : GT} {l : Launch} {Q : Option AV → Mem → Prop}  : ∀ (n : Nat) (x2 : Int) (f : Mm), OkV Q (FX1_asDone_48_4_2  n x2 f) → Ev G l MX1_asDone (Rm 1 0 0) (ZM G Q 0 0) 0 0 2 [some (vR 48), some (vR 4), some (vI x2)] [] (SH, RF, f) := by
  intro n
  induction n with
  | zero => intro x2 f h; exact absurd h (by rw [FX1_asDone_48_4_2]; exact fun q => q)
  | succ n ih =>
    intro x2 f h
    rw [FX1_asDone_48_4_2] at h
    refine ev_iload_n (i := 2) dX1_asDone_2 rfl rfl ?_
    refine ev_bipush (v := 6) dX1_asDone_3 (r32c rfl) (by decide) ?_
    refine ev_icmp_ge (tgt := 26) dX1_asDone_5 (by decide) (fun c3 => ?_) (fun c3 => ?_)
    · rw [if_pos c3] at h
      refine ev_fg [true, true, false] rfl ?_
      exact SX1_asDone_48_4_26   _ h
    · rw [if_neg c3] at h
      refine ev_aload_n (i := 0) dX1_asDone_8 rfl rfl ?_
      refine ev_getR dX1_asDone_9 fl_X1_9 sh_48 (by decide) (by decide) rf_48_0 ?_
      refine ev_iload_n (i := 2) dX1_asDone_12 rfl rfl ?_
      refine ev_aload_n (i := 1) dX1_asDone_13 rfl rfl ?_
      refine ev_getR dX1_asDone_14 fl_X1_32 sh_4 (by decide) (by decide) rf_4_10 ?_
      refine ev_iload_n (i := 2) dX1_asDone_17 rfl rfl ?_
      by_cases g1 : 0 ≤ x2 ∧ x2 < 6
      · rw [if_pos g1] at h
        refine ex_iald (x := (f 18 x2.toNat)) dX1_asDone_18 sh_18 g1.1 g1.2 rfl ?_
        by_cases g2 : 0 ≤ x2 ∧ x2 < 6
        · rw [if_pos g2] at h
          refine ex_iast (j := x2.toNat) dX1_asDone_19 sh_49 g2.1 g2.2 rfl ?_
          refine ev_iinc (L' := [some (vR 48), some (vR 4), some (vI (w32 (x2 + 1)))]) dX1_asDone_20 rfl (by decide) rfl ?_
          refine ev_goto (tgt := 2) dX1_asDone_23 (by decide) ?_
          exact ih (w32 (x2 + 1)) _ h
        · rw [if_neg g2] at h; exact h.elim
      · rw [if_neg g1] at h; exact h.elim
def FX1_asDone_48_4_0   (f : Mm) : Option Mm := FX1_asDone_48_4_2 fu 0 f
set_option maxHeartbeats 4000000 in
set_option maxRecDepth 100000 in
theorem SX1_asDone_48_4_0 {G : GT} {l : Launch} {Q : Option AV → Mem → Prop}   (f : Mm) (h : OkV Q (FX1_asDone_48_4_0   f)) : Ev G l MX1_asDone (Rm 1 0 0) (ZM G Q 0 0) 0 0 0 [some (vR 48), some (vR 4), none] [] (SH, RF, f) := by
  unfold FX1_asDone_48_4_0 at h
  refine ev_iconst dX1_asDone_0 (r32c rfl) ?_
  refine ev_istore_n (i := 2) (L' := [some (vR 48), some (vR 4), some (vI 0)]) dX1_asDone_1 rfl (by decide) rfl ?_
  exact SX1_asDone_48_4_2  fu 0 _ h
def FX1_asDone_48_4  (f : Mm) : Option Mm := FX1_asDone_48_4_0  f
theorem TX1_asDone_48_4 {G : GT} {l : Launch} {Q : Option AV → Mem → Prop}  (f : Mm) (h : OkV Q (FX1_asDone_48_4  f)) : Ret G l MX1_asDone (1) 0 0 [vR 48, vR 4] (SH, RF, f) Q := by
  refine ret_of (L := [some (vR 48), some (vR 4), none]) (by decide) rfl (Nat.le_of_ble_eq_true rfl) ?_
  exact SX1_asDone_48_4_0  f h
theorem dJ9_max_7cf53_0 : decode cJ9_max_7cf53 0 = .ok (.iload_n 0, 1) := by decide +kernel
theorem dJ9_max_7cf53_1 : decode cJ9_max_7cf53 1 = .ok (.iload_n 1, 1) := by decide +kernel
theorem dJ9_max_7cf53_2 : decode cJ9_max_7cf53 2 = .ok (.if_icmp .lt 7, 3) := by decide +kernel
theorem dJ9_max_7cf53_9 : decode cJ9_max_7cf53 9 = .ok (.iload_n 1, 1) := by decide +kernel
theorem dJ9_max_7cf53_10 : decode cJ9_max_7cf53 10 = .ok (.ireturn, 1) := by decide +kernel
theorem dJ9_max_7cf53_5 : decode cJ9_max_7cf53 5 = .ok (.iload_n 0, 1) := by decide +kernel
theorem dJ9_max_7cf53_6 : decode cJ9_max_7cf53 6 = .ok (.goto 4, 3) := by decide +kernel
def FJ9_max_7cf53_0  (x0 : Int) (x1 : Int) (f : Mm) : Option (Int × Mm) := (if x0 < x1 then some (x1, f) else some (x0, f))
set_option maxHeartbeats 4000000 in
set_option maxRecDepth 100000 in
theorem SJ9_max_7cf53_0 {G : GT} {l : Launch} {Q : Option AV → Mem → Prop}  (x0 : Int) (x1 : Int) (f : Mm) (h : OkI Q (FJ9_max_7cf53_0  x0 x1 f)) : Ev G l MJ9_max_7cf53 (Rm 1 0 0) (ZM G Q 0 0) 0 0 0 [some (vI x0), some (vI x1)] [] (SH, RF, f) := by
  unfold FJ9_max_7cf53_0 at h
  refine ev_iload_n (i := 0) dJ9_max_7cf53_0 rfl rfl ?_
  refine ev_iload_n (i := 1) dJ9_max_7cf53_1 rfl rfl ?_
  refine ev_icmp_lt (tgt := 9) dJ9_max_7cf53_2 (by decide) (fun c1 => ?_) (fun c1 => ?_)
  · rw [if_pos c1] at h
    refine ev_iload_n (i := 1) dJ9_max_7cf53_9 rfl rfl ?_
    exact ev_iret rfl dJ9_max_7cf53_10 h
  · rw [if_neg c1] at h
    refine ev_iload_n (i := 0) dJ9_max_7cf53_5 rfl rfl ?_
    refine ev_goto (tgt := 10) dJ9_max_7cf53_6 (by decide) ?_
    exact ev_iret rfl dJ9_max_7cf53_10 h
def FJ9_max_7cf53 (x0 : Int) (x1 : Int) (f : Mm) : Option (Int × Mm) := FJ9_max_7cf53_0 x0 x1 f
theorem TJ9_max_7cf53 {G : GT} {l : Launch} {Q : Option AV → Mem → Prop} (x0 : Int) (x1 : Int) (f : Mm) (h : OkI Q (FJ9_max_7cf53 x0 x1 f)) : Ret G l MJ9_max_7cf53 (1) 0 0 [vI x0, vI x1] (SH, RF, f) Q := by
  refine ret_of (L := [some (vI x0), some (vI x1)]) (by decide) rfl (Nat.le_of_ble_eq_true rfl) ?_
  exact SJ9_max_7cf53_0 x0 x1 f h
theorem dX10_bounded_0 : decode cX10_bounded 0 = .ok (.iload_n 0, 1) := by decide +kernel
theorem dX10_bounded_1 : decode cX10_bounded 1 = .ok (.ifCond .ge 5, 3) := by decide +kernel
theorem dX10_bounded_6 : decode cX10_bounded 6 = .ok (.iload_n 0, 1) := by decide +kernel
theorem dX10_bounded_7 : decode cX10_bounded 7 = .ok (.bipush 60, 2) := by decide +kernel
theorem dX10_bounded_9 : decode cX10_bounded 9 = .ok (.if_icmp .le 8, 3) := by decide +kernel
theorem dX10_bounded_17 : decode cX10_bounded 17 = .ok (.iload_n 0, 1) := by decide +kernel
theorem dX10_bounded_18 : decode cX10_bounded 18 = .ok (.ireturn, 1) := by decide +kernel
theorem dX10_bounded_12 : decode cX10_bounded 12 = .ok (.bipush 60, 2) := by decide +kernel
theorem dX10_bounded_14 : decode cX10_bounded 14 = .ok (.goto 4, 3) := by decide +kernel
theorem dX10_bounded_4 : decode cX10_bounded 4 = .ok (.iconst 0, 1) := by decide +kernel
theorem dX10_bounded_5 : decode cX10_bounded 5 = .ok (.ireturn, 1) := by decide +kernel
def FX10_bounded_0  (x0 : Int) (f : Mm) : Option (Int × Mm) := (if 0 ≤ x0 then (if x0 ≤ 60 then some (x0, f) else some (60, f)) else some (0, f))
set_option maxHeartbeats 4000000 in
set_option maxRecDepth 100000 in
theorem SX10_bounded_0 {G : GT} {l : Launch} {Q : Option AV → Mem → Prop}  (x0 : Int) (f : Mm) (h : OkI Q (FX10_bounded_0  x0 f)) : Ev G l MX10_bounded (Rm 1 0 0) (ZM G Q 0 0) 0 0 0 [some (vI x0)] [] (SH, RF, f) := by
  unfold FX10_bounded_0 at h
  refine ev_iload_n (i := 0) dX10_bounded_0 rfl rfl ?_
  refine ev_if_ge (tgt := 6) dX10_bounded_1 (by decide) (fun c2 => ?_) (fun c2 => ?_)
  · rw [if_pos c2] at h
    refine ev_iload_n (i := 0) dX10_bounded_6 rfl rfl ?_
    refine ev_bipush (v := 60) dX10_bounded_7 (r32c rfl) (by decide) ?_
    refine ev_icmp_le (tgt := 17) dX10_bounded_9 (by decide) (fun c1 => ?_) (fun c1 => ?_)
    · rw [if_pos c1] at h
      refine ev_iload_n (i := 0) dX10_bounded_17 rfl rfl ?_
      exact ev_iret rfl dX10_bounded_18 h
    · rw [if_neg c1] at h
      refine ev_bipush (v := 60) dX10_bounded_12 (r32c rfl) (by decide) ?_
      refine ev_goto (tgt := 18) dX10_bounded_14 (by decide) ?_
      exact ev_iret rfl dX10_bounded_18 h
  · rw [if_neg c2] at h
    refine ev_iconst dX10_bounded_4 (r32c rfl) ?_
    exact ev_iret rfl dX10_bounded_5 h
def FX10_bounded (x0 : Int) (f : Mm) : Option (Int × Mm) := FX10_bounded_0 x0 f
theorem TX10_bounded {G : GT} {l : Launch} {Q : Option AV → Mem → Prop} (x0 : Int) (f : Mm) (h : OkI Q (FX10_bounded x0 f)) : Ret G l MX10_bounded (1) 0 0 [vI x0] (SH, RF, f) Q := by
  refine ret_of (L := [some (vI x0)]) (by decide) rfl (Nat.le_of_ble_eq_true rfl) ?_
  exact SX10_bounded_0 x0 f h
theorem dX1_moved_0 : decode cX1_moved 0 = .ok (.aload_n 0, 1) := by decide +kernel
theorem dX1_moved_1 : decode cX1_moved 1 = .ok (.iload_n 2, 1) := by decide +kernel
theorem dX1_moved_2 : decode cX1_moved 2 = .ok (.invokevirtual 78, 3) := by decide +kernel
theorem dX1_moved_5 : decode cX1_moved 5 = .ok (.ifCond .eq 21, 3) := by decide +kernel
theorem dX1_moved_26 : decode cX1_moved 26 = .ok (.iload_n 1, 1) := by decide +kernel
theorem dX1_moved_27 : decode cX1_moved 27 = .ok (.ireturn, 1) := by decide +kernel
theorem dX1_moved_8 : decode cX1_moved 8 = .ok (.iload_n 1, 1) := by decide +kernel
theorem dX1_moved_9 : decode cX1_moved 9 = .ok (.aload_n 0, 1) := by decide +kernel
theorem dX1_moved_10 : decode cX1_moved 10 = .ok (.getfield 82, 3) := by decide +kernel
theorem dX1_moved_13 : decode cX1_moved 13 = .ok (.iload_n 2, 1) := by decide +kernel
theorem dX1_moved_14 : decode cX1_moved 14 = .ok (.aaload, 1) := by decide +kernel
theorem dX1_moved_15 : decode cX1_moved 15 = .ok (.iconst 2, 1) := by decide +kernel
theorem dX1_moved_16 : decode cX1_moved 16 = .ok (.iload_n 3, 1) := by decide +kernel
theorem dX1_moved_17 : decode cX1_moved 17 = .ok (.iadd, 1) := by decide +kernel
theorem dX1_moved_18 : decode cX1_moved 18 = .ok (.iaload, 1) := by decide +kernel
theorem dX1_moved_19 : decode cX1_moved 19 = .ok (.iadd, 1) := by decide +kernel
theorem dX1_moved_20 : decode cX1_moved 20 = .ok (.invokestatic 85, 3) := by decide +kernel
theorem dX1_moved_23 : decode cX1_moved 23 = .ok (.goto 4, 3) := by decide +kernel
def FX1_moved_4_0  (x1 : Int) (x2 : Int) (x3 : Int) (f : Mm) : Option (Int × Mm) := (b2 (FX0_hasDeed_4 x2 f) fun y1 f1 => (if y1 = 0 then some (x1, f1) else (if 0 ≤ x2 ∧ x2 < 4 then (if 0 ≤ (w32 (2 + x3)) ∧ (w32 (2 + x3)) < 4 then (b2 (FX10_bounded (w32 (x1 + (f1 (7 + x2.toNat) (w32 (2 + x3)).toNat))) f1) fun y4 f4 => some (y4, f4)) else none) else none)))
set_option maxHeartbeats 4000000 in
set_option maxRecDepth 100000 in
theorem SX1_moved_4_0 {G : GT} {l : Launch} {Q : Option AV → Mem → Prop}  (x1 : Int) (x2 : Int) (x3 : Int) (f : Mm) (h : OkI Q (FX1_moved_4_0  x1 x2 x3 f)) : Ev G l MX1_moved (Rm 2 0 0) (ZM G Q 0 0) 0 0 0 [some (vR 4), some (vI x1), some (vI x2), some (vI x3)] [] (SH, RF, f) := by
  unfold FX1_moved_4_0 at h
  refine ev_aload_n (i := 0) dX1_moved_0 rfl rfl ?_
  refine ev_iload_n (i := 2) dX1_moved_1 rfl rfl ?_
  refine ev_cVI (b := 4) (av := [vI x2]) (S := []) (fun q => q) h dX1_moved_2 (fun Q' q => TX0_hasDeed_4 x2 _ q) kvX0_hasDeed ml_X1_78 sh_4 rfl (RRc (by decide) (by decide)) (Nat.le_of_ble_eq_true rfl) ⟨Nat.le_of_ble_eq_true rfl, Nat.le_of_ble_eq_true rfl⟩ (fun y1 f1 h => ?_)
  refine ev_if_eq (tgt := 26) dX1_moved_5 (by decide) (fun c5 => ?_) (fun c5 => ?_)
  · rw [if_pos c5] at h
    refine ev_iload_n (i := 1) dX1_moved_26 rfl rfl ?_
    exact ev_iret rfl dX1_moved_27 h
  · rw [if_neg c5] at h
    refine ev_iload_n (i := 1) dX1_moved_8 rfl rfl ?_
    refine ev_aload_n (i := 0) dX1_moved_9 rfl rfl ?_
    refine ev_getR dX1_moved_10 fl_X1_82 sh_4 (by decide) (by decide) rf_4_8 ?_
    refine ev_iload_n (i := 2) dX1_moved_13 rfl rfl ?_
    by_cases g2 : 0 ≤ x2 ∧ x2 < 4
    · rw [if_pos g2] at h
      refine ev_aald (b := (7 + x2.toNat)) dX1_moved_14 (Or.inl rfl) sh_6 g2.1 g2.2 (rfr_6 g2) ?_
      refine ev_iconst dX1_moved_15 (r32c rfl) ?_
      refine ev_iload_n (i := 3) dX1_moved_16 rfl rfl ?_
      refine ev_iadd dX1_moved_17 ?_
      by_cases g3 : 0 ≤ (w32 (2 + x3)) ∧ (w32 (2 + x3)) < 4
      · rw [if_pos g3] at h
        refine ex_iald (x := (f1 (7 + x2.toNat) (w32 (2 + x3)).toNat)) dX1_moved_18 (shr_6 g2) g3.1 g3.2 rfl ?_
        refine ev_iadd dX1_moved_19 ?_
        refine ev_cNI (av := [vI (w32 (x1 + (f1 (7 + x2.toNat) (w32 (2 + x3)).toNat)))]) (S := []) (fun q => q) h dX1_moved_20 (fun Q' q => TX10_bounded (w32 (x1 + (f1 (7 + x2.toNat) (w32 (2 + x3)).toNat))) _ q) ksX10_bounded nw_X1_85 rfl (RRc (by decide) (by decide)) (Nat.le_of_ble_eq_true rfl) ⟨Nat.le_of_ble_eq_true rfl, Nat.le_of_ble_eq_true rfl⟩ (fun y4 f4 h => ?_)
        refine ev_goto (tgt := 27) dX1_moved_23 (by decide) ?_
        exact ev_iret rfl dX1_moved_27 h
      · rw [if_neg g3] at h; exact h.elim
    · rw [if_neg g2] at h; exact h.elim
def FX1_moved_4 (x1 : Int) (x2 : Int) (x3 : Int) (f : Mm) : Option (Int × Mm) := FX1_moved_4_0 x1 x2 x3 f
theorem TX1_moved_4 {G : GT} {l : Launch} {Q : Option AV → Mem → Prop} (x1 : Int) (x2 : Int) (x3 : Int) (f : Mm) (h : OkI Q (FX1_moved_4 x1 x2 x3 f)) : Ret G l MX1_moved (2) 0 0 [vR 4, vI x1, vI x2, vI x3] (SH, RF, f) Q := by
  refine ret_of (L := [some (vR 4), some (vI x1), some (vI x2), some (vI x3)]) (by decide) rfl (Nat.le_of_ble_eq_true rfl) ?_
  exact SX1_moved_4_0 x1 x2 x3 f h
theorem dX10_holds_0 : decode cX10_holds 0 = .ok (.iload_n 0, 1) := by decide +kernel
theorem dX10_holds_1 : decode cX10_holds 1 = .ok (.iload_n 1, 1) := by decide +kernel
theorem dX10_holds_2 : decode cX10_holds 2 = .ok (.ishr, 1) := by decide +kernel
theorem dX10_holds_3 : decode cX10_holds 3 = .ok (.iconst 1, 1) := by decide +kernel
theorem dX10_holds_4 : decode cX10_holds 4 = .ok (.iand, 1) := by decide +kernel
theorem dX10_holds_5 : decode cX10_holds 5 = .ok (.ifCond .eq 7, 3) := by decide +kernel
theorem dX10_holds_12 : decode cX10_holds 12 = .ok (.iconst 0, 1) := by decide +kernel
theorem dX10_holds_13 : decode cX10_holds 13 = .ok (.ireturn, 1) := by decide +kernel
theorem dX10_holds_8 : decode cX10_holds 8 = .ok (.iconst 1, 1) := by decide +kernel
theorem dX10_holds_9 : decode cX10_holds 9 = .ok (.goto 4, 3) := by decide +kernel
def FX10_holds_0  (x0 : Int) (x1 : Int) (f : Mm) : Option (Int × Mm) := (if (bAnd (bShr x0 x1) 1) = 0 then some (0, f) else some (1, f))
set_option maxHeartbeats 4000000 in
set_option maxRecDepth 100000 in
theorem SX10_holds_0 {G : GT} {l : Launch} {Q : Option AV → Mem → Prop}  (x0 : Int) (x1 : Int) (f : Mm) (h : OkI Q (FX10_holds_0  x0 x1 f)) : Ev G l MX10_holds (Rm 1 0 0) (ZM G Q 0 0) 0 0 0 [some (vI x0), some (vI x1)] [] (SH, RF, f) := by
  unfold FX10_holds_0 at h
  refine ev_iload_n (i := 0) dX10_holds_0 rfl rfl ?_
  refine ev_iload_n (i := 1) dX10_holds_1 rfl rfl ?_
  refine ev_ishr dX10_holds_2 ?_
  refine ev_iconst dX10_holds_3 (r32c rfl) ?_
  refine ev_iand dX10_holds_4 ?_
  refine ev_if_eq (tgt := 12) dX10_holds_5 (by decide) (fun c1 => ?_) (fun c1 => ?_)
  · rw [if_pos c1] at h
    refine ev_iconst dX10_holds_12 (r32c rfl) ?_
    exact ev_zret rfl (by decide) dX10_holds_13 h
  · rw [if_neg c1] at h
    refine ev_iconst dX10_holds_8 (r32c rfl) ?_
    refine ev_goto (tgt := 13) dX10_holds_9 (by decide) ?_
    exact ev_zret rfl (by decide) dX10_holds_13 h
def FX10_holds (x0 : Int) (x1 : Int) (f : Mm) : Option (Int × Mm) := FX10_holds_0 x0 x1 f
theorem TX10_holds {G : GT} {l : Launch} {Q : Option AV → Mem → Prop} (x0 : Int) (x1 : Int) (f : Mm) (h : OkI Q (FX10_holds x0 x1 f)) : Ret G l MX10_holds (1) 0 0 [vI x0, vI x1] (SH, RF, f) Q := by
  refine ret_of (L := [some (vI x0), some (vI x1)]) (by decide) rfl (Nat.le_of_ble_eq_true rfl) ?_
  exact SX10_holds_0 x0 x1 f h
theorem dX1_feelDay_97 : decode cX1_feelDay 97 = .ok (.aload_n 0, 1) := by decide +kernel
theorem dX1_feelDay_98 : decode cX1_feelDay 98 = .ok (.getfield 20, 3) := by decide +kernel
theorem dX1_feelDay_101 : decode cX1_feelDay 101 = .ok (.iload_n 3, 1) := by decide +kernel
theorem dX1_feelDay_102 : decode cX1_feelDay 102 = .ok (.aaload, 1) := by decide +kernel
theorem dX1_feelDay_103 : decode cX1_feelDay 103 = .ok (.iload_n 2, 1) := by decide +kernel
theorem dX1_feelDay_104 : decode cX1_feelDay 104 = .ok (.iload 4, 2) := by decide +kernel
theorem dX1_feelDay_106 : decode cX1_feelDay 106 = .ok (.iastore, 1) := by decide +kernel
theorem dX1_feelDay_107 : decode cX1_feelDay 107 = .ok (.iinc 3 1, 3) := by decide +kernel
theorem dX1_feelDay_110 : decode cX1_feelDay 110 = .ok (.goto (-108), 3) := by decide +kernel
theorem dX1_feelDay_76 : decode cX1_feelDay 76 = .ok (.aload_n 0, 1) := by decide +kernel
theorem dX1_feelDay_77 : decode cX1_feelDay 77 = .ok (.getfield 48, 3) := by decide +kernel
theorem dX1_feelDay_80 : decode cX1_feelDay 80 = .ok (.iload_n 2, 1) := by decide +kernel
theorem dX1_feelDay_81 : decode cX1_feelDay 81 = .ok (.invokestatic 74, 3) := by decide +kernel
theorem dX1_feelDay_84 : decode cX1_feelDay 84 = .ok (.ifCond .eq 13, 3) := by decide +kernel
theorem dX1_feelDay_87 : decode cX1_feelDay 87 = .ok (.iconst 0, 1) := by decide +kernel
theorem dX1_feelDay_88 : decode cX1_feelDay 88 = .ok (.iload 4, 2) := by decide +kernel
theorem dX1_feelDay_90 : decode cX1_feelDay 90 = .ok (.iconst 5, 1) := by decide +kernel
theorem dX1_feelDay_91 : decode cX1_feelDay 91 = .ok (.isub, 1) := by decide +kernel
theorem dX1_feelDay_92 : decode cX1_feelDay 92 = .ok (.invokestatic 64, 3) := by decide +kernel
theorem dX1_feelDay_95 : decode cX1_feelDay 95 = .ok (.istore 4, 2) := by decide +kernel
theorem dX1_feelDay_40 : decode cX1_feelDay 40 = .ok (.aload_n 1, 1) := by decide +kernel
theorem dX1_feelDay_41 : decode cX1_feelDay 41 = .ok (.iload 4, 2) := by decide +kernel
theorem dX1_feelDay_43 : decode cX1_feelDay 43 = .ok (.aload_n 0, 1) := by decide +kernel
theorem dX1_feelDay_44 : decode cX1_feelDay 44 = .ok (.getfield 9, 3) := by decide +kernel
theorem dX1_feelDay_47 : decode cX1_feelDay 47 = .ok (.iload_n 2, 1) := by decide +kernel
theorem dX1_feelDay_48 : decode cX1_feelDay 48 = .ok (.iaload, 1) := by decide +kernel
theorem dX1_feelDay_49 : decode cX1_feelDay 49 = .ok (.iload_n 3, 1) := by decide +kernel
theorem dX1_feelDay_50 : decode cX1_feelDay 50 = .ok (.invokestatic 70, 3) := by decide +kernel
theorem dX1_feelDay_53 : decode cX1_feelDay 53 = .ok (.istore 4, 2) := by decide +kernel
theorem dX1_feelDay_55 : decode cX1_feelDay 55 = .ok (.iload_n 2, 1) := by decide +kernel
theorem dX1_feelDay_56 : decode cX1_feelDay 56 = .ok (.aload_n 0, 1) := by decide +kernel
theorem dX1_feelDay_57 : decode cX1_feelDay 57 = .ok (.getfield 37, 3) := by decide +kernel
theorem dX1_feelDay_60 : decode cX1_feelDay 60 = .ok (.if_icmp .ne 16, 3) := by decide +kernel
theorem dX1_feelDay_63 : decode cX1_feelDay 63 = .ok (.aload_n 1, 1) := by decide +kernel
theorem dX1_feelDay_64 : decode cX1_feelDay 64 = .ok (.iload 4, 2) := by decide +kernel
theorem dX1_feelDay_66 : decode cX1_feelDay 66 = .ok (.aload_n 0, 1) := by decide +kernel
theorem dX1_feelDay_67 : decode cX1_feelDay 67 = .ok (.getfield 41, 3) := by decide +kernel
theorem dX1_feelDay_70 : decode cX1_feelDay 70 = .ok (.iload_n 3, 1) := by decide +kernel
theorem dX1_feelDay_71 : decode cX1_feelDay 71 = .ok (.invokestatic 70, 3) := by decide +kernel
theorem dX1_feelDay_74 : decode cX1_feelDay 74 = .ok (.istore 4, 2) := by decide +kernel
theorem dX1_feelDay_2 : decode cX1_feelDay 2 = .ok (.iload_n 3, 1) := by decide +kernel
theorem dX1_feelDay_3 : decode cX1_feelDay 3 = .ok (.iconst 2, 1) := by decide +kernel
theorem dX1_feelDay_4 : decode cX1_feelDay 4 = .ok (.if_icmp .ge 109, 3) := by decide +kernel
theorem dX1_feelDay_113 : decode cX1_feelDay 113 = .ok (.return_, 1) := by decide +kernel
theorem dX1_feelDay_7 : decode cX1_feelDay 7 = .ok (.aload_n 1, 1) := by decide +kernel
theorem dX1_feelDay_8 : decode cX1_feelDay 8 = .ok (.getfield 61, 3) := by decide +kernel
theorem dX1_feelDay_11 : decode cX1_feelDay 11 = .ok (.iload_n 3, 1) := by decide +kernel
theorem dX1_feelDay_12 : decode cX1_feelDay 12 = .ok (.iaload, 1) := by decide +kernel
theorem dX1_feelDay_13 : decode cX1_feelDay 13 = .ok (.istore 4, 2) := by decide +kernel
theorem dX1_feelDay_15 : decode cX1_feelDay 15 = .ok (.iload_n 2, 1) := by decide +kernel
theorem dX1_feelDay_16 : decode cX1_feelDay 16 = .ok (.ifCond .le 24, 3) := by decide +kernel
theorem dX1_feelDay_19 : decode cX1_feelDay 19 = .ok (.iconst 0, 1) := by decide +kernel
theorem dX1_feelDay_20 : decode cX1_feelDay 20 = .ok (.aload_n 0, 1) := by decide +kernel
theorem dX1_feelDay_21 : decode cX1_feelDay 21 = .ok (.getfield 20, 3) := by decide +kernel
theorem dX1_feelDay_24 : decode cX1_feelDay 24 = .ok (.iload_n 3, 1) := by decide +kernel
theorem dX1_feelDay_25 : decode cX1_feelDay 25 = .ok (.aaload, 1) := by decide +kernel
theorem dX1_feelDay_26 : decode cX1_feelDay 26 = .ok (.iload_n 2, 1) := by decide +kernel
theorem dX1_feelDay_27 : decode cX1_feelDay 27 = .ok (.iconst 1, 1) := by decide +kernel
theorem dX1_feelDay_28 : decode cX1_feelDay 28 = .ok (.isub, 1) := by decide +kernel
theorem dX1_feelDay_29 : decode cX1_feelDay 29 = .ok (.iaload, 1) := by decide +kernel
theorem dX1_feelDay_30 : decode cX1_feelDay 30 = .ok (.aload_n 0, 1) := by decide +kernel
theorem dX1_feelDay_31 : decode cX1_feelDay 31 = .ok (.getfield 47, 3) := by decide +kernel
theorem dX1_feelDay_34 : decode cX1_feelDay 34 = .ok (.isub, 1) := by decide +kernel
theorem dX1_feelDay_35 : decode cX1_feelDay 35 = .ok (.invokestatic 64, 3) := by decide +kernel
theorem dX1_feelDay_38 : decode cX1_feelDay 38 = .ok (.istore 4, 2) := by decide +kernel
theorem dX1_feelDay_0 : decode cX1_feelDay 0 = .ok (.iconst 0, 1) := by decide +kernel
theorem dX1_feelDay_1 : decode cX1_feelDay 1 = .ok (.istore_n 3, 1) := by decide +kernel
def FX1_feelDay_48_4_97 (k2 : Int → Int → Mm → Option Mm) (x2 : Int) (x3 : Int) (x4 : Int) (f : Mm) : Option Mm := (if 0 ≤ x3 ∧ x3 < 2 then (if 0 ≤ x2 ∧ x2 < 6 then k2 x2 (w32 (x3 + 1)) (up f (52 + x3.toNat) x2.toNat x4) else none) else none)
set_option maxHeartbeats 4000000 in
set_option maxRecDepth 100000 in
theorem SX1_feelDay_48_4_97 {G : GT} {l : Launch} {Q : Option AV → Mem → Prop} {k2 : Int → Int → Mm → Option Mm} (q2 : ∀ (x2 : Int) (x3 : Int) (f : Mm), OkV Q (k2 x2 x3 f) → Ev G l MX1_feelDay (Rm 3 0 0) (ZM G Q 0 0) 0 0 2 [some (vR 48), some (vR 4), some (vI x2), some (vI x3), none] [] (SH, RF, f)) (x2 : Int) (x3 : Int) (x4 : Int) (f : Mm) (h : OkV Q (FX1_feelDay_48_4_97 k2 x2 x3 x4 f)) : Ev G l MX1_feelDay (Rm 3 0 0) (ZM G Q 0 0) 0 0 97 [some (vR 48), some (vR 4), some (vI x2), some (vI x3), some (vI x4)] [] (SH, RF, f) := by
  unfold FX1_feelDay_48_4_97 at h
  refine ev_aload_n (i := 0) dX1_feelDay_97 rfl rfl ?_
  refine ev_getR dX1_feelDay_98 fl_X1_20 sh_48 (by decide) (by decide) rf_48_6 ?_
  refine ev_iload_n (i := 3) dX1_feelDay_101 rfl rfl ?_
  by_cases g1 : 0 ≤ x3 ∧ x3 < 2
  · rw [if_pos g1] at h
    refine ev_aald (b := (52 + x3.toNat)) dX1_feelDay_102 (Or.inl rfl) sh_51 g1.1 g1.2 (rfr_51 g1) ?_
    refine ev_iload_n (i := 2) dX1_feelDay_103 rfl rfl ?_
    refine ev_iload dX1_feelDay_104 rfl ?_
    by_cases g2 : 0 ≤ x2 ∧ x2 < 6
    · rw [if_pos g2] at h
      refine ex_iast (j := x2.toNat) dX1_feelDay_106 (shr_51 g1) g2.1 g2.2 rfl ?_
      refine ev_iinc (L' := [some (vR 48), some (vR 4), some (vI x2), some (vI (w32 (x3 + 1))), some (vI x4)]) dX1_feelDay_107 rfl (by decide) rfl ?_
      refine ev_goto (tgt := 2) dX1_feelDay_110 (by decide) ?_
      refine ev_fg [true, true, true, true, false] rfl ?_
      exact q2 x2 (w32 (x3 + 1)) _ h
    · rw [if_neg g2] at h; exact h.elim
  · rw [if_neg g1] at h; exact h.elim
def FX1_feelDay_48_4_76 (k2 : Int → Int → Mm → Option Mm) (x2 : Int) (x3 : Int) (x4 : Int) (f : Mm) : Option Mm := (b2 (FX10_holds (f 48 5) x2 f) fun y1 f1 => (if y1 = 0 then FX1_feelDay_48_4_97 k2 x2 x3 x4 f1 else (b2 (FJ9_max_7cf53 0 (w32 (x4 - 5)) f1) fun y2 f2 => FX1_feelDay_48_4_97 k2 x2 x3 y2 f2)))
set_option maxHeartbeats 4000000 in
set_option maxRecDepth 100000 in
theorem SX1_feelDay_48_4_76 {G : GT} {l : Launch} {Q : Option AV → Mem → Prop} {k2 : Int → Int → Mm → Option Mm} (q2 : ∀ (x2 : Int) (x3 : Int) (f : Mm), OkV Q (k2 x2 x3 f) → Ev G l MX1_feelDay (Rm 3 0 0) (ZM G Q 0 0) 0 0 2 [some (vR 48), some (vR 4), some (vI x2), some (vI x3), none] [] (SH, RF, f)) (x2 : Int) (x3 : Int) (x4 : Int) (f : Mm) (h : OkV Q (FX1_feelDay_48_4_76 k2 x2 x3 x4 f)) : Ev G l MX1_feelDay (Rm 3 0 0) (ZM G Q 0 0) 0 0 76 [some (vR 48), some (vR 4), some (vI x2), some (vI x3), some (vI x4)] [] (SH, RF, f) := by
  unfold FX1_feelDay_48_4_76 at h
  refine ev_aload_n (i := 0) dX1_feelDay_76 rfl rfl ?_
  refine ex_getI (x := (f 48 5)) dX1_feelDay_77 fl_X1_48 sh_48 (by decide) (by decide) rfl ?_
  refine ev_iload_n (i := 2) dX1_feelDay_80 rfl rfl ?_
  refine ev_cNI (av := [vI (f 48 5), vI x2]) (S := []) (fun q => q) h dX1_feelDay_81 (fun Q' q => TX10_holds (f 48 5) x2 _ q) ksX10_holds nw_X1_74 rfl (RRc (by decide) (by decide)) (Nat.le_of_ble_eq_true rfl) ⟨Nat.le_of_ble_eq_true rfl, Nat.le_of_ble_eq_true rfl⟩ (fun y1 f1 h => ?_)
  refine ev_if_eq (tgt := 97) dX1_feelDay_84 (by decide) (fun c3 => ?_) (fun c3 => ?_)
  · rw [if_pos c3] at h
    exact SX1_feelDay_48_4_97 q2 x2 x3 x4 _ h
  · rw [if_neg c3] at h
    refine ev_iconst dX1_feelDay_87 (r32c rfl) ?_
    refine ev_iload dX1_feelDay_88 rfl ?_
    refine ev_iconst dX1_feelDay_90 (r32c rfl) ?_
    refine ev_isub dX1_feelDay_91 ?_
    refine ev_cSI (av := [vI 0, vI (w32 (x4 - 5))]) (S := []) (fun q => q) h dX1_feelDay_92 (fun Q' q => TJ9_max_7cf53 0 (w32 (x4 - 5)) _ q) ksJ9_max_7cf53 ml_X1_64 rfl (RRc (by decide) (by decide)) (Nat.le_of_ble_eq_true rfl) ⟨Nat.le_of_ble_eq_true rfl, Nat.le_of_ble_eq_true rfl⟩ (fun y2 f2 h => ?_)
    refine ev_istore (L' := [some (vR 48), some (vR 4), some (vI x2), some (vI x3), some (vI y2)]) dX1_feelDay_95 (by decide) rfl ?_
    exact SX1_feelDay_48_4_97 q2 x2 x3 y2 _ h
def FX1_feelDay_48_4_40 (k2 : Int → Int → Mm → Option Mm) (x2 : Int) (x3 : Int) (x4 : Int) (f : Mm) : Option Mm := (if 0 ≤ x2 ∧ x2 < 6 then (b2 (FX1_moved_4 x4 (f 49 x2.toNat) x3 f) fun y2 f2 => (if x2 = (f2 48 2) then (b2 (FX1_moved_4 y2 (f2 48 3) x3 f2) fun y3 f3 => FX1_feelDay_48_4_76 k2 x2 x3 y3 f3) else FX1_feelDay_48_4_76 k2 x2 x3 y2 f2)) else none)
set_option maxHeartbeats 4000000 in
set_option maxRecDepth 100000 in
theorem SX1_feelDay_48_4_40 {G : GT} {l : Launch} {Q : Option AV → Mem → Prop} {k2 : Int → Int → Mm → Option Mm} (q2 : ∀ (x2 : Int) (x3 : Int) (f : Mm), OkV Q (k2 x2 x3 f) → Ev G l MX1_feelDay (Rm 3 0 0) (ZM G Q 0 0) 0 0 2 [some (vR 48), some (vR 4), some (vI x2), some (vI x3), none] [] (SH, RF, f)) (x2 : Int) (x3 : Int) (x4 : Int) (f : Mm) (h : OkV Q (FX1_feelDay_48_4_40 k2 x2 x3 x4 f)) : Ev G l MX1_feelDay (Rm 3 0 0) (ZM G Q 0 0) 0 0 40 [some (vR 48), some (vR 4), some (vI x2), some (vI x3), some (vI x4)] [] (SH, RF, f) := by
  unfold FX1_feelDay_48_4_40 at h
  refine ev_aload_n (i := 1) dX1_feelDay_40 rfl rfl ?_
  refine ev_iload dX1_feelDay_41 rfl ?_
  refine ev_aload_n (i := 0) dX1_feelDay_43 rfl rfl ?_
  refine ev_getR dX1_feelDay_44 fl_X1_9 sh_48 (by decide) (by decide) rf_48_0 ?_
  refine ev_iload_n (i := 2) dX1_feelDay_47 rfl rfl ?_
  by_cases g1 : 0 ≤ x2 ∧ x2 < 6
  · rw [if_pos g1] at h
    refine ex_iald (x := (f 49 x2.toNat)) dX1_feelDay_48 sh_49 g1.1 g1.2 rfl ?_
    refine ev_iload_n (i := 3) dX1_feelDay_49 rfl rfl ?_
    refine ev_cSI (av := [vR 4, vI x4, vI (f 49 x2.toNat), vI x3]) (S := []) (fun q => q) h dX1_feelDay_50 (fun Q' q => TX1_moved_4 x4 (f 49 x2.toNat) x3 _ q) ksX1_moved ml_X1_70 rfl (RRc (by decide) (by decide)) (Nat.le_of_ble_eq_true rfl) ⟨Nat.le_of_ble_eq_true rfl, Nat.le_of_ble_eq_true rfl⟩ (fun y2 f2 h => ?_)
    refine ev_istore (L' := [some (vR 48), some (vR 4), some (vI x2), some (vI x3), some (vI y2)]) dX1_feelDay_53 (by decide) rfl ?_
    refine ev_iload_n (i := 2) dX1_feelDay_55 rfl rfl ?_
    refine ev_aload_n (i := 0) dX1_feelDay_56 rfl rfl ?_
    refine ex_getI (x := (f2 48 2)) dX1_feelDay_57 fl_X1_37 sh_48 (by decide) (by decide) rfl ?_
    refine ev_icmp_ne (tgt := 76) dX1_feelDay_60 (by decide) (fun c4 => ?_) (fun c4 => ?_)
    · rw [if_neg c4] at h
      exact SX1_feelDay_48_4_76 q2 x2 x3 y2 _ h
    · rw [if_pos c4] at h
      refine ev_aload_n (i := 1) dX1_feelDay_63 rfl rfl ?_
      refine ev_iload dX1_feelDay_64 rfl ?_
      refine ev_aload_n (i := 0) dX1_feelDay_66 rfl rfl ?_
      refine ex_getI (x := (f2 48 3)) dX1_feelDay_67 fl_X1_41 sh_48 (by decide) (by decide) rfl ?_
      refine ev_iload_n (i := 3) dX1_feelDay_70 rfl rfl ?_
      refine ev_cSI (av := [vR 4, vI y2, vI (f2 48 3), vI x3]) (S := []) (fun q => q) h dX1_feelDay_71 (fun Q' q => TX1_moved_4 y2 (f2 48 3) x3 _ q) ksX1_moved ml_X1_70 rfl (RRc (by decide) (by decide)) (Nat.le_of_ble_eq_true rfl) ⟨Nat.le_of_ble_eq_true rfl, Nat.le_of_ble_eq_true rfl⟩ (fun y3 f3 h => ?_)
      refine ev_istore (L' := [some (vR 48), some (vR 4), some (vI x2), some (vI x3), some (vI y3)]) dX1_feelDay_74 (by decide) rfl ?_
      exact SX1_feelDay_48_4_76 q2 x2 x3 y3 _ h
  · rw [if_neg g1] at h; exact h.elim
def FX1_feelDay_48_4_2  : Nat → Int → Int → Mm → Option Mm
  | 0, _, _, _ => none
  | n + 1, x2, x3, f => (if 2 ≤ x3 then some f else (if 0 ≤ x3 ∧ x3 < 2 then (if x2 ≤ 0 then FX1_feelDay_48_4_40 (FX1_feelDay_48_4_2 n) x2 x3 (f 5 x3.toNat) f else (if 0 ≤ x3 ∧ x3 < 2 then (if 0 ≤ (w32 (x2 - 1)) ∧ (w32 (x2 - 1)) < 6 then (b2 (FJ9_max_7cf53 0 (w32 ((f (52 + x3.toNat) (w32 (x2 - 1)).toNat) - (f 48 4))) f) fun y4 f4 => FX1_feelDay_48_4_40 (FX1_feelDay_48_4_2 n) x2 x3 y4 f4) else none) else none)) else none))
set_option maxHeartbeats 4000000 in
set_option maxRecDepth 100000 in
theorem SX1_feelDay_48_4_2 {G : GT} {l : Launch} {Q : Option AV → Mem → Prop}  : ∀ (n : Nat) (x2 : Int) (x3 : Int) (f : Mm), OkV Q (FX1_feelDay_48_4_2  n x2 x3 f) → Ev G l MX1_feelDay (Rm 3 0 0) (ZM G Q 0 0) 0 0 2 [some (vR 48), some (vR 4), some (vI x2), some (vI x3), none] [] (SH, RF, f) := by
  intro n
  induction n with
  | zero => intro x2 x3 f h; exact absurd h (by rw [FX1_feelDay_48_4_2]; exact fun q => q)
  | succ n ih =>
    intro x2 x3 f h
    rw [FX1_feelDay_48_4_2] at h
    refine ev_iload_n (i := 3) dX1_feelDay_2 rfl rfl ?_
    refine ev_iconst dX1_feelDay_3 (r32c rfl) ?_
    refine ev_icmp_ge (tgt := 113) dX1_feelDay_4 (by decide) (fun c6 => ?_) (fun c6 => ?_)
    · rw [if_pos c6] at h
      exact ev_vret rfl dX1_feelDay_113 h
    · rw [if_neg c6] at h
      refine ev_aload_n (i := 1) dX1_feelDay_7 rfl rfl ?_
      refine ev_getR dX1_feelDay_8 fl_X1_61 sh_4 (by decide) (by decide) rf_4_7 ?_
      refine ev_iload_n (i := 3) dX1_feelDay_11 rfl rfl ?_
      by_cases g1 : 0 ≤ x3 ∧ x3 < 2
      · rw [if_pos g1] at h
        refine ex_iald (x := (f 5 x3.toNat)) dX1_feelDay_12 sh_5 g1.1 g1.2 rfl ?_
        refine ev_istore (L' := [some (vR 48), some (vR 4), some (vI x2), some (vI x3), some (vI (f 5 x3.toNat))]) dX1_feelDay_13 (by decide) rfl ?_
        refine ev_iload_n (i := 2) dX1_feelDay_15 rfl rfl ?_
        refine ev_if_le (tgt := 40) dX1_feelDay_16 (by decide) (fun c5 => ?_) (fun c5 => ?_)
        · rw [if_pos c5] at h
          exact SX1_feelDay_48_4_40 ih x2 x3 (f 5 x3.toNat) _ h
        · rw [if_neg c5] at h
          refine ev_iconst dX1_feelDay_19 (r32c rfl) ?_
          refine ev_aload_n (i := 0) dX1_feelDay_20 rfl rfl ?_
          refine ev_getR dX1_feelDay_21 fl_X1_20 sh_48 (by decide) (by decide) rf_48_6 ?_
          refine ev_iload_n (i := 3) dX1_feelDay_24 rfl rfl ?_
          by_cases g2 : 0 ≤ x3 ∧ x3 < 2
          · rw [if_pos g2] at h
            refine ev_aald (b := (52 + x3.toNat)) dX1_feelDay_25 (Or.inl rfl) sh_51 g2.1 g2.2 (rfr_51 g2) ?_
            refine ev_iload_n (i := 2) dX1_feelDay_26 rfl rfl ?_
            refine ev_iconst dX1_feelDay_27 (r32c rfl) ?_
            refine ev_isub dX1_feelDay_28 ?_
            by_cases g3 : 0 ≤ (w32 (x2 - 1)) ∧ (w32 (x2 - 1)) < 6
            · rw [if_pos g3] at h
              refine ex_iald (x := (f (52 + x3.toNat) (w32 (x2 - 1)).toNat)) dX1_feelDay_29 (shr_51 g2) g3.1 g3.2 rfl ?_
              refine ev_aload_n (i := 0) dX1_feelDay_30 rfl rfl ?_
              refine ex_getI (x := (f 48 4)) dX1_feelDay_31 fl_X1_47 sh_48 (by decide) (by decide) rfl ?_
              refine ev_isub dX1_feelDay_34 ?_
              refine ev_cSI (av := [vI 0, vI (w32 ((f (52 + x3.toNat) (w32 (x2 - 1)).toNat) - (f 48 4)))]) (S := []) (fun q => q) h dX1_feelDay_35 (fun Q' q => TJ9_max_7cf53 0 (w32 ((f (52 + x3.toNat) (w32 (x2 - 1)).toNat) - (f 48 4))) _ q) ksJ9_max_7cf53 ml_X1_64 rfl (RRc (by decide) (by decide)) (Nat.le_of_ble_eq_true rfl) ⟨Nat.le_of_ble_eq_true rfl, Nat.le_of_ble_eq_true rfl⟩ (fun y4 f4 h => ?_)
              refine ev_istore (L' := [some (vR 48), some (vR 4), some (vI x2), some (vI x3), some (vI y4)]) dX1_feelDay_38 (by decide) rfl ?_
              exact SX1_feelDay_48_4_40 ih x2 x3 y4 _ h
            · rw [if_neg g3] at h; exact h.elim
          · rw [if_neg g2] at h; exact h.elim
      · rw [if_neg g1] at h; exact h.elim
def FX1_feelDay_48_4_0  (x2 : Int) (f : Mm) : Option Mm := FX1_feelDay_48_4_2 fu x2 0 f
set_option maxHeartbeats 4000000 in
set_option maxRecDepth 100000 in
theorem SX1_feelDay_48_4_0 {G : GT} {l : Launch} {Q : Option AV → Mem → Prop}  (x2 : Int) (f : Mm) (h : OkV Q (FX1_feelDay_48_4_0  x2 f)) : Ev G l MX1_feelDay (Rm 3 0 0) (ZM G Q 0 0) 0 0 0 [some (vR 48), some (vR 4), some (vI x2), none, none] [] (SH, RF, f) := by
  unfold FX1_feelDay_48_4_0 at h
  refine ev_iconst dX1_feelDay_0 (r32c rfl) ?_
  refine ev_istore_n (i := 3) (L' := [some (vR 48), some (vR 4), some (vI x2), some (vI 0), none]) dX1_feelDay_1 rfl (by decide) rfl ?_
  exact SX1_feelDay_48_4_2  fu x2 0 _ h
def FX1_feelDay_48_4 (x2 : Int) (f : Mm) : Option Mm := FX1_feelDay_48_4_0 x2 f
theorem TX1_feelDay_48_4 {G : GT} {l : Launch} {Q : Option AV → Mem → Prop} (x2 : Int) (f : Mm) (h : OkV Q (FX1_feelDay_48_4 x2 f)) : Ret G l MX1_feelDay (3) 0 0 [vR 48, vR 4, vI x2] (SH, RF, f) Q := by
  refine ret_of (L := [some (vR 48), some (vR 4), some (vI x2), none, none]) (by decide) rfl (Nat.le_of_ble_eq_true rfl) ?_
  exact SX1_feelDay_48_4_0 x2 f h
theorem dX1_widthOn_0 : decode cX1_widthOn 0 = .ok (.aload_n 0, 1) := by decide +kernel
theorem dX1_widthOn_1 : decode cX1_widthOn 1 = .ok (.getfield 20, 3) := by decide +kernel
theorem dX1_widthOn_4 : decode cX1_widthOn 4 = .ok (.iconst 0, 1) := by decide +kernel
theorem dX1_widthOn_5 : decode cX1_widthOn 5 = .ok (.aaload, 1) := by decide +kernel
theorem dX1_widthOn_6 : decode cX1_widthOn 6 = .ok (.iload_n 1, 1) := by decide +kernel
theorem dX1_widthOn_7 : decode cX1_widthOn 7 = .ok (.iaload, 1) := by decide +kernel
theorem dX1_widthOn_8 : decode cX1_widthOn 8 = .ok (.aload_n 0, 1) := by decide +kernel
theorem dX1_widthOn_9 : decode cX1_widthOn 9 = .ok (.getfield 20, 3) := by decide +kernel
theorem dX1_widthOn_12 : decode cX1_widthOn 12 = .ok (.iconst 1, 1) := by decide +kernel
theorem dX1_widthOn_13 : decode cX1_widthOn 13 = .ok (.aaload, 1) := by decide +kernel
theorem dX1_widthOn_14 : decode cX1_widthOn 14 = .ok (.iload_n 1, 1) := by decide +kernel
theorem dX1_widthOn_15 : decode cX1_widthOn 15 = .ok (.iaload, 1) := by decide +kernel
theorem dX1_widthOn_16 : decode cX1_widthOn 16 = .ok (.invokestatic 98, 3) := by decide +kernel
theorem dX1_widthOn_19 : decode cX1_widthOn 19 = .ok (.ireturn, 1) := by decide +kernel
def FX1_widthOn_0  (x1 : Int) (f : Mm) : Option (Int × Mm) := (if 0 ≤ x1 ∧ x1 < 6 then (if 0 ≤ x1 ∧ x1 < 6 then (b2 (FJ9_min_7cf53 (f 52 x1.toNat) (f 53 x1.toNat) f) fun y3 f3 => some (y3, f3)) else none) else none)
set_option maxHeartbeats 4000000 in
set_option maxRecDepth 100000 in
theorem SX1_widthOn_0 {G : GT} {l : Launch} {Q : Option AV → Mem → Prop}  (x1 : Int) (f : Mm) (h : OkI Q (FX1_widthOn_0  x1 f)) : Ev G l MX1_widthOn (Rm 2 0 0) (ZM G Q 0 0) 0 0 0 [some (vR 48), some (vI x1)] [] (SH, RF, f) := by
  unfold FX1_widthOn_0 at h
  refine ev_aload_n (i := 0) dX1_widthOn_0 rfl rfl ?_
  refine ev_getR dX1_widthOn_1 fl_X1_20 sh_48 (by decide) (by decide) rf_48_6 ?_
  refine ev_iconst dX1_widthOn_4 (r32c rfl) ?_
  refine ev_aald (b := 52) dX1_widthOn_5 (Or.inl rfl) sh_51 (by decide) (by decide) (rfd_51 0 (by decide)) ?_
  refine ev_iload_n (i := 1) dX1_widthOn_6 rfl rfl ?_
  by_cases g1 : 0 ≤ x1 ∧ x1 < 6
  · rw [if_pos g1] at h
    refine ex_iald (x := (f 52 x1.toNat)) dX1_widthOn_7 sh_52 g1.1 g1.2 rfl ?_
    refine ev_aload_n (i := 0) dX1_widthOn_8 rfl rfl ?_
    refine ev_getR dX1_widthOn_9 fl_X1_20 sh_48 (by decide) (by decide) rf_48_6 ?_
    refine ev_iconst dX1_widthOn_12 (r32c rfl) ?_
    refine ev_aald (b := 53) dX1_widthOn_13 (Or.inl rfl) sh_51 (by decide) (by decide) (rfd_51 1 (by decide)) ?_
    refine ev_iload_n (i := 1) dX1_widthOn_14 rfl rfl ?_
    by_cases g2 : 0 ≤ x1 ∧ x1 < 6
    · rw [if_pos g2] at h
      refine ex_iald (x := (f 53 x1.toNat)) dX1_widthOn_15 sh_53 g2.1 g2.2 rfl ?_
      refine ev_cSI (av := [vI (f 52 x1.toNat), vI (f 53 x1.toNat)]) (S := []) (fun q => q) h dX1_widthOn_16 (fun Q' q => TJ9_min_7cf53 (f 52 x1.toNat) (f 53 x1.toNat) _ q) ksJ9_min_7cf53 ml_X1_98 rfl (RRc (by decide) (by decide)) (Nat.le_of_ble_eq_true rfl) ⟨Nat.le_of_ble_eq_true rfl, Nat.le_of_ble_eq_true rfl⟩ (fun y3 f3 h => ?_)
      exact ev_iret rfl dX1_widthOn_19 h
    · rw [if_neg g2] at h; exact h.elim
  · rw [if_neg g1] at h; exact h.elim
def FX1_widthOn (x1 : Int) (f : Mm) : Option (Int × Mm) := FX1_widthOn_0 x1 f
theorem TX1_widthOn {G : GT} {l : Launch} {Q : Option AV → Mem → Prop} (x1 : Int) (f : Mm) (h : OkI Q (FX1_widthOn x1 f)) : Ret G l MX1_widthOn (2) 0 0 [vR 48, vI x1] (SH, RF, f) Q := by
  refine ret_of (L := [some (vR 48), some (vI x1)]) (by decide) rfl (Nat.le_of_ble_eq_true rfl) ?_
  exact SX1_widthOn_0 x1 f h
theorem dX1_passDay_118 : decode cX1_passDay 118 = .ok (.aload_n 0, 1) := by decide +kernel
theorem dX1_passDay_119 : decode cX1_passDay 119 = .ok (.getfield 23, 3) := by decide +kernel
theorem dX1_passDay_122 : decode cX1_passDay 122 = .ok (.iload_n 2, 1) := by decide +kernel
theorem dX1_passDay_123 : decode cX1_passDay 123 = .ok (.iload 5, 2) := by decide +kernel
theorem dX1_passDay_125 : decode cX1_passDay 125 = .ok (.iastore, 1) := by decide +kernel
theorem dX1_passDay_126 : decode cX1_passDay 126 = .ok (.aload_n 0, 1) := by decide +kernel
theorem dX1_passDay_127 : decode cX1_passDay 127 = .ok (.getfield 26, 3) := by decide +kernel
theorem dX1_passDay_130 : decode cX1_passDay 130 = .ok (.iload_n 2, 1) := by decide +kernel
theorem dX1_passDay_131 : decode cX1_passDay 131 = .ok (.iconst 1, 1) := by decide +kernel
theorem dX1_passDay_132 : decode cX1_passDay 132 = .ok (.iadd, 1) := by decide +kernel
theorem dX1_passDay_133 : decode cX1_passDay 133 = .ok (.iload_n 3, 1) := by decide +kernel
theorem dX1_passDay_134 : decode cX1_passDay 134 = .ok (.iastore, 1) := by decide +kernel
theorem dX1_passDay_135 : decode cX1_passDay 135 = .ok (.aload_n 0, 1) := by decide +kernel
theorem dX1_passDay_136 : decode cX1_passDay 136 = .ok (.getfield 29, 3) := by decide +kernel
theorem dX1_passDay_139 : decode cX1_passDay 139 = .ok (.iload_n 2, 1) := by decide +kernel
theorem dX1_passDay_140 : decode cX1_passDay 140 = .ok (.iconst 1, 1) := by decide +kernel
theorem dX1_passDay_141 : decode cX1_passDay 141 = .ok (.iadd, 1) := by decide +kernel
theorem dX1_passDay_142 : decode cX1_passDay 142 = .ok (.iload 4, 2) := by decide +kernel
theorem dX1_passDay_144 : decode cX1_passDay 144 = .ok (.iastore, 1) := by decide +kernel
theorem dX1_passDay_145 : decode cX1_passDay 145 = .ok (.return_, 1) := by decide +kernel
theorem dX1_passDay_112 : decode cX1_passDay 112 = .ok (.iinc 6 1, 3) := by decide +kernel
theorem dX1_passDay_115 : decode cX1_passDay 115 = .ok (.goto (-90), 3) := by decide +kernel
theorem dX1_passDay_25 : decode cX1_passDay 25 = .ok (.iload 6, 2) := by decide +kernel
theorem dX1_passDay_27 : decode cX1_passDay 27 = .ok (.aload_n 1, 1) := by decide +kernel
theorem dX1_passDay_28 : decode cX1_passDay 28 = .ok (.getfield 92, 3) := by decide +kernel
theorem dX1_passDay_31 : decode cX1_passDay 31 = .ok (.if_icmp .ge 87, 3) := by decide +kernel
theorem dX1_passDay_34 : decode cX1_passDay 34 = .ok (.aload_n 1, 1) := by decide +kernel
theorem dX1_passDay_35 : decode cX1_passDay 35 = .ok (.getfield 95, 3) := by decide +kernel
theorem dX1_passDay_38 : decode cX1_passDay 38 = .ok (.aload_n 0, 1) := by decide +kernel
theorem dX1_passDay_39 : decode cX1_passDay 39 = .ok (.getfield 15, 3) := by decide +kernel
theorem dX1_passDay_42 : decode cX1_passDay 42 = .ok (.iload 6, 2) := by decide +kernel
theorem dX1_passDay_44 : decode cX1_passDay 44 = .ok (.iaload, 1) := by decide +kernel
theorem dX1_passDay_45 : decode cX1_passDay 45 = .ok (.aaload, 1) := by decide +kernel
theorem dX1_passDay_46 : decode cX1_passDay 46 = .ok (.astore 7, 2) := by decide +kernel
theorem dX1_passDay_48 : decode cX1_passDay 48 = .ok (.iconst 1, 1) := by decide +kernel
theorem dX1_passDay_49 : decode cX1_passDay 49 = .ok (.aload_n 0, 1) := by decide +kernel
theorem dX1_passDay_50 : decode cX1_passDay 50 = .ok (.getfield 15, 3) := by decide +kernel
theorem dX1_passDay_53 : decode cX1_passDay 53 = .ok (.iload 6, 2) := by decide +kernel
theorem dX1_passDay_55 : decode cX1_passDay 55 = .ok (.iaload, 1) := by decide +kernel
theorem dX1_passDay_56 : decode cX1_passDay 56 = .ok (.ishl, 1) := by decide +kernel
theorem dX1_passDay_57 : decode cX1_passDay 57 = .ok (.istore 8, 2) := by decide +kernel
theorem dX1_passDay_59 : decode cX1_passDay 59 = .ok (.iload_n 3, 1) := by decide +kernel
theorem dX1_passDay_60 : decode cX1_passDay 60 = .ok (.iload 8, 2) := by decide +kernel
theorem dX1_passDay_62 : decode cX1_passDay 62 = .ok (.iand, 1) := by decide +kernel
theorem dX1_passDay_63 : decode cX1_passDay 63 = .ok (.ifCond .ne 49, 3) := by decide +kernel
theorem dX1_passDay_66 : decode cX1_passDay 66 = .ok (.aload 7, 2) := by decide +kernel
theorem dX1_passDay_68 : decode cX1_passDay 68 = .ok (.iconst 2, 1) := by decide +kernel
theorem dX1_passDay_69 : decode cX1_passDay 69 = .ok (.iaload, 1) := by decide +kernel
theorem dX1_passDay_70 : decode cX1_passDay 70 = .ok (.iload_n 2, 1) := by decide +kernel
theorem dX1_passDay_71 : decode cX1_passDay 71 = .ok (.if_icmp .gt 41, 3) := by decide +kernel
theorem dX1_passDay_74 : decode cX1_passDay 74 = .ok (.aload 7, 2) := by decide +kernel
theorem dX1_passDay_76 : decode cX1_passDay 76 = .ok (.iconst 1, 1) := by decide +kernel
theorem dX1_passDay_77 : decode cX1_passDay 77 = .ok (.iaload, 1) := by decide +kernel
theorem dX1_passDay_78 : decode cX1_passDay 78 = .ok (.iload 5, 2) := by decide +kernel
theorem dX1_passDay_80 : decode cX1_passDay 80 = .ok (.if_icmp .gt 32, 3) := by decide +kernel
theorem dX1_passDay_83 : decode cX1_passDay 83 = .ok (.iload 5, 2) := by decide +kernel
theorem dX1_passDay_85 : decode cX1_passDay 85 = .ok (.aload 7, 2) := by decide +kernel
theorem dX1_passDay_87 : decode cX1_passDay 87 = .ok (.iconst 1, 1) := by decide +kernel
theorem dX1_passDay_88 : decode cX1_passDay 88 = .ok (.iaload, 1) := by decide +kernel
theorem dX1_passDay_89 : decode cX1_passDay 89 = .ok (.isub, 1) := by decide +kernel
theorem dX1_passDay_90 : decode cX1_passDay 90 = .ok (.istore 5, 2) := by decide +kernel
theorem dX1_passDay_92 : decode cX1_passDay 92 = .ok (.iload_n 3, 1) := by decide +kernel
theorem dX1_passDay_93 : decode cX1_passDay 93 = .ok (.iload 8, 2) := by decide +kernel
theorem dX1_passDay_95 : decode cX1_passDay 95 = .ok (.ior, 1) := by decide +kernel
theorem dX1_passDay_96 : decode cX1_passDay 96 = .ok (.istore_n 3, 1) := by decide +kernel
theorem dX1_passDay_97 : decode cX1_passDay 97 = .ok (.iload_n 2, 1) := by decide +kernel
theorem dX1_passDay_98 : decode cX1_passDay 98 = .ok (.aload 7, 2) := by decide +kernel
theorem dX1_passDay_100 : decode cX1_passDay 100 = .ok (.iconst 3, 1) := by decide +kernel
theorem dX1_passDay_101 : decode cX1_passDay 101 = .ok (.iaload, 1) := by decide +kernel
theorem dX1_passDay_102 : decode cX1_passDay 102 = .ok (.if_icmp .gt 10, 3) := by decide +kernel
theorem dX1_passDay_105 : decode cX1_passDay 105 = .ok (.iload 4, 2) := by decide +kernel
theorem dX1_passDay_107 : decode cX1_passDay 107 = .ok (.iload 8, 2) := by decide +kernel
theorem dX1_passDay_109 : decode cX1_passDay 109 = .ok (.ior, 1) := by decide +kernel
theorem dX1_passDay_110 : decode cX1_passDay 110 = .ok (.istore 4, 2) := by decide +kernel
theorem dX1_passDay_0 : decode cX1_passDay 0 = .ok (.aload_n 0, 1) := by decide +kernel
theorem dX1_passDay_1 : decode cX1_passDay 1 = .ok (.getfield 26, 3) := by decide +kernel
theorem dX1_passDay_4 : decode cX1_passDay 4 = .ok (.iload_n 2, 1) := by decide +kernel
theorem dX1_passDay_5 : decode cX1_passDay 5 = .ok (.iaload, 1) := by decide +kernel
theorem dX1_passDay_6 : decode cX1_passDay 6 = .ok (.istore_n 3, 1) := by decide +kernel
theorem dX1_passDay_7 : decode cX1_passDay 7 = .ok (.aload_n 0, 1) := by decide +kernel
theorem dX1_passDay_8 : decode cX1_passDay 8 = .ok (.getfield 29, 3) := by decide +kernel
theorem dX1_passDay_11 : decode cX1_passDay 11 = .ok (.iload_n 2, 1) := by decide +kernel
theorem dX1_passDay_12 : decode cX1_passDay 12 = .ok (.iaload, 1) := by decide +kernel
theorem dX1_passDay_13 : decode cX1_passDay 13 = .ok (.istore 4, 2) := by decide +kernel
theorem dX1_passDay_15 : decode cX1_passDay 15 = .ok (.aload_n 0, 1) := by decide +kernel
theorem dX1_passDay_16 : decode cX1_passDay 16 = .ok (.iload_n 2, 1) := by decide +kernel
theorem dX1_passDay_17 : decode cX1_passDay 17 = .ok (.invokevirtual 89, 3) := by decide +kernel
theorem dX1_passDay_20 : decode cX1_passDay 20 = .ok (.istore 5, 2) := by decide +kernel
theorem dX1_passDay_22 : decode cX1_passDay 22 = .ok (.iconst 0, 1) := by decide +kernel
theorem dX1_passDay_23 : decode cX1_passDay 23 = .ok (.istore 6, 2) := by decide +kernel
def FX1_passDay_48_4_118  (x2 : Int) (x3 : Int) (x4 : Int) (x5 : Int) (f : Mm) : Option Mm := (if 0 ≤ x2 ∧ x2 < 6 then (if 0 ≤ (w32 (x2 + 1)) ∧ (w32 (x2 + 1)) < 7 then (if 0 ≤ (w32 (x2 + 1)) ∧ (w32 (x2 + 1)) < 7 then some (up (up (up f 54 x2.toNat x5) 55 (w32 (x2 + 1)).toNat x3) 56 (w32 (x2 + 1)).toNat x4) else none) else none) else none)
set_option maxHeartbeats 4000000 in
set_option maxRecDepth 100000 in
theorem SX1_passDay_48_4_118 {G : GT} {l : Launch} {Q : Option AV → Mem → Prop}  (x2 : Int) (x3 : Int) (x4 : Int) (x5 : Int) (f : Mm) (h : OkV Q (FX1_passDay_48_4_118  x2 x3 x4 x5 f)) : Ev G l MX1_passDay (Rm 3 0 0) (ZM G Q 0 0) 0 0 118 [some (vR 48), none, some (vI x2), some (vI x3), some (vI x4), some (vI x5), none, none, none] [] (SH, RF, f) := by
  unfold FX1_passDay_48_4_118 at h
  refine ev_aload_n (i := 0) dX1_passDay_118 rfl rfl ?_
  refine ev_getR dX1_passDay_119 fl_X1_23 sh_48 (by decide) (by decide) rf_48_7 ?_
  refine ev_iload_n (i := 2) dX1_passDay_122 rfl rfl ?_
  refine ev_iload dX1_passDay_123 rfl ?_
  by_cases g1 : 0 ≤ x2 ∧ x2 < 6
  · rw [if_pos g1] at h
    refine ex_iast (j := x2.toNat) dX1_passDay_125 sh_54 g1.1 g1.2 rfl ?_
    refine ev_aload_n (i := 0) dX1_passDay_126 rfl rfl ?_
    refine ev_getR dX1_passDay_127 fl_X1_26 sh_48 (by decide) (by decide) rf_48_8 ?_
    refine ev_iload_n (i := 2) dX1_passDay_130 rfl rfl ?_
    refine ev_iconst dX1_passDay_131 (r32c rfl) ?_
    refine ev_iadd dX1_passDay_132 ?_
    refine ev_iload_n (i := 3) dX1_passDay_133 rfl rfl ?_
    by_cases g2 : 0 ≤ (w32 (x2 + 1)) ∧ (w32 (x2 + 1)) < 7
    · rw [if_pos g2] at h
      refine ex_iast (j := (w32 (x2 + 1)).toNat) dX1_passDay_134 sh_55 g2.1 g2.2 rfl ?_
      refine ev_aload_n (i := 0) dX1_passDay_135 rfl rfl ?_
      refine ev_getR dX1_passDay_136 fl_X1_29 sh_48 (by decide) (by decide) rf_48_9 ?_
      refine ev_iload_n (i := 2) dX1_passDay_139 rfl rfl ?_
      refine ev_iconst dX1_passDay_140 (r32c rfl) ?_
      refine ev_iadd dX1_passDay_141 ?_
      refine ev_iload dX1_passDay_142 rfl ?_
      by_cases g3 : 0 ≤ (w32 (x2 + 1)) ∧ (w32 (x2 + 1)) < 7
      · rw [if_pos g3] at h
        refine ex_iast (j := (w32 (x2 + 1)).toNat) dX1_passDay_144 sh_56 g3.1 g3.2 rfl ?_
        exact ev_vret rfl dX1_passDay_145 h
      · rw [if_neg g3] at h; exact h.elim
    · rw [if_neg g2] at h; exact h.elim
  · rw [if_neg g1] at h; exact h.elim
def FX1_passDay_48_4_112 (k25 : Int → Int → Int → Int → Int → Mm → Option Mm) (x2 : Int) (x3 : Int) (x4 : Int) (x5 : Int) (x6 : Int) (f : Mm) : Option Mm := k25 x2 x3 x4 x5 (w32 (x6 + 1)) f
set_option maxHeartbeats 4000000 in
set_option maxRecDepth 100000 in
theorem SX1_passDay_48_4_112 {G : GT} {l : Launch} {Q : Option AV → Mem → Prop} {k25 : Int → Int → Int → Int → Int → Mm → Option Mm} (q25 : ∀ (x2 : Int) (x3 : Int) (x4 : Int) (x5 : Int) (x6 : Int) (f : Mm), OkV Q (k25 x2 x3 x4 x5 x6 f) → Ev G l MX1_passDay (Rm 3 0 0) (ZM G Q 0 0) 0 0 25 [some (vR 48), some (vR 4), some (vI x2), some (vI x3), some (vI x4), some (vI x5), some (vI x6), none, none] [] (SH, RF, f)) (x2 : Int) (x3 : Int) (x4 : Int) (x5 : Int) (x6 : Int) (f : Mm) (h : OkV Q (FX1_passDay_48_4_112 k25 x2 x3 x4 x5 x6 f)) : Ev G l MX1_passDay (Rm 3 0 0) (ZM G Q 0 0) 0 0 112 [some (vR 48), some (vR 4), some (vI x2), some (vI x3), some (vI x4), some (vI x5), some (vI x6), none, none] [] (SH, RF, f) := by
  unfold FX1_passDay_48_4_112 at h
  refine ev_iinc (L' := [some (vR 48), some (vR 4), some (vI x2), some (vI x3), some (vI x4), some (vI x5), some (vI (w32 (x6 + 1))), none, none]) dX1_passDay_112 rfl (by decide) rfl ?_
  refine ev_goto (tgt := 25) dX1_passDay_115 (by decide) ?_
  exact q25 x2 x3 x4 x5 (w32 (x6 + 1)) _ h
def FX1_passDay_48_4_25  : Nat → Int → Int → Int → Int → Int → Mm → Option Mm
  | 0, _, _, _, _, _, _ => none
  | n + 1, x2, x3, x4, x5, x6, f => (if (f 4 5) ≤ x6 then FX1_passDay_48_4_118 x2 x3 x4 x5 f else (if 0 ≤ x6 ∧ x6 < 6 then (if 0 ≤ (f 50 x6.toNat) ∧ (f 50 x6.toNat) < 6 then (if 0 ≤ x6 ∧ x6 < 6 then (if (bAnd x3 (bShl 1 (f 50 x6.toNat))) = 0 then (if x2 < (f (12 + (f 50 x6.toNat).toNat) 2) then FX1_passDay_48_4_112 (FX1_passDay_48_4_25 n) x2 x3 x4 x5 x6 f else (if x5 < (f (12 + (f 50 x6.toNat).toNat) 1) then FX1_passDay_48_4_112 (FX1_passDay_48_4_25 n) x2 x3 x4 x5 x6 f else (if (f (12 + (f 50 x6.toNat).toNat) 3) < x2 then FX1_passDay_48_4_112 (FX1_passDay_48_4_25 n) x2 (bOr x3 (bShl 1 (f 50 x6.toNat))) x4 (w32 (x5 - (f (12 + (f 50 x6.toNat).toNat) 1))) x6 f else FX1_passDay_48_4_112 (FX1_passDay_48_4_25 n) x2 (bOr x3 (bShl 1 (f 50 x6.toNat))) (bOr x4 (bShl 1 (f 50 x6.toNat))) (w32 (x5 - (f (12 + (f 50 x6.toNat).toNat) 1))) x6 f))) else FX1_passDay_48_4_112 (FX1_passDay_48_4_25 n) x2 x3 x4 x5 x6 f) else none) else none) else none))
set_option maxHeartbeats 4000000 in
set_option maxRecDepth 100000 in
theorem SX1_passDay_48_4_25 {G : GT} {l : Launch} {Q : Option AV → Mem → Prop}  : ∀ (n : Nat) (x2 : Int) (x3 : Int) (x4 : Int) (x5 : Int) (x6 : Int) (f : Mm), OkV Q (FX1_passDay_48_4_25  n x2 x3 x4 x5 x6 f) → Ev G l MX1_passDay (Rm 3 0 0) (ZM G Q 0 0) 0 0 25 [some (vR 48), some (vR 4), some (vI x2), some (vI x3), some (vI x4), some (vI x5), some (vI x6), none, none] [] (SH, RF, f) := by
  intro n
  induction n with
  | zero => intro x2 x3 x4 x5 x6 f h; exact absurd h (by rw [FX1_passDay_48_4_25]; exact fun q => q)
  | succ n ih =>
    intro x2 x3 x4 x5 x6 f h
    rw [FX1_passDay_48_4_25] at h
    refine ev_iload dX1_passDay_25 rfl ?_
    refine ev_aload_n (i := 1) dX1_passDay_27 rfl rfl ?_
    refine ex_getI (x := (f 4 5)) dX1_passDay_28 fl_X1_92 sh_4 (by decide) (by decide) rfl ?_
    refine ev_icmp_ge (tgt := 118) dX1_passDay_31 (by decide) (fun c8 => ?_) (fun c8 => ?_)
    · rw [if_pos c8] at h
      refine ev_fg [true, false, true, true, true, true, false, true, true] rfl ?_
      exact SX1_passDay_48_4_118  x2 x3 x4 x5 _ h
    · rw [if_neg c8] at h
      refine ev_aload_n (i := 1) dX1_passDay_34 rfl rfl ?_
      refine ev_getR dX1_passDay_35 fl_X1_95 sh_4 (by decide) (by decide) rf_4_9 ?_
      refine ev_aload_n (i := 0) dX1_passDay_38 rfl rfl ?_
      refine ev_getR dX1_passDay_39 fl_X1_15 sh_48 (by decide) (by decide) rf_48_1 ?_
      refine ev_iload dX1_passDay_42 rfl ?_
      by_cases g1 : 0 ≤ x6 ∧ x6 < 6
      · rw [if_pos g1] at h
        refine ex_iald (x := (f 50 x6.toNat)) dX1_passDay_44 sh_50 g1.1 g1.2 rfl ?_
        by_cases g2 : 0 ≤ (f 50 x6.toNat) ∧ (f 50 x6.toNat) < 6
        · rw [if_pos g2] at h
          refine ev_aald (b := (12 + (f 50 x6.toNat).toNat)) dX1_passDay_45 (Or.inl rfl) sh_11 g2.1 g2.2 (rfr_11 g2) ?_
          refine ev_astore (L' := [some (vR 48), some (vR 4), some (vI x2), some (vI x3), some (vI x4), some (vI x5), some (vI x6), some (vR (12 + (f 50 x6.toNat).toNat)), none]) dX1_passDay_46 (by decide) rfl ?_
          refine ev_iconst dX1_passDay_48 (r32c rfl) ?_
          refine ev_aload_n (i := 0) dX1_passDay_49 rfl rfl ?_
          refine ev_getR dX1_passDay_50 fl_X1_15 sh_48 (by decide) (by decide) rf_48_1 ?_
          refine ev_iload dX1_passDay_53 rfl ?_
          by_cases g3 : 0 ≤ x6 ∧ x6 < 6
          · rw [if_pos g3] at h
            refine ex_iald (x := (f 50 x6.toNat)) dX1_passDay_55 sh_50 g3.1 g3.2 rfl ?_
            refine ev_ishl dX1_passDay_56 ?_
            refine ev_istore (L' := [some (vR 48), some (vR 4), some (vI x2), some (vI x3), some (vI x4), some (vI x5), some (vI x6), some (vR (12 + (f 50 x6.toNat).toNat)), some (vI (bShl 1 (f 50 x6.toNat)))]) dX1_passDay_57 (by decide) rfl ?_
            refine ev_iload_n (i := 3) dX1_passDay_59 rfl rfl ?_
            refine ev_iload dX1_passDay_60 rfl ?_
            refine ev_iand dX1_passDay_62 ?_
            refine ev_if_ne (tgt := 112) dX1_passDay_63 (by decide) (fun c7 => ?_) (fun c7 => ?_)
            · rw [if_neg c7] at h
              refine ev_fg [true, true, true, true, true, true, true, false, false] rfl ?_
              exact SX1_passDay_48_4_112 ih x2 x3 x4 x5 x6 _ h
            · rw [if_pos c7] at h
              refine ev_aload dX1_passDay_66 rfl ?_
              refine ev_iconst dX1_passDay_68 (r32c rfl) ?_
              refine ex_iald (x := (f (12 + (f 50 x6.toNat).toNat) 2)) dX1_passDay_69 (shr_11 g2) (by decide) (by decide) rfl ?_
              refine ev_iload_n (i := 2) dX1_passDay_70 rfl rfl ?_
              refine ev_icmp_gt (tgt := 112) dX1_passDay_71 (by decide) (fun c6 => ?_) (fun c6 => ?_)
              · rw [if_pos c6] at h
                refine ev_fg [true, true, true, true, true, true, true, false, false] rfl ?_
                exact SX1_passDay_48_4_112 ih x2 x3 x4 x5 x6 _ h
              · rw [if_neg c6] at h
                refine ev_aload dX1_passDay_74 rfl ?_
                refine ev_iconst dX1_passDay_76 (r32c rfl) ?_
                refine ex_iald (x := (f (12 + (f 50 x6.toNat).toNat) 1)) dX1_passDay_77 (shr_11 g2) (by decide) (by decide) rfl ?_
                refine ev_iload dX1_passDay_78 rfl ?_
                refine ev_icmp_gt (tgt := 112) dX1_passDay_80 (by decide) (fun c5 => ?_) (fun c5 => ?_)
                · rw [if_pos c5] at h
                  refine ev_fg [true, true, true, true, true, true, true, false, false] rfl ?_
                  exact SX1_passDay_48_4_112 ih x2 x3 x4 x5 x6 _ h
                · rw [if_neg c5] at h
                  refine ev_iload dX1_passDay_83 rfl ?_
                  refine ev_aload dX1_passDay_85 rfl ?_
                  refine ev_iconst dX1_passDay_87 (r32c rfl) ?_
                  refine ex_iald (x := (f (12 + (f 50 x6.toNat).toNat) 1)) dX1_passDay_88 (shr_11 g2) (by decide) (by decide) rfl ?_
                  refine ev_isub dX1_passDay_89 ?_
                  refine ev_istore (L' := [some (vR 48), some (vR 4), some (vI x2), some (vI x3), some (vI x4), some (vI (w32 (x5 - (f (12 + (f 50 x6.toNat).toNat) 1)))), some (vI x6), some (vR (12 + (f 50 x6.toNat).toNat)), some (vI (bShl 1 (f 50 x6.toNat)))]) dX1_passDay_90 (by decide) rfl ?_
                  refine ev_iload_n (i := 3) dX1_passDay_92 rfl rfl ?_
                  refine ev_iload dX1_passDay_93 rfl ?_
                  refine ev_ior dX1_passDay_95 ?_
                  refine ev_istore_n (i := 3) (L' := [some (vR 48), some (vR 4), some (vI x2), some (vI (bOr x3 (bShl 1 (f 50 x6.toNat)))), some (vI x4), some (vI (w32 (x5 - (f (12 + (f 50 x6.toNat).toNat) 1)))), some (vI x6), some (vR (12 + (f 50 x6.toNat).toNat)), some (vI (bShl 1 (f 50 x6.toNat)))]) dX1_passDay_96 rfl (by decide) rfl ?_
                  refine ev_iload_n (i := 2) dX1_passDay_97 rfl rfl ?_
                  refine ev_aload dX1_passDay_98 rfl ?_
                  refine ev_iconst dX1_passDay_100 (r32c rfl) ?_
                  refine ex_iald (x := (f (12 + (f 50 x6.toNat).toNat) 3)) dX1_passDay_101 (shr_11 g2) (by decide) (by decide) rfl ?_
                  refine ev_icmp_gt (tgt := 112) dX1_passDay_102 (by decide) (fun c4 => ?_) (fun c4 => ?_)
                  · rw [if_pos c4] at h
                    refine ev_fg [true, true, true, true, true, true, true, false, false] rfl ?_
                    exact SX1_passDay_48_4_112 ih x2 (bOr x3 (bShl 1 (f 50 x6.toNat))) x4 (w32 (x5 - (f (12 + (f 50 x6.toNat).toNat) 1))) x6 _ h
                  · rw [if_neg c4] at h
                    refine ev_iload dX1_passDay_105 rfl ?_
                    refine ev_iload dX1_passDay_107 rfl ?_
                    refine ev_ior dX1_passDay_109 ?_
                    refine ev_istore (L' := [some (vR 48), some (vR 4), some (vI x2), some (vI (bOr x3 (bShl 1 (f 50 x6.toNat)))), some (vI (bOr x4 (bShl 1 (f 50 x6.toNat)))), some (vI (w32 (x5 - (f (12 + (f 50 x6.toNat).toNat) 1)))), some (vI x6), some (vR (12 + (f 50 x6.toNat).toNat)), some (vI (bShl 1 (f 50 x6.toNat)))]) dX1_passDay_110 (by decide) rfl ?_
                    refine ev_fg [true, true, true, true, true, true, true, false, false] rfl ?_
                    exact SX1_passDay_48_4_112 ih x2 (bOr x3 (bShl 1 (f 50 x6.toNat))) (bOr x4 (bShl 1 (f 50 x6.toNat))) (w32 (x5 - (f (12 + (f 50 x6.toNat).toNat) 1))) x6 _ h
          · rw [if_neg g3] at h; exact h.elim
        · rw [if_neg g2] at h; exact h.elim
      · rw [if_neg g1] at h; exact h.elim
def FX1_passDay_48_4_0  (x2 : Int) (f : Mm) : Option Mm := (if 0 ≤ x2 ∧ x2 < 7 then (if 0 ≤ x2 ∧ x2 < 7 then (b2 (FX1_widthOn x2 f) fun y3 f3 => FX1_passDay_48_4_25 fu x2 (f 55 x2.toNat) (f 56 x2.toNat) y3 0 f3) else none) else none)
set_option maxHeartbeats 4000000 in
set_option maxRecDepth 100000 in
theorem SX1_passDay_48_4_0 {G : GT} {l : Launch} {Q : Option AV → Mem → Prop}  (x2 : Int) (f : Mm) (h : OkV Q (FX1_passDay_48_4_0  x2 f)) : Ev G l MX1_passDay (Rm 3 0 0) (ZM G Q 0 0) 0 0 0 [some (vR 48), some (vR 4), some (vI x2), none, none, none, none, none, none] [] (SH, RF, f) := by
  unfold FX1_passDay_48_4_0 at h
  refine ev_aload_n (i := 0) dX1_passDay_0 rfl rfl ?_
  refine ev_getR dX1_passDay_1 fl_X1_26 sh_48 (by decide) (by decide) rf_48_8 ?_
  refine ev_iload_n (i := 2) dX1_passDay_4 rfl rfl ?_
  by_cases g1 : 0 ≤ x2 ∧ x2 < 7
  · rw [if_pos g1] at h
    refine ex_iald (x := (f 55 x2.toNat)) dX1_passDay_5 sh_55 g1.1 g1.2 rfl ?_
    refine ev_istore_n (i := 3) (L' := [some (vR 48), some (vR 4), some (vI x2), some (vI (f 55 x2.toNat)), none, none, none, none, none]) dX1_passDay_6 rfl (by decide) rfl ?_
    refine ev_aload_n (i := 0) dX1_passDay_7 rfl rfl ?_
    refine ev_getR dX1_passDay_8 fl_X1_29 sh_48 (by decide) (by decide) rf_48_9 ?_
    refine ev_iload_n (i := 2) dX1_passDay_11 rfl rfl ?_
    by_cases g2 : 0 ≤ x2 ∧ x2 < 7
    · rw [if_pos g2] at h
      refine ex_iald (x := (f 56 x2.toNat)) dX1_passDay_12 sh_56 g2.1 g2.2 rfl ?_
      refine ev_istore (L' := [some (vR 48), some (vR 4), some (vI x2), some (vI (f 55 x2.toNat)), some (vI (f 56 x2.toNat)), none, none, none, none]) dX1_passDay_13 (by decide) rfl ?_
      refine ev_aload_n (i := 0) dX1_passDay_15 rfl rfl ?_
      refine ev_iload_n (i := 2) dX1_passDay_16 rfl rfl ?_
      refine ev_cVI (b := 48) (av := [vI x2]) (S := []) (fun q => q) h dX1_passDay_17 (fun Q' q => TX1_widthOn x2 _ q) kvX1_widthOn ml_X1_89 sh_48 rfl (RRc (by decide) (by decide)) (Nat.le_of_ble_eq_true rfl) ⟨Nat.le_of_ble_eq_true rfl, Nat.le_of_ble_eq_true rfl⟩ (fun y3 f3 h => ?_)
      refine ev_istore (L' := [some (vR 48), some (vR 4), some (vI x2), some (vI (f 55 x2.toNat)), some (vI (f 56 x2.toNat)), some (vI y3), none, none, none]) dX1_passDay_20 (by decide) rfl ?_
      refine ev_iconst dX1_passDay_22 (r32c rfl) ?_
      refine ev_istore (L' := [some (vR 48), some (vR 4), some (vI x2), some (vI (f 55 x2.toNat)), some (vI (f 56 x2.toNat)), some (vI y3), some (vI 0), none, none]) dX1_passDay_23 (by decide) rfl ?_
      exact SX1_passDay_48_4_25  fu x2 (f 55 x2.toNat) (f 56 x2.toNat) y3 0 _ h
    · rw [if_neg g2] at h; exact h.elim
  · rw [if_neg g1] at h; exact h.elim
def FX1_passDay_48_4 (x2 : Int) (f : Mm) : Option Mm := FX1_passDay_48_4_0 x2 f
theorem TX1_passDay_48_4 {G : GT} {l : Launch} {Q : Option AV → Mem → Prop} (x2 : Int) (f : Mm) (h : OkV Q (FX1_passDay_48_4 x2 f)) : Ret G l MX1_passDay (3) 0 0 [vR 48, vR 4, vI x2] (SH, RF, f) Q := by
  refine ret_of (L := [some (vR 48), some (vR 4), some (vI x2), none, none, none, none, none, none]) (by decide) rfl (Nat.le_of_ble_eq_true rfl) ?_
  exact SX1_passDay_48_4_0 x2 f h
theorem dX1_walk_2 : decode cX1_walk 2 = .ok (.iload_n 2, 1) := by decide +kernel
theorem dX1_walk_3 : decode cX1_walk 3 = .ok (.aload_n 1, 1) := by decide +kernel
theorem dX1_walk_4 : decode cX1_walk 4 = .ok (.getfield 51, 3) := by decide +kernel
theorem dX1_walk_7 : decode cX1_walk 7 = .ok (.if_icmp .ge 21, 3) := by decide +kernel
theorem dX1_walk_28 : decode cX1_walk 28 = .ok (.return_, 1) := by decide +kernel
theorem dX1_walk_10 : decode cX1_walk 10 = .ok (.aload_n 0, 1) := by decide +kernel
theorem dX1_walk_11 : decode cX1_walk 11 = .ok (.aload_n 1, 1) := by decide +kernel
theorem dX1_walk_12 : decode cX1_walk 12 = .ok (.iload_n 2, 1) := by decide +kernel
theorem dX1_walk_13 : decode cX1_walk 13 = .ok (.invokevirtual 54, 3) := by decide +kernel
theorem dX1_walk_16 : decode cX1_walk 16 = .ok (.aload_n 0, 1) := by decide +kernel
theorem dX1_walk_17 : decode cX1_walk 17 = .ok (.aload_n 1, 1) := by decide +kernel
theorem dX1_walk_18 : decode cX1_walk 18 = .ok (.iload_n 2, 1) := by decide +kernel
theorem dX1_walk_19 : decode cX1_walk 19 = .ok (.invokevirtual 58, 3) := by decide +kernel
theorem dX1_walk_22 : decode cX1_walk 22 = .ok (.iinc 2 1, 3) := by decide +kernel
theorem dX1_walk_25 : decode cX1_walk 25 = .ok (.goto (-23), 3) := by decide +kernel
theorem dX1_walk_0 : decode cX1_walk 0 = .ok (.iconst 0, 1) := by decide +kernel
theorem dX1_walk_1 : decode cX1_walk 1 = .ok (.istore_n 2, 1) := by decide +kernel
def FX1_walk_48_4_2  : Nat → Int → Mm → Option Mm
  | 0, _, _ => none
  | n + 1, x2, f => (if (f 4 1) ≤ x2 then some f else ((FX1_feelDay_48_4 x2 f).bind fun f1 => ((FX1_passDay_48_4 x2 f1).bind fun f2 => FX1_walk_48_4_2 n (w32 (x2 + 1)) f2)))
set_option maxHeartbeats 4000000 in
set_option maxRecDepth 100000 in
theorem SX1_walk_48_4_2 {G : GT} {l : Launch} {Q : Option AV → Mem → Prop}  : ∀ (n : Nat) (x2 : Int) (f : Mm), OkV Q (FX1_walk_48_4_2  n x2 f) → Ev G l MX1_walk (Rm 4 0 0) (ZM G Q 0 0) 0 0 2 [some (vR 48), some (vR 4), some (vI x2)] [] (SH, RF, f) := by
  intro n
  induction n with
  | zero => intro x2 f h; exact absurd h (by rw [FX1_walk_48_4_2]; exact fun q => q)
  | succ n ih =>
    intro x2 f h
    rw [FX1_walk_48_4_2] at h
    refine ev_iload_n (i := 2) dX1_walk_2 rfl rfl ?_
    refine ev_aload_n (i := 1) dX1_walk_3 rfl rfl ?_
    refine ex_getI (x := (f 4 1)) dX1_walk_4 fl_X1_51 sh_4 (by decide) (by decide) rfl ?_
    refine ev_icmp_ge (tgt := 28) dX1_walk_7 (by decide) (fun c3 => ?_) (fun c3 => ?_)
    · rw [if_pos c3] at h
      exact ev_vret rfl dX1_walk_28 h
    · rw [if_neg c3] at h
      refine ev_aload_n (i := 0) dX1_walk_10 rfl rfl ?_
      refine ev_aload_n (i := 1) dX1_walk_11 rfl rfl ?_
      refine ev_iload_n (i := 2) dX1_walk_12 rfl rfl ?_
      refine ev_cVV (b := 48) (av := [vR 4, vI x2]) (S := []) (fun q => q) h dX1_walk_13 (fun Q' q => TX1_feelDay_48_4 x2 _ q) kvX1_feelDay ml_X1_54 sh_48 rfl (RRc (by decide) (by decide)) (Nat.le_of_ble_eq_true rfl) ⟨Nat.le_of_ble_eq_true rfl, Nat.le_of_ble_eq_true rfl⟩ (fun f1 h => ?_)
      refine ev_aload_n (i := 0) dX1_walk_16 rfl rfl ?_
      refine ev_aload_n (i := 1) dX1_walk_17 rfl rfl ?_
      refine ev_iload_n (i := 2) dX1_walk_18 rfl rfl ?_
      refine ev_cVV (b := 48) (av := [vR 4, vI x2]) (S := []) (fun q => q) h dX1_walk_19 (fun Q' q => TX1_passDay_48_4 x2 _ q) kvX1_passDay ml_X1_58 sh_48 rfl (RRc (by decide) (by decide)) (Nat.le_of_ble_eq_true rfl) ⟨Nat.le_of_ble_eq_true rfl, Nat.le_of_ble_eq_true rfl⟩ (fun f2 h => ?_)
      refine ev_iinc (L' := [some (vR 48), some (vR 4), some (vI (w32 (x2 + 1)))]) dX1_walk_22 rfl (by decide) rfl ?_
      refine ev_goto (tgt := 2) dX1_walk_25 (by decide) ?_
      exact ih (w32 (x2 + 1)) _ h
def FX1_walk_48_4_0   (f : Mm) : Option Mm := FX1_walk_48_4_2 fu 0 f
set_option maxHeartbeats 4000000 in
set_option maxRecDepth 100000 in
theorem SX1_walk_48_4_0 {G : GT} {l : Launch} {Q : Option AV → Mem → Prop}   (f : Mm) (h : OkV Q (FX1_walk_48_4_0   f)) : Ev G l MX1_walk (Rm 4 0 0) (ZM G Q 0 0) 0 0 0 [some (vR 48), some (vR 4), none] [] (SH, RF, f) := by
  unfold FX1_walk_48_4_0 at h
  refine ev_iconst dX1_walk_0 (r32c rfl) ?_
  refine ev_istore_n (i := 2) (L' := [some (vR 48), some (vR 4), some (vI 0)]) dX1_walk_1 rfl (by decide) rfl ?_
  exact SX1_walk_48_4_2  fu 0 _ h
def FX1_walk_48_4  (f : Mm) : Option Mm := FX1_walk_48_4_0  f
theorem TX1_walk_48_4 {G : GT} {l : Launch} {Q : Option AV → Mem → Prop}  (f : Mm) (h : OkV Q (FX1_walk_48_4  f)) : Ret G l MX1_walk (4) 0 0 [vR 48, vR 4] (SH, RF, f) Q := by
  refine ret_of (L := [some (vR 48), some (vR 4), none]) (by decide) rfl (Nat.le_of_ble_eq_true rfl) ?_
  exact SX1_walk_48_4_0  f h
theorem dX10_asNow_0 : decode cX10_asNow 0 = .ok (.aload_n 0, 1) := by decide +kernel
theorem dX10_asNow_1 : decode cX10_asNow 1 = .ok (.getfield 44, 3) := by decide +kernel
theorem dX10_asNow_4 : decode cX10_asNow 4 = .ok (.aload_n 0, 1) := by decide +kernel
theorem dX10_asNow_5 : decode cX10_asNow 5 = .ok (.getfield 19, 3) := by decide +kernel
theorem dX10_asNow_8 : decode cX10_asNow 8 = .ok (.invokevirtual 230, 3) := by decide +kernel
theorem dX10_asNow_11 : decode cX10_asNow 11 = .ok (.aload_n 0, 1) := by decide +kernel
theorem dX10_asNow_12 : decode cX10_asNow 12 = .ok (.getfield 44, 3) := by decide +kernel
theorem dX10_asNow_15 : decode cX10_asNow 15 = .ok (.aload_n 0, 1) := by decide +kernel
theorem dX10_asNow_16 : decode cX10_asNow 16 = .ok (.getfield 19, 3) := by decide +kernel
theorem dX10_asNow_19 : decode cX10_asNow 19 = .ok (.invokevirtual 233, 3) := by decide +kernel
theorem dX10_asNow_22 : decode cX10_asNow 22 = .ok (.aload_n 0, 1) := by decide +kernel
theorem dX10_asNow_23 : decode cX10_asNow 23 = .ok (.getfield 44, 3) := by decide +kernel
theorem dX10_asNow_26 : decode cX10_asNow 26 = .ok (.areturn, 1) := by decide +kernel
def FX10_asNow_0   (f : Mm) : Option Mm := ((FX1_asDone_48_4 f).bind fun f1 => ((FX1_walk_48_4 f1).bind fun f2 => some f2))
set_option maxHeartbeats 4000000 in
set_option maxRecDepth 100000 in
theorem SX10_asNow_0 {G : GT} {l : Launch} {Q : Option AV → Mem → Prop}   (f : Mm) (h : OkC 48 Q (FX10_asNow_0   f)) : Ev G l MX10_asNow (Rm 5 0 0) (ZM G Q 0 0) 0 0 0 [some (vR 0)] [] (SH, RF, f) := by
  unfold FX10_asNow_0 at h
  refine ev_aload_n (i := 0) dX10_asNow_0 rfl rfl ?_
  refine ev_getR dX10_asNow_1 fl_X10_44 sh_0 (by decide) (by decide) rf_0_6 ?_
  refine ev_aload_n (i := 0) dX10_asNow_4 rfl rfl ?_
  refine ev_getR dX10_asNow_5 fl_X10_19 sh_0 (by decide) (by decide) rf_0_1 ?_
  refine ev_cVV (b := 48) (av := [vR 4]) (S := []) (fun q => q) h dX10_asNow_8 (fun Q' q => TX1_asDone_48_4 _ q) kvX1_asDone ml_X10_230 sh_48 rfl (RRc (by decide) (by decide)) (Nat.le_of_ble_eq_true rfl) ⟨Nat.le_of_ble_eq_true rfl, Nat.le_of_ble_eq_true rfl⟩ (fun f1 h => ?_)
  refine ev_aload_n (i := 0) dX10_asNow_11 rfl rfl ?_
  refine ev_getR dX10_asNow_12 fl_X10_44 sh_0 (by decide) (by decide) rf_0_6 ?_
  refine ev_aload_n (i := 0) dX10_asNow_15 rfl rfl ?_
  refine ev_getR dX10_asNow_16 fl_X10_19 sh_0 (by decide) (by decide) rf_0_1 ?_
  refine ev_cVV (b := 48) (av := [vR 4]) (S := []) (fun q => q) h dX10_asNow_19 (fun Q' q => TX1_walk_48_4 _ q) kvX1_walk ml_X10_233 sh_48 rfl (RRc (by decide) (by decide)) (Nat.le_of_ble_eq_true rfl) ⟨Nat.le_of_ble_eq_true rfl, Nat.le_of_ble_eq_true rfl⟩ (fun f2 h => ?_)
  refine ev_aload_n (i := 0) dX10_asNow_22 rfl rfl ?_
  refine ev_getR dX10_asNow_23 fl_X10_44 sh_0 (by decide) (by decide) rf_0_6 ?_
  exact ev_aret rfl dX10_asNow_26 h
def FX10_asNow  (f : Mm) : Option Mm := FX10_asNow_0  f
theorem TX10_asNow {G : GT} {l : Launch} {Q : Option AV → Mem → Prop}  (f : Mm) (h : OkC 48 Q (FX10_asNow  f)) : Ret G l MX10_asNow (5) 0 0 [vR 0] (SH, RF, f) Q := by
  refine ret_of (L := [some (vR 0)]) (by decide) rfl (Nat.le_of_ble_eq_true rfl) ?_
  exact SX10_asNow_0  f h
theorem dX10_feels_0 : decode cX10_feels 0 = .ok (.iload_n 1, 1) := by decide +kernel
theorem dX10_feels_1 : decode cX10_feels 1 = .ok (.invokestatic 123, 3) := by decide +kernel
theorem dX10_feels_4 : decode cX10_feels 4 = .ok (.ifCond .eq 14, 3) := by decide +kernel
theorem dX10_feels_18 : decode cX10_feels 18 = .ok (.sipush (-1000), 3) := by decide +kernel
theorem dX10_feels_21 : decode cX10_feels 21 = .ok (.ireturn, 1) := by decide +kernel
theorem dX10_feels_7 : decode cX10_feels 7 = .ok (.aload_n 0, 1) := by decide +kernel
theorem dX10_feels_8 : decode cX10_feels 8 = .ok (.getfield 19, 3) := by decide +kernel
theorem dX10_feels_11 : decode cX10_feels 11 = .ok (.iload_n 2, 1) := by decide +kernel
theorem dX10_feels_12 : decode cX10_feels 12 = .ok (.invokevirtual 126, 3) := by decide +kernel
theorem dX10_feels_15 : decode cX10_feels 15 = .ok (.ifCond .ne 7, 3) := by decide +kernel
theorem dX10_feels_22 : decode cX10_feels 22 = .ok (.aload_n 0, 1) := by decide +kernel
theorem dX10_feels_23 : decode cX10_feels 23 = .ok (.invokevirtual 129, 3) := by decide +kernel
theorem dX10_feels_26 : decode cX10_feels 26 = .ok (.getfield 133, 3) := by decide +kernel
theorem dX10_feels_29 : decode cX10_feels 29 = .ok (.iload_n 1, 1) := by decide +kernel
theorem dX10_feels_30 : decode cX10_feels 30 = .ok (.aaload, 1) := by decide +kernel
theorem dX10_feels_31 : decode cX10_feels 31 = .ok (.iload_n 2, 1) := by decide +kernel
theorem dX10_feels_32 : decode cX10_feels 32 = .ok (.iaload, 1) := by decide +kernel
theorem dX10_feels_33 : decode cX10_feels 33 = .ok (.ireturn, 1) := by decide +kernel
def FX10_feels_0  (x1 : Int) (x2 : Int) (f : Mm) : Option (Int × Mm) := (b2 (FX10_isSide x1 f) fun y1 f1 => (if y1 = 0 then some ((-1000), f1) else (b2 (FX0_hasDay_4 x2 f1) fun y2 f2 => (if y2 = 0 then some ((-1000), f2) else ((FX10_asNow f2).bind fun f3 => (if 0 ≤ x1 ∧ x1 < 2 then (if 0 ≤ x2 ∧ x2 < 6 then some ((f3 (52 + x1.toNat) x2.toNat), f3) else none) else none))))))
set_option maxHeartbeats 4000000 in
set_option maxRecDepth 100000 in
theorem SX10_feels_0 {G : GT} {l : Launch} {Q : Option AV → Mem → Prop}  (x1 : Int) (x2 : Int) (f : Mm) (h : OkI Q (FX10_feels_0  x1 x2 f)) : Ev G l MX10_feels (Rm 6 0 0) (ZM G Q 0 0) 0 0 0 [some (vR 0), some (vI x1), some (vI x2)] [] (SH, RF, f) := by
  unfold FX10_feels_0 at h
  refine ev_iload_n (i := 1) dX10_feels_0 rfl rfl ?_
  refine ev_cSI (av := [vI x1]) (S := []) (fun q => q) h dX10_feels_1 (fun Q' q => TX10_isSide x1 _ q) ksX10_isSide ml_X10_123 rfl (RRc (by decide) (by decide)) (Nat.le_of_ble_eq_true rfl) ⟨Nat.le_of_ble_eq_true rfl, Nat.le_of_ble_eq_true rfl⟩ (fun y1 f1 h => ?_)
  refine ev_if_eq (tgt := 18) dX10_feels_4 (by decide) (fun c7 => ?_) (fun c7 => ?_)
  · rw [if_pos c7] at h
    refine ev_sipush (v := (-1000)) dX10_feels_18 (r32c rfl) (by decide) ?_
    exact ev_iret rfl dX10_feels_21 h
  · rw [if_neg c7] at h
    refine ev_aload_n (i := 0) dX10_feels_7 rfl rfl ?_
    refine ev_getR dX10_feels_8 fl_X10_19 sh_0 (by decide) (by decide) rf_0_1 ?_
    refine ev_iload_n (i := 2) dX10_feels_11 rfl rfl ?_
    refine ev_cVI (b := 4) (av := [vI x2]) (S := []) (fun q => q) h dX10_feels_12 (fun Q' q => TX0_hasDay_4 x2 _ q) kvX0_hasDay ml_X10_126 sh_4 rfl (RRc (by decide) (by decide)) (Nat.le_of_ble_eq_true rfl) ⟨Nat.le_of_ble_eq_true rfl, Nat.le_of_ble_eq_true rfl⟩ (fun y2 f2 h => ?_)
    refine ev_if_ne (tgt := 22) dX10_feels_15 (by decide) (fun c6 => ?_) (fun c6 => ?_)
    · rw [if_neg c6] at h
      refine ev_aload_n (i := 0) dX10_feels_22 rfl rfl ?_
      refine ev_cVC (b := 0) (av := []) (S := []) (fun q => q) h dX10_feels_23 (fun Q' q => TX10_asNow _ q) kvX10_asNow ml_X10_129 sh_0 rfl (RRc (by decide) (by decide)) (Nat.le_of_ble_eq_true rfl) ⟨Nat.le_of_ble_eq_true rfl, Nat.le_of_ble_eq_true rfl⟩ (fun f3 h => ?_)
      refine ev_getR dX10_feels_26 fl_X10_133 sh_48 (by decide) (by decide) rf_48_6 ?_
      refine ev_iload_n (i := 1) dX10_feels_29 rfl rfl ?_
      by_cases g4 : 0 ≤ x1 ∧ x1 < 2
      · rw [if_pos g4] at h
        refine ev_aald (b := (52 + x1.toNat)) dX10_feels_30 (Or.inl rfl) sh_51 g4.1 g4.2 (rfr_51 g4) ?_
        refine ev_iload_n (i := 2) dX10_feels_31 rfl rfl ?_
        by_cases g5 : 0 ≤ x2 ∧ x2 < 6
        · rw [if_pos g5] at h
          refine ex_iald (x := (f3 (52 + x1.toNat) x2.toNat)) dX10_feels_32 (shr_51 g4) g5.1 g5.2 rfl ?_
          exact ev_iret rfl dX10_feels_33 h
        · rw [if_neg g5] at h; exact h.elim
      · rw [if_neg g4] at h; exact h.elim
    · rw [if_pos c6] at h
      refine ev_sipush (v := (-1000)) dX10_feels_18 (r32c rfl) (by decide) ?_
      exact ev_iret rfl dX10_feels_21 h
def FX10_feels (x1 : Int) (x2 : Int) (f : Mm) : Option (Int × Mm) := FX10_feels_0 x1 x2 f
theorem TX10_feels {G : GT} {l : Launch} {Q : Option AV → Mem → Prop} (x1 : Int) (x2 : Int) (f : Mm) (h : OkI Q (FX10_feels x1 x2 f)) : Ret G l MX10_feels (6) 0 0 [vR 0, vI x1, vI x2] (SH, RF, f) Q := by
  refine ret_of (L := [some (vR 0), some (vI x1), some (vI x2)]) (by decide) rfl (Nat.le_of_ble_eq_true rfl) ?_
  exact SX10_feels_0 x1 x2 f h
theorem dX10_width_0 : decode cX10_width 0 = .ok (.aload_n 0, 1) := by decide +kernel
theorem dX10_width_1 : decode cX10_width 1 = .ok (.getfield 19, 3) := by decide +kernel
theorem dX10_width_4 : decode cX10_width 4 = .ok (.iload_n 1, 1) := by decide +kernel
theorem dX10_width_5 : decode cX10_width 5 = .ok (.invokevirtual 126, 3) := by decide +kernel
theorem dX10_width_8 : decode cX10_width 8 = .ok (.ifCond .eq 14, 3) := by decide +kernel
theorem dX10_width_22 : decode cX10_width 22 = .ok (.bipush (-2), 2) := by decide +kernel
theorem dX10_width_24 : decode cX10_width 24 = .ok (.ireturn, 1) := by decide +kernel
theorem dX10_width_11 : decode cX10_width 11 = .ok (.aload_n 0, 1) := by decide +kernel
theorem dX10_width_12 : decode cX10_width 12 = .ok (.invokevirtual 129, 3) := by decide +kernel
theorem dX10_width_15 : decode cX10_width 15 = .ok (.iload_n 1, 1) := by decide +kernel
theorem dX10_width_16 : decode cX10_width 16 = .ok (.invokevirtual 136, 3) := by decide +kernel
theorem dX10_width_19 : decode cX10_width 19 = .ok (.goto 5, 3) := by decide +kernel
def FX10_width_0  (x1 : Int) (f : Mm) : Option (Int × Mm) := (b2 (FX0_hasDay_4 x1 f) fun y1 f1 => (if y1 = 0 then some ((-2), f1) else ((FX10_asNow f1).bind fun f2 => (b2 (FX1_widthOn x1 f2) fun y3 f3 => some (y3, f3)))))
set_option maxHeartbeats 4000000 in
set_option maxRecDepth 100000 in
theorem SX10_width_0 {G : GT} {l : Launch} {Q : Option AV → Mem → Prop}  (x1 : Int) (f : Mm) (h : OkI Q (FX10_width_0  x1 f)) : Ev G l MX10_width (Rm 6 0 0) (ZM G Q 0 0) 0 0 0 [some (vR 0), some (vI x1)] [] (SH, RF, f) := by
  unfold FX10_width_0 at h
  refine ev_aload_n (i := 0) dX10_width_0 rfl rfl ?_
  refine ev_getR dX10_width_1 fl_X10_19 sh_0 (by decide) (by decide) rf_0_1 ?_
  refine ev_iload_n (i := 1) dX10_width_4 rfl rfl ?_
  refine ev_cVI (b := 4) (av := [vI x1]) (S := []) (fun q => q) h dX10_width_5 (fun Q' q => TX0_hasDay_4 x1 _ q) kvX0_hasDay ml_X10_126 sh_4 rfl (RRc (by decide) (by decide)) (Nat.le_of_ble_eq_true rfl) ⟨Nat.le_of_ble_eq_true rfl, Nat.le_of_ble_eq_true rfl⟩ (fun y1 f1 h => ?_)
  refine ev_if_eq (tgt := 22) dX10_width_8 (by decide) (fun c4 => ?_) (fun c4 => ?_)
  · rw [if_pos c4] at h
    refine ev_bipush (v := (-2)) dX10_width_22 (r32c rfl) (by decide) ?_
    exact ev_iret rfl dX10_width_24 h
  · rw [if_neg c4] at h
    refine ev_aload_n (i := 0) dX10_width_11 rfl rfl ?_
    refine ev_cVC (b := 0) (av := []) (S := []) (fun q => q) h dX10_width_12 (fun Q' q => TX10_asNow _ q) kvX10_asNow ml_X10_129 sh_0 rfl (RRc (by decide) (by decide)) (Nat.le_of_ble_eq_true rfl) ⟨Nat.le_of_ble_eq_true rfl, Nat.le_of_ble_eq_true rfl⟩ (fun f2 h => ?_)
    refine ev_iload_n (i := 1) dX10_width_15 rfl rfl ?_
    refine ev_cVI (b := 48) (av := [vI x1]) (S := []) (fun q => q) h dX10_width_16 (fun Q' q => TX1_widthOn x1 _ q) kvX1_widthOn ml_X10_136 sh_48 rfl (RRc (by decide) (by decide)) (Nat.le_of_ble_eq_true rfl) ⟨Nat.le_of_ble_eq_true rfl, Nat.le_of_ble_eq_true rfl⟩ (fun y3 f3 h => ?_)
    refine ev_goto (tgt := 24) dX10_width_19 (by decide) ?_
    exact ev_iret rfl dX10_width_24 h
def FX10_width (x1 : Int) (f : Mm) : Option (Int × Mm) := FX10_width_0 x1 f
theorem TX10_width {G : GT} {l : Launch} {Q : Option AV → Mem → Prop} (x1 : Int) (f : Mm) (h : OkI Q (FX10_width x1 f)) : Ret G l MX10_width (6) 0 0 [vR 0, vI x1] (SH, RF, f) Q := by
  refine ret_of (L := [some (vR 0), some (vI x1)]) (by decide) rfl (Nat.le_of_ble_eq_true rfl) ?_
  exact SX10_width_0 x1 f h
theorem dX0_stands_0 : decode cX0_stands 0 = .ok (.aload_n 0, 1) := by decide +kernel
theorem dX0_stands_1 : decode cX0_stands 1 = .ok (.getfield 32, 3) := by decide +kernel
theorem dX0_stands_4 : decode cX0_stands 4 = .ok (.ifCond .le 7, 3) := by decide +kernel
theorem dX0_stands_11 : decode cX0_stands 11 = .ok (.iconst 0, 1) := by decide +kernel
theorem dX0_stands_12 : decode cX0_stands 12 = .ok (.ireturn, 1) := by decide +kernel
theorem dX0_stands_7 : decode cX0_stands 7 = .ok (.iconst 1, 1) := by decide +kernel
theorem dX0_stands_8 : decode cX0_stands 8 = .ok (.goto 4, 3) := by decide +kernel
def FX0_stands_4_0   (f : Mm) : Option (Int × Mm) := (if (f 4 0) ≤ 0 then some (0, f) else some (1, f))
set_option maxHeartbeats 4000000 in
set_option maxRecDepth 100000 in
theorem SX0_stands_4_0 {G : GT} {l : Launch} {Q : Option AV → Mem → Prop}   (f : Mm) (h : OkI Q (FX0_stands_4_0   f)) : Ev G l MX0_stands (Rm 1 0 0) (ZM G Q 0 0) 0 0 0 [some (vR 4)] [] (SH, RF, f) := by
  unfold FX0_stands_4_0 at h
  refine ev_aload_n (i := 0) dX0_stands_0 rfl rfl ?_
  refine ex_getI (x := (f 4 0)) dX0_stands_1 fl_X0_32 sh_4 (by decide) (by decide) rfl ?_
  refine ev_if_le (tgt := 11) dX0_stands_4 (by decide) (fun c1 => ?_) (fun c1 => ?_)
  · rw [if_pos c1] at h
    refine ev_iconst dX0_stands_11 (r32c rfl) ?_
    exact ev_zret rfl (by decide) dX0_stands_12 h
  · rw [if_neg c1] at h
    refine ev_iconst dX0_stands_7 (r32c rfl) ?_
    refine ev_goto (tgt := 12) dX0_stands_8 (by decide) ?_
    exact ev_zret rfl (by decide) dX0_stands_12 h
def FX0_stands_4  (f : Mm) : Option (Int × Mm) := FX0_stands_4_0  f
theorem TX0_stands_4 {G : GT} {l : Launch} {Q : Option AV → Mem → Prop}  (f : Mm) (h : OkI Q (FX0_stands_4  f)) : Ret G l MX0_stands (1) 0 0 [vR 4] (SH, RF, f) Q := by
  refine ret_of (L := [some (vR 4)]) (by decide) rfl (Nat.le_of_ble_eq_true rfl) ?_
  exact SX0_stands_4_0  f h
theorem dX10_narrow_48 : decode cX10_narrow 48 = .ok (.iinc 3 1, 3) := by decide +kernel
theorem dX10_narrow_51 : decode cX10_narrow 51 = .ok (.goto (-29), 3) := by decide +kernel
theorem dX10_narrow_22 : decode cX10_narrow 22 = .ok (.iload_n 3, 1) := by decide +kernel
theorem dX10_narrow_23 : decode cX10_narrow 23 = .ok (.aload_n 0, 1) := by decide +kernel
theorem dX10_narrow_24 : decode cX10_narrow 24 = .ok (.getfield 19, 3) := by decide +kernel
theorem dX10_narrow_27 : decode cX10_narrow 27 = .ok (.getfield 144, 3) := by decide +kernel
theorem dX10_narrow_30 : decode cX10_narrow 30 = .ok (.if_icmp .ge 24, 3) := by decide +kernel
theorem dX10_narrow_54 : decode cX10_narrow 54 = .ok (.iload_n 2, 1) := by decide +kernel
theorem dX10_narrow_55 : decode cX10_narrow 55 = .ok (.ireturn, 1) := by decide +kernel
theorem dX10_narrow_33 : decode cX10_narrow 33 = .ok (.aload_n 1, 1) := by decide +kernel
theorem dX10_narrow_34 : decode cX10_narrow 34 = .ok (.iload_n 3, 1) := by decide +kernel
theorem dX10_narrow_35 : decode cX10_narrow 35 = .ok (.invokevirtual 136, 3) := by decide +kernel
theorem dX10_narrow_38 : decode cX10_narrow 38 = .ok (.aload_n 1, 1) := by decide +kernel
theorem dX10_narrow_39 : decode cX10_narrow 39 = .ok (.iload_n 2, 1) := by decide +kernel
theorem dX10_narrow_40 : decode cX10_narrow 40 = .ok (.invokevirtual 136, 3) := by decide +kernel
theorem dX10_narrow_43 : decode cX10_narrow 43 = .ok (.if_icmp .ge 5, 3) := by decide +kernel
theorem dX10_narrow_46 : decode cX10_narrow 46 = .ok (.iload_n 3, 1) := by decide +kernel
theorem dX10_narrow_47 : decode cX10_narrow 47 = .ok (.istore_n 2, 1) := by decide +kernel
theorem dX10_narrow_0 : decode cX10_narrow 0 = .ok (.aload_n 0, 1) := by decide +kernel
theorem dX10_narrow_1 : decode cX10_narrow 1 = .ok (.getfield 19, 3) := by decide +kernel
theorem dX10_narrow_4 : decode cX10_narrow 4 = .ok (.invokevirtual 140, 3) := by decide +kernel
theorem dX10_narrow_7 : decode cX10_narrow 7 = .ok (.ifCond .ne 6, 3) := by decide +kernel
theorem dX10_narrow_13 : decode cX10_narrow 13 = .ok (.aload_n 0, 1) := by decide +kernel
theorem dX10_narrow_14 : decode cX10_narrow 14 = .ok (.invokevirtual 129, 3) := by decide +kernel
theorem dX10_narrow_17 : decode cX10_narrow 17 = .ok (.astore_n 1, 1) := by decide +kernel
theorem dX10_narrow_18 : decode cX10_narrow 18 = .ok (.iconst 0, 1) := by decide +kernel
theorem dX10_narrow_19 : decode cX10_narrow 19 = .ok (.istore_n 2, 1) := by decide +kernel
theorem dX10_narrow_20 : decode cX10_narrow 20 = .ok (.iconst 1, 1) := by decide +kernel
theorem dX10_narrow_21 : decode cX10_narrow 21 = .ok (.istore_n 3, 1) := by decide +kernel
theorem dX10_narrow_10 : decode cX10_narrow 10 = .ok (.bipush (-2), 2) := by decide +kernel
theorem dX10_narrow_12 : decode cX10_narrow 12 = .ok (.ireturn, 1) := by decide +kernel
def FX10_narrow_48 (k22 : Int → Int → Mm → Option (Int × Mm)) (x2 : Int) (x3 : Int) (f : Mm) : Option (Int × Mm) := k22 x2 (w32 (x3 + 1)) f
set_option maxHeartbeats 4000000 in
set_option maxRecDepth 100000 in
theorem SX10_narrow_48 {G : GT} {l : Launch} {Q : Option AV → Mem → Prop} {k22 : Int → Int → Mm → Option (Int × Mm)} (q22 : ∀ (x2 : Int) (x3 : Int) (f : Mm), OkI Q (k22 x2 x3 f) → Ev G l MX10_narrow (Rm 6 0 0) (ZM G Q 0 0) 0 0 22 [some (vR 0), some (vR 48), some (vI x2), some (vI x3)] [] (SH, RF, f)) (x2 : Int) (x3 : Int) (f : Mm) (h : OkI Q (FX10_narrow_48 k22 x2 x3 f)) : Ev G l MX10_narrow (Rm 6 0 0) (ZM G Q 0 0) 0 0 48 [some (vR 0), some (vR 48), some (vI x2), some (vI x3)] [] (SH, RF, f) := by
  unfold FX10_narrow_48 at h
  refine ev_iinc (L' := [some (vR 0), some (vR 48), some (vI x2), some (vI (w32 (x3 + 1)))]) dX10_narrow_48 rfl (by decide) rfl ?_
  refine ev_goto (tgt := 22) dX10_narrow_51 (by decide) ?_
  exact q22 x2 (w32 (x3 + 1)) _ h
def FX10_narrow_22  : Nat → Int → Int → Mm → Option (Int × Mm)
  | 0, _, _, _ => none
  | n + 1, x2, x3, f => (if (f 4 1) ≤ x3 then some (x2, f) else (b2 (FX1_widthOn x3 f) fun y1 f1 => (b2 (FX1_widthOn x2 f1) fun y2 f2 => (if y2 ≤ y1 then FX10_narrow_48 (FX10_narrow_22 n) x2 x3 f2 else FX10_narrow_48 (FX10_narrow_22 n) x3 x3 f2))))
set_option maxHeartbeats 4000000 in
set_option maxRecDepth 100000 in
theorem SX10_narrow_22 {G : GT} {l : Launch} {Q : Option AV → Mem → Prop}  : ∀ (n : Nat) (x2 : Int) (x3 : Int) (f : Mm), OkI Q (FX10_narrow_22  n x2 x3 f) → Ev G l MX10_narrow (Rm 6 0 0) (ZM G Q 0 0) 0 0 22 [some (vR 0), some (vR 48), some (vI x2), some (vI x3)] [] (SH, RF, f) := by
  intro n
  induction n with
  | zero => intro x2 x3 f h; exact absurd h (by rw [FX10_narrow_22]; exact fun q => q)
  | succ n ih =>
    intro x2 x3 f h
    rw [FX10_narrow_22] at h
    refine ev_iload_n (i := 3) dX10_narrow_22 rfl rfl ?_
    refine ev_aload_n (i := 0) dX10_narrow_23 rfl rfl ?_
    refine ev_getR dX10_narrow_24 fl_X10_19 sh_0 (by decide) (by decide) rf_0_1 ?_
    refine ex_getI (x := (f 4 1)) dX10_narrow_27 fl_X10_144 sh_4 (by decide) (by decide) rfl ?_
    refine ev_icmp_ge (tgt := 54) dX10_narrow_30 (by decide) (fun c4 => ?_) (fun c4 => ?_)
    · rw [if_pos c4] at h
      refine ev_iload_n (i := 2) dX10_narrow_54 rfl rfl ?_
      exact ev_iret rfl dX10_narrow_55 h
    · rw [if_neg c4] at h
      refine ev_aload_n (i := 1) dX10_narrow_33 rfl rfl ?_
      refine ev_iload_n (i := 3) dX10_narrow_34 rfl rfl ?_
      refine ev_cVI (b := 48) (av := [vI x3]) (S := []) (fun q => q) h dX10_narrow_35 (fun Q' q => TX1_widthOn x3 _ q) kvX1_widthOn ml_X10_136 sh_48 rfl (RRc (by decide) (by decide)) (Nat.le_of_ble_eq_true rfl) ⟨Nat.le_of_ble_eq_true rfl, Nat.le_of_ble_eq_true rfl⟩ (fun y1 f1 h => ?_)
      refine ev_aload_n (i := 1) dX10_narrow_38 rfl rfl ?_
      refine ev_iload_n (i := 2) dX10_narrow_39 rfl rfl ?_
      refine ev_cVI (b := 48) (av := [vI x2]) (S := [vI y1]) (fun q => q) h dX10_narrow_40 (fun Q' q => TX1_widthOn x2 _ q) kvX1_widthOn ml_X10_136 sh_48 rfl (RRc (by decide) (by decide)) (Nat.le_of_ble_eq_true rfl) ⟨Nat.le_of_ble_eq_true rfl, Nat.le_of_ble_eq_true rfl⟩ (fun y2 f2 h => ?_)
      refine ev_icmp_ge (tgt := 48) dX10_narrow_43 (by decide) (fun c3 => ?_) (fun c3 => ?_)
      · rw [if_pos c3] at h
        exact SX10_narrow_48 ih x2 x3 _ h
      · rw [if_neg c3] at h
        refine ev_iload_n (i := 3) dX10_narrow_46 rfl rfl ?_
        refine ev_istore_n (i := 2) (L' := [some (vR 0), some (vR 48), some (vI x3), some (vI x3)]) dX10_narrow_47 rfl (by decide) rfl ?_
        exact SX10_narrow_48 ih x3 x3 _ h
def FX10_narrow_0   (f : Mm) : Option (Int × Mm) := (b2 (FX0_stands_4 f) fun y1 f1 => (if y1 = 0 then some ((-2), f1) else ((FX10_asNow f1).bind fun f2 => FX10_narrow_22 fu 0 1 f2)))
set_option maxHeartbeats 4000000 in
set_option maxRecDepth 100000 in
theorem SX10_narrow_0 {G : GT} {l : Launch} {Q : Option AV → Mem → Prop}   (f : Mm) (h : OkI Q (FX10_narrow_0   f)) : Ev G l MX10_narrow (Rm 6 0 0) (ZM G Q 0 0) 0 0 0 [some (vR 0), none, none, none] [] (SH, RF, f) := by
  unfold FX10_narrow_0 at h
  refine ev_aload_n (i := 0) dX10_narrow_0 rfl rfl ?_
  refine ev_getR dX10_narrow_1 fl_X10_19 sh_0 (by decide) (by decide) rf_0_1 ?_
  refine ev_cVI (b := 4) (av := []) (S := []) (fun q => q) h dX10_narrow_4 (fun Q' q => TX0_stands_4 _ q) kvX0_stands ml_X10_140 sh_4 rfl (RRc (by decide) (by decide)) (Nat.le_of_ble_eq_true rfl) ⟨Nat.le_of_ble_eq_true rfl, Nat.le_of_ble_eq_true rfl⟩ (fun y1 f1 h => ?_)
  refine ev_if_ne (tgt := 13) dX10_narrow_7 (by decide) (fun c3 => ?_) (fun c3 => ?_)
  · rw [if_neg c3] at h
    refine ev_aload_n (i := 0) dX10_narrow_13 rfl rfl ?_
    refine ev_cVC (b := 0) (av := []) (S := []) (fun q => q) h dX10_narrow_14 (fun Q' q => TX10_asNow _ q) kvX10_asNow ml_X10_129 sh_0 rfl (RRc (by decide) (by decide)) (Nat.le_of_ble_eq_true rfl) ⟨Nat.le_of_ble_eq_true rfl, Nat.le_of_ble_eq_true rfl⟩ (fun f2 h => ?_)
    refine ev_astore_n (i := 1) (L' := [some (vR 0), some (vR 48), none, none]) dX10_narrow_17 rfl (by decide) rfl ?_
    refine ev_iconst dX10_narrow_18 (r32c rfl) ?_
    refine ev_istore_n (i := 2) (L' := [some (vR 0), some (vR 48), some (vI 0), none]) dX10_narrow_19 rfl (by decide) rfl ?_
    refine ev_iconst dX10_narrow_20 (r32c rfl) ?_
    refine ev_istore_n (i := 3) (L' := [some (vR 0), some (vR 48), some (vI 0), some (vI 1)]) dX10_narrow_21 rfl (by decide) rfl ?_
    exact SX10_narrow_22  fu 0 1 _ h
  · rw [if_pos c3] at h
    refine ev_bipush (v := (-2)) dX10_narrow_10 (r32c rfl) (by decide) ?_
    exact ev_iret rfl dX10_narrow_12 h
def FX10_narrow  (f : Mm) : Option (Int × Mm) := FX10_narrow_0  f
theorem TX10_narrow {G : GT} {l : Launch} {Q : Option AV → Mem → Prop}  (f : Mm) (h : OkI Q (FX10_narrow  f)) : Ret G l MX10_narrow (6) 0 0 [vR 0] (SH, RF, f) Q := by
  refine ret_of (L := [some (vR 0), none, none, none]) (by decide) rfl (Nat.le_of_ble_eq_true rfl) ?_
  exact SX10_narrow_0  f h
theorem dX10_shut_47 : decode cX10_shut 47 = .ok (.iinc 3 1, 3) := by decide +kernel
theorem dX10_shut_50 : decode cX10_shut 50 = .ok (.goto (-28), 3) := by decide +kernel
theorem dX10_shut_22 : decode cX10_shut 22 = .ok (.iload_n 3, 1) := by decide +kernel
theorem dX10_shut_23 : decode cX10_shut 23 = .ok (.aload_n 0, 1) := by decide +kernel
theorem dX10_shut_24 : decode cX10_shut 24 = .ok (.getfield 19, 3) := by decide +kernel
theorem dX10_shut_27 : decode cX10_shut 27 = .ok (.getfield 144, 3) := by decide +kernel
theorem dX10_shut_30 : decode cX10_shut 30 = .ok (.if_icmp .ge 23, 3) := by decide +kernel
theorem dX10_shut_53 : decode cX10_shut 53 = .ok (.iload_n 2, 1) := by decide +kernel
theorem dX10_shut_54 : decode cX10_shut 54 = .ok (.ireturn, 1) := by decide +kernel
theorem dX10_shut_33 : decode cX10_shut 33 = .ok (.aload_n 1, 1) := by decide +kernel
theorem dX10_shut_34 : decode cX10_shut 34 = .ok (.iload_n 3, 1) := by decide +kernel
theorem dX10_shut_35 : decode cX10_shut 35 = .ok (.invokevirtual 136, 3) := by decide +kernel
theorem dX10_shut_38 : decode cX10_shut 38 = .ok (.ifCond .ne 9, 3) := by decide +kernel
theorem dX10_shut_41 : decode cX10_shut 41 = .ok (.iload_n 2, 1) := by decide +kernel
theorem dX10_shut_42 : decode cX10_shut 42 = .ok (.iconst 1, 1) := by decide +kernel
theorem dX10_shut_43 : decode cX10_shut 43 = .ok (.iload_n 3, 1) := by decide +kernel
theorem dX10_shut_44 : decode cX10_shut 44 = .ok (.ishl, 1) := by decide +kernel
theorem dX10_shut_45 : decode cX10_shut 45 = .ok (.ior, 1) := by decide +kernel
theorem dX10_shut_46 : decode cX10_shut 46 = .ok (.istore_n 2, 1) := by decide +kernel
theorem dX10_shut_0 : decode cX10_shut 0 = .ok (.aload_n 0, 1) := by decide +kernel
theorem dX10_shut_1 : decode cX10_shut 1 = .ok (.getfield 19, 3) := by decide +kernel
theorem dX10_shut_4 : decode cX10_shut 4 = .ok (.invokevirtual 140, 3) := by decide +kernel
theorem dX10_shut_7 : decode cX10_shut 7 = .ok (.ifCond .ne 6, 3) := by decide +kernel
theorem dX10_shut_13 : decode cX10_shut 13 = .ok (.aload_n 0, 1) := by decide +kernel
theorem dX10_shut_14 : decode cX10_shut 14 = .ok (.invokevirtual 129, 3) := by decide +kernel
theorem dX10_shut_17 : decode cX10_shut 17 = .ok (.astore_n 1, 1) := by decide +kernel
theorem dX10_shut_18 : decode cX10_shut 18 = .ok (.iconst 0, 1) := by decide +kernel
theorem dX10_shut_19 : decode cX10_shut 19 = .ok (.istore_n 2, 1) := by decide +kernel
theorem dX10_shut_20 : decode cX10_shut 20 = .ok (.iconst 0, 1) := by decide +kernel
theorem dX10_shut_21 : decode cX10_shut 21 = .ok (.istore_n 3, 1) := by decide +kernel
theorem dX10_shut_10 : decode cX10_shut 10 = .ok (.bipush (-2), 2) := by decide +kernel
theorem dX10_shut_12 : decode cX10_shut 12 = .ok (.ireturn, 1) := by decide +kernel
def FX10_shut_47 (k22 : Int → Int → Mm → Option (Int × Mm)) (x2 : Int) (x3 : Int) (f : Mm) : Option (Int × Mm) := k22 x2 (w32 (x3 + 1)) f
set_option maxHeartbeats 4000000 in
set_option maxRecDepth 100000 in
theorem SX10_shut_47 {G : GT} {l : Launch} {Q : Option AV → Mem → Prop} {k22 : Int → Int → Mm → Option (Int × Mm)} (q22 : ∀ (x2 : Int) (x3 : Int) (f : Mm), OkI Q (k22 x2 x3 f) → Ev G l MX10_shut (Rm 6 0 0) (ZM G Q 0 0) 0 0 22 [some (vR 0), some (vR 48), some (vI x2), some (vI x3)] [] (SH, RF, f)) (x2 : Int) (x3 : Int) (f : Mm) (h : OkI Q (FX10_shut_47 k22 x2 x3 f)) : Ev G l MX10_shut (Rm 6 0 0) (ZM G Q 0 0) 0 0 47 [some (vR 0), some (vR 48), some (vI x2), some (vI x3)] [] (SH, RF, f) := by
  unfold FX10_shut_47 at h
  refine ev_iinc (L' := [some (vR 0), some (vR 48), some (vI x2), some (vI (w32 (x3 + 1)))]) dX10_shut_47 rfl (by decide) rfl ?_
  refine ev_goto (tgt := 22) dX10_shut_50 (by decide) ?_
  exact q22 x2 (w32 (x3 + 1)) _ h
def FX10_shut_22  : Nat → Int → Int → Mm → Option (Int × Mm)
  | 0, _, _, _ => none
  | n + 1, x2, x3, f => (if (f 4 1) ≤ x3 then some (x2, f) else (b2 (FX1_widthOn x3 f) fun y1 f1 => (if y1 = 0 then FX10_shut_47 (FX10_shut_22 n) (bOr x2 (bShl 1 x3)) x3 f1 else FX10_shut_47 (FX10_shut_22 n) x2 x3 f1)))
set_option maxHeartbeats 4000000 in
set_option maxRecDepth 100000 in
theorem SX10_shut_22 {G : GT} {l : Launch} {Q : Option AV → Mem → Prop}  : ∀ (n : Nat) (x2 : Int) (x3 : Int) (f : Mm), OkI Q (FX10_shut_22  n x2 x3 f) → Ev G l MX10_shut (Rm 6 0 0) (ZM G Q 0 0) 0 0 22 [some (vR 0), some (vR 48), some (vI x2), some (vI x3)] [] (SH, RF, f) := by
  intro n
  induction n with
  | zero => intro x2 x3 f h; exact absurd h (by rw [FX10_shut_22]; exact fun q => q)
  | succ n ih =>
    intro x2 x3 f h
    rw [FX10_shut_22] at h
    refine ev_iload_n (i := 3) dX10_shut_22 rfl rfl ?_
    refine ev_aload_n (i := 0) dX10_shut_23 rfl rfl ?_
    refine ev_getR dX10_shut_24 fl_X10_19 sh_0 (by decide) (by decide) rf_0_1 ?_
    refine ex_getI (x := (f 4 1)) dX10_shut_27 fl_X10_144 sh_4 (by decide) (by decide) rfl ?_
    refine ev_icmp_ge (tgt := 53) dX10_shut_30 (by decide) (fun c3 => ?_) (fun c3 => ?_)
    · rw [if_pos c3] at h
      refine ev_iload_n (i := 2) dX10_shut_53 rfl rfl ?_
      exact ev_iret rfl dX10_shut_54 h
    · rw [if_neg c3] at h
      refine ev_aload_n (i := 1) dX10_shut_33 rfl rfl ?_
      refine ev_iload_n (i := 3) dX10_shut_34 rfl rfl ?_
      refine ev_cVI (b := 48) (av := [vI x3]) (S := []) (fun q => q) h dX10_shut_35 (fun Q' q => TX1_widthOn x3 _ q) kvX1_widthOn ml_X10_136 sh_48 rfl (RRc (by decide) (by decide)) (Nat.le_of_ble_eq_true rfl) ⟨Nat.le_of_ble_eq_true rfl, Nat.le_of_ble_eq_true rfl⟩ (fun y1 f1 h => ?_)
      refine ev_if_ne (tgt := 47) dX10_shut_38 (by decide) (fun c2 => ?_) (fun c2 => ?_)
      · rw [if_neg c2] at h
        exact SX10_shut_47 ih x2 x3 _ h
      · rw [if_pos c2] at h
        refine ev_iload_n (i := 2) dX10_shut_41 rfl rfl ?_
        refine ev_iconst dX10_shut_42 (r32c rfl) ?_
        refine ev_iload_n (i := 3) dX10_shut_43 rfl rfl ?_
        refine ev_ishl dX10_shut_44 ?_
        refine ev_ior dX10_shut_45 ?_
        refine ev_istore_n (i := 2) (L' := [some (vR 0), some (vR 48), some (vI (bOr x2 (bShl 1 x3))), some (vI x3)]) dX10_shut_46 rfl (by decide) rfl ?_
        exact SX10_shut_47 ih (bOr x2 (bShl 1 x3)) x3 _ h
def FX10_shut_0   (f : Mm) : Option (Int × Mm) := (b2 (FX0_stands_4 f) fun y1 f1 => (if y1 = 0 then some ((-2), f1) else ((FX10_asNow f1).bind fun f2 => FX10_shut_22 fu 0 0 f2)))
set_option maxHeartbeats 4000000 in
set_option maxRecDepth 100000 in
theorem SX10_shut_0 {G : GT} {l : Launch} {Q : Option AV → Mem → Prop}   (f : Mm) (h : OkI Q (FX10_shut_0   f)) : Ev G l MX10_shut (Rm 6 0 0) (ZM G Q 0 0) 0 0 0 [some (vR 0), none, none, none] [] (SH, RF, f) := by
  unfold FX10_shut_0 at h
  refine ev_aload_n (i := 0) dX10_shut_0 rfl rfl ?_
  refine ev_getR dX10_shut_1 fl_X10_19 sh_0 (by decide) (by decide) rf_0_1 ?_
  refine ev_cVI (b := 4) (av := []) (S := []) (fun q => q) h dX10_shut_4 (fun Q' q => TX0_stands_4 _ q) kvX0_stands ml_X10_140 sh_4 rfl (RRc (by decide) (by decide)) (Nat.le_of_ble_eq_true rfl) ⟨Nat.le_of_ble_eq_true rfl, Nat.le_of_ble_eq_true rfl⟩ (fun y1 f1 h => ?_)
  refine ev_if_ne (tgt := 13) dX10_shut_7 (by decide) (fun c3 => ?_) (fun c3 => ?_)
  · rw [if_neg c3] at h
    refine ev_aload_n (i := 0) dX10_shut_13 rfl rfl ?_
    refine ev_cVC (b := 0) (av := []) (S := []) (fun q => q) h dX10_shut_14 (fun Q' q => TX10_asNow _ q) kvX10_asNow ml_X10_129 sh_0 rfl (RRc (by decide) (by decide)) (Nat.le_of_ble_eq_true rfl) ⟨Nat.le_of_ble_eq_true rfl, Nat.le_of_ble_eq_true rfl⟩ (fun f2 h => ?_)
    refine ev_astore_n (i := 1) (L' := [some (vR 0), some (vR 48), none, none]) dX10_shut_17 rfl (by decide) rfl ?_
    refine ev_iconst dX10_shut_18 (r32c rfl) ?_
    refine ev_istore_n (i := 2) (L' := [some (vR 0), some (vR 48), some (vI 0), none]) dX10_shut_19 rfl (by decide) rfl ?_
    refine ev_iconst dX10_shut_20 (r32c rfl) ?_
    refine ev_istore_n (i := 3) (L' := [some (vR 0), some (vR 48), some (vI 0), some (vI 0)]) dX10_shut_21 rfl (by decide) rfl ?_
    exact SX10_shut_22  fu 0 0 _ h
  · rw [if_pos c3] at h
    refine ev_bipush (v := (-2)) dX10_shut_10 (r32c rfl) (by decide) ?_
    exact ev_iret rfl dX10_shut_12 h
def FX10_shut  (f : Mm) : Option (Int × Mm) := FX10_shut_0  f
theorem TX10_shut {G : GT} {l : Launch} {Q : Option AV → Mem → Prop}  (f : Mm) (h : OkI Q (FX10_shut  f)) : Ret G l MX10_shut (6) 0 0 [vR 0] (SH, RF, f) Q := by
  refine ret_of (L := [some (vR 0), none, none, none]) (by decide) rfl (Nat.le_of_ble_eq_true rfl) ?_
  exact SX10_shut_0  f h
theorem dX1_dayOf_2 : decode cX1_dayOf 2 = .ok (.iload_n 3, 1) := by decide +kernel
theorem dX1_dayOf_3 : decode cX1_dayOf 3 = .ok (.aload_n 1, 1) := by decide +kernel
theorem dX1_dayOf_4 : decode cX1_dayOf 4 = .ok (.getfield 51, 3) := by decide +kernel
theorem dX1_dayOf_7 : decode cX1_dayOf 7 = .ok (.if_icmp .ge 26, 3) := by decide +kernel
theorem dX1_dayOf_33 : decode cX1_dayOf 33 = .ok (.iconst (-1), 1) := by decide +kernel
theorem dX1_dayOf_34 : decode cX1_dayOf 34 = .ok (.ireturn, 1) := by decide +kernel
theorem dX1_dayOf_10 : decode cX1_dayOf 10 = .ok (.aload_n 0, 1) := by decide +kernel
theorem dX1_dayOf_11 : decode cX1_dayOf 11 = .ok (.getfield 26, 3) := by decide +kernel
theorem dX1_dayOf_14 : decode cX1_dayOf 14 = .ok (.iload_n 3, 1) := by decide +kernel
theorem dX1_dayOf_15 : decode cX1_dayOf 15 = .ok (.iconst 1, 1) := by decide +kernel
theorem dX1_dayOf_16 : decode cX1_dayOf 16 = .ok (.iadd, 1) := by decide +kernel
theorem dX1_dayOf_17 : decode cX1_dayOf 17 = .ok (.iaload, 1) := by decide +kernel
theorem dX1_dayOf_18 : decode cX1_dayOf 18 = .ok (.iload_n 2, 1) := by decide +kernel
theorem dX1_dayOf_19 : decode cX1_dayOf 19 = .ok (.invokestatic 74, 3) := by decide +kernel
theorem dX1_dayOf_22 : decode cX1_dayOf 22 = .ok (.ifCond .eq 5, 3) := by decide +kernel
theorem dX1_dayOf_27 : decode cX1_dayOf 27 = .ok (.iinc 3 1, 3) := by decide +kernel
theorem dX1_dayOf_30 : decode cX1_dayOf 30 = .ok (.goto (-28), 3) := by decide +kernel
theorem dX1_dayOf_25 : decode cX1_dayOf 25 = .ok (.iload_n 3, 1) := by decide +kernel
theorem dX1_dayOf_26 : decode cX1_dayOf 26 = .ok (.ireturn, 1) := by decide +kernel
theorem dX1_dayOf_0 : decode cX1_dayOf 0 = .ok (.iconst 0, 1) := by decide +kernel
theorem dX1_dayOf_1 : decode cX1_dayOf 1 = .ok (.istore_n 3, 1) := by decide +kernel
def FX1_dayOf_48_4_2  : Nat → Int → Int → Mm → Option (Int × Mm)
  | 0, _, _, _ => none
  | n + 1, x2, x3, f => (if (f 4 1) ≤ x3 then some ((-1), f) else (if 0 ≤ (w32 (x3 + 1)) ∧ (w32 (x3 + 1)) < 7 then (b2 (FX10_holds (f 55 (w32 (x3 + 1)).toNat) x2 f) fun y2 f2 => (if y2 = 0 then FX1_dayOf_48_4_2 n x2 (w32 (x3 + 1)) f2 else some (x3, f2))) else none))
set_option maxHeartbeats 4000000 in
set_option maxRecDepth 100000 in
theorem SX1_dayOf_48_4_2 {G : GT} {l : Launch} {Q : Option AV → Mem → Prop}  : ∀ (n : Nat) (x2 : Int) (x3 : Int) (f : Mm), OkI Q (FX1_dayOf_48_4_2  n x2 x3 f) → Ev G l MX1_dayOf (Rm 2 0 0) (ZM G Q 0 0) 0 0 2 [some (vR 48), some (vR 4), some (vI x2), some (vI x3)] [] (SH, RF, f) := by
  intro n
  induction n with
  | zero => intro x2 x3 f h; exact absurd h (by rw [FX1_dayOf_48_4_2]; exact fun q => q)
  | succ n ih =>
    intro x2 x3 f h
    rw [FX1_dayOf_48_4_2] at h
    refine ev_iload_n (i := 3) dX1_dayOf_2 rfl rfl ?_
    refine ev_aload_n (i := 1) dX1_dayOf_3 rfl rfl ?_
    refine ex_getI (x := (f 4 1)) dX1_dayOf_4 fl_X1_51 sh_4 (by decide) (by decide) rfl ?_
    refine ev_icmp_ge (tgt := 33) dX1_dayOf_7 (by decide) (fun c4 => ?_) (fun c4 => ?_)
    · rw [if_pos c4] at h
      refine ev_iconst dX1_dayOf_33 (r32c rfl) ?_
      exact ev_iret rfl dX1_dayOf_34 h
    · rw [if_neg c4] at h
      refine ev_aload_n (i := 0) dX1_dayOf_10 rfl rfl ?_
      refine ev_getR dX1_dayOf_11 fl_X1_26 sh_48 (by decide) (by decide) rf_48_8 ?_
      refine ev_iload_n (i := 3) dX1_dayOf_14 rfl rfl ?_
      refine ev_iconst dX1_dayOf_15 (r32c rfl) ?_
      refine ev_iadd dX1_dayOf_16 ?_
      by_cases g1 : 0 ≤ (w32 (x3 + 1)) ∧ (w32 (x3 + 1)) < 7
      · rw [if_pos g1] at h
        refine ex_iald (x := (f 55 (w32 (x3 + 1)).toNat)) dX1_dayOf_17 sh_55 g1.1 g1.2 rfl ?_
        refine ev_iload_n (i := 2) dX1_dayOf_18 rfl rfl ?_
        refine ev_cNI (av := [vI (f 55 (w32 (x3 + 1)).toNat), vI x2]) (S := []) (fun q => q) h dX1_dayOf_19 (fun Q' q => TX10_holds (f 55 (w32 (x3 + 1)).toNat) x2 _ q) ksX10_holds nw_X1_74 rfl (RRc (by decide) (by decide)) (Nat.le_of_ble_eq_true rfl) ⟨Nat.le_of_ble_eq_true rfl, Nat.le_of_ble_eq_true rfl⟩ (fun y2 f2 h => ?_)
        refine ev_if_eq (tgt := 27) dX1_dayOf_22 (by decide) (fun c3 => ?_) (fun c3 => ?_)
        · rw [if_pos c3] at h
          refine ev_iinc (L' := [some (vR 48), some (vR 4), some (vI x2), some (vI (w32 (x3 + 1)))]) dX1_dayOf_27 rfl (by decide) rfl ?_
          refine ev_goto (tgt := 2) dX1_dayOf_30 (by decide) ?_
          exact ih x2 (w32 (x3 + 1)) _ h
        · rw [if_neg c3] at h
          refine ev_iload_n (i := 3) dX1_dayOf_25 rfl rfl ?_
          exact ev_iret rfl dX1_dayOf_26 h
      · rw [if_neg g1] at h; exact h.elim
def FX1_dayOf_48_4_0  (x2 : Int) (f : Mm) : Option (Int × Mm) := FX1_dayOf_48_4_2 fu x2 0 f
set_option maxHeartbeats 4000000 in
set_option maxRecDepth 100000 in
theorem SX1_dayOf_48_4_0 {G : GT} {l : Launch} {Q : Option AV → Mem → Prop}  (x2 : Int) (f : Mm) (h : OkI Q (FX1_dayOf_48_4_0  x2 f)) : Ev G l MX1_dayOf (Rm 2 0 0) (ZM G Q 0 0) 0 0 0 [some (vR 48), some (vR 4), some (vI x2), none] [] (SH, RF, f) := by
  unfold FX1_dayOf_48_4_0 at h
  refine ev_iconst dX1_dayOf_0 (r32c rfl) ?_
  refine ev_istore_n (i := 3) (L' := [some (vR 48), some (vR 4), some (vI x2), some (vI 0)]) dX1_dayOf_1 rfl (by decide) rfl ?_
  exact SX1_dayOf_48_4_2  fu x2 0 _ h
def FX1_dayOf_48_4 (x2 : Int) (f : Mm) : Option (Int × Mm) := FX1_dayOf_48_4_0 x2 f
theorem TX1_dayOf_48_4 {G : GT} {l : Launch} {Q : Option AV → Mem → Prop} (x2 : Int) (f : Mm) (h : OkI Q (FX1_dayOf_48_4 x2 f)) : Ret G l MX1_dayOf (2) 0 0 [vR 48, vR 4, vI x2] (SH, RF, f) Q := by
  refine ret_of (L := [some (vR 48), some (vR 4), some (vI x2), none]) (by decide) rfl (Nat.le_of_ble_eq_true rfl) ?_
  exact SX1_dayOf_48_4_0 x2 f h
theorem dX10_passes_0 : decode cX10_passes 0 = .ok (.aload_n 0, 1) := by decide +kernel
theorem dX10_passes_1 : decode cX10_passes 1 = .ok (.getfield 19, 3) := by decide +kernel
theorem dX10_passes_4 : decode cX10_passes 4 = .ok (.iload_n 1, 1) := by decide +kernel
theorem dX10_passes_5 : decode cX10_passes 5 = .ok (.invokevirtual 117, 3) := by decide +kernel
theorem dX10_passes_8 : decode cX10_passes 8 = .ok (.ifCond .eq 18, 3) := by decide +kernel
theorem dX10_passes_26 : decode cX10_passes 26 = .ok (.bipush (-2), 2) := by decide +kernel
theorem dX10_passes_28 : decode cX10_passes 28 = .ok (.ireturn, 1) := by decide +kernel
theorem dX10_passes_11 : decode cX10_passes 11 = .ok (.aload_n 0, 1) := by decide +kernel
theorem dX10_passes_12 : decode cX10_passes 12 = .ok (.invokevirtual 129, 3) := by decide +kernel
theorem dX10_passes_15 : decode cX10_passes 15 = .ok (.aload_n 0, 1) := by decide +kernel
theorem dX10_passes_16 : decode cX10_passes 16 = .ok (.getfield 19, 3) := by decide +kernel
theorem dX10_passes_19 : decode cX10_passes 19 = .ok (.iload_n 1, 1) := by decide +kernel
theorem dX10_passes_20 : decode cX10_passes 20 = .ok (.invokevirtual 147, 3) := by decide +kernel
theorem dX10_passes_23 : decode cX10_passes 23 = .ok (.goto 5, 3) := by decide +kernel
def FX10_passes_0  (x1 : Int) (f : Mm) : Option (Int × Mm) := (b2 (FX0_hasCart_4 x1 f) fun y1 f1 => (if y1 = 0 then some ((-2), f1) else ((FX10_asNow f1).bind fun f2 => (b2 (FX1_dayOf_48_4 x1 f2) fun y3 f3 => some (y3, f3)))))
set_option maxHeartbeats 4000000 in
set_option maxRecDepth 100000 in
theorem SX10_passes_0 {G : GT} {l : Launch} {Q : Option AV → Mem → Prop}  (x1 : Int) (f : Mm) (h : OkI Q (FX10_passes_0  x1 f)) : Ev G l MX10_passes (Rm 6 0 0) (ZM G Q 0 0) 0 0 0 [some (vR 0), some (vI x1)] [] (SH, RF, f) := by
  unfold FX10_passes_0 at h
  refine ev_aload_n (i := 0) dX10_passes_0 rfl rfl ?_
  refine ev_getR dX10_passes_1 fl_X10_19 sh_0 (by decide) (by decide) rf_0_1 ?_
  refine ev_iload_n (i := 1) dX10_passes_4 rfl rfl ?_
  refine ev_cVI (b := 4) (av := [vI x1]) (S := []) (fun q => q) h dX10_passes_5 (fun Q' q => TX0_hasCart_4 x1 _ q) kvX0_hasCart ml_X10_117 sh_4 rfl (RRc (by decide) (by decide)) (Nat.le_of_ble_eq_true rfl) ⟨Nat.le_of_ble_eq_true rfl, Nat.le_of_ble_eq_true rfl⟩ (fun y1 f1 h => ?_)
  refine ev_if_eq (tgt := 26) dX10_passes_8 (by decide) (fun c4 => ?_) (fun c4 => ?_)
  · rw [if_pos c4] at h
    refine ev_bipush (v := (-2)) dX10_passes_26 (r32c rfl) (by decide) ?_
    exact ev_iret rfl dX10_passes_28 h
  · rw [if_neg c4] at h
    refine ev_aload_n (i := 0) dX10_passes_11 rfl rfl ?_
    refine ev_cVC (b := 0) (av := []) (S := []) (fun q => q) h dX10_passes_12 (fun Q' q => TX10_asNow _ q) kvX10_asNow ml_X10_129 sh_0 rfl (RRc (by decide) (by decide)) (Nat.le_of_ble_eq_true rfl) ⟨Nat.le_of_ble_eq_true rfl, Nat.le_of_ble_eq_true rfl⟩ (fun f2 h => ?_)
    refine ev_aload_n (i := 0) dX10_passes_15 rfl rfl ?_
    refine ev_getR dX10_passes_16 fl_X10_19 sh_0 (by decide) (by decide) rf_0_1 ?_
    refine ev_iload_n (i := 1) dX10_passes_19 rfl rfl ?_
    refine ev_cVI (b := 48) (av := [vR 4, vI x1]) (S := []) (fun q => q) h dX10_passes_20 (fun Q' q => TX1_dayOf_48_4 x1 _ q) kvX1_dayOf ml_X10_147 sh_48 rfl (RRc (by decide) (by decide)) (Nat.le_of_ble_eq_true rfl) ⟨Nat.le_of_ble_eq_true rfl, Nat.le_of_ble_eq_true rfl⟩ (fun y3 f3 h => ?_)
    refine ev_goto (tgt := 28) dX10_passes_23 (by decide) ?_
    exact ev_iret rfl dX10_passes_28 h
def FX10_passes (x1 : Int) (f : Mm) : Option (Int × Mm) := FX10_passes_0 x1 f
theorem TX10_passes {G : GT} {l : Launch} {Q : Option AV → Mem → Prop} (x1 : Int) (f : Mm) (h : OkI Q (FX10_passes x1 f)) : Ret G l MX10_passes (6) 0 0 [vR 0, vI x1] (SH, RF, f) Q := by
  refine ret_of (L := [some (vR 0), some (vI x1)]) (by decide) rfl (Nat.le_of_ble_eq_true rfl) ?_
  exact SX10_passes_0 x1 f h
theorem dX1_passedOn_0 : decode cX1_passedOn 0 = .ok (.aload_n 0, 1) := by decide +kernel
theorem dX1_passedOn_1 : decode cX1_passedOn 1 = .ok (.getfield 26, 3) := by decide +kernel
theorem dX1_passedOn_4 : decode cX1_passedOn 4 = .ok (.iload_n 1, 1) := by decide +kernel
theorem dX1_passedOn_5 : decode cX1_passedOn 5 = .ok (.iconst 1, 1) := by decide +kernel
theorem dX1_passedOn_6 : decode cX1_passedOn 6 = .ok (.iadd, 1) := by decide +kernel
theorem dX1_passedOn_7 : decode cX1_passedOn 7 = .ok (.iaload, 1) := by decide +kernel
theorem dX1_passedOn_8 : decode cX1_passedOn 8 = .ok (.aload_n 0, 1) := by decide +kernel
theorem dX1_passedOn_9 : decode cX1_passedOn 9 = .ok (.getfield 26, 3) := by decide +kernel
theorem dX1_passedOn_12 : decode cX1_passedOn 12 = .ok (.iload_n 1, 1) := by decide +kernel
theorem dX1_passedOn_13 : decode cX1_passedOn 13 = .ok (.iaload, 1) := by decide +kernel
theorem dX1_passedOn_14 : decode cX1_passedOn 14 = .ok (.iconst (-1), 1) := by decide +kernel
theorem dX1_passedOn_15 : decode cX1_passedOn 15 = .ok (.ixor, 1) := by decide +kernel
theorem dX1_passedOn_16 : decode cX1_passedOn 16 = .ok (.iand, 1) := by decide +kernel
theorem dX1_passedOn_17 : decode cX1_passedOn 17 = .ok (.ireturn, 1) := by decide +kernel
def FX1_passedOn_0  (x1 : Int) (f : Mm) : Option (Int × Mm) := (if 0 ≤ (w32 (x1 + 1)) ∧ (w32 (x1 + 1)) < 7 then (if 0 ≤ x1 ∧ x1 < 7 then some ((bAnd (f 55 (w32 (x1 + 1)).toNat) (bXor (f 55 x1.toNat) (-1))), f) else none) else none)
set_option maxHeartbeats 4000000 in
set_option maxRecDepth 100000 in
theorem SX1_passedOn_0 {G : GT} {l : Launch} {Q : Option AV → Mem → Prop}  (x1 : Int) (f : Mm) (h : OkI Q (FX1_passedOn_0  x1 f)) : Ev G l MX1_passedOn (Rm 1 0 0) (ZM G Q 0 0) 0 0 0 [some (vR 48), some (vI x1)] [] (SH, RF, f) := by
  unfold FX1_passedOn_0 at h
  refine ev_aload_n (i := 0) dX1_passedOn_0 rfl rfl ?_
  refine ev_getR dX1_passedOn_1 fl_X1_26 sh_48 (by decide) (by decide) rf_48_8 ?_
  refine ev_iload_n (i := 1) dX1_passedOn_4 rfl rfl ?_
  refine ev_iconst dX1_passedOn_5 (r32c rfl) ?_
  refine ev_iadd dX1_passedOn_6 ?_
  by_cases g1 : 0 ≤ (w32 (x1 + 1)) ∧ (w32 (x1 + 1)) < 7
  · rw [if_pos g1] at h
    refine ex_iald (x := (f 55 (w32 (x1 + 1)).toNat)) dX1_passedOn_7 sh_55 g1.1 g1.2 rfl ?_
    refine ev_aload_n (i := 0) dX1_passedOn_8 rfl rfl ?_
    refine ev_getR dX1_passedOn_9 fl_X1_26 sh_48 (by decide) (by decide) rf_48_8 ?_
    refine ev_iload_n (i := 1) dX1_passedOn_12 rfl rfl ?_
    by_cases g2 : 0 ≤ x1 ∧ x1 < 7
    · rw [if_pos g2] at h
      refine ex_iald (x := (f 55 x1.toNat)) dX1_passedOn_13 sh_55 g2.1 g2.2 rfl ?_
      refine ev_iconst dX1_passedOn_14 (r32c rfl) ?_
      refine ev_ixor dX1_passedOn_15 ?_
      refine ev_iand dX1_passedOn_16 ?_
      exact ev_iret rfl dX1_passedOn_17 h
    · rw [if_neg g2] at h; exact h.elim
  · rw [if_neg g1] at h; exact h.elim
def FX1_passedOn (x1 : Int) (f : Mm) : Option (Int × Mm) := FX1_passedOn_0 x1 f
theorem TX1_passedOn {G : GT} {l : Launch} {Q : Option AV → Mem → Prop} (x1 : Int) (f : Mm) (h : OkI Q (FX1_passedOn x1 f)) : Ret G l MX1_passedOn (1) 0 0 [vR 48, vI x1] (SH, RF, f) Q := by
  refine ret_of (L := [some (vR 48), some (vI x1)]) (by decide) rfl (Nat.le_of_ble_eq_true rfl) ?_
  exact SX1_passedOn_0 x1 f h
theorem dX10_over_0 : decode cX10_over 0 = .ok (.aload_n 0, 1) := by decide +kernel
theorem dX10_over_1 : decode cX10_over 1 = .ok (.getfield 19, 3) := by decide +kernel
theorem dX10_over_4 : decode cX10_over 4 = .ok (.iload_n 1, 1) := by decide +kernel
theorem dX10_over_5 : decode cX10_over 5 = .ok (.invokevirtual 126, 3) := by decide +kernel
theorem dX10_over_8 : decode cX10_over 8 = .ok (.ifCond .eq 14, 3) := by decide +kernel
theorem dX10_over_22 : decode cX10_over 22 = .ok (.bipush (-2), 2) := by decide +kernel
theorem dX10_over_24 : decode cX10_over 24 = .ok (.ireturn, 1) := by decide +kernel
theorem dX10_over_11 : decode cX10_over 11 = .ok (.aload_n 0, 1) := by decide +kernel
theorem dX10_over_12 : decode cX10_over 12 = .ok (.invokevirtual 129, 3) := by decide +kernel
theorem dX10_over_15 : decode cX10_over 15 = .ok (.iload_n 1, 1) := by decide +kernel
theorem dX10_over_16 : decode cX10_over 16 = .ok (.invokevirtual 151, 3) := by decide +kernel
theorem dX10_over_19 : decode cX10_over 19 = .ok (.goto 5, 3) := by decide +kernel
def FX10_over_0  (x1 : Int) (f : Mm) : Option (Int × Mm) := (b2 (FX0_hasDay_4 x1 f) fun y1 f1 => (if y1 = 0 then some ((-2), f1) else ((FX10_asNow f1).bind fun f2 => (b2 (FX1_passedOn x1 f2) fun y3 f3 => some (y3, f3)))))
set_option maxHeartbeats 4000000 in
set_option maxRecDepth 100000 in
theorem SX10_over_0 {G : GT} {l : Launch} {Q : Option AV → Mem → Prop}  (x1 : Int) (f : Mm) (h : OkI Q (FX10_over_0  x1 f)) : Ev G l MX10_over (Rm 6 0 0) (ZM G Q 0 0) 0 0 0 [some (vR 0), some (vI x1)] [] (SH, RF, f) := by
  unfold FX10_over_0 at h
  refine ev_aload_n (i := 0) dX10_over_0 rfl rfl ?_
  refine ev_getR dX10_over_1 fl_X10_19 sh_0 (by decide) (by decide) rf_0_1 ?_
  refine ev_iload_n (i := 1) dX10_over_4 rfl rfl ?_
  refine ev_cVI (b := 4) (av := [vI x1]) (S := []) (fun q => q) h dX10_over_5 (fun Q' q => TX0_hasDay_4 x1 _ q) kvX0_hasDay ml_X10_126 sh_4 rfl (RRc (by decide) (by decide)) (Nat.le_of_ble_eq_true rfl) ⟨Nat.le_of_ble_eq_true rfl, Nat.le_of_ble_eq_true rfl⟩ (fun y1 f1 h => ?_)
  refine ev_if_eq (tgt := 22) dX10_over_8 (by decide) (fun c4 => ?_) (fun c4 => ?_)
  · rw [if_pos c4] at h
    refine ev_bipush (v := (-2)) dX10_over_22 (r32c rfl) (by decide) ?_
    exact ev_iret rfl dX10_over_24 h
  · rw [if_neg c4] at h
    refine ev_aload_n (i := 0) dX10_over_11 rfl rfl ?_
    refine ev_cVC (b := 0) (av := []) (S := []) (fun q => q) h dX10_over_12 (fun Q' q => TX10_asNow _ q) kvX10_asNow ml_X10_129 sh_0 rfl (RRc (by decide) (by decide)) (Nat.le_of_ble_eq_true rfl) ⟨Nat.le_of_ble_eq_true rfl, Nat.le_of_ble_eq_true rfl⟩ (fun f2 h => ?_)
    refine ev_iload_n (i := 1) dX10_over_15 rfl rfl ?_
    refine ev_cVI (b := 48) (av := [vI x1]) (S := []) (fun q => q) h dX10_over_16 (fun Q' q => TX1_passedOn x1 _ q) kvX1_passedOn ml_X10_151 sh_48 rfl (RRc (by decide) (by decide)) (Nat.le_of_ble_eq_true rfl) ⟨Nat.le_of_ble_eq_true rfl, Nat.le_of_ble_eq_true rfl⟩ (fun y3 f3 h => ?_)
    refine ev_goto (tgt := 24) dX10_over_19 (by decide) ?_
    exact ev_iret rfl dX10_over_24 h
def FX10_over (x1 : Int) (f : Mm) : Option (Int × Mm) := FX10_over_0 x1 f
theorem TX10_over {G : GT} {l : Launch} {Q : Option AV → Mem → Prop} (x1 : Int) (f : Mm) (h : OkI Q (FX10_over x1 f)) : Ret G l MX10_over (6) 0 0 [vR 0, vI x1] (SH, RF, f) Q := by
  refine ret_of (L := [some (vR 0), some (vI x1)]) (by decide) rfl (Nat.le_of_ble_eq_true rfl) ?_
  exact SX10_over_0 x1 f h
theorem dX1_waitingOn_50 : decode cX1_waitingOn 50 = .ok (.iinc 4 1, 3) := by decide +kernel
theorem dX1_waitingOn_53 : decode cX1_waitingOn 53 = .ok (.goto (-48), 3) := by decide +kernel
theorem dX1_waitingOn_5 : decode cX1_waitingOn 5 = .ok (.iload 4, 2) := by decide +kernel
theorem dX1_waitingOn_7 : decode cX1_waitingOn 7 = .ok (.aload_n 1, 1) := by decide +kernel
theorem dX1_waitingOn_8 : decode cX1_waitingOn 8 = .ok (.getfield 92, 3) := by decide +kernel
theorem dX1_waitingOn_11 : decode cX1_waitingOn 11 = .ok (.if_icmp .ge 45, 3) := by decide +kernel
theorem dX1_waitingOn_56 : decode cX1_waitingOn 56 = .ok (.iload_n 3, 1) := by decide +kernel
theorem dX1_waitingOn_57 : decode cX1_waitingOn 57 = .ok (.ireturn, 1) := by decide +kernel
theorem dX1_waitingOn_14 : decode cX1_waitingOn 14 = .ok (.aload_n 1, 1) := by decide +kernel
theorem dX1_waitingOn_15 : decode cX1_waitingOn 15 = .ok (.getfield 95, 3) := by decide +kernel
theorem dX1_waitingOn_18 : decode cX1_waitingOn 18 = .ok (.iload 4, 2) := by decide +kernel
theorem dX1_waitingOn_20 : decode cX1_waitingOn 20 = .ok (.aaload, 1) := by decide +kernel
theorem dX1_waitingOn_21 : decode cX1_waitingOn 21 = .ok (.iconst 2, 1) := by decide +kernel
theorem dX1_waitingOn_22 : decode cX1_waitingOn 22 = .ok (.iaload, 1) := by decide +kernel
theorem dX1_waitingOn_23 : decode cX1_waitingOn 23 = .ok (.iload_n 2, 1) := by decide +kernel
theorem dX1_waitingOn_24 : decode cX1_waitingOn 24 = .ok (.if_icmp .gt 26, 3) := by decide +kernel
theorem dX1_waitingOn_27 : decode cX1_waitingOn 27 = .ok (.aload_n 0, 1) := by decide +kernel
theorem dX1_waitingOn_28 : decode cX1_waitingOn 28 = .ok (.getfield 26, 3) := by decide +kernel
theorem dX1_waitingOn_31 : decode cX1_waitingOn 31 = .ok (.iload_n 2, 1) := by decide +kernel
theorem dX1_waitingOn_32 : decode cX1_waitingOn 32 = .ok (.iconst 1, 1) := by decide +kernel
theorem dX1_waitingOn_33 : decode cX1_waitingOn 33 = .ok (.iadd, 1) := by decide +kernel
theorem dX1_waitingOn_34 : decode cX1_waitingOn 34 = .ok (.iaload, 1) := by decide +kernel
theorem dX1_waitingOn_35 : decode cX1_waitingOn 35 = .ok (.iload 4, 2) := by decide +kernel
theorem dX1_waitingOn_37 : decode cX1_waitingOn 37 = .ok (.invokestatic 74, 3) := by decide +kernel
theorem dX1_waitingOn_40 : decode cX1_waitingOn 40 = .ok (.ifCond .ne 10, 3) := by decide +kernel
theorem dX1_waitingOn_43 : decode cX1_waitingOn 43 = .ok (.iload_n 3, 1) := by decide +kernel
theorem dX1_waitingOn_44 : decode cX1_waitingOn 44 = .ok (.iconst 1, 1) := by decide +kernel
theorem dX1_waitingOn_45 : decode cX1_waitingOn 45 = .ok (.iload 4, 2) := by decide +kernel
theorem dX1_waitingOn_47 : decode cX1_waitingOn 47 = .ok (.ishl, 1) := by decide +kernel
theorem dX1_waitingOn_48 : decode cX1_waitingOn 48 = .ok (.ior, 1) := by decide +kernel
theorem dX1_waitingOn_49 : decode cX1_waitingOn 49 = .ok (.istore_n 3, 1) := by decide +kernel
theorem dX1_waitingOn_0 : decode cX1_waitingOn 0 = .ok (.iconst 0, 1) := by decide +kernel
theorem dX1_waitingOn_1 : decode cX1_waitingOn 1 = .ok (.istore_n 3, 1) := by decide +kernel
theorem dX1_waitingOn_2 : decode cX1_waitingOn 2 = .ok (.iconst 0, 1) := by decide +kernel
theorem dX1_waitingOn_3 : decode cX1_waitingOn 3 = .ok (.istore 4, 2) := by decide +kernel
def FX1_waitingOn_48_4_50 (k5 : Int → Int → Int → Mm → Option (Int × Mm)) (x2 : Int) (x3 : Int) (x4 : Int) (f : Mm) : Option (Int × Mm) := k5 x2 x3 (w32 (x4 + 1)) f
set_option maxHeartbeats 4000000 in
set_option maxRecDepth 100000 in
theorem SX1_waitingOn_48_4_50 {G : GT} {l : Launch} {Q : Option AV → Mem → Prop} {k5 : Int → Int → Int → Mm → Option (Int × Mm)} (q5 : ∀ (x2 : Int) (x3 : Int) (x4 : Int) (f : Mm), OkI Q (k5 x2 x3 x4 f) → Ev G l MX1_waitingOn (Rm 2 0 0) (ZM G Q 0 0) 0 0 5 [some (vR 48), some (vR 4), some (vI x2), some (vI x3), some (vI x4)] [] (SH, RF, f)) (x2 : Int) (x3 : Int) (x4 : Int) (f : Mm) (h : OkI Q (FX1_waitingOn_48_4_50 k5 x2 x3 x4 f)) : Ev G l MX1_waitingOn (Rm 2 0 0) (ZM G Q 0 0) 0 0 50 [some (vR 48), some (vR 4), some (vI x2), some (vI x3), some (vI x4)] [] (SH, RF, f) := by
  unfold FX1_waitingOn_48_4_50 at h
  refine ev_iinc (L' := [some (vR 48), some (vR 4), some (vI x2), some (vI x3), some (vI (w32 (x4 + 1)))]) dX1_waitingOn_50 rfl (by decide) rfl ?_
  refine ev_goto (tgt := 5) dX1_waitingOn_53 (by decide) ?_
  exact q5 x2 x3 (w32 (x4 + 1)) _ h
def FX1_waitingOn_48_4_5  : Nat → Int → Int → Int → Mm → Option (Int × Mm)
  | 0, _, _, _, _ => none
  | n + 1, x2, x3, x4, f => (if (f 4 5) ≤ x4 then some (x3, f) else (if 0 ≤ x4 ∧ x4 < 6 then (if x2 < (f (12 + x4.toNat) 2) then FX1_waitingOn_48_4_50 (FX1_waitingOn_48_4_5 n) x2 x3 x4 f else (if 0 ≤ (w32 (x2 + 1)) ∧ (w32 (x2 + 1)) < 7 then (b2 (FX10_holds (f 55 (w32 (x2 + 1)).toNat) x4 f) fun y3 f3 => (if y3 = 0 then FX1_waitingOn_48_4_50 (FX1_waitingOn_48_4_5 n) x2 (bOr x3 (bShl 1 x4)) x4 f3 else FX1_waitingOn_48_4_50 (FX1_waitingOn_48_4_5 n) x2 x3 x4 f3)) else none)) else none))
set_option maxHeartbeats 4000000 in
set_option maxRecDepth 100000 in
theorem SX1_waitingOn_48_4_5 {G : GT} {l : Launch} {Q : Option AV → Mem → Prop}  : ∀ (n : Nat) (x2 : Int) (x3 : Int) (x4 : Int) (f : Mm), OkI Q (FX1_waitingOn_48_4_5  n x2 x3 x4 f) → Ev G l MX1_waitingOn (Rm 2 0 0) (ZM G Q 0 0) 0 0 5 [some (vR 48), some (vR 4), some (vI x2), some (vI x3), some (vI x4)] [] (SH, RF, f) := by
  intro n
  induction n with
  | zero => intro x2 x3 x4 f h; exact absurd h (by rw [FX1_waitingOn_48_4_5]; exact fun q => q)
  | succ n ih =>
    intro x2 x3 x4 f h
    rw [FX1_waitingOn_48_4_5] at h
    refine ev_iload dX1_waitingOn_5 rfl ?_
    refine ev_aload_n (i := 1) dX1_waitingOn_7 rfl rfl ?_
    refine ex_getI (x := (f 4 5)) dX1_waitingOn_8 fl_X1_92 sh_4 (by decide) (by decide) rfl ?_
    refine ev_icmp_ge (tgt := 56) dX1_waitingOn_11 (by decide) (fun c6 => ?_) (fun c6 => ?_)
    · rw [if_pos c6] at h
      refine ev_iload_n (i := 3) dX1_waitingOn_56 rfl rfl ?_
      exact ev_iret rfl dX1_waitingOn_57 h
    · rw [if_neg c6] at h
      refine ev_aload_n (i := 1) dX1_waitingOn_14 rfl rfl ?_
      refine ev_getR dX1_waitingOn_15 fl_X1_95 sh_4 (by decide) (by decide) rf_4_9 ?_
      refine ev_iload dX1_waitingOn_18 rfl ?_
      by_cases g1 : 0 ≤ x4 ∧ x4 < 6
      · rw [if_pos g1] at h
        refine ev_aald (b := (12 + x4.toNat)) dX1_waitingOn_20 (Or.inl rfl) sh_11 g1.1 g1.2 (rfr_11 g1) ?_
        refine ev_iconst dX1_waitingOn_21 (r32c rfl) ?_
        refine ex_iald (x := (f (12 + x4.toNat) 2)) dX1_waitingOn_22 (shr_11 g1) (by decide) (by decide) rfl ?_
        refine ev_iload_n (i := 2) dX1_waitingOn_23 rfl rfl ?_
        refine ev_icmp_gt (tgt := 50) dX1_waitingOn_24 (by decide) (fun c5 => ?_) (fun c5 => ?_)
        · rw [if_pos c5] at h
          exact SX1_waitingOn_48_4_50 ih x2 x3 x4 _ h
        · rw [if_neg c5] at h
          refine ev_aload_n (i := 0) dX1_waitingOn_27 rfl rfl ?_
          refine ev_getR dX1_waitingOn_28 fl_X1_26 sh_48 (by decide) (by decide) rf_48_8 ?_
          refine ev_iload_n (i := 2) dX1_waitingOn_31 rfl rfl ?_
          refine ev_iconst dX1_waitingOn_32 (r32c rfl) ?_
          refine ev_iadd dX1_waitingOn_33 ?_
          by_cases g2 : 0 ≤ (w32 (x2 + 1)) ∧ (w32 (x2 + 1)) < 7
          · rw [if_pos g2] at h
            refine ex_iald (x := (f 55 (w32 (x2 + 1)).toNat)) dX1_waitingOn_34 sh_55 g2.1 g2.2 rfl ?_
            refine ev_iload dX1_waitingOn_35 rfl ?_
            refine ev_cNI (av := [vI (f 55 (w32 (x2 + 1)).toNat), vI x4]) (S := []) (fun q => q) h dX1_waitingOn_37 (fun Q' q => TX10_holds (f 55 (w32 (x2 + 1)).toNat) x4 _ q) ksX10_holds nw_X1_74 rfl (RRc (by decide) (by decide)) (Nat.le_of_ble_eq_true rfl) ⟨Nat.le_of_ble_eq_true rfl, Nat.le_of_ble_eq_true rfl⟩ (fun y3 f3 h => ?_)
            refine ev_if_ne (tgt := 50) dX1_waitingOn_40 (by decide) (fun c4 => ?_) (fun c4 => ?_)
            · rw [if_neg c4] at h
              exact SX1_waitingOn_48_4_50 ih x2 x3 x4 _ h
            · rw [if_pos c4] at h
              refine ev_iload_n (i := 3) dX1_waitingOn_43 rfl rfl ?_
              refine ev_iconst dX1_waitingOn_44 (r32c rfl) ?_
              refine ev_iload dX1_waitingOn_45 rfl ?_
              refine ev_ishl dX1_waitingOn_47 ?_
              refine ev_ior dX1_waitingOn_48 ?_
              refine ev_istore_n (i := 3) (L' := [some (vR 48), some (vR 4), some (vI x2), some (vI (bOr x3 (bShl 1 x4))), some (vI x4)]) dX1_waitingOn_49 rfl (by decide) rfl ?_
              exact SX1_waitingOn_48_4_50 ih x2 (bOr x3 (bShl 1 x4)) x4 _ h
          · rw [if_neg g2] at h; exact h.elim
      · rw [if_neg g1] at h; exact h.elim
def FX1_waitingOn_48_4_0  (x2 : Int) (f : Mm) : Option (Int × Mm) := FX1_waitingOn_48_4_5 fu x2 0 0 f
set_option maxHeartbeats 4000000 in
set_option maxRecDepth 100000 in
theorem SX1_waitingOn_48_4_0 {G : GT} {l : Launch} {Q : Option AV → Mem → Prop}  (x2 : Int) (f : Mm) (h : OkI Q (FX1_waitingOn_48_4_0  x2 f)) : Ev G l MX1_waitingOn (Rm 2 0 0) (ZM G Q 0 0) 0 0 0 [some (vR 48), some (vR 4), some (vI x2), none, none] [] (SH, RF, f) := by
  unfold FX1_waitingOn_48_4_0 at h
  refine ev_iconst dX1_waitingOn_0 (r32c rfl) ?_
  refine ev_istore_n (i := 3) (L' := [some (vR 48), some (vR 4), some (vI x2), some (vI 0), none]) dX1_waitingOn_1 rfl (by decide) rfl ?_
  refine ev_iconst dX1_waitingOn_2 (r32c rfl) ?_
  refine ev_istore (L' := [some (vR 48), some (vR 4), some (vI x2), some (vI 0), some (vI 0)]) dX1_waitingOn_3 (by decide) rfl ?_
  exact SX1_waitingOn_48_4_5  fu x2 0 0 _ h
def FX1_waitingOn_48_4 (x2 : Int) (f : Mm) : Option (Int × Mm) := FX1_waitingOn_48_4_0 x2 f
theorem TX1_waitingOn_48_4 {G : GT} {l : Launch} {Q : Option AV → Mem → Prop} (x2 : Int) (f : Mm) (h : OkI Q (FX1_waitingOn_48_4 x2 f)) : Ret G l MX1_waitingOn (2) 0 0 [vR 48, vR 4, vI x2] (SH, RF, f) Q := by
  refine ret_of (L := [some (vR 48), some (vR 4), some (vI x2), none, none]) (by decide) rfl (Nat.le_of_ble_eq_true rfl) ?_
  exact SX1_waitingOn_48_4_0 x2 f h
theorem dX10_waits_0 : decode cX10_waits 0 = .ok (.aload_n 0, 1) := by decide +kernel
theorem dX10_waits_1 : decode cX10_waits 1 = .ok (.getfield 19, 3) := by decide +kernel
theorem dX10_waits_4 : decode cX10_waits 4 = .ok (.iload_n 1, 1) := by decide +kernel
theorem dX10_waits_5 : decode cX10_waits 5 = .ok (.invokevirtual 126, 3) := by decide +kernel
theorem dX10_waits_8 : decode cX10_waits 8 = .ok (.ifCond .eq 18, 3) := by decide +kernel
theorem dX10_waits_26 : decode cX10_waits 26 = .ok (.bipush (-2), 2) := by decide +kernel
theorem dX10_waits_28 : decode cX10_waits 28 = .ok (.ireturn, 1) := by decide +kernel
theorem dX10_waits_11 : decode cX10_waits 11 = .ok (.aload_n 0, 1) := by decide +kernel
theorem dX10_waits_12 : decode cX10_waits 12 = .ok (.invokevirtual 129, 3) := by decide +kernel
theorem dX10_waits_15 : decode cX10_waits 15 = .ok (.aload_n 0, 1) := by decide +kernel
theorem dX10_waits_16 : decode cX10_waits 16 = .ok (.getfield 19, 3) := by decide +kernel
theorem dX10_waits_19 : decode cX10_waits 19 = .ok (.iload_n 1, 1) := by decide +kernel
theorem dX10_waits_20 : decode cX10_waits 20 = .ok (.invokevirtual 154, 3) := by decide +kernel
theorem dX10_waits_23 : decode cX10_waits 23 = .ok (.goto 5, 3) := by decide +kernel
def FX10_waits_0  (x1 : Int) (f : Mm) : Option (Int × Mm) := (b2 (FX0_hasDay_4 x1 f) fun y1 f1 => (if y1 = 0 then some ((-2), f1) else ((FX10_asNow f1).bind fun f2 => (b2 (FX1_waitingOn_48_4 x1 f2) fun y3 f3 => some (y3, f3)))))
set_option maxHeartbeats 4000000 in
set_option maxRecDepth 100000 in
theorem SX10_waits_0 {G : GT} {l : Launch} {Q : Option AV → Mem → Prop}  (x1 : Int) (f : Mm) (h : OkI Q (FX10_waits_0  x1 f)) : Ev G l MX10_waits (Rm 6 0 0) (ZM G Q 0 0) 0 0 0 [some (vR 0), some (vI x1)] [] (SH, RF, f) := by
  unfold FX10_waits_0 at h
  refine ev_aload_n (i := 0) dX10_waits_0 rfl rfl ?_
  refine ev_getR dX10_waits_1 fl_X10_19 sh_0 (by decide) (by decide) rf_0_1 ?_
  refine ev_iload_n (i := 1) dX10_waits_4 rfl rfl ?_
  refine ev_cVI (b := 4) (av := [vI x1]) (S := []) (fun q => q) h dX10_waits_5 (fun Q' q => TX0_hasDay_4 x1 _ q) kvX0_hasDay ml_X10_126 sh_4 rfl (RRc (by decide) (by decide)) (Nat.le_of_ble_eq_true rfl) ⟨Nat.le_of_ble_eq_true rfl, Nat.le_of_ble_eq_true rfl⟩ (fun y1 f1 h => ?_)
  refine ev_if_eq (tgt := 26) dX10_waits_8 (by decide) (fun c4 => ?_) (fun c4 => ?_)
  · rw [if_pos c4] at h
    refine ev_bipush (v := (-2)) dX10_waits_26 (r32c rfl) (by decide) ?_
    exact ev_iret rfl dX10_waits_28 h
  · rw [if_neg c4] at h
    refine ev_aload_n (i := 0) dX10_waits_11 rfl rfl ?_
    refine ev_cVC (b := 0) (av := []) (S := []) (fun q => q) h dX10_waits_12 (fun Q' q => TX10_asNow _ q) kvX10_asNow ml_X10_129 sh_0 rfl (RRc (by decide) (by decide)) (Nat.le_of_ble_eq_true rfl) ⟨Nat.le_of_ble_eq_true rfl, Nat.le_of_ble_eq_true rfl⟩ (fun f2 h => ?_)
    refine ev_aload_n (i := 0) dX10_waits_15 rfl rfl ?_
    refine ev_getR dX10_waits_16 fl_X10_19 sh_0 (by decide) (by decide) rf_0_1 ?_
    refine ev_iload_n (i := 1) dX10_waits_19 rfl rfl ?_
    refine ev_cVI (b := 48) (av := [vR 4, vI x1]) (S := []) (fun q => q) h dX10_waits_20 (fun Q' q => TX1_waitingOn_48_4 x1 _ q) kvX1_waitingOn ml_X10_154 sh_48 rfl (RRc (by decide) (by decide)) (Nat.le_of_ble_eq_true rfl) ⟨Nat.le_of_ble_eq_true rfl, Nat.le_of_ble_eq_true rfl⟩ (fun y3 f3 h => ?_)
    refine ev_goto (tgt := 28) dX10_waits_23 (by decide) ?_
    exact ev_iret rfl dX10_waits_28 h
def FX10_waits (x1 : Int) (f : Mm) : Option (Int × Mm) := FX10_waits_0 x1 f
theorem TX10_waits {G : GT} {l : Launch} {Q : Option AV → Mem → Prop} (x1 : Int) (f : Mm) (h : OkI Q (FX10_waits x1 f)) : Ret G l MX10_waits (6) 0 0 [vR 0, vI x1] (SH, RF, f) Q := by
  refine ret_of (L := [some (vR 0), some (vI x1)]) (by decide) rfl (Nat.le_of_ble_eq_true rfl) ?_
  exact SX10_waits_0 x1 f h
theorem dX10_room_0 : decode cX10_room 0 = .ok (.aload_n 0, 1) := by decide +kernel
theorem dX10_room_1 : decode cX10_room 1 = .ok (.getfield 19, 3) := by decide +kernel
theorem dX10_room_4 : decode cX10_room 4 = .ok (.iload_n 1, 1) := by decide +kernel
theorem dX10_room_5 : decode cX10_room 5 = .ok (.invokevirtual 126, 3) := by decide +kernel
theorem dX10_room_8 : decode cX10_room 8 = .ok (.ifCond .eq 15, 3) := by decide +kernel
theorem dX10_room_23 : decode cX10_room 23 = .ok (.bipush (-2), 2) := by decide +kernel
theorem dX10_room_25 : decode cX10_room 25 = .ok (.ireturn, 1) := by decide +kernel
theorem dX10_room_11 : decode cX10_room 11 = .ok (.aload_n 0, 1) := by decide +kernel
theorem dX10_room_12 : decode cX10_room 12 = .ok (.invokevirtual 129, 3) := by decide +kernel
theorem dX10_room_15 : decode cX10_room 15 = .ok (.getfield 157, 3) := by decide +kernel
theorem dX10_room_18 : decode cX10_room 18 = .ok (.iload_n 1, 1) := by decide +kernel
theorem dX10_room_19 : decode cX10_room 19 = .ok (.iaload, 1) := by decide +kernel
theorem dX10_room_20 : decode cX10_room 20 = .ok (.goto 5, 3) := by decide +kernel
def FX10_room_0  (x1 : Int) (f : Mm) : Option (Int × Mm) := (b2 (FX0_hasDay_4 x1 f) fun y1 f1 => (if y1 = 0 then some ((-2), f1) else ((FX10_asNow f1).bind fun f2 => (if 0 ≤ x1 ∧ x1 < 6 then some ((f2 54 x1.toNat), f2) else none))))
set_option maxHeartbeats 4000000 in
set_option maxRecDepth 100000 in
theorem SX10_room_0 {G : GT} {l : Launch} {Q : Option AV → Mem → Prop}  (x1 : Int) (f : Mm) (h : OkI Q (FX10_room_0  x1 f)) : Ev G l MX10_room (Rm 6 0 0) (ZM G Q 0 0) 0 0 0 [some (vR 0), some (vI x1)] [] (SH, RF, f) := by
  unfold FX10_room_0 at h
  refine ev_aload_n (i := 0) dX10_room_0 rfl rfl ?_
  refine ev_getR dX10_room_1 fl_X10_19 sh_0 (by decide) (by decide) rf_0_1 ?_
  refine ev_iload_n (i := 1) dX10_room_4 rfl rfl ?_
  refine ev_cVI (b := 4) (av := [vI x1]) (S := []) (fun q => q) h dX10_room_5 (fun Q' q => TX0_hasDay_4 x1 _ q) kvX0_hasDay ml_X10_126 sh_4 rfl (RRc (by decide) (by decide)) (Nat.le_of_ble_eq_true rfl) ⟨Nat.le_of_ble_eq_true rfl, Nat.le_of_ble_eq_true rfl⟩ (fun y1 f1 h => ?_)
  refine ev_if_eq (tgt := 23) dX10_room_8 (by decide) (fun c4 => ?_) (fun c4 => ?_)
  · rw [if_pos c4] at h
    refine ev_bipush (v := (-2)) dX10_room_23 (r32c rfl) (by decide) ?_
    exact ev_iret rfl dX10_room_25 h
  · rw [if_neg c4] at h
    refine ev_aload_n (i := 0) dX10_room_11 rfl rfl ?_
    refine ev_cVC (b := 0) (av := []) (S := []) (fun q => q) h dX10_room_12 (fun Q' q => TX10_asNow _ q) kvX10_asNow ml_X10_129 sh_0 rfl (RRc (by decide) (by decide)) (Nat.le_of_ble_eq_true rfl) ⟨Nat.le_of_ble_eq_true rfl, Nat.le_of_ble_eq_true rfl⟩ (fun f2 h => ?_)
    refine ev_getR dX10_room_15 fl_X10_157 sh_48 (by decide) (by decide) rf_48_7 ?_
    refine ev_iload_n (i := 1) dX10_room_18 rfl rfl ?_
    by_cases g3 : 0 ≤ x1 ∧ x1 < 6
    · rw [if_pos g3] at h
      refine ex_iald (x := (f2 54 x1.toNat)) dX10_room_19 sh_54 g3.1 g3.2 rfl ?_
      refine ev_goto (tgt := 25) dX10_room_20 (by decide) ?_
      exact ev_iret rfl dX10_room_25 h
    · rw [if_neg g3] at h; exact h.elim
def FX10_room (x1 : Int) (f : Mm) : Option (Int × Mm) := FX10_room_0 x1 f
theorem TX10_room {G : GT} {l : Launch} {Q : Option AV → Mem → Prop} (x1 : Int) (f : Mm) (h : OkI Q (FX10_room x1 f)) : Ret G l MX10_room (6) 0 0 [vR 0, vI x1] (SH, RF, f) Q := by
  refine ret_of (L := [some (vR 0), some (vI x1)]) (by decide) rfl (Nat.le_of_ble_eq_true rfl) ?_
  exact SX10_room_0 x1 f h
theorem dX10_stuck_79 : decode cX10_stuck 79 = .ok (.iinc 2 1, 3) := by decide +kernel
theorem dX10_stuck_82 : decode cX10_stuck 82 = .ok (.goto (-62), 3) := by decide +kernel
theorem dX10_stuck_73 : decode cX10_stuck 73 = .ok (.iinc 3 1, 3) := by decide +kernel
theorem dX10_stuck_76 : decode cX10_stuck 76 = .ok (.goto (-43), 3) := by decide +kernel
theorem dX10_stuck_33 : decode cX10_stuck 33 = .ok (.iload_n 3, 1) := by decide +kernel
theorem dX10_stuck_34 : decode cX10_stuck 34 = .ok (.aload_n 0, 1) := by decide +kernel
theorem dX10_stuck_35 : decode cX10_stuck 35 = .ok (.getfield 19, 3) := by decide +kernel
theorem dX10_stuck_38 : decode cX10_stuck 38 = .ok (.getfield 161, 3) := by decide +kernel
theorem dX10_stuck_41 : decode cX10_stuck 41 = .ok (.if_icmp .ge 38, 3) := by decide +kernel
theorem dX10_stuck_44 : decode cX10_stuck 44 = .ok (.aload_n 0, 1) := by decide +kernel
theorem dX10_stuck_45 : decode cX10_stuck 45 = .ok (.getfield 19, 3) := by decide +kernel
theorem dX10_stuck_48 : decode cX10_stuck 48 = .ok (.getfield 120, 3) := by decide +kernel
theorem dX10_stuck_51 : decode cX10_stuck 51 = .ok (.iload_n 3, 1) := by decide +kernel
theorem dX10_stuck_52 : decode cX10_stuck 52 = .ok (.aaload, 1) := by decide +kernel
theorem dX10_stuck_53 : decode cX10_stuck 53 = .ok (.iconst 2, 1) := by decide +kernel
theorem dX10_stuck_54 : decode cX10_stuck 54 = .ok (.iaload, 1) := by decide +kernel
theorem dX10_stuck_55 : decode cX10_stuck 55 = .ok (.iload_n 2, 1) := by decide +kernel
theorem dX10_stuck_56 : decode cX10_stuck 56 = .ok (.if_icmp .ne 17, 3) := by decide +kernel
theorem dX10_stuck_59 : decode cX10_stuck 59 = .ok (.aload_n 1, 1) := by decide +kernel
theorem dX10_stuck_60 : decode cX10_stuck 60 = .ok (.iload_n 2, 1) := by decide +kernel
theorem dX10_stuck_61 : decode cX10_stuck 61 = .ok (.invokevirtual 151, 3) := by decide +kernel
theorem dX10_stuck_64 : decode cX10_stuck 64 = .ok (.iload_n 3, 1) := by decide +kernel
theorem dX10_stuck_65 : decode cX10_stuck 65 = .ok (.invokestatic 164, 3) := by decide +kernel
theorem dX10_stuck_68 : decode cX10_stuck 68 = .ok (.ifCond .ne 5, 3) := by decide +kernel
theorem dX10_stuck_71 : decode cX10_stuck 71 = .ok (.iload_n 3, 1) := by decide +kernel
theorem dX10_stuck_72 : decode cX10_stuck 72 = .ok (.ireturn, 1) := by decide +kernel
theorem dX10_stuck_20 : decode cX10_stuck 20 = .ok (.iload_n 2, 1) := by decide +kernel
theorem dX10_stuck_21 : decode cX10_stuck 21 = .ok (.aload_n 0, 1) := by decide +kernel
theorem dX10_stuck_22 : decode cX10_stuck 22 = .ok (.getfield 19, 3) := by decide +kernel
theorem dX10_stuck_25 : decode cX10_stuck 25 = .ok (.getfield 144, 3) := by decide +kernel
theorem dX10_stuck_28 : decode cX10_stuck 28 = .ok (.if_icmp .ge 57, 3) := by decide +kernel
theorem dX10_stuck_85 : decode cX10_stuck 85 = .ok (.iconst (-1), 1) := by decide +kernel
theorem dX10_stuck_86 : decode cX10_stuck 86 = .ok (.ireturn, 1) := by decide +kernel
theorem dX10_stuck_31 : decode cX10_stuck 31 = .ok (.iconst 0, 1) := by decide +kernel
theorem dX10_stuck_32 : decode cX10_stuck 32 = .ok (.istore_n 3, 1) := by decide +kernel
theorem dX10_stuck_0 : decode cX10_stuck 0 = .ok (.aload_n 0, 1) := by decide +kernel
theorem dX10_stuck_1 : decode cX10_stuck 1 = .ok (.getfield 19, 3) := by decide +kernel
theorem dX10_stuck_4 : decode cX10_stuck 4 = .ok (.invokevirtual 140, 3) := by decide +kernel
theorem dX10_stuck_7 : decode cX10_stuck 7 = .ok (.ifCond .ne 6, 3) := by decide +kernel
theorem dX10_stuck_13 : decode cX10_stuck 13 = .ok (.aload_n 0, 1) := by decide +kernel
theorem dX10_stuck_14 : decode cX10_stuck 14 = .ok (.invokevirtual 129, 3) := by decide +kernel
theorem dX10_stuck_17 : decode cX10_stuck 17 = .ok (.astore_n 1, 1) := by decide +kernel
theorem dX10_stuck_18 : decode cX10_stuck 18 = .ok (.iconst 0, 1) := by decide +kernel
theorem dX10_stuck_19 : decode cX10_stuck 19 = .ok (.istore_n 2, 1) := by decide +kernel
theorem dX10_stuck_10 : decode cX10_stuck 10 = .ok (.bipush (-2), 2) := by decide +kernel
theorem dX10_stuck_12 : decode cX10_stuck 12 = .ok (.ireturn, 1) := by decide +kernel
def FX10_stuck_79 (k20 : Int → Mm → Option (Int × Mm)) (x2 : Int) (f : Mm) : Option (Int × Mm) := k20 (w32 (x2 + 1)) f
set_option maxHeartbeats 4000000 in
set_option maxRecDepth 100000 in
theorem SX10_stuck_79 {G : GT} {l : Launch} {Q : Option AV → Mem → Prop} {k20 : Int → Mm → Option (Int × Mm)} (q20 : ∀ (x2 : Int) (f : Mm), OkI Q (k20 x2 f) → Ev G l MX10_stuck (Rm 6 0 0) (ZM G Q 0 0) 0 0 20 [some (vR 0), some (vR 48), some (vI x2), none] [] (SH, RF, f)) (x2 : Int) (f : Mm) (h : OkI Q (FX10_stuck_79 k20 x2 f)) : Ev G l MX10_stuck (Rm 6 0 0) (ZM G Q 0 0) 0 0 79 [some (vR 0), some (vR 48), some (vI x2), none] [] (SH, RF, f) := by
  unfold FX10_stuck_79 at h
  refine ev_iinc (L' := [some (vR 0), some (vR 48), some (vI (w32 (x2 + 1))), none]) dX10_stuck_79 rfl (by decide) rfl ?_
  refine ev_goto (tgt := 20) dX10_stuck_82 (by decide) ?_
  exact q20 (w32 (x2 + 1)) _ h
def FX10_stuck_73 (k20 : Int → Mm → Option (Int × Mm)) (k33 : Int → Int → Mm → Option (Int × Mm)) (x2 : Int) (x3 : Int) (f : Mm) : Option (Int × Mm) := k33 x2 (w32 (x3 + 1)) f
set_option maxHeartbeats 4000000 in
set_option maxRecDepth 100000 in
theorem SX10_stuck_73 {G : GT} {l : Launch} {Q : Option AV → Mem → Prop} {k20 : Int → Mm → Option (Int × Mm)} {k33 : Int → Int → Mm → Option (Int × Mm)} (q20 : ∀ (x2 : Int) (f : Mm), OkI Q (k20 x2 f) → Ev G l MX10_stuck (Rm 6 0 0) (ZM G Q 0 0) 0 0 20 [some (vR 0), some (vR 48), some (vI x2), none] [] (SH, RF, f)) (q33 : ∀ (x2 : Int) (x3 : Int) (f : Mm), OkI Q (k33 x2 x3 f) → Ev G l MX10_stuck (Rm 6 0 0) (ZM G Q 0 0) 0 0 33 [some (vR 0), some (vR 48), some (vI x2), some (vI x3)] [] (SH, RF, f)) (x2 : Int) (x3 : Int) (f : Mm) (h : OkI Q (FX10_stuck_73 k20 k33 x2 x3 f)) : Ev G l MX10_stuck (Rm 6 0 0) (ZM G Q 0 0) 0 0 73 [some (vR 0), some (vR 48), some (vI x2), some (vI x3)] [] (SH, RF, f) := by
  unfold FX10_stuck_73 at h
  refine ev_iinc (L' := [some (vR 0), some (vR 48), some (vI x2), some (vI (w32 (x3 + 1)))]) dX10_stuck_73 rfl (by decide) rfl ?_
  refine ev_goto (tgt := 33) dX10_stuck_76 (by decide) ?_
  exact q33 x2 (w32 (x3 + 1)) _ h
def FX10_stuck_33 (k20 : Int → Mm → Option (Int × Mm)) : Nat → Int → Int → Mm → Option (Int × Mm)
  | 0, _, _, _ => none
  | n + 1, x2, x3, f => (if (f 4 5) ≤ x3 then FX10_stuck_79 k20 x2 f else (if 0 ≤ x3 ∧ x3 < 6 then (if (f (12 + x3.toNat) 2) = x2 then (b2 (FX1_passedOn x2 f) fun y2 f2 => (b2 (FX10_holds y2 x3 f2) fun y3 f3 => (if y3 = 0 then some (x3, f3) else FX10_stuck_73 k20 (FX10_stuck_33 k20 n) x2 x3 f3))) else FX10_stuck_73 k20 (FX10_stuck_33 k20 n) x2 x3 f) else none))
set_option maxHeartbeats 4000000 in
set_option maxRecDepth 100000 in
theorem SX10_stuck_33 {G : GT} {l : Launch} {Q : Option AV → Mem → Prop} {k20 : Int → Mm → Option (Int × Mm)} (q20 : ∀ (x2 : Int) (f : Mm), OkI Q (k20 x2 f) → Ev G l MX10_stuck (Rm 6 0 0) (ZM G Q 0 0) 0 0 20 [some (vR 0), some (vR 48), some (vI x2), none] [] (SH, RF, f)) : ∀ (n : Nat) (x2 : Int) (x3 : Int) (f : Mm), OkI Q (FX10_stuck_33 k20 n x2 x3 f) → Ev G l MX10_stuck (Rm 6 0 0) (ZM G Q 0 0) 0 0 33 [some (vR 0), some (vR 48), some (vI x2), some (vI x3)] [] (SH, RF, f) := by
  intro n
  induction n with
  | zero => intro x2 x3 f h; exact absurd h (by rw [FX10_stuck_33]; exact fun q => q)
  | succ n ih =>
    intro x2 x3 f h
    rw [FX10_stuck_33] at h
    refine ev_iload_n (i := 3) dX10_stuck_33 rfl rfl ?_
    refine ev_aload_n (i := 0) dX10_stuck_34 rfl rfl ?_
    refine ev_getR dX10_stuck_35 fl_X10_19 sh_0 (by decide) (by decide) rf_0_1 ?_
    refine ex_getI (x := (f 4 5)) dX10_stuck_38 fl_X10_161 sh_4 (by decide) (by decide) rfl ?_
    refine ev_icmp_ge (tgt := 79) dX10_stuck_41 (by decide) (fun c6 => ?_) (fun c6 => ?_)
    · rw [if_pos c6] at h
      refine ev_fg [true, true, true, false] rfl ?_
      exact SX10_stuck_79 q20 x2 _ h
    · rw [if_neg c6] at h
      refine ev_aload_n (i := 0) dX10_stuck_44 rfl rfl ?_
      refine ev_getR dX10_stuck_45 fl_X10_19 sh_0 (by decide) (by decide) rf_0_1 ?_
      refine ev_getR dX10_stuck_48 fl_X10_120 sh_4 (by decide) (by decide) rf_4_9 ?_
      refine ev_iload_n (i := 3) dX10_stuck_51 rfl rfl ?_
      by_cases g1 : 0 ≤ x3 ∧ x3 < 6
      · rw [if_pos g1] at h
        refine ev_aald (b := (12 + x3.toNat)) dX10_stuck_52 (Or.inl rfl) sh_11 g1.1 g1.2 (rfr_11 g1) ?_
        refine ev_iconst dX10_stuck_53 (r32c rfl) ?_
        refine ex_iald (x := (f (12 + x3.toNat) 2)) dX10_stuck_54 (shr_11 g1) (by decide) (by decide) rfl ?_
        refine ev_iload_n (i := 2) dX10_stuck_55 rfl rfl ?_
        refine ev_icmp_ne (tgt := 73) dX10_stuck_56 (by decide) (fun c5 => ?_) (fun c5 => ?_)
        · rw [if_neg c5] at h
          exact SX10_stuck_73 q20 ih x2 x3 _ h
        · rw [if_pos c5] at h
          refine ev_aload_n (i := 1) dX10_stuck_59 rfl rfl ?_
          refine ev_iload_n (i := 2) dX10_stuck_60 rfl rfl ?_
          refine ev_cVI (b := 48) (av := [vI x2]) (S := []) (fun q => q) h dX10_stuck_61 (fun Q' q => TX1_passedOn x2 _ q) kvX1_passedOn ml_X10_151 sh_48 rfl (RRc (by decide) (by decide)) (Nat.le_of_ble_eq_true rfl) ⟨Nat.le_of_ble_eq_true rfl, Nat.le_of_ble_eq_true rfl⟩ (fun y2 f2 h => ?_)
          refine ev_iload_n (i := 3) dX10_stuck_64 rfl rfl ?_
          refine ev_cSI (av := [vI y2, vI x3]) (S := []) (fun q => q) h dX10_stuck_65 (fun Q' q => TX10_holds y2 x3 _ q) ksX10_holds ml_X10_164 rfl (RRc (by decide) (by decide)) (Nat.le_of_ble_eq_true rfl) ⟨Nat.le_of_ble_eq_true rfl, Nat.le_of_ble_eq_true rfl⟩ (fun y3 f3 h => ?_)
          refine ev_if_ne (tgt := 73) dX10_stuck_68 (by decide) (fun c4 => ?_) (fun c4 => ?_)
          · rw [if_neg c4] at h
            exact SX10_stuck_73 q20 ih x2 x3 _ h
          · rw [if_pos c4] at h
            refine ev_iload_n (i := 3) dX10_stuck_71 rfl rfl ?_
            exact ev_iret rfl dX10_stuck_72 h
      · rw [if_neg g1] at h; exact h.elim
def FX10_stuck_20  : Nat → Int → Mm → Option (Int × Mm)
  | 0, _, _ => none
  | n + 1, x2, f => (if (f 4 1) ≤ x2 then some ((-1), f) else FX10_stuck_33 (FX10_stuck_20 n) fu x2 0 f)
set_option maxHeartbeats 4000000 in
set_option maxRecDepth 100000 in
theorem SX10_stuck_20 {G : GT} {l : Launch} {Q : Option AV → Mem → Prop}  : ∀ (n : Nat) (x2 : Int) (f : Mm), OkI Q (FX10_stuck_20  n x2 f) → Ev G l MX10_stuck (Rm 6 0 0) (ZM G Q 0 0) 0 0 20 [some (vR 0), some (vR 48), some (vI x2), none] [] (SH, RF, f) := by
  intro n
  induction n with
  | zero => intro x2 f h; exact absurd h (by rw [FX10_stuck_20]; exact fun q => q)
  | succ n ih =>
    intro x2 f h
    rw [FX10_stuck_20] at h
    refine ev_iload_n (i := 2) dX10_stuck_20 rfl rfl ?_
    refine ev_aload_n (i := 0) dX10_stuck_21 rfl rfl ?_
    refine ev_getR dX10_stuck_22 fl_X10_19 sh_0 (by decide) (by decide) rf_0_1 ?_
    refine ex_getI (x := (f 4 1)) dX10_stuck_25 fl_X10_144 sh_4 (by decide) (by decide) rfl ?_
    refine ev_icmp_ge (tgt := 85) dX10_stuck_28 (by decide) (fun c1 => ?_) (fun c1 => ?_)
    · rw [if_pos c1] at h
      refine ev_iconst dX10_stuck_85 (r32c rfl) ?_
      exact ev_iret rfl dX10_stuck_86 h
    · rw [if_neg c1] at h
      refine ev_iconst dX10_stuck_31 (r32c rfl) ?_
      refine ev_istore_n (i := 3) (L' := [some (vR 0), some (vR 48), some (vI x2), some (vI 0)]) dX10_stuck_32 rfl (by decide) rfl ?_
      exact SX10_stuck_33 ih fu x2 0 _ h
def FX10_stuck_0   (f : Mm) : Option (Int × Mm) := (b2 (FX0_stands_4 f) fun y1 f1 => (if y1 = 0 then some ((-2), f1) else ((FX10_asNow f1).bind fun f2 => FX10_stuck_20 fu 0 f2)))
set_option maxHeartbeats 4000000 in
set_option maxRecDepth 100000 in
theorem SX10_stuck_0 {G : GT} {l : Launch} {Q : Option AV → Mem → Prop}   (f : Mm) (h : OkI Q (FX10_stuck_0   f)) : Ev G l MX10_stuck (Rm 6 0 0) (ZM G Q 0 0) 0 0 0 [some (vR 0), none, none, none] [] (SH, RF, f) := by
  unfold FX10_stuck_0 at h
  refine ev_aload_n (i := 0) dX10_stuck_0 rfl rfl ?_
  refine ev_getR dX10_stuck_1 fl_X10_19 sh_0 (by decide) (by decide) rf_0_1 ?_
  refine ev_cVI (b := 4) (av := []) (S := []) (fun q => q) h dX10_stuck_4 (fun Q' q => TX0_stands_4 _ q) kvX0_stands ml_X10_140 sh_4 rfl (RRc (by decide) (by decide)) (Nat.le_of_ble_eq_true rfl) ⟨Nat.le_of_ble_eq_true rfl, Nat.le_of_ble_eq_true rfl⟩ (fun y1 f1 h => ?_)
  refine ev_if_ne (tgt := 13) dX10_stuck_7 (by decide) (fun c3 => ?_) (fun c3 => ?_)
  · rw [if_neg c3] at h
    refine ev_aload_n (i := 0) dX10_stuck_13 rfl rfl ?_
    refine ev_cVC (b := 0) (av := []) (S := []) (fun q => q) h dX10_stuck_14 (fun Q' q => TX10_asNow _ q) kvX10_asNow ml_X10_129 sh_0 rfl (RRc (by decide) (by decide)) (Nat.le_of_ble_eq_true rfl) ⟨Nat.le_of_ble_eq_true rfl, Nat.le_of_ble_eq_true rfl⟩ (fun f2 h => ?_)
    refine ev_astore_n (i := 1) (L' := [some (vR 0), some (vR 48), none, none]) dX10_stuck_17 rfl (by decide) rfl ?_
    refine ev_iconst dX10_stuck_18 (r32c rfl) ?_
    refine ev_istore_n (i := 2) (L' := [some (vR 0), some (vR 48), some (vI 0), none]) dX10_stuck_19 rfl (by decide) rfl ?_
    exact SX10_stuck_20  fu 0 _ h
  · rw [if_pos c3] at h
    refine ev_bipush (v := (-2)) dX10_stuck_10 (r32c rfl) (by decide) ?_
    exact ev_iret rfl dX10_stuck_12 h
def FX10_stuck  (f : Mm) : Option (Int × Mm) := FX10_stuck_0  f
theorem TX10_stuck {G : GT} {l : Launch} {Q : Option AV → Mem → Prop}  (f : Mm) (h : OkI Q (FX10_stuck  f)) : Ret G l MX10_stuck (6) 0 0 [vR 0] (SH, RF, f) Q := by
  refine ret_of (L := [some (vR 0), none, none, none]) (by decide) rfl (Nat.le_of_ble_eq_true rfl) ?_
  exact SX10_stuck_0  f h
theorem dX0_allCarts_0 : decode cX0_allCarts 0 = .ok (.iconst 1, 1) := by decide +kernel
theorem dX0_allCarts_1 : decode cX0_allCarts 1 = .ok (.aload_n 0, 1) := by decide +kernel
theorem dX0_allCarts_2 : decode cX0_allCarts 2 = .ok (.getfield 48, 3) := by decide +kernel
theorem dX0_allCarts_5 : decode cX0_allCarts 5 = .ok (.ishl, 1) := by decide +kernel
theorem dX0_allCarts_6 : decode cX0_allCarts 6 = .ok (.iconst 1, 1) := by decide +kernel
theorem dX0_allCarts_7 : decode cX0_allCarts 7 = .ok (.isub, 1) := by decide +kernel
theorem dX0_allCarts_8 : decode cX0_allCarts 8 = .ok (.ireturn, 1) := by decide +kernel
def FX0_allCarts_4_0   (f : Mm) : Option (Int × Mm) := some ((w32 ((bShl 1 (f 4 5)) - 1)), f)
set_option maxHeartbeats 4000000 in
set_option maxRecDepth 100000 in
theorem SX0_allCarts_4_0 {G : GT} {l : Launch} {Q : Option AV → Mem → Prop}   (f : Mm) (h : OkI Q (FX0_allCarts_4_0   f)) : Ev G l MX0_allCarts (Rm 1 0 0) (ZM G Q 0 0) 0 0 0 [some (vR 4)] [] (SH, RF, f) := by
  unfold FX0_allCarts_4_0 at h
  refine ev_iconst dX0_allCarts_0 (r32c rfl) ?_
  refine ev_aload_n (i := 0) dX0_allCarts_1 rfl rfl ?_
  refine ex_getI (x := (f 4 5)) dX0_allCarts_2 fl_X0_48 sh_4 (by decide) (by decide) rfl ?_
  refine ev_ishl dX0_allCarts_5 ?_
  refine ev_iconst dX0_allCarts_6 (r32c rfl) ?_
  refine ev_isub dX0_allCarts_7 ?_
  exact ev_iret rfl dX0_allCarts_8 h
def FX0_allCarts_4  (f : Mm) : Option (Int × Mm) := FX0_allCarts_4_0  f
theorem TX0_allCarts_4 {G : GT} {l : Launch} {Q : Option AV → Mem → Prop}  (f : Mm) (h : OkI Q (FX0_allCarts_4  f)) : Ret G l MX0_allCarts (1) 0 0 [vR 4] (SH, RF, f) Q := by
  refine ret_of (L := [some (vR 4)]) (by decide) rfl (Nat.le_of_ble_eq_true rfl) ?_
  exact SX0_allCarts_4_0  f h
theorem dX1_passedBits_0 : decode cX1_passedBits 0 = .ok (.aload_n 0, 1) := by decide +kernel
theorem dX1_passedBits_1 : decode cX1_passedBits 1 = .ok (.getfield 26, 3) := by decide +kernel
theorem dX1_passedBits_4 : decode cX1_passedBits 4 = .ok (.aload_n 1, 1) := by decide +kernel
theorem dX1_passedBits_5 : decode cX1_passedBits 5 = .ok (.getfield 51, 3) := by decide +kernel
theorem dX1_passedBits_8 : decode cX1_passedBits 8 = .ok (.iaload, 1) := by decide +kernel
theorem dX1_passedBits_9 : decode cX1_passedBits 9 = .ok (.ireturn, 1) := by decide +kernel
def FX1_passedBits_48_4_0   (f : Mm) : Option (Int × Mm) := (if 0 ≤ (f 4 1) ∧ (f 4 1) < 7 then some ((f 55 (f 4 1).toNat), f) else none)
set_option maxHeartbeats 4000000 in
set_option maxRecDepth 100000 in
theorem SX1_passedBits_48_4_0 {G : GT} {l : Launch} {Q : Option AV → Mem → Prop}   (f : Mm) (h : OkI Q (FX1_passedBits_48_4_0   f)) : Ev G l MX1_passedBits (Rm 1 0 0) (ZM G Q 0 0) 0 0 0 [some (vR 48), some (vR 4)] [] (SH, RF, f) := by
  unfold FX1_passedBits_48_4_0 at h
  refine ev_aload_n (i := 0) dX1_passedBits_0 rfl rfl ?_
  refine ev_getR dX1_passedBits_1 fl_X1_26 sh_48 (by decide) (by decide) rf_48_8 ?_
  refine ev_aload_n (i := 1) dX1_passedBits_4 rfl rfl ?_
  refine ex_getI (x := (f 4 1)) dX1_passedBits_5 fl_X1_51 sh_4 (by decide) (by decide) rfl ?_
  by_cases g1 : 0 ≤ (f 4 1) ∧ (f 4 1) < 7
  · rw [if_pos g1] at h
    refine ex_iald (x := (f 55 (f 4 1).toNat)) dX1_passedBits_8 sh_55 g1.1 g1.2 rfl ?_
    exact ev_iret rfl dX1_passedBits_9 h
  · rw [if_neg g1] at h; exact h.elim
def FX1_passedBits_48_4  (f : Mm) : Option (Int × Mm) := FX1_passedBits_48_4_0  f
theorem TX1_passedBits_48_4 {G : GT} {l : Launch} {Q : Option AV → Mem → Prop}  (f : Mm) (h : OkI Q (FX1_passedBits_48_4  f)) : Ret G l MX1_passedBits (1) 0 0 [vR 48, vR 4] (SH, RF, f) Q := by
  refine ret_of (L := [some (vR 48), some (vR 4)]) (by decide) rfl (Nat.le_of_ble_eq_true rfl) ?_
  exact SX1_passedBits_48_4_0  f h
theorem dX10_lost_0 : decode cX10_lost 0 = .ok (.aload_n 0, 1) := by decide +kernel
theorem dX10_lost_1 : decode cX10_lost 1 = .ok (.getfield 19, 3) := by decide +kernel
theorem dX10_lost_4 : decode cX10_lost 4 = .ok (.invokevirtual 140, 3) := by decide +kernel
theorem dX10_lost_7 : decode cX10_lost 7 = .ok (.ifCond .eq 27, 3) := by decide +kernel
theorem dX10_lost_34 : decode cX10_lost 34 = .ok (.bipush (-2), 2) := by decide +kernel
theorem dX10_lost_36 : decode cX10_lost 36 = .ok (.ireturn, 1) := by decide +kernel
theorem dX10_lost_10 : decode cX10_lost 10 = .ok (.aload_n 0, 1) := by decide +kernel
theorem dX10_lost_11 : decode cX10_lost 11 = .ok (.getfield 19, 3) := by decide +kernel
theorem dX10_lost_14 : decode cX10_lost 14 = .ok (.invokevirtual 168, 3) := by decide +kernel
theorem dX10_lost_17 : decode cX10_lost 17 = .ok (.aload_n 0, 1) := by decide +kernel
theorem dX10_lost_18 : decode cX10_lost 18 = .ok (.invokevirtual 129, 3) := by decide +kernel
theorem dX10_lost_21 : decode cX10_lost 21 = .ok (.aload_n 0, 1) := by decide +kernel
theorem dX10_lost_22 : decode cX10_lost 22 = .ok (.getfield 19, 3) := by decide +kernel
theorem dX10_lost_25 : decode cX10_lost 25 = .ok (.invokevirtual 172, 3) := by decide +kernel
theorem dX10_lost_28 : decode cX10_lost 28 = .ok (.iconst (-1), 1) := by decide +kernel
theorem dX10_lost_29 : decode cX10_lost 29 = .ok (.ixor, 1) := by decide +kernel
theorem dX10_lost_30 : decode cX10_lost 30 = .ok (.iand, 1) := by decide +kernel
theorem dX10_lost_31 : decode cX10_lost 31 = .ok (.goto 5, 3) := by decide +kernel
def FX10_lost_0   (f : Mm) : Option (Int × Mm) := (b2 (FX0_stands_4 f) fun y1 f1 => (if y1 = 0 then some ((-2), f1) else (b2 (FX0_allCarts_4 f1) fun y2 f2 => ((FX10_asNow f2).bind fun f3 => (b2 (FX1_passedBits_48_4 f3) fun y4 f4 => some ((bAnd y2 (bXor y4 (-1))), f4))))))
set_option maxHeartbeats 4000000 in
set_option maxRecDepth 100000 in
theorem SX10_lost_0 {G : GT} {l : Launch} {Q : Option AV → Mem → Prop}   (f : Mm) (h : OkI Q (FX10_lost_0   f)) : Ev G l MX10_lost (Rm 6 0 0) (ZM G Q 0 0) 0 0 0 [some (vR 0)] [] (SH, RF, f) := by
  unfold FX10_lost_0 at h
  refine ev_aload_n (i := 0) dX10_lost_0 rfl rfl ?_
  refine ev_getR dX10_lost_1 fl_X10_19 sh_0 (by decide) (by decide) rf_0_1 ?_
  refine ev_cVI (b := 4) (av := []) (S := []) (fun q => q) h dX10_lost_4 (fun Q' q => TX0_stands_4 _ q) kvX0_stands ml_X10_140 sh_4 rfl (RRc (by decide) (by decide)) (Nat.le_of_ble_eq_true rfl) ⟨Nat.le_of_ble_eq_true rfl, Nat.le_of_ble_eq_true rfl⟩ (fun y1 f1 h => ?_)
  refine ev_if_eq (tgt := 34) dX10_lost_7 (by decide) (fun c5 => ?_) (fun c5 => ?_)
  · rw [if_pos c5] at h
    refine ev_bipush (v := (-2)) dX10_lost_34 (r32c rfl) (by decide) ?_
    exact ev_iret rfl dX10_lost_36 h
  · rw [if_neg c5] at h
    refine ev_aload_n (i := 0) dX10_lost_10 rfl rfl ?_
    refine ev_getR dX10_lost_11 fl_X10_19 sh_0 (by decide) (by decide) rf_0_1 ?_
    refine ev_cVI (b := 4) (av := []) (S := []) (fun q => q) h dX10_lost_14 (fun Q' q => TX0_allCarts_4 _ q) kvX0_allCarts ml_X10_168 sh_4 rfl (RRc (by decide) (by decide)) (Nat.le_of_ble_eq_true rfl) ⟨Nat.le_of_ble_eq_true rfl, Nat.le_of_ble_eq_true rfl⟩ (fun y2 f2 h => ?_)
    refine ev_aload_n (i := 0) dX10_lost_17 rfl rfl ?_
    refine ev_cVC (b := 0) (av := []) (S := [vI y2]) (fun q => q) h dX10_lost_18 (fun Q' q => TX10_asNow _ q) kvX10_asNow ml_X10_129 sh_0 rfl (RRc (by decide) (by decide)) (Nat.le_of_ble_eq_true rfl) ⟨Nat.le_of_ble_eq_true rfl, Nat.le_of_ble_eq_true rfl⟩ (fun f3 h => ?_)
    refine ev_aload_n (i := 0) dX10_lost_21 rfl rfl ?_
    refine ev_getR dX10_lost_22 fl_X10_19 sh_0 (by decide) (by decide) rf_0_1 ?_
    refine ev_cVI (b := 48) (av := [vR 4]) (S := [vI y2]) (fun q => q) h dX10_lost_25 (fun Q' q => TX1_passedBits_48_4 _ q) kvX1_passedBits ml_X10_172 sh_48 rfl (RRc (by decide) (by decide)) (Nat.le_of_ble_eq_true rfl) ⟨Nat.le_of_ble_eq_true rfl, Nat.le_of_ble_eq_true rfl⟩ (fun y4 f4 h => ?_)
    refine ev_iconst dX10_lost_28 (r32c rfl) ?_
    refine ev_ixor dX10_lost_29 ?_
    refine ev_iand dX10_lost_30 ?_
    refine ev_goto (tgt := 36) dX10_lost_31 (by decide) ?_
    exact ev_iret rfl dX10_lost_36 h
def FX10_lost  (f : Mm) : Option (Int × Mm) := FX10_lost_0  f
theorem TX10_lost {G : GT} {l : Launch} {Q : Option AV → Mem → Prop}  (f : Mm) (h : OkI Q (FX10_lost  f)) : Ret G l MX10_lost (6) 0 0 [vR 0] (SH, RF, f) Q := by
  refine ret_of (L := [some (vR 0)]) (by decide) rfl (Nat.le_of_ble_eq_true rfl) ?_
  exact SX10_lost_0  f h
theorem dX1_keptBits_0 : decode cX1_keptBits 0 = .ok (.aload_n 0, 1) := by decide +kernel
theorem dX1_keptBits_1 : decode cX1_keptBits 1 = .ok (.getfield 29, 3) := by decide +kernel
theorem dX1_keptBits_4 : decode cX1_keptBits 4 = .ok (.aload_n 1, 1) := by decide +kernel
theorem dX1_keptBits_5 : decode cX1_keptBits 5 = .ok (.getfield 51, 3) := by decide +kernel
theorem dX1_keptBits_8 : decode cX1_keptBits 8 = .ok (.iaload, 1) := by decide +kernel
theorem dX1_keptBits_9 : decode cX1_keptBits 9 = .ok (.ireturn, 1) := by decide +kernel
def FX1_keptBits_48_4_0   (f : Mm) : Option (Int × Mm) := (if 0 ≤ (f 4 1) ∧ (f 4 1) < 7 then some ((f 56 (f 4 1).toNat), f) else none)
set_option maxHeartbeats 4000000 in
set_option maxRecDepth 100000 in
theorem SX1_keptBits_48_4_0 {G : GT} {l : Launch} {Q : Option AV → Mem → Prop}   (f : Mm) (h : OkI Q (FX1_keptBits_48_4_0   f)) : Ev G l MX1_keptBits (Rm 1 0 0) (ZM G Q 0 0) 0 0 0 [some (vR 48), some (vR 4)] [] (SH, RF, f) := by
  unfold FX1_keptBits_48_4_0 at h
  refine ev_aload_n (i := 0) dX1_keptBits_0 rfl rfl ?_
  refine ev_getR dX1_keptBits_1 fl_X1_29 sh_48 (by decide) (by decide) rf_48_9 ?_
  refine ev_aload_n (i := 1) dX1_keptBits_4 rfl rfl ?_
  refine ex_getI (x := (f 4 1)) dX1_keptBits_5 fl_X1_51 sh_4 (by decide) (by decide) rfl ?_
  by_cases g1 : 0 ≤ (f 4 1) ∧ (f 4 1) < 7
  · rw [if_pos g1] at h
    refine ex_iald (x := (f 56 (f 4 1).toNat)) dX1_keptBits_8 sh_56 g1.1 g1.2 rfl ?_
    exact ev_iret rfl dX1_keptBits_9 h
  · rw [if_neg g1] at h; exact h.elim
def FX1_keptBits_48_4  (f : Mm) : Option (Int × Mm) := FX1_keptBits_48_4_0  f
theorem TX1_keptBits_48_4 {G : GT} {l : Launch} {Q : Option AV → Mem → Prop}  (f : Mm) (h : OkI Q (FX1_keptBits_48_4  f)) : Ret G l MX1_keptBits (1) 0 0 [vR 48, vR 4] (SH, RF, f) Q := by
  refine ret_of (L := [some (vR 48), some (vR 4)]) (by decide) rfl (Nat.le_of_ble_eq_true rfl) ?_
  exact SX1_keptBits_48_4_0  f h
theorem dX10_kept_0 : decode cX10_kept 0 = .ok (.aload_n 0, 1) := by decide +kernel
theorem dX10_kept_1 : decode cX10_kept 1 = .ok (.getfield 19, 3) := by decide +kernel
theorem dX10_kept_4 : decode cX10_kept 4 = .ok (.invokevirtual 140, 3) := by decide +kernel
theorem dX10_kept_7 : decode cX10_kept 7 = .ok (.ifCond .eq 17, 3) := by decide +kernel
theorem dX10_kept_24 : decode cX10_kept 24 = .ok (.bipush (-2), 2) := by decide +kernel
theorem dX10_kept_26 : decode cX10_kept 26 = .ok (.ireturn, 1) := by decide +kernel
theorem dX10_kept_10 : decode cX10_kept 10 = .ok (.aload_n 0, 1) := by decide +kernel
theorem dX10_kept_11 : decode cX10_kept 11 = .ok (.invokevirtual 129, 3) := by decide +kernel
theorem dX10_kept_14 : decode cX10_kept 14 = .ok (.aload_n 0, 1) := by decide +kernel
theorem dX10_kept_15 : decode cX10_kept 15 = .ok (.getfield 19, 3) := by decide +kernel
theorem dX10_kept_18 : decode cX10_kept 18 = .ok (.invokevirtual 176, 3) := by decide +kernel
theorem dX10_kept_21 : decode cX10_kept 21 = .ok (.goto 5, 3) := by decide +kernel
def FX10_kept_0   (f : Mm) : Option (Int × Mm) := (b2 (FX0_stands_4 f) fun y1 f1 => (if y1 = 0 then some ((-2), f1) else ((FX10_asNow f1).bind fun f2 => (b2 (FX1_keptBits_48_4 f2) fun y3 f3 => some (y3, f3)))))
set_option maxHeartbeats 4000000 in
set_option maxRecDepth 100000 in
theorem SX10_kept_0 {G : GT} {l : Launch} {Q : Option AV → Mem → Prop}   (f : Mm) (h : OkI Q (FX10_kept_0   f)) : Ev G l MX10_kept (Rm 6 0 0) (ZM G Q 0 0) 0 0 0 [some (vR 0)] [] (SH, RF, f) := by
  unfold FX10_kept_0 at h
  refine ev_aload_n (i := 0) dX10_kept_0 rfl rfl ?_
  refine ev_getR dX10_kept_1 fl_X10_19 sh_0 (by decide) (by decide) rf_0_1 ?_
  refine ev_cVI (b := 4) (av := []) (S := []) (fun q => q) h dX10_kept_4 (fun Q' q => TX0_stands_4 _ q) kvX0_stands ml_X10_140 sh_4 rfl (RRc (by decide) (by decide)) (Nat.le_of_ble_eq_true rfl) ⟨Nat.le_of_ble_eq_true rfl, Nat.le_of_ble_eq_true rfl⟩ (fun y1 f1 h => ?_)
  refine ev_if_eq (tgt := 24) dX10_kept_7 (by decide) (fun c4 => ?_) (fun c4 => ?_)
  · rw [if_pos c4] at h
    refine ev_bipush (v := (-2)) dX10_kept_24 (r32c rfl) (by decide) ?_
    exact ev_iret rfl dX10_kept_26 h
  · rw [if_neg c4] at h
    refine ev_aload_n (i := 0) dX10_kept_10 rfl rfl ?_
    refine ev_cVC (b := 0) (av := []) (S := []) (fun q => q) h dX10_kept_11 (fun Q' q => TX10_asNow _ q) kvX10_asNow ml_X10_129 sh_0 rfl (RRc (by decide) (by decide)) (Nat.le_of_ble_eq_true rfl) ⟨Nat.le_of_ble_eq_true rfl, Nat.le_of_ble_eq_true rfl⟩ (fun f2 h => ?_)
    refine ev_aload_n (i := 0) dX10_kept_14 rfl rfl ?_
    refine ev_getR dX10_kept_15 fl_X10_19 sh_0 (by decide) (by decide) rf_0_1 ?_
    refine ev_cVI (b := 48) (av := [vR 4]) (S := []) (fun q => q) h dX10_kept_18 (fun Q' q => TX1_keptBits_48_4 _ q) kvX1_keptBits ml_X10_176 sh_48 rfl (RRc (by decide) (by decide)) (Nat.le_of_ble_eq_true rfl) ⟨Nat.le_of_ble_eq_true rfl, Nat.le_of_ble_eq_true rfl⟩ (fun y3 f3 h => ?_)
    refine ev_goto (tgt := 26) dX10_kept_21 (by decide) ?_
    exact ev_iret rfl dX10_kept_26 h
def FX10_kept  (f : Mm) : Option (Int × Mm) := FX10_kept_0  f
theorem TX10_kept {G : GT} {l : Launch} {Q : Option AV → Mem → Prop}  (f : Mm) (h : OkI Q (FX10_kept  f)) : Ret G l MX10_kept (6) 0 0 [vR 0] (SH, RF, f) Q := by
  refine ret_of (L := [some (vR 0)]) (by decide) rfl (Nat.le_of_ble_eq_true rfl) ?_
  exact SX10_kept_0  f h
theorem dX0_sumOf_35 : decode cX0_sumOf 35 = .ok (.iinc 4 1, 3) := by decide +kernel
theorem dX0_sumOf_38 : decode cX0_sumOf 38 = .ok (.goto (-33), 3) := by decide +kernel
theorem dX0_sumOf_5 : decode cX0_sumOf 5 = .ok (.iload 4, 2) := by decide +kernel
theorem dX0_sumOf_7 : decode cX0_sumOf 7 = .ok (.aload_n 0, 1) := by decide +kernel
theorem dX0_sumOf_8 : decode cX0_sumOf 8 = .ok (.getfield 48, 3) := by decide +kernel
theorem dX0_sumOf_11 : decode cX0_sumOf 11 = .ok (.if_icmp .ge 30, 3) := by decide +kernel
theorem dX0_sumOf_41 : decode cX0_sumOf 41 = .ok (.iload_n 3, 1) := by decide +kernel
theorem dX0_sumOf_42 : decode cX0_sumOf 42 = .ok (.ireturn, 1) := by decide +kernel
theorem dX0_sumOf_14 : decode cX0_sumOf 14 = .ok (.iload_n 1, 1) := by decide +kernel
theorem dX0_sumOf_15 : decode cX0_sumOf 15 = .ok (.iload 4, 2) := by decide +kernel
theorem dX0_sumOf_17 : decode cX0_sumOf 17 = .ok (.invokestatic 77, 3) := by decide +kernel
theorem dX0_sumOf_20 : decode cX0_sumOf 20 = .ok (.ifCond .eq 15, 3) := by decide +kernel
theorem dX0_sumOf_23 : decode cX0_sumOf 23 = .ok (.iload_n 3, 1) := by decide +kernel
theorem dX0_sumOf_24 : decode cX0_sumOf 24 = .ok (.aload_n 0, 1) := by decide +kernel
theorem dX0_sumOf_25 : decode cX0_sumOf 25 = .ok (.getfield 20, 3) := by decide +kernel
theorem dX0_sumOf_28 : decode cX0_sumOf 28 = .ok (.iload 4, 2) := by decide +kernel
theorem dX0_sumOf_30 : decode cX0_sumOf 30 = .ok (.aaload, 1) := by decide +kernel
theorem dX0_sumOf_31 : decode cX0_sumOf 31 = .ok (.iload_n 2, 1) := by decide +kernel
theorem dX0_sumOf_32 : decode cX0_sumOf 32 = .ok (.iaload, 1) := by decide +kernel
theorem dX0_sumOf_33 : decode cX0_sumOf 33 = .ok (.iadd, 1) := by decide +kernel
theorem dX0_sumOf_34 : decode cX0_sumOf 34 = .ok (.istore_n 3, 1) := by decide +kernel
theorem dX0_sumOf_0 : decode cX0_sumOf 0 = .ok (.iconst 0, 1) := by decide +kernel
theorem dX0_sumOf_1 : decode cX0_sumOf 1 = .ok (.istore_n 3, 1) := by decide +kernel
theorem dX0_sumOf_2 : decode cX0_sumOf 2 = .ok (.iconst 0, 1) := by decide +kernel
theorem dX0_sumOf_3 : decode cX0_sumOf 3 = .ok (.istore 4, 2) := by decide +kernel
def FX0_sumOf_4_35 (k5 : Int → Int → Int → Int → Mm → Option (Int × Mm)) (x1 : Int) (x2 : Int) (x3 : Int) (x4 : Int) (f : Mm) : Option (Int × Mm) := k5 x1 x2 x3 (w32 (x4 + 1)) f
set_option maxHeartbeats 4000000 in
set_option maxRecDepth 100000 in
theorem SX0_sumOf_4_35 {G : GT} {l : Launch} {Q : Option AV → Mem → Prop} {k5 : Int → Int → Int → Int → Mm → Option (Int × Mm)} (q5 : ∀ (x1 : Int) (x2 : Int) (x3 : Int) (x4 : Int) (f : Mm), OkI Q (k5 x1 x2 x3 x4 f) → Ev G l MX0_sumOf (Rm 2 0 0) (ZM G Q 0 0) 0 0 5 [some (vR 4), some (vI x1), some (vI x2), some (vI x3), some (vI x4)] [] (SH, RF, f)) (x1 : Int) (x2 : Int) (x3 : Int) (x4 : Int) (f : Mm) (h : OkI Q (FX0_sumOf_4_35 k5 x1 x2 x3 x4 f)) : Ev G l MX0_sumOf (Rm 2 0 0) (ZM G Q 0 0) 0 0 35 [some (vR 4), some (vI x1), some (vI x2), some (vI x3), some (vI x4)] [] (SH, RF, f) := by
  unfold FX0_sumOf_4_35 at h
  refine ev_iinc (L' := [some (vR 4), some (vI x1), some (vI x2), some (vI x3), some (vI (w32 (x4 + 1)))]) dX0_sumOf_35 rfl (by decide) rfl ?_
  refine ev_goto (tgt := 5) dX0_sumOf_38 (by decide) ?_
  exact q5 x1 x2 x3 (w32 (x4 + 1)) _ h
def FX0_sumOf_4_5  : Nat → Int → Int → Int → Int → Mm → Option (Int × Mm)
  | 0, _, _, _, _, _ => none
  | n + 1, x1, x2, x3, x4, f => (if (f 4 5) ≤ x4 then some (x3, f) else (b2 (FX10_holds x1 x4 f) fun y1 f1 => (if y1 = 0 then FX0_sumOf_4_35 (FX0_sumOf_4_5 n) x1 x2 x3 x4 f1 else (if 0 ≤ x4 ∧ x4 < 6 then (if 0 ≤ x2 ∧ x2 < 5 then FX0_sumOf_4_35 (FX0_sumOf_4_5 n) x1 x2 (w32 (x3 + (f1 (12 + x4.toNat) x2.toNat))) x4 f1 else none) else none))))
set_option maxHeartbeats 4000000 in
set_option maxRecDepth 100000 in
theorem SX0_sumOf_4_5 {G : GT} {l : Launch} {Q : Option AV → Mem → Prop}  : ∀ (n : Nat) (x1 : Int) (x2 : Int) (x3 : Int) (x4 : Int) (f : Mm), OkI Q (FX0_sumOf_4_5  n x1 x2 x3 x4 f) → Ev G l MX0_sumOf (Rm 2 0 0) (ZM G Q 0 0) 0 0 5 [some (vR 4), some (vI x1), some (vI x2), some (vI x3), some (vI x4)] [] (SH, RF, f) := by
  intro n
  induction n with
  | zero => intro x1 x2 x3 x4 f h; exact absurd h (by rw [FX0_sumOf_4_5]; exact fun q => q)
  | succ n ih =>
    intro x1 x2 x3 x4 f h
    rw [FX0_sumOf_4_5] at h
    refine ev_iload dX0_sumOf_5 rfl ?_
    refine ev_aload_n (i := 0) dX0_sumOf_7 rfl rfl ?_
    refine ex_getI (x := (f 4 5)) dX0_sumOf_8 fl_X0_48 sh_4 (by decide) (by decide) rfl ?_
    refine ev_icmp_ge (tgt := 41) dX0_sumOf_11 (by decide) (fun c5 => ?_) (fun c5 => ?_)
    · rw [if_pos c5] at h
      refine ev_iload_n (i := 3) dX0_sumOf_41 rfl rfl ?_
      exact ev_iret rfl dX0_sumOf_42 h
    · rw [if_neg c5] at h
      refine ev_iload_n (i := 1) dX0_sumOf_14 rfl rfl ?_
      refine ev_iload dX0_sumOf_15 rfl ?_
      refine ev_cNI (av := [vI x1, vI x4]) (S := []) (fun q => q) h dX0_sumOf_17 (fun Q' q => TX10_holds x1 x4 _ q) ksX10_holds nw_X0_77 rfl (RRc (by decide) (by decide)) (Nat.le_of_ble_eq_true rfl) ⟨Nat.le_of_ble_eq_true rfl, Nat.le_of_ble_eq_true rfl⟩ (fun y1 f1 h => ?_)
      refine ev_if_eq (tgt := 35) dX0_sumOf_20 (by decide) (fun c4 => ?_) (fun c4 => ?_)
      · rw [if_pos c4] at h
        exact SX0_sumOf_4_35 ih x1 x2 x3 x4 _ h
      · rw [if_neg c4] at h
        refine ev_iload_n (i := 3) dX0_sumOf_23 rfl rfl ?_
        refine ev_aload_n (i := 0) dX0_sumOf_24 rfl rfl ?_
        refine ev_getR dX0_sumOf_25 fl_X0_20 sh_4 (by decide) (by decide) rf_4_9 ?_
        refine ev_iload dX0_sumOf_28 rfl ?_
        by_cases g2 : 0 ≤ x4 ∧ x4 < 6
        · rw [if_pos g2] at h
          refine ev_aald (b := (12 + x4.toNat)) dX0_sumOf_30 (Or.inl rfl) sh_11 g2.1 g2.2 (rfr_11 g2) ?_
          refine ev_iload_n (i := 2) dX0_sumOf_31 rfl rfl ?_
          by_cases g3 : 0 ≤ x2 ∧ x2 < 5
          · rw [if_pos g3] at h
            refine ex_iald (x := (f1 (12 + x4.toNat) x2.toNat)) dX0_sumOf_32 (shr_11 g2) g3.1 g3.2 rfl ?_
            refine ev_iadd dX0_sumOf_33 ?_
            refine ev_istore_n (i := 3) (L' := [some (vR 4), some (vI x1), some (vI x2), some (vI (w32 (x3 + (f1 (12 + x4.toNat) x2.toNat)))), some (vI x4)]) dX0_sumOf_34 rfl (by decide) rfl ?_
            exact SX0_sumOf_4_35 ih x1 x2 (w32 (x3 + (f1 (12 + x4.toNat) x2.toNat))) x4 _ h
          · rw [if_neg g3] at h; exact h.elim
        · rw [if_neg g2] at h; exact h.elim
def FX0_sumOf_4_0  (x1 : Int) (x2 : Int) (f : Mm) : Option (Int × Mm) := FX0_sumOf_4_5 fu x1 x2 0 0 f
set_option maxHeartbeats 4000000 in
set_option maxRecDepth 100000 in
theorem SX0_sumOf_4_0 {G : GT} {l : Launch} {Q : Option AV → Mem → Prop}  (x1 : Int) (x2 : Int) (f : Mm) (h : OkI Q (FX0_sumOf_4_0  x1 x2 f)) : Ev G l MX0_sumOf (Rm 2 0 0) (ZM G Q 0 0) 0 0 0 [some (vR 4), some (vI x1), some (vI x2), none, none] [] (SH, RF, f) := by
  unfold FX0_sumOf_4_0 at h
  refine ev_iconst dX0_sumOf_0 (r32c rfl) ?_
  refine ev_istore_n (i := 3) (L' := [some (vR 4), some (vI x1), some (vI x2), some (vI 0), none]) dX0_sumOf_1 rfl (by decide) rfl ?_
  refine ev_iconst dX0_sumOf_2 (r32c rfl) ?_
  refine ev_istore (L' := [some (vR 4), some (vI x1), some (vI x2), some (vI 0), some (vI 0)]) dX0_sumOf_3 (by decide) rfl ?_
  exact SX0_sumOf_4_5  fu x1 x2 0 0 _ h
def FX0_sumOf_4 (x1 : Int) (x2 : Int) (f : Mm) : Option (Int × Mm) := FX0_sumOf_4_0 x1 x2 f
theorem TX0_sumOf_4 {G : GT} {l : Launch} {Q : Option AV → Mem → Prop} (x1 : Int) (x2 : Int) (f : Mm) (h : OkI Q (FX0_sumOf_4 x1 x2 f)) : Ret G l MX0_sumOf (2) 0 0 [vR 4, vI x1, vI x2] (SH, RF, f) Q := by
  refine ret_of (L := [some (vR 4), some (vI x1), some (vI x2), none, none]) (by decide) rfl (Nat.le_of_ble_eq_true rfl) ?_
  exact SX0_sumOf_4_0 x1 x2 f h

theorem dX0_payOf_0 : decode cX0_payOf 0 = .ok (.aload_n 0, 1) := by decide +kernel
theorem dX0_payOf_1 : decode cX0_payOf 1 = .ok (.iload_n 1, 1) := by decide +kernel
theorem dX0_payOf_2 : decode cX0_payOf 2 = .ok (.iconst 4, 1) := by decide +kernel
theorem dX0_payOf_3 : decode cX0_payOf 3 = .ok (.invokevirtual 73, 3) := by decide +kernel
theorem dX0_payOf_6 : decode cX0_payOf 6 = .ok (.ireturn, 1) := by decide +kernel
def FX0_payOf_4_0  (x1 : Int) (f : Mm) : Option (Int × Mm) := (b2 (FX0_sumOf_4 x1 4 f) fun y1 f1 => some (y1, f1))
set_option maxHeartbeats 4000000 in
set_option maxRecDepth 100000 in
theorem SX0_payOf_4_0 {G : GT} {l : Launch} {Q : Option AV → Mem → Prop}  (x1 : Int) (f : Mm) (h : OkI Q (FX0_payOf_4_0  x1 f)) : Ev G l MX0_payOf (Rm 3 0 0) (ZM G Q 0 0) 0 0 0 [some (vR 4), some (vI x1)] [] (SH, RF, f) := by
  unfold FX0_payOf_4_0 at h
  refine ev_aload_n (i := 0) dX0_payOf_0 rfl rfl ?_
  refine ev_iload_n (i := 1) dX0_payOf_1 rfl rfl ?_
  refine ev_iconst dX0_payOf_2 (r32c rfl) ?_
  refine ev_cVI (b := 4) (av := [vI x1, vI 4]) (S := []) (fun q => q) h dX0_payOf_3 (fun Q' q => TX0_sumOf_4 x1 4 _ q) kvX0_sumOf ml_X0_73 sh_4 rfl (RRc (by decide) (by decide)) (Nat.le_of_ble_eq_true rfl) ⟨Nat.le_of_ble_eq_true rfl, Nat.le_of_ble_eq_true rfl⟩ (fun y1 f1 h => ?_)
  exact ev_iret rfl dX0_payOf_6 h
def FX0_payOf_4 (x1 : Int) (f : Mm) : Option (Int × Mm) := FX0_payOf_4_0 x1 f
theorem TX0_payOf_4 {G : GT} {l : Launch} {Q : Option AV → Mem → Prop} (x1 : Int) (f : Mm) (h : OkI Q (FX0_payOf_4 x1 f)) : Ret G l MX0_payOf (3) 0 0 [vR 4, vI x1] (SH, RF, f) Q := by
  refine ret_of (L := [some (vR 4), some (vI x1)]) (by decide) rfl (Nat.le_of_ble_eq_true rfl) ?_
  exact SX0_payOf_4_0 x1 f h
theorem dX10_pays_0 : decode cX10_pays 0 = .ok (.aload_n 0, 1) := by decide +kernel
theorem dX10_pays_1 : decode cX10_pays 1 = .ok (.getfield 19, 3) := by decide +kernel
theorem dX10_pays_4 : decode cX10_pays 4 = .ok (.invokevirtual 140, 3) := by decide +kernel
theorem dX10_pays_7 : decode cX10_pays 7 = .ok (.ifCond .eq 24, 3) := by decide +kernel
theorem dX10_pays_31 : decode cX10_pays 31 = .ok (.bipush (-2), 2) := by decide +kernel
theorem dX10_pays_33 : decode cX10_pays 33 = .ok (.ireturn, 1) := by decide +kernel
theorem dX10_pays_10 : decode cX10_pays 10 = .ok (.aload_n 0, 1) := by decide +kernel
theorem dX10_pays_11 : decode cX10_pays 11 = .ok (.getfield 19, 3) := by decide +kernel
theorem dX10_pays_14 : decode cX10_pays 14 = .ok (.aload_n 0, 1) := by decide +kernel
theorem dX10_pays_15 : decode cX10_pays 15 = .ok (.invokevirtual 129, 3) := by decide +kernel
theorem dX10_pays_18 : decode cX10_pays 18 = .ok (.aload_n 0, 1) := by decide +kernel
theorem dX10_pays_19 : decode cX10_pays 19 = .ok (.getfield 19, 3) := by decide +kernel
theorem dX10_pays_22 : decode cX10_pays 22 = .ok (.invokevirtual 176, 3) := by decide +kernel
theorem dX10_pays_25 : decode cX10_pays 25 = .ok (.invokevirtual 179, 3) := by decide +kernel
theorem dX10_pays_28 : decode cX10_pays 28 = .ok (.goto 5, 3) := by decide +kernel
def FX10_pays_0   (f : Mm) : Option (Int × Mm) := (b2 (FX0_stands_4 f) fun y1 f1 => (if y1 = 0 then some ((-2), f1) else ((FX10_asNow f1).bind fun f2 => (b2 (FX1_keptBits_48_4 f2) fun y3 f3 => (b2 (FX0_payOf_4 y3 f3) fun y4 f4 => some (y4, f4))))))
set_option maxHeartbeats 4000000 in
set_option maxRecDepth 100000 in
theorem SX10_pays_0 {G : GT} {l : Launch} {Q : Option AV → Mem → Prop}   (f : Mm) (h : OkI Q (FX10_pays_0   f)) : Ev G l MX10_pays (Rm 6 0 0) (ZM G Q 0 0) 0 0 0 [some (vR 0)] [] (SH, RF, f) := by
  unfold FX10_pays_0 at h
  refine ev_aload_n (i := 0) dX10_pays_0 rfl rfl ?_
  refine ev_getR dX10_pays_1 fl_X10_19 sh_0 (by decide) (by decide) rf_0_1 ?_
  refine ev_cVI (b := 4) (av := []) (S := []) (fun q => q) h dX10_pays_4 (fun Q' q => TX0_stands_4 _ q) kvX0_stands ml_X10_140 sh_4 rfl (RRc (by decide) (by decide)) (Nat.le_of_ble_eq_true rfl) ⟨Nat.le_of_ble_eq_true rfl, Nat.le_of_ble_eq_true rfl⟩ (fun y1 f1 h => ?_)
  refine ev_if_eq (tgt := 31) dX10_pays_7 (by decide) (fun c5 => ?_) (fun c5 => ?_)
  · rw [if_pos c5] at h
    refine ev_bipush (v := (-2)) dX10_pays_31 (r32c rfl) (by decide) ?_
    exact ev_iret rfl dX10_pays_33 h
  · rw [if_neg c5] at h
    refine ev_aload_n (i := 0) dX10_pays_10 rfl rfl ?_
    refine ev_getR dX10_pays_11 fl_X10_19 sh_0 (by decide) (by decide) rf_0_1 ?_
    refine ev_aload_n (i := 0) dX10_pays_14 rfl rfl ?_
    refine ev_cVC (b := 0) (av := []) (S := [vR 4]) (fun q => q) h dX10_pays_15 (fun Q' q => TX10_asNow _ q) kvX10_asNow ml_X10_129 sh_0 rfl (RRc (by decide) (by decide)) (Nat.le_of_ble_eq_true rfl) ⟨Nat.le_of_ble_eq_true rfl, Nat.le_of_ble_eq_true rfl⟩ (fun f2 h => ?_)
    refine ev_aload_n (i := 0) dX10_pays_18 rfl rfl ?_
    refine ev_getR dX10_pays_19 fl_X10_19 sh_0 (by decide) (by decide) rf_0_1 ?_
    refine ev_cVI (b := 48) (av := [vR 4]) (S := [vR 4]) (fun q => q) h dX10_pays_22 (fun Q' q => TX1_keptBits_48_4 _ q) kvX1_keptBits ml_X10_176 sh_48 rfl (RRc (by decide) (by decide)) (Nat.le_of_ble_eq_true rfl) ⟨Nat.le_of_ble_eq_true rfl, Nat.le_of_ble_eq_true rfl⟩ (fun y3 f3 h => ?_)
    refine ev_cVI (b := 4) (av := [vI y3]) (S := []) (fun q => q) h dX10_pays_25 (fun Q' q => TX0_payOf_4 y3 _ q) kvX0_payOf ml_X10_179 sh_4 rfl (RRc (by decide) (by decide)) (Nat.le_of_ble_eq_true rfl) ⟨Nat.le_of_ble_eq_true rfl, Nat.le_of_ble_eq_true rfl⟩ (fun y4 f4 h => ?_)
    refine ev_goto (tgt := 33) dX10_pays_28 (by decide) ?_
    exact ev_iret rfl dX10_pays_33 h
def FX10_pays  (f : Mm) : Option (Int × Mm) := FX10_pays_0  f
theorem TX10_pays {G : GT} {l : Launch} {Q : Option AV → Mem → Prop}  (f : Mm) (h : OkI Q (FX10_pays  f)) : Ret G l MX10_pays (6) 0 0 [vR 0] (SH, RF, f) Q := by
  refine ret_of (L := [some (vR 0)]) (by decide) rfl (Nat.le_of_ble_eq_true rfl) ?_
  exact SX10_pays_0  f h
theorem dX0_costOf_0 : decode cX0_costOf 0 = .ok (.aload_n 0, 1) := by decide +kernel
theorem dX0_costOf_1 : decode cX0_costOf 1 = .ok (.iload_n 1, 1) := by decide +kernel
theorem dX0_costOf_2 : decode cX0_costOf 2 = .ok (.invokevirtual 69, 3) := by decide +kernel
theorem dX0_costOf_5 : decode cX0_costOf 5 = .ok (.ifCond .eq 14, 3) := by decide +kernel
theorem dX0_costOf_19 : decode cX0_costOf 19 = .ok (.iconst 0, 1) := by decide +kernel
theorem dX0_costOf_20 : decode cX0_costOf 20 = .ok (.ireturn, 1) := by decide +kernel
theorem dX0_costOf_8 : decode cX0_costOf 8 = .ok (.aload_n 0, 1) := by decide +kernel
theorem dX0_costOf_9 : decode cX0_costOf 9 = .ok (.getfield 17, 3) := by decide +kernel
theorem dX0_costOf_12 : decode cX0_costOf 12 = .ok (.iload_n 1, 1) := by decide +kernel
theorem dX0_costOf_13 : decode cX0_costOf 13 = .ok (.aaload, 1) := by decide +kernel
theorem dX0_costOf_14 : decode cX0_costOf 14 = .ok (.iconst 1, 1) := by decide +kernel
theorem dX0_costOf_15 : decode cX0_costOf 15 = .ok (.iaload, 1) := by decide +kernel
theorem dX0_costOf_16 : decode cX0_costOf 16 = .ok (.goto 4, 3) := by decide +kernel
def FX0_costOf_4_0  (x1 : Int) (f : Mm) : Option (Int × Mm) := (b2 (FX0_hasDeed_4 x1 f) fun y1 f1 => (if y1 = 0 then some (0, f1) else (if 0 ≤ x1 ∧ x1 < 4 then some ((f1 (7 + x1.toNat) 1), f1) else none)))
set_option maxHeartbeats 4000000 in
set_option maxRecDepth 100000 in
theorem SX0_costOf_4_0 {G : GT} {l : Launch} {Q : Option AV → Mem → Prop}  (x1 : Int) (f : Mm) (h : OkI Q (FX0_costOf_4_0  x1 f)) : Ev G l MX0_costOf (Rm 2 0 0) (ZM G Q 0 0) 0 0 0 [some (vR 4), some (vI x1)] [] (SH, RF, f) := by
  unfold FX0_costOf_4_0 at h
  refine ev_aload_n (i := 0) dX0_costOf_0 rfl rfl ?_
  refine ev_iload_n (i := 1) dX0_costOf_1 rfl rfl ?_
  refine ev_cVI (b := 4) (av := [vI x1]) (S := []) (fun q => q) h dX0_costOf_2 (fun Q' q => TX0_hasDeed_4 x1 _ q) kvX0_hasDeed ml_X0_69 sh_4 rfl (RRc (by decide) (by decide)) (Nat.le_of_ble_eq_true rfl) ⟨Nat.le_of_ble_eq_true rfl, Nat.le_of_ble_eq_true rfl⟩ (fun y1 f1 h => ?_)
  refine ev_if_eq (tgt := 19) dX0_costOf_5 (by decide) (fun c3 => ?_) (fun c3 => ?_)
  · rw [if_pos c3] at h
    refine ev_iconst dX0_costOf_19 (r32c rfl) ?_
    exact ev_iret rfl dX0_costOf_20 h
  · rw [if_neg c3] at h
    refine ev_aload_n (i := 0) dX0_costOf_8 rfl rfl ?_
    refine ev_getR dX0_costOf_9 fl_X0_17 sh_4 (by decide) (by decide) rf_4_8 ?_
    refine ev_iload_n (i := 1) dX0_costOf_12 rfl rfl ?_
    by_cases g2 : 0 ≤ x1 ∧ x1 < 4
    · rw [if_pos g2] at h
      refine ev_aald (b := (7 + x1.toNat)) dX0_costOf_13 (Or.inl rfl) sh_6 g2.1 g2.2 (rfr_6 g2) ?_
      refine ev_iconst dX0_costOf_14 (r32c rfl) ?_
      refine ex_iald (x := (f1 (7 + x1.toNat) 1)) dX0_costOf_15 (shr_6 g2) (by decide) (by decide) rfl ?_
      refine ev_goto (tgt := 20) dX0_costOf_16 (by decide) ?_
      exact ev_iret rfl dX0_costOf_20 h
    · rw [if_neg g2] at h; exact h.elim
def FX0_costOf_4 (x1 : Int) (f : Mm) : Option (Int × Mm) := FX0_costOf_4_0 x1 f
theorem TX0_costOf_4 {G : GT} {l : Launch} {Q : Option AV → Mem → Prop} (x1 : Int) (f : Mm) (h : OkI Q (FX0_costOf_4 x1 f)) : Ret G l MX0_costOf (2) 0 0 [vR 4, vI x1] (SH, RF, f) Q := by
  refine ret_of (L := [some (vR 4), some (vI x1)]) (by decide) rfl (Nat.le_of_ble_eq_true rfl) ?_
  exact SX0_costOf_4_0 x1 f h
theorem dX0_costOfAll_4 : decode cX0_costOfAll 4 = .ok (.iload_n 3, 1) := by decide +kernel
theorem dX0_costOfAll_5 : decode cX0_costOfAll 5 = .ok (.aload_n 0, 1) := by decide +kernel
theorem dX0_costOfAll_6 : decode cX0_costOfAll 6 = .ok (.getfield 36, 3) := by decide +kernel
theorem dX0_costOfAll_9 : decode cX0_costOfAll 9 = .ok (.if_icmp .ge 25, 3) := by decide +kernel
theorem dX0_costOfAll_34 : decode cX0_costOfAll 34 = .ok (.iload_n 2, 1) := by decide +kernel
theorem dX0_costOfAll_35 : decode cX0_costOfAll 35 = .ok (.ireturn, 1) := by decide +kernel
theorem dX0_costOfAll_12 : decode cX0_costOfAll 12 = .ok (.iload_n 3, 1) := by decide +kernel
theorem dX0_costOfAll_13 : decode cX0_costOfAll 13 = .ok (.aload_n 1, 1) := by decide +kernel
theorem dX0_costOfAll_14 : decode cX0_costOfAll 14 = .ok (.arraylength, 1) := by decide +kernel
theorem dX0_costOfAll_15 : decode cX0_costOfAll 15 = .ok (.if_icmp .ge 19, 3) := by decide +kernel
theorem dX0_costOfAll_18 : decode cX0_costOfAll 18 = .ok (.iload_n 2, 1) := by decide +kernel
theorem dX0_costOfAll_19 : decode cX0_costOfAll 19 = .ok (.aload_n 0, 1) := by decide +kernel
theorem dX0_costOfAll_20 : decode cX0_costOfAll 20 = .ok (.aload_n 1, 1) := by decide +kernel
theorem dX0_costOfAll_21 : decode cX0_costOfAll 21 = .ok (.iload_n 3, 1) := by decide +kernel
theorem dX0_costOfAll_22 : decode cX0_costOfAll 22 = .ok (.iaload, 1) := by decide +kernel
theorem dX0_costOfAll_23 : decode cX0_costOfAll 23 = .ok (.invokevirtual 81, 3) := by decide +kernel
theorem dX0_costOfAll_26 : decode cX0_costOfAll 26 = .ok (.iadd, 1) := by decide +kernel
theorem dX0_costOfAll_27 : decode cX0_costOfAll 27 = .ok (.istore_n 2, 1) := by decide +kernel
theorem dX0_costOfAll_28 : decode cX0_costOfAll 28 = .ok (.iinc 3 1, 3) := by decide +kernel
theorem dX0_costOfAll_31 : decode cX0_costOfAll 31 = .ok (.goto (-27), 3) := by decide +kernel
theorem dX0_costOfAll_0 : decode cX0_costOfAll 0 = .ok (.iconst 0, 1) := by decide +kernel
theorem dX0_costOfAll_1 : decode cX0_costOfAll 1 = .ok (.istore_n 2, 1) := by decide +kernel
theorem dX0_costOfAll_2 : decode cX0_costOfAll 2 = .ok (.iconst 0, 1) := by decide +kernel
theorem dX0_costOfAll_3 : decode cX0_costOfAll 3 = .ok (.istore_n 3, 1) := by decide +kernel
def FX0_costOfAll_4_18_4  : Nat → Int → Int → Mm → Option (Int × Mm)
  | 0, _, _, _ => none
  | n + 1, x2, x3, f => (if (f 4 1) ≤ x3 then some (x2, f) else (if 6 ≤ x3 then some (x2, f) else (if 0 ≤ x3 ∧ x3 < 6 then (b2 (FX0_costOf_4 (f 18 x3.toNat) f) fun y2 f2 => FX0_costOfAll_4_18_4 n (w32 (x2 + y2)) (w32 (x3 + 1)) f2) else none)))
set_option maxHeartbeats 4000000 in
set_option maxRecDepth 100000 in
theorem SX0_costOfAll_4_18_4 {G : GT} {l : Launch} {Q : Option AV → Mem → Prop}  : ∀ (n : Nat) (x2 : Int) (x3 : Int) (f : Mm), OkI Q (FX0_costOfAll_4_18_4  n x2 x3 f) → Ev G l MX0_costOfAll (Rm 3 0 0) (ZM G Q 0 0) 0 0 4 [some (vR 4), some (vR 18), some (vI x2), some (vI x3)] [] (SH, RF, f) := by
  intro n
  induction n with
  | zero => intro x2 x3 f h; exact absurd h (by rw [FX0_costOfAll_4_18_4]; exact fun q => q)
  | succ n ih =>
    intro x2 x3 f h
    rw [FX0_costOfAll_4_18_4] at h
    refine ev_iload_n (i := 3) dX0_costOfAll_4 rfl rfl ?_
    refine ev_aload_n (i := 0) dX0_costOfAll_5 rfl rfl ?_
    refine ex_getI (x := (f 4 1)) dX0_costOfAll_6 fl_X0_36 sh_4 (by decide) (by decide) rfl ?_
    refine ev_icmp_ge (tgt := 34) dX0_costOfAll_9 (by decide) (fun c4 => ?_) (fun c4 => ?_)
    · rw [if_pos c4] at h
      refine ev_iload_n (i := 2) dX0_costOfAll_34 rfl rfl ?_
      exact ev_iret rfl dX0_costOfAll_35 h
    · rw [if_neg c4] at h
      refine ev_iload_n (i := 3) dX0_costOfAll_12 rfl rfl ?_
      refine ev_aload_n (i := 1) dX0_costOfAll_13 rfl rfl ?_
      refine ev_alen dX0_costOfAll_14 (by decide) sh_18 (r32c rfl) ?_
      refine ev_icmp_ge (tgt := 34) dX0_costOfAll_15 (by decide) (fun c3 => ?_) (fun c3 => ?_)
      · rw [if_pos c3] at h
        refine ev_iload_n (i := 2) dX0_costOfAll_34 rfl rfl ?_
        exact ev_iret rfl dX0_costOfAll_35 h
      · rw [if_neg c3] at h
        refine ev_iload_n (i := 2) dX0_costOfAll_18 rfl rfl ?_
        refine ev_aload_n (i := 0) dX0_costOfAll_19 rfl rfl ?_
        refine ev_aload_n (i := 1) dX0_costOfAll_20 rfl rfl ?_
        refine ev_iload_n (i := 3) dX0_costOfAll_21 rfl rfl ?_
        by_cases g1 : 0 ≤ x3 ∧ x3 < 6
        · rw [if_pos g1] at h
          refine ex_iald (x := (f 18 x3.toNat)) dX0_costOfAll_22 sh_18 g1.1 g1.2 rfl ?_
          refine ev_cVI (b := 4) (av := [vI (f 18 x3.toNat)]) (S := [vI x2]) (fun q => q) h dX0_costOfAll_23 (fun Q' q => TX0_costOf_4 (f 18 x3.toNat) _ q) kvX0_costOf ml_X0_81 sh_4 rfl (RRc (by decide) (by decide)) (Nat.le_of_ble_eq_true rfl) ⟨Nat.le_of_ble_eq_true rfl, Nat.le_of_ble_eq_true rfl⟩ (fun y2 f2 h => ?_)
          refine ev_iadd dX0_costOfAll_26 ?_
          refine ev_istore_n (i := 2) (L' := [some (vR 4), some (vR 18), some (vI (w32 (x2 + y2))), some (vI x3)]) dX0_costOfAll_27 rfl (by decide) rfl ?_
          refine ev_iinc (L' := [some (vR 4), some (vR 18), some (vI (w32 (x2 + y2))), some (vI (w32 (x3 + 1)))]) dX0_costOfAll_28 rfl (by decide) rfl ?_
          refine ev_goto (tgt := 4) dX0_costOfAll_31 (by decide) ?_
          exact ih (w32 (x2 + y2)) (w32 (x3 + 1)) _ h
        · rw [if_neg g1] at h; exact h.elim
def FX0_costOfAll_4_18_0   (f : Mm) : Option (Int × Mm) := FX0_costOfAll_4_18_4 fu 0 0 f
set_option maxHeartbeats 4000000 in
set_option maxRecDepth 100000 in
theorem SX0_costOfAll_4_18_0 {G : GT} {l : Launch} {Q : Option AV → Mem → Prop}   (f : Mm) (h : OkI Q (FX0_costOfAll_4_18_0   f)) : Ev G l MX0_costOfAll (Rm 3 0 0) (ZM G Q 0 0) 0 0 0 [some (vR 4), some (vR 18), none, none] [] (SH, RF, f) := by
  unfold FX0_costOfAll_4_18_0 at h
  refine ev_iconst dX0_costOfAll_0 (r32c rfl) ?_
  refine ev_istore_n (i := 2) (L' := [some (vR 4), some (vR 18), some (vI 0), none]) dX0_costOfAll_1 rfl (by decide) rfl ?_
  refine ev_iconst dX0_costOfAll_2 (r32c rfl) ?_
  refine ev_istore_n (i := 3) (L' := [some (vR 4), some (vR 18), some (vI 0), some (vI 0)]) dX0_costOfAll_3 rfl (by decide) rfl ?_
  exact SX0_costOfAll_4_18_4  fu 0 0 _ h
def FX0_costOfAll_4_18  (f : Mm) : Option (Int × Mm) := FX0_costOfAll_4_18_0  f
theorem TX0_costOfAll_4_18 {G : GT} {l : Launch} {Q : Option AV → Mem → Prop}  (f : Mm) (h : OkI Q (FX0_costOfAll_4_18  f)) : Ret G l MX0_costOfAll (3) 0 0 [vR 4, vR 18] (SH, RF, f) Q := by
  refine ret_of (L := [some (vR 4), some (vR 18), none, none]) (by decide) rfl (Nat.le_of_ble_eq_true rfl) ?_
  exact SX0_costOfAll_4_18_0  f h
theorem dX10_costs_0 : decode cX10_costs 0 = .ok (.aload_n 0, 1) := by decide +kernel
theorem dX10_costs_1 : decode cX10_costs 1 = .ok (.getfield 19, 3) := by decide +kernel
theorem dX10_costs_4 : decode cX10_costs 4 = .ok (.invokevirtual 140, 3) := by decide +kernel
theorem dX10_costs_7 : decode cX10_costs 7 = .ok (.ifCond .eq 20, 3) := by decide +kernel
theorem dX10_costs_27 : decode cX10_costs 27 = .ok (.bipush (-2), 2) := by decide +kernel
theorem dX10_costs_29 : decode cX10_costs 29 = .ok (.ireturn, 1) := by decide +kernel
theorem dX10_costs_10 : decode cX10_costs 10 = .ok (.aload_n 0, 1) := by decide +kernel
theorem dX10_costs_11 : decode cX10_costs 11 = .ok (.getfield 19, 3) := by decide +kernel
theorem dX10_costs_14 : decode cX10_costs 14 = .ok (.aload_n 0, 1) := by decide +kernel
theorem dX10_costs_15 : decode cX10_costs 15 = .ok (.getfield 19, 3) := by decide +kernel
theorem dX10_costs_18 : decode cX10_costs 18 = .ok (.getfield 182, 3) := by decide +kernel
theorem dX10_costs_21 : decode cX10_costs 21 = .ok (.invokevirtual 185, 3) := by decide +kernel
theorem dX10_costs_24 : decode cX10_costs 24 = .ok (.goto 5, 3) := by decide +kernel
def FX10_costs_0   (f : Mm) : Option (Int × Mm) := (b2 (FX0_stands_4 f) fun y1 f1 => (if y1 = 0 then some ((-2), f1) else (b2 (FX0_costOfAll_4_18 f1) fun y2 f2 => some (y2, f2))))
set_option maxHeartbeats 4000000 in
set_option maxRecDepth 100000 in
theorem SX10_costs_0 {G : GT} {l : Launch} {Q : Option AV → Mem → Prop}   (f : Mm) (h : OkI Q (FX10_costs_0   f)) : Ev G l MX10_costs (Rm 4 0 0) (ZM G Q 0 0) 0 0 0 [some (vR 0)] [] (SH, RF, f) := by
  unfold FX10_costs_0 at h
  refine ev_aload_n (i := 0) dX10_costs_0 rfl rfl ?_
  refine ev_getR dX10_costs_1 fl_X10_19 sh_0 (by decide) (by decide) rf_0_1 ?_
  refine ev_cVI (b := 4) (av := []) (S := []) (fun q => q) h dX10_costs_4 (fun Q' q => TX0_stands_4 _ q) kvX0_stands ml_X10_140 sh_4 rfl (RRc (by decide) (by decide)) (Nat.le_of_ble_eq_true rfl) ⟨Nat.le_of_ble_eq_true rfl, Nat.le_of_ble_eq_true rfl⟩ (fun y1 f1 h => ?_)
  refine ev_if_eq (tgt := 27) dX10_costs_7 (by decide) (fun c3 => ?_) (fun c3 => ?_)
  · rw [if_pos c3] at h
    refine ev_bipush (v := (-2)) dX10_costs_27 (r32c rfl) (by decide) ?_
    exact ev_iret rfl dX10_costs_29 h
  · rw [if_neg c3] at h
    refine ev_aload_n (i := 0) dX10_costs_10 rfl rfl ?_
    refine ev_getR dX10_costs_11 fl_X10_19 sh_0 (by decide) (by decide) rf_0_1 ?_
    refine ev_aload_n (i := 0) dX10_costs_14 rfl rfl ?_
    refine ev_getR dX10_costs_15 fl_X10_19 sh_0 (by decide) (by decide) rf_0_1 ?_
    refine ev_getR dX10_costs_18 fl_X10_182 sh_4 (by decide) (by decide) rf_4_10 ?_
    refine ev_cVI (b := 4) (av := [vR 18]) (S := []) (fun q => q) h dX10_costs_21 (fun Q' q => TX0_costOfAll_4_18 _ q) kvX0_costOfAll ml_X10_185 sh_4 rfl (RRc (by decide) (by decide)) (Nat.le_of_ble_eq_true rfl) ⟨Nat.le_of_ble_eq_true rfl, Nat.le_of_ble_eq_true rfl⟩ (fun y2 f2 h => ?_)
    refine ev_goto (tgt := 29) dX10_costs_24 (by decide) ?_
    exact ev_iret rfl dX10_costs_29 h
def FX10_costs  (f : Mm) : Option (Int × Mm) := FX10_costs_0  f
theorem TX10_costs {G : GT} {l : Launch} {Q : Option AV → Mem → Prop}  (f : Mm) (h : OkI Q (FX10_costs  f)) : Ret G l MX10_costs (4) 0 0 [vR 0] (SH, RF, f) Q := by
  refine ret_of (L := [some (vR 0)]) (by decide) rfl (Nat.le_of_ble_eq_true rfl) ?_
  exact SX10_costs_0  f h
theorem dX3_begin_135 : decode cX3_begin 135 = .ok (.aload_n 0, 1) := by decide +kernel
theorem dX3_begin_136 : decode cX3_begin 136 = .ok (.getfield 9, 3) := by decide +kernel
theorem dX3_begin_139 : decode cX3_begin 139 = .ok (.iconst 0, 1) := by decide +kernel
theorem dX3_begin_140 : decode cX3_begin 140 = .ok (.iconst 0, 1) := by decide +kernel
theorem dX3_begin_141 : decode cX3_begin 141 = .ok (.iastore, 1) := by decide +kernel
theorem dX3_begin_142 : decode cX3_begin 142 = .ok (.aload_n 0, 1) := by decide +kernel
theorem dX3_begin_143 : decode cX3_begin 143 = .ok (.getfield 15, 3) := by decide +kernel
theorem dX3_begin_146 : decode cX3_begin 146 = .ok (.iconst 0, 1) := by decide +kernel
theorem dX3_begin_147 : decode cX3_begin 147 = .ok (.bipush 60, 2) := by decide +kernel
theorem dX3_begin_149 : decode cX3_begin 149 = .ok (.iastore, 1) := by decide +kernel
theorem dX3_begin_150 : decode cX3_begin 150 = .ok (.return_, 1) := by decide +kernel
theorem dX3_begin_116 : decode cX3_begin 116 = .ok (.iload_n 3, 1) := by decide +kernel
theorem dX3_begin_117 : decode cX3_begin 117 = .ok (.bipush 60, 2) := by decide +kernel
theorem dX3_begin_119 : decode cX3_begin 119 = .ok (.if_icmp .gt 16, 3) := by decide +kernel
theorem dX3_begin_122 : decode cX3_begin 122 = .ok (.aload_n 0, 1) := by decide +kernel
theorem dX3_begin_123 : decode cX3_begin 123 = .ok (.getfield 30, 3) := by decide +kernel
theorem dX3_begin_126 : decode cX3_begin 126 = .ok (.iload_n 3, 1) := by decide +kernel
theorem dX3_begin_127 : decode cX3_begin 127 = .ok (.iconst (-1), 1) := by decide +kernel
theorem dX3_begin_128 : decode cX3_begin 128 = .ok (.iastore, 1) := by decide +kernel
theorem dX3_begin_129 : decode cX3_begin 129 = .ok (.iinc 3 1, 3) := by decide +kernel
theorem dX3_begin_132 : decode cX3_begin 132 = .ok (.goto (-16), 3) := by decide +kernel
theorem dX3_begin_114 : decode cX3_begin 114 = .ok (.iconst 0, 1) := by decide +kernel
theorem dX3_begin_115 : decode cX3_begin 115 = .ok (.istore_n 3, 1) := by decide +kernel
theorem dX3_begin_74 : decode cX3_begin 74 = .ok (.iload_n 3, 1) := by decide +kernel
theorem dX3_begin_75 : decode cX3_begin 75 = .ok (.bipush 64, 2) := by decide +kernel
theorem dX3_begin_77 : decode cX3_begin 77 = .ok (.if_icmp .ge 37, 3) := by decide +kernel
theorem dX3_begin_80 : decode cX3_begin 80 = .ok (.aload_n 0, 1) := by decide +kernel
theorem dX3_begin_81 : decode cX3_begin 81 = .ok (.getfield 18, 3) := by decide +kernel
theorem dX3_begin_84 : decode cX3_begin 84 = .ok (.iload_n 3, 1) := by decide +kernel
theorem dX3_begin_85 : decode cX3_begin 85 = .ok (.iconst 0, 1) := by decide +kernel
theorem dX3_begin_86 : decode cX3_begin 86 = .ok (.iastore, 1) := by decide +kernel
theorem dX3_begin_87 : decode cX3_begin 87 = .ok (.aload_n 0, 1) := by decide +kernel
theorem dX3_begin_88 : decode cX3_begin 88 = .ok (.getfield 21, 3) := by decide +kernel
theorem dX3_begin_91 : decode cX3_begin 91 = .ok (.iload_n 3, 1) := by decide +kernel
theorem dX3_begin_92 : decode cX3_begin 92 = .ok (.iconst (-1), 1) := by decide +kernel
theorem dX3_begin_93 : decode cX3_begin 93 = .ok (.iastore, 1) := by decide +kernel
theorem dX3_begin_94 : decode cX3_begin 94 = .ok (.aload_n 0, 1) := by decide +kernel
theorem dX3_begin_95 : decode cX3_begin 95 = .ok (.getfield 24, 3) := by decide +kernel
theorem dX3_begin_98 : decode cX3_begin 98 = .ok (.iload_n 3, 1) := by decide +kernel
theorem dX3_begin_99 : decode cX3_begin 99 = .ok (.iconst 0, 1) := by decide +kernel
theorem dX3_begin_100 : decode cX3_begin 100 = .ok (.iastore, 1) := by decide +kernel
theorem dX3_begin_101 : decode cX3_begin 101 = .ok (.aload_n 0, 1) := by decide +kernel
theorem dX3_begin_102 : decode cX3_begin 102 = .ok (.getfield 27, 3) := by decide +kernel
theorem dX3_begin_105 : decode cX3_begin 105 = .ok (.iload_n 3, 1) := by decide +kernel
theorem dX3_begin_106 : decode cX3_begin 106 = .ok (.iconst (-1), 1) := by decide +kernel
theorem dX3_begin_107 : decode cX3_begin 107 = .ok (.iastore, 1) := by decide +kernel
theorem dX3_begin_108 : decode cX3_begin 108 = .ok (.iinc 3 1, 3) := by decide +kernel
theorem dX3_begin_111 : decode cX3_begin 111 = .ok (.goto (-37), 3) := by decide +kernel
theorem dX3_begin_72 : decode cX3_begin 72 = .ok (.iconst 0, 1) := by decide +kernel
theorem dX3_begin_73 : decode cX3_begin 73 = .ok (.istore_n 3, 1) := by decide +kernel
theorem dX3_begin_53 : decode cX3_begin 53 = .ok (.iload_n 3, 1) := by decide +kernel
theorem dX3_begin_54 : decode cX3_begin 54 = .ok (.bipush 6, 2) := by decide +kernel
theorem dX3_begin_56 : decode cX3_begin 56 = .ok (.if_icmp .ge 16, 3) := by decide +kernel
theorem dX3_begin_59 : decode cX3_begin 59 = .ok (.aload_n 0, 1) := by decide +kernel
theorem dX3_begin_60 : decode cX3_begin 60 = .ok (.getfield 36, 3) := by decide +kernel
theorem dX3_begin_63 : decode cX3_begin 63 = .ok (.iload_n 3, 1) := by decide +kernel
theorem dX3_begin_64 : decode cX3_begin 64 = .ok (.iconst (-1), 1) := by decide +kernel
theorem dX3_begin_65 : decode cX3_begin 65 = .ok (.iastore, 1) := by decide +kernel
theorem dX3_begin_66 : decode cX3_begin 66 = .ok (.iinc 3 1, 3) := by decide +kernel
theorem dX3_begin_69 : decode cX3_begin 69 = .ok (.goto (-16), 3) := by decide +kernel
theorem dX3_begin_51 : decode cX3_begin 51 = .ok (.iconst 0, 1) := by decide +kernel
theorem dX3_begin_52 : decode cX3_begin 52 = .ok (.istore_n 3, 1) := by decide +kernel
theorem dX3_begin_25 : decode cX3_begin 25 = .ok (.iload_n 3, 1) := by decide +kernel
theorem dX3_begin_26 : decode cX3_begin 26 = .ok (.bipush 6, 2) := by decide +kernel
theorem dX3_begin_28 : decode cX3_begin 28 = .ok (.if_icmp .ge 23, 3) := by decide +kernel
theorem dX3_begin_31 : decode cX3_begin 31 = .ok (.aload_n 2, 1) := by decide +kernel
theorem dX3_begin_32 : decode cX3_begin 32 = .ok (.getfield 89, 3) := by decide +kernel
theorem dX3_begin_35 : decode cX3_begin 35 = .ok (.iload_n 3, 1) := by decide +kernel
theorem dX3_begin_36 : decode cX3_begin 36 = .ok (.iconst (-1), 1) := by decide +kernel
theorem dX3_begin_37 : decode cX3_begin 37 = .ok (.iastore, 1) := by decide +kernel
theorem dX3_begin_38 : decode cX3_begin 38 = .ok (.aload_n 0, 1) := by decide +kernel
theorem dX3_begin_39 : decode cX3_begin 39 = .ok (.getfield 33, 3) := by decide +kernel
theorem dX3_begin_42 : decode cX3_begin 42 = .ok (.iload_n 3, 1) := by decide +kernel
theorem dX3_begin_43 : decode cX3_begin 43 = .ok (.iconst 0, 1) := by decide +kernel
theorem dX3_begin_44 : decode cX3_begin 44 = .ok (.iastore, 1) := by decide +kernel
theorem dX3_begin_45 : decode cX3_begin 45 = .ok (.iinc 3 1, 3) := by decide +kernel
theorem dX3_begin_48 : decode cX3_begin 48 = .ok (.goto (-23), 3) := by decide +kernel
theorem dX3_begin_0 : decode cX3_begin 0 = .ok (.aload_n 0, 1) := by decide +kernel
theorem dX3_begin_1 : decode cX3_begin 1 = .ok (.aload_n 1, 1) := by decide +kernel
theorem dX3_begin_2 : decode cX3_begin 2 = .ok (.getfield 79, 3) := by decide +kernel
theorem dX3_begin_5 : decode cX3_begin 5 = .ok (.putfield 47, 3) := by decide +kernel
theorem dX3_begin_8 : decode cX3_begin 8 = .ok (.aload_n 0, 1) := by decide +kernel
theorem dX3_begin_9 : decode cX3_begin 9 = .ok (.aload_n 1, 1) := by decide +kernel
theorem dX3_begin_10 : decode cX3_begin 10 = .ok (.getfield 82, 3) := by decide +kernel
theorem dX3_begin_13 : decode cX3_begin 13 = .ok (.iconst 1, 1) := by decide +kernel
theorem dX3_begin_14 : decode cX3_begin 14 = .ok (.iadd, 1) := by decide +kernel
theorem dX3_begin_15 : decode cX3_begin 15 = .ok (.putfield 51, 3) := by decide +kernel
theorem dX3_begin_18 : decode cX3_begin 18 = .ok (.aload_n 2, 1) := by decide +kernel
theorem dX3_begin_19 : decode cX3_begin 19 = .ok (.aload_n 1, 1) := by decide +kernel
theorem dX3_begin_20 : decode cX3_begin 20 = .ok (.invokevirtual 85, 3) := by decide +kernel
theorem dX3_begin_23 : decode cX3_begin 23 = .ok (.iconst 0, 1) := by decide +kernel
theorem dX3_begin_24 : decode cX3_begin 24 = .ok (.istore_n 3, 1) := by decide +kernel
def FX3_begin_57_4_48_135   (f : Mm) : Option Mm := some (up (up f 58 0 0) 59 0 60)
set_option maxHeartbeats 4000000 in
set_option maxRecDepth 100000 in
theorem SX3_begin_57_4_48_135 {G : GT} {l : Launch} {Q : Option AV → Mem → Prop}   (f : Mm) (h : OkV Q (FX3_begin_57_4_48_135   f)) : Ev G l MX3_begin (Rm 2 0 0) (ZM G Q 0 0) 0 0 135 [some (vR 57), none, none, none] [] (SH, RF, f) := by
  unfold FX3_begin_57_4_48_135 at h
  refine ev_aload_n (i := 0) dX3_begin_135 rfl rfl ?_
  refine ev_getR dX3_begin_136 fl_X3_9 sh_57 (by decide) (by decide) rf_57_3 ?_
  refine ev_iconst dX3_begin_139 (r32c rfl) ?_
  refine ev_iconst dX3_begin_140 (r32c rfl) ?_
  refine ex_iast (j := 0) dX3_begin_141 sh_58 (by decide) (by decide) rfl ?_
  refine ev_aload_n (i := 0) dX3_begin_142 rfl rfl ?_
  refine ev_getR dX3_begin_143 fl_X3_15 sh_57 (by decide) (by decide) rf_57_4 ?_
  refine ev_iconst dX3_begin_146 (r32c rfl) ?_
  refine ev_bipush (v := 60) dX3_begin_147 (r32c rfl) (by decide) ?_
  refine ex_iast (j := 0) dX3_begin_149 sh_59 (by decide) (by decide) rfl ?_
  exact ev_vret rfl dX3_begin_150 h
def FX3_begin_57_4_48_116  : Nat → Int → Mm → Option Mm
  | 0, _, _ => none
  | n + 1, x3, f => (if 60 < x3 then FX3_begin_57_4_48_135 f else (if 0 ≤ x3 ∧ x3 < 61 then FX3_begin_57_4_48_116 n (w32 (x3 + 1)) (up f 64 x3.toNat (-1)) else none))
set_option maxHeartbeats 4000000 in
set_option maxRecDepth 100000 in
theorem SX3_begin_57_4_48_116 {G : GT} {l : Launch} {Q : Option AV → Mem → Prop}  : ∀ (n : Nat) (x3 : Int) (f : Mm), OkV Q (FX3_begin_57_4_48_116  n x3 f) → Ev G l MX3_begin (Rm 2 0 0) (ZM G Q 0 0) 0 0 116 [some (vR 57), none, none, some (vI x3)] [] (SH, RF, f) := by
  intro n
  induction n with
  | zero => intro x3 f h; exact absurd h (by rw [FX3_begin_57_4_48_116]; exact fun q => q)
  | succ n ih =>
    intro x3 f h
    rw [FX3_begin_57_4_48_116] at h
    refine ev_iload_n (i := 3) dX3_begin_116 rfl rfl ?_
    refine ev_bipush (v := 60) dX3_begin_117 (r32c rfl) (by decide) ?_
    refine ev_icmp_gt (tgt := 135) dX3_begin_119 (by decide) (fun c2 => ?_) (fun c2 => ?_)
    · rw [if_pos c2] at h
      refine ev_fg [true, true, true, false] rfl ?_
      exact SX3_begin_57_4_48_135   _ h
    · rw [if_neg c2] at h
      refine ev_aload_n (i := 0) dX3_begin_122 rfl rfl ?_
      refine ev_getR dX3_begin_123 fl_X3_30 sh_57 (by decide) (by decide) rf_57_9 ?_
      refine ev_iload_n (i := 3) dX3_begin_126 rfl rfl ?_
      refine ev_iconst dX3_begin_127 (r32c rfl) ?_
      by_cases g1 : 0 ≤ x3 ∧ x3 < 61
      · rw [if_pos g1] at h
        refine ex_iast (j := x3.toNat) dX3_begin_128 sh_64 g1.1 g1.2 rfl ?_
        refine ev_iinc (L' := [some (vR 57), none, none, some (vI (w32 (x3 + 1)))]) dX3_begin_129 rfl (by decide) rfl ?_
        refine ev_goto (tgt := 116) dX3_begin_132 (by decide) ?_
        exact ih (w32 (x3 + 1)) _ h
      · rw [if_neg g1] at h; exact h.elim
def FX3_begin_57_4_48_114   (f : Mm) : Option Mm := FX3_begin_57_4_48_116 fu 0 f
set_option maxHeartbeats 4000000 in
set_option maxRecDepth 100000 in
theorem SX3_begin_57_4_48_114 {G : GT} {l : Launch} {Q : Option AV → Mem → Prop}   (f : Mm) (h : OkV Q (FX3_begin_57_4_48_114   f)) : Ev G l MX3_begin (Rm 2 0 0) (ZM G Q 0 0) 0 0 114 [some (vR 57), none, none, none] [] (SH, RF, f) := by
  unfold FX3_begin_57_4_48_114 at h
  refine ev_iconst dX3_begin_114 (r32c rfl) ?_
  refine ev_istore_n (i := 3) (L' := [some (vR 57), none, none, some (vI 0)]) dX3_begin_115 rfl (by decide) rfl ?_
  exact SX3_begin_57_4_48_116  fu 0 _ h
def FX3_begin_57_4_48_74  : Nat → Int → Mm → Option Mm
  | 0, _, _ => none
  | n + 1, x3, f => (if 64 ≤ x3 then FX3_begin_57_4_48_114 f else (if 0 ≤ x3 ∧ x3 < 64 then (if 0 ≤ x3 ∧ x3 < 64 then (if 0 ≤ x3 ∧ x3 < 64 then (if 0 ≤ x3 ∧ x3 < 64 then FX3_begin_57_4_48_74 n (w32 (x3 + 1)) (up (up (up (up f 60 x3.toNat 0) 61 x3.toNat (-1)) 62 x3.toNat 0) 63 x3.toNat (-1)) else none) else none) else none) else none))
set_option maxHeartbeats 4000000 in
set_option maxRecDepth 100000 in
theorem SX3_begin_57_4_48_74 {G : GT} {l : Launch} {Q : Option AV → Mem → Prop}  : ∀ (n : Nat) (x3 : Int) (f : Mm), OkV Q (FX3_begin_57_4_48_74  n x3 f) → Ev G l MX3_begin (Rm 2 0 0) (ZM G Q 0 0) 0 0 74 [some (vR 57), none, none, some (vI x3)] [] (SH, RF, f) := by
  intro n
  induction n with
  | zero => intro x3 f h; exact absurd h (by rw [FX3_begin_57_4_48_74]; exact fun q => q)
  | succ n ih =>
    intro x3 f h
    rw [FX3_begin_57_4_48_74] at h
    refine ev_iload_n (i := 3) dX3_begin_74 rfl rfl ?_
    refine ev_bipush (v := 64) dX3_begin_75 (r32c rfl) (by decide) ?_
    refine ev_icmp_ge (tgt := 114) dX3_begin_77 (by decide) (fun c5 => ?_) (fun c5 => ?_)
    · rw [if_pos c5] at h
      refine ev_fg [true, true, true, false] rfl ?_
      exact SX3_begin_57_4_48_114   _ h
    · rw [if_neg c5] at h
      refine ev_aload_n (i := 0) dX3_begin_80 rfl rfl ?_
      refine ev_getR dX3_begin_81 fl_X3_18 sh_57 (by decide) (by decide) rf_57_5 ?_
      refine ev_iload_n (i := 3) dX3_begin_84 rfl rfl ?_
      refine ev_iconst dX3_begin_85 (r32c rfl) ?_
      by_cases g1 : 0 ≤ x3 ∧ x3 < 64
      · rw [if_pos g1] at h
        refine ex_iast (j := x3.toNat) dX3_begin_86 sh_60 g1.1 g1.2 rfl ?_
        refine ev_aload_n (i := 0) dX3_begin_87 rfl rfl ?_
        refine ev_getR dX3_begin_88 fl_X3_21 sh_57 (by decide) (by decide) rf_57_6 ?_
        refine ev_iload_n (i := 3) dX3_begin_91 rfl rfl ?_
        refine ev_iconst dX3_begin_92 (r32c rfl) ?_
        by_cases g2 : 0 ≤ x3 ∧ x3 < 64
        · rw [if_pos g2] at h
          refine ex_iast (j := x3.toNat) dX3_begin_93 sh_61 g2.1 g2.2 rfl ?_
          refine ev_aload_n (i := 0) dX3_begin_94 rfl rfl ?_
          refine ev_getR dX3_begin_95 fl_X3_24 sh_57 (by decide) (by decide) rf_57_7 ?_
          refine ev_iload_n (i := 3) dX3_begin_98 rfl rfl ?_
          refine ev_iconst dX3_begin_99 (r32c rfl) ?_
          by_cases g3 : 0 ≤ x3 ∧ x3 < 64
          · rw [if_pos g3] at h
            refine ex_iast (j := x3.toNat) dX3_begin_100 sh_62 g3.1 g3.2 rfl ?_
            refine ev_aload_n (i := 0) dX3_begin_101 rfl rfl ?_
            refine ev_getR dX3_begin_102 fl_X3_27 sh_57 (by decide) (by decide) rf_57_8 ?_
            refine ev_iload_n (i := 3) dX3_begin_105 rfl rfl ?_
            refine ev_iconst dX3_begin_106 (r32c rfl) ?_
            by_cases g4 : 0 ≤ x3 ∧ x3 < 64
            · rw [if_pos g4] at h
              refine ex_iast (j := x3.toNat) dX3_begin_107 sh_63 g4.1 g4.2 rfl ?_
              refine ev_iinc (L' := [some (vR 57), none, none, some (vI (w32 (x3 + 1)))]) dX3_begin_108 rfl (by decide) rfl ?_
              refine ev_goto (tgt := 74) dX3_begin_111 (by decide) ?_
              exact ih (w32 (x3 + 1)) _ h
            · rw [if_neg g4] at h; exact h.elim
          · rw [if_neg g3] at h; exact h.elim
        · rw [if_neg g2] at h; exact h.elim
      · rw [if_neg g1] at h; exact h.elim
def FX3_begin_57_4_48_72   (f : Mm) : Option Mm := FX3_begin_57_4_48_74 fu 0 f
set_option maxHeartbeats 4000000 in
set_option maxRecDepth 100000 in
theorem SX3_begin_57_4_48_72 {G : GT} {l : Launch} {Q : Option AV → Mem → Prop}   (f : Mm) (h : OkV Q (FX3_begin_57_4_48_72   f)) : Ev G l MX3_begin (Rm 2 0 0) (ZM G Q 0 0) 0 0 72 [some (vR 57), none, none, none] [] (SH, RF, f) := by
  unfold FX3_begin_57_4_48_72 at h
  refine ev_iconst dX3_begin_72 (r32c rfl) ?_
  refine ev_istore_n (i := 3) (L' := [some (vR 57), none, none, some (vI 0)]) dX3_begin_73 rfl (by decide) rfl ?_
  exact SX3_begin_57_4_48_74  fu 0 _ h
def FX3_begin_57_4_48_53  : Nat → Int → Mm → Option Mm
  | 0, _, _ => none
  | n + 1, x3, f => (if 6 ≤ x3 then FX3_begin_57_4_48_72 f else (if 0 ≤ x3 ∧ x3 < 6 then FX3_begin_57_4_48_53 n (w32 (x3 + 1)) (up f 66 x3.toNat (-1)) else none))
set_option maxHeartbeats 4000000 in
set_option maxRecDepth 100000 in
theorem SX3_begin_57_4_48_53 {G : GT} {l : Launch} {Q : Option AV → Mem → Prop}  : ∀ (n : Nat) (x3 : Int) (f : Mm), OkV Q (FX3_begin_57_4_48_53  n x3 f) → Ev G l MX3_begin (Rm 2 0 0) (ZM G Q 0 0) 0 0 53 [some (vR 57), none, none, some (vI x3)] [] (SH, RF, f) := by
  intro n
  induction n with
  | zero => intro x3 f h; exact absurd h (by rw [FX3_begin_57_4_48_53]; exact fun q => q)
  | succ n ih =>
    intro x3 f h
    rw [FX3_begin_57_4_48_53] at h
    refine ev_iload_n (i := 3) dX3_begin_53 rfl rfl ?_
    refine ev_bipush (v := 6) dX3_begin_54 (r32c rfl) (by decide) ?_
    refine ev_icmp_ge (tgt := 72) dX3_begin_56 (by decide) (fun c2 => ?_) (fun c2 => ?_)
    · rw [if_pos c2] at h
      refine ev_fg [true, true, true, false] rfl ?_
      exact SX3_begin_57_4_48_72   _ h
    · rw [if_neg c2] at h
      refine ev_aload_n (i := 0) dX3_begin_59 rfl rfl ?_
      refine ev_getR dX3_begin_60 fl_X3_36 sh_57 (by decide) (by decide) rf_57_11 ?_
      refine ev_iload_n (i := 3) dX3_begin_63 rfl rfl ?_
      refine ev_iconst dX3_begin_64 (r32c rfl) ?_
      by_cases g1 : 0 ≤ x3 ∧ x3 < 6
      · rw [if_pos g1] at h
        refine ex_iast (j := x3.toNat) dX3_begin_65 sh_66 g1.1 g1.2 rfl ?_
        refine ev_iinc (L' := [some (vR 57), none, none, some (vI (w32 (x3 + 1)))]) dX3_begin_66 rfl (by decide) rfl ?_
        refine ev_goto (tgt := 53) dX3_begin_69 (by decide) ?_
        exact ih (w32 (x3 + 1)) _ h
      · rw [if_neg g1] at h; exact h.elim
def FX3_begin_57_4_48_51   (f : Mm) : Option Mm := FX3_begin_57_4_48_53 fu 0 f
set_option maxHeartbeats 4000000 in
set_option maxRecDepth 100000 in
theorem SX3_begin_57_4_48_51 {G : GT} {l : Launch} {Q : Option AV → Mem → Prop}   (f : Mm) (h : OkV Q (FX3_begin_57_4_48_51   f)) : Ev G l MX3_begin (Rm 2 0 0) (ZM G Q 0 0) 0 0 51 [some (vR 57), none, none, none] [] (SH, RF, f) := by
  unfold FX3_begin_57_4_48_51 at h
  refine ev_iconst dX3_begin_51 (r32c rfl) ?_
  refine ev_istore_n (i := 3) (L' := [some (vR 57), none, none, some (vI 0)]) dX3_begin_52 rfl (by decide) rfl ?_
  exact SX3_begin_57_4_48_53  fu 0 _ h
def FX3_begin_57_4_48_25  : Nat → Int → Mm → Option Mm
  | 0, _, _ => none
  | n + 1, x3, f => (if 6 ≤ x3 then FX3_begin_57_4_48_51 f else (if 0 ≤ x3 ∧ x3 < 6 then (if 0 ≤ x3 ∧ x3 < 6 then FX3_begin_57_4_48_25 n (w32 (x3 + 1)) (up (up f 49 x3.toNat (-1)) 65 x3.toNat 0) else none) else none))
set_option maxHeartbeats 4000000 in
set_option maxRecDepth 100000 in
theorem SX3_begin_57_4_48_25 {G : GT} {l : Launch} {Q : Option AV → Mem → Prop}  : ∀ (n : Nat) (x3 : Int) (f : Mm), OkV Q (FX3_begin_57_4_48_25  n x3 f) → Ev G l MX3_begin (Rm 2 0 0) (ZM G Q 0 0) 0 0 25 [some (vR 57), none, some (vR 48), some (vI x3)] [] (SH, RF, f) := by
  intro n
  induction n with
  | zero => intro x3 f h; exact absurd h (by rw [FX3_begin_57_4_48_25]; exact fun q => q)
  | succ n ih =>
    intro x3 f h
    rw [FX3_begin_57_4_48_25] at h
    refine ev_iload_n (i := 3) dX3_begin_25 rfl rfl ?_
    refine ev_bipush (v := 6) dX3_begin_26 (r32c rfl) (by decide) ?_
    refine ev_icmp_ge (tgt := 51) dX3_begin_28 (by decide) (fun c3 => ?_) (fun c3 => ?_)
    · rw [if_pos c3] at h
      refine ev_fg [true, true, false, false] rfl ?_
      exact SX3_begin_57_4_48_51   _ h
    · rw [if_neg c3] at h
      refine ev_aload_n (i := 2) dX3_begin_31 rfl rfl ?_
      refine ev_getR dX3_begin_32 fl_X3_89 sh_48 (by decide) (by decide) rf_48_0 ?_
      refine ev_iload_n (i := 3) dX3_begin_35 rfl rfl ?_
      refine ev_iconst dX3_begin_36 (r32c rfl) ?_
      by_cases g1 : 0 ≤ x3 ∧ x3 < 6
      · rw [if_pos g1] at h
        refine ex_iast (j := x3.toNat) dX3_begin_37 sh_49 g1.1 g1.2 rfl ?_
        refine ev_aload_n (i := 0) dX3_begin_38 rfl rfl ?_
        refine ev_getR dX3_begin_39 fl_X3_33 sh_57 (by decide) (by decide) rf_57_10 ?_
        refine ev_iload_n (i := 3) dX3_begin_42 rfl rfl ?_
        refine ev_iconst dX3_begin_43 (r32c rfl) ?_
        by_cases g2 : 0 ≤ x3 ∧ x3 < 6
        · rw [if_pos g2] at h
          refine ex_iast (j := x3.toNat) dX3_begin_44 sh_65 g2.1 g2.2 rfl ?_
          refine ev_iinc (L' := [some (vR 57), none, some (vR 48), some (vI (w32 (x3 + 1)))]) dX3_begin_45 rfl (by decide) rfl ?_
          refine ev_goto (tgt := 25) dX3_begin_48 (by decide) ?_
          exact ih (w32 (x3 + 1)) _ h
        · rw [if_neg g2] at h; exact h.elim
      · rw [if_neg g1] at h; exact h.elim
def FX3_begin_57_4_48_0   (f : Mm) : Option Mm := ((FX1_asDone_48_4 (up (up f 57 1 (f 4 1)) 57 2 (w32 ((f 4 4) + 1)))).bind fun f1 => FX3_begin_57_4_48_25 fu 0 f1)
set_option maxHeartbeats 4000000 in
set_option maxRecDepth 100000 in
theorem SX3_begin_57_4_48_0 {G : GT} {l : Launch} {Q : Option AV → Mem → Prop}   (f : Mm) (h : OkV Q (FX3_begin_57_4_48_0   f)) : Ev G l MX3_begin (Rm 2 0 0) (ZM G Q 0 0) 0 0 0 [some (vR 57), some (vR 4), some (vR 48), none] [] (SH, RF, f) := by
  unfold FX3_begin_57_4_48_0 at h
  refine ev_aload_n (i := 0) dX3_begin_0 rfl rfl ?_
  refine ev_aload_n (i := 1) dX3_begin_1 rfl rfl ?_
  refine ex_getI (x := (f 4 1)) dX3_begin_2 fl_X3_79 sh_4 (by decide) (by decide) rfl ?_
  refine ev_putI dX3_begin_5 fl_X3_47 sh_57 (by decide) (by decide) ?_
  refine ev_aload_n (i := 0) dX3_begin_8 rfl rfl ?_
  refine ev_aload_n (i := 1) dX3_begin_9 rfl rfl ?_
  refine ex_getI (x := (f 4 4)) dX3_begin_10 fl_X3_82 sh_4 (by decide) (by decide) rfl ?_
  refine ev_iconst dX3_begin_13 (r32c rfl) ?_
  refine ev_iadd dX3_begin_14 ?_
  refine ev_putI dX3_begin_15 fl_X3_51 sh_57 (by decide) (by decide) ?_
  refine ev_aload_n (i := 2) dX3_begin_18 rfl rfl ?_
  refine ev_aload_n (i := 1) dX3_begin_19 rfl rfl ?_
  refine ev_cVV (b := 48) (av := [vR 4]) (S := []) (fun q => q) h dX3_begin_20 (fun Q' q => TX1_asDone_48_4 _ q) kvX1_asDone ml_X3_85 sh_48 rfl (RRc (by decide) (by decide)) (Nat.le_of_ble_eq_true rfl) ⟨Nat.le_of_ble_eq_true rfl, Nat.le_of_ble_eq_true rfl⟩ (fun f1 h => ?_)
  refine ev_iconst dX3_begin_23 (r32c rfl) ?_
  refine ev_istore_n (i := 3) (L' := [some (vR 57), some (vR 4), some (vR 48), some (vI 0)]) dX3_begin_24 rfl (by decide) rfl ?_
  refine ev_fg [true, false, true, true] rfl ?_
  exact SX3_begin_57_4_48_25  fu 0 _ h
def FX3_begin_57_4_48  (f : Mm) : Option Mm := FX3_begin_57_4_48_0  f
theorem TX3_begin_57_4_48 {G : GT} {l : Launch} {Q : Option AV → Mem → Prop}  (f : Mm) (h : OkV Q (FX3_begin_57_4_48  f)) : Ret G l MX3_begin (2) 0 0 [vR 57, vR 4, vR 48] (SH, RF, f) Q := by
  refine ret_of (L := [some (vR 57), some (vR 4), some (vR 48), none]) (by decide) rfl (Nat.le_of_ble_eq_true rfl) ?_
  exact SX3_begin_57_4_48_0  f h
theorem dX3_note_132 : decode cX3_note 132 = .ok (.iinc 6 1, 3) := by decide +kernel
theorem dX3_note_135 : decode cX3_note 135 = .ok (.goto (-57), 3) := by decide +kernel
theorem dX3_note_124 : decode cX3_note 124 = .ok (.aload_n 0, 1) := by decide +kernel
theorem dX3_note_125 : decode cX3_note 125 = .ok (.getfield 36, 3) := by decide +kernel
theorem dX3_note_128 : decode cX3_note 128 = .ok (.iload 6, 2) := by decide +kernel
theorem dX3_note_130 : decode cX3_note 130 = .ok (.iload_n 3, 1) := by decide +kernel
theorem dX3_note_131 : decode cX3_note 131 = .ok (.iastore, 1) := by decide +kernel
theorem dX3_note_78 : decode cX3_note 78 = .ok (.iload 6, 2) := by decide +kernel
theorem dX3_note_80 : decode cX3_note 80 = .ok (.aload_n 1, 1) := by decide +kernel
theorem dX3_note_81 : decode cX3_note 81 = .ok (.getfield 111, 3) := by decide +kernel
theorem dX3_note_84 : decode cX3_note 84 = .ok (.if_icmp .ge 54, 3) := by decide +kernel
theorem dX3_note_138 : decode cX3_note 138 = .ok (.return_, 1) := by decide +kernel
theorem dX3_note_87 : decode cX3_note 87 = .ok (.iload 5, 2) := by decide +kernel
theorem dX3_note_89 : decode cX3_note 89 = .ok (.ifCond .eq 49, 3) := by decide +kernel
theorem dX3_note_92 : decode cX3_note 92 = .ok (.iload 5, 2) := by decide +kernel
theorem dX3_note_94 : decode cX3_note 94 = .ok (.iload 6, 2) := by decide +kernel
theorem dX3_note_96 : decode cX3_note 96 = .ok (.invokestatic 114, 3) := by decide +kernel
theorem dX3_note_99 : decode cX3_note 99 = .ok (.ifCond .eq 33, 3) := by decide +kernel
theorem dX3_note_102 : decode cX3_note 102 = .ok (.aload_n 0, 1) := by decide +kernel
theorem dX3_note_103 : decode cX3_note 103 = .ok (.getfield 36, 3) := by decide +kernel
theorem dX3_note_106 : decode cX3_note 106 = .ok (.iload 6, 2) := by decide +kernel
theorem dX3_note_108 : decode cX3_note 108 = .ok (.iaload, 1) := by decide +kernel
theorem dX3_note_109 : decode cX3_note 109 = .ok (.iconst (-1), 1) := by decide +kernel
theorem dX3_note_110 : decode cX3_note 110 = .ok (.if_icmp .eq 14, 3) := by decide +kernel
theorem dX3_note_113 : decode cX3_note 113 = .ok (.iload_n 3, 1) := by decide +kernel
theorem dX3_note_114 : decode cX3_note 114 = .ok (.aload_n 0, 1) := by decide +kernel
theorem dX3_note_115 : decode cX3_note 115 = .ok (.getfield 36, 3) := by decide +kernel
theorem dX3_note_118 : decode cX3_note 118 = .ok (.iload 6, 2) := by decide +kernel
theorem dX3_note_120 : decode cX3_note 120 = .ok (.iaload, 1) := by decide +kernel
theorem dX3_note_121 : decode cX3_note 121 = .ok (.if_icmp .ge 11, 3) := by decide +kernel
theorem dX3_note_0 : decode cX3_note 0 = .ok (.aload_n 2, 1) := by decide +kernel
theorem dX3_note_1 : decode cX3_note 1 = .ok (.iload_n 3, 1) := by decide +kernel
theorem dX3_note_2 : decode cX3_note 2 = .ok (.invokevirtual 92, 3) := by decide +kernel
theorem dX3_note_5 : decode cX3_note 5 = .ok (.istore 4, 2) := by decide +kernel
theorem dX3_note_7 : decode cX3_note 7 = .ok (.aload_n 0, 1) := by decide +kernel
theorem dX3_note_8 : decode cX3_note 8 = .ok (.getfield 9, 3) := by decide +kernel
theorem dX3_note_11 : decode cX3_note 11 = .ok (.iload_n 3, 1) := by decide +kernel
theorem dX3_note_12 : decode cX3_note 12 = .ok (.iconst 1, 1) := by decide +kernel
theorem dX3_note_13 : decode cX3_note 13 = .ok (.iadd, 1) := by decide +kernel
theorem dX3_note_14 : decode cX3_note 14 = .ok (.aload_n 0, 1) := by decide +kernel
theorem dX3_note_15 : decode cX3_note 15 = .ok (.getfield 9, 3) := by decide +kernel
theorem dX3_note_18 : decode cX3_note 18 = .ok (.iload_n 3, 1) := by decide +kernel
theorem dX3_note_19 : decode cX3_note 19 = .ok (.iaload, 1) := by decide +kernel
theorem dX3_note_20 : decode cX3_note 20 = .ok (.aload_n 1, 1) := by decide +kernel
theorem dX3_note_21 : decode cX3_note 21 = .ok (.aload_n 2, 1) := by decide +kernel
theorem dX3_note_22 : decode cX3_note 22 = .ok (.getfield 89, 3) := by decide +kernel
theorem dX3_note_25 : decode cX3_note 25 = .ok (.iload_n 3, 1) := by decide +kernel
theorem dX3_note_26 : decode cX3_note 26 = .ok (.iaload, 1) := by decide +kernel
theorem dX3_note_27 : decode cX3_note 27 = .ok (.invokevirtual 96, 3) := by decide +kernel
theorem dX3_note_30 : decode cX3_note 30 = .ok (.iadd, 1) := by decide +kernel
theorem dX3_note_31 : decode cX3_note 31 = .ok (.iastore, 1) := by decide +kernel
theorem dX3_note_32 : decode cX3_note 32 = .ok (.aload_n 0, 1) := by decide +kernel
theorem dX3_note_33 : decode cX3_note 33 = .ok (.getfield 15, 3) := by decide +kernel
theorem dX3_note_36 : decode cX3_note 36 = .ok (.iload_n 3, 1) := by decide +kernel
theorem dX3_note_37 : decode cX3_note 37 = .ok (.iconst 1, 1) := by decide +kernel
theorem dX3_note_38 : decode cX3_note 38 = .ok (.iadd, 1) := by decide +kernel
theorem dX3_note_39 : decode cX3_note 39 = .ok (.aload_n 0, 1) := by decide +kernel
theorem dX3_note_40 : decode cX3_note 40 = .ok (.getfield 15, 3) := by decide +kernel
theorem dX3_note_43 : decode cX3_note 43 = .ok (.iload_n 3, 1) := by decide +kernel
theorem dX3_note_44 : decode cX3_note 44 = .ok (.iaload, 1) := by decide +kernel
theorem dX3_note_45 : decode cX3_note 45 = .ok (.iload 4, 2) := by decide +kernel
theorem dX3_note_47 : decode cX3_note 47 = .ok (.invokestatic 99, 3) := by decide +kernel
theorem dX3_note_50 : decode cX3_note 50 = .ok (.iastore, 1) := by decide +kernel
theorem dX3_note_51 : decode cX3_note 51 = .ok (.aload_n 0, 1) := by decide +kernel
theorem dX3_note_52 : decode cX3_note 52 = .ok (.getfield 33, 3) := by decide +kernel
theorem dX3_note_55 : decode cX3_note 55 = .ok (.iload_n 3, 1) := by decide +kernel
theorem dX3_note_56 : decode cX3_note 56 = .ok (.aload_n 0, 1) := by decide +kernel
theorem dX3_note_57 : decode cX3_note 57 = .ok (.getfield 33, 3) := by decide +kernel
theorem dX3_note_60 : decode cX3_note 60 = .ok (.iload_n 3, 1) := by decide +kernel
theorem dX3_note_61 : decode cX3_note 61 = .ok (.iaload, 1) := by decide +kernel
theorem dX3_note_62 : decode cX3_note 62 = .ok (.iload 4, 2) := by decide +kernel
theorem dX3_note_64 : decode cX3_note 64 = .ok (.invokestatic 105, 3) := by decide +kernel
theorem dX3_note_67 : decode cX3_note 67 = .ok (.iastore, 1) := by decide +kernel
theorem dX3_note_68 : decode cX3_note 68 = .ok (.aload_n 2, 1) := by decide +kernel
theorem dX3_note_69 : decode cX3_note 69 = .ok (.iload_n 3, 1) := by decide +kernel
theorem dX3_note_70 : decode cX3_note 70 = .ok (.invokevirtual 108, 3) := by decide +kernel
theorem dX3_note_73 : decode cX3_note 73 = .ok (.istore 5, 2) := by decide +kernel
theorem dX3_note_75 : decode cX3_note 75 = .ok (.iconst 0, 1) := by decide +kernel
theorem dX3_note_76 : decode cX3_note 76 = .ok (.istore 6, 2) := by decide +kernel
def FX3_note_57_4_48_132 (k78 : Int → Int → Int → Mm → Option Mm) (x3 : Int) (x5 : Int) (x6 : Int) (f : Mm) : Option Mm := k78 x3 x5 (w32 (x6 + 1)) f
set_option maxHeartbeats 4000000 in
set_option maxRecDepth 100000 in
theorem SX3_note_57_4_48_132 {G : GT} {l : Launch} {Q : Option AV → Mem → Prop} {k78 : Int → Int → Int → Mm → Option Mm} (q78 : ∀ (x3 : Int) (x5 : Int) (x6 : Int) (f : Mm), OkV Q (k78 x3 x5 x6 f) → Ev G l MX3_note (Rm 3 0 0) (ZM G Q 0 0) 0 0 78 [some (vR 57), some (vR 4), none, some (vI x3), none, some (vI x5), some (vI x6)] [] (SH, RF, f)) (x3 : Int) (x5 : Int) (x6 : Int) (f : Mm) (h : OkV Q (FX3_note_57_4_48_132 k78 x3 x5 x6 f)) : Ev G l MX3_note (Rm 3 0 0) (ZM G Q 0 0) 0 0 132 [some (vR 57), some (vR 4), none, some (vI x3), none, some (vI x5), some (vI x6)] [] (SH, RF, f) := by
  unfold FX3_note_57_4_48_132 at h
  refine ev_iinc (L' := [some (vR 57), some (vR 4), none, some (vI x3), none, some (vI x5), some (vI (w32 (x6 + 1)))]) dX3_note_132 rfl (by decide) rfl ?_
  refine ev_goto (tgt := 78) dX3_note_135 (by decide) ?_
  exact q78 x3 x5 (w32 (x6 + 1)) _ h
def FX3_note_57_4_48_124 (k78 : Int → Int → Int → Mm → Option Mm) (x3 : Int) (x5 : Int) (x6 : Int) (f : Mm) : Option Mm := (if 0 ≤ x6 ∧ x6 < 6 then FX3_note_57_4_48_132 k78 x3 x5 x6 (up f 66 x6.toNat x3) else none)
set_option maxHeartbeats 4000000 in
set_option maxRecDepth 100000 in
theorem SX3_note_57_4_48_124 {G : GT} {l : Launch} {Q : Option AV → Mem → Prop} {k78 : Int → Int → Int → Mm → Option Mm} (q78 : ∀ (x3 : Int) (x5 : Int) (x6 : Int) (f : Mm), OkV Q (k78 x3 x5 x6 f) → Ev G l MX3_note (Rm 3 0 0) (ZM G Q 0 0) 0 0 78 [some (vR 57), some (vR 4), none, some (vI x3), none, some (vI x5), some (vI x6)] [] (SH, RF, f)) (x3 : Int) (x5 : Int) (x6 : Int) (f : Mm) (h : OkV Q (FX3_note_57_4_48_124 k78 x3 x5 x6 f)) : Ev G l MX3_note (Rm 3 0 0) (ZM G Q 0 0) 0 0 124 [some (vR 57), some (vR 4), none, some (vI x3), none, some (vI x5), some (vI x6)] [] (SH, RF, f) := by
  unfold FX3_note_57_4_48_124 at h
  refine ev_aload_n (i := 0) dX3_note_124 rfl rfl ?_
  refine ev_getR dX3_note_125 fl_X3_36 sh_57 (by decide) (by decide) rf_57_11 ?_
  refine ev_iload dX3_note_128 rfl ?_
  refine ev_iload_n (i := 3) dX3_note_130 rfl rfl ?_
  by_cases g1 : 0 ≤ x6 ∧ x6 < 6
  · rw [if_pos g1] at h
    refine ex_iast (j := x6.toNat) dX3_note_131 sh_66 g1.1 g1.2 rfl ?_
    exact SX3_note_57_4_48_132 q78 x3 x5 x6 _ h
  · rw [if_neg g1] at h; exact h.elim
def FX3_note_57_4_48_78  : Nat → Int → Int → Int → Mm → Option Mm
  | 0, _, _, _, _ => none
  | n + 1, x3, x5, x6, f => (if (f 4 5) ≤ x6 then some f else (if x5 = 0 then some f else (b2 (FX10_holds x5 x6 f) fun y1 f1 => (if y1 = 0 then FX3_note_57_4_48_132 (FX3_note_57_4_48_78 n) x3 x5 x6 f1 else (if 0 ≤ x6 ∧ x6 < 6 then (if (f1 66 x6.toNat) = (-1) then FX3_note_57_4_48_124 (FX3_note_57_4_48_78 n) x3 x5 x6 f1 else (if 0 ≤ x6 ∧ x6 < 6 then (if (f1 66 x6.toNat) ≤ x3 then FX3_note_57_4_48_132 (FX3_note_57_4_48_78 n) x3 x5 x6 f1 else FX3_note_57_4_48_124 (FX3_note_57_4_48_78 n) x3 x5 x6 f1) else none)) else none)))))
set_option maxHeartbeats 4000000 in
set_option maxRecDepth 100000 in
theorem SX3_note_57_4_48_78 {G : GT} {l : Launch} {Q : Option AV → Mem → Prop}  : ∀ (n : Nat) (x3 : Int) (x5 : Int) (x6 : Int) (f : Mm), OkV Q (FX3_note_57_4_48_78  n x3 x5 x6 f) → Ev G l MX3_note (Rm 3 0 0) (ZM G Q 0 0) 0 0 78 [some (vR 57), some (vR 4), none, some (vI x3), none, some (vI x5), some (vI x6)] [] (SH, RF, f) := by
  intro n
  induction n with
  | zero => intro x3 x5 x6 f h; exact absurd h (by rw [FX3_note_57_4_48_78]; exact fun q => q)
  | succ n ih =>
    intro x3 x5 x6 f h
    rw [FX3_note_57_4_48_78] at h
    refine ev_iload dX3_note_78 rfl ?_
    refine ev_aload_n (i := 1) dX3_note_80 rfl rfl ?_
    refine ex_getI (x := (f 4 5)) dX3_note_81 fl_X3_111 sh_4 (by decide) (by decide) rfl ?_
    refine ev_icmp_ge (tgt := 138) dX3_note_84 (by decide) (fun c8 => ?_) (fun c8 => ?_)
    · rw [if_pos c8] at h
      exact ev_vret rfl dX3_note_138 h
    · rw [if_neg c8] at h
      refine ev_iload dX3_note_87 rfl ?_
      refine ev_if_eq (tgt := 138) dX3_note_89 (by decide) (fun c7 => ?_) (fun c7 => ?_)
      · rw [if_pos c7] at h
        exact ev_vret rfl dX3_note_138 h
      · rw [if_neg c7] at h
        refine ev_iload dX3_note_92 rfl ?_
        refine ev_iload dX3_note_94 rfl ?_
        refine ev_cNI (av := [vI x5, vI x6]) (S := []) (fun q => q) h dX3_note_96 (fun Q' q => TX10_holds x5 x6 _ q) ksX10_holds nw_X3_114 rfl (RRc (by decide) (by decide)) (Nat.le_of_ble_eq_true rfl) ⟨Nat.le_of_ble_eq_true rfl, Nat.le_of_ble_eq_true rfl⟩ (fun y1 f1 h => ?_)
        refine ev_if_eq (tgt := 132) dX3_note_99 (by decide) (fun c6 => ?_) (fun c6 => ?_)
        · rw [if_pos c6] at h
          exact SX3_note_57_4_48_132 ih x3 x5 x6 _ h
        · rw [if_neg c6] at h
          refine ev_aload_n (i := 0) dX3_note_102 rfl rfl ?_
          refine ev_getR dX3_note_103 fl_X3_36 sh_57 (by decide) (by decide) rf_57_11 ?_
          refine ev_iload dX3_note_106 rfl ?_
          by_cases g2 : 0 ≤ x6 ∧ x6 < 6
          · rw [if_pos g2] at h
            refine ex_iald (x := (f1 66 x6.toNat)) dX3_note_108 sh_66 g2.1 g2.2 rfl ?_
            refine ev_iconst dX3_note_109 (r32c rfl) ?_
            refine ev_icmp_eq (tgt := 124) dX3_note_110 (by decide) (fun c5 => ?_) (fun c5 => ?_)
            · rw [if_pos c5] at h
              exact SX3_note_57_4_48_124 ih x3 x5 x6 _ h
            · rw [if_neg c5] at h
              refine ev_iload_n (i := 3) dX3_note_113 rfl rfl ?_
              refine ev_aload_n (i := 0) dX3_note_114 rfl rfl ?_
              refine ev_getR dX3_note_115 fl_X3_36 sh_57 (by decide) (by decide) rf_57_11 ?_
              refine ev_iload dX3_note_118 rfl ?_
              by_cases g3 : 0 ≤ x6 ∧ x6 < 6
              · rw [if_pos g3] at h
                refine ex_iald (x := (f1 66 x6.toNat)) dX3_note_120 sh_66 g3.1 g3.2 rfl ?_
                refine ev_icmp_ge (tgt := 132) dX3_note_121 (by decide) (fun c4 => ?_) (fun c4 => ?_)
                · rw [if_pos c4] at h
                  exact SX3_note_57_4_48_132 ih x3 x5 x6 _ h
                · rw [if_neg c4] at h
                  exact SX3_note_57_4_48_124 ih x3 x5 x6 _ h
              · rw [if_neg g3] at h; exact h.elim
          · rw [if_neg g2] at h; exact h.elim
def FX3_note_57_4_48_0  (x3 : Int) (f : Mm) : Option Mm := (b2 (FX1_widthOn x3 f) fun y1 f1 => (if 0 ≤ x3 ∧ x3 < 7 then (if 0 ≤ x3 ∧ x3 < 6 then (b2 (FX0_costOf_4 (f1 49 x3.toNat) f1) fun y4 f4 => (if 0 ≤ (w32 (x3 + 1)) ∧ (w32 (x3 + 1)) < 7 then (if 0 ≤ x3 ∧ x3 < 7 then (b2 (FJ9_min_7cf53 (f4 59 x3.toNat) y1 (up f4 58 (w32 (x3 + 1)).toNat (w32 ((f1 58 x3.toNat) + y4)))) fun y7 f7 => (if 0 ≤ (w32 (x3 + 1)) ∧ (w32 (x3 + 1)) < 7 then (if 0 ≤ x3 ∧ x3 < 6 then (b2 (FJ9_max_7cf53 (f7 65 x3.toNat) y1 (up f7 59 (w32 (x3 + 1)).toNat y7)) fun y10 f10 => (if 0 ≤ x3 ∧ x3 < 6 then (b2 (FX1_passedOn x3 (up f10 65 x3.toNat y10)) fun y12 f12 => FX3_note_57_4_48_78 fu x3 y12 0 f12) else none)) else none) else none)) else none) else none)) else none) else none))
set_option maxHeartbeats 4000000 in
set_option maxRecDepth 100000 in
theorem SX3_note_57_4_48_0 {G : GT} {l : Launch} {Q : Option AV → Mem → Prop}  (x3 : Int) (f : Mm) (h : OkV Q (FX3_note_57_4_48_0  x3 f)) : Ev G l MX3_note (Rm 3 0 0) (ZM G Q 0 0) 0 0 0 [some (vR 57), some (vR 4), some (vR 48), some (vI x3), none, none, none] [] (SH, RF, f) := by
  unfold FX3_note_57_4_48_0 at h
  refine ev_aload_n (i := 2) dX3_note_0 rfl rfl ?_
  refine ev_iload_n (i := 3) dX3_note_1 rfl rfl ?_
  refine ev_cVI (b := 48) (av := [vI x3]) (S := []) (fun q => q) h dX3_note_2 (fun Q' q => TX1_widthOn x3 _ q) kvX1_widthOn ml_X3_92 sh_48 rfl (RRc (by decide) (by decide)) (Nat.le_of_ble_eq_true rfl) ⟨Nat.le_of_ble_eq_true rfl, Nat.le_of_ble_eq_true rfl⟩ (fun y1 f1 h => ?_)
  refine ev_istore (L' := [some (vR 57), some (vR 4), some (vR 48), some (vI x3), some (vI y1), none, none]) dX3_note_5 (by decide) rfl ?_
  refine ev_aload_n (i := 0) dX3_note_7 rfl rfl ?_
  refine ev_getR dX3_note_8 fl_X3_9 sh_57 (by decide) (by decide) rf_57_3 ?_
  refine ev_iload_n (i := 3) dX3_note_11 rfl rfl ?_
  refine ev_iconst dX3_note_12 (r32c rfl) ?_
  refine ev_iadd dX3_note_13 ?_
  refine ev_aload_n (i := 0) dX3_note_14 rfl rfl ?_
  refine ev_getR dX3_note_15 fl_X3_9 sh_57 (by decide) (by decide) rf_57_3 ?_
  refine ev_iload_n (i := 3) dX3_note_18 rfl rfl ?_
  by_cases g2 : 0 ≤ x3 ∧ x3 < 7
  · rw [if_pos g2] at h
    refine ex_iald (x := (f1 58 x3.toNat)) dX3_note_19 sh_58 g2.1 g2.2 rfl ?_
    refine ev_aload_n (i := 1) dX3_note_20 rfl rfl ?_
    refine ev_aload_n (i := 2) dX3_note_21 rfl rfl ?_
    refine ev_getR dX3_note_22 fl_X3_89 sh_48 (by decide) (by decide) rf_48_0 ?_
    refine ev_iload_n (i := 3) dX3_note_25 rfl rfl ?_
    by_cases g3 : 0 ≤ x3 ∧ x3 < 6
    · rw [if_pos g3] at h
      refine ex_iald (x := (f1 49 x3.toNat)) dX3_note_26 sh_49 g3.1 g3.2 rfl ?_
      refine ev_cVI (b := 4) (av := [vI (f1 49 x3.toNat)]) (S := [vI (f1 58 x3.toNat), vI (w32 (x3 + 1)), vR 58]) (fun q => q) h dX3_note_27 (fun Q' q => TX0_costOf_4 (f1 49 x3.toNat) _ q) kvX0_costOf ml_X3_96 sh_4 rfl (RRc (by decide) (by decide)) (Nat.le_of_ble_eq_true rfl) ⟨Nat.le_of_ble_eq_true rfl, Nat.le_of_ble_eq_true rfl⟩ (fun y4 f4 h => ?_)
      refine ev_iadd dX3_note_30 ?_
      by_cases g5 : 0 ≤ (w32 (x3 + 1)) ∧ (w32 (x3 + 1)) < 7
      · rw [if_pos g5] at h
        refine ex_iast (j := (w32 (x3 + 1)).toNat) dX3_note_31 sh_58 g5.1 g5.2 rfl ?_
        refine ev_aload_n (i := 0) dX3_note_32 rfl rfl ?_
        refine ev_getR dX3_note_33 fl_X3_15 sh_57 (by decide) (by decide) rf_57_4 ?_
        refine ev_iload_n (i := 3) dX3_note_36 rfl rfl ?_
        refine ev_iconst dX3_note_37 (r32c rfl) ?_
        refine ev_iadd dX3_note_38 ?_
        refine ev_aload_n (i := 0) dX3_note_39 rfl rfl ?_
        refine ev_getR dX3_note_40 fl_X3_15 sh_57 (by decide) (by decide) rf_57_4 ?_
        refine ev_iload_n (i := 3) dX3_note_43 rfl rfl ?_
        by_cases g6 : 0 ≤ x3 ∧ x3 < 7
        · rw [if_pos g6] at h
          refine ex_iald (x := (f4 59 x3.toNat)) dX3_note_44 sh_59 g6.1 g6.2 rfl ?_
          refine ev_iload dX3_note_45 rfl ?_
          refine ev_cSI (av := [vI (f4 59 x3.toNat), vI y1]) (S := [vI (w32 (x3 + 1)), vR 59]) (fun q => q) h dX3_note_47 (fun Q' q => TJ9_min_7cf53 (f4 59 x3.toNat) y1 _ q) ksJ9_min_7cf53 ml_X3_99 rfl (RRc (by decide) (by decide)) (Nat.le_of_ble_eq_true rfl) ⟨Nat.le_of_ble_eq_true rfl, Nat.le_of_ble_eq_true rfl⟩ (fun y7 f7 h => ?_)
          by_cases g8 : 0 ≤ (w32 (x3 + 1)) ∧ (w32 (x3 + 1)) < 7
          · rw [if_pos g8] at h
            refine ex_iast (j := (w32 (x3 + 1)).toNat) dX3_note_50 sh_59 g8.1 g8.2 rfl ?_
            refine ev_aload_n (i := 0) dX3_note_51 rfl rfl ?_
            refine ev_getR dX3_note_52 fl_X3_33 sh_57 (by decide) (by decide) rf_57_10 ?_
            refine ev_iload_n (i := 3) dX3_note_55 rfl rfl ?_
            refine ev_aload_n (i := 0) dX3_note_56 rfl rfl ?_
            refine ev_getR dX3_note_57 fl_X3_33 sh_57 (by decide) (by decide) rf_57_10 ?_
            refine ev_iload_n (i := 3) dX3_note_60 rfl rfl ?_
            by_cases g9 : 0 ≤ x3 ∧ x3 < 6
            · rw [if_pos g9] at h
              refine ex_iald (x := (f7 65 x3.toNat)) dX3_note_61 sh_65 g9.1 g9.2 rfl ?_
              refine ev_iload dX3_note_62 rfl ?_
              refine ev_cSI (av := [vI (f7 65 x3.toNat), vI y1]) (S := [vI x3, vR 65]) (fun q => q) h dX3_note_64 (fun Q' q => TJ9_max_7cf53 (f7 65 x3.toNat) y1 _ q) ksJ9_max_7cf53 ml_X3_105 rfl (RRc (by decide) (by decide)) (Nat.le_of_ble_eq_true rfl) ⟨Nat.le_of_ble_eq_true rfl, Nat.le_of_ble_eq_true rfl⟩ (fun y10 f10 h => ?_)
              by_cases g11 : 0 ≤ x3 ∧ x3 < 6
              · rw [if_pos g11] at h
                refine ex_iast (j := x3.toNat) dX3_note_67 sh_65 g11.1 g11.2 rfl ?_
                refine ev_aload_n (i := 2) dX3_note_68 rfl rfl ?_
                refine ev_iload_n (i := 3) dX3_note_69 rfl rfl ?_
                refine ev_cVI (b := 48) (av := [vI x3]) (S := []) (fun q => q) h dX3_note_70 (fun Q' q => TX1_passedOn x3 _ q) kvX1_passedOn ml_X3_108 sh_48 rfl (RRc (by decide) (by decide)) (Nat.le_of_ble_eq_true rfl) ⟨Nat.le_of_ble_eq_true rfl, Nat.le_of_ble_eq_true rfl⟩ (fun y12 f12 h => ?_)
                refine ev_istore (L' := [some (vR 57), some (vR 4), some (vR 48), some (vI x3), some (vI y1), some (vI y12), none]) dX3_note_73 (by decide) rfl ?_
                refine ev_iconst dX3_note_75 (r32c rfl) ?_
                refine ev_istore (L' := [some (vR 57), some (vR 4), some (vR 48), some (vI x3), some (vI y1), some (vI y12), some (vI 0)]) dX3_note_76 (by decide) rfl ?_
                refine ev_fg [true, true, false, true, false, true, true] rfl ?_
                exact SX3_note_57_4_48_78  fu x3 y12 0 _ h
              · rw [if_neg g11] at h; exact h.elim
            · rw [if_neg g9] at h; exact h.elim
          · rw [if_neg g8] at h; exact h.elim
        · rw [if_neg g6] at h; exact h.elim
      · rw [if_neg g5] at h; exact h.elim
    · rw [if_neg g3] at h; exact h.elim
  · rw [if_neg g2] at h; exact h.elim
def FX3_note_57_4_48 (x3 : Int) (f : Mm) : Option Mm := FX3_note_57_4_48_0 x3 f
theorem TX3_note_57_4_48 {G : GT} {l : Launch} {Q : Option AV → Mem → Prop} (x3 : Int) (f : Mm) (h : OkV Q (FX3_note_57_4_48 x3 f)) : Ret G l MX3_note (3) 0 0 [vR 57, vR 4, vR 48, vI x3] (SH, RF, f) Q := by
  refine ret_of (L := [some (vR 57), some (vR 4), some (vR 48), some (vI x3), none, none, none]) (by decide) rfl (Nat.le_of_ble_eq_true rfl) ?_
  exact SX3_note_57_4_48_0 x3 f h
theorem dX3_enter_96 : decode cX3_enter 96 = .ok (.aload_n 0, 1) := by decide +kernel
theorem dX3_enter_97 : decode cX3_enter 97 = .ok (.getfield 30, 3) := by decide +kernel
theorem dX3_enter_100 : decode cX3_enter 100 = .ok (.iload 4, 2) := by decide +kernel
theorem dX3_enter_102 : decode cX3_enter 102 = .ok (.iload_n 3, 1) := by decide +kernel
theorem dX3_enter_103 : decode cX3_enter 103 = .ok (.iastore, 1) := by decide +kernel
theorem dX3_enter_104 : decode cX3_enter 104 = .ok (.return_, 1) := by decide +kernel
theorem dX3_enter_74 : decode cX3_enter 74 = .ok (.aload_n 0, 1) := by decide +kernel
theorem dX3_enter_75 : decode cX3_enter 75 = .ok (.getfield 30, 3) := by decide +kernel
theorem dX3_enter_78 : decode cX3_enter 78 = .ok (.iload 4, 2) := by decide +kernel
theorem dX3_enter_80 : decode cX3_enter 80 = .ok (.iaload, 1) := by decide +kernel
theorem dX3_enter_81 : decode cX3_enter 81 = .ok (.iconst (-1), 1) := by decide +kernel
theorem dX3_enter_82 : decode cX3_enter 82 = .ok (.if_icmp .eq 14, 3) := by decide +kernel
theorem dX3_enter_85 : decode cX3_enter 85 = .ok (.iload_n 3, 1) := by decide +kernel
theorem dX3_enter_86 : decode cX3_enter 86 = .ok (.aload_n 0, 1) := by decide +kernel
theorem dX3_enter_87 : decode cX3_enter 87 = .ok (.getfield 30, 3) := by decide +kernel
theorem dX3_enter_90 : decode cX3_enter 90 = .ok (.iload 4, 2) := by decide +kernel
theorem dX3_enter_92 : decode cX3_enter 92 = .ok (.iaload, 1) := by decide +kernel
theorem dX3_enter_93 : decode cX3_enter 93 = .ok (.if_icmp .ge 11, 3) := by decide +kernel
theorem dX3_enter_30 : decode cX3_enter 30 = .ok (.aload_n 0, 1) := by decide +kernel
theorem dX3_enter_31 : decode cX3_enter 31 = .ok (.getfield 21, 3) := by decide +kernel
theorem dX3_enter_34 : decode cX3_enter 34 = .ok (.iload_n 2, 1) := by decide +kernel
theorem dX3_enter_35 : decode cX3_enter 35 = .ok (.iload_n 3, 1) := by decide +kernel
theorem dX3_enter_36 : decode cX3_enter 36 = .ok (.iastore, 1) := by decide +kernel
theorem dX3_enter_37 : decode cX3_enter 37 = .ok (.aload_n 0, 1) := by decide +kernel
theorem dX3_enter_38 : decode cX3_enter 38 = .ok (.getfield 24, 3) := by decide +kernel
theorem dX3_enter_41 : decode cX3_enter 41 = .ok (.iload_n 2, 1) := by decide +kernel
theorem dX3_enter_42 : decode cX3_enter 42 = .ok (.iconst 1, 1) := by decide +kernel
theorem dX3_enter_43 : decode cX3_enter 43 = .ok (.iastore, 1) := by decide +kernel
theorem dX3_enter_44 : decode cX3_enter 44 = .ok (.aload_n 0, 1) := by decide +kernel
theorem dX3_enter_45 : decode cX3_enter 45 = .ok (.getfield 27, 3) := by decide +kernel
theorem dX3_enter_48 : decode cX3_enter 48 = .ok (.iload_n 2, 1) := by decide +kernel
theorem dX3_enter_49 : decode cX3_enter 49 = .ok (.iload_n 1, 1) := by decide +kernel
theorem dX3_enter_50 : decode cX3_enter 50 = .ok (.iastore, 1) := by decide +kernel
theorem dX3_enter_51 : decode cX3_enter 51 = .ok (.goto 23, 3) := by decide +kernel
theorem dX3_enter_0 : decode cX3_enter 0 = .ok (.aload_n 0, 1) := by decide +kernel
theorem dX3_enter_1 : decode cX3_enter 1 = .ok (.getfield 18, 3) := by decide +kernel
theorem dX3_enter_4 : decode cX3_enter 4 = .ok (.iload_n 2, 1) := by decide +kernel
theorem dX3_enter_5 : decode cX3_enter 5 = .ok (.dup2, 1) := by decide +kernel
theorem dX3_enter_6 : decode cX3_enter 6 = .ok (.iaload, 1) := by decide +kernel
theorem dX3_enter_7 : decode cX3_enter 7 = .ok (.iconst 1, 1) := by decide +kernel
theorem dX3_enter_8 : decode cX3_enter 8 = .ok (.iadd, 1) := by decide +kernel
theorem dX3_enter_9 : decode cX3_enter 9 = .ok (.iastore, 1) := by decide +kernel
theorem dX3_enter_10 : decode cX3_enter 10 = .ok (.aload_n 0, 1) := by decide +kernel
theorem dX3_enter_11 : decode cX3_enter 11 = .ok (.getfield 21, 3) := by decide +kernel
theorem dX3_enter_14 : decode cX3_enter 14 = .ok (.iload_n 2, 1) := by decide +kernel
theorem dX3_enter_15 : decode cX3_enter 15 = .ok (.iaload, 1) := by decide +kernel
theorem dX3_enter_16 : decode cX3_enter 16 = .ok (.iconst (-1), 1) := by decide +kernel
theorem dX3_enter_17 : decode cX3_enter 17 = .ok (.if_icmp .eq 13, 3) := by decide +kernel
theorem dX3_enter_20 : decode cX3_enter 20 = .ok (.iload_n 3, 1) := by decide +kernel
theorem dX3_enter_21 : decode cX3_enter 21 = .ok (.aload_n 0, 1) := by decide +kernel
theorem dX3_enter_22 : decode cX3_enter 22 = .ok (.getfield 21, 3) := by decide +kernel
theorem dX3_enter_25 : decode cX3_enter 25 = .ok (.iload_n 2, 1) := by decide +kernel
theorem dX3_enter_26 : decode cX3_enter 26 = .ok (.iaload, 1) := by decide +kernel
theorem dX3_enter_27 : decode cX3_enter 27 = .ok (.if_icmp .ge 27, 3) := by decide +kernel
theorem dX3_enter_54 : decode cX3_enter 54 = .ok (.iload_n 3, 1) := by decide +kernel
theorem dX3_enter_55 : decode cX3_enter 55 = .ok (.aload_n 0, 1) := by decide +kernel
theorem dX3_enter_56 : decode cX3_enter 56 = .ok (.getfield 21, 3) := by decide +kernel
theorem dX3_enter_59 : decode cX3_enter 59 = .ok (.iload_n 2, 1) := by decide +kernel
theorem dX3_enter_60 : decode cX3_enter 60 = .ok (.iaload, 1) := by decide +kernel
theorem dX3_enter_61 : decode cX3_enter 61 = .ok (.if_icmp .ne 13, 3) := by decide +kernel
theorem dX3_enter_64 : decode cX3_enter 64 = .ok (.aload_n 0, 1) := by decide +kernel
theorem dX3_enter_65 : decode cX3_enter 65 = .ok (.getfield 24, 3) := by decide +kernel
theorem dX3_enter_68 : decode cX3_enter 68 = .ok (.iload_n 2, 1) := by decide +kernel
theorem dX3_enter_69 : decode cX3_enter 69 = .ok (.dup2, 1) := by decide +kernel
theorem dX3_enter_70 : decode cX3_enter 70 = .ok (.iaload, 1) := by decide +kernel
theorem dX3_enter_71 : decode cX3_enter 71 = .ok (.iconst 1, 1) := by decide +kernel
theorem dX3_enter_72 : decode cX3_enter 72 = .ok (.iadd, 1) := by decide +kernel
theorem dX3_enter_73 : decode cX3_enter 73 = .ok (.iastore, 1) := by decide +kernel
def FX3_enter_96  (x3 : Int) (x4 : Int) (f : Mm) : Option Mm := (if 0 ≤ x4 ∧ x4 < 61 then some (up f 64 x4.toNat x3) else none)
set_option maxHeartbeats 4000000 in
set_option maxRecDepth 100000 in
theorem SX3_enter_96 {G : GT} {l : Launch} {Q : Option AV → Mem → Prop}  (x3 : Int) (x4 : Int) (f : Mm) (h : OkV Q (FX3_enter_96  x3 x4 f)) : Ev G l MX3_enter (Rm 1 0 0) (ZM G Q 0 0) 0 0 96 [some (vR 57), none, none, some (vI x3), some (vI x4)] [] (SH, RF, f) := by
  unfold FX3_enter_96 at h
  refine ev_aload_n (i := 0) dX3_enter_96 rfl rfl ?_
  refine ev_getR dX3_enter_97 fl_X3_30 sh_57 (by decide) (by decide) rf_57_9 ?_
  refine ev_iload dX3_enter_100 rfl ?_
  refine ev_iload_n (i := 3) dX3_enter_102 rfl rfl ?_
  by_cases g1 : 0 ≤ x4 ∧ x4 < 61
  · rw [if_pos g1] at h
    refine ex_iast (j := x4.toNat) dX3_enter_103 sh_64 g1.1 g1.2 rfl ?_
    exact ev_vret rfl dX3_enter_104 h
  · rw [if_neg g1] at h; exact h.elim
def FX3_enter_74  (x3 : Int) (x4 : Int) (f : Mm) : Option Mm := (if 0 ≤ x4 ∧ x4 < 61 then (if (f 64 x4.toNat) = (-1) then FX3_enter_96 x3 x4 f else (if 0 ≤ x4 ∧ x4 < 61 then (if (f 64 x4.toNat) ≤ x3 then some f else FX3_enter_96 x3 x4 f) else none)) else none)
set_option maxHeartbeats 4000000 in
set_option maxRecDepth 100000 in
theorem SX3_enter_74 {G : GT} {l : Launch} {Q : Option AV → Mem → Prop}  (x3 : Int) (x4 : Int) (f : Mm) (h : OkV Q (FX3_enter_74  x3 x4 f)) : Ev G l MX3_enter (Rm 1 0 0) (ZM G Q 0 0) 0 0 74 [some (vR 57), none, none, some (vI x3), some (vI x4)] [] (SH, RF, f) := by
  unfold FX3_enter_74 at h
  refine ev_aload_n (i := 0) dX3_enter_74 rfl rfl ?_
  refine ev_getR dX3_enter_75 fl_X3_30 sh_57 (by decide) (by decide) rf_57_9 ?_
  refine ev_iload dX3_enter_78 rfl ?_
  by_cases g1 : 0 ≤ x4 ∧ x4 < 61
  · rw [if_pos g1] at h
    refine ex_iald (x := (f 64 x4.toNat)) dX3_enter_80 sh_64 g1.1 g1.2 rfl ?_
    refine ev_iconst dX3_enter_81 (r32c rfl) ?_
    refine ev_icmp_eq (tgt := 96) dX3_enter_82 (by decide) (fun c4 => ?_) (fun c4 => ?_)
    · rw [if_pos c4] at h
      exact SX3_enter_96  x3 x4 _ h
    · rw [if_neg c4] at h
      refine ev_iload_n (i := 3) dX3_enter_85 rfl rfl ?_
      refine ev_aload_n (i := 0) dX3_enter_86 rfl rfl ?_
      refine ev_getR dX3_enter_87 fl_X3_30 sh_57 (by decide) (by decide) rf_57_9 ?_
      refine ev_iload dX3_enter_90 rfl ?_
      by_cases g2 : 0 ≤ x4 ∧ x4 < 61
      · rw [if_pos g2] at h
        refine ex_iald (x := (f 64 x4.toNat)) dX3_enter_92 sh_64 g2.1 g2.2 rfl ?_
        refine ev_icmp_ge (tgt := 104) dX3_enter_93 (by decide) (fun c3 => ?_) (fun c3 => ?_)
        · rw [if_pos c3] at h
          exact ev_vret rfl dX3_enter_104 h
        · rw [if_neg c3] at h
          exact SX3_enter_96  x3 x4 _ h
      · rw [if_neg g2] at h; exact h.elim
  · rw [if_neg g1] at h; exact h.elim
def FX3_enter_30  (x1 : Int) (x2 : Int) (x3 : Int) (x4 : Int) (f : Mm) : Option Mm := (if 0 ≤ x2 ∧ x2 < 64 then (if 0 ≤ x2 ∧ x2 < 64 then (if 0 ≤ x2 ∧ x2 < 64 then FX3_enter_74 x3 x4 (up (up (up f 61 x2.toNat x3) 62 x2.toNat 1) 63 x2.toNat x1) else none) else none) else none)
set_option maxHeartbeats 4000000 in
set_option maxRecDepth 100000 in
theorem SX3_enter_30 {G : GT} {l : Launch} {Q : Option AV → Mem → Prop}  (x1 : Int) (x2 : Int) (x3 : Int) (x4 : Int) (f : Mm) (h : OkV Q (FX3_enter_30  x1 x2 x3 x4 f)) : Ev G l MX3_enter (Rm 1 0 0) (ZM G Q 0 0) 0 0 30 [some (vR 57), some (vI x1), some (vI x2), some (vI x3), some (vI x4)] [] (SH, RF, f) := by
  unfold FX3_enter_30 at h
  refine ev_aload_n (i := 0) dX3_enter_30 rfl rfl ?_
  refine ev_getR dX3_enter_31 fl_X3_21 sh_57 (by decide) (by decide) rf_57_6 ?_
  refine ev_iload_n (i := 2) dX3_enter_34 rfl rfl ?_
  refine ev_iload_n (i := 3) dX3_enter_35 rfl rfl ?_
  by_cases g1 : 0 ≤ x2 ∧ x2 < 64
  · rw [if_pos g1] at h
    refine ex_iast (j := x2.toNat) dX3_enter_36 sh_61 g1.1 g1.2 rfl ?_
    refine ev_aload_n (i := 0) dX3_enter_37 rfl rfl ?_
    refine ev_getR dX3_enter_38 fl_X3_24 sh_57 (by decide) (by decide) rf_57_7 ?_
    refine ev_iload_n (i := 2) dX3_enter_41 rfl rfl ?_
    refine ev_iconst dX3_enter_42 (r32c rfl) ?_
    by_cases g2 : 0 ≤ x2 ∧ x2 < 64
    · rw [if_pos g2] at h
      refine ex_iast (j := x2.toNat) dX3_enter_43 sh_62 g2.1 g2.2 rfl ?_
      refine ev_aload_n (i := 0) dX3_enter_44 rfl rfl ?_
      refine ev_getR dX3_enter_45 fl_X3_27 sh_57 (by decide) (by decide) rf_57_8 ?_
      refine ev_iload_n (i := 2) dX3_enter_48 rfl rfl ?_
      refine ev_iload_n (i := 1) dX3_enter_49 rfl rfl ?_
      by_cases g3 : 0 ≤ x2 ∧ x2 < 64
      · rw [if_pos g3] at h
        refine ex_iast (j := x2.toNat) dX3_enter_50 sh_63 g3.1 g3.2 rfl ?_
        refine ev_goto (tgt := 74) dX3_enter_51 (by decide) ?_
        refine ev_fg [true, false, false, true, true] rfl ?_
        exact SX3_enter_74  x3 x4 _ h
      · rw [if_neg g3] at h; exact h.elim
    · rw [if_neg g2] at h; exact h.elim
  · rw [if_neg g1] at h; exact h.elim
def FX3_enter_0  (x1 : Int) (x2 : Int) (x3 : Int) (x4 : Int) (f : Mm) : Option Mm := (if 0 ≤ x2 ∧ x2 < 64 then (if 0 ≤ x2 ∧ x2 < 64 then (if 0 ≤ x2 ∧ x2 < 64 then (if (f 61 x2.toNat) = (-1) then FX3_enter_30 x1 x2 x3 x4 (up f 60 x2.toNat (w32 ((f 60 x2.toNat) + 1))) else (if 0 ≤ x2 ∧ x2 < 64 then (if (f 61 x2.toNat) ≤ x3 then (if 0 ≤ x2 ∧ x2 < 64 then (if x3 = (f 61 x2.toNat) then (if 0 ≤ x2 ∧ x2 < 64 then (if 0 ≤ x2 ∧ x2 < 64 then FX3_enter_74 x3 x4 (up (up f 60 x2.toNat (w32 ((f 60 x2.toNat) + 1))) 62 x2.toNat (w32 ((f 62 x2.toNat) + 1))) else none) else none) else FX3_enter_74 x3 x4 (up f 60 x2.toNat (w32 ((f 60 x2.toNat) + 1)))) else none) else FX3_enter_30 x1 x2 x3 x4 (up f 60 x2.toNat (w32 ((f 60 x2.toNat) + 1)))) else none)) else none) else none) else none)
set_option maxHeartbeats 4000000 in
set_option maxRecDepth 100000 in
theorem SX3_enter_0 {G : GT} {l : Launch} {Q : Option AV → Mem → Prop}  (x1 : Int) (x2 : Int) (x3 : Int) (x4 : Int) (f : Mm) (h : OkV Q (FX3_enter_0  x1 x2 x3 x4 f)) : Ev G l MX3_enter (Rm 1 0 0) (ZM G Q 0 0) 0 0 0 [some (vR 57), some (vI x1), some (vI x2), some (vI x3), some (vI x4)] [] (SH, RF, f) := by
  unfold FX3_enter_0 at h
  refine ev_aload_n (i := 0) dX3_enter_0 rfl rfl ?_
  refine ev_getR dX3_enter_1 fl_X3_18 sh_57 (by decide) (by decide) rf_57_5 ?_
  refine ev_iload_n (i := 2) dX3_enter_4 rfl rfl ?_
  refine ev_dup2IR dX3_enter_5 ?_
  by_cases g1 : 0 ≤ x2 ∧ x2 < 64
  · rw [if_pos g1] at h
    refine ex_iald (x := (f 60 x2.toNat)) dX3_enter_6 sh_60 g1.1 g1.2 rfl ?_
    refine ev_iconst dX3_enter_7 (r32c rfl) ?_
    refine ev_iadd dX3_enter_8 ?_
    by_cases g2 : 0 ≤ x2 ∧ x2 < 64
    · rw [if_pos g2] at h
      refine ex_iast (j := x2.toNat) dX3_enter_9 sh_60 g2.1 g2.2 rfl ?_
      refine ev_aload_n (i := 0) dX3_enter_10 rfl rfl ?_
      refine ev_getR dX3_enter_11 fl_X3_21 sh_57 (by decide) (by decide) rf_57_6 ?_
      refine ev_iload_n (i := 2) dX3_enter_14 rfl rfl ?_
      by_cases g3 : 0 ≤ x2 ∧ x2 < 64
      · rw [if_pos g3] at h
        refine ex_iald (x := (f 61 x2.toNat)) dX3_enter_15 sh_61 g3.1 g3.2 rfl ?_
        refine ev_iconst dX3_enter_16 (r32c rfl) ?_
        refine ev_icmp_eq (tgt := 30) dX3_enter_17 (by decide) (fun c10 => ?_) (fun c10 => ?_)
        · rw [if_pos c10] at h
          exact SX3_enter_30  x1 x2 x3 x4 _ h
        · rw [if_neg c10] at h
          refine ev_iload_n (i := 3) dX3_enter_20 rfl rfl ?_
          refine ev_aload_n (i := 0) dX3_enter_21 rfl rfl ?_
          refine ev_getR dX3_enter_22 fl_X3_21 sh_57 (by decide) (by decide) rf_57_6 ?_
          refine ev_iload_n (i := 2) dX3_enter_25 rfl rfl ?_
          by_cases g4 : 0 ≤ x2 ∧ x2 < 64
          · rw [if_pos g4] at h
            refine ex_iald (x := (f 61 x2.toNat)) dX3_enter_26 sh_61 g4.1 g4.2 rfl ?_
            refine ev_icmp_ge (tgt := 54) dX3_enter_27 (by decide) (fun c9 => ?_) (fun c9 => ?_)
            · rw [if_pos c9] at h
              refine ev_iload_n (i := 3) dX3_enter_54 rfl rfl ?_
              refine ev_aload_n (i := 0) dX3_enter_55 rfl rfl ?_
              refine ev_getR dX3_enter_56 fl_X3_21 sh_57 (by decide) (by decide) rf_57_6 ?_
              refine ev_iload_n (i := 2) dX3_enter_59 rfl rfl ?_
              by_cases g5 : 0 ≤ x2 ∧ x2 < 64
              · rw [if_pos g5] at h
                refine ex_iald (x := (f 61 x2.toNat)) dX3_enter_60 sh_61 g5.1 g5.2 rfl ?_
                refine ev_icmp_ne (tgt := 74) dX3_enter_61 (by decide) (fun c8 => ?_) (fun c8 => ?_)
                · rw [if_neg c8] at h
                  refine ev_fg [true, false, false, true, true] rfl ?_
                  exact SX3_enter_74  x3 x4 _ h
                · rw [if_pos c8] at h
                  refine ev_aload_n (i := 0) dX3_enter_64 rfl rfl ?_
                  refine ev_getR dX3_enter_65 fl_X3_24 sh_57 (by decide) (by decide) rf_57_7 ?_
                  refine ev_iload_n (i := 2) dX3_enter_68 rfl rfl ?_
                  refine ev_dup2IR dX3_enter_69 ?_
                  by_cases g6 : 0 ≤ x2 ∧ x2 < 64
                  · rw [if_pos g6] at h
                    refine ex_iald (x := (f 62 x2.toNat)) dX3_enter_70 sh_62 g6.1 g6.2 rfl ?_
                    refine ev_iconst dX3_enter_71 (r32c rfl) ?_
                    refine ev_iadd dX3_enter_72 ?_
                    by_cases g7 : 0 ≤ x2 ∧ x2 < 64
                    · rw [if_pos g7] at h
                      refine ex_iast (j := x2.toNat) dX3_enter_73 sh_62 g7.1 g7.2 rfl ?_
                      refine ev_fg [true, false, false, true, true] rfl ?_
                      exact SX3_enter_74  x3 x4 _ h
                    · rw [if_neg g7] at h; exact h.elim
                  · rw [if_neg g6] at h; exact h.elim
              · rw [if_neg g5] at h; exact h.elim
            · rw [if_neg c9] at h
              exact SX3_enter_30  x1 x2 x3 x4 _ h
          · rw [if_neg g4] at h; exact h.elim
      · rw [if_neg g3] at h; exact h.elim
    · rw [if_neg g2] at h; exact h.elim
  · rw [if_neg g1] at h; exact h.elim
def FX3_enter (x1 : Int) (x2 : Int) (x3 : Int) (x4 : Int) (f : Mm) : Option Mm := FX3_enter_0 x1 x2 x3 x4 f
theorem TX3_enter {G : GT} {l : Launch} {Q : Option AV → Mem → Prop} (x1 : Int) (x2 : Int) (x3 : Int) (x4 : Int) (f : Mm) (h : OkV Q (FX3_enter x1 x2 x3 x4 f)) : Ret G l MX3_enter (1) 0 0 [vR 57, vI x1, vI x2, vI x3, vI x4] (SH, RF, f) Q := by
  refine ret_of (L := [some (vR 57), some (vI x1), some (vI x2), some (vI x3), some (vI x4)]) (by decide) rfl (Nat.le_of_ble_eq_true rfl) ?_
  exact SX3_enter_0 x1 x2 x3 x4 f h
theorem dX3_turnPlan_26 : decode cX3_turnPlan 26 = .ok (.aload_n 1, 1) := by decide +kernel
theorem dX3_turnPlan_27 : decode cX3_turnPlan 27 = .ok (.getfield 89, 3) := by decide +kernel
theorem dX3_turnPlan_30 : decode cX3_turnPlan 30 = .ok (.iload_n 2, 1) := by decide +kernel
theorem dX3_turnPlan_31 : decode cX3_turnPlan 31 = .ok (.dup2, 1) := by decide +kernel
theorem dX3_turnPlan_32 : decode cX3_turnPlan 32 = .ok (.iaload, 1) := by decide +kernel
theorem dX3_turnPlan_33 : decode cX3_turnPlan 33 = .ok (.iconst 1, 1) := by decide +kernel
theorem dX3_turnPlan_34 : decode cX3_turnPlan 34 = .ok (.iadd, 1) := by decide +kernel
theorem dX3_turnPlan_35 : decode cX3_turnPlan 35 = .ok (.iastore, 1) := by decide +kernel
theorem dX3_turnPlan_36 : decode cX3_turnPlan 36 = .ok (.iload_n 2, 1) := by decide +kernel
theorem dX3_turnPlan_37 : decode cX3_turnPlan 37 = .ok (.ireturn, 1) := by decide +kernel
theorem dX3_turnPlan_7 : decode cX3_turnPlan 7 = .ok (.iload_n 2, 1) := by decide +kernel
theorem dX3_turnPlan_8 : decode cX3_turnPlan 8 = .ok (.ifCond .lt 43, 3) := by decide +kernel
theorem dX3_turnPlan_51 : decode cX3_turnPlan 51 = .ok (.iconst 0, 1) := by decide +kernel
theorem dX3_turnPlan_52 : decode cX3_turnPlan 52 = .ok (.ireturn, 1) := by decide +kernel
theorem dX3_turnPlan_11 : decode cX3_turnPlan 11 = .ok (.aload_n 1, 1) := by decide +kernel
theorem dX3_turnPlan_12 : decode cX3_turnPlan 12 = .ok (.getfield 89, 3) := by decide +kernel
theorem dX3_turnPlan_15 : decode cX3_turnPlan 15 = .ok (.iload_n 2, 1) := by decide +kernel
theorem dX3_turnPlan_16 : decode cX3_turnPlan 16 = .ok (.iaload, 1) := by decide +kernel
theorem dX3_turnPlan_17 : decode cX3_turnPlan 17 = .ok (.iconst 2, 1) := by decide +kernel
theorem dX3_turnPlan_18 : decode cX3_turnPlan 18 = .ok (.iadd, 1) := by decide +kernel
theorem dX3_turnPlan_19 : decode cX3_turnPlan 19 = .ok (.aload_n 0, 1) := by decide +kernel
theorem dX3_turnPlan_20 : decode cX3_turnPlan 20 = .ok (.getfield 51, 3) := by decide +kernel
theorem dX3_turnPlan_23 : decode cX3_turnPlan 23 = .ok (.if_icmp .ge 15, 3) := by decide +kernel
theorem dX3_turnPlan_38 : decode cX3_turnPlan 38 = .ok (.aload_n 1, 1) := by decide +kernel
theorem dX3_turnPlan_39 : decode cX3_turnPlan 39 = .ok (.getfield 89, 3) := by decide +kernel
theorem dX3_turnPlan_42 : decode cX3_turnPlan 42 = .ok (.iload_n 2, 1) := by decide +kernel
theorem dX3_turnPlan_43 : decode cX3_turnPlan 43 = .ok (.iconst (-1), 1) := by decide +kernel
theorem dX3_turnPlan_44 : decode cX3_turnPlan 44 = .ok (.iastore, 1) := by decide +kernel
theorem dX3_turnPlan_45 : decode cX3_turnPlan 45 = .ok (.iinc 2 (-1), 3) := by decide +kernel
theorem dX3_turnPlan_48 : decode cX3_turnPlan 48 = .ok (.goto (-41), 3) := by decide +kernel
theorem dX3_turnPlan_0 : decode cX3_turnPlan 0 = .ok (.aload_n 0, 1) := by decide +kernel
theorem dX3_turnPlan_1 : decode cX3_turnPlan 1 = .ok (.getfield 47, 3) := by decide +kernel
theorem dX3_turnPlan_4 : decode cX3_turnPlan 4 = .ok (.iconst 1, 1) := by decide +kernel
theorem dX3_turnPlan_5 : decode cX3_turnPlan 5 = .ok (.isub, 1) := by decide +kernel
theorem dX3_turnPlan_6 : decode cX3_turnPlan 6 = .ok (.istore_n 2, 1) := by decide +kernel
def FX3_turnPlan_57_48_26  (x2 : Int) (f : Mm) : Option (Int × Mm) := (if 0 ≤ x2 ∧ x2 < 6 then (if 0 ≤ x2 ∧ x2 < 6 then some (x2, (up f 49 x2.toNat (w32 ((f 49 x2.toNat) + 1)))) else none) else none)
set_option maxHeartbeats 4000000 in
set_option maxRecDepth 100000 in
theorem SX3_turnPlan_57_48_26 {G : GT} {l : Launch} {Q : Option AV → Mem → Prop}  (x2 : Int) (f : Mm) (h : OkI Q (FX3_turnPlan_57_48_26  x2 f)) : Ev G l MX3_turnPlan (Rm 1 0 0) (ZM G Q 0 0) 0 0 26 [none, some (vR 48), some (vI x2)] [] (SH, RF, f) := by
  unfold FX3_turnPlan_57_48_26 at h
  refine ev_aload_n (i := 1) dX3_turnPlan_26 rfl rfl ?_
  refine ev_getR dX3_turnPlan_27 fl_X3_89 sh_48 (by decide) (by decide) rf_48_0 ?_
  refine ev_iload_n (i := 2) dX3_turnPlan_30 rfl rfl ?_
  refine ev_dup2IR dX3_turnPlan_31 ?_
  by_cases g1 : 0 ≤ x2 ∧ x2 < 6
  · rw [if_pos g1] at h
    refine ex_iald (x := (f 49 x2.toNat)) dX3_turnPlan_32 sh_49 g1.1 g1.2 rfl ?_
    refine ev_iconst dX3_turnPlan_33 (r32c rfl) ?_
    refine ev_iadd dX3_turnPlan_34 ?_
    by_cases g2 : 0 ≤ x2 ∧ x2 < 6
    · rw [if_pos g2] at h
      refine ex_iast (j := x2.toNat) dX3_turnPlan_35 sh_49 g2.1 g2.2 rfl ?_
      refine ev_iload_n (i := 2) dX3_turnPlan_36 rfl rfl ?_
      exact ev_iret rfl dX3_turnPlan_37 h
    · rw [if_neg g2] at h; exact h.elim
  · rw [if_neg g1] at h; exact h.elim
def FX3_turnPlan_57_48_7  : Nat → Int → Mm → Option (Int × Mm)
  | 0, _, _ => none
  | n + 1, x2, f => (if x2 < 0 then some (0, f) else (if 0 ≤ x2 ∧ x2 < 6 then (if (f 57 2) ≤ (w32 ((f 49 x2.toNat) + 2)) then (if 0 ≤ x2 ∧ x2 < 6 then FX3_turnPlan_57_48_7 n (w32 (x2 + (-1))) (up f 49 x2.toNat (-1)) else none) else FX3_turnPlan_57_48_26 x2 f) else none))
set_option maxHeartbeats 4000000 in
set_option maxRecDepth 100000 in
theorem SX3_turnPlan_57_48_7 {G : GT} {l : Launch} {Q : Option AV → Mem → Prop}  : ∀ (n : Nat) (x2 : Int) (f : Mm), OkI Q (FX3_turnPlan_57_48_7  n x2 f) → Ev G l MX3_turnPlan (Rm 1 0 0) (ZM G Q 0 0) 0 0 7 [some (vR 57), some (vR 48), some (vI x2)] [] (SH, RF, f) := by
  intro n
  induction n with
  | zero => intro x2 f h; exact absurd h (by rw [FX3_turnPlan_57_48_7]; exact fun q => q)
  | succ n ih =>
    intro x2 f h
    rw [FX3_turnPlan_57_48_7] at h
    refine ev_iload_n (i := 2) dX3_turnPlan_7 rfl rfl ?_
    refine ev_if_lt (tgt := 51) dX3_turnPlan_8 (by decide) (fun c4 => ?_) (fun c4 => ?_)
    · rw [if_pos c4] at h
      refine ev_iconst dX3_turnPlan_51 (r32c rfl) ?_
      exact ev_iret rfl dX3_turnPlan_52 h
    · rw [if_neg c4] at h
      refine ev_aload_n (i := 1) dX3_turnPlan_11 rfl rfl ?_
      refine ev_getR dX3_turnPlan_12 fl_X3_89 sh_48 (by decide) (by decide) rf_48_0 ?_
      refine ev_iload_n (i := 2) dX3_turnPlan_15 rfl rfl ?_
      by_cases g1 : 0 ≤ x2 ∧ x2 < 6
      · rw [if_pos g1] at h
        refine ex_iald (x := (f 49 x2.toNat)) dX3_turnPlan_16 sh_49 g1.1 g1.2 rfl ?_
        refine ev_iconst dX3_turnPlan_17 (r32c rfl) ?_
        refine ev_iadd dX3_turnPlan_18 ?_
        refine ev_aload_n (i := 0) dX3_turnPlan_19 rfl rfl ?_
        refine ex_getI (x := (f 57 2)) dX3_turnPlan_20 fl_X3_51 sh_57 (by decide) (by decide) rfl ?_
        refine ev_icmp_ge (tgt := 38) dX3_turnPlan_23 (by decide) (fun c3 => ?_) (fun c3 => ?_)
        · rw [if_pos c3] at h
          refine ev_aload_n (i := 1) dX3_turnPlan_38 rfl rfl ?_
          refine ev_getR dX3_turnPlan_39 fl_X3_89 sh_48 (by decide) (by decide) rf_48_0 ?_
          refine ev_iload_n (i := 2) dX3_turnPlan_42 rfl rfl ?_
          refine ev_iconst dX3_turnPlan_43 (r32c rfl) ?_
          by_cases g2 : 0 ≤ x2 ∧ x2 < 6
          · rw [if_pos g2] at h
            refine ex_iast (j := x2.toNat) dX3_turnPlan_44 sh_49 g2.1 g2.2 rfl ?_
            refine ev_iinc (L' := [some (vR 57), some (vR 48), some (vI (w32 (x2 + (-1))))]) dX3_turnPlan_45 rfl (by decide) rfl ?_
            refine ev_goto (tgt := 7) dX3_turnPlan_48 (by decide) ?_
            exact ih (w32 (x2 + (-1))) _ h
          · rw [if_neg g2] at h; exact h.elim
        · rw [if_neg c3] at h
          refine ev_fg [false, true, true] rfl ?_
          exact SX3_turnPlan_57_48_26  x2 _ h
      · rw [if_neg g1] at h; exact h.elim
def FX3_turnPlan_57_48_0   (f : Mm) : Option (Int × Mm) := FX3_turnPlan_57_48_7 fu (w32 ((f 57 1) - 1)) f
set_option maxHeartbeats 4000000 in
set_option maxRecDepth 100000 in
theorem SX3_turnPlan_57_48_0 {G : GT} {l : Launch} {Q : Option AV → Mem → Prop}   (f : Mm) (h : OkI Q (FX3_turnPlan_57_48_0   f)) : Ev G l MX3_turnPlan (Rm 1 0 0) (ZM G Q 0 0) 0 0 0 [some (vR 57), some (vR 48), none] [] (SH, RF, f) := by
  unfold FX3_turnPlan_57_48_0 at h
  refine ev_aload_n (i := 0) dX3_turnPlan_0 rfl rfl ?_
  refine ex_getI (x := (f 57 1)) dX3_turnPlan_1 fl_X3_47 sh_57 (by decide) (by decide) rfl ?_
  refine ev_iconst dX3_turnPlan_4 (r32c rfl) ?_
  refine ev_isub dX3_turnPlan_5 ?_
  refine ev_istore_n (i := 2) (L' := [some (vR 57), some (vR 48), some (vI (w32 ((f 57 1) - 1)))]) dX3_turnPlan_6 rfl (by decide) rfl ?_
  exact SX3_turnPlan_57_48_7  fu (w32 ((f 57 1) - 1)) _ h
def FX3_turnPlan_57_48  (f : Mm) : Option (Int × Mm) := FX3_turnPlan_57_48_0  f
theorem TX3_turnPlan_57_48 {G : GT} {l : Launch} {Q : Option AV → Mem → Prop}  (f : Mm) (h : OkI Q (FX3_turnPlan_57_48  f)) : Ret G l MX3_turnPlan (1) 0 0 [vR 57, vR 48] (SH, RF, f) Q := by
  refine ret_of (L := [some (vR 57), some (vR 48), none]) (by decide) rfl (Nat.le_of_ble_eq_true rfl) ?_
  exact SX3_turnPlan_57_48_0  f h
theorem dX3_weigh_99 : decode cX3_weigh 99 = .ok (.aload_n 0, 1) := by decide +kernel
theorem dX3_weigh_100 : decode cX3_weigh 100 = .ok (.iload 5, 2) := by decide +kernel
theorem dX3_weigh_102 : decode cX3_weigh 102 = .ok (.aload_n 2, 1) := by decide +kernel
theorem dX3_weigh_103 : decode cX3_weigh 103 = .ok (.aload_n 1, 1) := by decide +kernel
theorem dX3_weigh_104 : decode cX3_weigh 104 = .ok (.invokevirtual 67, 3) := by decide +kernel
theorem dX3_weigh_107 : decode cX3_weigh 107 = .ok (.aload_n 0, 1) := by decide +kernel
theorem dX3_weigh_108 : decode cX3_weigh 108 = .ok (.getfield 9, 3) := by decide +kernel
theorem dX3_weigh_111 : decode cX3_weigh 111 = .ok (.aload_n 0, 1) := by decide +kernel
theorem dX3_weigh_112 : decode cX3_weigh 112 = .ok (.getfield 47, 3) := by decide +kernel
theorem dX3_weigh_115 : decode cX3_weigh 115 = .ok (.iaload, 1) := by decide +kernel
theorem dX3_weigh_116 : decode cX3_weigh 116 = .ok (.aload_n 0, 1) := by decide +kernel
theorem dX3_weigh_117 : decode cX3_weigh 117 = .ok (.getfield 15, 3) := by decide +kernel
theorem dX3_weigh_120 : decode cX3_weigh 120 = .ok (.aload_n 0, 1) := by decide +kernel
theorem dX3_weigh_121 : decode cX3_weigh 121 = .ok (.getfield 47, 3) := by decide +kernel
theorem dX3_weigh_124 : decode cX3_weigh 124 = .ok (.iaload, 1) := by decide +kernel
theorem dX3_weigh_125 : decode cX3_weigh 125 = .ok (.invokevirtual 71, 3) := by decide +kernel
theorem dX3_weigh_128 : decode cX3_weigh 128 = .ok (.aload_n 0, 1) := by decide +kernel
theorem dX3_weigh_129 : decode cX3_weigh 129 = .ok (.aload_n 2, 1) := by decide +kernel
theorem dX3_weigh_130 : decode cX3_weigh 130 = .ok (.invokevirtual 75, 3) := by decide +kernel
theorem dX3_weigh_133 : decode cX3_weigh 133 = .ok (.istore 4, 2) := by decide +kernel
theorem dX3_weigh_135 : decode cX3_weigh 135 = .ok (.iinc 5 1, 3) := by decide +kernel
theorem dX3_weigh_138 : decode cX3_weigh 138 = .ok (.goto (-86), 3) := by decide +kernel
theorem dX3_weigh_62 : decode cX3_weigh 62 = .ok (.iload 6, 2) := by decide +kernel
theorem dX3_weigh_64 : decode cX3_weigh 64 = .ok (.aload_n 0, 1) := by decide +kernel
theorem dX3_weigh_65 : decode cX3_weigh 65 = .ok (.getfield 47, 3) := by decide +kernel
theorem dX3_weigh_68 : decode cX3_weigh 68 = .ok (.if_icmp .ge 31, 3) := by decide +kernel
theorem dX3_weigh_71 : decode cX3_weigh 71 = .ok (.aload_n 2, 1) := by decide +kernel
theorem dX3_weigh_72 : decode cX3_weigh 72 = .ok (.aload_n 1, 1) := by decide +kernel
theorem dX3_weigh_73 : decode cX3_weigh 73 = .ok (.iload 6, 2) := by decide +kernel
theorem dX3_weigh_75 : decode cX3_weigh 75 = .ok (.invokevirtual 54, 3) := by decide +kernel
theorem dX3_weigh_78 : decode cX3_weigh 78 = .ok (.aload_n 2, 1) := by decide +kernel
theorem dX3_weigh_79 : decode cX3_weigh 79 = .ok (.aload_n 1, 1) := by decide +kernel
theorem dX3_weigh_80 : decode cX3_weigh 80 = .ok (.iload 6, 2) := by decide +kernel
theorem dX3_weigh_82 : decode cX3_weigh 82 = .ok (.invokevirtual 60, 3) := by decide +kernel
theorem dX3_weigh_85 : decode cX3_weigh 85 = .ok (.aload_n 0, 1) := by decide +kernel
theorem dX3_weigh_86 : decode cX3_weigh 86 = .ok (.aload_n 1, 1) := by decide +kernel
theorem dX3_weigh_87 : decode cX3_weigh 87 = .ok (.aload_n 2, 1) := by decide +kernel
theorem dX3_weigh_88 : decode cX3_weigh 88 = .ok (.iload 6, 2) := by decide +kernel
theorem dX3_weigh_90 : decode cX3_weigh 90 = .ok (.invokevirtual 63, 3) := by decide +kernel
theorem dX3_weigh_93 : decode cX3_weigh 93 = .ok (.iinc 6 1, 3) := by decide +kernel
theorem dX3_weigh_96 : decode cX3_weigh 96 = .ok (.goto (-34), 3) := by decide +kernel
theorem dX3_weigh_52 : decode cX3_weigh 52 = .ok (.iload 5, 2) := by decide +kernel
theorem dX3_weigh_54 : decode cX3_weigh 54 = .ok (.iload_n 3, 1) := by decide +kernel
theorem dX3_weigh_55 : decode cX3_weigh 55 = .ok (.if_icmp .ge 86, 3) := by decide +kernel
theorem dX3_weigh_141 : decode cX3_weigh 141 = .ok (.return_, 1) := by decide +kernel
theorem dX3_weigh_58 : decode cX3_weigh 58 = .ok (.iload 4, 2) := by decide +kernel
theorem dX3_weigh_60 : decode cX3_weigh 60 = .ok (.istore 6, 2) := by decide +kernel
theorem dX3_weigh_46 : decode cX3_weigh 46 = .ok (.iconst 0, 1) := by decide +kernel
theorem dX3_weigh_47 : decode cX3_weigh 47 = .ok (.istore 4, 2) := by decide +kernel
theorem dX3_weigh_49 : decode cX3_weigh 49 = .ok (.iconst 0, 1) := by decide +kernel
theorem dX3_weigh_50 : decode cX3_weigh 50 = .ok (.istore 5, 2) := by decide +kernel
theorem dX3_weigh_24 : decode cX3_weigh 24 = .ok (.iload 4, 2) := by decide +kernel
theorem dX3_weigh_26 : decode cX3_weigh 26 = .ok (.aload_n 0, 1) := by decide +kernel
theorem dX3_weigh_27 : decode cX3_weigh 27 = .ok (.getfield 47, 3) := by decide +kernel
theorem dX3_weigh_30 : decode cX3_weigh 30 = .ok (.if_icmp .ge 16, 3) := by decide +kernel
theorem dX3_weigh_33 : decode cX3_weigh 33 = .ok (.iload_n 3, 1) := by decide +kernel
theorem dX3_weigh_34 : decode cX3_weigh 34 = .ok (.aload_n 0, 1) := by decide +kernel
theorem dX3_weigh_35 : decode cX3_weigh 35 = .ok (.getfield 51, 3) := by decide +kernel
theorem dX3_weigh_38 : decode cX3_weigh 38 = .ok (.imul, 1) := by decide +kernel
theorem dX3_weigh_39 : decode cX3_weigh 39 = .ok (.istore_n 3, 1) := by decide +kernel
theorem dX3_weigh_40 : decode cX3_weigh 40 = .ok (.iinc 4 1, 3) := by decide +kernel
theorem dX3_weigh_43 : decode cX3_weigh 43 = .ok (.goto (-19), 3) := by decide +kernel
theorem dX3_weigh_0 : decode cX3_weigh 0 = .ok (.aload_n 0, 1) := by decide +kernel
theorem dX3_weigh_1 : decode cX3_weigh 1 = .ok (.getfield 39, 3) := by decide +kernel
theorem dX3_weigh_4 : decode cX3_weigh 4 = .ok (.ifCond .eq 4, 3) := by decide +kernel
theorem dX3_weigh_8 : decode cX3_weigh 8 = .ok (.aload_n 0, 1) := by decide +kernel
theorem dX3_weigh_9 : decode cX3_weigh 9 = .ok (.iconst 1, 1) := by decide +kernel
theorem dX3_weigh_10 : decode cX3_weigh 10 = .ok (.putfield 39, 3) := by decide +kernel
theorem dX3_weigh_13 : decode cX3_weigh 13 = .ok (.aload_n 0, 1) := by decide +kernel
theorem dX3_weigh_14 : decode cX3_weigh 14 = .ok (.aload_n 1, 1) := by decide +kernel
theorem dX3_weigh_15 : decode cX3_weigh 15 = .ok (.aload_n 2, 1) := by decide +kernel
theorem dX3_weigh_16 : decode cX3_weigh 16 = .ok (.invokevirtual 43, 3) := by decide +kernel
theorem dX3_weigh_19 : decode cX3_weigh 19 = .ok (.iconst 1, 1) := by decide +kernel
theorem dX3_weigh_20 : decode cX3_weigh 20 = .ok (.istore_n 3, 1) := by decide +kernel
theorem dX3_weigh_21 : decode cX3_weigh 21 = .ok (.iconst 0, 1) := by decide +kernel
theorem dX3_weigh_22 : decode cX3_weigh 22 = .ok (.istore 4, 2) := by decide +kernel
theorem dX3_weigh_7 : decode cX3_weigh 7 = .ok (.return_, 1) := by decide +kernel
def FX3_weigh_57_4_48_99 (k52 : Int → Int → Int → Mm → Option Mm) (x3 : Int) (x5 : Int) (f : Mm) : Option Mm := (b2 (FX1_keptBits_48_4 f) fun y1 f1 => (if 0 ≤ (f1 57 1) ∧ (f1 57 1) < 7 then (if 0 ≤ (f1 57 1) ∧ (f1 57 1) < 7 then ((FX3_enter x5 y1 (f1 58 (f1 57 1).toNat) (f1 59 (f1 57 1).toNat) f1).bind fun f4 => (b2 (FX3_turnPlan_57_48 f4) fun y5 f5 => k52 x3 y5 (w32 (x5 + 1)) f5)) else none) else none))
set_option maxHeartbeats 4000000 in
set_option maxRecDepth 100000 in
theorem SX3_weigh_57_4_48_99 {G : GT} {l : Launch} {Q : Option AV → Mem → Prop} {k52 : Int → Int → Int → Mm → Option Mm} (q52 : ∀ (x3 : Int) (x4 : Int) (x5 : Int) (f : Mm), OkV Q (k52 x3 x4 x5 f) → Ev G l MX3_weigh (Rm 4 0 0) (ZM G Q 0 0) 0 0 52 [some (vR 57), some (vR 4), some (vR 48), some (vI x3), some (vI x4), some (vI x5), none] [] (SH, RF, f)) (x3 : Int) (x5 : Int) (f : Mm) (h : OkV Q (FX3_weigh_57_4_48_99 k52 x3 x5 f)) : Ev G l MX3_weigh (Rm 4 0 0) (ZM G Q 0 0) 0 0 99 [some (vR 57), some (vR 4), some (vR 48), some (vI x3), none, some (vI x5), none] [] (SH, RF, f) := by
  unfold FX3_weigh_57_4_48_99 at h
  refine ev_aload_n (i := 0) dX3_weigh_99 rfl rfl ?_
  refine ev_iload dX3_weigh_100 rfl ?_
  refine ev_aload_n (i := 2) dX3_weigh_102 rfl rfl ?_
  refine ev_aload_n (i := 1) dX3_weigh_103 rfl rfl ?_
  refine ev_cVI (b := 48) (av := [vR 4]) (S := [vI x5, vR 57]) (fun q => q) h dX3_weigh_104 (fun Q' q => TX1_keptBits_48_4 _ q) kvX1_keptBits ml_X3_67 sh_48 rfl (RRc (by decide) (by decide)) (Nat.le_of_ble_eq_true rfl) ⟨Nat.le_of_ble_eq_true rfl, Nat.le_of_ble_eq_true rfl⟩ (fun y1 f1 h => ?_)
  refine ev_aload_n (i := 0) dX3_weigh_107 rfl rfl ?_
  refine ev_getR dX3_weigh_108 fl_X3_9 sh_57 (by decide) (by decide) rf_57_3 ?_
  refine ev_aload_n (i := 0) dX3_weigh_111 rfl rfl ?_
  refine ex_getI (x := (f1 57 1)) dX3_weigh_112 fl_X3_47 sh_57 (by decide) (by decide) rfl ?_
  by_cases g2 : 0 ≤ (f1 57 1) ∧ (f1 57 1) < 7
  · rw [if_pos g2] at h
    refine ex_iald (x := (f1 58 (f1 57 1).toNat)) dX3_weigh_115 sh_58 g2.1 g2.2 rfl ?_
    refine ev_aload_n (i := 0) dX3_weigh_116 rfl rfl ?_
    refine ev_getR dX3_weigh_117 fl_X3_15 sh_57 (by decide) (by decide) rf_57_4 ?_
    refine ev_aload_n (i := 0) dX3_weigh_120 rfl rfl ?_
    refine ex_getI (x := (f1 57 1)) dX3_weigh_121 fl_X3_47 sh_57 (by decide) (by decide) rfl ?_
    by_cases g3 : 0 ≤ (f1 57 1) ∧ (f1 57 1) < 7
    · rw [if_pos g3] at h
      refine ex_iald (x := (f1 59 (f1 57 1).toNat)) dX3_weigh_124 sh_59 g3.1 g3.2 rfl ?_
      refine ev_cVV (b := 57) (av := [vI x5, vI y1, vI (f1 58 (f1 57 1).toNat), vI (f1 59 (f1 57 1).toNat)]) (S := []) (fun q => q) h dX3_weigh_125 (fun Q' q => TX3_enter x5 y1 (f1 58 (f1 57 1).toNat) (f1 59 (f1 57 1).toNat) _ q) kvX3_enter ml_X3_71 sh_57 rfl (RRc (by decide) (by decide)) (Nat.le_of_ble_eq_true rfl) ⟨Nat.le_of_ble_eq_true rfl, Nat.le_of_ble_eq_true rfl⟩ (fun f4 h => ?_)
      refine ev_aload_n (i := 0) dX3_weigh_128 rfl rfl ?_
      refine ev_aload_n (i := 2) dX3_weigh_129 rfl rfl ?_
      refine ev_cVI (b := 57) (av := [vR 48]) (S := []) (fun q => q) h dX3_weigh_130 (fun Q' q => TX3_turnPlan_57_48 _ q) kvX3_turnPlan ml_X3_75 sh_57 rfl (RRc (by decide) (by decide)) (Nat.le_of_ble_eq_true rfl) ⟨Nat.le_of_ble_eq_true rfl, Nat.le_of_ble_eq_true rfl⟩ (fun y5 f5 h => ?_)
      refine ev_istore (L' := [some (vR 57), some (vR 4), some (vR 48), some (vI x3), some (vI y5), some (vI x5), none]) dX3_weigh_133 (by decide) rfl ?_
      refine ev_iinc (L' := [some (vR 57), some (vR 4), some (vR 48), some (vI x3), some (vI y5), some (vI (w32 (x5 + 1))), none]) dX3_weigh_135 rfl (by decide) rfl ?_
      refine ev_goto (tgt := 52) dX3_weigh_138 (by decide) ?_
      exact q52 x3 y5 (w32 (x5 + 1)) _ h
    · rw [if_neg g3] at h; exact h.elim
  · rw [if_neg g2] at h; exact h.elim
def FX3_weigh_57_4_48_62 (k52 : Int → Int → Int → Mm → Option Mm) : Nat → Int → Int → Int → Mm → Option Mm
  | 0, _, _, _, _ => none
  | n + 1, x3, x5, x6, f => (if (f 57 1) ≤ x6 then FX3_weigh_57_4_48_99 k52 x3 x5 f else ((FX1_feelDay_48_4 x6 f).bind fun f1 => ((FX1_passDay_48_4 x6 f1).bind fun f2 => ((FX3_note_57_4_48 x6 f2).bind fun f3 => FX3_weigh_57_4_48_62 k52 n x3 x5 (w32 (x6 + 1)) f3))))
set_option maxHeartbeats 4000000 in
set_option maxRecDepth 100000 in
theorem SX3_weigh_57_4_48_62 {G : GT} {l : Launch} {Q : Option AV → Mem → Prop} {k52 : Int → Int → Int → Mm → Option Mm} (q52 : ∀ (x3 : Int) (x4 : Int) (x5 : Int) (f : Mm), OkV Q (k52 x3 x4 x5 f) → Ev G l MX3_weigh (Rm 4 0 0) (ZM G Q 0 0) 0 0 52 [some (vR 57), some (vR 4), some (vR 48), some (vI x3), some (vI x4), some (vI x5), none] [] (SH, RF, f)) : ∀ (n : Nat) (x3 : Int) (x5 : Int) (x6 : Int) (f : Mm), OkV Q (FX3_weigh_57_4_48_62 k52 n x3 x5 x6 f) → Ev G l MX3_weigh (Rm 4 0 0) (ZM G Q 0 0) 0 0 62 [some (vR 57), some (vR 4), some (vR 48), some (vI x3), none, some (vI x5), some (vI x6)] [] (SH, RF, f) := by
  intro n
  induction n with
  | zero => intro x3 x5 x6 f h; exact absurd h (by rw [FX3_weigh_57_4_48_62]; exact fun q => q)
  | succ n ih =>
    intro x3 x5 x6 f h
    rw [FX3_weigh_57_4_48_62] at h
    refine ev_iload dX3_weigh_62 rfl ?_
    refine ev_aload_n (i := 0) dX3_weigh_64 rfl rfl ?_
    refine ex_getI (x := (f 57 1)) dX3_weigh_65 fl_X3_47 sh_57 (by decide) (by decide) rfl ?_
    refine ev_icmp_ge (tgt := 99) dX3_weigh_68 (by decide) (fun c4 => ?_) (fun c4 => ?_)
    · rw [if_pos c4] at h
      refine ev_fg [true, true, true, true, true, true, false] rfl ?_
      exact SX3_weigh_57_4_48_99 q52 x3 x5 _ h
    · rw [if_neg c4] at h
      refine ev_aload_n (i := 2) dX3_weigh_71 rfl rfl ?_
      refine ev_aload_n (i := 1) dX3_weigh_72 rfl rfl ?_
      refine ev_iload dX3_weigh_73 rfl ?_
      refine ev_cVV (b := 48) (av := [vR 4, vI x6]) (S := []) (fun q => q) h dX3_weigh_75 (fun Q' q => TX1_feelDay_48_4 x6 _ q) kvX1_feelDay ml_X3_54 sh_48 rfl (RRc (by decide) (by decide)) (Nat.le_of_ble_eq_true rfl) ⟨Nat.le_of_ble_eq_true rfl, Nat.le_of_ble_eq_true rfl⟩ (fun f1 h => ?_)
      refine ev_aload_n (i := 2) dX3_weigh_78 rfl rfl ?_
      refine ev_aload_n (i := 1) dX3_weigh_79 rfl rfl ?_
      refine ev_iload dX3_weigh_80 rfl ?_
      refine ev_cVV (b := 48) (av := [vR 4, vI x6]) (S := []) (fun q => q) h dX3_weigh_82 (fun Q' q => TX1_passDay_48_4 x6 _ q) kvX1_passDay ml_X3_60 sh_48 rfl (RRc (by decide) (by decide)) (Nat.le_of_ble_eq_true rfl) ⟨Nat.le_of_ble_eq_true rfl, Nat.le_of_ble_eq_true rfl⟩ (fun f2 h => ?_)
      refine ev_aload_n (i := 0) dX3_weigh_85 rfl rfl ?_
      refine ev_aload_n (i := 1) dX3_weigh_86 rfl rfl ?_
      refine ev_aload_n (i := 2) dX3_weigh_87 rfl rfl ?_
      refine ev_iload dX3_weigh_88 rfl ?_
      refine ev_cVV (b := 57) (av := [vR 4, vR 48, vI x6]) (S := []) (fun q => q) h dX3_weigh_90 (fun Q' q => TX3_note_57_4_48 x6 _ q) kvX3_note ml_X3_63 sh_57 rfl (RRc (by decide) (by decide)) (Nat.le_of_ble_eq_true rfl) ⟨Nat.le_of_ble_eq_true rfl, Nat.le_of_ble_eq_true rfl⟩ (fun f3 h => ?_)
      refine ev_iinc (L' := [some (vR 57), some (vR 4), some (vR 48), some (vI x3), none, some (vI x5), some (vI (w32 (x6 + 1)))]) dX3_weigh_93 rfl (by decide) rfl ?_
      refine ev_goto (tgt := 62) dX3_weigh_96 (by decide) ?_
      exact ih x3 x5 (w32 (x6 + 1)) _ h
def FX3_weigh_57_4_48_52  : Nat → Int → Int → Int → Mm → Option Mm
  | 0, _, _, _, _ => none
  | n + 1, x3, x4, x5, f => (if x3 ≤ x5 then some f else FX3_weigh_57_4_48_62 (FX3_weigh_57_4_48_52 n) fu x3 x5 x4 f)
set_option maxHeartbeats 4000000 in
set_option maxRecDepth 100000 in
theorem SX3_weigh_57_4_48_52 {G : GT} {l : Launch} {Q : Option AV → Mem → Prop}  : ∀ (n : Nat) (x3 : Int) (x4 : Int) (x5 : Int) (f : Mm), OkV Q (FX3_weigh_57_4_48_52  n x3 x4 x5 f) → Ev G l MX3_weigh (Rm 4 0 0) (ZM G Q 0 0) 0 0 52 [some (vR 57), some (vR 4), some (vR 48), some (vI x3), some (vI x4), some (vI x5), none] [] (SH, RF, f) := by
  intro n
  induction n with
  | zero => intro x3 x4 x5 f h; exact absurd h (by rw [FX3_weigh_57_4_48_52]; exact fun q => q)
  | succ n ih =>
    intro x3 x4 x5 f h
    rw [FX3_weigh_57_4_48_52] at h
    refine ev_iload dX3_weigh_52 rfl ?_
    refine ev_iload_n (i := 3) dX3_weigh_54 rfl rfl ?_
    refine ev_icmp_ge (tgt := 141) dX3_weigh_55 (by decide) (fun c1 => ?_) (fun c1 => ?_)
    · rw [if_pos c1] at h
      exact ev_vret rfl dX3_weigh_141 h
    · rw [if_neg c1] at h
      refine ev_iload dX3_weigh_58 rfl ?_
      refine ev_istore (L' := [some (vR 57), some (vR 4), some (vR 48), some (vI x3), some (vI x4), some (vI x5), some (vI x4)]) dX3_weigh_60 (by decide) rfl ?_
      refine ev_fg [true, true, true, true, false, true, true] rfl ?_
      exact SX3_weigh_57_4_48_62 ih fu x3 x5 x4 _ h
def FX3_weigh_57_4_48_46  (x3 : Int) (f : Mm) : Option Mm := FX3_weigh_57_4_48_52 fu x3 0 0 f
set_option maxHeartbeats 4000000 in
set_option maxRecDepth 100000 in
theorem SX3_weigh_57_4_48_46 {G : GT} {l : Launch} {Q : Option AV → Mem → Prop}  (x3 : Int) (f : Mm) (h : OkV Q (FX3_weigh_57_4_48_46  x3 f)) : Ev G l MX3_weigh (Rm 4 0 0) (ZM G Q 0 0) 0 0 46 [some (vR 57), some (vR 4), some (vR 48), some (vI x3), none, none, none] [] (SH, RF, f) := by
  unfold FX3_weigh_57_4_48_46 at h
  refine ev_iconst dX3_weigh_46 (r32c rfl) ?_
  refine ev_istore (L' := [some (vR 57), some (vR 4), some (vR 48), some (vI x3), some (vI 0), none, none]) dX3_weigh_47 (by decide) rfl ?_
  refine ev_iconst dX3_weigh_49 (r32c rfl) ?_
  refine ev_istore (L' := [some (vR 57), some (vR 4), some (vR 48), some (vI x3), some (vI 0), some (vI 0), none]) dX3_weigh_50 (by decide) rfl ?_
  exact SX3_weigh_57_4_48_52  fu x3 0 0 _ h
def FX3_weigh_57_4_48_24  : Nat → Int → Int → Mm → Option Mm
  | 0, _, _, _ => none
  | n + 1, x3, x4, f => (if (f 57 1) ≤ x4 then FX3_weigh_57_4_48_46 x3 f else FX3_weigh_57_4_48_24 n (w32 (x3 * (f 57 2))) (w32 (x4 + 1)) f)
set_option maxHeartbeats 4000000 in
set_option maxRecDepth 100000 in
theorem SX3_weigh_57_4_48_24 {G : GT} {l : Launch} {Q : Option AV → Mem → Prop}  : ∀ (n : Nat) (x3 : Int) (x4 : Int) (f : Mm), OkV Q (FX3_weigh_57_4_48_24  n x3 x4 f) → Ev G l MX3_weigh (Rm 4 0 0) (ZM G Q 0 0) 0 0 24 [some (vR 57), some (vR 4), some (vR 48), some (vI x3), some (vI x4), none, none] [] (SH, RF, f) := by
  intro n
  induction n with
  | zero => intro x3 x4 f h; exact absurd h (by rw [FX3_weigh_57_4_48_24]; exact fun q => q)
  | succ n ih =>
    intro x3 x4 f h
    rw [FX3_weigh_57_4_48_24] at h
    refine ev_iload dX3_weigh_24 rfl ?_
    refine ev_aload_n (i := 0) dX3_weigh_26 rfl rfl ?_
    refine ex_getI (x := (f 57 1)) dX3_weigh_27 fl_X3_47 sh_57 (by decide) (by decide) rfl ?_
    refine ev_icmp_ge (tgt := 46) dX3_weigh_30 (by decide) (fun c1 => ?_) (fun c1 => ?_)
    · rw [if_pos c1] at h
      refine ev_fg [true, true, true, true, false, true, true] rfl ?_
      exact SX3_weigh_57_4_48_46  x3 _ h
    · rw [if_neg c1] at h
      refine ev_iload_n (i := 3) dX3_weigh_33 rfl rfl ?_
      refine ev_aload_n (i := 0) dX3_weigh_34 rfl rfl ?_
      refine ex_getI (x := (f 57 2)) dX3_weigh_35 fl_X3_51 sh_57 (by decide) (by decide) rfl ?_
      refine ev_imul dX3_weigh_38 ?_
      refine ev_istore_n (i := 3) (L' := [some (vR 57), some (vR 4), some (vR 48), some (vI (w32 (x3 * (f 57 2)))), some (vI x4), none, none]) dX3_weigh_39 rfl (by decide) rfl ?_
      refine ev_iinc (L' := [some (vR 57), some (vR 4), some (vR 48), some (vI (w32 (x3 * (f 57 2)))), some (vI (w32 (x4 + 1))), none, none]) dX3_weigh_40 rfl (by decide) rfl ?_
      refine ev_goto (tgt := 24) dX3_weigh_43 (by decide) ?_
      exact ih (w32 (x3 * (f 57 2))) (w32 (x4 + 1)) _ h
def FX3_weigh_57_4_48_0   (f : Mm) : Option Mm := (if (f 57 0) = 0 then ((FX3_begin_57_4_48 (up f 57 0 1)).bind fun f1 => FX3_weigh_57_4_48_24 fu 1 0 f1) else some f)
set_option maxHeartbeats 4000000 in
set_option maxRecDepth 100000 in
theorem SX3_weigh_57_4_48_0 {G : GT} {l : Launch} {Q : Option AV → Mem → Prop}   (f : Mm) (h : OkV Q (FX3_weigh_57_4_48_0   f)) : Ev G l MX3_weigh (Rm 4 0 0) (ZM G Q 0 0) 0 0 0 [some (vR 57), some (vR 4), some (vR 48), none, none, none, none] [] (SH, RF, f) := by
  unfold FX3_weigh_57_4_48_0 at h
  refine ev_aload_n (i := 0) dX3_weigh_0 rfl rfl ?_
  refine ex_getZ (x := (f 57 0)) dX3_weigh_1 fl_X3_39 sh_57 (by decide) (by decide) rfl ?_
  refine ev_if_eq (tgt := 8) dX3_weigh_4 (by decide) (fun c2 => ?_) (fun c2 => ?_)
  · rw [if_pos c2] at h
    refine ev_aload_n (i := 0) dX3_weigh_8 rfl rfl ?_
    refine ev_iconst dX3_weigh_9 (r32c rfl) ?_
    refine ev_putZ dX3_weigh_10 fl_X3_39 sh_57 (by decide) (by decide) (by decide) ?_
    refine ev_aload_n (i := 0) dX3_weigh_13 rfl rfl ?_
    refine ev_aload_n (i := 1) dX3_weigh_14 rfl rfl ?_
    refine ev_aload_n (i := 2) dX3_weigh_15 rfl rfl ?_
    refine ev_cVV (b := 57) (av := [vR 4, vR 48]) (S := []) (fun q => q) h dX3_weigh_16 (fun Q' q => TX3_begin_57_4_48 _ q) kvX3_begin ml_X3_43 sh_57 rfl (RRc (by decide) (by decide)) (Nat.le_of_ble_eq_true rfl) ⟨Nat.le_of_ble_eq_true rfl, Nat.le_of_ble_eq_true rfl⟩ (fun f1 h => ?_)
    refine ev_iconst dX3_weigh_19 (r32c rfl) ?_
    refine ev_istore_n (i := 3) (L' := [some (vR 57), some (vR 4), some (vR 48), some (vI 1), none, none, none]) dX3_weigh_20 rfl (by decide) rfl ?_
    refine ev_iconst dX3_weigh_21 (r32c rfl) ?_
    refine ev_istore (L' := [some (vR 57), some (vR 4), some (vR 48), some (vI 1), some (vI 0), none, none]) dX3_weigh_22 (by decide) rfl ?_
    exact SX3_weigh_57_4_48_24  fu 1 0 _ h
  · rw [if_neg c2] at h
    exact ev_vret rfl dX3_weigh_7 h
def FX3_weigh_57_4_48  (f : Mm) : Option Mm := FX3_weigh_57_4_48_0  f
theorem TX3_weigh_57_4_48 {G : GT} {l : Launch} {Q : Option AV → Mem → Prop}  (f : Mm) (h : OkV Q (FX3_weigh_57_4_48  f)) : Ret G l MX3_weigh (4) 0 0 [vR 57, vR 4, vR 48] (SH, RF, f) Q := by
  refine ret_of (L := [some (vR 57), some (vR 4), some (vR 48), none, none, none, none]) (by decide) rfl (Nat.le_of_ble_eq_true rfl) ?_
  exact SX3_weigh_57_4_48_0  f h
theorem dX10_weighed_0 : decode cX10_weighed 0 = .ok (.aload_n 0, 1) := by decide +kernel
theorem dX10_weighed_1 : decode cX10_weighed 1 = .ok (.getfield 51, 3) := by decide +kernel
theorem dX10_weighed_4 : decode cX10_weighed 4 = .ok (.aload_n 0, 1) := by decide +kernel
theorem dX10_weighed_5 : decode cX10_weighed 5 = .ok (.getfield 19, 3) := by decide +kernel
theorem dX10_weighed_8 : decode cX10_weighed 8 = .ok (.aload_n 0, 1) := by decide +kernel
theorem dX10_weighed_9 : decode cX10_weighed 9 = .ok (.getfield 44, 3) := by decide +kernel
theorem dX10_weighed_12 : decode cX10_weighed 12 = .ok (.invokevirtual 423, 3) := by decide +kernel
theorem dX10_weighed_15 : decode cX10_weighed 15 = .ok (.aload_n 0, 1) := by decide +kernel
theorem dX10_weighed_16 : decode cX10_weighed 16 = .ok (.getfield 51, 3) := by decide +kernel
theorem dX10_weighed_19 : decode cX10_weighed 19 = .ok (.areturn, 1) := by decide +kernel
def FX10_weighed_0   (f : Mm) : Option Mm := ((FX3_weigh_57_4_48 f).bind fun f1 => some f1)
set_option maxHeartbeats 4000000 in
set_option maxRecDepth 100000 in
theorem SX10_weighed_0 {G : GT} {l : Launch} {Q : Option AV → Mem → Prop}   (f : Mm) (h : OkC 57 Q (FX10_weighed_0   f)) : Ev G l MX10_weighed (Rm 5 0 0) (ZM G Q 0 0) 0 0 0 [some (vR 0)] [] (SH, RF, f) := by
  unfold FX10_weighed_0 at h
  refine ev_aload_n (i := 0) dX10_weighed_0 rfl rfl ?_
  refine ev_getR dX10_weighed_1 fl_X10_51 sh_0 (by decide) (by decide) rf_0_7 ?_
  refine ev_aload_n (i := 0) dX10_weighed_4 rfl rfl ?_
  refine ev_getR dX10_weighed_5 fl_X10_19 sh_0 (by decide) (by decide) rf_0_1 ?_
  refine ev_aload_n (i := 0) dX10_weighed_8 rfl rfl ?_
  refine ev_getR dX10_weighed_9 fl_X10_44 sh_0 (by decide) (by decide) rf_0_6 ?_
  refine ev_cVV (b := 57) (av := [vR 4, vR 48]) (S := []) (fun q => q) h dX10_weighed_12 (fun Q' q => TX3_weigh_57_4_48 _ q) kvX3_weigh ml_X10_423 sh_57 rfl (RRc (by decide) (by decide)) (Nat.le_of_ble_eq_true rfl) ⟨Nat.le_of_ble_eq_true rfl, Nat.le_of_ble_eq_true rfl⟩ (fun f1 h => ?_)
  refine ev_aload_n (i := 0) dX10_weighed_15 rfl rfl ?_
  refine ev_getR dX10_weighed_16 fl_X10_51 sh_0 (by decide) (by decide) rf_0_7 ?_
  exact ev_aret rfl dX10_weighed_19 h
def FX10_weighed  (f : Mm) : Option Mm := FX10_weighed_0  f
theorem TX10_weighed {G : GT} {l : Launch} {Q : Option AV → Mem → Prop}  (f : Mm) (h : OkC 57 Q (FX10_weighed  f)) : Ret G l MX10_weighed (5) 0 0 [vR 0] (SH, RF, f) Q := by
  refine ret_of (L := [some (vR 0)]) (by decide) rfl (Nat.le_of_ble_eq_true rfl) ?_
  exact SX10_weighed_0  f h
theorem dX3_bestGain_64 : decode cX3_bestGain 64 = .ok (.iinc 4 1, 3) := by decide +kernel
theorem dX3_bestGain_67 : decode cX3_bestGain 67 = .ok (.goto (-61), 3) := by decide +kernel
theorem dX3_bestGain_43 : decode cX3_bestGain 43 = .ok (.istore 5, 2) := by decide +kernel
theorem dX3_bestGain_45 : decode cX3_bestGain 45 = .ok (.iload_n 3, 1) := by decide +kernel
theorem dX3_bestGain_46 : decode cX3_bestGain 46 = .ok (.aload_n 1, 1) := by decide +kernel
theorem dX3_bestGain_47 : decode cX3_bestGain 47 = .ok (.iload 5, 2) := by decide +kernel
theorem dX3_bestGain_49 : decode cX3_bestGain 49 = .ok (.invokevirtual 123, 3) := by decide +kernel
theorem dX3_bestGain_52 : decode cX3_bestGain 52 = .ok (.aload_n 0, 1) := by decide +kernel
theorem dX3_bestGain_53 : decode cX3_bestGain 53 = .ok (.getfield 21, 3) := by decide +kernel
theorem dX3_bestGain_56 : decode cX3_bestGain 56 = .ok (.iload 4, 2) := by decide +kernel
theorem dX3_bestGain_58 : decode cX3_bestGain 58 = .ok (.iaload, 1) := by decide +kernel
theorem dX3_bestGain_59 : decode cX3_bestGain 59 = .ok (.isub, 1) := by decide +kernel
theorem dX3_bestGain_60 : decode cX3_bestGain 60 = .ok (.invokestatic 105, 3) := by decide +kernel
theorem dX3_bestGain_63 : decode cX3_bestGain 63 = .ok (.istore_n 3, 1) := by decide +kernel
theorem dX3_bestGain_6 : decode cX3_bestGain 6 = .ok (.iload 4, 2) := by decide +kernel
theorem dX3_bestGain_8 : decode cX3_bestGain 8 = .ok (.aload_n 1, 1) := by decide +kernel
theorem dX3_bestGain_9 : decode cX3_bestGain 9 = .ok (.invokevirtual 119, 3) := by decide +kernel
theorem dX3_bestGain_12 : decode cX3_bestGain 12 = .ok (.if_icmp .gt 58, 3) := by decide +kernel
theorem dX3_bestGain_70 : decode cX3_bestGain 70 = .ok (.iload_n 3, 1) := by decide +kernel
theorem dX3_bestGain_71 : decode cX3_bestGain 71 = .ok (.ireturn, 1) := by decide +kernel
theorem dX3_bestGain_15 : decode cX3_bestGain 15 = .ok (.aload_n 0, 1) := by decide +kernel
theorem dX3_bestGain_16 : decode cX3_bestGain 16 = .ok (.getfield 18, 3) := by decide +kernel
theorem dX3_bestGain_19 : decode cX3_bestGain 19 = .ok (.iload 4, 2) := by decide +kernel
theorem dX3_bestGain_21 : decode cX3_bestGain 21 = .ok (.iaload, 1) := by decide +kernel
theorem dX3_bestGain_22 : decode cX3_bestGain 22 = .ok (.ifCond .le 42, 3) := by decide +kernel
theorem dX3_bestGain_25 : decode cX3_bestGain 25 = .ok (.iload_n 2, 1) := by decide +kernel
theorem dX3_bestGain_26 : decode cX3_bestGain 26 = .ok (.iconst (-1), 1) := by decide +kernel
theorem dX3_bestGain_27 : decode cX3_bestGain 27 = .ok (.if_icmp .ne 8, 3) := by decide +kernel
theorem dX3_bestGain_35 : decode cX3_bestGain 35 = .ok (.iload 4, 2) := by decide +kernel
theorem dX3_bestGain_37 : decode cX3_bestGain 37 = .ok (.iconst 1, 1) := by decide +kernel
theorem dX3_bestGain_38 : decode cX3_bestGain 38 = .ok (.iload_n 2, 1) := by decide +kernel
theorem dX3_bestGain_39 : decode cX3_bestGain 39 = .ok (.ishl, 1) := by decide +kernel
theorem dX3_bestGain_40 : decode cX3_bestGain 40 = .ok (.iconst (-1), 1) := by decide +kernel
theorem dX3_bestGain_41 : decode cX3_bestGain 41 = .ok (.ixor, 1) := by decide +kernel
theorem dX3_bestGain_42 : decode cX3_bestGain 42 = .ok (.iand, 1) := by decide +kernel
theorem dX3_bestGain_30 : decode cX3_bestGain 30 = .ok (.iload 4, 2) := by decide +kernel
theorem dX3_bestGain_32 : decode cX3_bestGain 32 = .ok (.goto 11, 3) := by decide +kernel
theorem dX3_bestGain_0 : decode cX3_bestGain 0 = .ok (.ldc 118, 2) := by decide +kernel
theorem dX3_bestGain_2 : decode cX3_bestGain 2 = .ok (.istore_n 3, 1) := by decide +kernel
theorem dX3_bestGain_3 : decode cX3_bestGain 3 = .ok (.iconst 0, 1) := by decide +kernel
theorem dX3_bestGain_4 : decode cX3_bestGain 4 = .ok (.istore 4, 2) := by decide +kernel
def FX3_bestGain_57_4_64 (k6 : Int → Int → Int → Mm → Option (Int × Mm)) (x2 : Int) (x3 : Int) (x4 : Int) (f : Mm) : Option (Int × Mm) := k6 x2 x3 (w32 (x4 + 1)) f
set_option maxHeartbeats 4000000 in
set_option maxRecDepth 100000 in
theorem SX3_bestGain_57_4_64 {G : GT} {l : Launch} {Q : Option AV → Mem → Prop} {k6 : Int → Int → Int → Mm → Option (Int × Mm)} (q6 : ∀ (x2 : Int) (x3 : Int) (x4 : Int) (f : Mm), OkI Q (k6 x2 x3 x4 f) → Ev G l MX3_bestGain (Rm 4 0 0) (ZM G Q 0 0) 0 0 6 [some (vR 57), some (vR 4), some (vI x2), some (vI x3), some (vI x4), none] [] (SH, RF, f)) (x2 : Int) (x3 : Int) (x4 : Int) (f : Mm) (h : OkI Q (FX3_bestGain_57_4_64 k6 x2 x3 x4 f)) : Ev G l MX3_bestGain (Rm 4 0 0) (ZM G Q 0 0) 0 0 64 [some (vR 57), some (vR 4), some (vI x2), some (vI x3), some (vI x4), none] [] (SH, RF, f) := by
  unfold FX3_bestGain_57_4_64 at h
  refine ev_iinc (L' := [some (vR 57), some (vR 4), some (vI x2), some (vI x3), some (vI (w32 (x4 + 1))), none]) dX3_bestGain_64 rfl (by decide) rfl ?_
  refine ev_goto (tgt := 6) dX3_bestGain_67 (by decide) ?_
  exact q6 x2 x3 (w32 (x4 + 1)) _ h
def FX3_bestGain_57_4_43 (k6 : Int → Int → Int → Mm → Option (Int × Mm)) (x2 : Int) (x3 : Int) (x4 : Int) (s0 : Int) (f : Mm) : Option (Int × Mm) := (b2 (FX0_payOf_4 s0 f) fun y1 f1 => (if 0 ≤ x4 ∧ x4 < 64 then (b2 (FJ9_max_7cf53 x3 (w32 (y1 - (f1 61 x4.toNat))) f1) fun y3 f3 => FX3_bestGain_57_4_64 k6 x2 y3 x4 f3) else none))
set_option maxHeartbeats 4000000 in
set_option maxRecDepth 100000 in
theorem SX3_bestGain_57_4_43 {G : GT} {l : Launch} {Q : Option AV → Mem → Prop} {k6 : Int → Int → Int → Mm → Option (Int × Mm)} (q6 : ∀ (x2 : Int) (x3 : Int) (x4 : Int) (f : Mm), OkI Q (k6 x2 x3 x4 f) → Ev G l MX3_bestGain (Rm 4 0 0) (ZM G Q 0 0) 0 0 6 [some (vR 57), some (vR 4), some (vI x2), some (vI x3), some (vI x4), none] [] (SH, RF, f)) (x2 : Int) (x3 : Int) (x4 : Int) (s0 : Int) (f : Mm) (h : OkI Q (FX3_bestGain_57_4_43 k6 x2 x3 x4 s0 f)) : Ev G l MX3_bestGain (Rm 4 0 0) (ZM G Q 0 0) 0 0 43 [some (vR 57), some (vR 4), some (vI x2), some (vI x3), some (vI x4), none] [vI s0] (SH, RF, f) := by
  unfold FX3_bestGain_57_4_43 at h
  refine ev_istore (L' := [some (vR 57), some (vR 4), some (vI x2), some (vI x3), some (vI x4), some (vI s0)]) dX3_bestGain_43 (by decide) rfl ?_
  refine ev_iload_n (i := 3) dX3_bestGain_45 rfl rfl ?_
  refine ev_aload_n (i := 1) dX3_bestGain_46 rfl rfl ?_
  refine ev_iload dX3_bestGain_47 rfl ?_
  refine ev_cVI (b := 4) (av := [vI s0]) (S := [vI x3]) (fun q => q) h dX3_bestGain_49 (fun Q' q => TX0_payOf_4 s0 _ q) kvX0_payOf ml_X3_123 sh_4 rfl (RRc (by decide) (by decide)) (Nat.le_of_ble_eq_true rfl) ⟨Nat.le_of_ble_eq_true rfl, Nat.le_of_ble_eq_true rfl⟩ (fun y1 f1 h => ?_)
  refine ev_aload_n (i := 0) dX3_bestGain_52 rfl rfl ?_
  refine ev_getR dX3_bestGain_53 fl_X3_21 sh_57 (by decide) (by decide) rf_57_6 ?_
  refine ev_iload dX3_bestGain_56 rfl ?_
  by_cases g2 : 0 ≤ x4 ∧ x4 < 64
  · rw [if_pos g2] at h
    refine ex_iald (x := (f1 61 x4.toNat)) dX3_bestGain_58 sh_61 g2.1 g2.2 rfl ?_
    refine ev_isub dX3_bestGain_59 ?_
    refine ev_cSI (av := [vI x3, vI (w32 (y1 - (f1 61 x4.toNat)))]) (S := []) (fun q => q) h dX3_bestGain_60 (fun Q' q => TJ9_max_7cf53 x3 (w32 (y1 - (f1 61 x4.toNat))) _ q) ksJ9_max_7cf53 ml_X3_105 rfl (RRc (by decide) (by decide)) (Nat.le_of_ble_eq_true rfl) ⟨Nat.le_of_ble_eq_true rfl, Nat.le_of_ble_eq_true rfl⟩ (fun y3 f3 h => ?_)
    refine ev_istore_n (i := 3) (L' := [some (vR 57), some (vR 4), some (vI x2), some (vI y3), some (vI x4), some (vI s0)]) dX3_bestGain_63 rfl (by decide) rfl ?_
    refine ev_fg [true, true, true, true, true, false] rfl ?_
    exact SX3_bestGain_57_4_64 q6 x2 y3 x4 _ h
  · rw [if_neg g2] at h; exact h.elim
def FX3_bestGain_57_4_6  : Nat → Int → Int → Int → Mm → Option (Int × Mm)
  | 0, _, _, _, _ => none
  | n + 1, x2, x3, x4, f => (b2 (FX0_allCarts_4 f) fun y1 f1 => (if y1 < x4 then some (x3, f1) else (if 0 ≤ x4 ∧ x4 < 64 then (if (f1 60 x4.toNat) ≤ 0 then FX3_bestGain_57_4_64 (FX3_bestGain_57_4_6 n) x2 x3 x4 f1 else (if x2 = (-1) then FX3_bestGain_57_4_43 (FX3_bestGain_57_4_6 n) x2 x3 x4 x4 f1 else FX3_bestGain_57_4_43 (FX3_bestGain_57_4_6 n) x2 x3 x4 (bAnd x4 (bXor (bShl 1 x2) (-1))) f1)) else none)))
set_option maxHeartbeats 4000000 in
set_option maxRecDepth 100000 in
theorem SX3_bestGain_57_4_6 {G : GT} {l : Launch} {Q : Option AV → Mem → Prop}  : ∀ (n : Nat) (x2 : Int) (x3 : Int) (x4 : Int) (f : Mm), OkI Q (FX3_bestGain_57_4_6  n x2 x3 x4 f) → Ev G l MX3_bestGain (Rm 4 0 0) (ZM G Q 0 0) 0 0 6 [some (vR 57), some (vR 4), some (vI x2), some (vI x3), some (vI x4), none] [] (SH, RF, f) := by
  intro n
  induction n with
  | zero => intro x2 x3 x4 f h; exact absurd h (by rw [FX3_bestGain_57_4_6]; exact fun q => q)
  | succ n ih =>
    intro x2 x3 x4 f h
    rw [FX3_bestGain_57_4_6] at h
    refine ev_iload dX3_bestGain_6 rfl ?_
    refine ev_aload_n (i := 1) dX3_bestGain_8 rfl rfl ?_
    refine ev_cVI (b := 4) (av := []) (S := [vI x4]) (fun q => q) h dX3_bestGain_9 (fun Q' q => TX0_allCarts_4 _ q) kvX0_allCarts ml_X3_119 sh_4 rfl (RRc (by decide) (by decide)) (Nat.le_of_ble_eq_true rfl) ⟨Nat.le_of_ble_eq_true rfl, Nat.le_of_ble_eq_true rfl⟩ (fun y1 f1 h => ?_)
    refine ev_icmp_gt (tgt := 70) dX3_bestGain_12 (by decide) (fun c5 => ?_) (fun c5 => ?_)
    · rw [if_pos c5] at h
      refine ev_iload_n (i := 3) dX3_bestGain_70 rfl rfl ?_
      exact ev_iret rfl dX3_bestGain_71 h
    · rw [if_neg c5] at h
      refine ev_aload_n (i := 0) dX3_bestGain_15 rfl rfl ?_
      refine ev_getR dX3_bestGain_16 fl_X3_18 sh_57 (by decide) (by decide) rf_57_5 ?_
      refine ev_iload dX3_bestGain_19 rfl ?_
      by_cases g2 : 0 ≤ x4 ∧ x4 < 64
      · rw [if_pos g2] at h
        refine ex_iald (x := (f1 60 x4.toNat)) dX3_bestGain_21 sh_60 g2.1 g2.2 rfl ?_
        refine ev_if_le (tgt := 64) dX3_bestGain_22 (by decide) (fun c4 => ?_) (fun c4 => ?_)
        · rw [if_pos c4] at h
          exact SX3_bestGain_57_4_64 ih x2 x3 x4 _ h
        · rw [if_neg c4] at h
          refine ev_iload_n (i := 2) dX3_bestGain_25 rfl rfl ?_
          refine ev_iconst dX3_bestGain_26 (r32c rfl) ?_
          refine ev_icmp_ne (tgt := 35) dX3_bestGain_27 (by decide) (fun c3 => ?_) (fun c3 => ?_)
          · rw [if_neg c3] at h
            refine ev_iload dX3_bestGain_35 rfl ?_
            refine ev_iconst dX3_bestGain_37 (r32c rfl) ?_
            refine ev_iload_n (i := 2) dX3_bestGain_38 rfl rfl ?_
            refine ev_ishl dX3_bestGain_39 ?_
            refine ev_iconst dX3_bestGain_40 (r32c rfl) ?_
            refine ev_ixor dX3_bestGain_41 ?_
            refine ev_iand dX3_bestGain_42 ?_
            exact SX3_bestGain_57_4_43 ih x2 x3 x4 (bAnd x4 (bXor (bShl 1 x2) (-1))) _ h
          · rw [if_pos c3] at h
            refine ev_iload dX3_bestGain_30 rfl ?_
            refine ev_goto (tgt := 43) dX3_bestGain_32 (by decide) ?_
            exact SX3_bestGain_57_4_43 ih x2 x3 x4 x4 _ h
      · rw [if_neg g2] at h; exact h.elim
def FX3_bestGain_57_4_0  (x2 : Int) (f : Mm) : Option (Int × Mm) := FX3_bestGain_57_4_6 fu x2 (-1000000) 0 f
set_option maxHeartbeats 4000000 in
set_option maxRecDepth 100000 in
theorem SX3_bestGain_57_4_0 {G : GT} {l : Launch} {Q : Option AV → Mem → Prop}  (x2 : Int) (f : Mm) (h : OkI Q (FX3_bestGain_57_4_0  x2 f)) : Ev G l MX3_bestGain (Rm 4 0 0) (ZM G Q 0 0) 0 0 0 [some (vR 57), some (vR 4), some (vI x2), none, none, none] [] (SH, RF, f) := by
  unfold FX3_bestGain_57_4_0 at h
  refine ev_ldc (v := (-1000000)) dX3_bestGain_0 (r32c rfl) kc_X3_118 ?_
  refine ev_istore_n (i := 3) (L' := [some (vR 57), some (vR 4), some (vI x2), some (vI (-1000000)), none, none]) dX3_bestGain_2 rfl (by decide) rfl ?_
  refine ev_iconst dX3_bestGain_3 (r32c rfl) ?_
  refine ev_istore (L' := [some (vR 57), some (vR 4), some (vI x2), some (vI (-1000000)), some (vI 0), none]) dX3_bestGain_4 (by decide) rfl ?_
  exact SX3_bestGain_57_4_6  fu x2 (-1000000) 0 _ h
def FX3_bestGain_57_4 (x2 : Int) (f : Mm) : Option (Int × Mm) := FX3_bestGain_57_4_0 x2 f
theorem TX3_bestGain_57_4 {G : GT} {l : Launch} {Q : Option AV → Mem → Prop} (x2 : Int) (f : Mm) (h : OkI Q (FX3_bestGain_57_4 x2 f)) : Ret G l MX3_bestGain (4) 0 0 [vR 57, vR 4, vI x2] (SH, RF, f) Q := by
  refine ret_of (L := [some (vR 57), some (vR 4), some (vI x2), none, none, none]) (by decide) rfl (Nat.le_of_ble_eq_true rfl) ?_
  exact SX3_bestGain_57_4_0 x2 f h
theorem dX10_best_0 : decode cX10_best 0 = .ok (.aload_n 0, 1) := by decide +kernel
theorem dX10_best_1 : decode cX10_best 1 = .ok (.getfield 19, 3) := by decide +kernel
theorem dX10_best_4 : decode cX10_best 4 = .ok (.invokevirtual 140, 3) := by decide +kernel
theorem dX10_best_7 : decode cX10_best 7 = .ok (.ifCond .eq 18, 3) := by decide +kernel
theorem dX10_best_25 : decode cX10_best 25 = .ok (.ldc 196, 2) := by decide +kernel
theorem dX10_best_27 : decode cX10_best 27 = .ok (.ireturn, 1) := by decide +kernel
theorem dX10_best_10 : decode cX10_best 10 = .ok (.aload_n 0, 1) := by decide +kernel
theorem dX10_best_11 : decode cX10_best 11 = .ok (.invokevirtual 189, 3) := by decide +kernel
theorem dX10_best_14 : decode cX10_best 14 = .ok (.aload_n 0, 1) := by decide +kernel
theorem dX10_best_15 : decode cX10_best 15 = .ok (.getfield 19, 3) := by decide +kernel
theorem dX10_best_18 : decode cX10_best 18 = .ok (.iconst (-1), 1) := by decide +kernel
theorem dX10_best_19 : decode cX10_best 19 = .ok (.invokevirtual 193, 3) := by decide +kernel
theorem dX10_best_22 : decode cX10_best 22 = .ok (.goto 5, 3) := by decide +kernel
def FX10_best_0   (f : Mm) : Option (Int × Mm) := (b2 (FX0_stands_4 f) fun y1 f1 => (if y1 = 0 then some ((-1000000), f1) else ((FX10_weighed f1).bind fun f2 => (b2 (FX3_bestGain_57_4 (-1) f2) fun y3 f3 => some (y3, f3)))))
set_option maxHeartbeats 4000000 in
set_option maxRecDepth 100000 in
theorem SX10_best_0 {G : GT} {l : Launch} {Q : Option AV → Mem → Prop}   (f : Mm) (h : OkI Q (FX10_best_0   f)) : Ev G l MX10_best (Rm 6 0 0) (ZM G Q 0 0) 0 0 0 [some (vR 0)] [] (SH, RF, f) := by
  unfold FX10_best_0 at h
  refine ev_aload_n (i := 0) dX10_best_0 rfl rfl ?_
  refine ev_getR dX10_best_1 fl_X10_19 sh_0 (by decide) (by decide) rf_0_1 ?_
  refine ev_cVI (b := 4) (av := []) (S := []) (fun q => q) h dX10_best_4 (fun Q' q => TX0_stands_4 _ q) kvX0_stands ml_X10_140 sh_4 rfl (RRc (by decide) (by decide)) (Nat.le_of_ble_eq_true rfl) ⟨Nat.le_of_ble_eq_true rfl, Nat.le_of_ble_eq_true rfl⟩ (fun y1 f1 h => ?_)
  refine ev_if_eq (tgt := 25) dX10_best_7 (by decide) (fun c4 => ?_) (fun c4 => ?_)
  · rw [if_pos c4] at h
    refine ev_ldc (v := (-1000000)) dX10_best_25 (r32c rfl) kc_X10_196 ?_
    exact ev_iret rfl dX10_best_27 h
  · rw [if_neg c4] at h
    refine ev_aload_n (i := 0) dX10_best_10 rfl rfl ?_
    refine ev_cVC (b := 0) (av := []) (S := []) (fun q => q) h dX10_best_11 (fun Q' q => TX10_weighed _ q) kvX10_weighed ml_X10_189 sh_0 rfl (RRc (by decide) (by decide)) (Nat.le_of_ble_eq_true rfl) ⟨Nat.le_of_ble_eq_true rfl, Nat.le_of_ble_eq_true rfl⟩ (fun f2 h => ?_)
    refine ev_aload_n (i := 0) dX10_best_14 rfl rfl ?_
    refine ev_getR dX10_best_15 fl_X10_19 sh_0 (by decide) (by decide) rf_0_1 ?_
    refine ev_iconst dX10_best_18 (r32c rfl) ?_
    refine ev_cVI (b := 57) (av := [vR 4, vI (-1)]) (S := []) (fun q => q) h dX10_best_19 (fun Q' q => TX3_bestGain_57_4 (-1) _ q) kvX3_bestGain ml_X10_193 sh_57 rfl (RRc (by decide) (by decide)) (Nat.le_of_ble_eq_true rfl) ⟨Nat.le_of_ble_eq_true rfl, Nat.le_of_ble_eq_true rfl⟩ (fun y3 f3 h => ?_)
    refine ev_goto (tgt := 27) dX10_best_22 (by decide) ?_
    exact ev_iret rfl dX10_best_27 h
def FX10_best  (f : Mm) : Option (Int × Mm) := FX10_best_0  f
theorem TX10_best {G : GT} {l : Launch} {Q : Option AV → Mem → Prop}  (f : Mm) (h : OkI Q (FX10_best  f)) : Ret G l MX10_best (6) 0 0 [vR 0] (SH, RF, f) Q := by
  refine ret_of (L := [some (vR 0)]) (by decide) rfl (Nat.le_of_ble_eq_true rfl) ?_
  exact SX10_best_0  f h
theorem dX3_isBest_0 : decode cX3_isBest 0 = .ok (.aload_n 0, 1) := by decide +kernel
theorem dX3_isBest_1 : decode cX3_isBest 1 = .ok (.getfield 18, 3) := by decide +kernel
theorem dX3_isBest_4 : decode cX3_isBest 4 = .ok (.iload_n 2, 1) := by decide +kernel
theorem dX3_isBest_5 : decode cX3_isBest 5 = .ok (.iaload, 1) := by decide +kernel
theorem dX3_isBest_6 : decode cX3_isBest 6 = .ok (.ifCond .le 23, 3) := by decide +kernel
theorem dX3_isBest_29 : decode cX3_isBest 29 = .ok (.iconst 0, 1) := by decide +kernel
theorem dX3_isBest_30 : decode cX3_isBest 30 = .ok (.ireturn, 1) := by decide +kernel
theorem dX3_isBest_9 : decode cX3_isBest 9 = .ok (.aload_n 1, 1) := by decide +kernel
theorem dX3_isBest_10 : decode cX3_isBest 10 = .ok (.iload_n 2, 1) := by decide +kernel
theorem dX3_isBest_11 : decode cX3_isBest 11 = .ok (.invokevirtual 123, 3) := by decide +kernel
theorem dX3_isBest_14 : decode cX3_isBest 14 = .ok (.aload_n 0, 1) := by decide +kernel
theorem dX3_isBest_15 : decode cX3_isBest 15 = .ok (.getfield 21, 3) := by decide +kernel
theorem dX3_isBest_18 : decode cX3_isBest 18 = .ok (.iload_n 2, 1) := by decide +kernel
theorem dX3_isBest_19 : decode cX3_isBest 19 = .ok (.iaload, 1) := by decide +kernel
theorem dX3_isBest_20 : decode cX3_isBest 20 = .ok (.isub, 1) := by decide +kernel
theorem dX3_isBest_21 : decode cX3_isBest 21 = .ok (.iload_n 3, 1) := by decide +kernel
theorem dX3_isBest_22 : decode cX3_isBest 22 = .ok (.if_icmp .ne 7, 3) := by decide +kernel
theorem dX3_isBest_25 : decode cX3_isBest 25 = .ok (.iconst 1, 1) := by decide +kernel
theorem dX3_isBest_26 : decode cX3_isBest 26 = .ok (.goto 4, 3) := by decide +kernel
def FX3_isBest_57_4_0  (x2 : Int) (x3 : Int) (f : Mm) : Option (Int × Mm) := (if 0 ≤ x2 ∧ x2 < 64 then (if (f 60 x2.toNat) ≤ 0 then some (0, f) else (b2 (FX0_payOf_4 x2 f) fun y2 f2 => (if 0 ≤ x2 ∧ x2 < 64 then (if (w32 (y2 - (f2 61 x2.toNat))) = x3 then some (1, f2) else some (0, f2)) else none))) else none)
set_option maxHeartbeats 4000000 in
set_option maxRecDepth 100000 in
theorem SX3_isBest_57_4_0 {G : GT} {l : Launch} {Q : Option AV → Mem → Prop}  (x2 : Int) (x3 : Int) (f : Mm) (h : OkI Q (FX3_isBest_57_4_0  x2 x3 f)) : Ev G l MX3_isBest (Rm 4 0 0) (ZM G Q 0 0) 0 0 0 [some (vR 57), some (vR 4), some (vI x2), some (vI x3)] [] (SH, RF, f) := by
  unfold FX3_isBest_57_4_0 at h
  refine ev_aload_n (i := 0) dX3_isBest_0 rfl rfl ?_
  refine ev_getR dX3_isBest_1 fl_X3_18 sh_57 (by decide) (by decide) rf_57_5 ?_
  refine ev_iload_n (i := 2) dX3_isBest_4 rfl rfl ?_
  by_cases g1 : 0 ≤ x2 ∧ x2 < 64
  · rw [if_pos g1] at h
    refine ex_iald (x := (f 60 x2.toNat)) dX3_isBest_5 sh_60 g1.1 g1.2 rfl ?_
    refine ev_if_le (tgt := 29) dX3_isBest_6 (by decide) (fun c5 => ?_) (fun c5 => ?_)
    · rw [if_pos c5] at h
      refine ev_iconst dX3_isBest_29 (r32c rfl) ?_
      exact ev_zret rfl (by decide) dX3_isBest_30 h
    · rw [if_neg c5] at h
      refine ev_aload_n (i := 1) dX3_isBest_9 rfl rfl ?_
      refine ev_iload_n (i := 2) dX3_isBest_10 rfl rfl ?_
      refine ev_cVI (b := 4) (av := [vI x2]) (S := []) (fun q => q) h dX3_isBest_11 (fun Q' q => TX0_payOf_4 x2 _ q) kvX0_payOf ml_X3_123 sh_4 rfl (RRc (by decide) (by decide)) (Nat.le_of_ble_eq_true rfl) ⟨Nat.le_of_ble_eq_true rfl, Nat.le_of_ble_eq_true rfl⟩ (fun y2 f2 h => ?_)
      refine ev_aload_n (i := 0) dX3_isBest_14 rfl rfl ?_
      refine ev_getR dX3_isBest_15 fl_X3_21 sh_57 (by decide) (by decide) rf_57_6 ?_
      refine ev_iload_n (i := 2) dX3_isBest_18 rfl rfl ?_
      by_cases g3 : 0 ≤ x2 ∧ x2 < 64
      · rw [if_pos g3] at h
        refine ex_iald (x := (f2 61 x2.toNat)) dX3_isBest_19 sh_61 g3.1 g3.2 rfl ?_
        refine ev_isub dX3_isBest_20 ?_
        refine ev_iload_n (i := 3) dX3_isBest_21 rfl rfl ?_
        refine ev_icmp_ne (tgt := 29) dX3_isBest_22 (by decide) (fun c4 => ?_) (fun c4 => ?_)
        · rw [if_neg c4] at h
          refine ev_iconst dX3_isBest_29 (r32c rfl) ?_
          exact ev_zret rfl (by decide) dX3_isBest_30 h
        · rw [if_pos c4] at h
          refine ev_iconst dX3_isBest_25 (r32c rfl) ?_
          refine ev_goto (tgt := 30) dX3_isBest_26 (by decide) ?_
          exact ev_zret rfl (by decide) dX3_isBest_30 h
      · rw [if_neg g3] at h; exact h.elim
  · rw [if_neg g1] at h; exact h.elim
def FX3_isBest_57_4 (x2 : Int) (x3 : Int) (f : Mm) : Option (Int × Mm) := FX3_isBest_57_4_0 x2 x3 f
theorem TX3_isBest_57_4 {G : GT} {l : Launch} {Q : Option AV → Mem → Prop} (x2 : Int) (x3 : Int) (f : Mm) (h : OkI Q (FX3_isBest_57_4 x2 x3 f)) : Ret G l MX3_isBest (4) 0 0 [vR 57, vR 4, vI x2, vI x3] (SH, RF, f) Q := by
  refine ret_of (L := [some (vR 57), some (vR 4), some (vI x2), some (vI x3)]) (by decide) rfl (Nat.le_of_ble_eq_true rfl) ?_
  exact SX3_isBest_57_4_0 x2 x3 f h
theorem dX3_bestFirst_56 : decode cX3_bestFirst 56 = .ok (.iinc 4 1, 3) := by decide +kernel
theorem dX3_bestFirst_59 : decode cX3_bestFirst 59 = .ok (.goto (-47), 3) := by decide +kernel
theorem dX3_bestFirst_48 : decode cX3_bestFirst 48 = .ok (.aload_n 0, 1) := by decide +kernel
theorem dX3_bestFirst_49 : decode cX3_bestFirst 49 = .ok (.getfield 27, 3) := by decide +kernel
theorem dX3_bestFirst_52 : decode cX3_bestFirst 52 = .ok (.iload 4, 2) := by decide +kernel
theorem dX3_bestFirst_54 : decode cX3_bestFirst 54 = .ok (.iaload, 1) := by decide +kernel
theorem dX3_bestFirst_55 : decode cX3_bestFirst 55 = .ok (.istore_n 3, 1) := by decide +kernel
theorem dX3_bestFirst_12 : decode cX3_bestFirst 12 = .ok (.iload 4, 2) := by decide +kernel
theorem dX3_bestFirst_14 : decode cX3_bestFirst 14 = .ok (.aload_n 1, 1) := by decide +kernel
theorem dX3_bestFirst_15 : decode cX3_bestFirst 15 = .ok (.invokevirtual 119, 3) := by decide +kernel
theorem dX3_bestFirst_18 : decode cX3_bestFirst 18 = .ok (.if_icmp .gt 44, 3) := by decide +kernel
theorem dX3_bestFirst_62 : decode cX3_bestFirst 62 = .ok (.iload_n 3, 1) := by decide +kernel
theorem dX3_bestFirst_63 : decode cX3_bestFirst 63 = .ok (.ireturn, 1) := by decide +kernel
theorem dX3_bestFirst_21 : decode cX3_bestFirst 21 = .ok (.aload_n 0, 1) := by decide +kernel
theorem dX3_bestFirst_22 : decode cX3_bestFirst 22 = .ok (.aload_n 1, 1) := by decide +kernel
theorem dX3_bestFirst_23 : decode cX3_bestFirst 23 = .ok (.iload 4, 2) := by decide +kernel
theorem dX3_bestFirst_25 : decode cX3_bestFirst 25 = .ok (.iload_n 2, 1) := by decide +kernel
theorem dX3_bestFirst_26 : decode cX3_bestFirst 26 = .ok (.invokevirtual 130, 3) := by decide +kernel
theorem dX3_bestFirst_29 : decode cX3_bestFirst 29 = .ok (.ifCond .eq 27, 3) := by decide +kernel
theorem dX3_bestFirst_32 : decode cX3_bestFirst 32 = .ok (.iload_n 3, 1) := by decide +kernel
theorem dX3_bestFirst_33 : decode cX3_bestFirst 33 = .ok (.iconst (-1), 1) := by decide +kernel
theorem dX3_bestFirst_34 : decode cX3_bestFirst 34 = .ok (.if_icmp .eq 14, 3) := by decide +kernel
theorem dX3_bestFirst_37 : decode cX3_bestFirst 37 = .ok (.aload_n 0, 1) := by decide +kernel
theorem dX3_bestFirst_38 : decode cX3_bestFirst 38 = .ok (.getfield 27, 3) := by decide +kernel
theorem dX3_bestFirst_41 : decode cX3_bestFirst 41 = .ok (.iload 4, 2) := by decide +kernel
theorem dX3_bestFirst_43 : decode cX3_bestFirst 43 = .ok (.iaload, 1) := by decide +kernel
theorem dX3_bestFirst_44 : decode cX3_bestFirst 44 = .ok (.iload_n 3, 1) := by decide +kernel
theorem dX3_bestFirst_45 : decode cX3_bestFirst 45 = .ok (.if_icmp .ge 11, 3) := by decide +kernel
theorem dX3_bestFirst_0 : decode cX3_bestFirst 0 = .ok (.aload_n 0, 1) := by decide +kernel
theorem dX3_bestFirst_1 : decode cX3_bestFirst 1 = .ok (.aload_n 1, 1) := by decide +kernel
theorem dX3_bestFirst_2 : decode cX3_bestFirst 2 = .ok (.iconst (-1), 1) := by decide +kernel
theorem dX3_bestFirst_3 : decode cX3_bestFirst 3 = .ok (.invokevirtual 126, 3) := by decide +kernel
theorem dX3_bestFirst_6 : decode cX3_bestFirst 6 = .ok (.istore_n 2, 1) := by decide +kernel
theorem dX3_bestFirst_7 : decode cX3_bestFirst 7 = .ok (.iconst (-1), 1) := by decide +kernel
theorem dX3_bestFirst_8 : decode cX3_bestFirst 8 = .ok (.istore_n 3, 1) := by decide +kernel
theorem dX3_bestFirst_9 : decode cX3_bestFirst 9 = .ok (.iconst 0, 1) := by decide +kernel
theorem dX3_bestFirst_10 : decode cX3_bestFirst 10 = .ok (.istore 4, 2) := by decide +kernel
def FX3_bestFirst_57_4_56 (k12 : Int → Int → Int → Mm → Option (Int × Mm)) (x2 : Int) (x3 : Int) (x4 : Int) (f : Mm) : Option (Int × Mm) := k12 x2 x3 (w32 (x4 + 1)) f
set_option maxHeartbeats 4000000 in
set_option maxRecDepth 100000 in
theorem SX3_bestFirst_57_4_56 {G : GT} {l : Launch} {Q : Option AV → Mem → Prop} {k12 : Int → Int → Int → Mm → Option (Int × Mm)} (q12 : ∀ (x2 : Int) (x3 : Int) (x4 : Int) (f : Mm), OkI Q (k12 x2 x3 x4 f) → Ev G l MX3_bestFirst (Rm 5 0 0) (ZM G Q 0 0) 0 0 12 [some (vR 57), some (vR 4), some (vI x2), some (vI x3), some (vI x4)] [] (SH, RF, f)) (x2 : Int) (x3 : Int) (x4 : Int) (f : Mm) (h : OkI Q (FX3_bestFirst_57_4_56 k12 x2 x3 x4 f)) : Ev G l MX3_bestFirst (Rm 5 0 0) (ZM G Q 0 0) 0 0 56 [some (vR 57), some (vR 4), some (vI x2), some (vI x3), some (vI x4)] [] (SH, RF, f) := by
  unfold FX3_bestFirst_57_4_56 at h
  refine ev_iinc (L' := [some (vR 57), some (vR 4), some (vI x2), some (vI x3), some (vI (w32 (x4 + 1)))]) dX3_bestFirst_56 rfl (by decide) rfl ?_
  refine ev_goto (tgt := 12) dX3_bestFirst_59 (by decide) ?_
  exact q12 x2 x3 (w32 (x4 + 1)) _ h
def FX3_bestFirst_57_4_48 (k12 : Int → Int → Int → Mm → Option (Int × Mm)) (x2 : Int) (x4 : Int) (f : Mm) : Option (Int × Mm) := (if 0 ≤ x4 ∧ x4 < 64 then FX3_bestFirst_57_4_56 k12 x2 (f 63 x4.toNat) x4 f else none)
set_option maxHeartbeats 4000000 in
set_option maxRecDepth 100000 in
theorem SX3_bestFirst_57_4_48 {G : GT} {l : Launch} {Q : Option AV → Mem → Prop} {k12 : Int → Int → Int → Mm → Option (Int × Mm)} (q12 : ∀ (x2 : Int) (x3 : Int) (x4 : Int) (f : Mm), OkI Q (k12 x2 x3 x4 f) → Ev G l MX3_bestFirst (Rm 5 0 0) (ZM G Q 0 0) 0 0 12 [some (vR 57), some (vR 4), some (vI x2), some (vI x3), some (vI x4)] [] (SH, RF, f)) (x2 : Int) (x4 : Int) (f : Mm) (h : OkI Q (FX3_bestFirst_57_4_48 k12 x2 x4 f)) : Ev G l MX3_bestFirst (Rm 5 0 0) (ZM G Q 0 0) 0 0 48 [some (vR 57), some (vR 4), some (vI x2), none, some (vI x4)] [] (SH, RF, f) := by
  unfold FX3_bestFirst_57_4_48 at h
  refine ev_aload_n (i := 0) dX3_bestFirst_48 rfl rfl ?_
  refine ev_getR dX3_bestFirst_49 fl_X3_27 sh_57 (by decide) (by decide) rf_57_8 ?_
  refine ev_iload dX3_bestFirst_52 rfl ?_
  by_cases g1 : 0 ≤ x4 ∧ x4 < 64
  · rw [if_pos g1] at h
    refine ex_iald (x := (f 63 x4.toNat)) dX3_bestFirst_54 sh_63 g1.1 g1.2 rfl ?_
    refine ev_istore_n (i := 3) (L' := [some (vR 57), some (vR 4), some (vI x2), some (vI (f 63 x4.toNat)), some (vI x4)]) dX3_bestFirst_55 rfl (by decide) rfl ?_
    exact SX3_bestFirst_57_4_56 q12 x2 (f 63 x4.toNat) x4 _ h
  · rw [if_neg g1] at h; exact h.elim
def FX3_bestFirst_57_4_12  : Nat → Int → Int → Int → Mm → Option (Int × Mm)
  | 0, _, _, _, _ => none
  | n + 1, x2, x3, x4, f => (b2 (FX0_allCarts_4 f) fun y1 f1 => (if y1 < x4 then some (x3, f1) else (b2 (FX3_isBest_57_4 x4 x2 f1) fun y2 f2 => (if y2 = 0 then FX3_bestFirst_57_4_56 (FX3_bestFirst_57_4_12 n) x2 x3 x4 f2 else (if x3 = (-1) then FX3_bestFirst_57_4_48 (FX3_bestFirst_57_4_12 n) x2 x4 f2 else (if 0 ≤ x4 ∧ x4 < 64 then (if x3 ≤ (f2 63 x4.toNat) then FX3_bestFirst_57_4_56 (FX3_bestFirst_57_4_12 n) x2 x3 x4 f2 else FX3_bestFirst_57_4_48 (FX3_bestFirst_57_4_12 n) x2 x4 f2) else none))))))
set_option maxHeartbeats 4000000 in
set_option maxRecDepth 100000 in
theorem SX3_bestFirst_57_4_12 {G : GT} {l : Launch} {Q : Option AV → Mem → Prop}  : ∀ (n : Nat) (x2 : Int) (x3 : Int) (x4 : Int) (f : Mm), OkI Q (FX3_bestFirst_57_4_12  n x2 x3 x4 f) → Ev G l MX3_bestFirst (Rm 5 0 0) (ZM G Q 0 0) 0 0 12 [some (vR 57), some (vR 4), some (vI x2), some (vI x3), some (vI x4)] [] (SH, RF, f) := by
  intro n
  induction n with
  | zero => intro x2 x3 x4 f h; exact absurd h (by rw [FX3_bestFirst_57_4_12]; exact fun q => q)
  | succ n ih =>
    intro x2 x3 x4 f h
    rw [FX3_bestFirst_57_4_12] at h
    refine ev_iload dX3_bestFirst_12 rfl ?_
    refine ev_aload_n (i := 1) dX3_bestFirst_14 rfl rfl ?_
    refine ev_cVI (b := 4) (av := []) (S := [vI x4]) (fun q => q) h dX3_bestFirst_15 (fun Q' q => TX0_allCarts_4 _ q) kvX0_allCarts ml_X3_119 sh_4 rfl (RRc (by decide) (by decide)) (Nat.le_of_ble_eq_true rfl) ⟨Nat.le_of_ble_eq_true rfl, Nat.le_of_ble_eq_true rfl⟩ (fun y1 f1 h => ?_)
    refine ev_icmp_gt (tgt := 62) dX3_bestFirst_18 (by decide) (fun c7 => ?_) (fun c7 => ?_)
    · rw [if_pos c7] at h
      refine ev_iload_n (i := 3) dX3_bestFirst_62 rfl rfl ?_
      exact ev_iret rfl dX3_bestFirst_63 h
    · rw [if_neg c7] at h
      refine ev_aload_n (i := 0) dX3_bestFirst_21 rfl rfl ?_
      refine ev_aload_n (i := 1) dX3_bestFirst_22 rfl rfl ?_
      refine ev_iload dX3_bestFirst_23 rfl ?_
      refine ev_iload_n (i := 2) dX3_bestFirst_25 rfl rfl ?_
      refine ev_cVI (b := 57) (av := [vR 4, vI x4, vI x2]) (S := []) (fun q => q) h dX3_bestFirst_26 (fun Q' q => TX3_isBest_57_4 x4 x2 _ q) kvX3_isBest ml_X3_130 sh_57 rfl (RRc (by decide) (by decide)) (Nat.le_of_ble_eq_true rfl) ⟨Nat.le_of_ble_eq_true rfl, Nat.le_of_ble_eq_true rfl⟩ (fun y2 f2 h => ?_)
      refine ev_if_eq (tgt := 56) dX3_bestFirst_29 (by decide) (fun c6 => ?_) (fun c6 => ?_)
      · rw [if_pos c6] at h
        exact SX3_bestFirst_57_4_56 ih x2 x3 x4 _ h
      · rw [if_neg c6] at h
        refine ev_iload_n (i := 3) dX3_bestFirst_32 rfl rfl ?_
        refine ev_iconst dX3_bestFirst_33 (r32c rfl) ?_
        refine ev_icmp_eq (tgt := 48) dX3_bestFirst_34 (by decide) (fun c5 => ?_) (fun c5 => ?_)
        · rw [if_pos c5] at h
          refine ev_fg [true, true, true, false, true] rfl ?_
          exact SX3_bestFirst_57_4_48 ih x2 x4 _ h
        · rw [if_neg c5] at h
          refine ev_aload_n (i := 0) dX3_bestFirst_37 rfl rfl ?_
          refine ev_getR dX3_bestFirst_38 fl_X3_27 sh_57 (by decide) (by decide) rf_57_8 ?_
          refine ev_iload dX3_bestFirst_41 rfl ?_
          by_cases g3 : 0 ≤ x4 ∧ x4 < 64
          · rw [if_pos g3] at h
            refine ex_iald (x := (f2 63 x4.toNat)) dX3_bestFirst_43 sh_63 g3.1 g3.2 rfl ?_
            refine ev_iload_n (i := 3) dX3_bestFirst_44 rfl rfl ?_
            refine ev_icmp_ge (tgt := 56) dX3_bestFirst_45 (by decide) (fun c4 => ?_) (fun c4 => ?_)
            · rw [if_pos c4] at h
              exact SX3_bestFirst_57_4_56 ih x2 x3 x4 _ h
            · rw [if_neg c4] at h
              refine ev_fg [true, true, true, false, true] rfl ?_
              exact SX3_bestFirst_57_4_48 ih x2 x4 _ h
          · rw [if_neg g3] at h; exact h.elim
def FX3_bestFirst_57_4_0   (f : Mm) : Option (Int × Mm) := (b2 (FX3_bestGain_57_4 (-1) f) fun y1 f1 => FX3_bestFirst_57_4_12 fu y1 (-1) 0 f1)
set_option maxHeartbeats 4000000 in
set_option maxRecDepth 100000 in
theorem SX3_bestFirst_57_4_0 {G : GT} {l : Launch} {Q : Option AV → Mem → Prop}   (f : Mm) (h : OkI Q (FX3_bestFirst_57_4_0   f)) : Ev G l MX3_bestFirst (Rm 5 0 0) (ZM G Q 0 0) 0 0 0 [some (vR 57), some (vR 4), none, none, none] [] (SH, RF, f) := by
  unfold FX3_bestFirst_57_4_0 at h
  refine ev_aload_n (i := 0) dX3_bestFirst_0 rfl rfl ?_
  refine ev_aload_n (i := 1) dX3_bestFirst_1 rfl rfl ?_
  refine ev_iconst dX3_bestFirst_2 (r32c rfl) ?_
  refine ev_cVI (b := 57) (av := [vR 4, vI (-1)]) (S := []) (fun q => q) h dX3_bestFirst_3 (fun Q' q => TX3_bestGain_57_4 (-1) _ q) kvX3_bestGain ml_X3_126 sh_57 rfl (RRc (by decide) (by decide)) (Nat.le_of_ble_eq_true rfl) ⟨Nat.le_of_ble_eq_true rfl, Nat.le_of_ble_eq_true rfl⟩ (fun y1 f1 h => ?_)
  refine ev_istore_n (i := 2) (L' := [some (vR 57), some (vR 4), some (vI y1), none, none]) dX3_bestFirst_6 rfl (by decide) rfl ?_
  refine ev_iconst dX3_bestFirst_7 (r32c rfl) ?_
  refine ev_istore_n (i := 3) (L' := [some (vR 57), some (vR 4), some (vI y1), some (vI (-1)), none]) dX3_bestFirst_8 rfl (by decide) rfl ?_
  refine ev_iconst dX3_bestFirst_9 (r32c rfl) ?_
  refine ev_istore (L' := [some (vR 57), some (vR 4), some (vI y1), some (vI (-1)), some (vI 0)]) dX3_bestFirst_10 (by decide) rfl ?_
  exact SX3_bestFirst_57_4_12  fu y1 (-1) 0 _ h
def FX3_bestFirst_57_4  (f : Mm) : Option (Int × Mm) := FX3_bestFirst_57_4_0  f
theorem TX3_bestFirst_57_4 {G : GT} {l : Launch} {Q : Option AV → Mem → Prop}  (f : Mm) (h : OkI Q (FX3_bestFirst_57_4  f)) : Ret G l MX3_bestFirst (5) 0 0 [vR 57, vR 4] (SH, RF, f) Q := by
  refine ret_of (L := [some (vR 57), some (vR 4), none, none, none]) (by decide) rfl (Nat.le_of_ble_eq_true rfl) ?_
  exact SX3_bestFirst_57_4_0  f h
theorem dX3_deedOn_23 : decode cX3_deedOn 23 = .ok (.iload 4, 2) := by decide +kernel
theorem dX3_deedOn_25 : decode cX3_deedOn 25 = .ok (.iload_n 2, 1) := by decide +kernel
theorem dX3_deedOn_26 : decode cX3_deedOn 26 = .ok (.if_icmp .le 16, 3) := by decide +kernel
theorem dX3_deedOn_42 : decode cX3_deedOn 42 = .ok (.iload_n 3, 1) := by decide +kernel
theorem dX3_deedOn_43 : decode cX3_deedOn 43 = .ok (.aload_n 0, 1) := by decide +kernel
theorem dX3_deedOn_44 : decode cX3_deedOn 44 = .ok (.getfield 51, 3) := by decide +kernel
theorem dX3_deedOn_47 : decode cX3_deedOn 47 = .ok (.irem, 1) := by decide +kernel
theorem dX3_deedOn_48 : decode cX3_deedOn 48 = .ok (.iconst 1, 1) := by decide +kernel
theorem dX3_deedOn_49 : decode cX3_deedOn 49 = .ok (.isub, 1) := by decide +kernel
theorem dX3_deedOn_50 : decode cX3_deedOn 50 = .ok (.ireturn, 1) := by decide +kernel
theorem dX3_deedOn_29 : decode cX3_deedOn 29 = .ok (.iload_n 3, 1) := by decide +kernel
theorem dX3_deedOn_30 : decode cX3_deedOn 30 = .ok (.aload_n 0, 1) := by decide +kernel
theorem dX3_deedOn_31 : decode cX3_deedOn 31 = .ok (.getfield 51, 3) := by decide +kernel
theorem dX3_deedOn_34 : decode cX3_deedOn 34 = .ok (.idiv, 1) := by decide +kernel
theorem dX3_deedOn_35 : decode cX3_deedOn 35 = .ok (.istore_n 3, 1) := by decide +kernel
theorem dX3_deedOn_36 : decode cX3_deedOn 36 = .ok (.iinc 4 (-1), 3) := by decide +kernel
theorem dX3_deedOn_39 : decode cX3_deedOn 39 = .ok (.goto (-16), 3) := by decide +kernel
theorem dX3_deedOn_0 : decode cX3_deedOn 0 = .ok (.iload_n 1, 1) := by decide +kernel
theorem dX3_deedOn_1 : decode cX3_deedOn 1 = .ok (.ifCond .lt 10, 3) := by decide +kernel
theorem dX3_deedOn_11 : decode cX3_deedOn 11 = .ok (.iconst (-1), 1) := by decide +kernel
theorem dX3_deedOn_12 : decode cX3_deedOn 12 = .ok (.ireturn, 1) := by decide +kernel
theorem dX3_deedOn_4 : decode cX3_deedOn 4 = .ok (.aload_n 0, 1) := by decide +kernel
theorem dX3_deedOn_5 : decode cX3_deedOn 5 = .ok (.getfield 51, 3) := by decide +kernel
theorem dX3_deedOn_8 : decode cX3_deedOn 8 = .ok (.ifCond .gt 5, 3) := by decide +kernel
theorem dX3_deedOn_13 : decode cX3_deedOn 13 = .ok (.iload_n 1, 1) := by decide +kernel
theorem dX3_deedOn_14 : decode cX3_deedOn 14 = .ok (.istore_n 3, 1) := by decide +kernel
theorem dX3_deedOn_15 : decode cX3_deedOn 15 = .ok (.aload_n 0, 1) := by decide +kernel
theorem dX3_deedOn_16 : decode cX3_deedOn 16 = .ok (.getfield 47, 3) := by decide +kernel
theorem dX3_deedOn_19 : decode cX3_deedOn 19 = .ok (.iconst 1, 1) := by decide +kernel
theorem dX3_deedOn_20 : decode cX3_deedOn 20 = .ok (.isub, 1) := by decide +kernel
theorem dX3_deedOn_21 : decode cX3_deedOn 21 = .ok (.istore 4, 2) := by decide +kernel
def FX3_deedOn_23  : Nat → Int → Int → Int → Mm → Option (Int × Mm)
  | 0, _, _, _, _ => none
  | n + 1, x2, x3, x4, f => (if x4 ≤ x2 then (if (f 57 2) ≠ 0 then some ((w32 ((iRem x3 (f 57 2)) - 1)), f) else none) else (if (f 57 2) ≠ 0 then FX3_deedOn_23 n x2 (iDiv x3 (f 57 2)) (w32 (x4 + (-1))) f else none))
set_option maxHeartbeats 4000000 in
set_option maxRecDepth 100000 in
theorem SX3_deedOn_23 {G : GT} {l : Launch} {Q : Option AV → Mem → Prop}  : ∀ (n : Nat) (x2 : Int) (x3 : Int) (x4 : Int) (f : Mm), OkI Q (FX3_deedOn_23  n x2 x3 x4 f) → Ev G l MX3_deedOn (Rm 1 0 0) (ZM G Q 0 0) 0 0 23 [some (vR 57), none, some (vI x2), some (vI x3), some (vI x4)] [] (SH, RF, f) := by
  intro n
  induction n with
  | zero => intro x2 x3 x4 f h; exact absurd h (by rw [FX3_deedOn_23]; exact fun q => q)
  | succ n ih =>
    intro x2 x3 x4 f h
    rw [FX3_deedOn_23] at h
    refine ev_iload dX3_deedOn_23 rfl ?_
    refine ev_iload_n (i := 2) dX3_deedOn_25 rfl rfl ?_
    refine ev_icmp_le (tgt := 42) dX3_deedOn_26 (by decide) (fun c3 => ?_) (fun c3 => ?_)
    · rw [if_pos c3] at h
      refine ev_iload_n (i := 3) dX3_deedOn_42 rfl rfl ?_
      refine ev_aload_n (i := 0) dX3_deedOn_43 rfl rfl ?_
      refine ex_getI (x := (f 57 2)) dX3_deedOn_44 fl_X3_51 sh_57 (by decide) (by decide) rfl ?_
      by_cases g1 : (f 57 2) ≠ 0
      · rw [if_pos g1] at h
        refine ev_irem dX3_deedOn_47 g1 ?_
        refine ev_iconst dX3_deedOn_48 (r32c rfl) ?_
        refine ev_isub dX3_deedOn_49 ?_
        exact ev_iret rfl dX3_deedOn_50 h
      · rw [if_neg g1] at h; exact h.elim
    · rw [if_neg c3] at h
      refine ev_iload_n (i := 3) dX3_deedOn_29 rfl rfl ?_
      refine ev_aload_n (i := 0) dX3_deedOn_30 rfl rfl ?_
      refine ex_getI (x := (f 57 2)) dX3_deedOn_31 fl_X3_51 sh_57 (by decide) (by decide) rfl ?_
      by_cases g2 : (f 57 2) ≠ 0
      · rw [if_pos g2] at h
        refine ev_idiv dX3_deedOn_34 g2 ?_
        refine ev_istore_n (i := 3) (L' := [some (vR 57), none, some (vI x2), some (vI (iDiv x3 (f 57 2))), some (vI x4)]) dX3_deedOn_35 rfl (by decide) rfl ?_
        refine ev_iinc (L' := [some (vR 57), none, some (vI x2), some (vI (iDiv x3 (f 57 2))), some (vI (w32 (x4 + (-1))))]) dX3_deedOn_36 rfl (by decide) rfl ?_
        refine ev_goto (tgt := 23) dX3_deedOn_39 (by decide) ?_
        exact ih x2 (iDiv x3 (f 57 2)) (w32 (x4 + (-1))) _ h
      · rw [if_neg g2] at h; exact h.elim
def FX3_deedOn_0  (x1 : Int) (x2 : Int) (f : Mm) : Option (Int × Mm) := (if x1 < 0 then some ((-1), f) else (if 0 < (f 57 2) then FX3_deedOn_23 fu x2 x1 (w32 ((f 57 1) - 1)) f else some ((-1), f)))
set_option maxHeartbeats 4000000 in
set_option maxRecDepth 100000 in
theorem SX3_deedOn_0 {G : GT} {l : Launch} {Q : Option AV → Mem → Prop}  (x1 : Int) (x2 : Int) (f : Mm) (h : OkI Q (FX3_deedOn_0  x1 x2 f)) : Ev G l MX3_deedOn (Rm 1 0 0) (ZM G Q 0 0) 0 0 0 [some (vR 57), some (vI x1), some (vI x2), none, none] [] (SH, RF, f) := by
  unfold FX3_deedOn_0 at h
  refine ev_iload_n (i := 1) dX3_deedOn_0 rfl rfl ?_
  refine ev_if_lt (tgt := 11) dX3_deedOn_1 (by decide) (fun c2 => ?_) (fun c2 => ?_)
  · rw [if_pos c2] at h
    refine ev_iconst dX3_deedOn_11 (r32c rfl) ?_
    exact ev_iret rfl dX3_deedOn_12 h
  · rw [if_neg c2] at h
    refine ev_aload_n (i := 0) dX3_deedOn_4 rfl rfl ?_
    refine ex_getI (x := (f 57 2)) dX3_deedOn_5 fl_X3_51 sh_57 (by decide) (by decide) rfl ?_
    refine ev_if_gt (tgt := 13) dX3_deedOn_8 (by decide) (fun c1 => ?_) (fun c1 => ?_)
    · rw [if_pos c1] at h
      refine ev_iload_n (i := 1) dX3_deedOn_13 rfl rfl ?_
      refine ev_istore_n (i := 3) (L' := [some (vR 57), some (vI x1), some (vI x2), some (vI x1), none]) dX3_deedOn_14 rfl (by decide) rfl ?_
      refine ev_aload_n (i := 0) dX3_deedOn_15 rfl rfl ?_
      refine ex_getI (x := (f 57 1)) dX3_deedOn_16 fl_X3_47 sh_57 (by decide) (by decide) rfl ?_
      refine ev_iconst dX3_deedOn_19 (r32c rfl) ?_
      refine ev_isub dX3_deedOn_20 ?_
      refine ev_istore (L' := [some (vR 57), some (vI x1), some (vI x2), some (vI x1), some (vI (w32 ((f 57 1) - 1)))]) dX3_deedOn_21 (by decide) rfl ?_
      refine ev_fg [true, false, true, true, true] rfl ?_
      exact SX3_deedOn_23  fu x2 x1 (w32 ((f 57 1) - 1)) _ h
    · rw [if_neg c1] at h
      refine ev_iconst dX3_deedOn_11 (r32c rfl) ?_
      exact ev_iret rfl dX3_deedOn_12 h
def FX3_deedOn (x1 : Int) (x2 : Int) (f : Mm) : Option (Int × Mm) := FX3_deedOn_0 x1 x2 f
theorem TX3_deedOn {G : GT} {l : Launch} {Q : Option AV → Mem → Prop} (x1 : Int) (x2 : Int) (f : Mm) (h : OkI Q (FX3_deedOn x1 x2 f)) : Ret G l MX3_deedOn (1) 0 0 [vR 57, vI x1, vI x2] (SH, RF, f) Q := by
  refine ret_of (L := [some (vR 57), some (vI x1), some (vI x2), none, none]) (by decide) rfl (Nat.le_of_ble_eq_true rfl) ?_
  exact SX3_deedOn_0 x1 x2 f h
theorem dX10_plan_0 : decode cX10_plan 0 = .ok (.aload_n 0, 1) := by decide +kernel
theorem dX10_plan_1 : decode cX10_plan 1 = .ok (.getfield 19, 3) := by decide +kernel
theorem dX10_plan_4 : decode cX10_plan 4 = .ok (.iload_n 1, 1) := by decide +kernel
theorem dX10_plan_5 : decode cX10_plan 5 = .ok (.invokevirtual 126, 3) := by decide +kernel
theorem dX10_plan_8 : decode cX10_plan 8 = .ok (.ifCond .ne 6, 3) := by decide +kernel
theorem dX10_plan_14 : decode cX10_plan 14 = .ok (.aload_n 0, 1) := by decide +kernel
theorem dX10_plan_15 : decode cX10_plan 15 = .ok (.invokevirtual 189, 3) := by decide +kernel
theorem dX10_plan_18 : decode cX10_plan 18 = .ok (.astore_n 2, 1) := by decide +kernel
theorem dX10_plan_19 : decode cX10_plan 19 = .ok (.aload_n 2, 1) := by decide +kernel
theorem dX10_plan_20 : decode cX10_plan 20 = .ok (.aload_n 2, 1) := by decide +kernel
theorem dX10_plan_21 : decode cX10_plan 21 = .ok (.aload_n 0, 1) := by decide +kernel
theorem dX10_plan_22 : decode cX10_plan 22 = .ok (.getfield 19, 3) := by decide +kernel
theorem dX10_plan_25 : decode cX10_plan 25 = .ok (.invokevirtual 197, 3) := by decide +kernel
theorem dX10_plan_28 : decode cX10_plan 28 = .ok (.iload_n 1, 1) := by decide +kernel
theorem dX10_plan_29 : decode cX10_plan 29 = .ok (.invokevirtual 200, 3) := by decide +kernel
theorem dX10_plan_32 : decode cX10_plan 32 = .ok (.ireturn, 1) := by decide +kernel
theorem dX10_plan_11 : decode cX10_plan 11 = .ok (.bipush (-2), 2) := by decide +kernel
theorem dX10_plan_13 : decode cX10_plan 13 = .ok (.ireturn, 1) := by decide +kernel
def FX10_plan_0  (x1 : Int) (f : Mm) : Option (Int × Mm) := (b2 (FX0_hasDay_4 x1 f) fun y1 f1 => (if y1 = 0 then some ((-2), f1) else ((FX10_weighed f1).bind fun f2 => (b2 (FX3_bestFirst_57_4 f2) fun y3 f3 => (b2 (FX3_deedOn y3 x1 f3) fun y4 f4 => some (y4, f4))))))
set_option maxHeartbeats 4000000 in
set_option maxRecDepth 100000 in
theorem SX10_plan_0 {G : GT} {l : Launch} {Q : Option AV → Mem → Prop}  (x1 : Int) (f : Mm) (h : OkI Q (FX10_plan_0  x1 f)) : Ev G l MX10_plan (Rm 6 0 0) (ZM G Q 0 0) 0 0 0 [some (vR 0), some (vI x1), none] [] (SH, RF, f) := by
  unfold FX10_plan_0 at h
  refine ev_aload_n (i := 0) dX10_plan_0 rfl rfl ?_
  refine ev_getR dX10_plan_1 fl_X10_19 sh_0 (by decide) (by decide) rf_0_1 ?_
  refine ev_iload_n (i := 1) dX10_plan_4 rfl rfl ?_
  refine ev_cVI (b := 4) (av := [vI x1]) (S := []) (fun q => q) h dX10_plan_5 (fun Q' q => TX0_hasDay_4 x1 _ q) kvX0_hasDay ml_X10_126 sh_4 rfl (RRc (by decide) (by decide)) (Nat.le_of_ble_eq_true rfl) ⟨Nat.le_of_ble_eq_true rfl, Nat.le_of_ble_eq_true rfl⟩ (fun y1 f1 h => ?_)
  refine ev_if_ne (tgt := 14) dX10_plan_8 (by decide) (fun c5 => ?_) (fun c5 => ?_)
  · rw [if_neg c5] at h
    refine ev_aload_n (i := 0) dX10_plan_14 rfl rfl ?_
    refine ev_cVC (b := 0) (av := []) (S := []) (fun q => q) h dX10_plan_15 (fun Q' q => TX10_weighed _ q) kvX10_weighed ml_X10_189 sh_0 rfl (RRc (by decide) (by decide)) (Nat.le_of_ble_eq_true rfl) ⟨Nat.le_of_ble_eq_true rfl, Nat.le_of_ble_eq_true rfl⟩ (fun f2 h => ?_)
    refine ev_astore_n (i := 2) (L' := [some (vR 0), some (vI x1), some (vR 57)]) dX10_plan_18 rfl (by decide) rfl ?_
    refine ev_aload_n (i := 2) dX10_plan_19 rfl rfl ?_
    refine ev_aload_n (i := 2) dX10_plan_20 rfl rfl ?_
    refine ev_aload_n (i := 0) dX10_plan_21 rfl rfl ?_
    refine ev_getR dX10_plan_22 fl_X10_19 sh_0 (by decide) (by decide) rf_0_1 ?_
    refine ev_cVI (b := 57) (av := [vR 4]) (S := [vR 57]) (fun q => q) h dX10_plan_25 (fun Q' q => TX3_bestFirst_57_4 _ q) kvX3_bestFirst ml_X10_197 sh_57 rfl (RRc (by decide) (by decide)) (Nat.le_of_ble_eq_true rfl) ⟨Nat.le_of_ble_eq_true rfl, Nat.le_of_ble_eq_true rfl⟩ (fun y3 f3 h => ?_)
    refine ev_iload_n (i := 1) dX10_plan_28 rfl rfl ?_
    refine ev_cVI (b := 57) (av := [vI y3, vI x1]) (S := []) (fun q => q) h dX10_plan_29 (fun Q' q => TX3_deedOn y3 x1 _ q) kvX3_deedOn ml_X10_200 sh_57 rfl (RRc (by decide) (by decide)) (Nat.le_of_ble_eq_true rfl) ⟨Nat.le_of_ble_eq_true rfl, Nat.le_of_ble_eq_true rfl⟩ (fun y4 f4 h => ?_)
    exact ev_iret rfl dX10_plan_32 h
  · rw [if_pos c5] at h
    refine ev_bipush (v := (-2)) dX10_plan_11 (r32c rfl) (by decide) ?_
    exact ev_iret rfl dX10_plan_13 h
def FX10_plan (x1 : Int) (f : Mm) : Option (Int × Mm) := FX10_plan_0 x1 f
theorem TX10_plan {G : GT} {l : Launch} {Q : Option AV → Mem → Prop} (x1 : Int) (f : Mm) (h : OkI Q (FX10_plan x1 f)) : Ret G l MX10_plan (6) 0 0 [vR 0, vI x1] (SH, RF, f) Q := by
  refine ret_of (L := [some (vR 0), some (vI x1), none]) (by decide) rfl (Nat.le_of_ble_eq_true rfl) ?_
  exact SX10_plan_0 x1 f h
theorem dX3_bestWays_42 : decode cX3_bestWays 42 = .ok (.iinc 4 1, 3) := by decide +kernel
theorem dX3_bestWays_45 : decode cX3_bestWays 45 = .ok (.goto (-33), 3) := by decide +kernel
theorem dX3_bestWays_12 : decode cX3_bestWays 12 = .ok (.iload 4, 2) := by decide +kernel
theorem dX3_bestWays_14 : decode cX3_bestWays 14 = .ok (.aload_n 1, 1) := by decide +kernel
theorem dX3_bestWays_15 : decode cX3_bestWays 15 = .ok (.invokevirtual 119, 3) := by decide +kernel
theorem dX3_bestWays_18 : decode cX3_bestWays 18 = .ok (.if_icmp .gt 30, 3) := by decide +kernel
theorem dX3_bestWays_48 : decode cX3_bestWays 48 = .ok (.iload_n 3, 1) := by decide +kernel
theorem dX3_bestWays_49 : decode cX3_bestWays 49 = .ok (.ireturn, 1) := by decide +kernel
theorem dX3_bestWays_21 : decode cX3_bestWays 21 = .ok (.aload_n 0, 1) := by decide +kernel
theorem dX3_bestWays_22 : decode cX3_bestWays 22 = .ok (.aload_n 1, 1) := by decide +kernel
theorem dX3_bestWays_23 : decode cX3_bestWays 23 = .ok (.iload 4, 2) := by decide +kernel
theorem dX3_bestWays_25 : decode cX3_bestWays 25 = .ok (.iload_n 2, 1) := by decide +kernel
theorem dX3_bestWays_26 : decode cX3_bestWays 26 = .ok (.invokevirtual 130, 3) := by decide +kernel
theorem dX3_bestWays_29 : decode cX3_bestWays 29 = .ok (.ifCond .eq 13, 3) := by decide +kernel
theorem dX3_bestWays_32 : decode cX3_bestWays 32 = .ok (.iload_n 3, 1) := by decide +kernel
theorem dX3_bestWays_33 : decode cX3_bestWays 33 = .ok (.aload_n 0, 1) := by decide +kernel
theorem dX3_bestWays_34 : decode cX3_bestWays 34 = .ok (.getfield 24, 3) := by decide +kernel
theorem dX3_bestWays_37 : decode cX3_bestWays 37 = .ok (.iload 4, 2) := by decide +kernel
theorem dX3_bestWays_39 : decode cX3_bestWays 39 = .ok (.iaload, 1) := by decide +kernel
theorem dX3_bestWays_40 : decode cX3_bestWays 40 = .ok (.iadd, 1) := by decide +kernel
theorem dX3_bestWays_41 : decode cX3_bestWays 41 = .ok (.istore_n 3, 1) := by decide +kernel
theorem dX3_bestWays_0 : decode cX3_bestWays 0 = .ok (.aload_n 0, 1) := by decide +kernel
theorem dX3_bestWays_1 : decode cX3_bestWays 1 = .ok (.aload_n 1, 1) := by decide +kernel
theorem dX3_bestWays_2 : decode cX3_bestWays 2 = .ok (.iconst (-1), 1) := by decide +kernel
theorem dX3_bestWays_3 : decode cX3_bestWays 3 = .ok (.invokevirtual 126, 3) := by decide +kernel
theorem dX3_bestWays_6 : decode cX3_bestWays 6 = .ok (.istore_n 2, 1) := by decide +kernel
theorem dX3_bestWays_7 : decode cX3_bestWays 7 = .ok (.iconst 0, 1) := by decide +kernel
theorem dX3_bestWays_8 : decode cX3_bestWays 8 = .ok (.istore_n 3, 1) := by decide +kernel
theorem dX3_bestWays_9 : decode cX3_bestWays 9 = .ok (.iconst 0, 1) := by decide +kernel
theorem dX3_bestWays_10 : decode cX3_bestWays 10 = .ok (.istore 4, 2) := by decide +kernel
def FX3_bestWays_57_4_42 (k12 : Int → Int → Int → Mm → Option (Int × Mm)) (x2 : Int) (x3 : Int) (x4 : Int) (f : Mm) : Option (Int × Mm) := k12 x2 x3 (w32 (x4 + 1)) f
set_option maxHeartbeats 4000000 in
set_option maxRecDepth 100000 in
theorem SX3_bestWays_57_4_42 {G : GT} {l : Launch} {Q : Option AV → Mem → Prop} {k12 : Int → Int → Int → Mm → Option (Int × Mm)} (q12 : ∀ (x2 : Int) (x3 : Int) (x4 : Int) (f : Mm), OkI Q (k12 x2 x3 x4 f) → Ev G l MX3_bestWays (Rm 5 0 0) (ZM G Q 0 0) 0 0 12 [some (vR 57), some (vR 4), some (vI x2), some (vI x3), some (vI x4)] [] (SH, RF, f)) (x2 : Int) (x3 : Int) (x4 : Int) (f : Mm) (h : OkI Q (FX3_bestWays_57_4_42 k12 x2 x3 x4 f)) : Ev G l MX3_bestWays (Rm 5 0 0) (ZM G Q 0 0) 0 0 42 [some (vR 57), some (vR 4), some (vI x2), some (vI x3), some (vI x4)] [] (SH, RF, f) := by
  unfold FX3_bestWays_57_4_42 at h
  refine ev_iinc (L' := [some (vR 57), some (vR 4), some (vI x2), some (vI x3), some (vI (w32 (x4 + 1)))]) dX3_bestWays_42 rfl (by decide) rfl ?_
  refine ev_goto (tgt := 12) dX3_bestWays_45 (by decide) ?_
  exact q12 x2 x3 (w32 (x4 + 1)) _ h
def FX3_bestWays_57_4_12  : Nat → Int → Int → Int → Mm → Option (Int × Mm)
  | 0, _, _, _, _ => none
  | n + 1, x2, x3, x4, f => (b2 (FX0_allCarts_4 f) fun y1 f1 => (if y1 < x4 then some (x3, f1) else (b2 (FX3_isBest_57_4 x4 x2 f1) fun y2 f2 => (if y2 = 0 then FX3_bestWays_57_4_42 (FX3_bestWays_57_4_12 n) x2 x3 x4 f2 else (if 0 ≤ x4 ∧ x4 < 64 then FX3_bestWays_57_4_42 (FX3_bestWays_57_4_12 n) x2 (w32 (x3 + (f2 62 x4.toNat))) x4 f2 else none)))))
set_option maxHeartbeats 4000000 in
set_option maxRecDepth 100000 in
theorem SX3_bestWays_57_4_12 {G : GT} {l : Launch} {Q : Option AV → Mem → Prop}  : ∀ (n : Nat) (x2 : Int) (x3 : Int) (x4 : Int) (f : Mm), OkI Q (FX3_bestWays_57_4_12  n x2 x3 x4 f) → Ev G l MX3_bestWays (Rm 5 0 0) (ZM G Q 0 0) 0 0 12 [some (vR 57), some (vR 4), some (vI x2), some (vI x3), some (vI x4)] [] (SH, RF, f) := by
  intro n
  induction n with
  | zero => intro x2 x3 x4 f h; exact absurd h (by rw [FX3_bestWays_57_4_12]; exact fun q => q)
  | succ n ih =>
    intro x2 x3 x4 f h
    rw [FX3_bestWays_57_4_12] at h
    refine ev_iload dX3_bestWays_12 rfl ?_
    refine ev_aload_n (i := 1) dX3_bestWays_14 rfl rfl ?_
    refine ev_cVI (b := 4) (av := []) (S := [vI x4]) (fun q => q) h dX3_bestWays_15 (fun Q' q => TX0_allCarts_4 _ q) kvX0_allCarts ml_X3_119 sh_4 rfl (RRc (by decide) (by decide)) (Nat.le_of_ble_eq_true rfl) ⟨Nat.le_of_ble_eq_true rfl, Nat.le_of_ble_eq_true rfl⟩ (fun y1 f1 h => ?_)
    refine ev_icmp_gt (tgt := 48) dX3_bestWays_18 (by decide) (fun c5 => ?_) (fun c5 => ?_)
    · rw [if_pos c5] at h
      refine ev_iload_n (i := 3) dX3_bestWays_48 rfl rfl ?_
      exact ev_iret rfl dX3_bestWays_49 h
    · rw [if_neg c5] at h
      refine ev_aload_n (i := 0) dX3_bestWays_21 rfl rfl ?_
      refine ev_aload_n (i := 1) dX3_bestWays_22 rfl rfl ?_
      refine ev_iload dX3_bestWays_23 rfl ?_
      refine ev_iload_n (i := 2) dX3_bestWays_25 rfl rfl ?_
      refine ev_cVI (b := 57) (av := [vR 4, vI x4, vI x2]) (S := []) (fun q => q) h dX3_bestWays_26 (fun Q' q => TX3_isBest_57_4 x4 x2 _ q) kvX3_isBest ml_X3_130 sh_57 rfl (RRc (by decide) (by decide)) (Nat.le_of_ble_eq_true rfl) ⟨Nat.le_of_ble_eq_true rfl, Nat.le_of_ble_eq_true rfl⟩ (fun y2 f2 h => ?_)
      refine ev_if_eq (tgt := 42) dX3_bestWays_29 (by decide) (fun c4 => ?_) (fun c4 => ?_)
      · rw [if_pos c4] at h
        exact SX3_bestWays_57_4_42 ih x2 x3 x4 _ h
      · rw [if_neg c4] at h
        refine ev_iload_n (i := 3) dX3_bestWays_32 rfl rfl ?_
        refine ev_aload_n (i := 0) dX3_bestWays_33 rfl rfl ?_
        refine ev_getR dX3_bestWays_34 fl_X3_24 sh_57 (by decide) (by decide) rf_57_7 ?_
        refine ev_iload dX3_bestWays_37 rfl ?_
        by_cases g3 : 0 ≤ x4 ∧ x4 < 64
        · rw [if_pos g3] at h
          refine ex_iald (x := (f2 62 x4.toNat)) dX3_bestWays_39 sh_62 g3.1 g3.2 rfl ?_
          refine ev_iadd dX3_bestWays_40 ?_
          refine ev_istore_n (i := 3) (L' := [some (vR 57), some (vR 4), some (vI x2), some (vI (w32 (x3 + (f2 62 x4.toNat)))), some (vI x4)]) dX3_bestWays_41 rfl (by decide) rfl ?_
          exact SX3_bestWays_57_4_42 ih x2 (w32 (x3 + (f2 62 x4.toNat))) x4 _ h
        · rw [if_neg g3] at h; exact h.elim
def FX3_bestWays_57_4_0   (f : Mm) : Option (Int × Mm) := (b2 (FX3_bestGain_57_4 (-1) f) fun y1 f1 => FX3_bestWays_57_4_12 fu y1 0 0 f1)
set_option maxHeartbeats 4000000 in
set_option maxRecDepth 100000 in
theorem SX3_bestWays_57_4_0 {G : GT} {l : Launch} {Q : Option AV → Mem → Prop}   (f : Mm) (h : OkI Q (FX3_bestWays_57_4_0   f)) : Ev G l MX3_bestWays (Rm 5 0 0) (ZM G Q 0 0) 0 0 0 [some (vR 57), some (vR 4), none, none, none] [] (SH, RF, f) := by
  unfold FX3_bestWays_57_4_0 at h
  refine ev_aload_n (i := 0) dX3_bestWays_0 rfl rfl ?_
  refine ev_aload_n (i := 1) dX3_bestWays_1 rfl rfl ?_
  refine ev_iconst dX3_bestWays_2 (r32c rfl) ?_
  refine ev_cVI (b := 57) (av := [vR 4, vI (-1)]) (S := []) (fun q => q) h dX3_bestWays_3 (fun Q' q => TX3_bestGain_57_4 (-1) _ q) kvX3_bestGain ml_X3_126 sh_57 rfl (RRc (by decide) (by decide)) (Nat.le_of_ble_eq_true rfl) ⟨Nat.le_of_ble_eq_true rfl, Nat.le_of_ble_eq_true rfl⟩ (fun y1 f1 h => ?_)
  refine ev_istore_n (i := 2) (L' := [some (vR 57), some (vR 4), some (vI y1), none, none]) dX3_bestWays_6 rfl (by decide) rfl ?_
  refine ev_iconst dX3_bestWays_7 (r32c rfl) ?_
  refine ev_istore_n (i := 3) (L' := [some (vR 57), some (vR 4), some (vI y1), some (vI 0), none]) dX3_bestWays_8 rfl (by decide) rfl ?_
  refine ev_iconst dX3_bestWays_9 (r32c rfl) ?_
  refine ev_istore (L' := [some (vR 57), some (vR 4), some (vI y1), some (vI 0), some (vI 0)]) dX3_bestWays_10 (by decide) rfl ?_
  exact SX3_bestWays_57_4_12  fu y1 0 0 _ h
def FX3_bestWays_57_4  (f : Mm) : Option (Int × Mm) := FX3_bestWays_57_4_0  f
theorem TX3_bestWays_57_4 {G : GT} {l : Launch} {Q : Option AV → Mem → Prop}  (f : Mm) (h : OkI Q (FX3_bestWays_57_4  f)) : Ret G l MX3_bestWays (5) 0 0 [vR 57, vR 4] (SH, RF, f) Q := by
  refine ret_of (L := [some (vR 57), some (vR 4), none, none, none]) (by decide) rfl (Nat.le_of_ble_eq_true rfl) ?_
  exact SX3_bestWays_57_4_0  f h
theorem dX10_ways_0 : decode cX10_ways 0 = .ok (.aload_n 0, 1) := by decide +kernel
theorem dX10_ways_1 : decode cX10_ways 1 = .ok (.getfield 19, 3) := by decide +kernel
theorem dX10_ways_4 : decode cX10_ways 4 = .ok (.invokevirtual 140, 3) := by decide +kernel
theorem dX10_ways_7 : decode cX10_ways 7 = .ok (.ifCond .eq 17, 3) := by decide +kernel
theorem dX10_ways_24 : decode cX10_ways 24 = .ok (.bipush (-2), 2) := by decide +kernel
theorem dX10_ways_26 : decode cX10_ways 26 = .ok (.ireturn, 1) := by decide +kernel
theorem dX10_ways_10 : decode cX10_ways 10 = .ok (.aload_n 0, 1) := by decide +kernel
theorem dX10_ways_11 : decode cX10_ways 11 = .ok (.invokevirtual 189, 3) := by decide +kernel
theorem dX10_ways_14 : decode cX10_ways 14 = .ok (.aload_n 0, 1) := by decide +kernel
theorem dX10_ways_15 : decode cX10_ways 15 = .ok (.getfield 19, 3) := by decide +kernel
theorem dX10_ways_18 : decode cX10_ways 18 = .ok (.invokevirtual 204, 3) := by decide +kernel
theorem dX10_ways_21 : decode cX10_ways 21 = .ok (.goto 5, 3) := by decide +kernel
def FX10_ways_0   (f : Mm) : Option (Int × Mm) := (b2 (FX0_stands_4 f) fun y1 f1 => (if y1 = 0 then some ((-2), f1) else ((FX10_weighed f1).bind fun f2 => (b2 (FX3_bestWays_57_4 f2) fun y3 f3 => some (y3, f3)))))
set_option maxHeartbeats 4000000 in
set_option maxRecDepth 100000 in
theorem SX10_ways_0 {G : GT} {l : Launch} {Q : Option AV → Mem → Prop}   (f : Mm) (h : OkI Q (FX10_ways_0   f)) : Ev G l MX10_ways (Rm 6 0 0) (ZM G Q 0 0) 0 0 0 [some (vR 0)] [] (SH, RF, f) := by
  unfold FX10_ways_0 at h
  refine ev_aload_n (i := 0) dX10_ways_0 rfl rfl ?_
  refine ev_getR dX10_ways_1 fl_X10_19 sh_0 (by decide) (by decide) rf_0_1 ?_
  refine ev_cVI (b := 4) (av := []) (S := []) (fun q => q) h dX10_ways_4 (fun Q' q => TX0_stands_4 _ q) kvX0_stands ml_X10_140 sh_4 rfl (RRc (by decide) (by decide)) (Nat.le_of_ble_eq_true rfl) ⟨Nat.le_of_ble_eq_true rfl, Nat.le_of_ble_eq_true rfl⟩ (fun y1 f1 h => ?_)
  refine ev_if_eq (tgt := 24) dX10_ways_7 (by decide) (fun c4 => ?_) (fun c4 => ?_)
  · rw [if_pos c4] at h
    refine ev_bipush (v := (-2)) dX10_ways_24 (r32c rfl) (by decide) ?_
    exact ev_iret rfl dX10_ways_26 h
  · rw [if_neg c4] at h
    refine ev_aload_n (i := 0) dX10_ways_10 rfl rfl ?_
    refine ev_cVC (b := 0) (av := []) (S := []) (fun q => q) h dX10_ways_11 (fun Q' q => TX10_weighed _ q) kvX10_weighed ml_X10_189 sh_0 rfl (RRc (by decide) (by decide)) (Nat.le_of_ble_eq_true rfl) ⟨Nat.le_of_ble_eq_true rfl, Nat.le_of_ble_eq_true rfl⟩ (fun f2 h => ?_)
    refine ev_aload_n (i := 0) dX10_ways_14 rfl rfl ?_
    refine ev_getR dX10_ways_15 fl_X10_19 sh_0 (by decide) (by decide) rf_0_1 ?_
    refine ev_cVI (b := 57) (av := [vR 4]) (S := []) (fun q => q) h dX10_ways_18 (fun Q' q => TX3_bestWays_57_4 _ q) kvX3_bestWays ml_X10_204 sh_57 rfl (RRc (by decide) (by decide)) (Nat.le_of_ble_eq_true rfl) ⟨Nat.le_of_ble_eq_true rfl, Nat.le_of_ble_eq_true rfl⟩ (fun y3 f3 h => ?_)
    refine ev_goto (tgt := 26) dX10_ways_21 (by decide) ?_
    exact ev_iret rfl dX10_ways_26 h
def FX10_ways  (f : Mm) : Option (Int × Mm) := FX10_ways_0  f
theorem TX10_ways {G : GT} {l : Launch} {Q : Option AV → Mem → Prop}  (f : Mm) (h : OkI Q (FX10_ways  f)) : Ret G l MX10_ways (6) 0 0 [vR 0] (SH, RF, f) Q := by
  refine ret_of (L := [some (vR 0)]) (by decide) rfl (Nat.le_of_ble_eq_true rfl) ?_
  exact SX10_ways_0  f h
theorem dX10_peak_48 : decode cX10_peak 48 = .ok (.iinc 3 1, 3) := by decide +kernel
theorem dX10_peak_51 : decode cX10_peak 51 = .ok (.goto (-29), 3) := by decide +kernel
theorem dX10_peak_22 : decode cX10_peak 22 = .ok (.iload_n 3, 1) := by decide +kernel
theorem dX10_peak_23 : decode cX10_peak 23 = .ok (.aload_n 0, 1) := by decide +kernel
theorem dX10_peak_24 : decode cX10_peak 24 = .ok (.getfield 19, 3) := by decide +kernel
theorem dX10_peak_27 : decode cX10_peak 27 = .ok (.getfield 144, 3) := by decide +kernel
theorem dX10_peak_30 : decode cX10_peak 30 = .ok (.if_icmp .ge 24, 3) := by decide +kernel
theorem dX10_peak_54 : decode cX10_peak 54 = .ok (.iload_n 2, 1) := by decide +kernel
theorem dX10_peak_55 : decode cX10_peak 55 = .ok (.ireturn, 1) := by decide +kernel
theorem dX10_peak_33 : decode cX10_peak 33 = .ok (.aload_n 1, 1) := by decide +kernel
theorem dX10_peak_34 : decode cX10_peak 34 = .ok (.iload_n 3, 1) := by decide +kernel
theorem dX10_peak_35 : decode cX10_peak 35 = .ok (.invokevirtual 136, 3) := by decide +kernel
theorem dX10_peak_38 : decode cX10_peak 38 = .ok (.aload_n 1, 1) := by decide +kernel
theorem dX10_peak_39 : decode cX10_peak 39 = .ok (.iload_n 2, 1) := by decide +kernel
theorem dX10_peak_40 : decode cX10_peak 40 = .ok (.invokevirtual 136, 3) := by decide +kernel
theorem dX10_peak_43 : decode cX10_peak 43 = .ok (.if_icmp .le 5, 3) := by decide +kernel
theorem dX10_peak_46 : decode cX10_peak 46 = .ok (.iload_n 3, 1) := by decide +kernel
theorem dX10_peak_47 : decode cX10_peak 47 = .ok (.istore_n 2, 1) := by decide +kernel
theorem dX10_peak_0 : decode cX10_peak 0 = .ok (.aload_n 0, 1) := by decide +kernel
theorem dX10_peak_1 : decode cX10_peak 1 = .ok (.getfield 19, 3) := by decide +kernel
theorem dX10_peak_4 : decode cX10_peak 4 = .ok (.invokevirtual 140, 3) := by decide +kernel
theorem dX10_peak_7 : decode cX10_peak 7 = .ok (.ifCond .ne 6, 3) := by decide +kernel
theorem dX10_peak_13 : decode cX10_peak 13 = .ok (.aload_n 0, 1) := by decide +kernel
theorem dX10_peak_14 : decode cX10_peak 14 = .ok (.invokevirtual 129, 3) := by decide +kernel
theorem dX10_peak_17 : decode cX10_peak 17 = .ok (.astore_n 1, 1) := by decide +kernel
theorem dX10_peak_18 : decode cX10_peak 18 = .ok (.iconst 0, 1) := by decide +kernel
theorem dX10_peak_19 : decode cX10_peak 19 = .ok (.istore_n 2, 1) := by decide +kernel
theorem dX10_peak_20 : decode cX10_peak 20 = .ok (.iconst 1, 1) := by decide +kernel
theorem dX10_peak_21 : decode cX10_peak 21 = .ok (.istore_n 3, 1) := by decide +kernel
theorem dX10_peak_10 : decode cX10_peak 10 = .ok (.bipush (-2), 2) := by decide +kernel
theorem dX10_peak_12 : decode cX10_peak 12 = .ok (.ireturn, 1) := by decide +kernel
def FX10_peak_48 (k22 : Int → Int → Mm → Option (Int × Mm)) (x2 : Int) (x3 : Int) (f : Mm) : Option (Int × Mm) := k22 x2 (w32 (x3 + 1)) f
set_option maxHeartbeats 4000000 in
set_option maxRecDepth 100000 in
theorem SX10_peak_48 {G : GT} {l : Launch} {Q : Option AV → Mem → Prop} {k22 : Int → Int → Mm → Option (Int × Mm)} (q22 : ∀ (x2 : Int) (x3 : Int) (f : Mm), OkI Q (k22 x2 x3 f) → Ev G l MX10_peak (Rm 6 0 0) (ZM G Q 0 0) 0 0 22 [some (vR 0), some (vR 48), some (vI x2), some (vI x3)] [] (SH, RF, f)) (x2 : Int) (x3 : Int) (f : Mm) (h : OkI Q (FX10_peak_48 k22 x2 x3 f)) : Ev G l MX10_peak (Rm 6 0 0) (ZM G Q 0 0) 0 0 48 [some (vR 0), some (vR 48), some (vI x2), some (vI x3)] [] (SH, RF, f) := by
  unfold FX10_peak_48 at h
  refine ev_iinc (L' := [some (vR 0), some (vR 48), some (vI x2), some (vI (w32 (x3 + 1)))]) dX10_peak_48 rfl (by decide) rfl ?_
  refine ev_goto (tgt := 22) dX10_peak_51 (by decide) ?_
  exact q22 x2 (w32 (x3 + 1)) _ h
def FX10_peak_22  : Nat → Int → Int → Mm → Option (Int × Mm)
  | 0, _, _, _ => none
  | n + 1, x2, x3, f => (if (f 4 1) ≤ x3 then some (x2, f) else (b2 (FX1_widthOn x3 f) fun y1 f1 => (b2 (FX1_widthOn x2 f1) fun y2 f2 => (if y1 ≤ y2 then FX10_peak_48 (FX10_peak_22 n) x2 x3 f2 else FX10_peak_48 (FX10_peak_22 n) x3 x3 f2))))
set_option maxHeartbeats 4000000 in
set_option maxRecDepth 100000 in
theorem SX10_peak_22 {G : GT} {l : Launch} {Q : Option AV → Mem → Prop}  : ∀ (n : Nat) (x2 : Int) (x3 : Int) (f : Mm), OkI Q (FX10_peak_22  n x2 x3 f) → Ev G l MX10_peak (Rm 6 0 0) (ZM G Q 0 0) 0 0 22 [some (vR 0), some (vR 48), some (vI x2), some (vI x3)] [] (SH, RF, f) := by
  intro n
  induction n with
  | zero => intro x2 x3 f h; exact absurd h (by rw [FX10_peak_22]; exact fun q => q)
  | succ n ih =>
    intro x2 x3 f h
    rw [FX10_peak_22] at h
    refine ev_iload_n (i := 3) dX10_peak_22 rfl rfl ?_
    refine ev_aload_n (i := 0) dX10_peak_23 rfl rfl ?_
    refine ev_getR dX10_peak_24 fl_X10_19 sh_0 (by decide) (by decide) rf_0_1 ?_
    refine ex_getI (x := (f 4 1)) dX10_peak_27 fl_X10_144 sh_4 (by decide) (by decide) rfl ?_
    refine ev_icmp_ge (tgt := 54) dX10_peak_30 (by decide) (fun c4 => ?_) (fun c4 => ?_)
    · rw [if_pos c4] at h
      refine ev_iload_n (i := 2) dX10_peak_54 rfl rfl ?_
      exact ev_iret rfl dX10_peak_55 h
    · rw [if_neg c4] at h
      refine ev_aload_n (i := 1) dX10_peak_33 rfl rfl ?_
      refine ev_iload_n (i := 3) dX10_peak_34 rfl rfl ?_
      refine ev_cVI (b := 48) (av := [vI x3]) (S := []) (fun q => q) h dX10_peak_35 (fun Q' q => TX1_widthOn x3 _ q) kvX1_widthOn ml_X10_136 sh_48 rfl (RRc (by decide) (by decide)) (Nat.le_of_ble_eq_true rfl) ⟨Nat.le_of_ble_eq_true rfl, Nat.le_of_ble_eq_true rfl⟩ (fun y1 f1 h => ?_)
      refine ev_aload_n (i := 1) dX10_peak_38 rfl rfl ?_
      refine ev_iload_n (i := 2) dX10_peak_39 rfl rfl ?_
      refine ev_cVI (b := 48) (av := [vI x2]) (S := [vI y1]) (fun q => q) h dX10_peak_40 (fun Q' q => TX1_widthOn x2 _ q) kvX1_widthOn ml_X10_136 sh_48 rfl (RRc (by decide) (by decide)) (Nat.le_of_ble_eq_true rfl) ⟨Nat.le_of_ble_eq_true rfl, Nat.le_of_ble_eq_true rfl⟩ (fun y2 f2 h => ?_)
      refine ev_icmp_le (tgt := 48) dX10_peak_43 (by decide) (fun c3 => ?_) (fun c3 => ?_)
      · rw [if_pos c3] at h
        exact SX10_peak_48 ih x2 x3 _ h
      · rw [if_neg c3] at h
        refine ev_iload_n (i := 3) dX10_peak_46 rfl rfl ?_
        refine ev_istore_n (i := 2) (L' := [some (vR 0), some (vR 48), some (vI x3), some (vI x3)]) dX10_peak_47 rfl (by decide) rfl ?_
        exact SX10_peak_48 ih x3 x3 _ h
def FX10_peak_0   (f : Mm) : Option (Int × Mm) := (b2 (FX0_stands_4 f) fun y1 f1 => (if y1 = 0 then some ((-2), f1) else ((FX10_asNow f1).bind fun f2 => FX10_peak_22 fu 0 1 f2)))
set_option maxHeartbeats 4000000 in
set_option maxRecDepth 100000 in
theorem SX10_peak_0 {G : GT} {l : Launch} {Q : Option AV → Mem → Prop}   (f : Mm) (h : OkI Q (FX10_peak_0   f)) : Ev G l MX10_peak (Rm 6 0 0) (ZM G Q 0 0) 0 0 0 [some (vR 0), none, none, none] [] (SH, RF, f) := by
  unfold FX10_peak_0 at h
  refine ev_aload_n (i := 0) dX10_peak_0 rfl rfl ?_
  refine ev_getR dX10_peak_1 fl_X10_19 sh_0 (by decide) (by decide) rf_0_1 ?_
  refine ev_cVI (b := 4) (av := []) (S := []) (fun q => q) h dX10_peak_4 (fun Q' q => TX0_stands_4 _ q) kvX0_stands ml_X10_140 sh_4 rfl (RRc (by decide) (by decide)) (Nat.le_of_ble_eq_true rfl) ⟨Nat.le_of_ble_eq_true rfl, Nat.le_of_ble_eq_true rfl⟩ (fun y1 f1 h => ?_)
  refine ev_if_ne (tgt := 13) dX10_peak_7 (by decide) (fun c3 => ?_) (fun c3 => ?_)
  · rw [if_neg c3] at h
    refine ev_aload_n (i := 0) dX10_peak_13 rfl rfl ?_
    refine ev_cVC (b := 0) (av := []) (S := []) (fun q => q) h dX10_peak_14 (fun Q' q => TX10_asNow _ q) kvX10_asNow ml_X10_129 sh_0 rfl (RRc (by decide) (by decide)) (Nat.le_of_ble_eq_true rfl) ⟨Nat.le_of_ble_eq_true rfl, Nat.le_of_ble_eq_true rfl⟩ (fun f2 h => ?_)
    refine ev_astore_n (i := 1) (L' := [some (vR 0), some (vR 48), none, none]) dX10_peak_17 rfl (by decide) rfl ?_
    refine ev_iconst dX10_peak_18 (r32c rfl) ?_
    refine ev_istore_n (i := 2) (L' := [some (vR 0), some (vR 48), some (vI 0), none]) dX10_peak_19 rfl (by decide) rfl ?_
    refine ev_iconst dX10_peak_20 (r32c rfl) ?_
    refine ev_istore_n (i := 3) (L' := [some (vR 0), some (vR 48), some (vI 0), some (vI 1)]) dX10_peak_21 rfl (by decide) rfl ?_
    exact SX10_peak_22  fu 0 1 _ h
  · rw [if_pos c3] at h
    refine ev_bipush (v := (-2)) dX10_peak_10 (r32c rfl) (by decide) ?_
    exact ev_iret rfl dX10_peak_12 h
def FX10_peak  (f : Mm) : Option (Int × Mm) := FX10_peak_0  f
theorem TX10_peak {G : GT} {l : Launch} {Q : Option AV → Mem → Prop}  (f : Mm) (h : OkI Q (FX10_peak  f)) : Ret G l MX10_peak (6) 0 0 [vR 0] (SH, RF, f) Q := by
  refine ret_of (L := [some (vR 0), none, none, none]) (by decide) rfl (Nat.le_of_ble_eq_true rfl) ?_
  exact SX10_peak_0  f h
theorem dX10_lacks_82 : decode cX10_lacks 82 = .ok (.iconst 0, 1) := by decide +kernel
theorem dX10_lacks_83 : decode cX10_lacks 83 = .ok (.aload_n 3, 1) := by decide +kernel
theorem dX10_lacks_84 : decode cX10_lacks 84 = .ok (.iconst 1, 1) := by decide +kernel
theorem dX10_lacks_85 : decode cX10_lacks 85 = .ok (.iaload, 1) := by decide +kernel
theorem dX10_lacks_86 : decode cX10_lacks 86 = .ok (.iload 4, 2) := by decide +kernel
theorem dX10_lacks_88 : decode cX10_lacks 88 = .ok (.isub, 1) := by decide +kernel
theorem dX10_lacks_89 : decode cX10_lacks 89 = .ok (.invokestatic 207, 3) := by decide +kernel
theorem dX10_lacks_92 : decode cX10_lacks 92 = .ok (.ireturn, 1) := by decide +kernel
theorem dX10_lacks_76 : decode cX10_lacks 76 = .ok (.iinc 5 1, 3) := by decide +kernel
theorem dX10_lacks_79 : decode cX10_lacks 79 = .ok (.goto (-44), 3) := by decide +kernel
theorem dX10_lacks_35 : decode cX10_lacks 35 = .ok (.iload 5, 2) := by decide +kernel
theorem dX10_lacks_37 : decode cX10_lacks 37 = .ok (.aload_n 0, 1) := by decide +kernel
theorem dX10_lacks_38 : decode cX10_lacks 38 = .ok (.getfield 19, 3) := by decide +kernel
theorem dX10_lacks_41 : decode cX10_lacks 41 = .ok (.getfield 144, 3) := by decide +kernel
theorem dX10_lacks_44 : decode cX10_lacks 44 = .ok (.if_icmp .ge 38, 3) := by decide +kernel
theorem dX10_lacks_47 : decode cX10_lacks 47 = .ok (.iload 5, 2) := by decide +kernel
theorem dX10_lacks_49 : decode cX10_lacks 49 = .ok (.aload_n 3, 1) := by decide +kernel
theorem dX10_lacks_50 : decode cX10_lacks 50 = .ok (.iconst 2, 1) := by decide +kernel
theorem dX10_lacks_51 : decode cX10_lacks 51 = .ok (.iaload, 1) := by decide +kernel
theorem dX10_lacks_52 : decode cX10_lacks 52 = .ok (.if_icmp .lt 24, 3) := by decide +kernel
theorem dX10_lacks_55 : decode cX10_lacks 55 = .ok (.iload 5, 2) := by decide +kernel
theorem dX10_lacks_57 : decode cX10_lacks 57 = .ok (.aload_n 3, 1) := by decide +kernel
theorem dX10_lacks_58 : decode cX10_lacks 58 = .ok (.iconst 3, 1) := by decide +kernel
theorem dX10_lacks_59 : decode cX10_lacks 59 = .ok (.iaload, 1) := by decide +kernel
theorem dX10_lacks_60 : decode cX10_lacks 60 = .ok (.if_icmp .gt 16, 3) := by decide +kernel
theorem dX10_lacks_63 : decode cX10_lacks 63 = .ok (.iload 4, 2) := by decide +kernel
theorem dX10_lacks_65 : decode cX10_lacks 65 = .ok (.aload_n 2, 1) := by decide +kernel
theorem dX10_lacks_66 : decode cX10_lacks 66 = .ok (.iload 5, 2) := by decide +kernel
theorem dX10_lacks_68 : decode cX10_lacks 68 = .ok (.invokevirtual 136, 3) := by decide +kernel
theorem dX10_lacks_71 : decode cX10_lacks 71 = .ok (.invokestatic 207, 3) := by decide +kernel
theorem dX10_lacks_74 : decode cX10_lacks 74 = .ok (.istore 4, 2) := by decide +kernel
theorem dX10_lacks_0 : decode cX10_lacks 0 = .ok (.aload_n 0, 1) := by decide +kernel
theorem dX10_lacks_1 : decode cX10_lacks 1 = .ok (.getfield 19, 3) := by decide +kernel
theorem dX10_lacks_4 : decode cX10_lacks 4 = .ok (.iload_n 1, 1) := by decide +kernel
theorem dX10_lacks_5 : decode cX10_lacks 5 = .ok (.invokevirtual 117, 3) := by decide +kernel
theorem dX10_lacks_8 : decode cX10_lacks 8 = .ok (.ifCond .ne 6, 3) := by decide +kernel
theorem dX10_lacks_14 : decode cX10_lacks 14 = .ok (.aload_n 0, 1) := by decide +kernel
theorem dX10_lacks_15 : decode cX10_lacks 15 = .ok (.invokevirtual 129, 3) := by decide +kernel
theorem dX10_lacks_18 : decode cX10_lacks 18 = .ok (.astore_n 2, 1) := by decide +kernel
theorem dX10_lacks_19 : decode cX10_lacks 19 = .ok (.aload_n 0, 1) := by decide +kernel
theorem dX10_lacks_20 : decode cX10_lacks 20 = .ok (.getfield 19, 3) := by decide +kernel
theorem dX10_lacks_23 : decode cX10_lacks 23 = .ok (.getfield 120, 3) := by decide +kernel
theorem dX10_lacks_26 : decode cX10_lacks 26 = .ok (.iload_n 1, 1) := by decide +kernel
theorem dX10_lacks_27 : decode cX10_lacks 27 = .ok (.aaload, 1) := by decide +kernel
theorem dX10_lacks_28 : decode cX10_lacks 28 = .ok (.astore_n 3, 1) := by decide +kernel
theorem dX10_lacks_29 : decode cX10_lacks 29 = .ok (.iconst 0, 1) := by decide +kernel
theorem dX10_lacks_30 : decode cX10_lacks 30 = .ok (.istore 4, 2) := by decide +kernel
theorem dX10_lacks_32 : decode cX10_lacks 32 = .ok (.iconst 0, 1) := by decide +kernel
theorem dX10_lacks_33 : decode cX10_lacks 33 = .ok (.istore 5, 2) := by decide +kernel
theorem dX10_lacks_11 : decode cX10_lacks 11 = .ok (.bipush (-2), 2) := by decide +kernel
theorem dX10_lacks_13 : decode cX10_lacks 13 = .ok (.ireturn, 1) := by decide +kernel
def FX10_lacks_82  (a3 : Nat) (x4 : Int) (f : Mm) : Option (Int × Mm) := (if SH[a3]? = some (0, 5) then (b2 (FJ9_max_7cf53 0 (w32 ((f a3 1) - x4)) f) fun y2 f2 => some (y2, f2)) else none)
set_option maxHeartbeats 4000000 in
set_option maxRecDepth 100000 in
theorem SX10_lacks_82 {G : GT} {l : Launch} {Q : Option AV → Mem → Prop}  (a3 : Nat) (x4 : Int) (f : Mm) (h : OkI Q (FX10_lacks_82  a3 x4 f)) : Ev G l MX10_lacks (Rm 6 0 0) (ZM G Q 0 0) 0 0 82 [none, none, none, some (vR a3), some (vI x4), none] [] (SH, RF, f) := by
  unfold FX10_lacks_82 at h
  refine ev_iconst dX10_lacks_82 (r32c rfl) ?_
  refine ev_aload_n (i := 3) dX10_lacks_83 rfl rfl ?_
  refine ev_iconst dX10_lacks_84 (r32c rfl) ?_
  by_cases g1 : SH[a3]? = some (0, 5)
  · rw [if_pos g1] at h
    refine ex_iald (x := (f a3 1)) dX10_lacks_85 g1 (by decide) (by decide) rfl ?_
    refine ev_iload dX10_lacks_86 rfl ?_
    refine ev_isub dX10_lacks_88 ?_
    refine ev_cSI (av := [vI 0, vI (w32 ((f a3 1) - x4))]) (S := []) (fun q => q) h dX10_lacks_89 (fun Q' q => TJ9_max_7cf53 0 (w32 ((f a3 1) - x4)) _ q) ksJ9_max_7cf53 ml_X10_207 rfl (RRc (by decide) (by decide)) (Nat.le_of_ble_eq_true rfl) ⟨Nat.le_of_ble_eq_true rfl, Nat.le_of_ble_eq_true rfl⟩ (fun y2 f2 h => ?_)
    exact ev_iret rfl dX10_lacks_92 h
  · rw [if_neg g1] at h; exact h.elim
def FX10_lacks_76 (k35 : Nat → Int → Int → Mm → Option (Int × Mm)) (a3 : Nat) (x4 : Int) (x5 : Int) (f : Mm) : Option (Int × Mm) := k35 a3 x4 (w32 (x5 + 1)) f
set_option maxHeartbeats 4000000 in
set_option maxRecDepth 100000 in
theorem SX10_lacks_76 {G : GT} {l : Launch} {Q : Option AV → Mem → Prop} {k35 : Nat → Int → Int → Mm → Option (Int × Mm)} (q35 : ∀ (a3 : Nat) (x4 : Int) (x5 : Int) (f : Mm), OkI Q (k35 a3 x4 x5 f) → Ev G l MX10_lacks (Rm 6 0 0) (ZM G Q 0 0) 0 0 35 [some (vR 0), none, some (vR 48), some (vR a3), some (vI x4), some (vI x5)] [] (SH, RF, f)) (a3 : Nat) (x4 : Int) (x5 : Int) (f : Mm) (h : OkI Q (FX10_lacks_76 k35 a3 x4 x5 f)) : Ev G l MX10_lacks (Rm 6 0 0) (ZM G Q 0 0) 0 0 76 [some (vR 0), none, some (vR 48), some (vR a3), some (vI x4), some (vI x5)] [] (SH, RF, f) := by
  unfold FX10_lacks_76 at h
  refine ev_iinc (L' := [some (vR 0), none, some (vR 48), some (vR a3), some (vI x4), some (vI (w32 (x5 + 1)))]) dX10_lacks_76 rfl (by decide) rfl ?_
  refine ev_goto (tgt := 35) dX10_lacks_79 (by decide) ?_
  exact q35 a3 x4 (w32 (x5 + 1)) _ h
def FX10_lacks_35  : Nat → Nat → Int → Int → Mm → Option (Int × Mm)
  | 0, _, _, _, _ => none
  | n + 1, a3, x4, x5, f => (if (f 4 1) ≤ x5 then FX10_lacks_82 a3 x4 f else (if SH[a3]? = some (0, 5) then (if x5 < (f a3 2) then FX10_lacks_76 (FX10_lacks_35 n) a3 x4 x5 f else (if (f a3 3) < x5 then FX10_lacks_76 (FX10_lacks_35 n) a3 x4 x5 f else (b2 (FX1_widthOn x5 f) fun y2 f2 => (b2 (FJ9_max_7cf53 x4 y2 f2) fun y3 f3 => FX10_lacks_76 (FX10_lacks_35 n) a3 y3 x5 f3)))) else none))
set_option maxHeartbeats 4000000 in
set_option maxRecDepth 100000 in
theorem SX10_lacks_35 {G : GT} {l : Launch} {Q : Option AV → Mem → Prop}  : ∀ (n : Nat) (a3 : Nat) (x4 : Int) (x5 : Int) (f : Mm), OkI Q (FX10_lacks_35  n a3 x4 x5 f) → Ev G l MX10_lacks (Rm 6 0 0) (ZM G Q 0 0) 0 0 35 [some (vR 0), none, some (vR 48), some (vR a3), some (vI x4), some (vI x5)] [] (SH, RF, f) := by
  intro n
  induction n with
  | zero => intro a3 x4 x5 f h; exact absurd h (by rw [FX10_lacks_35]; exact fun q => q)
  | succ n ih =>
    intro a3 x4 x5 f h
    rw [FX10_lacks_35] at h
    refine ev_iload dX10_lacks_35 rfl ?_
    refine ev_aload_n (i := 0) dX10_lacks_37 rfl rfl ?_
    refine ev_getR dX10_lacks_38 fl_X10_19 sh_0 (by decide) (by decide) rf_0_1 ?_
    refine ex_getI (x := (f 4 1)) dX10_lacks_41 fl_X10_144 sh_4 (by decide) (by decide) rfl ?_
    refine ev_icmp_ge (tgt := 82) dX10_lacks_44 (by decide) (fun c6 => ?_) (fun c6 => ?_)
    · rw [if_pos c6] at h
      refine ev_fg [false, true, false, true, true, false] rfl ?_
      exact SX10_lacks_82  a3 x4 _ h
    · rw [if_neg c6] at h
      refine ev_iload dX10_lacks_47 rfl ?_
      refine ev_aload_n (i := 3) dX10_lacks_49 rfl rfl ?_
      refine ev_iconst dX10_lacks_50 (r32c rfl) ?_
      by_cases g1 : SH[a3]? = some (0, 5)
      · rw [if_pos g1] at h
        refine ex_iald (x := (f a3 2)) dX10_lacks_51 g1 (by decide) (by decide) rfl ?_
        refine ev_icmp_lt (tgt := 76) dX10_lacks_52 (by decide) (fun c5 => ?_) (fun c5 => ?_)
        · rw [if_pos c5] at h
          exact SX10_lacks_76 ih a3 x4 x5 _ h
        · rw [if_neg c5] at h
          refine ev_iload dX10_lacks_55 rfl ?_
          refine ev_aload_n (i := 3) dX10_lacks_57 rfl rfl ?_
          refine ev_iconst dX10_lacks_58 (r32c rfl) ?_
          refine ex_iald (x := (f a3 3)) dX10_lacks_59 g1 (by decide) (by decide) rfl ?_
          refine ev_icmp_gt (tgt := 76) dX10_lacks_60 (by decide) (fun c4 => ?_) (fun c4 => ?_)
          · rw [if_pos c4] at h
            exact SX10_lacks_76 ih a3 x4 x5 _ h
          · rw [if_neg c4] at h
            refine ev_iload dX10_lacks_63 rfl ?_
            refine ev_aload_n (i := 2) dX10_lacks_65 rfl rfl ?_
            refine ev_iload dX10_lacks_66 rfl ?_
            refine ev_cVI (b := 48) (av := [vI x5]) (S := [vI x4]) (fun q => q) h dX10_lacks_68 (fun Q' q => TX1_widthOn x5 _ q) kvX1_widthOn ml_X10_136 sh_48 rfl (RRc (by decide) (by decide)) (Nat.le_of_ble_eq_true rfl) ⟨Nat.le_of_ble_eq_true rfl, Nat.le_of_ble_eq_true rfl⟩ (fun y2 f2 h => ?_)
            refine ev_cSI (av := [vI x4, vI y2]) (S := []) (fun q => q) h dX10_lacks_71 (fun Q' q => TJ9_max_7cf53 x4 y2 _ q) ksJ9_max_7cf53 ml_X10_207 rfl (RRc (by decide) (by decide)) (Nat.le_of_ble_eq_true rfl) ⟨Nat.le_of_ble_eq_true rfl, Nat.le_of_ble_eq_true rfl⟩ (fun y3 f3 h => ?_)
            refine ev_istore (L' := [some (vR 0), none, some (vR 48), some (vR a3), some (vI y3), some (vI x5)]) dX10_lacks_74 (by decide) rfl ?_
            exact SX10_lacks_76 ih a3 y3 x5 _ h
      · rw [if_neg g1] at h; exact h.elim
def FX10_lacks_0  (x1 : Int) (f : Mm) : Option (Int × Mm) := (b2 (FX0_hasCart_4 x1 f) fun y1 f1 => (if y1 = 0 then some ((-2), f1) else ((FX10_asNow f1).bind fun f2 => (if 0 ≤ x1 ∧ x1 < 6 then FX10_lacks_35 fu (12 + x1.toNat) 0 0 f2 else none))))
set_option maxHeartbeats 4000000 in
set_option maxRecDepth 100000 in
theorem SX10_lacks_0 {G : GT} {l : Launch} {Q : Option AV → Mem → Prop}  (x1 : Int) (f : Mm) (h : OkI Q (FX10_lacks_0  x1 f)) : Ev G l MX10_lacks (Rm 6 0 0) (ZM G Q 0 0) 0 0 0 [some (vR 0), some (vI x1), none, none, none, none] [] (SH, RF, f) := by
  unfold FX10_lacks_0 at h
  refine ev_aload_n (i := 0) dX10_lacks_0 rfl rfl ?_
  refine ev_getR dX10_lacks_1 fl_X10_19 sh_0 (by decide) (by decide) rf_0_1 ?_
  refine ev_iload_n (i := 1) dX10_lacks_4 rfl rfl ?_
  refine ev_cVI (b := 4) (av := [vI x1]) (S := []) (fun q => q) h dX10_lacks_5 (fun Q' q => TX0_hasCart_4 x1 _ q) kvX0_hasCart ml_X10_117 sh_4 rfl (RRc (by decide) (by decide)) (Nat.le_of_ble_eq_true rfl) ⟨Nat.le_of_ble_eq_true rfl, Nat.le_of_ble_eq_true rfl⟩ (fun y1 f1 h => ?_)
  refine ev_if_ne (tgt := 14) dX10_lacks_8 (by decide) (fun c4 => ?_) (fun c4 => ?_)
  · rw [if_neg c4] at h
    refine ev_aload_n (i := 0) dX10_lacks_14 rfl rfl ?_
    refine ev_cVC (b := 0) (av := []) (S := []) (fun q => q) h dX10_lacks_15 (fun Q' q => TX10_asNow _ q) kvX10_asNow ml_X10_129 sh_0 rfl (RRc (by decide) (by decide)) (Nat.le_of_ble_eq_true rfl) ⟨Nat.le_of_ble_eq_true rfl, Nat.le_of_ble_eq_true rfl⟩ (fun f2 h => ?_)
    refine ev_astore_n (i := 2) (L' := [some (vR 0), some (vI x1), some (vR 48), none, none, none]) dX10_lacks_18 rfl (by decide) rfl ?_
    refine ev_aload_n (i := 0) dX10_lacks_19 rfl rfl ?_
    refine ev_getR dX10_lacks_20 fl_X10_19 sh_0 (by decide) (by decide) rf_0_1 ?_
    refine ev_getR dX10_lacks_23 fl_X10_120 sh_4 (by decide) (by decide) rf_4_9 ?_
    refine ev_iload_n (i := 1) dX10_lacks_26 rfl rfl ?_
    by_cases g3 : 0 ≤ x1 ∧ x1 < 6
    · rw [if_pos g3] at h
      refine ev_aald (b := (12 + x1.toNat)) dX10_lacks_27 (Or.inl rfl) sh_11 g3.1 g3.2 (rfr_11 g3) ?_
      refine ev_astore_n (i := 3) (L' := [some (vR 0), some (vI x1), some (vR 48), some (vR (12 + x1.toNat)), none, none]) dX10_lacks_28 rfl (by decide) rfl ?_
      refine ev_iconst dX10_lacks_29 (r32c rfl) ?_
      refine ev_istore (L' := [some (vR 0), some (vI x1), some (vR 48), some (vR (12 + x1.toNat)), some (vI 0), none]) dX10_lacks_30 (by decide) rfl ?_
      refine ev_iconst dX10_lacks_32 (r32c rfl) ?_
      refine ev_istore (L' := [some (vR 0), some (vI x1), some (vR 48), some (vR (12 + x1.toNat)), some (vI 0), some (vI 0)]) dX10_lacks_33 (by decide) rfl ?_
      refine ev_fg [true, false, true, true, true, true] rfl ?_
      exact SX10_lacks_35  fu (12 + x1.toNat) 0 0 _ h
    · rw [if_neg g3] at h; exact h.elim
  · rw [if_pos c4] at h
    refine ev_bipush (v := (-2)) dX10_lacks_11 (r32c rfl) (by decide) ?_
    exact ev_iret rfl dX10_lacks_13 h
def FX10_lacks (x1 : Int) (f : Mm) : Option (Int × Mm) := FX10_lacks_0 x1 f
theorem TX10_lacks {G : GT} {l : Launch} {Q : Option AV → Mem → Prop} (x1 : Int) (f : Mm) (h : OkI Q (FX10_lacks x1 f)) : Ret G l MX10_lacks (6) 0 0 [vR 0, vI x1] (SH, RF, f) Q := by
  refine ret_of (L := [some (vR 0), some (vI x1), none, none, none, none]) (by decide) rfl (Nat.le_of_ble_eq_true rfl) ?_
  exact SX10_lacks_0 x1 f h

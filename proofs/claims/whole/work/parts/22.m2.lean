theorem dX11_laysPassed_0 : decode cX11_laysPassed 0 = .ok (.aload_n 0, 1) := by decide +kernel
theorem dX11_laysPassed_1 : decode cX11_laysPassed 1 = .ok (.invokevirtual 301, 3) := by decide +kernel
theorem dX11_laysPassed_4 : decode cX11_laysPassed 4 = .ok (.aload_n 0, 1) := by decide +kernel
theorem dX11_laysPassed_5 : decode cX11_laysPassed 5 = .ok (.invokevirtual 304, 3) := by decide +kernel
theorem dX11_laysPassed_8 : decode cX11_laysPassed 8 = .ok (.aload_n 0, 1) := by decide +kernel
theorem dX11_laysPassed_9 : decode cX11_laysPassed 9 = .ok (.invokevirtual 307, 3) := by decide +kernel
theorem dX11_laysPassed_12 : decode cX11_laysPassed 12 = .ok (.return_, 1) := by decide +kernel
def FX11_laysPassed_0   (f : Mm) : Option Mm := ((FX11_laysNow f).bind fun f1 => ((FX11_byNumbers f1).bind fun f2 => ((FX11_passes f2).bind fun f3 => some f3)))
set_option maxHeartbeats 4000000 in
set_option maxRecDepth 100000 in
theorem SX11_laysPassed_0 {G : GT} {l : Launch} {Q : Option AV → Mem → Prop}   (f : Mm) (h : OkV Q (FX11_laysPassed_0   f)) : Ev G l MX11_laysPassed (Rm 6 0 0) (ZM G Q 0 0) 0 0 0 [some (vR 150)] [] (SH, RF, f) := by
  unfold FX11_laysPassed_0 at h
  refine ev_aload_n (i := 0) dX11_laysPassed_0 rfl rfl ?_
  refine ev_cVV (b := 150) (av := []) (S := []) (fun q => q) h dX11_laysPassed_1 (fun Q' q => TX11_laysNow _ q) kvX11_laysNow ml_X11_301 sh_150 rfl (RRc (by decide) (by decide)) (Nat.le_of_ble_eq_true rfl) ⟨Nat.le_of_ble_eq_true rfl, Nat.le_of_ble_eq_true rfl⟩ (fun f1 h => ?_)
  refine ev_aload_n (i := 0) dX11_laysPassed_4 rfl rfl ?_
  refine ev_cVV (b := 150) (av := []) (S := []) (fun q => q) h dX11_laysPassed_5 (fun Q' q => TX11_byNumbers _ q) kvX11_byNumbers ml_X11_304 sh_150 rfl (RRc (by decide) (by decide)) (Nat.le_of_ble_eq_true rfl) ⟨Nat.le_of_ble_eq_true rfl, Nat.le_of_ble_eq_true rfl⟩ (fun f2 h => ?_)
  refine ev_aload_n (i := 0) dX11_laysPassed_8 rfl rfl ?_
  refine ev_cVV (b := 150) (av := []) (S := []) (fun q => q) h dX11_laysPassed_9 (fun Q' q => TX11_passes _ q) kvX11_passes ml_X11_307 sh_150 rfl (RRc (by decide) (by decide)) (Nat.le_of_ble_eq_true rfl) ⟨Nat.le_of_ble_eq_true rfl, Nat.le_of_ble_eq_true rfl⟩ (fun f3 h => ?_)
  exact ev_vret rfl dX11_laysPassed_12 h
def FX11_laysPassed  (f : Mm) : Option Mm := FX11_laysPassed_0  f
set_option maxRecDepth 100000 in
theorem TX11_laysPassed {G : GT} {l : Launch} {Q : Option AV → Mem → Prop}  (f : Mm) (h : OkV Q (FX11_laysPassed  f)) : Ret G l MX11_laysPassed (6) 0 0 [vR 150] (SH, RF, f) Q := by
  refine ret_of (L := [some (vR 150)]) (by decide) rfl (Nat.le_of_ble_eq_true rfl) ?_
  exact SX11_laysPassed_0  f h
theorem dX11_isInTime_0 : decode cX11_isInTime 0 = .ok (.aload_n 0, 1) := by decide +kernel
theorem dX11_isInTime_1 : decode cX11_isInTime 1 = .ok (.getfield 65, 3) := by decide +kernel
theorem dX11_isInTime_4 : decode cX11_isInTime 4 = .ok (.iload_n 1, 1) := by decide +kernel
theorem dX11_isInTime_5 : decode cX11_isInTime 5 = .ok (.iaload, 1) := by decide +kernel
theorem dX11_isInTime_6 : decode cX11_isInTime 6 = .ok (.iconst (-1), 1) := by decide +kernel
theorem dX11_isInTime_7 : decode cX11_isInTime 7 = .ok (.if_icmp .eq 26, 3) := by decide +kernel
theorem dX11_isInTime_33 : decode cX11_isInTime 33 = .ok (.iconst 0, 1) := by decide +kernel
theorem dX11_isInTime_34 : decode cX11_isInTime 34 = .ok (.ireturn, 1) := by decide +kernel
theorem dX11_isInTime_10 : decode cX11_isInTime 10 = .ok (.aload_n 0, 1) := by decide +kernel
theorem dX11_isInTime_11 : decode cX11_isInTime 11 = .ok (.getfield 65, 3) := by decide +kernel
theorem dX11_isInTime_14 : decode cX11_isInTime 14 = .ok (.iload_n 1, 1) := by decide +kernel
theorem dX11_isInTime_15 : decode cX11_isInTime 15 = .ok (.iaload, 1) := by decide +kernel
theorem dX11_isInTime_16 : decode cX11_isInTime 16 = .ok (.aload_n 0, 1) := by decide +kernel
theorem dX11_isInTime_17 : decode cX11_isInTime 17 = .ok (.getfield 40, 3) := by decide +kernel
theorem dX11_isInTime_20 : decode cX11_isInTime 20 = .ok (.iconst 5, 1) := by decide +kernel
theorem dX11_isInTime_21 : decode cX11_isInTime 21 = .ok (.iload_n 1, 1) := by decide +kernel
theorem dX11_isInTime_22 : decode cX11_isInTime 22 = .ok (.imul, 1) := by decide +kernel
theorem dX11_isInTime_23 : decode cX11_isInTime 23 = .ok (.iconst 3, 1) := by decide +kernel
theorem dX11_isInTime_24 : decode cX11_isInTime 24 = .ok (.iadd, 1) := by decide +kernel
theorem dX11_isInTime_25 : decode cX11_isInTime 25 = .ok (.iaload, 1) := by decide +kernel
theorem dX11_isInTime_26 : decode cX11_isInTime 26 = .ok (.if_icmp .gt 7, 3) := by decide +kernel
theorem dX11_isInTime_29 : decode cX11_isInTime 29 = .ok (.iconst 1, 1) := by decide +kernel
theorem dX11_isInTime_30 : decode cX11_isInTime 30 = .ok (.goto 4, 3) := by decide +kernel
def FX11_isInTime_0  (x1 : Int) (f : Mm) : Option (Int × Mm) := (if 0 ≤ x1 ∧ x1 < 6 then (if (f 167 x1.toNat) = (-1) then some (0, f) else (if 0 ≤ x1 ∧ x1 < 6 then (if 0 ≤ (w32 ((w32 (5 * x1)) + 3)) ∧ (w32 ((w32 (5 * x1)) + 3)) < 150 then (if (f 159 (w32 ((w32 (5 * x1)) + 3)).toNat) < (f 167 x1.toNat) then some (0, f) else some (1, f)) else none) else none)) else none)
set_option maxHeartbeats 4000000 in
set_option maxRecDepth 100000 in
theorem SX11_isInTime_0 {G : GT} {l : Launch} {Q : Option AV → Mem → Prop}  (x1 : Int) (f : Mm) (h : OkI Q (FX11_isInTime_0  x1 f)) : Ev G l MX11_isInTime (Rm 1 0 0) (ZM G Q 0 0) 0 0 0 [some (vR 150), some (vI x1)] [] (SH, RF, f) := by
  unfold FX11_isInTime_0 at h
  refine ev_aload_n (i := 0) dX11_isInTime_0 rfl rfl ?_
  refine ev_getR dX11_isInTime_1 fl_X11_65 sh_150 (by decide) (by decide) rf_150_29 ?_
  refine ev_iload_n (i := 1) dX11_isInTime_4 rfl rfl ?_
  by_cases g1 : 0 ≤ x1 ∧ x1 < 6
  · rw [if_pos g1] at h
    refine ex_iald (x := (f 167 x1.toNat)) dX11_isInTime_5 sh_167 g1.1 g1.2 rfl ?_
    refine ev_iconst dX11_isInTime_6 (r32c rfl) ?_
    refine ev_icmp_eq (tgt := 33) dX11_isInTime_7 (by decide) (fun c5 => ?_) (fun c5 => ?_)
    · rw [if_pos c5] at h
      refine ev_iconst dX11_isInTime_33 (r32c rfl) ?_
      exact ev_zret rfl (by decide) dX11_isInTime_34 h
    · rw [if_neg c5] at h
      refine ev_aload_n (i := 0) dX11_isInTime_10 rfl rfl ?_
      refine ev_getR dX11_isInTime_11 fl_X11_65 sh_150 (by decide) (by decide) rf_150_29 ?_
      refine ev_iload_n (i := 1) dX11_isInTime_14 rfl rfl ?_
      by_cases g2 : 0 ≤ x1 ∧ x1 < 6
      · rw [if_pos g2] at h
        refine ex_iald (x := (f 167 x1.toNat)) dX11_isInTime_15 sh_167 g2.1 g2.2 rfl ?_
        refine ev_aload_n (i := 0) dX11_isInTime_16 rfl rfl ?_
        refine ev_getR dX11_isInTime_17 fl_X11_40 sh_150 (by decide) (by decide) rf_150_19 ?_
        refine ev_iconst dX11_isInTime_20 (r32c rfl) ?_
        refine ev_iload_n (i := 1) dX11_isInTime_21 rfl rfl ?_
        refine ev_imul dX11_isInTime_22 ?_
        refine ev_iconst dX11_isInTime_23 (r32c rfl) ?_
        refine ev_iadd dX11_isInTime_24 ?_
        by_cases g3 : 0 ≤ (w32 ((w32 (5 * x1)) + 3)) ∧ (w32 ((w32 (5 * x1)) + 3)) < 150
        · rw [if_pos g3] at h
          refine ex_iald (x := (f 159 (w32 ((w32 (5 * x1)) + 3)).toNat)) dX11_isInTime_25 sh_159 g3.1 g3.2 rfl ?_
          refine ev_icmp_gt (tgt := 33) dX11_isInTime_26 (by decide) (fun c4 => ?_) (fun c4 => ?_)
          · rw [if_pos c4] at h
            refine ev_iconst dX11_isInTime_33 (r32c rfl) ?_
            exact ev_zret rfl (by decide) dX11_isInTime_34 h
          · rw [if_neg c4] at h
            refine ev_iconst dX11_isInTime_29 (r32c rfl) ?_
            refine ev_goto (tgt := 34) dX11_isInTime_30 (by decide) ?_
            exact ev_zret rfl (by decide) dX11_isInTime_34 h
        · rw [if_neg g3] at h; exact h.elim
      · rw [if_neg g2] at h; exact h.elim
  · rw [if_neg g1] at h; exact h.elim
def FX11_isInTime (x1 : Int) (f : Mm) : Option (Int × Mm) := FX11_isInTime_0 x1 f
set_option maxRecDepth 100000 in
theorem TX11_isInTime {G : GT} {l : Launch} {Q : Option AV → Mem → Prop} (x1 : Int) (f : Mm) (h : OkI Q (FX11_isInTime x1 f)) : Ret G l MX11_isInTime (1) 0 0 [vR 150, vI x1] (SH, RF, f) Q := by
  refine ret_of (L := [some (vR 150), some (vI x1)]) (by decide) rfl (Nat.le_of_ble_eq_true rfl) ?_
  exact SX11_isInTime_0 x1 f h
theorem dX11_keptNow_28 : decode cX11_keptNow 28 = .ok (.ior, 1) := by decide +kernel
theorem dX11_keptNow_29 : decode cX11_keptNow 29 = .ok (.istore_n 1, 1) := by decide +kernel
theorem dX11_keptNow_30 : decode cX11_keptNow 30 = .ok (.iinc 2 1, 3) := by decide +kernel
theorem dX11_keptNow_33 : decode cX11_keptNow 33 = .ok (.goto (-29), 3) := by decide +kernel
theorem dX11_keptNow_4 : decode cX11_keptNow 4 = .ok (.iload_n 2, 1) := by decide +kernel
theorem dX11_keptNow_5 : decode cX11_keptNow 5 = .ok (.aload_n 0, 1) := by decide +kernel
theorem dX11_keptNow_6 : decode cX11_keptNow 6 = .ok (.invokevirtual 269, 3) := by decide +kernel
theorem dX11_keptNow_9 : decode cX11_keptNow 9 = .ok (.if_icmp .ge 27, 3) := by decide +kernel
theorem dX11_keptNow_36 : decode cX11_keptNow 36 = .ok (.iload_n 1, 1) := by decide +kernel
theorem dX11_keptNow_37 : decode cX11_keptNow 37 = .ok (.ireturn, 1) := by decide +kernel
theorem dX11_keptNow_12 : decode cX11_keptNow 12 = .ok (.iload_n 1, 1) := by decide +kernel
theorem dX11_keptNow_13 : decode cX11_keptNow 13 = .ok (.aload_n 0, 1) := by decide +kernel
theorem dX11_keptNow_14 : decode cX11_keptNow 14 = .ok (.iload_n 2, 1) := by decide +kernel
theorem dX11_keptNow_15 : decode cX11_keptNow 15 = .ok (.invokevirtual 310, 3) := by decide +kernel
theorem dX11_keptNow_18 : decode cX11_keptNow 18 = .ok (.ifCond .eq 9, 3) := by decide +kernel
theorem dX11_keptNow_27 : decode cX11_keptNow 27 = .ok (.iconst 0, 1) := by decide +kernel
theorem dX11_keptNow_21 : decode cX11_keptNow 21 = .ok (.iconst 1, 1) := by decide +kernel
theorem dX11_keptNow_22 : decode cX11_keptNow 22 = .ok (.iload_n 2, 1) := by decide +kernel
theorem dX11_keptNow_23 : decode cX11_keptNow 23 = .ok (.ishl, 1) := by decide +kernel
theorem dX11_keptNow_24 : decode cX11_keptNow 24 = .ok (.goto 4, 3) := by decide +kernel
theorem dX11_keptNow_0 : decode cX11_keptNow 0 = .ok (.iconst 0, 1) := by decide +kernel
theorem dX11_keptNow_1 : decode cX11_keptNow 1 = .ok (.istore_n 1, 1) := by decide +kernel
theorem dX11_keptNow_2 : decode cX11_keptNow 2 = .ok (.iconst 0, 1) := by decide +kernel
theorem dX11_keptNow_3 : decode cX11_keptNow 3 = .ok (.istore_n 2, 1) := by decide +kernel
def FX11_keptNow_28 (k4 : Int → Int → Mm → Option (Int × Mm)) (x2 : Int) (s0 : Int) (s1 : Int) (f : Mm) : Option (Int × Mm) := k4 (bOr s0 s1) (w32 (x2 + 1)) f
set_option maxHeartbeats 4000000 in
set_option maxRecDepth 100000 in
theorem SX11_keptNow_28 {G : GT} {l : Launch} {Q : Option AV → Mem → Prop} {k4 : Int → Int → Mm → Option (Int × Mm)} (q4 : ∀ (x1 : Int) (x2 : Int) (f : Mm), OkI Q (k4 x1 x2 f) → Ev G l MX11_keptNow (Rm 2 0 0) (ZM G Q 0 0) 0 0 4 [some (vR 150), some (vI x1), some (vI x2)] [] (SH, RF, f)) (x2 : Int) (s0 : Int) (s1 : Int) (f : Mm) (h : OkI Q (FX11_keptNow_28 k4 x2 s0 s1 f)) : Ev G l MX11_keptNow (Rm 2 0 0) (ZM G Q 0 0) 0 0 28 [some (vR 150), none, some (vI x2)] [vI s1, vI s0] (SH, RF, f) := by
  unfold FX11_keptNow_28 at h
  refine ev_ior dX11_keptNow_28 ?_
  refine ev_istore_n (i := 1) (L' := [some (vR 150), some (vI (bOr s0 s1)), some (vI x2)]) dX11_keptNow_29 rfl (by decide) rfl ?_
  refine ev_iinc (L' := [some (vR 150), some (vI (bOr s0 s1)), some (vI (w32 (x2 + 1)))]) dX11_keptNow_30 rfl (by decide) rfl ?_
  refine ev_goto (tgt := 4) dX11_keptNow_33 (by decide) ?_
  exact q4 (bOr s0 s1) (w32 (x2 + 1)) _ h
def FX11_keptNow_4  : Nat → Int → Int → Mm → Option (Int × Mm)
  | 0, _, _, _ => none
  | n + 1, x1, x2, f => (b2 (FX11_carts f) fun y1 f1 => (if y1 ≤ x2 then some (x1, f1) else (b2 (FX11_isInTime x2 f1) fun y2 f2 => (if y2 = 0 then FX11_keptNow_28 (FX11_keptNow_4 n) x2 x1 0 f2 else FX11_keptNow_28 (FX11_keptNow_4 n) x2 x1 (bShl 1 x2) f2))))
set_option maxHeartbeats 4000000 in
set_option maxRecDepth 100000 in
theorem SX11_keptNow_4 {G : GT} {l : Launch} {Q : Option AV → Mem → Prop}  : ∀ (n : Nat) (x1 : Int) (x2 : Int) (f : Mm), OkI Q (FX11_keptNow_4  n x1 x2 f) → Ev G l MX11_keptNow (Rm 2 0 0) (ZM G Q 0 0) 0 0 4 [some (vR 150), some (vI x1), some (vI x2)] [] (SH, RF, f) := by
  intro n
  induction n with
  | zero => intro x1 x2 f h; exact absurd h (by rw [FX11_keptNow_4]; exact fun q => q)
  | succ n ih =>
    intro x1 x2 f h
    rw [FX11_keptNow_4] at h
    refine ev_iload_n (i := 2) dX11_keptNow_4 rfl rfl ?_
    refine ev_aload_n (i := 0) dX11_keptNow_5 rfl rfl ?_
    refine ev_cVI (b := 150) (av := []) (S := [vI x2]) (fun q => q) h dX11_keptNow_6 (fun Q' q => TX11_carts _ q) kvX11_carts ml_X11_269 sh_150 rfl (RRc (by decide) (by decide)) (Nat.le_of_ble_eq_true rfl) ⟨Nat.le_of_ble_eq_true rfl, Nat.le_of_ble_eq_true rfl⟩ (fun y1 f1 h => ?_)
    refine ev_icmp_ge (tgt := 36) dX11_keptNow_9 (by decide) (fun c4 => ?_) (fun c4 => ?_)
    · rw [if_pos c4] at h
      refine ev_iload_n (i := 1) dX11_keptNow_36 rfl rfl ?_
      exact ev_iret rfl dX11_keptNow_37 h
    · rw [if_neg c4] at h
      refine ev_iload_n (i := 1) dX11_keptNow_12 rfl rfl ?_
      refine ev_aload_n (i := 0) dX11_keptNow_13 rfl rfl ?_
      refine ev_iload_n (i := 2) dX11_keptNow_14 rfl rfl ?_
      refine ev_cVI (b := 150) (av := [vI x2]) (S := [vI x1]) (fun q => q) h dX11_keptNow_15 (fun Q' q => TX11_isInTime x2 _ q) kvX11_isInTime ml_X11_310 sh_150 rfl (RRc (by decide) (by decide)) (Nat.le_of_ble_eq_true rfl) ⟨Nat.le_of_ble_eq_true rfl, Nat.le_of_ble_eq_true rfl⟩ (fun y2 f2 h => ?_)
      refine ev_if_eq (tgt := 27) dX11_keptNow_18 (by decide) (fun c3 => ?_) (fun c3 => ?_)
      · rw [if_pos c3] at h
        refine ev_iconst dX11_keptNow_27 (r32c rfl) ?_
        refine ev_fg [true, false, true] rfl ?_
        exact SX11_keptNow_28 ih x2 x1 0 _ h
      · rw [if_neg c3] at h
        refine ev_iconst dX11_keptNow_21 (r32c rfl) ?_
        refine ev_iload_n (i := 2) dX11_keptNow_22 rfl rfl ?_
        refine ev_ishl dX11_keptNow_23 ?_
        refine ev_goto (tgt := 28) dX11_keptNow_24 (by decide) ?_
        refine ev_fg [true, false, true] rfl ?_
        exact SX11_keptNow_28 ih x2 x1 (bShl 1 x2) _ h
def FX11_keptNow_0   (f : Mm) : Option (Int × Mm) := FX11_keptNow_4 fu 0 0 f
set_option maxHeartbeats 4000000 in
set_option maxRecDepth 100000 in
theorem SX11_keptNow_0 {G : GT} {l : Launch} {Q : Option AV → Mem → Prop}   (f : Mm) (h : OkI Q (FX11_keptNow_0   f)) : Ev G l MX11_keptNow (Rm 2 0 0) (ZM G Q 0 0) 0 0 0 [some (vR 150), none, none] [] (SH, RF, f) := by
  unfold FX11_keptNow_0 at h
  refine ev_iconst dX11_keptNow_0 (r32c rfl) ?_
  refine ev_istore_n (i := 1) (L' := [some (vR 150), some (vI 0), none]) dX11_keptNow_1 rfl (by decide) rfl ?_
  refine ev_iconst dX11_keptNow_2 (r32c rfl) ?_
  refine ev_istore_n (i := 2) (L' := [some (vR 150), some (vI 0), some (vI 0)]) dX11_keptNow_3 rfl (by decide) rfl ?_
  exact SX11_keptNow_4  fu 0 0 _ h
def FX11_keptNow  (f : Mm) : Option (Int × Mm) := FX11_keptNow_0  f
set_option maxRecDepth 100000 in
theorem TX11_keptNow {G : GT} {l : Launch} {Q : Option AV → Mem → Prop}  (f : Mm) (h : OkI Q (FX11_keptNow  f)) : Ret G l MX11_keptNow (2) 0 0 [vR 150] (SH, RF, f) Q := by
  refine ret_of (L := [some (vR 150), none, none]) (by decide) rfl (Nat.le_of_ble_eq_true rfl) ?_
  exact SX11_keptNow_0  f h
theorem dX11_payOf_35 : decode cX11_payOf 35 = .ok (.iadd, 1) := by decide +kernel
theorem dX11_payOf_36 : decode cX11_payOf 36 = .ok (.istore_n 2, 1) := by decide +kernel
theorem dX11_payOf_37 : decode cX11_payOf 37 = .ok (.iinc 3 1, 3) := by decide +kernel
theorem dX11_payOf_40 : decode cX11_payOf 40 = .ok (.goto (-36), 3) := by decide +kernel
theorem dX11_payOf_4 : decode cX11_payOf 4 = .ok (.iload_n 3, 1) := by decide +kernel
theorem dX11_payOf_5 : decode cX11_payOf 5 = .ok (.aload_n 0, 1) := by decide +kernel
theorem dX11_payOf_6 : decode cX11_payOf 6 = .ok (.invokevirtual 269, 3) := by decide +kernel
theorem dX11_payOf_9 : decode cX11_payOf 9 = .ok (.if_icmp .ge 34, 3) := by decide +kernel
theorem dX11_payOf_43 : decode cX11_payOf 43 = .ok (.iload_n 2, 1) := by decide +kernel
theorem dX11_payOf_44 : decode cX11_payOf 44 = .ok (.ireturn, 1) := by decide +kernel
theorem dX11_payOf_12 : decode cX11_payOf 12 = .ok (.iload_n 2, 1) := by decide +kernel
theorem dX11_payOf_13 : decode cX11_payOf 13 = .ok (.iload_n 1, 1) := by decide +kernel
theorem dX11_payOf_14 : decode cX11_payOf 14 = .ok (.iload_n 3, 1) := by decide +kernel
theorem dX11_payOf_15 : decode cX11_payOf 15 = .ok (.invokestatic 289, 3) := by decide +kernel
theorem dX11_payOf_18 : decode cX11_payOf 18 = .ok (.ifCond .eq 16, 3) := by decide +kernel
theorem dX11_payOf_34 : decode cX11_payOf 34 = .ok (.iconst 0, 1) := by decide +kernel
theorem dX11_payOf_21 : decode cX11_payOf 21 = .ok (.aload_n 0, 1) := by decide +kernel
theorem dX11_payOf_22 : decode cX11_payOf 22 = .ok (.getfield 40, 3) := by decide +kernel
theorem dX11_payOf_25 : decode cX11_payOf 25 = .ok (.iconst 5, 1) := by decide +kernel
theorem dX11_payOf_26 : decode cX11_payOf 26 = .ok (.iload_n 3, 1) := by decide +kernel
theorem dX11_payOf_27 : decode cX11_payOf 27 = .ok (.imul, 1) := by decide +kernel
theorem dX11_payOf_28 : decode cX11_payOf 28 = .ok (.iconst 4, 1) := by decide +kernel
theorem dX11_payOf_29 : decode cX11_payOf 29 = .ok (.iadd, 1) := by decide +kernel
theorem dX11_payOf_30 : decode cX11_payOf 30 = .ok (.iaload, 1) := by decide +kernel
theorem dX11_payOf_31 : decode cX11_payOf 31 = .ok (.goto 4, 3) := by decide +kernel
theorem dX11_payOf_0 : decode cX11_payOf 0 = .ok (.iconst 0, 1) := by decide +kernel
theorem dX11_payOf_1 : decode cX11_payOf 1 = .ok (.istore_n 2, 1) := by decide +kernel
theorem dX11_payOf_2 : decode cX11_payOf 2 = .ok (.iconst 0, 1) := by decide +kernel
theorem dX11_payOf_3 : decode cX11_payOf 3 = .ok (.istore_n 3, 1) := by decide +kernel
def FX11_payOf_35 (k4 : Int → Int → Int → Mm → Option (Int × Mm)) (x1 : Int) (x3 : Int) (s0 : Int) (s1 : Int) (f : Mm) : Option (Int × Mm) := k4 x1 (w32 (s0 + s1)) (w32 (x3 + 1)) f
set_option maxHeartbeats 4000000 in
set_option maxRecDepth 100000 in
theorem SX11_payOf_35 {G : GT} {l : Launch} {Q : Option AV → Mem → Prop} {k4 : Int → Int → Int → Mm → Option (Int × Mm)} (q4 : ∀ (x1 : Int) (x2 : Int) (x3 : Int) (f : Mm), OkI Q (k4 x1 x2 x3 f) → Ev G l MX11_payOf (Rm 2 0 0) (ZM G Q 0 0) 0 0 4 [some (vR 150), some (vI x1), some (vI x2), some (vI x3)] [] (SH, RF, f)) (x1 : Int) (x3 : Int) (s0 : Int) (s1 : Int) (f : Mm) (h : OkI Q (FX11_payOf_35 k4 x1 x3 s0 s1 f)) : Ev G l MX11_payOf (Rm 2 0 0) (ZM G Q 0 0) 0 0 35 [some (vR 150), some (vI x1), none, some (vI x3)] [vI s1, vI s0] (SH, RF, f) := by
  unfold FX11_payOf_35 at h
  refine ev_iadd dX11_payOf_35 ?_
  refine ev_istore_n (i := 2) (L' := [some (vR 150), some (vI x1), some (vI (w32 (s0 + s1))), some (vI x3)]) dX11_payOf_36 rfl (by decide) rfl ?_
  refine ev_iinc (L' := [some (vR 150), some (vI x1), some (vI (w32 (s0 + s1))), some (vI (w32 (x3 + 1)))]) dX11_payOf_37 rfl (by decide) rfl ?_
  refine ev_goto (tgt := 4) dX11_payOf_40 (by decide) ?_
  exact q4 x1 (w32 (s0 + s1)) (w32 (x3 + 1)) _ h
def FX11_payOf_4  : Nat → Int → Int → Int → Mm → Option (Int × Mm)
  | 0, _, _, _, _ => none
  | n + 1, x1, x2, x3, f => (b2 (FX11_carts f) fun y1 f1 => (if y1 ≤ x3 then some (x2, f1) else (b2 (FX11_isBit x1 x3 f1) fun y2 f2 => (if y2 = 0 then FX11_payOf_35 (FX11_payOf_4 n) x1 x3 x2 0 f2 else (if 0 ≤ (w32 ((w32 (5 * x3)) + 4)) ∧ (w32 ((w32 (5 * x3)) + 4)) < 150 then FX11_payOf_35 (FX11_payOf_4 n) x1 x3 x2 (f2 159 (w32 ((w32 (5 * x3)) + 4)).toNat) f2 else none)))))
set_option maxHeartbeats 4000000 in
set_option maxRecDepth 100000 in
theorem SX11_payOf_4 {G : GT} {l : Launch} {Q : Option AV → Mem → Prop}  : ∀ (n : Nat) (x1 : Int) (x2 : Int) (x3 : Int) (f : Mm), OkI Q (FX11_payOf_4  n x1 x2 x3 f) → Ev G l MX11_payOf (Rm 2 0 0) (ZM G Q 0 0) 0 0 4 [some (vR 150), some (vI x1), some (vI x2), some (vI x3)] [] (SH, RF, f) := by
  intro n
  induction n with
  | zero => intro x1 x2 x3 f h; exact absurd h (by rw [FX11_payOf_4]; exact fun q => q)
  | succ n ih =>
    intro x1 x2 x3 f h
    rw [FX11_payOf_4] at h
    refine ev_iload_n (i := 3) dX11_payOf_4 rfl rfl ?_
    refine ev_aload_n (i := 0) dX11_payOf_5 rfl rfl ?_
    refine ev_cVI (b := 150) (av := []) (S := [vI x3]) (fun q => q) h dX11_payOf_6 (fun Q' q => TX11_carts _ q) kvX11_carts ml_X11_269 sh_150 rfl (RRc (by decide) (by decide)) (Nat.le_of_ble_eq_true rfl) ⟨Nat.le_of_ble_eq_true rfl, Nat.le_of_ble_eq_true rfl⟩ (fun y1 f1 h => ?_)
    refine ev_icmp_ge (tgt := 43) dX11_payOf_9 (by decide) (fun c5 => ?_) (fun c5 => ?_)
    · rw [if_pos c5] at h
      refine ev_iload_n (i := 2) dX11_payOf_43 rfl rfl ?_
      exact ev_iret rfl dX11_payOf_44 h
    · rw [if_neg c5] at h
      refine ev_iload_n (i := 2) dX11_payOf_12 rfl rfl ?_
      refine ev_iload_n (i := 1) dX11_payOf_13 rfl rfl ?_
      refine ev_iload_n (i := 3) dX11_payOf_14 rfl rfl ?_
      refine ev_cSI (av := [vI x1, vI x3]) (S := [vI x2]) (fun q => q) h dX11_payOf_15 (fun Q' q => TX11_isBit x1 x3 _ q) ksX11_isBit ml_X11_289 rfl (RRc (by decide) (by decide)) (Nat.le_of_ble_eq_true rfl) ⟨Nat.le_of_ble_eq_true rfl, Nat.le_of_ble_eq_true rfl⟩ (fun y2 f2 h => ?_)
      refine ev_if_eq (tgt := 34) dX11_payOf_18 (by decide) (fun c4 => ?_) (fun c4 => ?_)
      · rw [if_pos c4] at h
        refine ev_iconst dX11_payOf_34 (r32c rfl) ?_
        refine ev_fg [true, true, false, true] rfl ?_
        exact SX11_payOf_35 ih x1 x3 x2 0 _ h
      · rw [if_neg c4] at h
        refine ev_aload_n (i := 0) dX11_payOf_21 rfl rfl ?_
        refine ev_getR dX11_payOf_22 fl_X11_40 sh_150 (by decide) (by decide) rf_150_19 ?_
        refine ev_iconst dX11_payOf_25 (r32c rfl) ?_
        refine ev_iload_n (i := 3) dX11_payOf_26 rfl rfl ?_
        refine ev_imul dX11_payOf_27 ?_
        refine ev_iconst dX11_payOf_28 (r32c rfl) ?_
        refine ev_iadd dX11_payOf_29 ?_
        by_cases g3 : 0 ≤ (w32 ((w32 (5 * x3)) + 4)) ∧ (w32 ((w32 (5 * x3)) + 4)) < 150
        · rw [if_pos g3] at h
          refine ex_iald (x := (f2 159 (w32 ((w32 (5 * x3)) + 4)).toNat)) dX11_payOf_30 sh_159 g3.1 g3.2 rfl ?_
          refine ev_goto (tgt := 35) dX11_payOf_31 (by decide) ?_
          refine ev_fg [true, true, false, true] rfl ?_
          exact SX11_payOf_35 ih x1 x3 x2 (f2 159 (w32 ((w32 (5 * x3)) + 4)).toNat) _ h
        · rw [if_neg g3] at h; exact h.elim
def FX11_payOf_0  (x1 : Int) (f : Mm) : Option (Int × Mm) := FX11_payOf_4 fu x1 0 0 f
set_option maxHeartbeats 4000000 in
set_option maxRecDepth 100000 in
theorem SX11_payOf_0 {G : GT} {l : Launch} {Q : Option AV → Mem → Prop}  (x1 : Int) (f : Mm) (h : OkI Q (FX11_payOf_0  x1 f)) : Ev G l MX11_payOf (Rm 2 0 0) (ZM G Q 0 0) 0 0 0 [some (vR 150), some (vI x1), none, none] [] (SH, RF, f) := by
  unfold FX11_payOf_0 at h
  refine ev_iconst dX11_payOf_0 (r32c rfl) ?_
  refine ev_istore_n (i := 2) (L' := [some (vR 150), some (vI x1), some (vI 0), none]) dX11_payOf_1 rfl (by decide) rfl ?_
  refine ev_iconst dX11_payOf_2 (r32c rfl) ?_
  refine ev_istore_n (i := 3) (L' := [some (vR 150), some (vI x1), some (vI 0), some (vI 0)]) dX11_payOf_3 rfl (by decide) rfl ?_
  exact SX11_payOf_4  fu x1 0 0 _ h
def FX11_payOf (x1 : Int) (f : Mm) : Option (Int × Mm) := FX11_payOf_0 x1 f
set_option maxRecDepth 100000 in
theorem TX11_payOf {G : GT} {l : Launch} {Q : Option AV → Mem → Prop} (x1 : Int) (f : Mm) (h : OkI Q (FX11_payOf x1 f)) : Ret G l MX11_payOf (2) 0 0 [vR 150, vI x1] (SH, RF, f) Q := by
  refine ret_of (L := [some (vR 150), some (vI x1), none, none]) (by decide) rfl (Nat.le_of_ble_eq_true rfl) ?_
  exact SX11_payOf_0 x1 f h
theorem dX11_costNow_42 : decode cX11_costNow 42 = .ok (.iadd, 1) := by decide +kernel
theorem dX11_costNow_43 : decode cX11_costNow 43 = .ok (.istore_n 1, 1) := by decide +kernel
theorem dX11_costNow_44 : decode cX11_costNow 44 = .ok (.iinc 2 1, 3) := by decide +kernel
theorem dX11_costNow_47 : decode cX11_costNow 47 = .ok (.goto (-43), 3) := by decide +kernel
theorem dX11_costNow_4 : decode cX11_costNow 4 = .ok (.iload_n 2, 1) := by decide +kernel
theorem dX11_costNow_5 : decode cX11_costNow 5 = .ok (.aload_n 0, 1) := by decide +kernel
theorem dX11_costNow_6 : decode cX11_costNow 6 = .ok (.invokevirtual 266, 3) := by decide +kernel
theorem dX11_costNow_9 : decode cX11_costNow 9 = .ok (.if_icmp .ge 41, 3) := by decide +kernel
theorem dX11_costNow_50 : decode cX11_costNow 50 = .ok (.iload_n 1, 1) := by decide +kernel
theorem dX11_costNow_51 : decode cX11_costNow 51 = .ok (.ireturn, 1) := by decide +kernel
theorem dX11_costNow_12 : decode cX11_costNow 12 = .ok (.iload_n 1, 1) := by decide +kernel
theorem dX11_costNow_13 : decode cX11_costNow 13 = .ok (.aload_n 0, 1) := by decide +kernel
theorem dX11_costNow_14 : decode cX11_costNow 14 = .ok (.getfield 50, 3) := by decide +kernel
theorem dX11_costNow_17 : decode cX11_costNow 17 = .ok (.iload_n 2, 1) := by decide +kernel
theorem dX11_costNow_18 : decode cX11_costNow 18 = .ok (.iaload, 1) := by decide +kernel
theorem dX11_costNow_19 : decode cX11_costNow 19 = .ok (.iconst (-1), 1) := by decide +kernel
theorem dX11_costNow_20 : decode cX11_costNow 20 = .ok (.if_icmp .ne 7, 3) := by decide +kernel
theorem dX11_costNow_27 : decode cX11_costNow 27 = .ok (.aload_n 0, 1) := by decide +kernel
theorem dX11_costNow_28 : decode cX11_costNow 28 = .ok (.getfield 37, 3) := by decide +kernel
theorem dX11_costNow_31 : decode cX11_costNow 31 = .ok (.iconst 4, 1) := by decide +kernel
theorem dX11_costNow_32 : decode cX11_costNow 32 = .ok (.aload_n 0, 1) := by decide +kernel
theorem dX11_costNow_33 : decode cX11_costNow 33 = .ok (.getfield 50, 3) := by decide +kernel
theorem dX11_costNow_36 : decode cX11_costNow 36 = .ok (.iload_n 2, 1) := by decide +kernel
theorem dX11_costNow_37 : decode cX11_costNow 37 = .ok (.iaload, 1) := by decide +kernel
theorem dX11_costNow_38 : decode cX11_costNow 38 = .ok (.imul, 1) := by decide +kernel
theorem dX11_costNow_39 : decode cX11_costNow 39 = .ok (.iconst 1, 1) := by decide +kernel
theorem dX11_costNow_40 : decode cX11_costNow 40 = .ok (.iadd, 1) := by decide +kernel
theorem dX11_costNow_41 : decode cX11_costNow 41 = .ok (.iaload, 1) := by decide +kernel
theorem dX11_costNow_23 : decode cX11_costNow 23 = .ok (.iconst 0, 1) := by decide +kernel
theorem dX11_costNow_24 : decode cX11_costNow 24 = .ok (.goto 18, 3) := by decide +kernel
theorem dX11_costNow_0 : decode cX11_costNow 0 = .ok (.iconst 0, 1) := by decide +kernel
theorem dX11_costNow_1 : decode cX11_costNow 1 = .ok (.istore_n 1, 1) := by decide +kernel
theorem dX11_costNow_2 : decode cX11_costNow 2 = .ok (.iconst 0, 1) := by decide +kernel
theorem dX11_costNow_3 : decode cX11_costNow 3 = .ok (.istore_n 2, 1) := by decide +kernel
def FX11_costNow_42 (k4 : Int → Int → Mm → Option (Int × Mm)) (x2 : Int) (s0 : Int) (s1 : Int) (f : Mm) : Option (Int × Mm) := k4 (w32 (s0 + s1)) (w32 (x2 + 1)) f
set_option maxHeartbeats 4000000 in
set_option maxRecDepth 100000 in
theorem SX11_costNow_42 {G : GT} {l : Launch} {Q : Option AV → Mem → Prop} {k4 : Int → Int → Mm → Option (Int × Mm)} (q4 : ∀ (x1 : Int) (x2 : Int) (f : Mm), OkI Q (k4 x1 x2 f) → Ev G l MX11_costNow (Rm 2 0 0) (ZM G Q 0 0) 0 0 4 [some (vR 150), some (vI x1), some (vI x2)] [] (SH, RF, f)) (x2 : Int) (s0 : Int) (s1 : Int) (f : Mm) (h : OkI Q (FX11_costNow_42 k4 x2 s0 s1 f)) : Ev G l MX11_costNow (Rm 2 0 0) (ZM G Q 0 0) 0 0 42 [some (vR 150), none, some (vI x2)] [vI s1, vI s0] (SH, RF, f) := by
  unfold FX11_costNow_42 at h
  refine ev_iadd dX11_costNow_42 ?_
  refine ev_istore_n (i := 1) (L' := [some (vR 150), some (vI (w32 (s0 + s1))), some (vI x2)]) dX11_costNow_43 rfl (by decide) rfl ?_
  refine ev_iinc (L' := [some (vR 150), some (vI (w32 (s0 + s1))), some (vI (w32 (x2 + 1)))]) dX11_costNow_44 rfl (by decide) rfl ?_
  refine ev_goto (tgt := 4) dX11_costNow_47 (by decide) ?_
  exact q4 (w32 (s0 + s1)) (w32 (x2 + 1)) _ h
def FX11_costNow_4  : Nat → Int → Int → Mm → Option (Int × Mm)
  | 0, _, _, _ => none
  | n + 1, x1, x2, f => (b2 (FX11_days f) fun y1 f1 => (if y1 ≤ x2 then some (x1, f1) else (if 0 ≤ x2 ∧ x2 < 6 then (if (f1 162 x2.toNat) = (-1) then FX11_costNow_42 (FX11_costNow_4 n) x2 x1 0 f1 else (if 0 ≤ x2 ∧ x2 < 6 then (if 0 ≤ (w32 ((w32 (4 * (f1 162 x2.toNat))) + 1)) ∧ (w32 ((w32 (4 * (f1 162 x2.toNat))) + 1)) < 80 then FX11_costNow_42 (FX11_costNow_4 n) x2 x1 (f1 158 (w32 ((w32 (4 * (f1 162 x2.toNat))) + 1)).toNat) f1 else none) else none)) else none)))
set_option maxHeartbeats 4000000 in
set_option maxRecDepth 100000 in
theorem SX11_costNow_4 {G : GT} {l : Launch} {Q : Option AV → Mem → Prop}  : ∀ (n : Nat) (x1 : Int) (x2 : Int) (f : Mm), OkI Q (FX11_costNow_4  n x1 x2 f) → Ev G l MX11_costNow (Rm 2 0 0) (ZM G Q 0 0) 0 0 4 [some (vR 150), some (vI x1), some (vI x2)] [] (SH, RF, f) := by
  intro n
  induction n with
  | zero => intro x1 x2 f h; exact absurd h (by rw [FX11_costNow_4]; exact fun q => q)
  | succ n ih =>
    intro x1 x2 f h
    rw [FX11_costNow_4] at h
    refine ev_iload_n (i := 2) dX11_costNow_4 rfl rfl ?_
    refine ev_aload_n (i := 0) dX11_costNow_5 rfl rfl ?_
    refine ev_cVI (b := 150) (av := []) (S := [vI x2]) (fun q => q) h dX11_costNow_6 (fun Q' q => TX11_days _ q) kvX11_days ml_X11_266 sh_150 rfl (RRc (by decide) (by decide)) (Nat.le_of_ble_eq_true rfl) ⟨Nat.le_of_ble_eq_true rfl, Nat.le_of_ble_eq_true rfl⟩ (fun y1 f1 h => ?_)
    refine ev_icmp_ge (tgt := 50) dX11_costNow_9 (by decide) (fun c6 => ?_) (fun c6 => ?_)
    · rw [if_pos c6] at h
      refine ev_iload_n (i := 1) dX11_costNow_50 rfl rfl ?_
      exact ev_iret rfl dX11_costNow_51 h
    · rw [if_neg c6] at h
      refine ev_iload_n (i := 1) dX11_costNow_12 rfl rfl ?_
      refine ev_aload_n (i := 0) dX11_costNow_13 rfl rfl ?_
      refine ev_getR dX11_costNow_14 fl_X11_50 sh_150 (by decide) (by decide) rf_150_22 ?_
      refine ev_iload_n (i := 2) dX11_costNow_17 rfl rfl ?_
      by_cases g2 : 0 ≤ x2 ∧ x2 < 6
      · rw [if_pos g2] at h
        refine ex_iald (x := (f1 162 x2.toNat)) dX11_costNow_18 sh_162 g2.1 g2.2 rfl ?_
        refine ev_iconst dX11_costNow_19 (r32c rfl) ?_
        refine ev_icmp_ne (tgt := 27) dX11_costNow_20 (by decide) (fun c5 => ?_) (fun c5 => ?_)
        · rw [if_neg c5] at h
          refine ev_aload_n (i := 0) dX11_costNow_27 rfl rfl ?_
          refine ev_getR dX11_costNow_28 fl_X11_37 sh_150 (by decide) (by decide) rf_150_18 ?_
          refine ev_iconst dX11_costNow_31 (r32c rfl) ?_
          refine ev_aload_n (i := 0) dX11_costNow_32 rfl rfl ?_
          refine ev_getR dX11_costNow_33 fl_X11_50 sh_150 (by decide) (by decide) rf_150_22 ?_
          refine ev_iload_n (i := 2) dX11_costNow_36 rfl rfl ?_
          by_cases g3 : 0 ≤ x2 ∧ x2 < 6
          · rw [if_pos g3] at h
            refine ex_iald (x := (f1 162 x2.toNat)) dX11_costNow_37 sh_162 g3.1 g3.2 rfl ?_
            refine ev_imul dX11_costNow_38 ?_
            refine ev_iconst dX11_costNow_39 (r32c rfl) ?_
            refine ev_iadd dX11_costNow_40 ?_
            by_cases g4 : 0 ≤ (w32 ((w32 (4 * (f1 162 x2.toNat))) + 1)) ∧ (w32 ((w32 (4 * (f1 162 x2.toNat))) + 1)) < 80
            · rw [if_pos g4] at h
              refine ex_iald (x := (f1 158 (w32 ((w32 (4 * (f1 162 x2.toNat))) + 1)).toNat)) dX11_costNow_41 sh_158 g4.1 g4.2 rfl ?_
              refine ev_fg [true, false, true] rfl ?_
              exact SX11_costNow_42 ih x2 x1 (f1 158 (w32 ((w32 (4 * (f1 162 x2.toNat))) + 1)).toNat) _ h
            · rw [if_neg g4] at h; exact h.elim
          · rw [if_neg g3] at h; exact h.elim
        · rw [if_pos c5] at h
          refine ev_iconst dX11_costNow_23 (r32c rfl) ?_
          refine ev_goto (tgt := 42) dX11_costNow_24 (by decide) ?_
          refine ev_fg [true, false, true] rfl ?_
          exact SX11_costNow_42 ih x2 x1 0 _ h
      · rw [if_neg g2] at h; exact h.elim
def FX11_costNow_0   (f : Mm) : Option (Int × Mm) := FX11_costNow_4 fu 0 0 f
set_option maxHeartbeats 4000000 in
set_option maxRecDepth 100000 in
theorem SX11_costNow_0 {G : GT} {l : Launch} {Q : Option AV → Mem → Prop}   (f : Mm) (h : OkI Q (FX11_costNow_0   f)) : Ev G l MX11_costNow (Rm 2 0 0) (ZM G Q 0 0) 0 0 0 [some (vR 150), none, none] [] (SH, RF, f) := by
  unfold FX11_costNow_0 at h
  refine ev_iconst dX11_costNow_0 (r32c rfl) ?_
  refine ev_istore_n (i := 1) (L' := [some (vR 150), some (vI 0), none]) dX11_costNow_1 rfl (by decide) rfl ?_
  refine ev_iconst dX11_costNow_2 (r32c rfl) ?_
  refine ev_istore_n (i := 2) (L' := [some (vR 150), some (vI 0), some (vI 0)]) dX11_costNow_3 rfl (by decide) rfl ?_
  exact SX11_costNow_4  fu 0 0 _ h
def FX11_costNow  (f : Mm) : Option (Int × Mm) := FX11_costNow_0  f
set_option maxRecDepth 100000 in
theorem TX11_costNow {G : GT} {l : Launch} {Q : Option AV → Mem → Prop}  (f : Mm) (h : OkI Q (FX11_costNow  f)) : Ret G l MX11_costNow (2) 0 0 [vR 150] (SH, RF, f) Q := by
  refine ret_of (L := [some (vR 150), none, none]) (by decide) rfl (Nat.le_of_ble_eq_true rfl) ?_
  exact SX11_costNow_0  f h
theorem dX11_deed_0 : decode cX11_deed 0 = .ok (.aload_n 0, 1) := by decide +kernel
theorem dX11_deed_1 : decode cX11_deed 1 = .ok (.iconst 0, 1) := by decide +kernel
theorem dX11_deed_2 : decode cX11_deed 2 = .ok (.putfield 98, 3) := by decide +kernel
theorem dX11_deed_5 : decode cX11_deed 5 = .ok (.aload_n 0, 1) := by decide +kernel
theorem dX11_deed_6 : decode cX11_deed 6 = .ok (.iload_n 1, 1) := by decide +kernel
theorem dX11_deed_7 : decode cX11_deed 7 = .ok (.invokevirtual 313, 3) := by decide +kernel
theorem dX11_deed_10 : decode cX11_deed 10 = .ok (.ifCond .eq 28, 3) := by decide +kernel
theorem dX11_deed_38 : decode cX11_deed 38 = .ok (.sipush (-1000), 3) := by decide +kernel
theorem dX11_deed_41 : decode cX11_deed 41 = .ok (.ireturn, 1) := by decide +kernel
theorem dX11_deed_13 : decode cX11_deed 13 = .ok (.iload_n 2, 1) := by decide +kernel
theorem dX11_deed_14 : decode cX11_deed 14 = .ok (.i2l, 1) := by decide +kernel
theorem dX11_deed_15 : decode cX11_deed 15 = .ok (.lconst 0, 1) := by decide +kernel
theorem dX11_deed_16 : decode cX11_deed 16 = .ok (.ldc2_w 101, 3) := by decide +kernel
theorem dX11_deed_19 : decode cX11_deed 19 = .ok (.invokestatic 103, 3) := by decide +kernel
theorem dX11_deed_22 : decode cX11_deed 22 = .ok (.ifCond .eq 16, 3) := by decide +kernel
theorem dX11_deed_25 : decode cX11_deed 25 = .ok (.aload_n 0, 1) := by decide +kernel
theorem dX11_deed_26 : decode cX11_deed 26 = .ok (.getfield 37, 3) := by decide +kernel
theorem dX11_deed_29 : decode cX11_deed 29 = .ok (.iconst 4, 1) := by decide +kernel
theorem dX11_deed_30 : decode cX11_deed 30 = .ok (.iload_n 1, 1) := by decide +kernel
theorem dX11_deed_31 : decode cX11_deed 31 = .ok (.imul, 1) := by decide +kernel
theorem dX11_deed_32 : decode cX11_deed 32 = .ok (.iload_n 2, 1) := by decide +kernel
theorem dX11_deed_33 : decode cX11_deed 33 = .ok (.iadd, 1) := by decide +kernel
theorem dX11_deed_34 : decode cX11_deed 34 = .ok (.iaload, 1) := by decide +kernel
theorem dX11_deed_35 : decode cX11_deed 35 = .ok (.goto 6, 3) := by decide +kernel
def FX11_deed_0  (x1 : Int) (x2 : Int) (f : Mm) : Option (Int × Mm) := (b2 (FX11_isDeed x1 (up f 150 0 0)) fun y1 f1 => (if y1 = 0 then some ((-1000), f1) else (b2 (FX11_in x2 0 3 f1) fun y2 f2 => (if y2 = 0 then some ((-1000), f2) else (if 0 ≤ (w32 ((w32 (4 * x1)) + x2)) ∧ (w32 ((w32 (4 * x1)) + x2)) < 80 then some ((f2 158 (w32 ((w32 (4 * x1)) + x2)).toNat), f2) else none)))))
set_option maxHeartbeats 4000000 in
set_option maxRecDepth 100000 in
theorem SX11_deed_0 {G : GT} {l : Launch} {Q : Option AV → Mem → Prop}  (x1 : Int) (x2 : Int) (f : Mm) (h : OkI Q (FX11_deed_0  x1 x2 f)) : Ev G l MX11_deed (Rm 3 0 0) (ZM G Q 0 0) 0 0 0 [some (vR 150), some (vI x1), some (vI x2)] [] (SH, RF, f) := by
  unfold FX11_deed_0 at h
  refine ev_aload_n (i := 0) dX11_deed_0 rfl rfl ?_
  refine ev_iconst dX11_deed_1 (r32c rfl) ?_
  refine ev_putI dX11_deed_2 fl_X11_98 sh_150 (by decide) (by decide) ?_
  refine ev_aload_n (i := 0) dX11_deed_5 rfl rfl ?_
  refine ev_iload_n (i := 1) dX11_deed_6 rfl rfl ?_
  refine ev_cVI (b := 150) (av := [vI x1]) (S := []) (fun q => q) h dX11_deed_7 (fun Q' q => TX11_isDeed x1 _ q) kvX11_isDeed ml_X11_313 sh_150 rfl (RRc (by decide) (by decide)) (Nat.le_of_ble_eq_true rfl) ⟨Nat.le_of_ble_eq_true rfl, Nat.le_of_ble_eq_true rfl⟩ (fun y1 f1 h => ?_)
  refine ev_if_eq (tgt := 38) dX11_deed_10 (by decide) (fun c5 => ?_) (fun c5 => ?_)
  · rw [if_pos c5] at h
    refine ev_sipush (v := (-1000)) dX11_deed_38 (r32c rfl) (by decide) ?_
    exact ev_iret rfl dX11_deed_41 h
  · rw [if_neg c5] at h
    refine ev_iload_n (i := 2) dX11_deed_13 rfl rfl ?_
    refine ev_i2l dX11_deed_14 ?_
    refine ev_lconst (v := 0) dX11_deed_15 (r64c rfl) (by decide) ?_
    refine ev_ldc2 (v := 3) dX11_deed_16 (r64c rfl) kc_X11_101 ?_
    refine ev_cSI (av := [vJ x2, vJ 0, vJ 3]) (S := []) (fun q => q) h dX11_deed_19 (fun Q' q => TX11_in x2 0 3 _ q) ksX11_in ml_X11_103 rfl (RRc (by decide) (by decide)) (Nat.le_of_ble_eq_true rfl) ⟨Nat.le_of_ble_eq_true rfl, Nat.le_of_ble_eq_true rfl⟩ (fun y2 f2 h => ?_)
    refine ev_if_eq (tgt := 38) dX11_deed_22 (by decide) (fun c4 => ?_) (fun c4 => ?_)
    · rw [if_pos c4] at h
      refine ev_sipush (v := (-1000)) dX11_deed_38 (r32c rfl) (by decide) ?_
      exact ev_iret rfl dX11_deed_41 h
    · rw [if_neg c4] at h
      refine ev_aload_n (i := 0) dX11_deed_25 rfl rfl ?_
      refine ev_getR dX11_deed_26 fl_X11_37 sh_150 (by decide) (by decide) rf_150_18 ?_
      refine ev_iconst dX11_deed_29 (r32c rfl) ?_
      refine ev_iload_n (i := 1) dX11_deed_30 rfl rfl ?_
      refine ev_imul dX11_deed_31 ?_
      refine ev_iload_n (i := 2) dX11_deed_32 rfl rfl ?_
      refine ev_iadd dX11_deed_33 ?_
      by_cases g3 : 0 ≤ (w32 ((w32 (4 * x1)) + x2)) ∧ (w32 ((w32 (4 * x1)) + x2)) < 80
      · rw [if_pos g3] at h
        refine ex_iald (x := (f2 158 (w32 ((w32 (4 * x1)) + x2)).toNat)) dX11_deed_34 sh_158 g3.1 g3.2 rfl ?_
        refine ev_goto (tgt := 41) dX11_deed_35 (by decide) ?_
        exact ev_iret rfl dX11_deed_41 h
      · rw [if_neg g3] at h; exact h.elim
def FX11_deed (x1 : Int) (x2 : Int) (f : Mm) : Option (Int × Mm) := FX11_deed_0 x1 x2 f
set_option maxRecDepth 100000 in
theorem TX11_deed {G : GT} {l : Launch} {Q : Option AV → Mem → Prop} (x1 : Int) (x2 : Int) (f : Mm) (h : OkI Q (FX11_deed x1 x2 f)) : Ret G l MX11_deed (3) 0 0 [vR 150, vI x1, vI x2] (SH, RF, f) Q := by
  refine ret_of (L := [some (vR 150), some (vI x1), some (vI x2)]) (by decide) rfl (Nat.le_of_ble_eq_true rfl) ?_
  exact SX11_deed_0 x1 x2 f h
theorem dX11_cart_0 : decode cX11_cart 0 = .ok (.aload_n 0, 1) := by decide +kernel
theorem dX11_cart_1 : decode cX11_cart 1 = .ok (.iconst 0, 1) := by decide +kernel
theorem dX11_cart_2 : decode cX11_cart 2 = .ok (.putfield 98, 3) := by decide +kernel
theorem dX11_cart_5 : decode cX11_cart 5 = .ok (.aload_n 0, 1) := by decide +kernel
theorem dX11_cart_6 : decode cX11_cart 6 = .ok (.iload_n 1, 1) := by decide +kernel
theorem dX11_cart_7 : decode cX11_cart 7 = .ok (.invokevirtual 316, 3) := by decide +kernel
theorem dX11_cart_10 : decode cX11_cart 10 = .ok (.ifCond .eq 28, 3) := by decide +kernel
theorem dX11_cart_38 : decode cX11_cart 38 = .ok (.bipush (-2), 2) := by decide +kernel
theorem dX11_cart_40 : decode cX11_cart 40 = .ok (.ireturn, 1) := by decide +kernel
theorem dX11_cart_13 : decode cX11_cart 13 = .ok (.iload_n 2, 1) := by decide +kernel
theorem dX11_cart_14 : decode cX11_cart 14 = .ok (.i2l, 1) := by decide +kernel
theorem dX11_cart_15 : decode cX11_cart 15 = .ok (.lconst 0, 1) := by decide +kernel
theorem dX11_cart_16 : decode cX11_cart 16 = .ok (.ldc2_w 319, 3) := by decide +kernel
theorem dX11_cart_19 : decode cX11_cart 19 = .ok (.invokestatic 103, 3) := by decide +kernel
theorem dX11_cart_22 : decode cX11_cart 22 = .ok (.ifCond .eq 16, 3) := by decide +kernel
theorem dX11_cart_25 : decode cX11_cart 25 = .ok (.aload_n 0, 1) := by decide +kernel
theorem dX11_cart_26 : decode cX11_cart 26 = .ok (.getfield 40, 3) := by decide +kernel
theorem dX11_cart_29 : decode cX11_cart 29 = .ok (.iconst 5, 1) := by decide +kernel
theorem dX11_cart_30 : decode cX11_cart 30 = .ok (.iload_n 1, 1) := by decide +kernel
theorem dX11_cart_31 : decode cX11_cart 31 = .ok (.imul, 1) := by decide +kernel
theorem dX11_cart_32 : decode cX11_cart 32 = .ok (.iload_n 2, 1) := by decide +kernel
theorem dX11_cart_33 : decode cX11_cart 33 = .ok (.iadd, 1) := by decide +kernel
theorem dX11_cart_34 : decode cX11_cart 34 = .ok (.iaload, 1) := by decide +kernel
theorem dX11_cart_35 : decode cX11_cart 35 = .ok (.goto 5, 3) := by decide +kernel
def FX11_cart_0  (x1 : Int) (x2 : Int) (f : Mm) : Option (Int × Mm) := (b2 (FX11_isCart x1 (up f 150 0 0)) fun y1 f1 => (if y1 = 0 then some ((-2), f1) else (b2 (FX11_in x2 0 4 f1) fun y2 f2 => (if y2 = 0 then some ((-2), f2) else (if 0 ≤ (w32 ((w32 (5 * x1)) + x2)) ∧ (w32 ((w32 (5 * x1)) + x2)) < 150 then some ((f2 159 (w32 ((w32 (5 * x1)) + x2)).toNat), f2) else none)))))
set_option maxHeartbeats 4000000 in
set_option maxRecDepth 100000 in
theorem SX11_cart_0 {G : GT} {l : Launch} {Q : Option AV → Mem → Prop}  (x1 : Int) (x2 : Int) (f : Mm) (h : OkI Q (FX11_cart_0  x1 x2 f)) : Ev G l MX11_cart (Rm 3 0 0) (ZM G Q 0 0) 0 0 0 [some (vR 150), some (vI x1), some (vI x2)] [] (SH, RF, f) := by
  unfold FX11_cart_0 at h
  refine ev_aload_n (i := 0) dX11_cart_0 rfl rfl ?_
  refine ev_iconst dX11_cart_1 (r32c rfl) ?_
  refine ev_putI dX11_cart_2 fl_X11_98 sh_150 (by decide) (by decide) ?_
  refine ev_aload_n (i := 0) dX11_cart_5 rfl rfl ?_
  refine ev_iload_n (i := 1) dX11_cart_6 rfl rfl ?_
  refine ev_cVI (b := 150) (av := [vI x1]) (S := []) (fun q => q) h dX11_cart_7 (fun Q' q => TX11_isCart x1 _ q) kvX11_isCart ml_X11_316 sh_150 rfl (RRc (by decide) (by decide)) (Nat.le_of_ble_eq_true rfl) ⟨Nat.le_of_ble_eq_true rfl, Nat.le_of_ble_eq_true rfl⟩ (fun y1 f1 h => ?_)
  refine ev_if_eq (tgt := 38) dX11_cart_10 (by decide) (fun c5 => ?_) (fun c5 => ?_)
  · rw [if_pos c5] at h
    refine ev_bipush (v := (-2)) dX11_cart_38 (r32c rfl) (by decide) ?_
    exact ev_iret rfl dX11_cart_40 h
  · rw [if_neg c5] at h
    refine ev_iload_n (i := 2) dX11_cart_13 rfl rfl ?_
    refine ev_i2l dX11_cart_14 ?_
    refine ev_lconst (v := 0) dX11_cart_15 (r64c rfl) (by decide) ?_
    refine ev_ldc2 (v := 4) dX11_cart_16 (r64c rfl) kc_X11_319 ?_
    refine ev_cSI (av := [vJ x2, vJ 0, vJ 4]) (S := []) (fun q => q) h dX11_cart_19 (fun Q' q => TX11_in x2 0 4 _ q) ksX11_in ml_X11_103 rfl (RRc (by decide) (by decide)) (Nat.le_of_ble_eq_true rfl) ⟨Nat.le_of_ble_eq_true rfl, Nat.le_of_ble_eq_true rfl⟩ (fun y2 f2 h => ?_)
    refine ev_if_eq (tgt := 38) dX11_cart_22 (by decide) (fun c4 => ?_) (fun c4 => ?_)
    · rw [if_pos c4] at h
      refine ev_bipush (v := (-2)) dX11_cart_38 (r32c rfl) (by decide) ?_
      exact ev_iret rfl dX11_cart_40 h
    · rw [if_neg c4] at h
      refine ev_aload_n (i := 0) dX11_cart_25 rfl rfl ?_
      refine ev_getR dX11_cart_26 fl_X11_40 sh_150 (by decide) (by decide) rf_150_19 ?_
      refine ev_iconst dX11_cart_29 (r32c rfl) ?_
      refine ev_iload_n (i := 1) dX11_cart_30 rfl rfl ?_
      refine ev_imul dX11_cart_31 ?_
      refine ev_iload_n (i := 2) dX11_cart_32 rfl rfl ?_
      refine ev_iadd dX11_cart_33 ?_
      by_cases g3 : 0 ≤ (w32 ((w32 (5 * x1)) + x2)) ∧ (w32 ((w32 (5 * x1)) + x2)) < 150
      · rw [if_pos g3] at h
        refine ex_iald (x := (f2 159 (w32 ((w32 (5 * x1)) + x2)).toNat)) dX11_cart_34 sh_159 g3.1 g3.2 rfl ?_
        refine ev_goto (tgt := 40) dX11_cart_35 (by decide) ?_
        exact ev_iret rfl dX11_cart_40 h
      · rw [if_neg g3] at h; exact h.elim
def FX11_cart (x1 : Int) (x2 : Int) (f : Mm) : Option (Int × Mm) := FX11_cart_0 x1 x2 f
set_option maxRecDepth 100000 in
theorem TX11_cart {G : GT} {l : Launch} {Q : Option AV → Mem → Prop} (x1 : Int) (x2 : Int) (f : Mm) (h : OkI Q (FX11_cart x1 x2 f)) : Ret G l MX11_cart (3) 0 0 [vR 150, vI x1, vI x2] (SH, RF, f) Q := by
  refine ret_of (L := [some (vR 150), some (vI x1), some (vI x2)]) (by decide) rfl (Nat.le_of_ble_eq_true rfl) ?_
  exact SX11_cart_0 x1 x2 f h
theorem dX11_isHalf_0 : decode cX11_isHalf 0 = .ok (.iload_n 0, 1) := by decide +kernel
theorem dX11_isHalf_1 : decode cX11_isHalf 1 = .ok (.i2l, 1) := by decide +kernel
theorem dX11_isHalf_2 : decode cX11_isHalf 2 = .ok (.lconst 0, 1) := by decide +kernel
theorem dX11_isHalf_3 : decode cX11_isHalf 3 = .ok (.lconst 1, 1) := by decide +kernel
theorem dX11_isHalf_4 : decode cX11_isHalf 4 = .ok (.invokestatic 103, 3) := by decide +kernel
theorem dX11_isHalf_7 : decode cX11_isHalf 7 = .ok (.ireturn, 1) := by decide +kernel
def FX11_isHalf_0  (x0 : Int) (f : Mm) : Option (Int × Mm) := (b2 (FX11_in x0 0 1 f) fun y1 f1 => (if y1 = 0 ∨ y1 = 1 then some (y1, f1) else none))
set_option maxHeartbeats 4000000 in
set_option maxRecDepth 100000 in
theorem SX11_isHalf_0 {G : GT} {l : Launch} {Q : Option AV → Mem → Prop}  (x0 : Int) (f : Mm) (h : OkI Q (FX11_isHalf_0  x0 f)) : Ev G l MX11_isHalf (Rm 2 0 0) (ZM G Q 0 0) 0 0 0 [some (vI x0)] [] (SH, RF, f) := by
  unfold FX11_isHalf_0 at h
  refine ev_iload_n (i := 0) dX11_isHalf_0 rfl rfl ?_
  refine ev_i2l dX11_isHalf_1 ?_
  refine ev_lconst (v := 0) dX11_isHalf_2 (r64c rfl) (by decide) ?_
  refine ev_lconst (v := 1) dX11_isHalf_3 (r64c rfl) (by decide) ?_
  refine ev_cSI (av := [vJ x0, vJ 0, vJ 1]) (S := []) (fun q => q) h dX11_isHalf_4 (fun Q' q => TX11_in x0 0 1 _ q) ksX11_in ml_X11_103 rfl (RRc (by decide) (by decide)) (Nat.le_of_ble_eq_true rfl) ⟨Nat.le_of_ble_eq_true rfl, Nat.le_of_ble_eq_true rfl⟩ (fun y1 f1 h => ?_)
  by_cases g2 : y1 = 0 ∨ y1 = 1
  · rw [if_pos g2] at h
    exact ev_zret rfl g2 dX11_isHalf_7 h
  · rw [if_neg g2] at h; exact h.elim
def FX11_isHalf (x0 : Int) (f : Mm) : Option (Int × Mm) := FX11_isHalf_0 x0 f
set_option maxRecDepth 100000 in
theorem TX11_isHalf {G : GT} {l : Launch} {Q : Option AV → Mem → Prop} (x0 : Int) (f : Mm) (h : OkI Q (FX11_isHalf x0 f)) : Ret G l MX11_isHalf (2) 0 0 [vI x0] (SH, RF, f) Q := by
  refine ret_of (L := [some (vI x0)]) (by decide) rfl (Nat.le_of_ble_eq_true rfl) ?_
  exact SX11_isHalf_0 x0 f h
theorem dX11_feels_0 : decode cX11_feels 0 = .ok (.aload_n 0, 1) := by decide +kernel
theorem dX11_feels_1 : decode cX11_feels 1 = .ok (.iconst 0, 1) := by decide +kernel
theorem dX11_feels_2 : decode cX11_feels 2 = .ok (.putfield 98, 3) := by decide +kernel
theorem dX11_feels_5 : decode cX11_feels 5 = .ok (.iload_n 1, 1) := by decide +kernel
theorem dX11_feels_6 : decode cX11_feels 6 = .ok (.invokestatic 321, 3) := by decide +kernel
theorem dX11_feels_9 : decode cX11_feels 9 = .ok (.ifCond .eq 12, 3) := by decide +kernel
theorem dX11_feels_21 : decode cX11_feels 21 = .ok (.sipush (-1000), 3) := by decide +kernel
theorem dX11_feels_24 : decode cX11_feels 24 = .ok (.ireturn, 1) := by decide +kernel
theorem dX11_feels_12 : decode cX11_feels 12 = .ok (.aload_n 0, 1) := by decide +kernel
theorem dX11_feels_13 : decode cX11_feels 13 = .ok (.iload_n 2, 1) := by decide +kernel
theorem dX11_feels_14 : decode cX11_feels 14 = .ok (.i2l, 1) := by decide +kernel
theorem dX11_feels_15 : decode cX11_feels 15 = .ok (.invokevirtual 324, 3) := by decide +kernel
theorem dX11_feels_18 : decode cX11_feels 18 = .ok (.ifCond .ne 7, 3) := by decide +kernel
theorem dX11_feels_25 : decode cX11_feels 25 = .ok (.aload_n 0, 1) := by decide +kernel
theorem dX11_feels_26 : decode cX11_feels 26 = .ok (.invokevirtual 301, 3) := by decide +kernel
theorem dX11_feels_29 : decode cX11_feels 29 = .ok (.aload_n 0, 1) := by decide +kernel
theorem dX11_feels_30 : decode cX11_feels 30 = .ok (.getfield 53, 3) := by decide +kernel
theorem dX11_feels_33 : decode cX11_feels 33 = .ok (.iconst 2, 1) := by decide +kernel
theorem dX11_feels_34 : decode cX11_feels 34 = .ok (.iload_n 2, 1) := by decide +kernel
theorem dX11_feels_35 : decode cX11_feels 35 = .ok (.imul, 1) := by decide +kernel
theorem dX11_feels_36 : decode cX11_feels 36 = .ok (.iload_n 1, 1) := by decide +kernel
theorem dX11_feels_37 : decode cX11_feels 37 = .ok (.iadd, 1) := by decide +kernel
theorem dX11_feels_38 : decode cX11_feels 38 = .ok (.iaload, 1) := by decide +kernel
theorem dX11_feels_39 : decode cX11_feels 39 = .ok (.ireturn, 1) := by decide +kernel
def FX11_feels_0  (x1 : Int) (x2 : Int) (f : Mm) : Option (Int × Mm) := (b2 (FX11_isHalf x1 (up f 150 0 0)) fun y1 f1 => (if y1 = 0 then some ((-1000), f1) else (b2 (FX11_isDay x2 f1) fun y2 f2 => (if y2 = 0 then some ((-1000), f2) else ((FX11_laysNow f2).bind fun f3 => (if 0 ≤ (w32 ((w32 (2 * x2)) + x1)) ∧ (w32 ((w32 (2 * x2)) + x1)) < 12 then some ((f3 163 (w32 ((w32 (2 * x2)) + x1)).toNat), f3) else none))))))
set_option maxHeartbeats 4000000 in
set_option maxRecDepth 100000 in
theorem SX11_feels_0 {G : GT} {l : Launch} {Q : Option AV → Mem → Prop}  (x1 : Int) (x2 : Int) (f : Mm) (h : OkI Q (FX11_feels_0  x1 x2 f)) : Ev G l MX11_feels (Rm 6 0 0) (ZM G Q 0 0) 0 0 0 [some (vR 150), some (vI x1), some (vI x2)] [] (SH, RF, f) := by
  unfold FX11_feels_0 at h
  refine ev_aload_n (i := 0) dX11_feels_0 rfl rfl ?_
  refine ev_iconst dX11_feels_1 (r32c rfl) ?_
  refine ev_putI dX11_feels_2 fl_X11_98 sh_150 (by decide) (by decide) ?_
  refine ev_iload_n (i := 1) dX11_feels_5 rfl rfl ?_
  refine ev_cSI (av := [vI x1]) (S := []) (fun q => q) h dX11_feels_6 (fun Q' q => TX11_isHalf x1 _ q) ksX11_isHalf ml_X11_321 rfl (RRc (by decide) (by decide)) (Nat.le_of_ble_eq_true rfl) ⟨Nat.le_of_ble_eq_true rfl, Nat.le_of_ble_eq_true rfl⟩ (fun y1 f1 h => ?_)
  refine ev_if_eq (tgt := 21) dX11_feels_9 (by decide) (fun c6 => ?_) (fun c6 => ?_)
  · rw [if_pos c6] at h
    refine ev_sipush (v := (-1000)) dX11_feels_21 (r32c rfl) (by decide) ?_
    exact ev_iret rfl dX11_feels_24 h
  · rw [if_neg c6] at h
    refine ev_aload_n (i := 0) dX11_feels_12 rfl rfl ?_
    refine ev_iload_n (i := 2) dX11_feels_13 rfl rfl ?_
    refine ev_i2l dX11_feels_14 ?_
    refine ev_cVI (b := 150) (av := [vJ x2]) (S := []) (fun q => q) h dX11_feels_15 (fun Q' q => TX11_isDay x2 _ q) kvX11_isDay ml_X11_324 sh_150 rfl (RRc (by decide) (by decide)) (Nat.le_of_ble_eq_true rfl) ⟨Nat.le_of_ble_eq_true rfl, Nat.le_of_ble_eq_true rfl⟩ (fun y2 f2 h => ?_)
    refine ev_if_ne (tgt := 25) dX11_feels_18 (by decide) (fun c5 => ?_) (fun c5 => ?_)
    · rw [if_neg c5] at h
      refine ev_aload_n (i := 0) dX11_feels_25 rfl rfl ?_
      refine ev_cVV (b := 150) (av := []) (S := []) (fun q => q) h dX11_feels_26 (fun Q' q => TX11_laysNow _ q) kvX11_laysNow ml_X11_301 sh_150 rfl (RRc (by decide) (by decide)) (Nat.le_of_ble_eq_true rfl) ⟨Nat.le_of_ble_eq_true rfl, Nat.le_of_ble_eq_true rfl⟩ (fun f3 h => ?_)
      refine ev_aload_n (i := 0) dX11_feels_29 rfl rfl ?_
      refine ev_getR dX11_feels_30 fl_X11_53 sh_150 (by decide) (by decide) rf_150_25 ?_
      refine ev_iconst dX11_feels_33 (r32c rfl) ?_
      refine ev_iload_n (i := 2) dX11_feels_34 rfl rfl ?_
      refine ev_imul dX11_feels_35 ?_
      refine ev_iload_n (i := 1) dX11_feels_36 rfl rfl ?_
      refine ev_iadd dX11_feels_37 ?_
      by_cases g4 : 0 ≤ (w32 ((w32 (2 * x2)) + x1)) ∧ (w32 ((w32 (2 * x2)) + x1)) < 12
      · rw [if_pos g4] at h
        refine ex_iald (x := (f3 163 (w32 ((w32 (2 * x2)) + x1)).toNat)) dX11_feels_38 sh_163 g4.1 g4.2 rfl ?_
        exact ev_iret rfl dX11_feels_39 h
      · rw [if_neg g4] at h; exact h.elim
    · rw [if_pos c5] at h
      refine ev_sipush (v := (-1000)) dX11_feels_21 (r32c rfl) (by decide) ?_
      exact ev_iret rfl dX11_feels_24 h
def FX11_feels (x1 : Int) (x2 : Int) (f : Mm) : Option (Int × Mm) := FX11_feels_0 x1 x2 f
set_option maxRecDepth 100000 in
theorem TX11_feels {G : GT} {l : Launch} {Q : Option AV → Mem → Prop} (x1 : Int) (x2 : Int) (f : Mm) (h : OkI Q (FX11_feels x1 x2 f)) : Ret G l MX11_feels (6) 0 0 [vR 150, vI x1, vI x2] (SH, RF, f) Q := by
  refine ret_of (L := [some (vR 150), some (vI x1), some (vI x2)]) (by decide) rfl (Nat.le_of_ble_eq_true rfl) ?_
  exact SX11_feels_0 x1 x2 f h
theorem dX11_width_0 : decode cX11_width 0 = .ok (.aload_n 0, 1) := by decide +kernel
theorem dX11_width_1 : decode cX11_width 1 = .ok (.iconst 0, 1) := by decide +kernel
theorem dX11_width_2 : decode cX11_width 2 = .ok (.putfield 98, 3) := by decide +kernel
theorem dX11_width_5 : decode cX11_width 5 = .ok (.aload_n 0, 1) := by decide +kernel
theorem dX11_width_6 : decode cX11_width 6 = .ok (.iload_n 1, 1) := by decide +kernel
theorem dX11_width_7 : decode cX11_width 7 = .ok (.i2l, 1) := by decide +kernel
theorem dX11_width_8 : decode cX11_width 8 = .ok (.invokevirtual 324, 3) := by decide +kernel
theorem dX11_width_11 : decode cX11_width 11 = .ok (.ifCond .ne 6, 3) := by decide +kernel
theorem dX11_width_17 : decode cX11_width 17 = .ok (.aload_n 0, 1) := by decide +kernel
theorem dX11_width_18 : decode cX11_width 18 = .ok (.invokevirtual 301, 3) := by decide +kernel
theorem dX11_width_21 : decode cX11_width 21 = .ok (.aload_n 0, 1) := by decide +kernel
theorem dX11_width_22 : decode cX11_width 22 = .ok (.getfield 56, 3) := by decide +kernel
theorem dX11_width_25 : decode cX11_width 25 = .ok (.iload_n 1, 1) := by decide +kernel
theorem dX11_width_26 : decode cX11_width 26 = .ok (.iaload, 1) := by decide +kernel
theorem dX11_width_27 : decode cX11_width 27 = .ok (.ireturn, 1) := by decide +kernel
theorem dX11_width_14 : decode cX11_width 14 = .ok (.bipush (-2), 2) := by decide +kernel
theorem dX11_width_16 : decode cX11_width 16 = .ok (.ireturn, 1) := by decide +kernel
def FX11_width_0  (x1 : Int) (f : Mm) : Option (Int × Mm) := (b2 (FX11_isDay x1 (up f 150 0 0)) fun y1 f1 => (if y1 = 0 then some ((-2), f1) else ((FX11_laysNow f1).bind fun f2 => (if 0 ≤ x1 ∧ x1 < 6 then some ((f2 164 x1.toNat), f2) else none))))
set_option maxHeartbeats 4000000 in
set_option maxRecDepth 100000 in
theorem SX11_width_0 {G : GT} {l : Launch} {Q : Option AV → Mem → Prop}  (x1 : Int) (f : Mm) (h : OkI Q (FX11_width_0  x1 f)) : Ev G l MX11_width (Rm 6 0 0) (ZM G Q 0 0) 0 0 0 [some (vR 150), some (vI x1)] [] (SH, RF, f) := by
  unfold FX11_width_0 at h
  refine ev_aload_n (i := 0) dX11_width_0 rfl rfl ?_
  refine ev_iconst dX11_width_1 (r32c rfl) ?_
  refine ev_putI dX11_width_2 fl_X11_98 sh_150 (by decide) (by decide) ?_
  refine ev_aload_n (i := 0) dX11_width_5 rfl rfl ?_
  refine ev_iload_n (i := 1) dX11_width_6 rfl rfl ?_
  refine ev_i2l dX11_width_7 ?_
  refine ev_cVI (b := 150) (av := [vJ x1]) (S := []) (fun q => q) h dX11_width_8 (fun Q' q => TX11_isDay x1 _ q) kvX11_isDay ml_X11_324 sh_150 rfl (RRc (by decide) (by decide)) (Nat.le_of_ble_eq_true rfl) ⟨Nat.le_of_ble_eq_true rfl, Nat.le_of_ble_eq_true rfl⟩ (fun y1 f1 h => ?_)
  refine ev_if_ne (tgt := 17) dX11_width_11 (by decide) (fun c4 => ?_) (fun c4 => ?_)
  · rw [if_neg c4] at h
    refine ev_aload_n (i := 0) dX11_width_17 rfl rfl ?_
    refine ev_cVV (b := 150) (av := []) (S := []) (fun q => q) h dX11_width_18 (fun Q' q => TX11_laysNow _ q) kvX11_laysNow ml_X11_301 sh_150 rfl (RRc (by decide) (by decide)) (Nat.le_of_ble_eq_true rfl) ⟨Nat.le_of_ble_eq_true rfl, Nat.le_of_ble_eq_true rfl⟩ (fun f2 h => ?_)
    refine ev_aload_n (i := 0) dX11_width_21 rfl rfl ?_
    refine ev_getR dX11_width_22 fl_X11_56 sh_150 (by decide) (by decide) rf_150_26 ?_
    refine ev_iload_n (i := 1) dX11_width_25 rfl rfl ?_
    by_cases g3 : 0 ≤ x1 ∧ x1 < 6
    · rw [if_pos g3] at h
      refine ex_iald (x := (f2 164 x1.toNat)) dX11_width_26 sh_164 g3.1 g3.2 rfl ?_
      exact ev_iret rfl dX11_width_27 h
    · rw [if_neg g3] at h; exact h.elim
  · rw [if_pos c4] at h
    refine ev_bipush (v := (-2)) dX11_width_14 (r32c rfl) (by decide) ?_
    exact ev_iret rfl dX11_width_16 h
def FX11_width (x1 : Int) (f : Mm) : Option (Int × Mm) := FX11_width_0 x1 f
set_option maxRecDepth 100000 in
theorem TX11_width {G : GT} {l : Launch} {Q : Option AV → Mem → Prop} (x1 : Int) (f : Mm) (h : OkI Q (FX11_width x1 f)) : Ret G l MX11_width (6) 0 0 [vR 150, vI x1] (SH, RF, f) Q := by
  refine ret_of (L := [some (vR 150), some (vI x1)]) (by decide) rfl (Nat.le_of_ble_eq_true rfl) ?_
  exact SX11_width_0 x1 f h
theorem dX11_narrow_48 : decode cX11_narrow 48 = .ok (.iinc 2 1, 3) := by decide +kernel
theorem dX11_narrow_51 : decode cX11_narrow 51 = .ok (.goto (-28), 3) := by decide +kernel
theorem dX11_narrow_23 : decode cX11_narrow 23 = .ok (.iload_n 2, 1) := by decide +kernel
theorem dX11_narrow_24 : decode cX11_narrow 24 = .ok (.aload_n 0, 1) := by decide +kernel
theorem dX11_narrow_25 : decode cX11_narrow 25 = .ok (.invokevirtual 266, 3) := by decide +kernel
theorem dX11_narrow_28 : decode cX11_narrow 28 = .ok (.if_icmp .ge 26, 3) := by decide +kernel
theorem dX11_narrow_54 : decode cX11_narrow 54 = .ok (.iload_n 1, 1) := by decide +kernel
theorem dX11_narrow_55 : decode cX11_narrow 55 = .ok (.ireturn, 1) := by decide +kernel
theorem dX11_narrow_31 : decode cX11_narrow 31 = .ok (.aload_n 0, 1) := by decide +kernel
theorem dX11_narrow_32 : decode cX11_narrow 32 = .ok (.getfield 56, 3) := by decide +kernel
theorem dX11_narrow_35 : decode cX11_narrow 35 = .ok (.iload_n 2, 1) := by decide +kernel
theorem dX11_narrow_36 : decode cX11_narrow 36 = .ok (.iaload, 1) := by decide +kernel
theorem dX11_narrow_37 : decode cX11_narrow 37 = .ok (.aload_n 0, 1) := by decide +kernel
theorem dX11_narrow_38 : decode cX11_narrow 38 = .ok (.getfield 56, 3) := by decide +kernel
theorem dX11_narrow_41 : decode cX11_narrow 41 = .ok (.iload_n 1, 1) := by decide +kernel
theorem dX11_narrow_42 : decode cX11_narrow 42 = .ok (.iaload, 1) := by decide +kernel
theorem dX11_narrow_43 : decode cX11_narrow 43 = .ok (.if_icmp .ge 5, 3) := by decide +kernel
theorem dX11_narrow_46 : decode cX11_narrow 46 = .ok (.iload_n 2, 1) := by decide +kernel
theorem dX11_narrow_47 : decode cX11_narrow 47 = .ok (.istore_n 1, 1) := by decide +kernel
theorem dX11_narrow_0 : decode cX11_narrow 0 = .ok (.aload_n 0, 1) := by decide +kernel
theorem dX11_narrow_1 : decode cX11_narrow 1 = .ok (.iconst 0, 1) := by decide +kernel
theorem dX11_narrow_2 : decode cX11_narrow 2 = .ok (.putfield 98, 3) := by decide +kernel
theorem dX11_narrow_5 : decode cX11_narrow 5 = .ok (.aload_n 0, 1) := by decide +kernel
theorem dX11_narrow_6 : decode cX11_narrow 6 = .ok (.invokevirtual 272, 3) := by decide +kernel
theorem dX11_narrow_9 : decode cX11_narrow 9 = .ok (.ifCond .ne 6, 3) := by decide +kernel
theorem dX11_narrow_15 : decode cX11_narrow 15 = .ok (.aload_n 0, 1) := by decide +kernel
theorem dX11_narrow_16 : decode cX11_narrow 16 = .ok (.invokevirtual 301, 3) := by decide +kernel
theorem dX11_narrow_19 : decode cX11_narrow 19 = .ok (.iconst 0, 1) := by decide +kernel
theorem dX11_narrow_20 : decode cX11_narrow 20 = .ok (.istore_n 1, 1) := by decide +kernel
theorem dX11_narrow_21 : decode cX11_narrow 21 = .ok (.iconst 1, 1) := by decide +kernel
theorem dX11_narrow_22 : decode cX11_narrow 22 = .ok (.istore_n 2, 1) := by decide +kernel
theorem dX11_narrow_12 : decode cX11_narrow 12 = .ok (.bipush (-2), 2) := by decide +kernel
theorem dX11_narrow_14 : decode cX11_narrow 14 = .ok (.ireturn, 1) := by decide +kernel
def FX11_narrow_48 (k23 : Int → Int → Mm → Option (Int × Mm)) (x1 : Int) (x2 : Int) (f : Mm) : Option (Int × Mm) := k23 x1 (w32 (x2 + 1)) f
set_option maxHeartbeats 4000000 in
set_option maxRecDepth 100000 in
theorem SX11_narrow_48 {G : GT} {l : Launch} {Q : Option AV → Mem → Prop} {k23 : Int → Int → Mm → Option (Int × Mm)} (q23 : ∀ (x1 : Int) (x2 : Int) (f : Mm), OkI Q (k23 x1 x2 f) → Ev G l MX11_narrow (Rm 6 0 0) (ZM G Q 0 0) 0 0 23 [some (vR 150), some (vI x1), some (vI x2)] [] (SH, RF, f)) (x1 : Int) (x2 : Int) (f : Mm) (h : OkI Q (FX11_narrow_48 k23 x1 x2 f)) : Ev G l MX11_narrow (Rm 6 0 0) (ZM G Q 0 0) 0 0 48 [some (vR 150), some (vI x1), some (vI x2)] [] (SH, RF, f) := by
  unfold FX11_narrow_48 at h
  refine ev_iinc (L' := [some (vR 150), some (vI x1), some (vI (w32 (x2 + 1)))]) dX11_narrow_48 rfl (by decide) rfl ?_
  refine ev_goto (tgt := 23) dX11_narrow_51 (by decide) ?_
  exact q23 x1 (w32 (x2 + 1)) _ h
def FX11_narrow_23  : Nat → Int → Int → Mm → Option (Int × Mm)
  | 0, _, _, _ => none
  | n + 1, x1, x2, f => (b2 (FX11_days f) fun y1 f1 => (if y1 ≤ x2 then some (x1, f1) else (if 0 ≤ x2 ∧ x2 < 6 then (if 0 ≤ x1 ∧ x1 < 6 then (if (f1 164 x1.toNat) ≤ (f1 164 x2.toNat) then FX11_narrow_48 (FX11_narrow_23 n) x1 x2 f1 else FX11_narrow_48 (FX11_narrow_23 n) x2 x2 f1) else none) else none)))
set_option maxHeartbeats 4000000 in
set_option maxRecDepth 100000 in
theorem SX11_narrow_23 {G : GT} {l : Launch} {Q : Option AV → Mem → Prop}  : ∀ (n : Nat) (x1 : Int) (x2 : Int) (f : Mm), OkI Q (FX11_narrow_23  n x1 x2 f) → Ev G l MX11_narrow (Rm 6 0 0) (ZM G Q 0 0) 0 0 23 [some (vR 150), some (vI x1), some (vI x2)] [] (SH, RF, f) := by
  intro n
  induction n with
  | zero => intro x1 x2 f h; exact absurd h (by rw [FX11_narrow_23]; exact fun q => q)
  | succ n ih =>
    intro x1 x2 f h
    rw [FX11_narrow_23] at h
    refine ev_iload_n (i := 2) dX11_narrow_23 rfl rfl ?_
    refine ev_aload_n (i := 0) dX11_narrow_24 rfl rfl ?_
    refine ev_cVI (b := 150) (av := []) (S := [vI x2]) (fun q => q) h dX11_narrow_25 (fun Q' q => TX11_days _ q) kvX11_days ml_X11_266 sh_150 rfl (RRc (by decide) (by decide)) (Nat.le_of_ble_eq_true rfl) ⟨Nat.le_of_ble_eq_true rfl, Nat.le_of_ble_eq_true rfl⟩ (fun y1 f1 h => ?_)
    refine ev_icmp_ge (tgt := 54) dX11_narrow_28 (by decide) (fun c5 => ?_) (fun c5 => ?_)
    · rw [if_pos c5] at h
      refine ev_iload_n (i := 1) dX11_narrow_54 rfl rfl ?_
      exact ev_iret rfl dX11_narrow_55 h
    · rw [if_neg c5] at h
      refine ev_aload_n (i := 0) dX11_narrow_31 rfl rfl ?_
      refine ev_getR dX11_narrow_32 fl_X11_56 sh_150 (by decide) (by decide) rf_150_26 ?_
      refine ev_iload_n (i := 2) dX11_narrow_35 rfl rfl ?_
      by_cases g2 : 0 ≤ x2 ∧ x2 < 6
      · rw [if_pos g2] at h
        refine ex_iald (x := (f1 164 x2.toNat)) dX11_narrow_36 sh_164 g2.1 g2.2 rfl ?_
        refine ev_aload_n (i := 0) dX11_narrow_37 rfl rfl ?_
        refine ev_getR dX11_narrow_38 fl_X11_56 sh_150 (by decide) (by decide) rf_150_26 ?_
        refine ev_iload_n (i := 1) dX11_narrow_41 rfl rfl ?_
        by_cases g3 : 0 ≤ x1 ∧ x1 < 6
        · rw [if_pos g3] at h
          refine ex_iald (x := (f1 164 x1.toNat)) dX11_narrow_42 sh_164 g3.1 g3.2 rfl ?_
          refine ev_icmp_ge (tgt := 48) dX11_narrow_43 (by decide) (fun c4 => ?_) (fun c4 => ?_)
          · rw [if_pos c4] at h
            exact SX11_narrow_48 ih x1 x2 _ h
          · rw [if_neg c4] at h
            refine ev_iload_n (i := 2) dX11_narrow_46 rfl rfl ?_
            refine ev_istore_n (i := 1) (L' := [some (vR 150), some (vI x2), some (vI x2)]) dX11_narrow_47 rfl (by decide) rfl ?_
            exact SX11_narrow_48 ih x2 x2 _ h
        · rw [if_neg g3] at h; exact h.elim
      · rw [if_neg g2] at h; exact h.elim
def FX11_narrow_0   (f : Mm) : Option (Int × Mm) := (b2 (FX11_isBridge (up f 150 0 0)) fun y1 f1 => (if y1 = 0 then some ((-2), f1) else ((FX11_laysNow f1).bind fun f2 => FX11_narrow_23 fu 0 1 f2)))
set_option maxHeartbeats 4000000 in
set_option maxRecDepth 100000 in
theorem SX11_narrow_0 {G : GT} {l : Launch} {Q : Option AV → Mem → Prop}   (f : Mm) (h : OkI Q (FX11_narrow_0   f)) : Ev G l MX11_narrow (Rm 6 0 0) (ZM G Q 0 0) 0 0 0 [some (vR 150), none, none] [] (SH, RF, f) := by
  unfold FX11_narrow_0 at h
  refine ev_aload_n (i := 0) dX11_narrow_0 rfl rfl ?_
  refine ev_iconst dX11_narrow_1 (r32c rfl) ?_
  refine ev_putI dX11_narrow_2 fl_X11_98 sh_150 (by decide) (by decide) ?_
  refine ev_aload_n (i := 0) dX11_narrow_5 rfl rfl ?_
  refine ev_cVI (b := 150) (av := []) (S := []) (fun q => q) h dX11_narrow_6 (fun Q' q => TX11_isBridge _ q) kvX11_isBridge ml_X11_272 sh_150 rfl (RRc (by decide) (by decide)) (Nat.le_of_ble_eq_true rfl) ⟨Nat.le_of_ble_eq_true rfl, Nat.le_of_ble_eq_true rfl⟩ (fun y1 f1 h => ?_)
  refine ev_if_ne (tgt := 15) dX11_narrow_9 (by decide) (fun c3 => ?_) (fun c3 => ?_)
  · rw [if_neg c3] at h
    refine ev_aload_n (i := 0) dX11_narrow_15 rfl rfl ?_
    refine ev_cVV (b := 150) (av := []) (S := []) (fun q => q) h dX11_narrow_16 (fun Q' q => TX11_laysNow _ q) kvX11_laysNow ml_X11_301 sh_150 rfl (RRc (by decide) (by decide)) (Nat.le_of_ble_eq_true rfl) ⟨Nat.le_of_ble_eq_true rfl, Nat.le_of_ble_eq_true rfl⟩ (fun f2 h => ?_)
    refine ev_iconst dX11_narrow_19 (r32c rfl) ?_
    refine ev_istore_n (i := 1) (L' := [some (vR 150), some (vI 0), none]) dX11_narrow_20 rfl (by decide) rfl ?_
    refine ev_iconst dX11_narrow_21 (r32c rfl) ?_
    refine ev_istore_n (i := 2) (L' := [some (vR 150), some (vI 0), some (vI 1)]) dX11_narrow_22 rfl (by decide) rfl ?_
    exact SX11_narrow_23  fu 0 1 _ h
  · rw [if_pos c3] at h
    refine ev_bipush (v := (-2)) dX11_narrow_12 (r32c rfl) (by decide) ?_
    exact ev_iret rfl dX11_narrow_14 h
def FX11_narrow  (f : Mm) : Option (Int × Mm) := FX11_narrow_0  f
set_option maxRecDepth 100000 in
theorem TX11_narrow {G : GT} {l : Launch} {Q : Option AV → Mem → Prop}  (f : Mm) (h : OkI Q (FX11_narrow  f)) : Ret G l MX11_narrow (6) 0 0 [vR 150] (SH, RF, f) Q := by
  refine ret_of (L := [some (vR 150), none, none]) (by decide) rfl (Nat.le_of_ble_eq_true rfl) ?_
  exact SX11_narrow_0  f h
theorem dX11_shut_48 : decode cX11_shut 48 = .ok (.ior, 1) := by decide +kernel
theorem dX11_shut_49 : decode cX11_shut 49 = .ok (.istore_n 1, 1) := by decide +kernel
theorem dX11_shut_50 : decode cX11_shut 50 = .ok (.iinc 2 1, 3) := by decide +kernel
theorem dX11_shut_53 : decode cX11_shut 53 = .ok (.goto (-30), 3) := by decide +kernel
theorem dX11_shut_23 : decode cX11_shut 23 = .ok (.iload_n 2, 1) := by decide +kernel
theorem dX11_shut_24 : decode cX11_shut 24 = .ok (.aload_n 0, 1) := by decide +kernel
theorem dX11_shut_25 : decode cX11_shut 25 = .ok (.invokevirtual 266, 3) := by decide +kernel
theorem dX11_shut_28 : decode cX11_shut 28 = .ok (.if_icmp .ge 28, 3) := by decide +kernel
theorem dX11_shut_56 : decode cX11_shut 56 = .ok (.iload_n 1, 1) := by decide +kernel
theorem dX11_shut_57 : decode cX11_shut 57 = .ok (.ireturn, 1) := by decide +kernel
theorem dX11_shut_31 : decode cX11_shut 31 = .ok (.iload_n 1, 1) := by decide +kernel
theorem dX11_shut_32 : decode cX11_shut 32 = .ok (.aload_n 0, 1) := by decide +kernel
theorem dX11_shut_33 : decode cX11_shut 33 = .ok (.getfield 56, 3) := by decide +kernel
theorem dX11_shut_36 : decode cX11_shut 36 = .ok (.iload_n 2, 1) := by decide +kernel
theorem dX11_shut_37 : decode cX11_shut 37 = .ok (.iaload, 1) := by decide +kernel
theorem dX11_shut_38 : decode cX11_shut 38 = .ok (.ifCond .ne 9, 3) := by decide +kernel
theorem dX11_shut_47 : decode cX11_shut 47 = .ok (.iconst 0, 1) := by decide +kernel
theorem dX11_shut_41 : decode cX11_shut 41 = .ok (.iconst 1, 1) := by decide +kernel
theorem dX11_shut_42 : decode cX11_shut 42 = .ok (.iload_n 2, 1) := by decide +kernel
theorem dX11_shut_43 : decode cX11_shut 43 = .ok (.ishl, 1) := by decide +kernel
theorem dX11_shut_44 : decode cX11_shut 44 = .ok (.goto 4, 3) := by decide +kernel
theorem dX11_shut_0 : decode cX11_shut 0 = .ok (.aload_n 0, 1) := by decide +kernel
theorem dX11_shut_1 : decode cX11_shut 1 = .ok (.iconst 0, 1) := by decide +kernel
theorem dX11_shut_2 : decode cX11_shut 2 = .ok (.putfield 98, 3) := by decide +kernel
theorem dX11_shut_5 : decode cX11_shut 5 = .ok (.aload_n 0, 1) := by decide +kernel
theorem dX11_shut_6 : decode cX11_shut 6 = .ok (.invokevirtual 272, 3) := by decide +kernel
theorem dX11_shut_9 : decode cX11_shut 9 = .ok (.ifCond .ne 6, 3) := by decide +kernel
theorem dX11_shut_15 : decode cX11_shut 15 = .ok (.aload_n 0, 1) := by decide +kernel
theorem dX11_shut_16 : decode cX11_shut 16 = .ok (.invokevirtual 301, 3) := by decide +kernel
theorem dX11_shut_19 : decode cX11_shut 19 = .ok (.iconst 0, 1) := by decide +kernel
theorem dX11_shut_20 : decode cX11_shut 20 = .ok (.istore_n 1, 1) := by decide +kernel
theorem dX11_shut_21 : decode cX11_shut 21 = .ok (.iconst 0, 1) := by decide +kernel
theorem dX11_shut_22 : decode cX11_shut 22 = .ok (.istore_n 2, 1) := by decide +kernel
theorem dX11_shut_12 : decode cX11_shut 12 = .ok (.bipush (-2), 2) := by decide +kernel
theorem dX11_shut_14 : decode cX11_shut 14 = .ok (.ireturn, 1) := by decide +kernel
def FX11_shut_48 (k23 : Int → Int → Mm → Option (Int × Mm)) (x2 : Int) (s0 : Int) (s1 : Int) (f : Mm) : Option (Int × Mm) := k23 (bOr s0 s1) (w32 (x2 + 1)) f
set_option maxHeartbeats 4000000 in
set_option maxRecDepth 100000 in
theorem SX11_shut_48 {G : GT} {l : Launch} {Q : Option AV → Mem → Prop} {k23 : Int → Int → Mm → Option (Int × Mm)} (q23 : ∀ (x1 : Int) (x2 : Int) (f : Mm), OkI Q (k23 x1 x2 f) → Ev G l MX11_shut (Rm 6 0 0) (ZM G Q 0 0) 0 0 23 [some (vR 150), some (vI x1), some (vI x2)] [] (SH, RF, f)) (x2 : Int) (s0 : Int) (s1 : Int) (f : Mm) (h : OkI Q (FX11_shut_48 k23 x2 s0 s1 f)) : Ev G l MX11_shut (Rm 6 0 0) (ZM G Q 0 0) 0 0 48 [some (vR 150), none, some (vI x2)] [vI s1, vI s0] (SH, RF, f) := by
  unfold FX11_shut_48 at h
  refine ev_ior dX11_shut_48 ?_
  refine ev_istore_n (i := 1) (L' := [some (vR 150), some (vI (bOr s0 s1)), some (vI x2)]) dX11_shut_49 rfl (by decide) rfl ?_
  refine ev_iinc (L' := [some (vR 150), some (vI (bOr s0 s1)), some (vI (w32 (x2 + 1)))]) dX11_shut_50 rfl (by decide) rfl ?_
  refine ev_goto (tgt := 23) dX11_shut_53 (by decide) ?_
  exact q23 (bOr s0 s1) (w32 (x2 + 1)) _ h
def FX11_shut_23  : Nat → Int → Int → Mm → Option (Int × Mm)
  | 0, _, _, _ => none
  | n + 1, x1, x2, f => (b2 (FX11_days f) fun y1 f1 => (if y1 ≤ x2 then some (x1, f1) else (if 0 ≤ x2 ∧ x2 < 6 then (if (f1 164 x2.toNat) = 0 then FX11_shut_48 (FX11_shut_23 n) x2 x1 (bShl 1 x2) f1 else FX11_shut_48 (FX11_shut_23 n) x2 x1 0 f1) else none)))
set_option maxHeartbeats 4000000 in
set_option maxRecDepth 100000 in
theorem SX11_shut_23 {G : GT} {l : Launch} {Q : Option AV → Mem → Prop}  : ∀ (n : Nat) (x1 : Int) (x2 : Int) (f : Mm), OkI Q (FX11_shut_23  n x1 x2 f) → Ev G l MX11_shut (Rm 6 0 0) (ZM G Q 0 0) 0 0 23 [some (vR 150), some (vI x1), some (vI x2)] [] (SH, RF, f) := by
  intro n
  induction n with
  | zero => intro x1 x2 f h; exact absurd h (by rw [FX11_shut_23]; exact fun q => q)
  | succ n ih =>
    intro x1 x2 f h
    rw [FX11_shut_23] at h
    refine ev_iload_n (i := 2) dX11_shut_23 rfl rfl ?_
    refine ev_aload_n (i := 0) dX11_shut_24 rfl rfl ?_
    refine ev_cVI (b := 150) (av := []) (S := [vI x2]) (fun q => q) h dX11_shut_25 (fun Q' q => TX11_days _ q) kvX11_days ml_X11_266 sh_150 rfl (RRc (by decide) (by decide)) (Nat.le_of_ble_eq_true rfl) ⟨Nat.le_of_ble_eq_true rfl, Nat.le_of_ble_eq_true rfl⟩ (fun y1 f1 h => ?_)
    refine ev_icmp_ge (tgt := 56) dX11_shut_28 (by decide) (fun c4 => ?_) (fun c4 => ?_)
    · rw [if_pos c4] at h
      refine ev_iload_n (i := 1) dX11_shut_56 rfl rfl ?_
      exact ev_iret rfl dX11_shut_57 h
    · rw [if_neg c4] at h
      refine ev_iload_n (i := 1) dX11_shut_31 rfl rfl ?_
      refine ev_aload_n (i := 0) dX11_shut_32 rfl rfl ?_
      refine ev_getR dX11_shut_33 fl_X11_56 sh_150 (by decide) (by decide) rf_150_26 ?_
      refine ev_iload_n (i := 2) dX11_shut_36 rfl rfl ?_
      by_cases g2 : 0 ≤ x2 ∧ x2 < 6
      · rw [if_pos g2] at h
        refine ex_iald (x := (f1 164 x2.toNat)) dX11_shut_37 sh_164 g2.1 g2.2 rfl ?_
        refine ev_if_ne (tgt := 47) dX11_shut_38 (by decide) (fun c3 => ?_) (fun c3 => ?_)
        · rw [if_neg c3] at h
          refine ev_iconst dX11_shut_47 (r32c rfl) ?_
          refine ev_fg [true, false, true] rfl ?_
          exact SX11_shut_48 ih x2 x1 0 _ h
        · rw [if_pos c3] at h
          refine ev_iconst dX11_shut_41 (r32c rfl) ?_
          refine ev_iload_n (i := 2) dX11_shut_42 rfl rfl ?_
          refine ev_ishl dX11_shut_43 ?_
          refine ev_goto (tgt := 48) dX11_shut_44 (by decide) ?_
          refine ev_fg [true, false, true] rfl ?_
          exact SX11_shut_48 ih x2 x1 (bShl 1 x2) _ h
      · rw [if_neg g2] at h; exact h.elim
def FX11_shut_0   (f : Mm) : Option (Int × Mm) := (b2 (FX11_isBridge (up f 150 0 0)) fun y1 f1 => (if y1 = 0 then some ((-2), f1) else ((FX11_laysNow f1).bind fun f2 => FX11_shut_23 fu 0 0 f2)))
set_option maxHeartbeats 4000000 in
set_option maxRecDepth 100000 in
theorem SX11_shut_0 {G : GT} {l : Launch} {Q : Option AV → Mem → Prop}   (f : Mm) (h : OkI Q (FX11_shut_0   f)) : Ev G l MX11_shut (Rm 6 0 0) (ZM G Q 0 0) 0 0 0 [some (vR 150), none, none] [] (SH, RF, f) := by
  unfold FX11_shut_0 at h
  refine ev_aload_n (i := 0) dX11_shut_0 rfl rfl ?_
  refine ev_iconst dX11_shut_1 (r32c rfl) ?_
  refine ev_putI dX11_shut_2 fl_X11_98 sh_150 (by decide) (by decide) ?_
  refine ev_aload_n (i := 0) dX11_shut_5 rfl rfl ?_
  refine ev_cVI (b := 150) (av := []) (S := []) (fun q => q) h dX11_shut_6 (fun Q' q => TX11_isBridge _ q) kvX11_isBridge ml_X11_272 sh_150 rfl (RRc (by decide) (by decide)) (Nat.le_of_ble_eq_true rfl) ⟨Nat.le_of_ble_eq_true rfl, Nat.le_of_ble_eq_true rfl⟩ (fun y1 f1 h => ?_)
  refine ev_if_ne (tgt := 15) dX11_shut_9 (by decide) (fun c3 => ?_) (fun c3 => ?_)
  · rw [if_neg c3] at h
    refine ev_aload_n (i := 0) dX11_shut_15 rfl rfl ?_
    refine ev_cVV (b := 150) (av := []) (S := []) (fun q => q) h dX11_shut_16 (fun Q' q => TX11_laysNow _ q) kvX11_laysNow ml_X11_301 sh_150 rfl (RRc (by decide) (by decide)) (Nat.le_of_ble_eq_true rfl) ⟨Nat.le_of_ble_eq_true rfl, Nat.le_of_ble_eq_true rfl⟩ (fun f2 h => ?_)
    refine ev_iconst dX11_shut_19 (r32c rfl) ?_
    refine ev_istore_n (i := 1) (L' := [some (vR 150), some (vI 0), none]) dX11_shut_20 rfl (by decide) rfl ?_
    refine ev_iconst dX11_shut_21 (r32c rfl) ?_
    refine ev_istore_n (i := 2) (L' := [some (vR 150), some (vI 0), some (vI 0)]) dX11_shut_22 rfl (by decide) rfl ?_
    exact SX11_shut_23  fu 0 0 _ h
  · rw [if_pos c3] at h
    refine ev_bipush (v := (-2)) dX11_shut_12 (r32c rfl) (by decide) ?_
    exact ev_iret rfl dX11_shut_14 h
def FX11_shut  (f : Mm) : Option (Int × Mm) := FX11_shut_0  f
set_option maxRecDepth 100000 in
theorem TX11_shut {G : GT} {l : Launch} {Q : Option AV → Mem → Prop}  (f : Mm) (h : OkI Q (FX11_shut  f)) : Ret G l MX11_shut (6) 0 0 [vR 150] (SH, RF, f) Q := by
  refine ret_of (L := [some (vR 150), none, none]) (by decide) rfl (Nat.le_of_ble_eq_true rfl) ?_
  exact SX11_shut_0  f h
theorem dX11_passes__0 : decode cX11_passes_ 0 = .ok (.aload_n 0, 1) := by decide +kernel
theorem dX11_passes__1 : decode cX11_passes_ 1 = .ok (.iconst 0, 1) := by decide +kernel
theorem dX11_passes__2 : decode cX11_passes_ 2 = .ok (.putfield 98, 3) := by decide +kernel
theorem dX11_passes__5 : decode cX11_passes_ 5 = .ok (.aload_n 0, 1) := by decide +kernel
theorem dX11_passes__6 : decode cX11_passes_ 6 = .ok (.iload_n 1, 1) := by decide +kernel
theorem dX11_passes__7 : decode cX11_passes_ 7 = .ok (.invokevirtual 316, 3) := by decide +kernel
theorem dX11_passes__10 : decode cX11_passes_ 10 = .ok (.ifCond .ne 6, 3) := by decide +kernel
theorem dX11_passes__16 : decode cX11_passes_ 16 = .ok (.aload_n 0, 1) := by decide +kernel
theorem dX11_passes__17 : decode cX11_passes_ 17 = .ok (.invokevirtual 327, 3) := by decide +kernel
theorem dX11_passes__20 : decode cX11_passes_ 20 = .ok (.aload_n 0, 1) := by decide +kernel
theorem dX11_passes__21 : decode cX11_passes_ 21 = .ok (.getfield 65, 3) := by decide +kernel
theorem dX11_passes__24 : decode cX11_passes_ 24 = .ok (.iload_n 1, 1) := by decide +kernel
theorem dX11_passes__25 : decode cX11_passes_ 25 = .ok (.iaload, 1) := by decide +kernel
theorem dX11_passes__26 : decode cX11_passes_ 26 = .ok (.ireturn, 1) := by decide +kernel
theorem dX11_passes__13 : decode cX11_passes_ 13 = .ok (.bipush (-2), 2) := by decide +kernel
theorem dX11_passes__15 : decode cX11_passes_ 15 = .ok (.ireturn, 1) := by decide +kernel
def FX11_passes__0  (x1 : Int) (f : Mm) : Option (Int × Mm) := (b2 (FX11_isCart x1 (up f 150 0 0)) fun y1 f1 => (if y1 = 0 then some ((-2), f1) else ((FX11_laysPassed f1).bind fun f2 => (if 0 ≤ x1 ∧ x1 < 6 then some ((f2 167 x1.toNat), f2) else none))))
set_option maxHeartbeats 4000000 in
set_option maxRecDepth 100000 in
theorem SX11_passes__0 {G : GT} {l : Launch} {Q : Option AV → Mem → Prop}  (x1 : Int) (f : Mm) (h : OkI Q (FX11_passes__0  x1 f)) : Ev G l MX11_passes_ (Rm 7 0 0) (ZM G Q 0 0) 0 0 0 [some (vR 150), some (vI x1)] [] (SH, RF, f) := by
  unfold FX11_passes__0 at h
  refine ev_aload_n (i := 0) dX11_passes__0 rfl rfl ?_
  refine ev_iconst dX11_passes__1 (r32c rfl) ?_
  refine ev_putI dX11_passes__2 fl_X11_98 sh_150 (by decide) (by decide) ?_
  refine ev_aload_n (i := 0) dX11_passes__5 rfl rfl ?_
  refine ev_iload_n (i := 1) dX11_passes__6 rfl rfl ?_
  refine ev_cVI (b := 150) (av := [vI x1]) (S := []) (fun q => q) h dX11_passes__7 (fun Q' q => TX11_isCart x1 _ q) kvX11_isCart ml_X11_316 sh_150 rfl (RRc (by decide) (by decide)) (Nat.le_of_ble_eq_true rfl) ⟨Nat.le_of_ble_eq_true rfl, Nat.le_of_ble_eq_true rfl⟩ (fun y1 f1 h => ?_)
  refine ev_if_ne (tgt := 16) dX11_passes__10 (by decide) (fun c4 => ?_) (fun c4 => ?_)
  · rw [if_neg c4] at h
    refine ev_aload_n (i := 0) dX11_passes__16 rfl rfl ?_
    refine ev_cVV (b := 150) (av := []) (S := []) (fun q => q) h dX11_passes__17 (fun Q' q => TX11_laysPassed _ q) kvX11_laysPassed ml_X11_327 sh_150 rfl (RRc (by decide) (by decide)) (Nat.le_of_ble_eq_true rfl) ⟨Nat.le_of_ble_eq_true rfl, Nat.le_of_ble_eq_true rfl⟩ (fun f2 h => ?_)
    refine ev_aload_n (i := 0) dX11_passes__20 rfl rfl ?_
    refine ev_getR dX11_passes__21 fl_X11_65 sh_150 (by decide) (by decide) rf_150_29 ?_
    refine ev_iload_n (i := 1) dX11_passes__24 rfl rfl ?_
    by_cases g3 : 0 ≤ x1 ∧ x1 < 6
    · rw [if_pos g3] at h
      refine ex_iald (x := (f2 167 x1.toNat)) dX11_passes__25 sh_167 g3.1 g3.2 rfl ?_
      exact ev_iret rfl dX11_passes__26 h
    · rw [if_neg g3] at h; exact h.elim
  · rw [if_pos c4] at h
    refine ev_bipush (v := (-2)) dX11_passes__13 (r32c rfl) (by decide) ?_
    exact ev_iret rfl dX11_passes__15 h
def FX11_passes_ (x1 : Int) (f : Mm) : Option (Int × Mm) := FX11_passes__0 x1 f
set_option maxRecDepth 100000 in
theorem TX11_passes_ {G : GT} {l : Launch} {Q : Option AV → Mem → Prop} (x1 : Int) (f : Mm) (h : OkI Q (FX11_passes_ x1 f)) : Ret G l MX11_passes_ (7) 0 0 [vR 150, vI x1] (SH, RF, f) Q := by
  refine ret_of (L := [some (vR 150), some (vI x1)]) (by decide) rfl (Nat.le_of_ble_eq_true rfl) ?_
  exact SX11_passes__0 x1 f h
theorem dX11_over_51 : decode cX11_over 51 = .ok (.ior, 1) := by decide +kernel
theorem dX11_over_52 : decode cX11_over 52 = .ok (.istore_n 2, 1) := by decide +kernel
theorem dX11_over_53 : decode cX11_over 53 = .ok (.iinc 3 1, 3) := by decide +kernel
theorem dX11_over_56 : decode cX11_over 56 = .ok (.goto (-31), 3) := by decide +kernel
theorem dX11_over_25 : decode cX11_over 25 = .ok (.iload_n 3, 1) := by decide +kernel
theorem dX11_over_26 : decode cX11_over 26 = .ok (.aload_n 0, 1) := by decide +kernel
theorem dX11_over_27 : decode cX11_over 27 = .ok (.invokevirtual 269, 3) := by decide +kernel
theorem dX11_over_30 : decode cX11_over 30 = .ok (.if_icmp .ge 29, 3) := by decide +kernel
theorem dX11_over_59 : decode cX11_over 59 = .ok (.iload_n 2, 1) := by decide +kernel
theorem dX11_over_60 : decode cX11_over 60 = .ok (.ireturn, 1) := by decide +kernel
theorem dX11_over_33 : decode cX11_over 33 = .ok (.iload_n 2, 1) := by decide +kernel
theorem dX11_over_34 : decode cX11_over 34 = .ok (.aload_n 0, 1) := by decide +kernel
theorem dX11_over_35 : decode cX11_over 35 = .ok (.getfield 65, 3) := by decide +kernel
theorem dX11_over_38 : decode cX11_over 38 = .ok (.iload_n 3, 1) := by decide +kernel
theorem dX11_over_39 : decode cX11_over 39 = .ok (.iaload, 1) := by decide +kernel
theorem dX11_over_40 : decode cX11_over 40 = .ok (.iload_n 1, 1) := by decide +kernel
theorem dX11_over_41 : decode cX11_over 41 = .ok (.if_icmp .ne 9, 3) := by decide +kernel
theorem dX11_over_50 : decode cX11_over 50 = .ok (.iconst 0, 1) := by decide +kernel
theorem dX11_over_44 : decode cX11_over 44 = .ok (.iconst 1, 1) := by decide +kernel
theorem dX11_over_45 : decode cX11_over 45 = .ok (.iload_n 3, 1) := by decide +kernel
theorem dX11_over_46 : decode cX11_over 46 = .ok (.ishl, 1) := by decide +kernel
theorem dX11_over_47 : decode cX11_over 47 = .ok (.goto 4, 3) := by decide +kernel
theorem dX11_over_0 : decode cX11_over 0 = .ok (.aload_n 0, 1) := by decide +kernel
theorem dX11_over_1 : decode cX11_over 1 = .ok (.iconst 0, 1) := by decide +kernel
theorem dX11_over_2 : decode cX11_over 2 = .ok (.putfield 98, 3) := by decide +kernel
theorem dX11_over_5 : decode cX11_over 5 = .ok (.aload_n 0, 1) := by decide +kernel
theorem dX11_over_6 : decode cX11_over 6 = .ok (.iload_n 1, 1) := by decide +kernel
theorem dX11_over_7 : decode cX11_over 7 = .ok (.i2l, 1) := by decide +kernel
theorem dX11_over_8 : decode cX11_over 8 = .ok (.invokevirtual 324, 3) := by decide +kernel
theorem dX11_over_11 : decode cX11_over 11 = .ok (.ifCond .ne 6, 3) := by decide +kernel
theorem dX11_over_17 : decode cX11_over 17 = .ok (.aload_n 0, 1) := by decide +kernel
theorem dX11_over_18 : decode cX11_over 18 = .ok (.invokevirtual 327, 3) := by decide +kernel
theorem dX11_over_21 : decode cX11_over 21 = .ok (.iconst 0, 1) := by decide +kernel
theorem dX11_over_22 : decode cX11_over 22 = .ok (.istore_n 2, 1) := by decide +kernel
theorem dX11_over_23 : decode cX11_over 23 = .ok (.iconst 0, 1) := by decide +kernel
theorem dX11_over_24 : decode cX11_over 24 = .ok (.istore_n 3, 1) := by decide +kernel
theorem dX11_over_14 : decode cX11_over 14 = .ok (.bipush (-2), 2) := by decide +kernel
theorem dX11_over_16 : decode cX11_over 16 = .ok (.ireturn, 1) := by decide +kernel
def FX11_over_51 (k25 : Int → Int → Int → Mm → Option (Int × Mm)) (x1 : Int) (x3 : Int) (s0 : Int) (s1 : Int) (f : Mm) : Option (Int × Mm) := k25 x1 (bOr s0 s1) (w32 (x3 + 1)) f
set_option maxHeartbeats 4000000 in
set_option maxRecDepth 100000 in
theorem SX11_over_51 {G : GT} {l : Launch} {Q : Option AV → Mem → Prop} {k25 : Int → Int → Int → Mm → Option (Int × Mm)} (q25 : ∀ (x1 : Int) (x2 : Int) (x3 : Int) (f : Mm), OkI Q (k25 x1 x2 x3 f) → Ev G l MX11_over (Rm 7 0 0) (ZM G Q 0 0) 0 0 25 [some (vR 150), some (vI x1), some (vI x2), some (vI x3)] [] (SH, RF, f)) (x1 : Int) (x3 : Int) (s0 : Int) (s1 : Int) (f : Mm) (h : OkI Q (FX11_over_51 k25 x1 x3 s0 s1 f)) : Ev G l MX11_over (Rm 7 0 0) (ZM G Q 0 0) 0 0 51 [some (vR 150), some (vI x1), none, some (vI x3)] [vI s1, vI s0] (SH, RF, f) := by
  unfold FX11_over_51 at h
  refine ev_ior dX11_over_51 ?_
  refine ev_istore_n (i := 2) (L' := [some (vR 150), some (vI x1), some (vI (bOr s0 s1)), some (vI x3)]) dX11_over_52 rfl (by decide) rfl ?_
  refine ev_iinc (L' := [some (vR 150), some (vI x1), some (vI (bOr s0 s1)), some (vI (w32 (x3 + 1)))]) dX11_over_53 rfl (by decide) rfl ?_
  refine ev_goto (tgt := 25) dX11_over_56 (by decide) ?_
  exact q25 x1 (bOr s0 s1) (w32 (x3 + 1)) _ h
def FX11_over_25  : Nat → Int → Int → Int → Mm → Option (Int × Mm)
  | 0, _, _, _, _ => none
  | n + 1, x1, x2, x3, f => (b2 (FX11_carts f) fun y1 f1 => (if y1 ≤ x3 then some (x2, f1) else (if 0 ≤ x3 ∧ x3 < 6 then (if (f1 167 x3.toNat) = x1 then FX11_over_51 (FX11_over_25 n) x1 x3 x2 (bShl 1 x3) f1 else FX11_over_51 (FX11_over_25 n) x1 x3 x2 0 f1) else none)))
set_option maxHeartbeats 4000000 in
set_option maxRecDepth 100000 in
theorem SX11_over_25 {G : GT} {l : Launch} {Q : Option AV → Mem → Prop}  : ∀ (n : Nat) (x1 : Int) (x2 : Int) (x3 : Int) (f : Mm), OkI Q (FX11_over_25  n x1 x2 x3 f) → Ev G l MX11_over (Rm 7 0 0) (ZM G Q 0 0) 0 0 25 [some (vR 150), some (vI x1), some (vI x2), some (vI x3)] [] (SH, RF, f) := by
  intro n
  induction n with
  | zero => intro x1 x2 x3 f h; exact absurd h (by rw [FX11_over_25]; exact fun q => q)
  | succ n ih =>
    intro x1 x2 x3 f h
    rw [FX11_over_25] at h
    refine ev_iload_n (i := 3) dX11_over_25 rfl rfl ?_
    refine ev_aload_n (i := 0) dX11_over_26 rfl rfl ?_
    refine ev_cVI (b := 150) (av := []) (S := [vI x3]) (fun q => q) h dX11_over_27 (fun Q' q => TX11_carts _ q) kvX11_carts ml_X11_269 sh_150 rfl (RRc (by decide) (by decide)) (Nat.le_of_ble_eq_true rfl) ⟨Nat.le_of_ble_eq_true rfl, Nat.le_of_ble_eq_true rfl⟩ (fun y1 f1 h => ?_)
    refine ev_icmp_ge (tgt := 59) dX11_over_30 (by decide) (fun c4 => ?_) (fun c4 => ?_)
    · rw [if_pos c4] at h
      refine ev_iload_n (i := 2) dX11_over_59 rfl rfl ?_
      exact ev_iret rfl dX11_over_60 h
    · rw [if_neg c4] at h
      refine ev_iload_n (i := 2) dX11_over_33 rfl rfl ?_
      refine ev_aload_n (i := 0) dX11_over_34 rfl rfl ?_
      refine ev_getR dX11_over_35 fl_X11_65 sh_150 (by decide) (by decide) rf_150_29 ?_
      refine ev_iload_n (i := 3) dX11_over_38 rfl rfl ?_
      by_cases g2 : 0 ≤ x3 ∧ x3 < 6
      · rw [if_pos g2] at h
        refine ex_iald (x := (f1 167 x3.toNat)) dX11_over_39 sh_167 g2.1 g2.2 rfl ?_
        refine ev_iload_n (i := 1) dX11_over_40 rfl rfl ?_
        refine ev_icmp_ne (tgt := 50) dX11_over_41 (by decide) (fun c3 => ?_) (fun c3 => ?_)
        · rw [if_neg c3] at h
          refine ev_iconst dX11_over_50 (r32c rfl) ?_
          refine ev_fg [true, true, false, true] rfl ?_
          exact SX11_over_51 ih x1 x3 x2 0 _ h
        · rw [if_pos c3] at h
          refine ev_iconst dX11_over_44 (r32c rfl) ?_
          refine ev_iload_n (i := 3) dX11_over_45 rfl rfl ?_
          refine ev_ishl dX11_over_46 ?_
          refine ev_goto (tgt := 51) dX11_over_47 (by decide) ?_
          refine ev_fg [true, true, false, true] rfl ?_
          exact SX11_over_51 ih x1 x3 x2 (bShl 1 x3) _ h
      · rw [if_neg g2] at h; exact h.elim
def FX11_over_0  (x1 : Int) (f : Mm) : Option (Int × Mm) := (b2 (FX11_isDay x1 (up f 150 0 0)) fun y1 f1 => (if y1 = 0 then some ((-2), f1) else ((FX11_laysPassed f1).bind fun f2 => FX11_over_25 fu x1 0 0 f2)))
set_option maxHeartbeats 4000000 in
set_option maxRecDepth 100000 in
theorem SX11_over_0 {G : GT} {l : Launch} {Q : Option AV → Mem → Prop}  (x1 : Int) (f : Mm) (h : OkI Q (FX11_over_0  x1 f)) : Ev G l MX11_over (Rm 7 0 0) (ZM G Q 0 0) 0 0 0 [some (vR 150), some (vI x1), none, none] [] (SH, RF, f) := by
  unfold FX11_over_0 at h
  refine ev_aload_n (i := 0) dX11_over_0 rfl rfl ?_
  refine ev_iconst dX11_over_1 (r32c rfl) ?_
  refine ev_putI dX11_over_2 fl_X11_98 sh_150 (by decide) (by decide) ?_
  refine ev_aload_n (i := 0) dX11_over_5 rfl rfl ?_
  refine ev_iload_n (i := 1) dX11_over_6 rfl rfl ?_
  refine ev_i2l dX11_over_7 ?_
  refine ev_cVI (b := 150) (av := [vJ x1]) (S := []) (fun q => q) h dX11_over_8 (fun Q' q => TX11_isDay x1 _ q) kvX11_isDay ml_X11_324 sh_150 rfl (RRc (by decide) (by decide)) (Nat.le_of_ble_eq_true rfl) ⟨Nat.le_of_ble_eq_true rfl, Nat.le_of_ble_eq_true rfl⟩ (fun y1 f1 h => ?_)
  refine ev_if_ne (tgt := 17) dX11_over_11 (by decide) (fun c3 => ?_) (fun c3 => ?_)
  · rw [if_neg c3] at h
    refine ev_aload_n (i := 0) dX11_over_17 rfl rfl ?_
    refine ev_cVV (b := 150) (av := []) (S := []) (fun q => q) h dX11_over_18 (fun Q' q => TX11_laysPassed _ q) kvX11_laysPassed ml_X11_327 sh_150 rfl (RRc (by decide) (by decide)) (Nat.le_of_ble_eq_true rfl) ⟨Nat.le_of_ble_eq_true rfl, Nat.le_of_ble_eq_true rfl⟩ (fun f2 h => ?_)
    refine ev_iconst dX11_over_21 (r32c rfl) ?_
    refine ev_istore_n (i := 2) (L' := [some (vR 150), some (vI x1), some (vI 0), none]) dX11_over_22 rfl (by decide) rfl ?_
    refine ev_iconst dX11_over_23 (r32c rfl) ?_
    refine ev_istore_n (i := 3) (L' := [some (vR 150), some (vI x1), some (vI 0), some (vI 0)]) dX11_over_24 rfl (by decide) rfl ?_
    exact SX11_over_25  fu x1 0 0 _ h
  · rw [if_pos c3] at h
    refine ev_bipush (v := (-2)) dX11_over_14 (r32c rfl) (by decide) ?_
    exact ev_iret rfl dX11_over_16 h
def FX11_over (x1 : Int) (f : Mm) : Option (Int × Mm) := FX11_over_0 x1 f
set_option maxRecDepth 100000 in
theorem TX11_over {G : GT} {l : Launch} {Q : Option AV → Mem → Prop} (x1 : Int) (f : Mm) (h : OkI Q (FX11_over x1 f)) : Ret G l MX11_over (7) 0 0 [vR 150, vI x1] (SH, RF, f) Q := by
  refine ret_of (L := [some (vR 150), some (vI x1), none, none]) (by decide) rfl (Nat.le_of_ble_eq_true rfl) ?_
  exact SX11_over_0 x1 f h
theorem dX11_waits_75 : decode cX11_waits 75 = .ok (.ior, 1) := by decide +kernel
theorem dX11_waits_76 : decode cX11_waits 76 = .ok (.istore_n 2, 1) := by decide +kernel
theorem dX11_waits_77 : decode cX11_waits 77 = .ok (.iinc 3 1, 3) := by decide +kernel
theorem dX11_waits_80 : decode cX11_waits 80 = .ok (.goto (-55), 3) := by decide +kernel
theorem dX11_waits_74 : decode cX11_waits 74 = .ok (.iconst 0, 1) := by decide +kernel
theorem dX11_waits_68 : decode cX11_waits 68 = .ok (.iconst 1, 1) := by decide +kernel
theorem dX11_waits_69 : decode cX11_waits 69 = .ok (.iload_n 3, 1) := by decide +kernel
theorem dX11_waits_70 : decode cX11_waits 70 = .ok (.ishl, 1) := by decide +kernel
theorem dX11_waits_71 : decode cX11_waits 71 = .ok (.goto 4, 3) := by decide +kernel
theorem dX11_waits_25 : decode cX11_waits 25 = .ok (.iload_n 3, 1) := by decide +kernel
theorem dX11_waits_26 : decode cX11_waits 26 = .ok (.aload_n 0, 1) := by decide +kernel
theorem dX11_waits_27 : decode cX11_waits 27 = .ok (.invokevirtual 269, 3) := by decide +kernel
theorem dX11_waits_30 : decode cX11_waits 30 = .ok (.if_icmp .ge 53, 3) := by decide +kernel
theorem dX11_waits_83 : decode cX11_waits 83 = .ok (.iload_n 2, 1) := by decide +kernel
theorem dX11_waits_84 : decode cX11_waits 84 = .ok (.ireturn, 1) := by decide +kernel
theorem dX11_waits_33 : decode cX11_waits 33 = .ok (.iload_n 2, 1) := by decide +kernel
theorem dX11_waits_34 : decode cX11_waits 34 = .ok (.aload_n 0, 1) := by decide +kernel
theorem dX11_waits_35 : decode cX11_waits 35 = .ok (.getfield 40, 3) := by decide +kernel
theorem dX11_waits_38 : decode cX11_waits 38 = .ok (.iconst 5, 1) := by decide +kernel
theorem dX11_waits_39 : decode cX11_waits 39 = .ok (.iload_n 3, 1) := by decide +kernel
theorem dX11_waits_40 : decode cX11_waits 40 = .ok (.imul, 1) := by decide +kernel
theorem dX11_waits_41 : decode cX11_waits 41 = .ok (.iconst 2, 1) := by decide +kernel
theorem dX11_waits_42 : decode cX11_waits 42 = .ok (.iadd, 1) := by decide +kernel
theorem dX11_waits_43 : decode cX11_waits 43 = .ok (.iaload, 1) := by decide +kernel
theorem dX11_waits_44 : decode cX11_waits 44 = .ok (.iload_n 1, 1) := by decide +kernel
theorem dX11_waits_45 : decode cX11_waits 45 = .ok (.if_icmp .gt 29, 3) := by decide +kernel
theorem dX11_waits_48 : decode cX11_waits 48 = .ok (.aload_n 0, 1) := by decide +kernel
theorem dX11_waits_49 : decode cX11_waits 49 = .ok (.getfield 65, 3) := by decide +kernel
theorem dX11_waits_52 : decode cX11_waits 52 = .ok (.iload_n 3, 1) := by decide +kernel
theorem dX11_waits_53 : decode cX11_waits 53 = .ok (.iaload, 1) := by decide +kernel
theorem dX11_waits_54 : decode cX11_waits 54 = .ok (.iconst (-1), 1) := by decide +kernel
theorem dX11_waits_55 : decode cX11_waits 55 = .ok (.if_icmp .eq 13, 3) := by decide +kernel
theorem dX11_waits_58 : decode cX11_waits 58 = .ok (.aload_n 0, 1) := by decide +kernel
theorem dX11_waits_59 : decode cX11_waits 59 = .ok (.getfield 65, 3) := by decide +kernel
theorem dX11_waits_62 : decode cX11_waits 62 = .ok (.iload_n 3, 1) := by decide +kernel
theorem dX11_waits_63 : decode cX11_waits 63 = .ok (.iaload, 1) := by decide +kernel
theorem dX11_waits_64 : decode cX11_waits 64 = .ok (.iload_n 1, 1) := by decide +kernel
theorem dX11_waits_65 : decode cX11_waits 65 = .ok (.if_icmp .le 9, 3) := by decide +kernel
theorem dX11_waits_0 : decode cX11_waits 0 = .ok (.aload_n 0, 1) := by decide +kernel
theorem dX11_waits_1 : decode cX11_waits 1 = .ok (.iconst 0, 1) := by decide +kernel
theorem dX11_waits_2 : decode cX11_waits 2 = .ok (.putfield 98, 3) := by decide +kernel
theorem dX11_waits_5 : decode cX11_waits 5 = .ok (.aload_n 0, 1) := by decide +kernel
theorem dX11_waits_6 : decode cX11_waits 6 = .ok (.iload_n 1, 1) := by decide +kernel
theorem dX11_waits_7 : decode cX11_waits 7 = .ok (.i2l, 1) := by decide +kernel
theorem dX11_waits_8 : decode cX11_waits 8 = .ok (.invokevirtual 324, 3) := by decide +kernel
theorem dX11_waits_11 : decode cX11_waits 11 = .ok (.ifCond .ne 6, 3) := by decide +kernel
theorem dX11_waits_17 : decode cX11_waits 17 = .ok (.aload_n 0, 1) := by decide +kernel
theorem dX11_waits_18 : decode cX11_waits 18 = .ok (.invokevirtual 327, 3) := by decide +kernel
theorem dX11_waits_21 : decode cX11_waits 21 = .ok (.iconst 0, 1) := by decide +kernel
theorem dX11_waits_22 : decode cX11_waits 22 = .ok (.istore_n 2, 1) := by decide +kernel
theorem dX11_waits_23 : decode cX11_waits 23 = .ok (.iconst 0, 1) := by decide +kernel
theorem dX11_waits_24 : decode cX11_waits 24 = .ok (.istore_n 3, 1) := by decide +kernel
theorem dX11_waits_14 : decode cX11_waits 14 = .ok (.bipush (-2), 2) := by decide +kernel
theorem dX11_waits_16 : decode cX11_waits 16 = .ok (.ireturn, 1) := by decide +kernel
def FX11_waits_75 (k25 : Int → Int → Int → Mm → Option (Int × Mm)) (x1 : Int) (x3 : Int) (s0 : Int) (s1 : Int) (f : Mm) : Option (Int × Mm) := k25 x1 (bOr s0 s1) (w32 (x3 + 1)) f
set_option maxHeartbeats 4000000 in
set_option maxRecDepth 100000 in
theorem SX11_waits_75 {G : GT} {l : Launch} {Q : Option AV → Mem → Prop} {k25 : Int → Int → Int → Mm → Option (Int × Mm)} (q25 : ∀ (x1 : Int) (x2 : Int) (x3 : Int) (f : Mm), OkI Q (k25 x1 x2 x3 f) → Ev G l MX11_waits (Rm 7 0 0) (ZM G Q 0 0) 0 0 25 [some (vR 150), some (vI x1), some (vI x2), some (vI x3)] [] (SH, RF, f)) (x1 : Int) (x3 : Int) (s0 : Int) (s1 : Int) (f : Mm) (h : OkI Q (FX11_waits_75 k25 x1 x3 s0 s1 f)) : Ev G l MX11_waits (Rm 7 0 0) (ZM G Q 0 0) 0 0 75 [some (vR 150), some (vI x1), none, some (vI x3)] [vI s1, vI s0] (SH, RF, f) := by
  unfold FX11_waits_75 at h
  refine ev_ior dX11_waits_75 ?_
  refine ev_istore_n (i := 2) (L' := [some (vR 150), some (vI x1), some (vI (bOr s0 s1)), some (vI x3)]) dX11_waits_76 rfl (by decide) rfl ?_
  refine ev_iinc (L' := [some (vR 150), some (vI x1), some (vI (bOr s0 s1)), some (vI (w32 (x3 + 1)))]) dX11_waits_77 rfl (by decide) rfl ?_
  refine ev_goto (tgt := 25) dX11_waits_80 (by decide) ?_
  exact q25 x1 (bOr s0 s1) (w32 (x3 + 1)) _ h
def FX11_waits_74 (k25 : Int → Int → Int → Mm → Option (Int × Mm)) (x1 : Int) (x3 : Int) (s0 : Int) (f : Mm) : Option (Int × Mm) := FX11_waits_75 k25 x1 x3 s0 0 f
set_option maxHeartbeats 4000000 in
set_option maxRecDepth 100000 in
theorem SX11_waits_74 {G : GT} {l : Launch} {Q : Option AV → Mem → Prop} {k25 : Int → Int → Int → Mm → Option (Int × Mm)} (q25 : ∀ (x1 : Int) (x2 : Int) (x3 : Int) (f : Mm), OkI Q (k25 x1 x2 x3 f) → Ev G l MX11_waits (Rm 7 0 0) (ZM G Q 0 0) 0 0 25 [some (vR 150), some (vI x1), some (vI x2), some (vI x3)] [] (SH, RF, f)) (x1 : Int) (x3 : Int) (s0 : Int) (f : Mm) (h : OkI Q (FX11_waits_74 k25 x1 x3 s0 f)) : Ev G l MX11_waits (Rm 7 0 0) (ZM G Q 0 0) 0 0 74 [some (vR 150), some (vI x1), none, some (vI x3)] [vI s0] (SH, RF, f) := by
  unfold FX11_waits_74 at h
  refine ev_iconst dX11_waits_74 (r32c rfl) ?_
  exact SX11_waits_75 q25 x1 x3 s0 0 _ h
def FX11_waits_68 (k25 : Int → Int → Int → Mm → Option (Int × Mm)) (x1 : Int) (x3 : Int) (s0 : Int) (f : Mm) : Option (Int × Mm) := FX11_waits_75 k25 x1 x3 s0 (bShl 1 x3) f
set_option maxHeartbeats 4000000 in
set_option maxRecDepth 100000 in
theorem SX11_waits_68 {G : GT} {l : Launch} {Q : Option AV → Mem → Prop} {k25 : Int → Int → Int → Mm → Option (Int × Mm)} (q25 : ∀ (x1 : Int) (x2 : Int) (x3 : Int) (f : Mm), OkI Q (k25 x1 x2 x3 f) → Ev G l MX11_waits (Rm 7 0 0) (ZM G Q 0 0) 0 0 25 [some (vR 150), some (vI x1), some (vI x2), some (vI x3)] [] (SH, RF, f)) (x1 : Int) (x3 : Int) (s0 : Int) (f : Mm) (h : OkI Q (FX11_waits_68 k25 x1 x3 s0 f)) : Ev G l MX11_waits (Rm 7 0 0) (ZM G Q 0 0) 0 0 68 [some (vR 150), some (vI x1), none, some (vI x3)] [vI s0] (SH, RF, f) := by
  unfold FX11_waits_68 at h
  refine ev_iconst dX11_waits_68 (r32c rfl) ?_
  refine ev_iload_n (i := 3) dX11_waits_69 rfl rfl ?_
  refine ev_ishl dX11_waits_70 ?_
  refine ev_goto (tgt := 75) dX11_waits_71 (by decide) ?_
  exact SX11_waits_75 q25 x1 x3 s0 (bShl 1 x3) _ h
def FX11_waits_25  : Nat → Int → Int → Int → Mm → Option (Int × Mm)
  | 0, _, _, _, _ => none
  | n + 1, x1, x2, x3, f => (b2 (FX11_carts f) fun y1 f1 => (if y1 ≤ x3 then some (x2, f1) else (if 0 ≤ (w32 ((w32 (5 * x3)) + 2)) ∧ (w32 ((w32 (5 * x3)) + 2)) < 150 then (if x1 < (f1 159 (w32 ((w32 (5 * x3)) + 2)).toNat) then FX11_waits_74 (FX11_waits_25 n) x1 x3 x2 f1 else (if 0 ≤ x3 ∧ x3 < 6 then (if (f1 167 x3.toNat) = (-1) then FX11_waits_68 (FX11_waits_25 n) x1 x3 x2 f1 else (if 0 ≤ x3 ∧ x3 < 6 then (if (f1 167 x3.toNat) ≤ x1 then FX11_waits_74 (FX11_waits_25 n) x1 x3 x2 f1 else FX11_waits_68 (FX11_waits_25 n) x1 x3 x2 f1) else none)) else none)) else none)))
set_option maxHeartbeats 4000000 in
set_option maxRecDepth 100000 in
theorem SX11_waits_25 {G : GT} {l : Launch} {Q : Option AV → Mem → Prop}  : ∀ (n : Nat) (x1 : Int) (x2 : Int) (x3 : Int) (f : Mm), OkI Q (FX11_waits_25  n x1 x2 x3 f) → Ev G l MX11_waits (Rm 7 0 0) (ZM G Q 0 0) 0 0 25 [some (vR 150), some (vI x1), some (vI x2), some (vI x3)] [] (SH, RF, f) := by
  intro n
  induction n with
  | zero => intro x1 x2 x3 f h; exact absurd h (by rw [FX11_waits_25]; exact fun q => q)
  | succ n ih =>
    intro x1 x2 x3 f h
    rw [FX11_waits_25] at h
    refine ev_iload_n (i := 3) dX11_waits_25 rfl rfl ?_
    refine ev_aload_n (i := 0) dX11_waits_26 rfl rfl ?_
    refine ev_cVI (b := 150) (av := []) (S := [vI x3]) (fun q => q) h dX11_waits_27 (fun Q' q => TX11_carts _ q) kvX11_carts ml_X11_269 sh_150 rfl (RRc (by decide) (by decide)) (Nat.le_of_ble_eq_true rfl) ⟨Nat.le_of_ble_eq_true rfl, Nat.le_of_ble_eq_true rfl⟩ (fun y1 f1 h => ?_)
    refine ev_icmp_ge (tgt := 83) dX11_waits_30 (by decide) (fun c8 => ?_) (fun c8 => ?_)
    · rw [if_pos c8] at h
      refine ev_iload_n (i := 2) dX11_waits_83 rfl rfl ?_
      exact ev_iret rfl dX11_waits_84 h
    · rw [if_neg c8] at h
      refine ev_iload_n (i := 2) dX11_waits_33 rfl rfl ?_
      refine ev_aload_n (i := 0) dX11_waits_34 rfl rfl ?_
      refine ev_getR dX11_waits_35 fl_X11_40 sh_150 (by decide) (by decide) rf_150_19 ?_
      refine ev_iconst dX11_waits_38 (r32c rfl) ?_
      refine ev_iload_n (i := 3) dX11_waits_39 rfl rfl ?_
      refine ev_imul dX11_waits_40 ?_
      refine ev_iconst dX11_waits_41 (r32c rfl) ?_
      refine ev_iadd dX11_waits_42 ?_
      by_cases g2 : 0 ≤ (w32 ((w32 (5 * x3)) + 2)) ∧ (w32 ((w32 (5 * x3)) + 2)) < 150
      · rw [if_pos g2] at h
        refine ex_iald (x := (f1 159 (w32 ((w32 (5 * x3)) + 2)).toNat)) dX11_waits_43 sh_159 g2.1 g2.2 rfl ?_
        refine ev_iload_n (i := 1) dX11_waits_44 rfl rfl ?_
        refine ev_icmp_gt (tgt := 74) dX11_waits_45 (by decide) (fun c7 => ?_) (fun c7 => ?_)
        · rw [if_pos c7] at h
          refine ev_fg [true, true, false, true] rfl ?_
          exact SX11_waits_74 ih x1 x3 x2 _ h
        · rw [if_neg c7] at h
          refine ev_aload_n (i := 0) dX11_waits_48 rfl rfl ?_
          refine ev_getR dX11_waits_49 fl_X11_65 sh_150 (by decide) (by decide) rf_150_29 ?_
          refine ev_iload_n (i := 3) dX11_waits_52 rfl rfl ?_
          by_cases g3 : 0 ≤ x3 ∧ x3 < 6
          · rw [if_pos g3] at h
            refine ex_iald (x := (f1 167 x3.toNat)) dX11_waits_53 sh_167 g3.1 g3.2 rfl ?_
            refine ev_iconst dX11_waits_54 (r32c rfl) ?_
            refine ev_icmp_eq (tgt := 68) dX11_waits_55 (by decide) (fun c6 => ?_) (fun c6 => ?_)
            · rw [if_pos c6] at h
              refine ev_fg [true, true, false, true] rfl ?_
              exact SX11_waits_68 ih x1 x3 x2 _ h
            · rw [if_neg c6] at h
              refine ev_aload_n (i := 0) dX11_waits_58 rfl rfl ?_
              refine ev_getR dX11_waits_59 fl_X11_65 sh_150 (by decide) (by decide) rf_150_29 ?_
              refine ev_iload_n (i := 3) dX11_waits_62 rfl rfl ?_
              by_cases g4 : 0 ≤ x3 ∧ x3 < 6
              · rw [if_pos g4] at h
                refine ex_iald (x := (f1 167 x3.toNat)) dX11_waits_63 sh_167 g4.1 g4.2 rfl ?_
                refine ev_iload_n (i := 1) dX11_waits_64 rfl rfl ?_
                refine ev_icmp_le (tgt := 74) dX11_waits_65 (by decide) (fun c5 => ?_) (fun c5 => ?_)
                · rw [if_pos c5] at h
                  refine ev_fg [true, true, false, true] rfl ?_
                  exact SX11_waits_74 ih x1 x3 x2 _ h
                · rw [if_neg c5] at h
                  refine ev_fg [true, true, false, true] rfl ?_
                  exact SX11_waits_68 ih x1 x3 x2 _ h
              · rw [if_neg g4] at h; exact h.elim
          · rw [if_neg g3] at h; exact h.elim
      · rw [if_neg g2] at h; exact h.elim
def FX11_waits_0  (x1 : Int) (f : Mm) : Option (Int × Mm) := (b2 (FX11_isDay x1 (up f 150 0 0)) fun y1 f1 => (if y1 = 0 then some ((-2), f1) else ((FX11_laysPassed f1).bind fun f2 => FX11_waits_25 fu x1 0 0 f2)))
set_option maxHeartbeats 4000000 in
set_option maxRecDepth 100000 in
theorem SX11_waits_0 {G : GT} {l : Launch} {Q : Option AV → Mem → Prop}  (x1 : Int) (f : Mm) (h : OkI Q (FX11_waits_0  x1 f)) : Ev G l MX11_waits (Rm 7 0 0) (ZM G Q 0 0) 0 0 0 [some (vR 150), some (vI x1), none, none] [] (SH, RF, f) := by
  unfold FX11_waits_0 at h
  refine ev_aload_n (i := 0) dX11_waits_0 rfl rfl ?_
  refine ev_iconst dX11_waits_1 (r32c rfl) ?_
  refine ev_putI dX11_waits_2 fl_X11_98 sh_150 (by decide) (by decide) ?_
  refine ev_aload_n (i := 0) dX11_waits_5 rfl rfl ?_
  refine ev_iload_n (i := 1) dX11_waits_6 rfl rfl ?_
  refine ev_i2l dX11_waits_7 ?_
  refine ev_cVI (b := 150) (av := [vJ x1]) (S := []) (fun q => q) h dX11_waits_8 (fun Q' q => TX11_isDay x1 _ q) kvX11_isDay ml_X11_324 sh_150 rfl (RRc (by decide) (by decide)) (Nat.le_of_ble_eq_true rfl) ⟨Nat.le_of_ble_eq_true rfl, Nat.le_of_ble_eq_true rfl⟩ (fun y1 f1 h => ?_)
  refine ev_if_ne (tgt := 17) dX11_waits_11 (by decide) (fun c3 => ?_) (fun c3 => ?_)
  · rw [if_neg c3] at h
    refine ev_aload_n (i := 0) dX11_waits_17 rfl rfl ?_
    refine ev_cVV (b := 150) (av := []) (S := []) (fun q => q) h dX11_waits_18 (fun Q' q => TX11_laysPassed _ q) kvX11_laysPassed ml_X11_327 sh_150 rfl (RRc (by decide) (by decide)) (Nat.le_of_ble_eq_true rfl) ⟨Nat.le_of_ble_eq_true rfl, Nat.le_of_ble_eq_true rfl⟩ (fun f2 h => ?_)
    refine ev_iconst dX11_waits_21 (r32c rfl) ?_
    refine ev_istore_n (i := 2) (L' := [some (vR 150), some (vI x1), some (vI 0), none]) dX11_waits_22 rfl (by decide) rfl ?_
    refine ev_iconst dX11_waits_23 (r32c rfl) ?_
    refine ev_istore_n (i := 3) (L' := [some (vR 150), some (vI x1), some (vI 0), some (vI 0)]) dX11_waits_24 rfl (by decide) rfl ?_
    exact SX11_waits_25  fu x1 0 0 _ h
  · rw [if_pos c3] at h
    refine ev_bipush (v := (-2)) dX11_waits_14 (r32c rfl) (by decide) ?_
    exact ev_iret rfl dX11_waits_16 h
def FX11_waits (x1 : Int) (f : Mm) : Option (Int × Mm) := FX11_waits_0 x1 f
set_option maxRecDepth 100000 in
theorem TX11_waits {G : GT} {l : Launch} {Q : Option AV → Mem → Prop} (x1 : Int) (f : Mm) (h : OkI Q (FX11_waits x1 f)) : Ret G l MX11_waits (7) 0 0 [vR 150, vI x1] (SH, RF, f) Q := by
  refine ret_of (L := [some (vR 150), some (vI x1), none, none]) (by decide) rfl (Nat.le_of_ble_eq_true rfl) ?_
  exact SX11_waits_0 x1 f h
theorem dX11_room_0 : decode cX11_room 0 = .ok (.aload_n 0, 1) := by decide +kernel
theorem dX11_room_1 : decode cX11_room 1 = .ok (.iconst 0, 1) := by decide +kernel
theorem dX11_room_2 : decode cX11_room 2 = .ok (.putfield 98, 3) := by decide +kernel
theorem dX11_room_5 : decode cX11_room 5 = .ok (.aload_n 0, 1) := by decide +kernel
theorem dX11_room_6 : decode cX11_room 6 = .ok (.iload_n 1, 1) := by decide +kernel
theorem dX11_room_7 : decode cX11_room 7 = .ok (.i2l, 1) := by decide +kernel
theorem dX11_room_8 : decode cX11_room 8 = .ok (.invokevirtual 324, 3) := by decide +kernel
theorem dX11_room_11 : decode cX11_room 11 = .ok (.ifCond .ne 6, 3) := by decide +kernel
theorem dX11_room_17 : decode cX11_room 17 = .ok (.aload_n 0, 1) := by decide +kernel
theorem dX11_room_18 : decode cX11_room 18 = .ok (.invokevirtual 327, 3) := by decide +kernel
theorem dX11_room_21 : decode cX11_room 21 = .ok (.aload_n 0, 1) := by decide +kernel
theorem dX11_room_22 : decode cX11_room 22 = .ok (.getfield 68, 3) := by decide +kernel
theorem dX11_room_25 : decode cX11_room 25 = .ok (.iload_n 1, 1) := by decide +kernel
theorem dX11_room_26 : decode cX11_room 26 = .ok (.iaload, 1) := by decide +kernel
theorem dX11_room_27 : decode cX11_room 27 = .ok (.ireturn, 1) := by decide +kernel
theorem dX11_room_14 : decode cX11_room 14 = .ok (.bipush (-2), 2) := by decide +kernel
theorem dX11_room_16 : decode cX11_room 16 = .ok (.ireturn, 1) := by decide +kernel
def FX11_room_0  (x1 : Int) (f : Mm) : Option (Int × Mm) := (b2 (FX11_isDay x1 (up f 150 0 0)) fun y1 f1 => (if y1 = 0 then some ((-2), f1) else ((FX11_laysPassed f1).bind fun f2 => (if 0 ≤ x1 ∧ x1 < 6 then some ((f2 168 x1.toNat), f2) else none))))
set_option maxHeartbeats 4000000 in
set_option maxRecDepth 100000 in
theorem SX11_room_0 {G : GT} {l : Launch} {Q : Option AV → Mem → Prop}  (x1 : Int) (f : Mm) (h : OkI Q (FX11_room_0  x1 f)) : Ev G l MX11_room (Rm 7 0 0) (ZM G Q 0 0) 0 0 0 [some (vR 150), some (vI x1)] [] (SH, RF, f) := by
  unfold FX11_room_0 at h
  refine ev_aload_n (i := 0) dX11_room_0 rfl rfl ?_
  refine ev_iconst dX11_room_1 (r32c rfl) ?_
  refine ev_putI dX11_room_2 fl_X11_98 sh_150 (by decide) (by decide) ?_
  refine ev_aload_n (i := 0) dX11_room_5 rfl rfl ?_
  refine ev_iload_n (i := 1) dX11_room_6 rfl rfl ?_
  refine ev_i2l dX11_room_7 ?_
  refine ev_cVI (b := 150) (av := [vJ x1]) (S := []) (fun q => q) h dX11_room_8 (fun Q' q => TX11_isDay x1 _ q) kvX11_isDay ml_X11_324 sh_150 rfl (RRc (by decide) (by decide)) (Nat.le_of_ble_eq_true rfl) ⟨Nat.le_of_ble_eq_true rfl, Nat.le_of_ble_eq_true rfl⟩ (fun y1 f1 h => ?_)
  refine ev_if_ne (tgt := 17) dX11_room_11 (by decide) (fun c4 => ?_) (fun c4 => ?_)
  · rw [if_neg c4] at h
    refine ev_aload_n (i := 0) dX11_room_17 rfl rfl ?_
    refine ev_cVV (b := 150) (av := []) (S := []) (fun q => q) h dX11_room_18 (fun Q' q => TX11_laysPassed _ q) kvX11_laysPassed ml_X11_327 sh_150 rfl (RRc (by decide) (by decide)) (Nat.le_of_ble_eq_true rfl) ⟨Nat.le_of_ble_eq_true rfl, Nat.le_of_ble_eq_true rfl⟩ (fun f2 h => ?_)
    refine ev_aload_n (i := 0) dX11_room_21 rfl rfl ?_
    refine ev_getR dX11_room_22 fl_X11_68 sh_150 (by decide) (by decide) rf_150_30 ?_
    refine ev_iload_n (i := 1) dX11_room_25 rfl rfl ?_
    by_cases g3 : 0 ≤ x1 ∧ x1 < 6
    · rw [if_pos g3] at h
      refine ex_iald (x := (f2 168 x1.toNat)) dX11_room_26 sh_168 g3.1 g3.2 rfl ?_
      exact ev_iret rfl dX11_room_27 h
    · rw [if_neg g3] at h; exact h.elim
  · rw [if_pos c4] at h
    refine ev_bipush (v := (-2)) dX11_room_14 (r32c rfl) (by decide) ?_
    exact ev_iret rfl dX11_room_16 h
def FX11_room (x1 : Int) (f : Mm) : Option (Int × Mm) := FX11_room_0 x1 f
set_option maxRecDepth 100000 in
theorem TX11_room {G : GT} {l : Launch} {Q : Option AV → Mem → Prop} (x1 : Int) (f : Mm) (h : OkI Q (FX11_room x1 f)) : Ret G l MX11_room (7) 0 0 [vR 150, vI x1] (SH, RF, f) Q := by
  refine ret_of (L := [some (vR 150), some (vI x1)]) (by decide) rfl (Nat.le_of_ble_eq_true rfl) ?_
  exact SX11_room_0 x1 f h
theorem dX11_stuck_71 : decode cX11_stuck 71 = .ok (.iinc 1 1, 3) := by decide +kernel
theorem dX11_stuck_74 : decode cX11_stuck 74 = .ok (.goto (-53), 3) := by decide +kernel
theorem dX11_stuck_65 : decode cX11_stuck 65 = .ok (.iinc 2 1, 3) := by decide +kernel
theorem dX11_stuck_68 : decode cX11_stuck 68 = .ok (.goto (-37), 3) := by decide +kernel
theorem dX11_stuck_31 : decode cX11_stuck 31 = .ok (.iload_n 2, 1) := by decide +kernel
theorem dX11_stuck_32 : decode cX11_stuck 32 = .ok (.aload_n 0, 1) := by decide +kernel
theorem dX11_stuck_33 : decode cX11_stuck 33 = .ok (.invokevirtual 269, 3) := by decide +kernel
theorem dX11_stuck_36 : decode cX11_stuck 36 = .ok (.if_icmp .ge 35, 3) := by decide +kernel
theorem dX11_stuck_39 : decode cX11_stuck 39 = .ok (.aload_n 0, 1) := by decide +kernel
theorem dX11_stuck_40 : decode cX11_stuck 40 = .ok (.getfield 40, 3) := by decide +kernel
theorem dX11_stuck_43 : decode cX11_stuck 43 = .ok (.iconst 5, 1) := by decide +kernel
theorem dX11_stuck_44 : decode cX11_stuck 44 = .ok (.iload_n 2, 1) := by decide +kernel
theorem dX11_stuck_45 : decode cX11_stuck 45 = .ok (.imul, 1) := by decide +kernel
theorem dX11_stuck_46 : decode cX11_stuck 46 = .ok (.iconst 2, 1) := by decide +kernel
theorem dX11_stuck_47 : decode cX11_stuck 47 = .ok (.iadd, 1) := by decide +kernel
theorem dX11_stuck_48 : decode cX11_stuck 48 = .ok (.iaload, 1) := by decide +kernel
theorem dX11_stuck_49 : decode cX11_stuck 49 = .ok (.iload_n 1, 1) := by decide +kernel
theorem dX11_stuck_50 : decode cX11_stuck 50 = .ok (.if_icmp .ne 15, 3) := by decide +kernel
theorem dX11_stuck_53 : decode cX11_stuck 53 = .ok (.aload_n 0, 1) := by decide +kernel
theorem dX11_stuck_54 : decode cX11_stuck 54 = .ok (.getfield 65, 3) := by decide +kernel
theorem dX11_stuck_57 : decode cX11_stuck 57 = .ok (.iload_n 2, 1) := by decide +kernel
theorem dX11_stuck_58 : decode cX11_stuck 58 = .ok (.iaload, 1) := by decide +kernel
theorem dX11_stuck_59 : decode cX11_stuck 59 = .ok (.iload_n 1, 1) := by decide +kernel
theorem dX11_stuck_60 : decode cX11_stuck 60 = .ok (.if_icmp .eq 5, 3) := by decide +kernel
theorem dX11_stuck_63 : decode cX11_stuck 63 = .ok (.iload_n 2, 1) := by decide +kernel
theorem dX11_stuck_64 : decode cX11_stuck 64 = .ok (.ireturn, 1) := by decide +kernel
theorem dX11_stuck_21 : decode cX11_stuck 21 = .ok (.iload_n 1, 1) := by decide +kernel
theorem dX11_stuck_22 : decode cX11_stuck 22 = .ok (.aload_n 0, 1) := by decide +kernel
theorem dX11_stuck_23 : decode cX11_stuck 23 = .ok (.invokevirtual 266, 3) := by decide +kernel
theorem dX11_stuck_26 : decode cX11_stuck 26 = .ok (.if_icmp .ge 51, 3) := by decide +kernel
theorem dX11_stuck_77 : decode cX11_stuck 77 = .ok (.iconst (-1), 1) := by decide +kernel
theorem dX11_stuck_78 : decode cX11_stuck 78 = .ok (.ireturn, 1) := by decide +kernel
theorem dX11_stuck_29 : decode cX11_stuck 29 = .ok (.iconst 0, 1) := by decide +kernel
theorem dX11_stuck_30 : decode cX11_stuck 30 = .ok (.istore_n 2, 1) := by decide +kernel
theorem dX11_stuck_0 : decode cX11_stuck 0 = .ok (.aload_n 0, 1) := by decide +kernel
theorem dX11_stuck_1 : decode cX11_stuck 1 = .ok (.iconst 0, 1) := by decide +kernel
theorem dX11_stuck_2 : decode cX11_stuck 2 = .ok (.putfield 98, 3) := by decide +kernel
theorem dX11_stuck_5 : decode cX11_stuck 5 = .ok (.aload_n 0, 1) := by decide +kernel
theorem dX11_stuck_6 : decode cX11_stuck 6 = .ok (.invokevirtual 272, 3) := by decide +kernel
theorem dX11_stuck_9 : decode cX11_stuck 9 = .ok (.ifCond .ne 6, 3) := by decide +kernel
theorem dX11_stuck_15 : decode cX11_stuck 15 = .ok (.aload_n 0, 1) := by decide +kernel
theorem dX11_stuck_16 : decode cX11_stuck 16 = .ok (.invokevirtual 327, 3) := by decide +kernel
theorem dX11_stuck_19 : decode cX11_stuck 19 = .ok (.iconst 0, 1) := by decide +kernel
theorem dX11_stuck_20 : decode cX11_stuck 20 = .ok (.istore_n 1, 1) := by decide +kernel
theorem dX11_stuck_12 : decode cX11_stuck 12 = .ok (.bipush (-2), 2) := by decide +kernel
theorem dX11_stuck_14 : decode cX11_stuck 14 = .ok (.ireturn, 1) := by decide +kernel
def FX11_stuck_71 (k21 : Int → Mm → Option (Int × Mm)) (x1 : Int) (f : Mm) : Option (Int × Mm) := k21 (w32 (x1 + 1)) f
set_option maxHeartbeats 4000000 in
set_option maxRecDepth 100000 in
theorem SX11_stuck_71 {G : GT} {l : Launch} {Q : Option AV → Mem → Prop} {k21 : Int → Mm → Option (Int × Mm)} (q21 : ∀ (x1 : Int) (f : Mm), OkI Q (k21 x1 f) → Ev G l MX11_stuck (Rm 7 0 0) (ZM G Q 0 0) 0 0 21 [some (vR 150), some (vI x1), none] [] (SH, RF, f)) (x1 : Int) (f : Mm) (h : OkI Q (FX11_stuck_71 k21 x1 f)) : Ev G l MX11_stuck (Rm 7 0 0) (ZM G Q 0 0) 0 0 71 [some (vR 150), some (vI x1), none] [] (SH, RF, f) := by
  unfold FX11_stuck_71 at h
  refine ev_iinc (L' := [some (vR 150), some (vI (w32 (x1 + 1))), none]) dX11_stuck_71 rfl (by decide) rfl ?_
  refine ev_goto (tgt := 21) dX11_stuck_74 (by decide) ?_
  exact q21 (w32 (x1 + 1)) _ h
def FX11_stuck_65 (k21 : Int → Mm → Option (Int × Mm)) (k31 : Int → Int → Mm → Option (Int × Mm)) (x1 : Int) (x2 : Int) (f : Mm) : Option (Int × Mm) := k31 x1 (w32 (x2 + 1)) f
set_option maxHeartbeats 4000000 in
set_option maxRecDepth 100000 in
theorem SX11_stuck_65 {G : GT} {l : Launch} {Q : Option AV → Mem → Prop} {k21 : Int → Mm → Option (Int × Mm)} {k31 : Int → Int → Mm → Option (Int × Mm)} (q21 : ∀ (x1 : Int) (f : Mm), OkI Q (k21 x1 f) → Ev G l MX11_stuck (Rm 7 0 0) (ZM G Q 0 0) 0 0 21 [some (vR 150), some (vI x1), none] [] (SH, RF, f)) (q31 : ∀ (x1 : Int) (x2 : Int) (f : Mm), OkI Q (k31 x1 x2 f) → Ev G l MX11_stuck (Rm 7 0 0) (ZM G Q 0 0) 0 0 31 [some (vR 150), some (vI x1), some (vI x2)] [] (SH, RF, f)) (x1 : Int) (x2 : Int) (f : Mm) (h : OkI Q (FX11_stuck_65 k21 k31 x1 x2 f)) : Ev G l MX11_stuck (Rm 7 0 0) (ZM G Q 0 0) 0 0 65 [some (vR 150), some (vI x1), some (vI x2)] [] (SH, RF, f) := by
  unfold FX11_stuck_65 at h
  refine ev_iinc (L' := [some (vR 150), some (vI x1), some (vI (w32 (x2 + 1)))]) dX11_stuck_65 rfl (by decide) rfl ?_
  refine ev_goto (tgt := 31) dX11_stuck_68 (by decide) ?_
  exact q31 x1 (w32 (x2 + 1)) _ h
def FX11_stuck_31 (k21 : Int → Mm → Option (Int × Mm)) : Nat → Int → Int → Mm → Option (Int × Mm)
  | 0, _, _, _ => none
  | n + 1, x1, x2, f => (b2 (FX11_carts f) fun y1 f1 => (if y1 ≤ x2 then FX11_stuck_71 k21 x1 f1 else (if 0 ≤ (w32 ((w32 (5 * x2)) + 2)) ∧ (w32 ((w32 (5 * x2)) + 2)) < 150 then (if (f1 159 (w32 ((w32 (5 * x2)) + 2)).toNat) = x1 then (if 0 ≤ x2 ∧ x2 < 6 then (if (f1 167 x2.toNat) = x1 then FX11_stuck_65 k21 (FX11_stuck_31 k21 n) x1 x2 f1 else some (x2, f1)) else none) else FX11_stuck_65 k21 (FX11_stuck_31 k21 n) x1 x2 f1) else none)))
set_option maxHeartbeats 4000000 in
set_option maxRecDepth 100000 in
theorem SX11_stuck_31 {G : GT} {l : Launch} {Q : Option AV → Mem → Prop} {k21 : Int → Mm → Option (Int × Mm)} (q21 : ∀ (x1 : Int) (f : Mm), OkI Q (k21 x1 f) → Ev G l MX11_stuck (Rm 7 0 0) (ZM G Q 0 0) 0 0 21 [some (vR 150), some (vI x1), none] [] (SH, RF, f)) : ∀ (n : Nat) (x1 : Int) (x2 : Int) (f : Mm), OkI Q (FX11_stuck_31 k21 n x1 x2 f) → Ev G l MX11_stuck (Rm 7 0 0) (ZM G Q 0 0) 0 0 31 [some (vR 150), some (vI x1), some (vI x2)] [] (SH, RF, f) := by
  intro n
  induction n with
  | zero => intro x1 x2 f h; exact absurd h (by rw [FX11_stuck_31]; exact fun q => q)
  | succ n ih =>
    intro x1 x2 f h
    rw [FX11_stuck_31] at h
    refine ev_iload_n (i := 2) dX11_stuck_31 rfl rfl ?_
    refine ev_aload_n (i := 0) dX11_stuck_32 rfl rfl ?_
    refine ev_cVI (b := 150) (av := []) (S := [vI x2]) (fun q => q) h dX11_stuck_33 (fun Q' q => TX11_carts _ q) kvX11_carts ml_X11_269 sh_150 rfl (RRc (by decide) (by decide)) (Nat.le_of_ble_eq_true rfl) ⟨Nat.le_of_ble_eq_true rfl, Nat.le_of_ble_eq_true rfl⟩ (fun y1 f1 h => ?_)
    refine ev_icmp_ge (tgt := 71) dX11_stuck_36 (by decide) (fun c6 => ?_) (fun c6 => ?_)
    · rw [if_pos c6] at h
      refine ev_fg [true, true, false] rfl ?_
      exact SX11_stuck_71 q21 x1 _ h
    · rw [if_neg c6] at h
      refine ev_aload_n (i := 0) dX11_stuck_39 rfl rfl ?_
      refine ev_getR dX11_stuck_40 fl_X11_40 sh_150 (by decide) (by decide) rf_150_19 ?_
      refine ev_iconst dX11_stuck_43 (r32c rfl) ?_
      refine ev_iload_n (i := 2) dX11_stuck_44 rfl rfl ?_
      refine ev_imul dX11_stuck_45 ?_
      refine ev_iconst dX11_stuck_46 (r32c rfl) ?_
      refine ev_iadd dX11_stuck_47 ?_
      by_cases g2 : 0 ≤ (w32 ((w32 (5 * x2)) + 2)) ∧ (w32 ((w32 (5 * x2)) + 2)) < 150
      · rw [if_pos g2] at h
        refine ex_iald (x := (f1 159 (w32 ((w32 (5 * x2)) + 2)).toNat)) dX11_stuck_48 sh_159 g2.1 g2.2 rfl ?_
        refine ev_iload_n (i := 1) dX11_stuck_49 rfl rfl ?_
        refine ev_icmp_ne (tgt := 65) dX11_stuck_50 (by decide) (fun c5 => ?_) (fun c5 => ?_)
        · rw [if_neg c5] at h
          exact SX11_stuck_65 q21 ih x1 x2 _ h
        · rw [if_pos c5] at h
          refine ev_aload_n (i := 0) dX11_stuck_53 rfl rfl ?_
          refine ev_getR dX11_stuck_54 fl_X11_65 sh_150 (by decide) (by decide) rf_150_29 ?_
          refine ev_iload_n (i := 2) dX11_stuck_57 rfl rfl ?_
          by_cases g3 : 0 ≤ x2 ∧ x2 < 6
          · rw [if_pos g3] at h
            refine ex_iald (x := (f1 167 x2.toNat)) dX11_stuck_58 sh_167 g3.1 g3.2 rfl ?_
            refine ev_iload_n (i := 1) dX11_stuck_59 rfl rfl ?_
            refine ev_icmp_eq (tgt := 65) dX11_stuck_60 (by decide) (fun c4 => ?_) (fun c4 => ?_)
            · rw [if_pos c4] at h
              exact SX11_stuck_65 q21 ih x1 x2 _ h
            · rw [if_neg c4] at h
              refine ev_iload_n (i := 2) dX11_stuck_63 rfl rfl ?_
              exact ev_iret rfl dX11_stuck_64 h
          · rw [if_neg g3] at h; exact h.elim
      · rw [if_neg g2] at h; exact h.elim
def FX11_stuck_21  : Nat → Int → Mm → Option (Int × Mm)
  | 0, _, _ => none
  | n + 1, x1, f => (b2 (FX11_days f) fun y1 f1 => (if y1 ≤ x1 then some ((-1), f1) else FX11_stuck_31 (FX11_stuck_21 n) fu x1 0 f1))
set_option maxHeartbeats 4000000 in
set_option maxRecDepth 100000 in
theorem SX11_stuck_21 {G : GT} {l : Launch} {Q : Option AV → Mem → Prop}  : ∀ (n : Nat) (x1 : Int) (f : Mm), OkI Q (FX11_stuck_21  n x1 f) → Ev G l MX11_stuck (Rm 7 0 0) (ZM G Q 0 0) 0 0 21 [some (vR 150), some (vI x1), none] [] (SH, RF, f) := by
  intro n
  induction n with
  | zero => intro x1 f h; exact absurd h (by rw [FX11_stuck_21]; exact fun q => q)
  | succ n ih =>
    intro x1 f h
    rw [FX11_stuck_21] at h
    refine ev_iload_n (i := 1) dX11_stuck_21 rfl rfl ?_
    refine ev_aload_n (i := 0) dX11_stuck_22 rfl rfl ?_
    refine ev_cVI (b := 150) (av := []) (S := [vI x1]) (fun q => q) h dX11_stuck_23 (fun Q' q => TX11_days _ q) kvX11_days ml_X11_266 sh_150 rfl (RRc (by decide) (by decide)) (Nat.le_of_ble_eq_true rfl) ⟨Nat.le_of_ble_eq_true rfl, Nat.le_of_ble_eq_true rfl⟩ (fun y1 f1 h => ?_)
    refine ev_icmp_ge (tgt := 77) dX11_stuck_26 (by decide) (fun c2 => ?_) (fun c2 => ?_)
    · rw [if_pos c2] at h
      refine ev_iconst dX11_stuck_77 (r32c rfl) ?_
      exact ev_iret rfl dX11_stuck_78 h
    · rw [if_neg c2] at h
      refine ev_iconst dX11_stuck_29 (r32c rfl) ?_
      refine ev_istore_n (i := 2) (L' := [some (vR 150), some (vI x1), some (vI 0)]) dX11_stuck_30 rfl (by decide) rfl ?_
      exact SX11_stuck_31 ih fu x1 0 _ h
def FX11_stuck_0   (f : Mm) : Option (Int × Mm) := (b2 (FX11_isBridge (up f 150 0 0)) fun y1 f1 => (if y1 = 0 then some ((-2), f1) else ((FX11_laysPassed f1).bind fun f2 => FX11_stuck_21 fu 0 f2)))
set_option maxHeartbeats 4000000 in
set_option maxRecDepth 100000 in
theorem SX11_stuck_0 {G : GT} {l : Launch} {Q : Option AV → Mem → Prop}   (f : Mm) (h : OkI Q (FX11_stuck_0   f)) : Ev G l MX11_stuck (Rm 7 0 0) (ZM G Q 0 0) 0 0 0 [some (vR 150), none, none] [] (SH, RF, f) := by
  unfold FX11_stuck_0 at h
  refine ev_aload_n (i := 0) dX11_stuck_0 rfl rfl ?_
  refine ev_iconst dX11_stuck_1 (r32c rfl) ?_
  refine ev_putI dX11_stuck_2 fl_X11_98 sh_150 (by decide) (by decide) ?_
  refine ev_aload_n (i := 0) dX11_stuck_5 rfl rfl ?_
  refine ev_cVI (b := 150) (av := []) (S := []) (fun q => q) h dX11_stuck_6 (fun Q' q => TX11_isBridge _ q) kvX11_isBridge ml_X11_272 sh_150 rfl (RRc (by decide) (by decide)) (Nat.le_of_ble_eq_true rfl) ⟨Nat.le_of_ble_eq_true rfl, Nat.le_of_ble_eq_true rfl⟩ (fun y1 f1 h => ?_)
  refine ev_if_ne (tgt := 15) dX11_stuck_9 (by decide) (fun c3 => ?_) (fun c3 => ?_)
  · rw [if_neg c3] at h
    refine ev_aload_n (i := 0) dX11_stuck_15 rfl rfl ?_
    refine ev_cVV (b := 150) (av := []) (S := []) (fun q => q) h dX11_stuck_16 (fun Q' q => TX11_laysPassed _ q) kvX11_laysPassed ml_X11_327 sh_150 rfl (RRc (by decide) (by decide)) (Nat.le_of_ble_eq_true rfl) ⟨Nat.le_of_ble_eq_true rfl, Nat.le_of_ble_eq_true rfl⟩ (fun f2 h => ?_)
    refine ev_iconst dX11_stuck_19 (r32c rfl) ?_
    refine ev_istore_n (i := 1) (L' := [some (vR 150), some (vI 0), none]) dX11_stuck_20 rfl (by decide) rfl ?_
    exact SX11_stuck_21  fu 0 _ h
  · rw [if_pos c3] at h
    refine ev_bipush (v := (-2)) dX11_stuck_12 (r32c rfl) (by decide) ?_
    exact ev_iret rfl dX11_stuck_14 h
def FX11_stuck  (f : Mm) : Option (Int × Mm) := FX11_stuck_0  f
set_option maxRecDepth 100000 in
theorem TX11_stuck {G : GT} {l : Launch} {Q : Option AV → Mem → Prop}  (f : Mm) (h : OkI Q (FX11_stuck  f)) : Ret G l MX11_stuck (7) 0 0 [vR 150] (SH, RF, f) Q := by
  refine ret_of (L := [some (vR 150), none, none]) (by decide) rfl (Nat.le_of_ble_eq_true rfl) ?_
  exact SX11_stuck_0  f h
theorem dX11_lost_49 : decode cX11_lost 49 = .ok (.ior, 1) := by decide +kernel
theorem dX11_lost_50 : decode cX11_lost 50 = .ok (.istore_n 1, 1) := by decide +kernel
theorem dX11_lost_51 : decode cX11_lost 51 = .ok (.iinc 2 1, 3) := by decide +kernel
theorem dX11_lost_54 : decode cX11_lost 54 = .ok (.goto (-31), 3) := by decide +kernel
theorem dX11_lost_23 : decode cX11_lost 23 = .ok (.iload_n 2, 1) := by decide +kernel
theorem dX11_lost_24 : decode cX11_lost 24 = .ok (.aload_n 0, 1) := by decide +kernel
theorem dX11_lost_25 : decode cX11_lost 25 = .ok (.invokevirtual 269, 3) := by decide +kernel
theorem dX11_lost_28 : decode cX11_lost 28 = .ok (.if_icmp .ge 29, 3) := by decide +kernel
theorem dX11_lost_57 : decode cX11_lost 57 = .ok (.iload_n 1, 1) := by decide +kernel
theorem dX11_lost_58 : decode cX11_lost 58 = .ok (.ireturn, 1) := by decide +kernel
theorem dX11_lost_31 : decode cX11_lost 31 = .ok (.iload_n 1, 1) := by decide +kernel
theorem dX11_lost_32 : decode cX11_lost 32 = .ok (.aload_n 0, 1) := by decide +kernel
theorem dX11_lost_33 : decode cX11_lost 33 = .ok (.getfield 65, 3) := by decide +kernel
theorem dX11_lost_36 : decode cX11_lost 36 = .ok (.iload_n 2, 1) := by decide +kernel
theorem dX11_lost_37 : decode cX11_lost 37 = .ok (.iaload, 1) := by decide +kernel
theorem dX11_lost_38 : decode cX11_lost 38 = .ok (.iconst (-1), 1) := by decide +kernel
theorem dX11_lost_39 : decode cX11_lost 39 = .ok (.if_icmp .ne 9, 3) := by decide +kernel
theorem dX11_lost_48 : decode cX11_lost 48 = .ok (.iconst 0, 1) := by decide +kernel
theorem dX11_lost_42 : decode cX11_lost 42 = .ok (.iconst 1, 1) := by decide +kernel
theorem dX11_lost_43 : decode cX11_lost 43 = .ok (.iload_n 2, 1) := by decide +kernel
theorem dX11_lost_44 : decode cX11_lost 44 = .ok (.ishl, 1) := by decide +kernel
theorem dX11_lost_45 : decode cX11_lost 45 = .ok (.goto 4, 3) := by decide +kernel
theorem dX11_lost_0 : decode cX11_lost 0 = .ok (.aload_n 0, 1) := by decide +kernel
theorem dX11_lost_1 : decode cX11_lost 1 = .ok (.iconst 0, 1) := by decide +kernel
theorem dX11_lost_2 : decode cX11_lost 2 = .ok (.putfield 98, 3) := by decide +kernel
theorem dX11_lost_5 : decode cX11_lost 5 = .ok (.aload_n 0, 1) := by decide +kernel
theorem dX11_lost_6 : decode cX11_lost 6 = .ok (.invokevirtual 272, 3) := by decide +kernel
theorem dX11_lost_9 : decode cX11_lost 9 = .ok (.ifCond .ne 6, 3) := by decide +kernel
theorem dX11_lost_15 : decode cX11_lost 15 = .ok (.aload_n 0, 1) := by decide +kernel
theorem dX11_lost_16 : decode cX11_lost 16 = .ok (.invokevirtual 327, 3) := by decide +kernel
theorem dX11_lost_19 : decode cX11_lost 19 = .ok (.iconst 0, 1) := by decide +kernel
theorem dX11_lost_20 : decode cX11_lost 20 = .ok (.istore_n 1, 1) := by decide +kernel
theorem dX11_lost_21 : decode cX11_lost 21 = .ok (.iconst 0, 1) := by decide +kernel
theorem dX11_lost_22 : decode cX11_lost 22 = .ok (.istore_n 2, 1) := by decide +kernel
theorem dX11_lost_12 : decode cX11_lost 12 = .ok (.bipush (-2), 2) := by decide +kernel
theorem dX11_lost_14 : decode cX11_lost 14 = .ok (.ireturn, 1) := by decide +kernel
def FX11_lost_49 (k23 : Int → Int → Mm → Option (Int × Mm)) (x2 : Int) (s0 : Int) (s1 : Int) (f : Mm) : Option (Int × Mm) := k23 (bOr s0 s1) (w32 (x2 + 1)) f
set_option maxHeartbeats 4000000 in
set_option maxRecDepth 100000 in
theorem SX11_lost_49 {G : GT} {l : Launch} {Q : Option AV → Mem → Prop} {k23 : Int → Int → Mm → Option (Int × Mm)} (q23 : ∀ (x1 : Int) (x2 : Int) (f : Mm), OkI Q (k23 x1 x2 f) → Ev G l MX11_lost (Rm 7 0 0) (ZM G Q 0 0) 0 0 23 [some (vR 150), some (vI x1), some (vI x2)] [] (SH, RF, f)) (x2 : Int) (s0 : Int) (s1 : Int) (f : Mm) (h : OkI Q (FX11_lost_49 k23 x2 s0 s1 f)) : Ev G l MX11_lost (Rm 7 0 0) (ZM G Q 0 0) 0 0 49 [some (vR 150), none, some (vI x2)] [vI s1, vI s0] (SH, RF, f) := by
  unfold FX11_lost_49 at h
  refine ev_ior dX11_lost_49 ?_
  refine ev_istore_n (i := 1) (L' := [some (vR 150), some (vI (bOr s0 s1)), some (vI x2)]) dX11_lost_50 rfl (by decide) rfl ?_
  refine ev_iinc (L' := [some (vR 150), some (vI (bOr s0 s1)), some (vI (w32 (x2 + 1)))]) dX11_lost_51 rfl (by decide) rfl ?_
  refine ev_goto (tgt := 23) dX11_lost_54 (by decide) ?_
  exact q23 (bOr s0 s1) (w32 (x2 + 1)) _ h
def FX11_lost_23  : Nat → Int → Int → Mm → Option (Int × Mm)
  | 0, _, _, _ => none
  | n + 1, x1, x2, f => (b2 (FX11_carts f) fun y1 f1 => (if y1 ≤ x2 then some (x1, f1) else (if 0 ≤ x2 ∧ x2 < 6 then (if (f1 167 x2.toNat) = (-1) then FX11_lost_49 (FX11_lost_23 n) x2 x1 (bShl 1 x2) f1 else FX11_lost_49 (FX11_lost_23 n) x2 x1 0 f1) else none)))
set_option maxHeartbeats 4000000 in
set_option maxRecDepth 100000 in
theorem SX11_lost_23 {G : GT} {l : Launch} {Q : Option AV → Mem → Prop}  : ∀ (n : Nat) (x1 : Int) (x2 : Int) (f : Mm), OkI Q (FX11_lost_23  n x1 x2 f) → Ev G l MX11_lost (Rm 7 0 0) (ZM G Q 0 0) 0 0 23 [some (vR 150), some (vI x1), some (vI x2)] [] (SH, RF, f) := by
  intro n
  induction n with
  | zero => intro x1 x2 f h; exact absurd h (by rw [FX11_lost_23]; exact fun q => q)
  | succ n ih =>
    intro x1 x2 f h
    rw [FX11_lost_23] at h
    refine ev_iload_n (i := 2) dX11_lost_23 rfl rfl ?_
    refine ev_aload_n (i := 0) dX11_lost_24 rfl rfl ?_
    refine ev_cVI (b := 150) (av := []) (S := [vI x2]) (fun q => q) h dX11_lost_25 (fun Q' q => TX11_carts _ q) kvX11_carts ml_X11_269 sh_150 rfl (RRc (by decide) (by decide)) (Nat.le_of_ble_eq_true rfl) ⟨Nat.le_of_ble_eq_true rfl, Nat.le_of_ble_eq_true rfl⟩ (fun y1 f1 h => ?_)
    refine ev_icmp_ge (tgt := 57) dX11_lost_28 (by decide) (fun c4 => ?_) (fun c4 => ?_)
    · rw [if_pos c4] at h
      refine ev_iload_n (i := 1) dX11_lost_57 rfl rfl ?_
      exact ev_iret rfl dX11_lost_58 h
    · rw [if_neg c4] at h
      refine ev_iload_n (i := 1) dX11_lost_31 rfl rfl ?_
      refine ev_aload_n (i := 0) dX11_lost_32 rfl rfl ?_
      refine ev_getR dX11_lost_33 fl_X11_65 sh_150 (by decide) (by decide) rf_150_29 ?_
      refine ev_iload_n (i := 2) dX11_lost_36 rfl rfl ?_
      by_cases g2 : 0 ≤ x2 ∧ x2 < 6
      · rw [if_pos g2] at h
        refine ex_iald (x := (f1 167 x2.toNat)) dX11_lost_37 sh_167 g2.1 g2.2 rfl ?_
        refine ev_iconst dX11_lost_38 (r32c rfl) ?_
        refine ev_icmp_ne (tgt := 48) dX11_lost_39 (by decide) (fun c3 => ?_) (fun c3 => ?_)
        · rw [if_neg c3] at h
          refine ev_iconst dX11_lost_48 (r32c rfl) ?_
          refine ev_fg [true, false, true] rfl ?_
          exact SX11_lost_49 ih x2 x1 0 _ h
        · rw [if_pos c3] at h
          refine ev_iconst dX11_lost_42 (r32c rfl) ?_
          refine ev_iload_n (i := 2) dX11_lost_43 rfl rfl ?_
          refine ev_ishl dX11_lost_44 ?_
          refine ev_goto (tgt := 49) dX11_lost_45 (by decide) ?_
          refine ev_fg [true, false, true] rfl ?_
          exact SX11_lost_49 ih x2 x1 (bShl 1 x2) _ h
      · rw [if_neg g2] at h; exact h.elim
def FX11_lost_0   (f : Mm) : Option (Int × Mm) := (b2 (FX11_isBridge (up f 150 0 0)) fun y1 f1 => (if y1 = 0 then some ((-2), f1) else ((FX11_laysPassed f1).bind fun f2 => FX11_lost_23 fu 0 0 f2)))
set_option maxHeartbeats 4000000 in
set_option maxRecDepth 100000 in
theorem SX11_lost_0 {G : GT} {l : Launch} {Q : Option AV → Mem → Prop}   (f : Mm) (h : OkI Q (FX11_lost_0   f)) : Ev G l MX11_lost (Rm 7 0 0) (ZM G Q 0 0) 0 0 0 [some (vR 150), none, none] [] (SH, RF, f) := by
  unfold FX11_lost_0 at h
  refine ev_aload_n (i := 0) dX11_lost_0 rfl rfl ?_
  refine ev_iconst dX11_lost_1 (r32c rfl) ?_
  refine ev_putI dX11_lost_2 fl_X11_98 sh_150 (by decide) (by decide) ?_
  refine ev_aload_n (i := 0) dX11_lost_5 rfl rfl ?_
  refine ev_cVI (b := 150) (av := []) (S := []) (fun q => q) h dX11_lost_6 (fun Q' q => TX11_isBridge _ q) kvX11_isBridge ml_X11_272 sh_150 rfl (RRc (by decide) (by decide)) (Nat.le_of_ble_eq_true rfl) ⟨Nat.le_of_ble_eq_true rfl, Nat.le_of_ble_eq_true rfl⟩ (fun y1 f1 h => ?_)
  refine ev_if_ne (tgt := 15) dX11_lost_9 (by decide) (fun c3 => ?_) (fun c3 => ?_)
  · rw [if_neg c3] at h
    refine ev_aload_n (i := 0) dX11_lost_15 rfl rfl ?_
    refine ev_cVV (b := 150) (av := []) (S := []) (fun q => q) h dX11_lost_16 (fun Q' q => TX11_laysPassed _ q) kvX11_laysPassed ml_X11_327 sh_150 rfl (RRc (by decide) (by decide)) (Nat.le_of_ble_eq_true rfl) ⟨Nat.le_of_ble_eq_true rfl, Nat.le_of_ble_eq_true rfl⟩ (fun f2 h => ?_)
    refine ev_iconst dX11_lost_19 (r32c rfl) ?_
    refine ev_istore_n (i := 1) (L' := [some (vR 150), some (vI 0), none]) dX11_lost_20 rfl (by decide) rfl ?_
    refine ev_iconst dX11_lost_21 (r32c rfl) ?_
    refine ev_istore_n (i := 2) (L' := [some (vR 150), some (vI 0), some (vI 0)]) dX11_lost_22 rfl (by decide) rfl ?_
    exact SX11_lost_23  fu 0 0 _ h
  · rw [if_pos c3] at h
    refine ev_bipush (v := (-2)) dX11_lost_12 (r32c rfl) (by decide) ?_
    exact ev_iret rfl dX11_lost_14 h
def FX11_lost  (f : Mm) : Option (Int × Mm) := FX11_lost_0  f
set_option maxRecDepth 100000 in
theorem TX11_lost {G : GT} {l : Launch} {Q : Option AV → Mem → Prop}  (f : Mm) (h : OkI Q (FX11_lost  f)) : Ret G l MX11_lost (7) 0 0 [vR 150] (SH, RF, f) Q := by
  refine ret_of (L := [some (vR 150), none, none]) (by decide) rfl (Nat.le_of_ble_eq_true rfl) ?_
  exact SX11_lost_0  f h
theorem dX11_kept_0 : decode cX11_kept 0 = .ok (.aload_n 0, 1) := by decide +kernel
theorem dX11_kept_1 : decode cX11_kept 1 = .ok (.iconst 0, 1) := by decide +kernel
theorem dX11_kept_2 : decode cX11_kept 2 = .ok (.putfield 98, 3) := by decide +kernel
theorem dX11_kept_5 : decode cX11_kept 5 = .ok (.aload_n 0, 1) := by decide +kernel
theorem dX11_kept_6 : decode cX11_kept 6 = .ok (.invokevirtual 272, 3) := by decide +kernel
theorem dX11_kept_9 : decode cX11_kept 9 = .ok (.ifCond .ne 6, 3) := by decide +kernel
theorem dX11_kept_15 : decode cX11_kept 15 = .ok (.aload_n 0, 1) := by decide +kernel
theorem dX11_kept_16 : decode cX11_kept 16 = .ok (.invokevirtual 327, 3) := by decide +kernel
theorem dX11_kept_19 : decode cX11_kept 19 = .ok (.aload_n 0, 1) := by decide +kernel
theorem dX11_kept_20 : decode cX11_kept 20 = .ok (.invokevirtual 330, 3) := by decide +kernel
theorem dX11_kept_23 : decode cX11_kept 23 = .ok (.ireturn, 1) := by decide +kernel
theorem dX11_kept_12 : decode cX11_kept 12 = .ok (.bipush (-2), 2) := by decide +kernel
theorem dX11_kept_14 : decode cX11_kept 14 = .ok (.ireturn, 1) := by decide +kernel
def FX11_kept_0   (f : Mm) : Option (Int × Mm) := (b2 (FX11_isBridge (up f 150 0 0)) fun y1 f1 => (if y1 = 0 then some ((-2), f1) else ((FX11_laysPassed f1).bind fun f2 => (b2 (FX11_keptNow f2) fun y3 f3 => some (y3, f3)))))
set_option maxHeartbeats 4000000 in
set_option maxRecDepth 100000 in
theorem SX11_kept_0 {G : GT} {l : Launch} {Q : Option AV → Mem → Prop}   (f : Mm) (h : OkI Q (FX11_kept_0   f)) : Ev G l MX11_kept (Rm 7 0 0) (ZM G Q 0 0) 0 0 0 [some (vR 150)] [] (SH, RF, f) := by
  unfold FX11_kept_0 at h
  refine ev_aload_n (i := 0) dX11_kept_0 rfl rfl ?_
  refine ev_iconst dX11_kept_1 (r32c rfl) ?_
  refine ev_putI dX11_kept_2 fl_X11_98 sh_150 (by decide) (by decide) ?_
  refine ev_aload_n (i := 0) dX11_kept_5 rfl rfl ?_
  refine ev_cVI (b := 150) (av := []) (S := []) (fun q => q) h dX11_kept_6 (fun Q' q => TX11_isBridge _ q) kvX11_isBridge ml_X11_272 sh_150 rfl (RRc (by decide) (by decide)) (Nat.le_of_ble_eq_true rfl) ⟨Nat.le_of_ble_eq_true rfl, Nat.le_of_ble_eq_true rfl⟩ (fun y1 f1 h => ?_)
  refine ev_if_ne (tgt := 15) dX11_kept_9 (by decide) (fun c4 => ?_) (fun c4 => ?_)
  · rw [if_neg c4] at h
    refine ev_aload_n (i := 0) dX11_kept_15 rfl rfl ?_
    refine ev_cVV (b := 150) (av := []) (S := []) (fun q => q) h dX11_kept_16 (fun Q' q => TX11_laysPassed _ q) kvX11_laysPassed ml_X11_327 sh_150 rfl (RRc (by decide) (by decide)) (Nat.le_of_ble_eq_true rfl) ⟨Nat.le_of_ble_eq_true rfl, Nat.le_of_ble_eq_true rfl⟩ (fun f2 h => ?_)
    refine ev_aload_n (i := 0) dX11_kept_19 rfl rfl ?_
    refine ev_cVI (b := 150) (av := []) (S := []) (fun q => q) h dX11_kept_20 (fun Q' q => TX11_keptNow _ q) kvX11_keptNow ml_X11_330 sh_150 rfl (RRc (by decide) (by decide)) (Nat.le_of_ble_eq_true rfl) ⟨Nat.le_of_ble_eq_true rfl, Nat.le_of_ble_eq_true rfl⟩ (fun y3 f3 h => ?_)
    exact ev_iret rfl dX11_kept_23 h
  · rw [if_pos c4] at h
    refine ev_bipush (v := (-2)) dX11_kept_12 (r32c rfl) (by decide) ?_
    exact ev_iret rfl dX11_kept_14 h
def FX11_kept  (f : Mm) : Option (Int × Mm) := FX11_kept_0  f
set_option maxRecDepth 100000 in
theorem TX11_kept {G : GT} {l : Launch} {Q : Option AV → Mem → Prop}  (f : Mm) (h : OkI Q (FX11_kept  f)) : Ret G l MX11_kept (7) 0 0 [vR 150] (SH, RF, f) Q := by
  refine ret_of (L := [some (vR 150)]) (by decide) rfl (Nat.le_of_ble_eq_true rfl) ?_
  exact SX11_kept_0  f h
theorem dX11_pays_0 : decode cX11_pays 0 = .ok (.aload_n 0, 1) := by decide +kernel
theorem dX11_pays_1 : decode cX11_pays 1 = .ok (.iconst 0, 1) := by decide +kernel
theorem dX11_pays_2 : decode cX11_pays 2 = .ok (.putfield 98, 3) := by decide +kernel
theorem dX11_pays_5 : decode cX11_pays 5 = .ok (.aload_n 0, 1) := by decide +kernel
theorem dX11_pays_6 : decode cX11_pays 6 = .ok (.invokevirtual 272, 3) := by decide +kernel
theorem dX11_pays_9 : decode cX11_pays 9 = .ok (.ifCond .ne 6, 3) := by decide +kernel
theorem dX11_pays_15 : decode cX11_pays 15 = .ok (.aload_n 0, 1) := by decide +kernel
theorem dX11_pays_16 : decode cX11_pays 16 = .ok (.invokevirtual 327, 3) := by decide +kernel
theorem dX11_pays_19 : decode cX11_pays 19 = .ok (.aload_n 0, 1) := by decide +kernel
theorem dX11_pays_20 : decode cX11_pays 20 = .ok (.aload_n 0, 1) := by decide +kernel
theorem dX11_pays_21 : decode cX11_pays 21 = .ok (.invokevirtual 330, 3) := by decide +kernel
theorem dX11_pays_24 : decode cX11_pays 24 = .ok (.invokevirtual 333, 3) := by decide +kernel
theorem dX11_pays_27 : decode cX11_pays 27 = .ok (.ireturn, 1) := by decide +kernel
theorem dX11_pays_12 : decode cX11_pays 12 = .ok (.bipush (-2), 2) := by decide +kernel
theorem dX11_pays_14 : decode cX11_pays 14 = .ok (.ireturn, 1) := by decide +kernel
def FX11_pays_0   (f : Mm) : Option (Int × Mm) := (b2 (FX11_isBridge (up f 150 0 0)) fun y1 f1 => (if y1 = 0 then some ((-2), f1) else ((FX11_laysPassed f1).bind fun f2 => (b2 (FX11_keptNow f2) fun y3 f3 => (b2 (FX11_payOf y3 f3) fun y4 f4 => some (y4, f4))))))
set_option maxHeartbeats 4000000 in
set_option maxRecDepth 100000 in
theorem SX11_pays_0 {G : GT} {l : Launch} {Q : Option AV → Mem → Prop}   (f : Mm) (h : OkI Q (FX11_pays_0   f)) : Ev G l MX11_pays (Rm 7 0 0) (ZM G Q 0 0) 0 0 0 [some (vR 150)] [] (SH, RF, f) := by
  unfold FX11_pays_0 at h
  refine ev_aload_n (i := 0) dX11_pays_0 rfl rfl ?_
  refine ev_iconst dX11_pays_1 (r32c rfl) ?_
  refine ev_putI dX11_pays_2 fl_X11_98 sh_150 (by decide) (by decide) ?_
  refine ev_aload_n (i := 0) dX11_pays_5 rfl rfl ?_
  refine ev_cVI (b := 150) (av := []) (S := []) (fun q => q) h dX11_pays_6 (fun Q' q => TX11_isBridge _ q) kvX11_isBridge ml_X11_272 sh_150 rfl (RRc (by decide) (by decide)) (Nat.le_of_ble_eq_true rfl) ⟨Nat.le_of_ble_eq_true rfl, Nat.le_of_ble_eq_true rfl⟩ (fun y1 f1 h => ?_)
  refine ev_if_ne (tgt := 15) dX11_pays_9 (by decide) (fun c5 => ?_) (fun c5 => ?_)
  · rw [if_neg c5] at h
    refine ev_aload_n (i := 0) dX11_pays_15 rfl rfl ?_
    refine ev_cVV (b := 150) (av := []) (S := []) (fun q => q) h dX11_pays_16 (fun Q' q => TX11_laysPassed _ q) kvX11_laysPassed ml_X11_327 sh_150 rfl (RRc (by decide) (by decide)) (Nat.le_of_ble_eq_true rfl) ⟨Nat.le_of_ble_eq_true rfl, Nat.le_of_ble_eq_true rfl⟩ (fun f2 h => ?_)
    refine ev_aload_n (i := 0) dX11_pays_19 rfl rfl ?_
    refine ev_aload_n (i := 0) dX11_pays_20 rfl rfl ?_
    refine ev_cVI (b := 150) (av := []) (S := [vR 150]) (fun q => q) h dX11_pays_21 (fun Q' q => TX11_keptNow _ q) kvX11_keptNow ml_X11_330 sh_150 rfl (RRc (by decide) (by decide)) (Nat.le_of_ble_eq_true rfl) ⟨Nat.le_of_ble_eq_true rfl, Nat.le_of_ble_eq_true rfl⟩ (fun y3 f3 h => ?_)
    refine ev_cVI (b := 150) (av := [vI y3]) (S := []) (fun q => q) h dX11_pays_24 (fun Q' q => TX11_payOf y3 _ q) kvX11_payOf ml_X11_333 sh_150 rfl (RRc (by decide) (by decide)) (Nat.le_of_ble_eq_true rfl) ⟨Nat.le_of_ble_eq_true rfl, Nat.le_of_ble_eq_true rfl⟩ (fun y4 f4 h => ?_)
    exact ev_iret rfl dX11_pays_27 h
  · rw [if_pos c5] at h
    refine ev_bipush (v := (-2)) dX11_pays_12 (r32c rfl) (by decide) ?_
    exact ev_iret rfl dX11_pays_14 h
def FX11_pays  (f : Mm) : Option (Int × Mm) := FX11_pays_0  f
set_option maxRecDepth 100000 in
theorem TX11_pays {G : GT} {l : Launch} {Q : Option AV → Mem → Prop}  (f : Mm) (h : OkI Q (FX11_pays  f)) : Ret G l MX11_pays (7) 0 0 [vR 150] (SH, RF, f) Q := by
  refine ret_of (L := [some (vR 150)]) (by decide) rfl (Nat.le_of_ble_eq_true rfl) ?_
  exact SX11_pays_0  f h
theorem dX11_costs_0 : decode cX11_costs 0 = .ok (.aload_n 0, 1) := by decide +kernel
theorem dX11_costs_1 : decode cX11_costs 1 = .ok (.iconst 0, 1) := by decide +kernel
theorem dX11_costs_2 : decode cX11_costs 2 = .ok (.putfield 98, 3) := by decide +kernel
theorem dX11_costs_5 : decode cX11_costs 5 = .ok (.aload_n 0, 1) := by decide +kernel
theorem dX11_costs_6 : decode cX11_costs 6 = .ok (.invokevirtual 272, 3) := by decide +kernel
theorem dX11_costs_9 : decode cX11_costs 9 = .ok (.ifCond .ne 6, 3) := by decide +kernel
theorem dX11_costs_15 : decode cX11_costs 15 = .ok (.aload_n 0, 1) := by decide +kernel
theorem dX11_costs_16 : decode cX11_costs 16 = .ok (.invokevirtual 296, 3) := by decide +kernel
theorem dX11_costs_19 : decode cX11_costs 19 = .ok (.aload_n 0, 1) := by decide +kernel
theorem dX11_costs_20 : decode cX11_costs 20 = .ok (.invokevirtual 336, 3) := by decide +kernel
theorem dX11_costs_23 : decode cX11_costs 23 = .ok (.ireturn, 1) := by decide +kernel
theorem dX11_costs_12 : decode cX11_costs 12 = .ok (.bipush (-2), 2) := by decide +kernel
theorem dX11_costs_14 : decode cX11_costs 14 = .ok (.ireturn, 1) := by decide +kernel
def FX11_costs_0   (f : Mm) : Option (Int × Mm) := (b2 (FX11_isBridge (up f 150 0 0)) fun y1 f1 => (if y1 = 0 then some ((-2), f1) else ((FX11_lays f1).bind fun f2 => (b2 (FX11_costNow f2) fun y3 f3 => some (y3, f3)))))
set_option maxHeartbeats 4000000 in
set_option maxRecDepth 100000 in
theorem SX11_costs_0 {G : GT} {l : Launch} {Q : Option AV → Mem → Prop}   (f : Mm) (h : OkI Q (FX11_costs_0   f)) : Ev G l MX11_costs (Rm 3 0 0) (ZM G Q 0 0) 0 0 0 [some (vR 150)] [] (SH, RF, f) := by
  unfold FX11_costs_0 at h
  refine ev_aload_n (i := 0) dX11_costs_0 rfl rfl ?_
  refine ev_iconst dX11_costs_1 (r32c rfl) ?_
  refine ev_putI dX11_costs_2 fl_X11_98 sh_150 (by decide) (by decide) ?_
  refine ev_aload_n (i := 0) dX11_costs_5 rfl rfl ?_
  refine ev_cVI (b := 150) (av := []) (S := []) (fun q => q) h dX11_costs_6 (fun Q' q => TX11_isBridge _ q) kvX11_isBridge ml_X11_272 sh_150 rfl (RRc (by decide) (by decide)) (Nat.le_of_ble_eq_true rfl) ⟨Nat.le_of_ble_eq_true rfl, Nat.le_of_ble_eq_true rfl⟩ (fun y1 f1 h => ?_)
  refine ev_if_ne (tgt := 15) dX11_costs_9 (by decide) (fun c4 => ?_) (fun c4 => ?_)
  · rw [if_neg c4] at h
    refine ev_aload_n (i := 0) dX11_costs_15 rfl rfl ?_
    refine ev_cVV (b := 150) (av := []) (S := []) (fun q => q) h dX11_costs_16 (fun Q' q => TX11_lays _ q) kvX11_lays ml_X11_296 sh_150 rfl (RRc (by decide) (by decide)) (Nat.le_of_ble_eq_true rfl) ⟨Nat.le_of_ble_eq_true rfl, Nat.le_of_ble_eq_true rfl⟩ (fun f2 h => ?_)
    refine ev_aload_n (i := 0) dX11_costs_19 rfl rfl ?_
    refine ev_cVI (b := 150) (av := []) (S := []) (fun q => q) h dX11_costs_20 (fun Q' q => TX11_costNow _ q) kvX11_costNow ml_X11_336 sh_150 rfl (RRc (by decide) (by decide)) (Nat.le_of_ble_eq_true rfl) ⟨Nat.le_of_ble_eq_true rfl, Nat.le_of_ble_eq_true rfl⟩ (fun y3 f3 h => ?_)
    exact ev_iret rfl dX11_costs_23 h
  · rw [if_pos c4] at h
    refine ev_bipush (v := (-2)) dX11_costs_12 (r32c rfl) (by decide) ?_
    exact ev_iret rfl dX11_costs_14 h
def FX11_costs  (f : Mm) : Option (Int × Mm) := FX11_costs_0  f
set_option maxRecDepth 100000 in
theorem TX11_costs {G : GT} {l : Launch} {Q : Option AV → Mem → Prop}  (f : Mm) (h : OkI Q (FX11_costs  f)) : Ret G l MX11_costs (3) 0 0 [vR 150] (SH, RF, f) Q := by
  refine ret_of (L := [some (vR 150)]) (by decide) rfl (Nat.le_of_ble_eq_true rfl) ?_
  exact SX11_costs_0  f h
theorem dX11_plans_4 : decode cX11_plans 4 = .ok (.iload_n 2, 1) := by decide +kernel
theorem dX11_plans_5 : decode cX11_plans 5 = .ok (.aload_n 0, 1) := by decide +kernel
theorem dX11_plans_6 : decode cX11_plans 6 = .ok (.invokevirtual 266, 3) := by decide +kernel
theorem dX11_plans_9 : decode cX11_plans 9 = .ok (.if_icmp .ge 20, 3) := by decide +kernel
theorem dX11_plans_29 : decode cX11_plans 29 = .ok (.iload_n 1, 1) := by decide +kernel
theorem dX11_plans_30 : decode cX11_plans 30 = .ok (.ireturn, 1) := by decide +kernel
theorem dX11_plans_12 : decode cX11_plans 12 = .ok (.iload_n 1, 1) := by decide +kernel
theorem dX11_plans_13 : decode cX11_plans 13 = .ok (.aload_n 0, 1) := by decide +kernel
theorem dX11_plans_14 : decode cX11_plans 14 = .ok (.getfield 34, 3) := by decide +kernel
theorem dX11_plans_17 : decode cX11_plans 17 = .ok (.iconst 5, 1) := by decide +kernel
theorem dX11_plans_18 : decode cX11_plans 18 = .ok (.iaload, 1) := by decide +kernel
theorem dX11_plans_19 : decode cX11_plans 19 = .ok (.iconst 1, 1) := by decide +kernel
theorem dX11_plans_20 : decode cX11_plans 20 = .ok (.iadd, 1) := by decide +kernel
theorem dX11_plans_21 : decode cX11_plans 21 = .ok (.imul, 1) := by decide +kernel
theorem dX11_plans_22 : decode cX11_plans 22 = .ok (.istore_n 1, 1) := by decide +kernel
theorem dX11_plans_23 : decode cX11_plans 23 = .ok (.iinc 2 1, 3) := by decide +kernel
theorem dX11_plans_26 : decode cX11_plans 26 = .ok (.goto (-22), 3) := by decide +kernel
theorem dX11_plans_0 : decode cX11_plans 0 = .ok (.iconst 1, 1) := by decide +kernel
theorem dX11_plans_1 : decode cX11_plans 1 = .ok (.istore_n 1, 1) := by decide +kernel
theorem dX11_plans_2 : decode cX11_plans 2 = .ok (.iconst 0, 1) := by decide +kernel
theorem dX11_plans_3 : decode cX11_plans 3 = .ok (.istore_n 2, 1) := by decide +kernel
def FX11_plans_4  : Nat → Int → Int → Mm → Option (Int × Mm)
  | 0, _, _, _ => none
  | n + 1, x1, x2, f => (b2 (FX11_days f) fun y1 f1 => (if y1 ≤ x2 then some (x1, f1) else FX11_plans_4 n (w32 (x1 * (w32 ((f1 157 5) + 1)))) (w32 (x2 + 1)) f1))
set_option maxHeartbeats 4000000 in
set_option maxRecDepth 100000 in
theorem SX11_plans_4 {G : GT} {l : Launch} {Q : Option AV → Mem → Prop}  : ∀ (n : Nat) (x1 : Int) (x2 : Int) (f : Mm), OkI Q (FX11_plans_4  n x1 x2 f) → Ev G l MX11_plans (Rm 2 0 0) (ZM G Q 0 0) 0 0 4 [some (vR 150), some (vI x1), some (vI x2)] [] (SH, RF, f) := by
  intro n
  induction n with
  | zero => intro x1 x2 f h; exact absurd h (by rw [FX11_plans_4]; exact fun q => q)
  | succ n ih =>
    intro x1 x2 f h
    rw [FX11_plans_4] at h
    refine ev_iload_n (i := 2) dX11_plans_4 rfl rfl ?_
    refine ev_aload_n (i := 0) dX11_plans_5 rfl rfl ?_
    refine ev_cVI (b := 150) (av := []) (S := [vI x2]) (fun q => q) h dX11_plans_6 (fun Q' q => TX11_days _ q) kvX11_days ml_X11_266 sh_150 rfl (RRc (by decide) (by decide)) (Nat.le_of_ble_eq_true rfl) ⟨Nat.le_of_ble_eq_true rfl, Nat.le_of_ble_eq_true rfl⟩ (fun y1 f1 h => ?_)
    refine ev_icmp_ge (tgt := 29) dX11_plans_9 (by decide) (fun c2 => ?_) (fun c2 => ?_)
    · rw [if_pos c2] at h
      refine ev_iload_n (i := 1) dX11_plans_29 rfl rfl ?_
      exact ev_iret rfl dX11_plans_30 h
    · rw [if_neg c2] at h
      refine ev_iload_n (i := 1) dX11_plans_12 rfl rfl ?_
      refine ev_aload_n (i := 0) dX11_plans_13 rfl rfl ?_
      refine ev_getR dX11_plans_14 fl_X11_34 sh_150 (by decide) (by decide) rf_150_17 ?_
      refine ev_iconst dX11_plans_17 (r32c rfl) ?_
      refine ex_iald (x := (f1 157 5)) dX11_plans_18 sh_157 (by decide) (by decide) rfl ?_
      refine ev_iconst dX11_plans_19 (r32c rfl) ?_
      refine ev_iadd dX11_plans_20 ?_
      refine ev_imul dX11_plans_21 ?_
      refine ev_istore_n (i := 1) (L' := [some (vR 150), some (vI (w32 (x1 * (w32 ((f1 157 5) + 1))))), some (vI x2)]) dX11_plans_22 rfl (by decide) rfl ?_
      refine ev_iinc (L' := [some (vR 150), some (vI (w32 (x1 * (w32 ((f1 157 5) + 1))))), some (vI (w32 (x2 + 1)))]) dX11_plans_23 rfl (by decide) rfl ?_
      refine ev_goto (tgt := 4) dX11_plans_26 (by decide) ?_
      exact ih (w32 (x1 * (w32 ((f1 157 5) + 1)))) (w32 (x2 + 1)) _ h
def FX11_plans_0   (f : Mm) : Option (Int × Mm) := FX11_plans_4 fu 1 0 f
set_option maxHeartbeats 4000000 in
set_option maxRecDepth 100000 in
theorem SX11_plans_0 {G : GT} {l : Launch} {Q : Option AV → Mem → Prop}   (f : Mm) (h : OkI Q (FX11_plans_0   f)) : Ev G l MX11_plans (Rm 2 0 0) (ZM G Q 0 0) 0 0 0 [some (vR 150), none, none] [] (SH, RF, f) := by
  unfold FX11_plans_0 at h
  refine ev_iconst dX11_plans_0 (r32c rfl) ?_
  refine ev_istore_n (i := 1) (L' := [some (vR 150), some (vI 1), none]) dX11_plans_1 rfl (by decide) rfl ?_
  refine ev_iconst dX11_plans_2 (r32c rfl) ?_
  refine ev_istore_n (i := 2) (L' := [some (vR 150), some (vI 1), some (vI 0)]) dX11_plans_3 rfl (by decide) rfl ?_
  exact SX11_plans_4  fu 1 0 _ h
def FX11_plans  (f : Mm) : Option (Int × Mm) := FX11_plans_0  f
set_option maxRecDepth 100000 in
theorem TX11_plans {G : GT} {l : Launch} {Q : Option AV → Mem → Prop}  (f : Mm) (h : OkI Q (FX11_plans  f)) : Ret G l MX11_plans (2) 0 0 [vR 150] (SH, RF, f) Q := by
  refine ret_of (L := [some (vR 150), none, none]) (by decide) rfl (Nat.le_of_ble_eq_true rfl) ?_
  exact SX11_plans_0  f h
theorem dX11_planIs_9 : decode cX11_planIs 9 = .ok (.iload_n 3, 1) := by decide +kernel
theorem dX11_planIs_10 : decode cX11_planIs 10 = .ok (.ifCond .lt 38, 3) := by decide +kernel
theorem dX11_planIs_48 : decode cX11_planIs 48 = .ok (.return_, 1) := by decide +kernel
theorem dX11_planIs_13 : decode cX11_planIs 13 = .ok (.aload_n 0, 1) := by decide +kernel
theorem dX11_planIs_14 : decode cX11_planIs 14 = .ok (.getfield 50, 3) := by decide +kernel
theorem dX11_planIs_17 : decode cX11_planIs 17 = .ok (.iload_n 3, 1) := by decide +kernel
theorem dX11_planIs_18 : decode cX11_planIs 18 = .ok (.iload_n 2, 1) := by decide +kernel
theorem dX11_planIs_19 : decode cX11_planIs 19 = .ok (.aload_n 0, 1) := by decide +kernel
theorem dX11_planIs_20 : decode cX11_planIs 20 = .ok (.getfield 34, 3) := by decide +kernel
theorem dX11_planIs_23 : decode cX11_planIs 23 = .ok (.iconst 5, 1) := by decide +kernel
theorem dX11_planIs_24 : decode cX11_planIs 24 = .ok (.iaload, 1) := by decide +kernel
theorem dX11_planIs_25 : decode cX11_planIs 25 = .ok (.iconst 1, 1) := by decide +kernel
theorem dX11_planIs_26 : decode cX11_planIs 26 = .ok (.iadd, 1) := by decide +kernel
theorem dX11_planIs_27 : decode cX11_planIs 27 = .ok (.irem, 1) := by decide +kernel
theorem dX11_planIs_28 : decode cX11_planIs 28 = .ok (.iconst 1, 1) := by decide +kernel
theorem dX11_planIs_29 : decode cX11_planIs 29 = .ok (.isub, 1) := by decide +kernel
theorem dX11_planIs_30 : decode cX11_planIs 30 = .ok (.iastore, 1) := by decide +kernel
theorem dX11_planIs_31 : decode cX11_planIs 31 = .ok (.iload_n 2, 1) := by decide +kernel
theorem dX11_planIs_32 : decode cX11_planIs 32 = .ok (.aload_n 0, 1) := by decide +kernel
theorem dX11_planIs_33 : decode cX11_planIs 33 = .ok (.getfield 34, 3) := by decide +kernel
theorem dX11_planIs_36 : decode cX11_planIs 36 = .ok (.iconst 5, 1) := by decide +kernel
theorem dX11_planIs_37 : decode cX11_planIs 37 = .ok (.iaload, 1) := by decide +kernel
theorem dX11_planIs_38 : decode cX11_planIs 38 = .ok (.iconst 1, 1) := by decide +kernel
theorem dX11_planIs_39 : decode cX11_planIs 39 = .ok (.iadd, 1) := by decide +kernel
theorem dX11_planIs_40 : decode cX11_planIs 40 = .ok (.idiv, 1) := by decide +kernel
theorem dX11_planIs_41 : decode cX11_planIs 41 = .ok (.istore_n 2, 1) := by decide +kernel
theorem dX11_planIs_42 : decode cX11_planIs 42 = .ok (.iinc 3 (-1), 3) := by decide +kernel
theorem dX11_planIs_45 : decode cX11_planIs 45 = .ok (.goto (-36), 3) := by decide +kernel
theorem dX11_planIs_0 : decode cX11_planIs 0 = .ok (.iload_n 1, 1) := by decide +kernel
theorem dX11_planIs_1 : decode cX11_planIs 1 = .ok (.istore_n 2, 1) := by decide +kernel
theorem dX11_planIs_2 : decode cX11_planIs 2 = .ok (.aload_n 0, 1) := by decide +kernel
theorem dX11_planIs_3 : decode cX11_planIs 3 = .ok (.invokevirtual 266, 3) := by decide +kernel
theorem dX11_planIs_6 : decode cX11_planIs 6 = .ok (.iconst 1, 1) := by decide +kernel
theorem dX11_planIs_7 : decode cX11_planIs 7 = .ok (.isub, 1) := by decide +kernel
theorem dX11_planIs_8 : decode cX11_planIs 8 = .ok (.istore_n 3, 1) := by decide +kernel
def FX11_planIs_9  : Nat → Int → Int → Mm → Option Mm
  | 0, _, _, _ => none
  | n + 1, x2, x3, f => (if x3 < 0 then some f else (if (w32 ((f 157 5) + 1)) ≠ 0 then (if 0 ≤ x3 ∧ x3 < 6 then (if (w32 ((f 157 5) + 1)) ≠ 0 then FX11_planIs_9 n (iDiv x2 (w32 ((f 157 5) + 1))) (w32 (x3 + (-1))) (up f 162 x3.toNat (w32 ((iRem x2 (w32 ((f 157 5) + 1))) - 1))) else none) else none) else none))
set_option maxHeartbeats 4000000 in
set_option maxRecDepth 100000 in
theorem SX11_planIs_9 {G : GT} {l : Launch} {Q : Option AV → Mem → Prop}  : ∀ (n : Nat) (x2 : Int) (x3 : Int) (f : Mm), OkV Q (FX11_planIs_9  n x2 x3 f) → Ev G l MX11_planIs (Rm 2 0 0) (ZM G Q 0 0) 0 0 9 [some (vR 150), none, some (vI x2), some (vI x3)] [] (SH, RF, f) := by
  intro n
  induction n with
  | zero => intro x2 x3 f h; exact absurd h (by rw [FX11_planIs_9]; exact fun q => q)
  | succ n ih =>
    intro x2 x3 f h
    rw [FX11_planIs_9] at h
    refine ev_iload_n (i := 3) dX11_planIs_9 rfl rfl ?_
    refine ev_if_lt (tgt := 48) dX11_planIs_10 (by decide) (fun c4 => ?_) (fun c4 => ?_)
    · rw [if_pos c4] at h
      exact ev_vret rfl dX11_planIs_48 h
    · rw [if_neg c4] at h
      refine ev_aload_n (i := 0) dX11_planIs_13 rfl rfl ?_
      refine ev_getR dX11_planIs_14 fl_X11_50 sh_150 (by decide) (by decide) rf_150_22 ?_
      refine ev_iload_n (i := 3) dX11_planIs_17 rfl rfl ?_
      refine ev_iload_n (i := 2) dX11_planIs_18 rfl rfl ?_
      refine ev_aload_n (i := 0) dX11_planIs_19 rfl rfl ?_
      refine ev_getR dX11_planIs_20 fl_X11_34 sh_150 (by decide) (by decide) rf_150_17 ?_
      refine ev_iconst dX11_planIs_23 (r32c rfl) ?_
      refine ex_iald (x := (f 157 5)) dX11_planIs_24 sh_157 (by decide) (by decide) rfl ?_
      refine ev_iconst dX11_planIs_25 (r32c rfl) ?_
      refine ev_iadd dX11_planIs_26 ?_
      by_cases g1 : (w32 ((f 157 5) + 1)) ≠ 0
      · rw [if_pos g1] at h
        refine ev_irem dX11_planIs_27 g1 ?_
        refine ev_iconst dX11_planIs_28 (r32c rfl) ?_
        refine ev_isub dX11_planIs_29 ?_
        by_cases g2 : 0 ≤ x3 ∧ x3 < 6
        · rw [if_pos g2] at h
          refine ex_iast (j := x3.toNat) dX11_planIs_30 sh_162 g2.1 g2.2 rfl ?_
          refine ev_iload_n (i := 2) dX11_planIs_31 rfl rfl ?_
          refine ev_aload_n (i := 0) dX11_planIs_32 rfl rfl ?_
          refine ev_getR dX11_planIs_33 fl_X11_34 sh_150 (by decide) (by decide) rf_150_17 ?_
          refine ev_iconst dX11_planIs_36 (r32c rfl) ?_
          refine ex_iald (x := (f 157 5)) dX11_planIs_37 sh_157 (by decide) (by decide) rfl ?_
          refine ev_iconst dX11_planIs_38 (r32c rfl) ?_
          refine ev_iadd dX11_planIs_39 ?_
          by_cases g3 : (w32 ((f 157 5) + 1)) ≠ 0
          · rw [if_pos g3] at h
            refine ev_idiv dX11_planIs_40 g3 ?_
            refine ev_istore_n (i := 2) (L' := [some (vR 150), none, some (vI (iDiv x2 (w32 ((f 157 5) + 1)))), some (vI x3)]) dX11_planIs_41 rfl (by decide) rfl ?_
            refine ev_iinc (L' := [some (vR 150), none, some (vI (iDiv x2 (w32 ((f 157 5) + 1)))), some (vI (w32 (x3 + (-1))))]) dX11_planIs_42 rfl (by decide) rfl ?_
            refine ev_goto (tgt := 9) dX11_planIs_45 (by decide) ?_
            exact ih (iDiv x2 (w32 ((f 157 5) + 1))) (w32 (x3 + (-1))) _ h
          · rw [if_neg g3] at h; exact h.elim
        · rw [if_neg g2] at h; exact h.elim
      · rw [if_neg g1] at h; exact h.elim
def FX11_planIs_0  (x1 : Int) (f : Mm) : Option Mm := (b2 (FX11_days f) fun y1 f1 => FX11_planIs_9 fu x1 (w32 (y1 - 1)) f1)
set_option maxHeartbeats 4000000 in
set_option maxRecDepth 100000 in
theorem SX11_planIs_0 {G : GT} {l : Launch} {Q : Option AV → Mem → Prop}  (x1 : Int) (f : Mm) (h : OkV Q (FX11_planIs_0  x1 f)) : Ev G l MX11_planIs (Rm 2 0 0) (ZM G Q 0 0) 0 0 0 [some (vR 150), some (vI x1), none, none] [] (SH, RF, f) := by
  unfold FX11_planIs_0 at h
  refine ev_iload_n (i := 1) dX11_planIs_0 rfl rfl ?_
  refine ev_istore_n (i := 2) (L' := [some (vR 150), some (vI x1), some (vI x1), none]) dX11_planIs_1 rfl (by decide) rfl ?_
  refine ev_aload_n (i := 0) dX11_planIs_2 rfl rfl ?_
  refine ev_cVI (b := 150) (av := []) (S := []) (fun q => q) h dX11_planIs_3 (fun Q' q => TX11_days _ q) kvX11_days ml_X11_266 sh_150 rfl (RRc (by decide) (by decide)) (Nat.le_of_ble_eq_true rfl) ⟨Nat.le_of_ble_eq_true rfl, Nat.le_of_ble_eq_true rfl⟩ (fun y1 f1 h => ?_)
  refine ev_iconst dX11_planIs_6 (r32c rfl) ?_
  refine ev_isub dX11_planIs_7 ?_
  refine ev_istore_n (i := 3) (L' := [some (vR 150), some (vI x1), some (vI x1), some (vI (w32 (y1 - 1)))]) dX11_planIs_8 rfl (by decide) rfl ?_
  refine ev_fg [true, false, true, true] rfl ?_
  exact SX11_planIs_9  fu x1 (w32 (y1 - 1)) _ h
def FX11_planIs (x1 : Int) (f : Mm) : Option Mm := FX11_planIs_0 x1 f
set_option maxRecDepth 100000 in
theorem TX11_planIs {G : GT} {l : Launch} {Q : Option AV → Mem → Prop} (x1 : Int) (f : Mm) (h : OkV Q (FX11_planIs x1 f)) : Ret G l MX11_planIs (2) 0 0 [vR 150, vI x1] (SH, RF, f) Q := by
  refine ret_of (L := [some (vR 150), some (vI x1), none, none]) (by decide) rfl (Nat.le_of_ble_eq_true rfl) ?_
  exact SX11_planIs_0 x1 f h
theorem dX11_hasOther_32 : decode cX11_hasOther 32 = .ok (.iinc 2 1, 3) := by decide +kernel
theorem dX11_hasOther_35 : decode cX11_hasOther 35 = .ok (.goto (-33), 3) := by decide +kernel
theorem dX11_hasOther_2 : decode cX11_hasOther 2 = .ok (.iload_n 2, 1) := by decide +kernel
theorem dX11_hasOther_3 : decode cX11_hasOther 3 = .ok (.aload_n 0, 1) := by decide +kernel
theorem dX11_hasOther_4 : decode cX11_hasOther 4 = .ok (.invokevirtual 266, 3) := by decide +kernel
theorem dX11_hasOther_7 : decode cX11_hasOther 7 = .ok (.if_icmp .ge 31, 3) := by decide +kernel
theorem dX11_hasOther_38 : decode cX11_hasOther 38 = .ok (.iconst 0, 1) := by decide +kernel
theorem dX11_hasOther_39 : decode cX11_hasOther 39 = .ok (.ireturn, 1) := by decide +kernel
theorem dX11_hasOther_10 : decode cX11_hasOther 10 = .ok (.aload_n 0, 1) := by decide +kernel
theorem dX11_hasOther_11 : decode cX11_hasOther 11 = .ok (.getfield 50, 3) := by decide +kernel
theorem dX11_hasOther_14 : decode cX11_hasOther 14 = .ok (.iload_n 2, 1) := by decide +kernel
theorem dX11_hasOther_15 : decode cX11_hasOther 15 = .ok (.iaload, 1) := by decide +kernel
theorem dX11_hasOther_16 : decode cX11_hasOther 16 = .ok (.iconst (-1), 1) := by decide +kernel
theorem dX11_hasOther_17 : decode cX11_hasOther 17 = .ok (.if_icmp .eq 15, 3) := by decide +kernel
theorem dX11_hasOther_20 : decode cX11_hasOther 20 = .ok (.aload_n 0, 1) := by decide +kernel
theorem dX11_hasOther_21 : decode cX11_hasOther 21 = .ok (.getfield 50, 3) := by decide +kernel
theorem dX11_hasOther_24 : decode cX11_hasOther 24 = .ok (.iload_n 2, 1) := by decide +kernel
theorem dX11_hasOther_25 : decode cX11_hasOther 25 = .ok (.iaload, 1) := by decide +kernel
theorem dX11_hasOther_26 : decode cX11_hasOther 26 = .ok (.iload_n 1, 1) := by decide +kernel
theorem dX11_hasOther_27 : decode cX11_hasOther 27 = .ok (.if_icmp .eq 5, 3) := by decide +kernel
theorem dX11_hasOther_30 : decode cX11_hasOther 30 = .ok (.iconst 1, 1) := by decide +kernel
theorem dX11_hasOther_31 : decode cX11_hasOther 31 = .ok (.ireturn, 1) := by decide +kernel
theorem dX11_hasOther_0 : decode cX11_hasOther 0 = .ok (.iconst 0, 1) := by decide +kernel
theorem dX11_hasOther_1 : decode cX11_hasOther 1 = .ok (.istore_n 2, 1) := by decide +kernel
def FX11_hasOther_32 (k2 : Int → Int → Mm → Option (Int × Mm)) (x1 : Int) (x2 : Int) (f : Mm) : Option (Int × Mm) := k2 x1 (w32 (x2 + 1)) f
set_option maxHeartbeats 4000000 in
set_option maxRecDepth 100000 in
theorem SX11_hasOther_32 {G : GT} {l : Launch} {Q : Option AV → Mem → Prop} {k2 : Int → Int → Mm → Option (Int × Mm)} (q2 : ∀ (x1 : Int) (x2 : Int) (f : Mm), OkI Q (k2 x1 x2 f) → Ev G l MX11_hasOther (Rm 2 0 0) (ZM G Q 0 0) 0 0 2 [some (vR 150), some (vI x1), some (vI x2)] [] (SH, RF, f)) (x1 : Int) (x2 : Int) (f : Mm) (h : OkI Q (FX11_hasOther_32 k2 x1 x2 f)) : Ev G l MX11_hasOther (Rm 2 0 0) (ZM G Q 0 0) 0 0 32 [some (vR 150), some (vI x1), some (vI x2)] [] (SH, RF, f) := by
  unfold FX11_hasOther_32 at h
  refine ev_iinc (L' := [some (vR 150), some (vI x1), some (vI (w32 (x2 + 1)))]) dX11_hasOther_32 rfl (by decide) rfl ?_
  refine ev_goto (tgt := 2) dX11_hasOther_35 (by decide) ?_
  exact q2 x1 (w32 (x2 + 1)) _ h
def FX11_hasOther_2  : Nat → Int → Int → Mm → Option (Int × Mm)
  | 0, _, _, _ => none
  | n + 1, x1, x2, f => (b2 (FX11_days f) fun y1 f1 => (if y1 ≤ x2 then some (0, f1) else (if 0 ≤ x2 ∧ x2 < 6 then (if (f1 162 x2.toNat) = (-1) then FX11_hasOther_32 (FX11_hasOther_2 n) x1 x2 f1 else (if 0 ≤ x2 ∧ x2 < 6 then (if (f1 162 x2.toNat) = x1 then FX11_hasOther_32 (FX11_hasOther_2 n) x1 x2 f1 else some (1, f1)) else none)) else none)))
set_option maxHeartbeats 4000000 in
set_option maxRecDepth 100000 in
theorem SX11_hasOther_2 {G : GT} {l : Launch} {Q : Option AV → Mem → Prop}  : ∀ (n : Nat) (x1 : Int) (x2 : Int) (f : Mm), OkI Q (FX11_hasOther_2  n x1 x2 f) → Ev G l MX11_hasOther (Rm 2 0 0) (ZM G Q 0 0) 0 0 2 [some (vR 150), some (vI x1), some (vI x2)] [] (SH, RF, f) := by
  intro n
  induction n with
  | zero => intro x1 x2 f h; exact absurd h (by rw [FX11_hasOther_2]; exact fun q => q)
  | succ n ih =>
    intro x1 x2 f h
    rw [FX11_hasOther_2] at h
    refine ev_iload_n (i := 2) dX11_hasOther_2 rfl rfl ?_
    refine ev_aload_n (i := 0) dX11_hasOther_3 rfl rfl ?_
    refine ev_cVI (b := 150) (av := []) (S := [vI x2]) (fun q => q) h dX11_hasOther_4 (fun Q' q => TX11_days _ q) kvX11_days ml_X11_266 sh_150 rfl (RRc (by decide) (by decide)) (Nat.le_of_ble_eq_true rfl) ⟨Nat.le_of_ble_eq_true rfl, Nat.le_of_ble_eq_true rfl⟩ (fun y1 f1 h => ?_)
    refine ev_icmp_ge (tgt := 38) dX11_hasOther_7 (by decide) (fun c6 => ?_) (fun c6 => ?_)
    · rw [if_pos c6] at h
      refine ev_iconst dX11_hasOther_38 (r32c rfl) ?_
      exact ev_zret rfl (by decide) dX11_hasOther_39 h
    · rw [if_neg c6] at h
      refine ev_aload_n (i := 0) dX11_hasOther_10 rfl rfl ?_
      refine ev_getR dX11_hasOther_11 fl_X11_50 sh_150 (by decide) (by decide) rf_150_22 ?_
      refine ev_iload_n (i := 2) dX11_hasOther_14 rfl rfl ?_
      by_cases g2 : 0 ≤ x2 ∧ x2 < 6
      · rw [if_pos g2] at h
        refine ex_iald (x := (f1 162 x2.toNat)) dX11_hasOther_15 sh_162 g2.1 g2.2 rfl ?_
        refine ev_iconst dX11_hasOther_16 (r32c rfl) ?_
        refine ev_icmp_eq (tgt := 32) dX11_hasOther_17 (by decide) (fun c5 => ?_) (fun c5 => ?_)
        · rw [if_pos c5] at h
          exact SX11_hasOther_32 ih x1 x2 _ h
        · rw [if_neg c5] at h
          refine ev_aload_n (i := 0) dX11_hasOther_20 rfl rfl ?_
          refine ev_getR dX11_hasOther_21 fl_X11_50 sh_150 (by decide) (by decide) rf_150_22 ?_
          refine ev_iload_n (i := 2) dX11_hasOther_24 rfl rfl ?_
          by_cases g3 : 0 ≤ x2 ∧ x2 < 6
          · rw [if_pos g3] at h
            refine ex_iald (x := (f1 162 x2.toNat)) dX11_hasOther_25 sh_162 g3.1 g3.2 rfl ?_
            refine ev_iload_n (i := 1) dX11_hasOther_26 rfl rfl ?_
            refine ev_icmp_eq (tgt := 32) dX11_hasOther_27 (by decide) (fun c4 => ?_) (fun c4 => ?_)
            · rw [if_pos c4] at h
              exact SX11_hasOther_32 ih x1 x2 _ h
            · rw [if_neg c4] at h
              refine ev_iconst dX11_hasOther_30 (r32c rfl) ?_
              exact ev_zret rfl (by decide) dX11_hasOther_31 h
          · rw [if_neg g3] at h; exact h.elim
      · rw [if_neg g2] at h; exact h.elim
def FX11_hasOther_0  (x1 : Int) (f : Mm) : Option (Int × Mm) := FX11_hasOther_2 fu x1 0 f
set_option maxHeartbeats 4000000 in
set_option maxRecDepth 100000 in
theorem SX11_hasOther_0 {G : GT} {l : Launch} {Q : Option AV → Mem → Prop}  (x1 : Int) (f : Mm) (h : OkI Q (FX11_hasOther_0  x1 f)) : Ev G l MX11_hasOther (Rm 2 0 0) (ZM G Q 0 0) 0 0 0 [some (vR 150), some (vI x1), none] [] (SH, RF, f) := by
  unfold FX11_hasOther_0 at h
  refine ev_iconst dX11_hasOther_0 (r32c rfl) ?_
  refine ev_istore_n (i := 2) (L' := [some (vR 150), some (vI x1), some (vI 0)]) dX11_hasOther_1 rfl (by decide) rfl ?_
  exact SX11_hasOther_2  fu x1 0 _ h
def FX11_hasOther (x1 : Int) (f : Mm) : Option (Int × Mm) := FX11_hasOther_0 x1 f
set_option maxRecDepth 100000 in
theorem TX11_hasOther {G : GT} {l : Launch} {Q : Option AV → Mem → Prop} (x1 : Int) (f : Mm) (h : OkI Q (FX11_hasOther x1 f)) : Ret G l MX11_hasOther (2) 0 0 [vR 150, vI x1] (SH, RF, f) Q := by
  refine ret_of (L := [some (vR 150), some (vI x1), none]) (by decide) rfl (Nat.le_of_ble_eq_true rfl) ?_
  exact SX11_hasOther_0 x1 f h
theorem dX11_planTells_414 : decode cX11_planTells 414 = .ok (.iastore, 1) := by decide +kernel
theorem dX11_planTells_415 : decode cX11_planTells 415 = .ok (.iinc 6 1, 3) := by decide +kernel
theorem dX11_planTells_418 : decode cX11_planTells 418 = .ok (.goto (-64), 3) := by decide +kernel
theorem dX11_planTells_407 : decode cX11_planTells 407 = .ok (.aload_n 0, 1) := by decide +kernel
theorem dX11_planTells_408 : decode cX11_planTells 408 = .ok (.getfield 80, 3) := by decide +kernel
theorem dX11_planTells_411 : decode cX11_planTells 411 = .ok (.iload 6, 2) := by decide +kernel
theorem dX11_planTells_413 : decode cX11_planTells 413 = .ok (.iaload, 1) := by decide +kernel
theorem dX11_planTells_354 : decode cX11_planTells 354 = .ok (.iload 6, 2) := by decide +kernel
theorem dX11_planTells_356 : decode cX11_planTells 356 = .ok (.aload_n 0, 1) := by decide +kernel
theorem dX11_planTells_357 : decode cX11_planTells 357 = .ok (.invokevirtual 269, 3) := by decide +kernel
theorem dX11_planTells_360 : decode cX11_planTells 360 = .ok (.if_icmp .ge 61, 3) := by decide +kernel
theorem dX11_planTells_421 : decode cX11_planTells 421 = .ok (.return_, 1) := by decide +kernel
theorem dX11_planTells_363 : decode cX11_planTells 363 = .ok (.aload_n 0, 1) := by decide +kernel
theorem dX11_planTells_364 : decode cX11_planTells 364 = .ok (.getfield 80, 3) := by decide +kernel
theorem dX11_planTells_367 : decode cX11_planTells 367 = .ok (.iload 6, 2) := by decide +kernel
theorem dX11_planTells_369 : decode cX11_planTells 369 = .ok (.aload_n 0, 1) := by decide +kernel
theorem dX11_planTells_370 : decode cX11_planTells 370 = .ok (.getfield 65, 3) := by decide +kernel
theorem dX11_planTells_373 : decode cX11_planTells 373 = .ok (.iload 6, 2) := by decide +kernel
theorem dX11_planTells_375 : decode cX11_planTells 375 = .ok (.iaload, 1) := by decide +kernel
theorem dX11_planTells_376 : decode cX11_planTells 376 = .ok (.iconst (-1), 1) := by decide +kernel
theorem dX11_planTells_377 : decode cX11_planTells 377 = .ok (.if_icmp .eq 30, 3) := by decide +kernel
theorem dX11_planTells_380 : decode cX11_planTells 380 = .ok (.aload_n 0, 1) := by decide +kernel
theorem dX11_planTells_381 : decode cX11_planTells 381 = .ok (.getfield 65, 3) := by decide +kernel
theorem dX11_planTells_384 : decode cX11_planTells 384 = .ok (.iload 6, 2) := by decide +kernel
theorem dX11_planTells_386 : decode cX11_planTells 386 = .ok (.iaload, 1) := by decide +kernel
theorem dX11_planTells_387 : decode cX11_planTells 387 = .ok (.aload_n 0, 1) := by decide +kernel
theorem dX11_planTells_388 : decode cX11_planTells 388 = .ok (.getfield 80, 3) := by decide +kernel
theorem dX11_planTells_391 : decode cX11_planTells 391 = .ok (.iload 6, 2) := by decide +kernel
theorem dX11_planTells_393 : decode cX11_planTells 393 = .ok (.iaload, 1) := by decide +kernel
theorem dX11_planTells_394 : decode cX11_planTells 394 = .ok (.if_icmp .ge 13, 3) := by decide +kernel
theorem dX11_planTells_397 : decode cX11_planTells 397 = .ok (.aload_n 0, 1) := by decide +kernel
theorem dX11_planTells_398 : decode cX11_planTells 398 = .ok (.getfield 65, 3) := by decide +kernel
theorem dX11_planTells_401 : decode cX11_planTells 401 = .ok (.iload 6, 2) := by decide +kernel
theorem dX11_planTells_403 : decode cX11_planTells 403 = .ok (.iaload, 1) := by decide +kernel
theorem dX11_planTells_404 : decode cX11_planTells 404 = .ok (.goto 10, 3) := by decide +kernel
theorem dX11_planTells_348 : decode cX11_planTells 348 = .ok (.putfield 346, 3) := by decide +kernel
theorem dX11_planTells_351 : decode cX11_planTells 351 = .ok (.iconst 0, 1) := by decide +kernel
theorem dX11_planTells_352 : decode cX11_planTells 352 = .ok (.istore 6, 2) := by decide +kernel
theorem dX11_planTells_329 : decode cX11_planTells 329 = .ok (.aload_n 0, 1) := by decide +kernel
theorem dX11_planTells_330 : decode cX11_planTells 330 = .ok (.iload 5, 2) := by decide +kernel
theorem dX11_planTells_332 : decode cX11_planTells 332 = .ok (.aload_n 0, 1) := by decide +kernel
theorem dX11_planTells_333 : decode cX11_planTells 333 = .ok (.getfield 346, 3) := by decide +kernel
theorem dX11_planTells_336 : decode cX11_planTells 336 = .ok (.if_icmp .le 8, 3) := by decide +kernel
theorem dX11_planTells_344 : decode cX11_planTells 344 = .ok (.aload_n 0, 1) := by decide +kernel
theorem dX11_planTells_345 : decode cX11_planTells 345 = .ok (.getfield 346, 3) := by decide +kernel
theorem dX11_planTells_339 : decode cX11_planTells 339 = .ok (.iload 5, 2) := by decide +kernel
theorem dX11_planTells_341 : decode cX11_planTells 341 = .ok (.goto 7, 3) := by decide +kernel
theorem dX11_planTells_322 : decode cX11_planTells 322 = .ok (.iastore, 1) := by decide +kernel
theorem dX11_planTells_323 : decode cX11_planTells 323 = .ok (.iinc 6 1, 3) := by decide +kernel
theorem dX11_planTells_326 : decode cX11_planTells 326 = .ok (.goto (-39), 3) := by decide +kernel
theorem dX11_planTells_287 : decode cX11_planTells 287 = .ok (.iload 6, 2) := by decide +kernel
theorem dX11_planTells_289 : decode cX11_planTells 289 = .ok (.iload 5, 2) := by decide +kernel
theorem dX11_planTells_291 : decode cX11_planTells 291 = .ok (.if_icmp .gt 38, 3) := by decide +kernel
theorem dX11_planTells_294 : decode cX11_planTells 294 = .ok (.aload_n 0, 1) := by decide +kernel
theorem dX11_planTells_295 : decode cX11_planTells 295 = .ok (.getfield 83, 3) := by decide +kernel
theorem dX11_planTells_298 : decode cX11_planTells 298 = .ok (.iload 6, 2) := by decide +kernel
theorem dX11_planTells_300 : decode cX11_planTells 300 = .ok (.iload_n 3, 1) := by decide +kernel
theorem dX11_planTells_301 : decode cX11_planTells 301 = .ok (.aload_n 0, 1) := by decide +kernel
theorem dX11_planTells_302 : decode cX11_planTells 302 = .ok (.getfield 83, 3) := by decide +kernel
theorem dX11_planTells_305 : decode cX11_planTells 305 = .ok (.iload 6, 2) := by decide +kernel
theorem dX11_planTells_307 : decode cX11_planTells 307 = .ok (.iaload, 1) := by decide +kernel
theorem dX11_planTells_308 : decode cX11_planTells 308 = .ok (.if_icmp .ge 7, 3) := by decide +kernel
theorem dX11_planTells_315 : decode cX11_planTells 315 = .ok (.aload_n 0, 1) := by decide +kernel
theorem dX11_planTells_316 : decode cX11_planTells 316 = .ok (.getfield 83, 3) := by decide +kernel
theorem dX11_planTells_319 : decode cX11_planTells 319 = .ok (.iload 6, 2) := by decide +kernel
theorem dX11_planTells_321 : decode cX11_planTells 321 = .ok (.iaload, 1) := by decide +kernel
theorem dX11_planTells_311 : decode cX11_planTells 311 = .ok (.iload_n 3, 1) := by decide +kernel
theorem dX11_planTells_312 : decode cX11_planTells 312 = .ok (.goto 10, 3) := by decide +kernel
theorem dX11_planTells_284 : decode cX11_planTells 284 = .ok (.iconst 0, 1) := by decide +kernel
theorem dX11_planTells_285 : decode cX11_planTells 285 = .ok (.istore 6, 2) := by decide +kernel
theorem dX11_planTells_277 : decode cX11_planTells 277 = .ok (.iastore, 1) := by decide +kernel
theorem dX11_planTells_278 : decode cX11_planTells 278 = .ok (.iinc 6 1, 3) := by decide +kernel
theorem dX11_planTells_281 : decode cX11_planTells 281 = .ok (.goto (-79), 3) := by decide +kernel
theorem dX11_planTells_235 : decode cX11_planTells 235 = .ok (.istore 5, 2) := by decide +kernel
theorem dX11_planTells_237 : decode cX11_planTells 237 = .ok (.aload_n 0, 1) := by decide +kernel
theorem dX11_planTells_238 : decode cX11_planTells 238 = .ok (.getfield 86, 3) := by decide +kernel
theorem dX11_planTells_241 : decode cX11_planTells 241 = .ok (.iload 6, 2) := by decide +kernel
theorem dX11_planTells_243 : decode cX11_planTells 243 = .ok (.aload_n 0, 1) := by decide +kernel
theorem dX11_planTells_244 : decode cX11_planTells 244 = .ok (.getfield 56, 3) := by decide +kernel
theorem dX11_planTells_247 : decode cX11_planTells 247 = .ok (.iload 6, 2) := by decide +kernel
theorem dX11_planTells_249 : decode cX11_planTells 249 = .ok (.iaload, 1) := by decide +kernel
theorem dX11_planTells_250 : decode cX11_planTells 250 = .ok (.aload_n 0, 1) := by decide +kernel
theorem dX11_planTells_251 : decode cX11_planTells 251 = .ok (.getfield 86, 3) := by decide +kernel
theorem dX11_planTells_254 : decode cX11_planTells 254 = .ok (.iload 6, 2) := by decide +kernel
theorem dX11_planTells_256 : decode cX11_planTells 256 = .ok (.iaload, 1) := by decide +kernel
theorem dX11_planTells_257 : decode cX11_planTells 257 = .ok (.if_icmp .le 13, 3) := by decide +kernel
theorem dX11_planTells_270 : decode cX11_planTells 270 = .ok (.aload_n 0, 1) := by decide +kernel
theorem dX11_planTells_271 : decode cX11_planTells 271 = .ok (.getfield 86, 3) := by decide +kernel
theorem dX11_planTells_274 : decode cX11_planTells 274 = .ok (.iload 6, 2) := by decide +kernel
theorem dX11_planTells_276 : decode cX11_planTells 276 = .ok (.iaload, 1) := by decide +kernel
theorem dX11_planTells_260 : decode cX11_planTells 260 = .ok (.aload_n 0, 1) := by decide +kernel
theorem dX11_planTells_261 : decode cX11_planTells 261 = .ok (.getfield 56, 3) := by decide +kernel
theorem dX11_planTells_264 : decode cX11_planTells 264 = .ok (.iload 6, 2) := by decide +kernel
theorem dX11_planTells_266 : decode cX11_planTells 266 = .ok (.iaload, 1) := by decide +kernel
theorem dX11_planTells_267 : decode cX11_planTells 267 = .ok (.goto 10, 3) := by decide +kernel
theorem dX11_planTells_202 : decode cX11_planTells 202 = .ok (.iload 6, 2) := by decide +kernel
theorem dX11_planTells_204 : decode cX11_planTells 204 = .ok (.aload_n 0, 1) := by decide +kernel
theorem dX11_planTells_205 : decode cX11_planTells 205 = .ok (.invokevirtual 266, 3) := by decide +kernel
theorem dX11_planTells_208 : decode cX11_planTells 208 = .ok (.if_icmp .ge 76, 3) := by decide +kernel
theorem dX11_planTells_211 : decode cX11_planTells 211 = .ok (.aload_n 0, 1) := by decide +kernel
theorem dX11_planTells_212 : decode cX11_planTells 212 = .ok (.getfield 56, 3) := by decide +kernel
theorem dX11_planTells_215 : decode cX11_planTells 215 = .ok (.iload 6, 2) := by decide +kernel
theorem dX11_planTells_217 : decode cX11_planTells 217 = .ok (.iaload, 1) := by decide +kernel
theorem dX11_planTells_218 : decode cX11_planTells 218 = .ok (.iload 5, 2) := by decide +kernel
theorem dX11_planTells_220 : decode cX11_planTells 220 = .ok (.if_icmp .ge 13, 3) := by decide +kernel
theorem dX11_planTells_233 : decode cX11_planTells 233 = .ok (.iload 5, 2) := by decide +kernel
theorem dX11_planTells_223 : decode cX11_planTells 223 = .ok (.aload_n 0, 1) := by decide +kernel
theorem dX11_planTells_224 : decode cX11_planTells 224 = .ok (.getfield 56, 3) := by decide +kernel
theorem dX11_planTells_227 : decode cX11_planTells 227 = .ok (.iload 6, 2) := by decide +kernel
theorem dX11_planTells_229 : decode cX11_planTells 229 = .ok (.iaload, 1) := by decide +kernel
theorem dX11_planTells_230 : decode cX11_planTells 230 = .ok (.goto 5, 3) := by decide +kernel
theorem dX11_planTells_195 : decode cX11_planTells 195 = .ok (.bipush 60, 2) := by decide +kernel
theorem dX11_planTells_197 : decode cX11_planTells 197 = .ok (.istore 5, 2) := by decide +kernel
theorem dX11_planTells_199 : decode cX11_planTells 199 = .ok (.iconst 0, 1) := by decide +kernel
theorem dX11_planTells_200 : decode cX11_planTells 200 = .ok (.istore 6, 2) := by decide +kernel
theorem dX11_planTells_189 : decode cX11_planTells 189 = .ok (.iinc 5 1, 3) := by decide +kernel
theorem dX11_planTells_192 : decode cX11_planTells 192 = .ok (.goto (-53), 3) := by decide +kernel
theorem dX11_planTells_139 : decode cX11_planTells 139 = .ok (.iload 5, 2) := by decide +kernel
theorem dX11_planTells_141 : decode cX11_planTells 141 = .ok (.iconst 1, 1) := by decide +kernel
theorem dX11_planTells_142 : decode cX11_planTells 142 = .ok (.aload_n 0, 1) := by decide +kernel
theorem dX11_planTells_143 : decode cX11_planTells 143 = .ok (.invokevirtual 269, 3) := by decide +kernel
theorem dX11_planTells_146 : decode cX11_planTells 146 = .ok (.ishl, 1) := by decide +kernel
theorem dX11_planTells_147 : decode cX11_planTells 147 = .ok (.if_icmp .ge 48, 3) := by decide +kernel
theorem dX11_planTells_150 : decode cX11_planTells 150 = .ok (.iload 5, 2) := by decide +kernel
theorem dX11_planTells_152 : decode cX11_planTells 152 = .ok (.iload_n 2, 1) := by decide +kernel
theorem dX11_planTells_153 : decode cX11_planTells 153 = .ok (.iconst (-1), 1) := by decide +kernel
theorem dX11_planTells_154 : decode cX11_planTells 154 = .ok (.ixor, 1) := by decide +kernel
theorem dX11_planTells_155 : decode cX11_planTells 155 = .ok (.iand, 1) := by decide +kernel
theorem dX11_planTells_156 : decode cX11_planTells 156 = .ok (.ifCond .ne 33, 3) := by decide +kernel
theorem dX11_planTells_159 : decode cX11_planTells 159 = .ok (.iload_n 3, 1) := by decide +kernel
theorem dX11_planTells_160 : decode cX11_planTells 160 = .ok (.aload_n 0, 1) := by decide +kernel
theorem dX11_planTells_161 : decode cX11_planTells 161 = .ok (.getfield 74, 3) := by decide +kernel
theorem dX11_planTells_164 : decode cX11_planTells 164 = .ok (.iload 5, 2) := by decide +kernel
theorem dX11_planTells_166 : decode cX11_planTells 166 = .ok (.iaload, 1) := by decide +kernel
theorem dX11_planTells_167 : decode cX11_planTells 167 = .ok (.if_icmp .lt 6, 3) := by decide +kernel
theorem dX11_planTells_173 : decode cX11_planTells 173 = .ok (.aload_n 0, 1) := by decide +kernel
theorem dX11_planTells_174 : decode cX11_planTells 174 = .ok (.getfield 74, 3) := by decide +kernel
theorem dX11_planTells_177 : decode cX11_planTells 177 = .ok (.iload 5, 2) := by decide +kernel
theorem dX11_planTells_179 : decode cX11_planTells 179 = .ok (.iload_n 3, 1) := by decide +kernel
theorem dX11_planTells_180 : decode cX11_planTells 180 = .ok (.iastore, 1) := by decide +kernel
theorem dX11_planTells_181 : decode cX11_planTells 181 = .ok (.aload_n 0, 1) := by decide +kernel
theorem dX11_planTells_182 : decode cX11_planTells 182 = .ok (.getfield 77, 3) := by decide +kernel
theorem dX11_planTells_185 : decode cX11_planTells 185 = .ok (.iload 5, 2) := by decide +kernel
theorem dX11_planTells_187 : decode cX11_planTells 187 = .ok (.iload_n 1, 1) := by decide +kernel
theorem dX11_planTells_188 : decode cX11_planTells 188 = .ok (.iastore, 1) := by decide +kernel
theorem dX11_planTells_170 : decode cX11_planTells 170 = .ok (.goto 19, 3) := by decide +kernel
theorem dX11_planTells_132 : decode cX11_planTells 132 = .ok (.iadd, 1) := by decide +kernel
theorem dX11_planTells_133 : decode cX11_planTells 133 = .ok (.putfield 362, 3) := by decide +kernel
theorem dX11_planTells_136 : decode cX11_planTells 136 = .ok (.iconst 0, 1) := by decide +kernel
theorem dX11_planTells_137 : decode cX11_planTells 137 = .ok (.istore 5, 2) := by decide +kernel
theorem dX11_planTells_113 : decode cX11_planTells 113 = .ok (.aload_n 0, 1) := by decide +kernel
theorem dX11_planTells_114 : decode cX11_planTells 114 = .ok (.dup, 1) := by decide +kernel
theorem dX11_planTells_115 : decode cX11_planTells 115 = .ok (.getfield 362, 3) := by decide +kernel
theorem dX11_planTells_118 : decode cX11_planTells 118 = .ok (.iload 4, 2) := by decide +kernel
theorem dX11_planTells_120 : decode cX11_planTells 120 = .ok (.aload_n 0, 1) := by decide +kernel
theorem dX11_planTells_121 : decode cX11_planTells 121 = .ok (.getfield 343, 3) := by decide +kernel
theorem dX11_planTells_124 : decode cX11_planTells 124 = .ok (.if_icmp .ne 7, 3) := by decide +kernel
theorem dX11_planTells_131 : decode cX11_planTells 131 = .ok (.iconst 0, 1) := by decide +kernel
theorem dX11_planTells_127 : decode cX11_planTells 127 = .ok (.iconst 1, 1) := by decide +kernel
theorem dX11_planTells_128 : decode cX11_planTells 128 = .ok (.goto 4, 3) := by decide +kernel
theorem dX11_planTells_84 : decode cX11_planTells 84 = .ok (.iload 5, 2) := by decide +kernel
theorem dX11_planTells_86 : decode cX11_planTells 86 = .ok (.aload_n 0, 1) := by decide +kernel
theorem dX11_planTells_87 : decode cX11_planTells 87 = .ok (.invokevirtual 266, 3) := by decide +kernel
theorem dX11_planTells_90 : decode cX11_planTells 90 = .ok (.if_icmp .ge 23, 3) := by decide +kernel
theorem dX11_planTells_93 : decode cX11_planTells 93 = .ok (.aload_n 0, 1) := by decide +kernel
theorem dX11_planTells_94 : decode cX11_planTells 94 = .ok (.getfield 71, 3) := by decide +kernel
theorem dX11_planTells_97 : decode cX11_planTells 97 = .ok (.iload 5, 2) := by decide +kernel
theorem dX11_planTells_99 : decode cX11_planTells 99 = .ok (.aload_n 0, 1) := by decide +kernel
theorem dX11_planTells_100 : decode cX11_planTells 100 = .ok (.getfield 50, 3) := by decide +kernel
theorem dX11_planTells_103 : decode cX11_planTells 103 = .ok (.iload 5, 2) := by decide +kernel
theorem dX11_planTells_105 : decode cX11_planTells 105 = .ok (.iaload, 1) := by decide +kernel
theorem dX11_planTells_106 : decode cX11_planTells 106 = .ok (.iastore, 1) := by decide +kernel
theorem dX11_planTells_107 : decode cX11_planTells 107 = .ok (.iinc 5 1, 3) := by decide +kernel
theorem dX11_planTells_110 : decode cX11_planTells 110 = .ok (.goto (-26), 3) := by decide +kernel
theorem dX11_planTells_61 : decode cX11_planTells 61 = .ok (.iload 4, 2) := by decide +kernel
theorem dX11_planTells_63 : decode cX11_planTells 63 = .ok (.aload_n 0, 1) := by decide +kernel
theorem dX11_planTells_64 : decode cX11_planTells 64 = .ok (.getfield 343, 3) := by decide +kernel
theorem dX11_planTells_67 : decode cX11_planTells 67 = .ok (.if_icmp .le 46, 3) := by decide +kernel
theorem dX11_planTells_70 : decode cX11_planTells 70 = .ok (.aload_n 0, 1) := by decide +kernel
theorem dX11_planTells_71 : decode cX11_planTells 71 = .ok (.iload 4, 2) := by decide +kernel
theorem dX11_planTells_73 : decode cX11_planTells 73 = .ok (.putfield 343, 3) := by decide +kernel
theorem dX11_planTells_76 : decode cX11_planTells 76 = .ok (.aload_n 0, 1) := by decide +kernel
theorem dX11_planTells_77 : decode cX11_planTells 77 = .ok (.iconst 0, 1) := by decide +kernel
theorem dX11_planTells_78 : decode cX11_planTells 78 = .ok (.putfield 362, 3) := by decide +kernel
theorem dX11_planTells_81 : decode cX11_planTells 81 = .ok (.iconst 0, 1) := by decide +kernel
theorem dX11_planTells_82 : decode cX11_planTells 82 = .ok (.istore 5, 2) := by decide +kernel
theorem dX11_planTells_53 : decode cX11_planTells 53 = .ok (.iadd, 1) := by decide +kernel
theorem dX11_planTells_54 : decode cX11_planTells 54 = .ok (.iastore, 1) := by decide +kernel
theorem dX11_planTells_55 : decode cX11_planTells 55 = .ok (.iinc 5 1, 3) := by decide +kernel
theorem dX11_planTells_58 : decode cX11_planTells 58 = .ok (.goto (-36), 3) := by decide +kernel
theorem dX11_planTells_22 : decode cX11_planTells 22 = .ok (.iload 5, 2) := by decide +kernel
theorem dX11_planTells_24 : decode cX11_planTells 24 = .ok (.aload_n 0, 1) := by decide +kernel
theorem dX11_planTells_25 : decode cX11_planTells 25 = .ok (.invokevirtual 269, 3) := by decide +kernel
theorem dX11_planTells_28 : decode cX11_planTells 28 = .ok (.if_icmp .ge 33, 3) := by decide +kernel
theorem dX11_planTells_31 : decode cX11_planTells 31 = .ok (.aload_n 0, 1) := by decide +kernel
theorem dX11_planTells_32 : decode cX11_planTells 32 = .ok (.getfield 89, 3) := by decide +kernel
theorem dX11_planTells_35 : decode cX11_planTells 35 = .ok (.iload 5, 2) := by decide +kernel
theorem dX11_planTells_37 : decode cX11_planTells 37 = .ok (.dup2, 1) := by decide +kernel
theorem dX11_planTells_38 : decode cX11_planTells 38 = .ok (.iaload, 1) := by decide +kernel
theorem dX11_planTells_39 : decode cX11_planTells 39 = .ok (.iload_n 2, 1) := by decide +kernel
theorem dX11_planTells_40 : decode cX11_planTells 40 = .ok (.iload 5, 2) := by decide +kernel
theorem dX11_planTells_42 : decode cX11_planTells 42 = .ok (.invokestatic 289, 3) := by decide +kernel
theorem dX11_planTells_45 : decode cX11_planTells 45 = .ok (.ifCond .eq 7, 3) := by decide +kernel
theorem dX11_planTells_52 : decode cX11_planTells 52 = .ok (.iconst 0, 1) := by decide +kernel
theorem dX11_planTells_48 : decode cX11_planTells 48 = .ok (.iconst 1, 1) := by decide +kernel
theorem dX11_planTells_49 : decode cX11_planTells 49 = .ok (.goto 4, 3) := by decide +kernel
theorem dX11_planTells_0 : decode cX11_planTells 0 = .ok (.aload_n 0, 1) := by decide +kernel
theorem dX11_planTells_1 : decode cX11_planTells 1 = .ok (.invokevirtual 330, 3) := by decide +kernel
theorem dX11_planTells_4 : decode cX11_planTells 4 = .ok (.istore_n 2, 1) := by decide +kernel
theorem dX11_planTells_5 : decode cX11_planTells 5 = .ok (.aload_n 0, 1) := by decide +kernel
theorem dX11_planTells_6 : decode cX11_planTells 6 = .ok (.invokevirtual 336, 3) := by decide +kernel
theorem dX11_planTells_9 : decode cX11_planTells 9 = .ok (.istore_n 3, 1) := by decide +kernel
theorem dX11_planTells_10 : decode cX11_planTells 10 = .ok (.aload_n 0, 1) := by decide +kernel
theorem dX11_planTells_11 : decode cX11_planTells 11 = .ok (.iload_n 2, 1) := by decide +kernel
theorem dX11_planTells_12 : decode cX11_planTells 12 = .ok (.invokevirtual 333, 3) := by decide +kernel
theorem dX11_planTells_15 : decode cX11_planTells 15 = .ok (.iload_n 3, 1) := by decide +kernel
theorem dX11_planTells_16 : decode cX11_planTells 16 = .ok (.isub, 1) := by decide +kernel
theorem dX11_planTells_17 : decode cX11_planTells 17 = .ok (.istore 4, 2) := by decide +kernel
theorem dX11_planTells_19 : decode cX11_planTells 19 = .ok (.iconst 0, 1) := by decide +kernel
theorem dX11_planTells_20 : decode cX11_planTells 20 = .ok (.istore 5, 2) := by decide +kernel
def FX11_planTells_414 (k354 : Int → Mm → Option Mm) (x6 : Int) (s1 : Int) (s2 : Int) (f : Mm) : Option Mm := (if 0 ≤ s1 ∧ s1 < 6 then k354 (w32 (x6 + 1)) (up f 172 s1.toNat s2) else none)
set_option maxHeartbeats 4000000 in
set_option maxRecDepth 100000 in
theorem SX11_planTells_414 {G : GT} {l : Launch} {Q : Option AV → Mem → Prop} {k354 : Int → Mm → Option Mm} (q354 : ∀ (x6 : Int) (f : Mm), OkV Q (k354 x6 f) → Ev G l MX11_planTells (Rm 3 0 0) (ZM G Q 0 0) 0 0 354 [some (vR 150), none, none, none, none, none, some (vI x6)] [] (SH, RF, f)) (x6 : Int) (s1 : Int) (s2 : Int) (f : Mm) (h : OkV Q (FX11_planTells_414 k354 x6 s1 s2 f)) : Ev G l MX11_planTells (Rm 3 0 0) (ZM G Q 0 0) 0 0 414 [some (vR 150), none, none, none, none, none, some (vI x6)] [vI s2, vI s1, vR 172] (SH, RF, f) := by
  unfold FX11_planTells_414 at h
  by_cases g1 : 0 ≤ s1 ∧ s1 < 6
  · rw [if_pos g1] at h
    refine ex_iast (j := s1.toNat) dX11_planTells_414 sh_172 g1.1 g1.2 rfl ?_
    refine ev_iinc (L' := [some (vR 150), none, none, none, none, none, some (vI (w32 (x6 + 1)))]) dX11_planTells_415 rfl (by decide) rfl ?_
    refine ev_goto (tgt := 354) dX11_planTells_418 (by decide) ?_
    exact q354 (w32 (x6 + 1)) _ h
  · rw [if_neg g1] at h; exact h.elim
def FX11_planTells_407 (k354 : Int → Mm → Option Mm) (x6 : Int) (s1 : Int) (f : Mm) : Option Mm := (if 0 ≤ x6 ∧ x6 < 6 then FX11_planTells_414 k354 x6 s1 (f 172 x6.toNat) f else none)
set_option maxHeartbeats 4000000 in
set_option maxRecDepth 100000 in
theorem SX11_planTells_407 {G : GT} {l : Launch} {Q : Option AV → Mem → Prop} {k354 : Int → Mm → Option Mm} (q354 : ∀ (x6 : Int) (f : Mm), OkV Q (k354 x6 f) → Ev G l MX11_planTells (Rm 3 0 0) (ZM G Q 0 0) 0 0 354 [some (vR 150), none, none, none, none, none, some (vI x6)] [] (SH, RF, f)) (x6 : Int) (s1 : Int) (f : Mm) (h : OkV Q (FX11_planTells_407 k354 x6 s1 f)) : Ev G l MX11_planTells (Rm 3 0 0) (ZM G Q 0 0) 0 0 407 [some (vR 150), none, none, none, none, none, some (vI x6)] [vI s1, vR 172] (SH, RF, f) := by
  unfold FX11_planTells_407 at h
  refine ev_aload_n (i := 0) dX11_planTells_407 rfl rfl ?_
  refine ev_getR dX11_planTells_408 fl_X11_80 sh_150 (by decide) (by decide) rf_150_37 ?_
  refine ev_iload dX11_planTells_411 rfl ?_
  by_cases g1 : 0 ≤ x6 ∧ x6 < 6
  · rw [if_pos g1] at h
    refine ex_iald (x := (f 172 x6.toNat)) dX11_planTells_413 sh_172 g1.1 g1.2 rfl ?_
    exact SX11_planTells_414 q354 x6 s1 (f 172 x6.toNat) _ h
  · rw [if_neg g1] at h; exact h.elim
def FX11_planTells_354  : Nat → Int → Mm → Option Mm
  | 0, _, _ => none
  | n + 1, x6, f => (b2 (FX11_carts f) fun y1 f1 => (if y1 ≤ x6 then some f1 else (if 0 ≤ x6 ∧ x6 < 6 then (if (f1 167 x6.toNat) = (-1) then FX11_planTells_407 (FX11_planTells_354 n) x6 x6 f1 else (if 0 ≤ x6 ∧ x6 < 6 then (if 0 ≤ x6 ∧ x6 < 6 then (if (f1 172 x6.toNat) ≤ (f1 167 x6.toNat) then FX11_planTells_407 (FX11_planTells_354 n) x6 x6 f1 else (if 0 ≤ x6 ∧ x6 < 6 then FX11_planTells_414 (FX11_planTells_354 n) x6 x6 (f1 167 x6.toNat) f1 else none)) else none) else none)) else none)))
set_option maxHeartbeats 4000000 in
set_option maxRecDepth 100000 in
theorem SX11_planTells_354 {G : GT} {l : Launch} {Q : Option AV → Mem → Prop}  : ∀ (n : Nat) (x6 : Int) (f : Mm), OkV Q (FX11_planTells_354  n x6 f) → Ev G l MX11_planTells (Rm 3 0 0) (ZM G Q 0 0) 0 0 354 [some (vR 150), none, none, none, none, none, some (vI x6)] [] (SH, RF, f) := by
  intro n
  induction n with
  | zero => intro x6 f h; exact absurd h (by rw [FX11_planTells_354]; exact fun q => q)
  | succ n ih =>
    intro x6 f h
    rw [FX11_planTells_354] at h
    refine ev_iload dX11_planTells_354 rfl ?_
    refine ev_aload_n (i := 0) dX11_planTells_356 rfl rfl ?_
    refine ev_cVI (b := 150) (av := []) (S := [vI x6]) (fun q => q) h dX11_planTells_357 (fun Q' q => TX11_carts _ q) kvX11_carts ml_X11_269 sh_150 rfl (RRc (by decide) (by decide)) (Nat.le_of_ble_eq_true rfl) ⟨Nat.le_of_ble_eq_true rfl, Nat.le_of_ble_eq_true rfl⟩ (fun y1 f1 h => ?_)
    refine ev_icmp_ge (tgt := 421) dX11_planTells_360 (by decide) (fun c8 => ?_) (fun c8 => ?_)
    · rw [if_pos c8] at h
      exact ev_vret rfl dX11_planTells_421 h
    · rw [if_neg c8] at h
      refine ev_aload_n (i := 0) dX11_planTells_363 rfl rfl ?_
      refine ev_getR dX11_planTells_364 fl_X11_80 sh_150 (by decide) (by decide) rf_150_37 ?_
      refine ev_iload dX11_planTells_367 rfl ?_
      refine ev_aload_n (i := 0) dX11_planTells_369 rfl rfl ?_
      refine ev_getR dX11_planTells_370 fl_X11_65 sh_150 (by decide) (by decide) rf_150_29 ?_
      refine ev_iload dX11_planTells_373 rfl ?_
      by_cases g2 : 0 ≤ x6 ∧ x6 < 6
      · rw [if_pos g2] at h
        refine ex_iald (x := (f1 167 x6.toNat)) dX11_planTells_375 sh_167 g2.1 g2.2 rfl ?_
        refine ev_iconst dX11_planTells_376 (r32c rfl) ?_
        refine ev_icmp_eq (tgt := 407) dX11_planTells_377 (by decide) (fun c7 => ?_) (fun c7 => ?_)
        · rw [if_pos c7] at h
          exact SX11_planTells_407 ih x6 x6 _ h
        · rw [if_neg c7] at h
          refine ev_aload_n (i := 0) dX11_planTells_380 rfl rfl ?_
          refine ev_getR dX11_planTells_381 fl_X11_65 sh_150 (by decide) (by decide) rf_150_29 ?_
          refine ev_iload dX11_planTells_384 rfl ?_
          by_cases g3 : 0 ≤ x6 ∧ x6 < 6
          · rw [if_pos g3] at h
            refine ex_iald (x := (f1 167 x6.toNat)) dX11_planTells_386 sh_167 g3.1 g3.2 rfl ?_
            refine ev_aload_n (i := 0) dX11_planTells_387 rfl rfl ?_
            refine ev_getR dX11_planTells_388 fl_X11_80 sh_150 (by decide) (by decide) rf_150_37 ?_
            refine ev_iload dX11_planTells_391 rfl ?_
            by_cases g4 : 0 ≤ x6 ∧ x6 < 6
            · rw [if_pos g4] at h
              refine ex_iald (x := (f1 172 x6.toNat)) dX11_planTells_393 sh_172 g4.1 g4.2 rfl ?_
              refine ev_icmp_ge (tgt := 407) dX11_planTells_394 (by decide) (fun c6 => ?_) (fun c6 => ?_)
              · rw [if_pos c6] at h
                exact SX11_planTells_407 ih x6 x6 _ h
              · rw [if_neg c6] at h
                refine ev_aload_n (i := 0) dX11_planTells_397 rfl rfl ?_
                refine ev_getR dX11_planTells_398 fl_X11_65 sh_150 (by decide) (by decide) rf_150_29 ?_
                refine ev_iload dX11_planTells_401 rfl ?_
                by_cases g5 : 0 ≤ x6 ∧ x6 < 6
                · rw [if_pos g5] at h
                  refine ex_iald (x := (f1 167 x6.toNat)) dX11_planTells_403 sh_167 g5.1 g5.2 rfl ?_
                  refine ev_goto (tgt := 414) dX11_planTells_404 (by decide) ?_
                  exact SX11_planTells_414 ih x6 x6 (f1 167 x6.toNat) _ h
                · rw [if_neg g5] at h; exact h.elim
            · rw [if_neg g4] at h; exact h.elim
          · rw [if_neg g3] at h; exact h.elim
      · rw [if_neg g2] at h; exact h.elim
def FX11_planTells_348  (s1 : Int) (f : Mm) : Option Mm := FX11_planTells_354 fu 0 (up f 150 33 s1)
set_option maxHeartbeats 4000000 in
set_option maxRecDepth 100000 in
theorem SX11_planTells_348 {G : GT} {l : Launch} {Q : Option AV → Mem → Prop}  (s1 : Int) (f : Mm) (h : OkV Q (FX11_planTells_348  s1 f)) : Ev G l MX11_planTells (Rm 3 0 0) (ZM G Q 0 0) 0 0 348 [some (vR 150), none, none, none, none, none, none] [vI s1, vR 150] (SH, RF, f) := by
  unfold FX11_planTells_348 at h
  refine ev_putI dX11_planTells_348 fl_X11_346 sh_150 (by decide) (by decide) ?_
  refine ev_iconst dX11_planTells_351 (r32c rfl) ?_
  refine ev_istore (L' := [some (vR 150), none, none, none, none, none, some (vI 0)]) dX11_planTells_352 (by decide) rfl ?_
  exact SX11_planTells_354  fu 0 _ h
def FX11_planTells_329  (x5 : Int) (f : Mm) : Option Mm := (if x5 ≤ (f 150 33) then FX11_planTells_348 (f 150 33) f else FX11_planTells_348 x5 f)
set_option maxHeartbeats 4000000 in
set_option maxRecDepth 100000 in
theorem SX11_planTells_329 {G : GT} {l : Launch} {Q : Option AV → Mem → Prop}  (x5 : Int) (f : Mm) (h : OkV Q (FX11_planTells_329  x5 f)) : Ev G l MX11_planTells (Rm 3 0 0) (ZM G Q 0 0) 0 0 329 [some (vR 150), none, none, none, none, some (vI x5), none] [] (SH, RF, f) := by
  unfold FX11_planTells_329 at h
  refine ev_aload_n (i := 0) dX11_planTells_329 rfl rfl ?_
  refine ev_iload dX11_planTells_330 rfl ?_
  refine ev_aload_n (i := 0) dX11_planTells_332 rfl rfl ?_
  refine ex_getI (x := (f 150 33)) dX11_planTells_333 fl_X11_346 sh_150 (by decide) (by decide) rfl ?_
  refine ev_icmp_le (tgt := 344) dX11_planTells_336 (by decide) (fun c1 => ?_) (fun c1 => ?_)
  · rw [if_pos c1] at h
    refine ev_aload_n (i := 0) dX11_planTells_344 rfl rfl ?_
    refine ex_getI (x := (f 150 33)) dX11_planTells_345 fl_X11_346 sh_150 (by decide) (by decide) rfl ?_
    refine ev_fg [true, true, true, true, true, false, true] rfl ?_
    exact SX11_planTells_348  (f 150 33) _ h
  · rw [if_neg c1] at h
    refine ev_iload dX11_planTells_339 rfl ?_
    refine ev_goto (tgt := 348) dX11_planTells_341 (by decide) ?_
    refine ev_fg [true, true, true, true, true, false, true] rfl ?_
    exact SX11_planTells_348  x5 _ h
def FX11_planTells_322 (k287 : Int → Int → Int → Mm → Option Mm) (x3 : Int) (x5 : Int) (x6 : Int) (s1 : Int) (s2 : Int) (f : Mm) : Option Mm := (if 0 ≤ s1 ∧ s1 < 61 then k287 x3 x5 (w32 (x6 + 1)) (up f 173 s1.toNat s2) else none)
set_option maxHeartbeats 4000000 in
set_option maxRecDepth 100000 in
theorem SX11_planTells_322 {G : GT} {l : Launch} {Q : Option AV → Mem → Prop} {k287 : Int → Int → Int → Mm → Option Mm} (q287 : ∀ (x3 : Int) (x5 : Int) (x6 : Int) (f : Mm), OkV Q (k287 x3 x5 x6 f) → Ev G l MX11_planTells (Rm 3 0 0) (ZM G Q 0 0) 0 0 287 [some (vR 150), none, none, some (vI x3), none, some (vI x5), some (vI x6)] [] (SH, RF, f)) (x3 : Int) (x5 : Int) (x6 : Int) (s1 : Int) (s2 : Int) (f : Mm) (h : OkV Q (FX11_planTells_322 k287 x3 x5 x6 s1 s2 f)) : Ev G l MX11_planTells (Rm 3 0 0) (ZM G Q 0 0) 0 0 322 [some (vR 150), none, none, some (vI x3), none, some (vI x5), some (vI x6)] [vI s2, vI s1, vR 173] (SH, RF, f) := by
  unfold FX11_planTells_322 at h
  by_cases g1 : 0 ≤ s1 ∧ s1 < 61
  · rw [if_pos g1] at h
    refine ex_iast (j := s1.toNat) dX11_planTells_322 sh_173 g1.1 g1.2 rfl ?_
    refine ev_iinc (L' := [some (vR 150), none, none, some (vI x3), none, some (vI x5), some (vI (w32 (x6 + 1)))]) dX11_planTells_323 rfl (by decide) rfl ?_
    refine ev_goto (tgt := 287) dX11_planTells_326 (by decide) ?_
    exact q287 x3 x5 (w32 (x6 + 1)) _ h
  · rw [if_neg g1] at h; exact h.elim
def FX11_planTells_287  : Nat → Int → Int → Int → Mm → Option Mm
  | 0, _, _, _, _ => none
  | n + 1, x3, x5, x6, f => (if x5 < x6 then FX11_planTells_329 x5 f else (if 0 ≤ x6 ∧ x6 < 61 then (if (f 173 x6.toNat) ≤ x3 then (if 0 ≤ x6 ∧ x6 < 61 then FX11_planTells_322 (FX11_planTells_287 n) x3 x5 x6 x6 (f 173 x6.toNat) f else none) else FX11_planTells_322 (FX11_planTells_287 n) x3 x5 x6 x6 x3 f) else none))
set_option maxHeartbeats 4000000 in
set_option maxRecDepth 100000 in
theorem SX11_planTells_287 {G : GT} {l : Launch} {Q : Option AV → Mem → Prop}  : ∀ (n : Nat) (x3 : Int) (x5 : Int) (x6 : Int) (f : Mm), OkV Q (FX11_planTells_287  n x3 x5 x6 f) → Ev G l MX11_planTells (Rm 3 0 0) (ZM G Q 0 0) 0 0 287 [some (vR 150), none, none, some (vI x3), none, some (vI x5), some (vI x6)] [] (SH, RF, f) := by
  intro n
  induction n with
  | zero => intro x3 x5 x6 f h; exact absurd h (by rw [FX11_planTells_287]; exact fun q => q)
  | succ n ih =>
    intro x3 x5 x6 f h
    rw [FX11_planTells_287] at h
    refine ev_iload dX11_planTells_287 rfl ?_
    refine ev_iload dX11_planTells_289 rfl ?_
    refine ev_icmp_gt (tgt := 329) dX11_planTells_291 (by decide) (fun c4 => ?_) (fun c4 => ?_)
    · rw [if_pos c4] at h
      refine ev_fg [true, true, true, false, true, true, false] rfl ?_
      exact SX11_planTells_329  x5 _ h
    · rw [if_neg c4] at h
      refine ev_aload_n (i := 0) dX11_planTells_294 rfl rfl ?_
      refine ev_getR dX11_planTells_295 fl_X11_83 sh_150 (by decide) (by decide) rf_150_38 ?_
      refine ev_iload dX11_planTells_298 rfl ?_
      refine ev_iload_n (i := 3) dX11_planTells_300 rfl rfl ?_
      refine ev_aload_n (i := 0) dX11_planTells_301 rfl rfl ?_
      refine ev_getR dX11_planTells_302 fl_X11_83 sh_150 (by decide) (by decide) rf_150_38 ?_
      refine ev_iload dX11_planTells_305 rfl ?_
      by_cases g1 : 0 ≤ x6 ∧ x6 < 61
      · rw [if_pos g1] at h
        refine ex_iald (x := (f 173 x6.toNat)) dX11_planTells_307 sh_173 g1.1 g1.2 rfl ?_
        refine ev_icmp_ge (tgt := 315) dX11_planTells_308 (by decide) (fun c3 => ?_) (fun c3 => ?_)
        · rw [if_pos c3] at h
          refine ev_aload_n (i := 0) dX11_planTells_315 rfl rfl ?_
          refine ev_getR dX11_planTells_316 fl_X11_83 sh_150 (by decide) (by decide) rf_150_38 ?_
          refine ev_iload dX11_planTells_319 rfl ?_
          by_cases g2 : 0 ≤ x6 ∧ x6 < 61
          · rw [if_pos g2] at h
            refine ex_iald (x := (f 173 x6.toNat)) dX11_planTells_321 sh_173 g2.1 g2.2 rfl ?_
            exact SX11_planTells_322 ih x3 x5 x6 x6 (f 173 x6.toNat) _ h
          · rw [if_neg g2] at h; exact h.elim
        · rw [if_neg c3] at h
          refine ev_iload_n (i := 3) dX11_planTells_311 rfl rfl ?_
          refine ev_goto (tgt := 322) dX11_planTells_312 (by decide) ?_
          exact SX11_planTells_322 ih x3 x5 x6 x6 x3 _ h
      · rw [if_neg g1] at h; exact h.elim
def FX11_planTells_284  (x3 : Int) (x5 : Int) (f : Mm) : Option Mm := FX11_planTells_287 fu x3 x5 0 f
set_option maxHeartbeats 4000000 in
set_option maxRecDepth 100000 in
theorem SX11_planTells_284 {G : GT} {l : Launch} {Q : Option AV → Mem → Prop}  (x3 : Int) (x5 : Int) (f : Mm) (h : OkV Q (FX11_planTells_284  x3 x5 f)) : Ev G l MX11_planTells (Rm 3 0 0) (ZM G Q 0 0) 0 0 284 [some (vR 150), none, none, some (vI x3), none, some (vI x5), none] [] (SH, RF, f) := by
  unfold FX11_planTells_284 at h
  refine ev_iconst dX11_planTells_284 (r32c rfl) ?_
  refine ev_istore (L' := [some (vR 150), none, none, some (vI x3), none, some (vI x5), some (vI 0)]) dX11_planTells_285 (by decide) rfl ?_
  exact SX11_planTells_287  fu x3 x5 0 _ h
def FX11_planTells_277 (k202 : Int → Int → Int → Mm → Option Mm) (x3 : Int) (x5 : Int) (x6 : Int) (s1 : Int) (s2 : Int) (f : Mm) : Option Mm := (if 0 ≤ s1 ∧ s1 < 6 then k202 x3 x5 (w32 (x6 + 1)) (up f 174 s1.toNat s2) else none)
set_option maxHeartbeats 4000000 in
set_option maxRecDepth 100000 in
theorem SX11_planTells_277 {G : GT} {l : Launch} {Q : Option AV → Mem → Prop} {k202 : Int → Int → Int → Mm → Option Mm} (q202 : ∀ (x3 : Int) (x5 : Int) (x6 : Int) (f : Mm), OkV Q (k202 x3 x5 x6 f) → Ev G l MX11_planTells (Rm 3 0 0) (ZM G Q 0 0) 0 0 202 [some (vR 150), none, none, some (vI x3), none, some (vI x5), some (vI x6)] [] (SH, RF, f)) (x3 : Int) (x5 : Int) (x6 : Int) (s1 : Int) (s2 : Int) (f : Mm) (h : OkV Q (FX11_planTells_277 k202 x3 x5 x6 s1 s2 f)) : Ev G l MX11_planTells (Rm 3 0 0) (ZM G Q 0 0) 0 0 277 [some (vR 150), none, none, some (vI x3), none, some (vI x5), some (vI x6)] [vI s2, vI s1, vR 174] (SH, RF, f) := by
  unfold FX11_planTells_277 at h
  by_cases g1 : 0 ≤ s1 ∧ s1 < 6
  · rw [if_pos g1] at h
    refine ex_iast (j := s1.toNat) dX11_planTells_277 sh_174 g1.1 g1.2 rfl ?_
    refine ev_iinc (L' := [some (vR 150), none, none, some (vI x3), none, some (vI x5), some (vI (w32 (x6 + 1)))]) dX11_planTells_278 rfl (by decide) rfl ?_
    refine ev_goto (tgt := 202) dX11_planTells_281 (by decide) ?_
    exact q202 x3 x5 (w32 (x6 + 1)) _ h
  · rw [if_neg g1] at h; exact h.elim
def FX11_planTells_235 (k202 : Int → Int → Int → Mm → Option Mm) (x3 : Int) (x6 : Int) (s0 : Int) (f : Mm) : Option Mm := (if 0 ≤ x6 ∧ x6 < 6 then (if 0 ≤ x6 ∧ x6 < 6 then (if (f 164 x6.toNat) ≤ (f 174 x6.toNat) then (if 0 ≤ x6 ∧ x6 < 6 then FX11_planTells_277 k202 x3 s0 x6 x6 (f 174 x6.toNat) f else none) else (if 0 ≤ x6 ∧ x6 < 6 then FX11_planTells_277 k202 x3 s0 x6 x6 (f 164 x6.toNat) f else none)) else none) else none)
set_option maxHeartbeats 4000000 in
set_option maxRecDepth 100000 in
theorem SX11_planTells_235 {G : GT} {l : Launch} {Q : Option AV → Mem → Prop} {k202 : Int → Int → Int → Mm → Option Mm} (q202 : ∀ (x3 : Int) (x5 : Int) (x6 : Int) (f : Mm), OkV Q (k202 x3 x5 x6 f) → Ev G l MX11_planTells (Rm 3 0 0) (ZM G Q 0 0) 0 0 202 [some (vR 150), none, none, some (vI x3), none, some (vI x5), some (vI x6)] [] (SH, RF, f)) (x3 : Int) (x6 : Int) (s0 : Int) (f : Mm) (h : OkV Q (FX11_planTells_235 k202 x3 x6 s0 f)) : Ev G l MX11_planTells (Rm 3 0 0) (ZM G Q 0 0) 0 0 235 [some (vR 150), none, none, some (vI x3), none, none, some (vI x6)] [vI s0] (SH, RF, f) := by
  unfold FX11_planTells_235 at h
  refine ev_istore (L' := [some (vR 150), none, none, some (vI x3), none, some (vI s0), some (vI x6)]) dX11_planTells_235 (by decide) rfl ?_
  refine ev_aload_n (i := 0) dX11_planTells_237 rfl rfl ?_
  refine ev_getR dX11_planTells_238 fl_X11_86 sh_150 (by decide) (by decide) rf_150_39 ?_
  refine ev_iload dX11_planTells_241 rfl ?_
  refine ev_aload_n (i := 0) dX11_planTells_243 rfl rfl ?_
  refine ev_getR dX11_planTells_244 fl_X11_56 sh_150 (by decide) (by decide) rf_150_26 ?_
  refine ev_iload dX11_planTells_247 rfl ?_
  by_cases g1 : 0 ≤ x6 ∧ x6 < 6
  · rw [if_pos g1] at h
    refine ex_iald (x := (f 164 x6.toNat)) dX11_planTells_249 sh_164 g1.1 g1.2 rfl ?_
    refine ev_aload_n (i := 0) dX11_planTells_250 rfl rfl ?_
    refine ev_getR dX11_planTells_251 fl_X11_86 sh_150 (by decide) (by decide) rf_150_39 ?_
    refine ev_iload dX11_planTells_254 rfl ?_
    by_cases g2 : 0 ≤ x6 ∧ x6 < 6
    · rw [if_pos g2] at h
      refine ex_iald (x := (f 174 x6.toNat)) dX11_planTells_256 sh_174 g2.1 g2.2 rfl ?_
      refine ev_icmp_le (tgt := 270) dX11_planTells_257 (by decide) (fun c5 => ?_) (fun c5 => ?_)
      · rw [if_pos c5] at h
        refine ev_aload_n (i := 0) dX11_planTells_270 rfl rfl ?_
        refine ev_getR dX11_planTells_271 fl_X11_86 sh_150 (by decide) (by decide) rf_150_39 ?_
        refine ev_iload dX11_planTells_274 rfl ?_
        by_cases g3 : 0 ≤ x6 ∧ x6 < 6
        · rw [if_pos g3] at h
          refine ex_iald (x := (f 174 x6.toNat)) dX11_planTells_276 sh_174 g3.1 g3.2 rfl ?_
          exact SX11_planTells_277 q202 x3 s0 x6 x6 (f 174 x6.toNat) _ h
        · rw [if_neg g3] at h; exact h.elim
      · rw [if_neg c5] at h
        refine ev_aload_n (i := 0) dX11_planTells_260 rfl rfl ?_
        refine ev_getR dX11_planTells_261 fl_X11_56 sh_150 (by decide) (by decide) rf_150_26 ?_
        refine ev_iload dX11_planTells_264 rfl ?_
        by_cases g4 : 0 ≤ x6 ∧ x6 < 6
        · rw [if_pos g4] at h
          refine ex_iald (x := (f 164 x6.toNat)) dX11_planTells_266 sh_164 g4.1 g4.2 rfl ?_
          refine ev_goto (tgt := 277) dX11_planTells_267 (by decide) ?_
          exact SX11_planTells_277 q202 x3 s0 x6 x6 (f 164 x6.toNat) _ h
        · rw [if_neg g4] at h; exact h.elim
    · rw [if_neg g2] at h; exact h.elim
  · rw [if_neg g1] at h; exact h.elim
def FX11_planTells_202  : Nat → Int → Int → Int → Mm → Option Mm
  | 0, _, _, _, _ => none
  | n + 1, x3, x5, x6, f => (b2 (FX11_days f) fun y1 f1 => (if y1 ≤ x6 then FX11_planTells_284 x3 x5 f1 else (if 0 ≤ x6 ∧ x6 < 6 then (if x5 ≤ (f1 164 x6.toNat) then FX11_planTells_235 (FX11_planTells_202 n) x3 x6 x5 f1 else (if 0 ≤ x6 ∧ x6 < 6 then FX11_planTells_235 (FX11_planTells_202 n) x3 x6 (f1 164 x6.toNat) f1 else none)) else none)))
set_option maxHeartbeats 4000000 in
set_option maxRecDepth 100000 in
theorem SX11_planTells_202 {G : GT} {l : Launch} {Q : Option AV → Mem → Prop}  : ∀ (n : Nat) (x3 : Int) (x5 : Int) (x6 : Int) (f : Mm), OkV Q (FX11_planTells_202  n x3 x5 x6 f) → Ev G l MX11_planTells (Rm 3 0 0) (ZM G Q 0 0) 0 0 202 [some (vR 150), none, none, some (vI x3), none, some (vI x5), some (vI x6)] [] (SH, RF, f) := by
  intro n
  induction n with
  | zero => intro x3 x5 x6 f h; exact absurd h (by rw [FX11_planTells_202]; exact fun q => q)
  | succ n ih =>
    intro x3 x5 x6 f h
    rw [FX11_planTells_202] at h
    refine ev_iload dX11_planTells_202 rfl ?_
    refine ev_aload_n (i := 0) dX11_planTells_204 rfl rfl ?_
    refine ev_cVI (b := 150) (av := []) (S := [vI x6]) (fun q => q) h dX11_planTells_205 (fun Q' q => TX11_days _ q) kvX11_days ml_X11_266 sh_150 rfl (RRc (by decide) (by decide)) (Nat.le_of_ble_eq_true rfl) ⟨Nat.le_of_ble_eq_true rfl, Nat.le_of_ble_eq_true rfl⟩ (fun y1 f1 h => ?_)
    refine ev_icmp_ge (tgt := 284) dX11_planTells_208 (by decide) (fun c5 => ?_) (fun c5 => ?_)
    · rw [if_pos c5] at h
      refine ev_fg [true, true, true, true, true, true, false] rfl ?_
      exact SX11_planTells_284  x3 x5 _ h
    · rw [if_neg c5] at h
      refine ev_aload_n (i := 0) dX11_planTells_211 rfl rfl ?_
      refine ev_getR dX11_planTells_212 fl_X11_56 sh_150 (by decide) (by decide) rf_150_26 ?_
      refine ev_iload dX11_planTells_215 rfl ?_
      by_cases g2 : 0 ≤ x6 ∧ x6 < 6
      · rw [if_pos g2] at h
        refine ex_iald (x := (f1 164 x6.toNat)) dX11_planTells_217 sh_164 g2.1 g2.2 rfl ?_
        refine ev_iload dX11_planTells_218 rfl ?_
        refine ev_icmp_ge (tgt := 233) dX11_planTells_220 (by decide) (fun c4 => ?_) (fun c4 => ?_)
        · rw [if_pos c4] at h
          refine ev_iload dX11_planTells_233 rfl ?_
          refine ev_fg [true, true, true, true, true, false, true] rfl ?_
          exact SX11_planTells_235 ih x3 x6 x5 _ h
        · rw [if_neg c4] at h
          refine ev_aload_n (i := 0) dX11_planTells_223 rfl rfl ?_
          refine ev_getR dX11_planTells_224 fl_X11_56 sh_150 (by decide) (by decide) rf_150_26 ?_
          refine ev_iload dX11_planTells_227 rfl ?_
          by_cases g3 : 0 ≤ x6 ∧ x6 < 6
          · rw [if_pos g3] at h
            refine ex_iald (x := (f1 164 x6.toNat)) dX11_planTells_229 sh_164 g3.1 g3.2 rfl ?_
            refine ev_goto (tgt := 235) dX11_planTells_230 (by decide) ?_
            refine ev_fg [true, true, true, true, true, false, true] rfl ?_
            exact SX11_planTells_235 ih x3 x6 (f1 164 x6.toNat) _ h
          · rw [if_neg g3] at h; exact h.elim
      · rw [if_neg g2] at h; exact h.elim
def FX11_planTells_195  (x3 : Int) (f : Mm) : Option Mm := FX11_planTells_202 fu x3 60 0 f
set_option maxHeartbeats 4000000 in
set_option maxRecDepth 100000 in
theorem SX11_planTells_195 {G : GT} {l : Launch} {Q : Option AV → Mem → Prop}  (x3 : Int) (f : Mm) (h : OkV Q (FX11_planTells_195  x3 f)) : Ev G l MX11_planTells (Rm 3 0 0) (ZM G Q 0 0) 0 0 195 [some (vR 150), none, none, some (vI x3), none, none, none] [] (SH, RF, f) := by
  unfold FX11_planTells_195 at h
  refine ev_bipush (v := 60) dX11_planTells_195 (r32c rfl) (by decide) ?_
  refine ev_istore (L' := [some (vR 150), none, none, some (vI x3), none, some (vI 60), none]) dX11_planTells_197 (by decide) rfl ?_
  refine ev_iconst dX11_planTells_199 (r32c rfl) ?_
  refine ev_istore (L' := [some (vR 150), none, none, some (vI x3), none, some (vI 60), some (vI 0)]) dX11_planTells_200 (by decide) rfl ?_
  exact SX11_planTells_202  fu x3 60 0 _ h
def FX11_planTells_189 (k139 : Int → Int → Int → Int → Mm → Option Mm) (x1 : Int) (x2 : Int) (x3 : Int) (x5 : Int) (f : Mm) : Option Mm := k139 x1 x2 x3 (w32 (x5 + 1)) f
set_option maxHeartbeats 4000000 in
set_option maxRecDepth 100000 in
theorem SX11_planTells_189 {G : GT} {l : Launch} {Q : Option AV → Mem → Prop} {k139 : Int → Int → Int → Int → Mm → Option Mm} (q139 : ∀ (x1 : Int) (x2 : Int) (x3 : Int) (x5 : Int) (f : Mm), OkV Q (k139 x1 x2 x3 x5 f) → Ev G l MX11_planTells (Rm 3 0 0) (ZM G Q 0 0) 0 0 139 [some (vR 150), some (vI x1), some (vI x2), some (vI x3), none, some (vI x5), none] [] (SH, RF, f)) (x1 : Int) (x2 : Int) (x3 : Int) (x5 : Int) (f : Mm) (h : OkV Q (FX11_planTells_189 k139 x1 x2 x3 x5 f)) : Ev G l MX11_planTells (Rm 3 0 0) (ZM G Q 0 0) 0 0 189 [some (vR 150), some (vI x1), some (vI x2), some (vI x3), none, some (vI x5), none] [] (SH, RF, f) := by
  unfold FX11_planTells_189 at h
  refine ev_iinc (L' := [some (vR 150), some (vI x1), some (vI x2), some (vI x3), none, some (vI (w32 (x5 + 1))), none]) dX11_planTells_189 rfl (by decide) rfl ?_
  refine ev_goto (tgt := 139) dX11_planTells_192 (by decide) ?_
  exact q139 x1 x2 x3 (w32 (x5 + 1)) _ h
def FX11_planTells_139  : Nat → Int → Int → Int → Int → Mm → Option Mm
  | 0, _, _, _, _, _ => none
  | n + 1, x1, x2, x3, x5, f => (b2 (FX11_carts f) fun y1 f1 => (if (bShl 1 y1) ≤ x5 then FX11_planTells_195 x3 f1 else (if (bAnd x5 (bXor x2 (-1))) = 0 then (if 0 ≤ x5 ∧ x5 < 64 then (if x3 < (f1 170 x5.toNat) then (if 0 ≤ x5 ∧ x5 < 64 then (if 0 ≤ x5 ∧ x5 < 64 then FX11_planTells_189 (FX11_planTells_139 n) x1 x2 x3 x5 (up (up f1 170 x5.toNat x3) 171 x5.toNat x1) else none) else none) else FX11_planTells_189 (FX11_planTells_139 n) x1 x2 x3 x5 f1) else none) else FX11_planTells_189 (FX11_planTells_139 n) x1 x2 x3 x5 f1)))
set_option maxHeartbeats 4000000 in
set_option maxRecDepth 100000 in
theorem SX11_planTells_139 {G : GT} {l : Launch} {Q : Option AV → Mem → Prop}  : ∀ (n : Nat) (x1 : Int) (x2 : Int) (x3 : Int) (x5 : Int) (f : Mm), OkV Q (FX11_planTells_139  n x1 x2 x3 x5 f) → Ev G l MX11_planTells (Rm 3 0 0) (ZM G Q 0 0) 0 0 139 [some (vR 150), some (vI x1), some (vI x2), some (vI x3), none, some (vI x5), none] [] (SH, RF, f) := by
  intro n
  induction n with
  | zero => intro x1 x2 x3 x5 f h; exact absurd h (by rw [FX11_planTells_139]; exact fun q => q)
  | succ n ih =>
    intro x1 x2 x3 x5 f h
    rw [FX11_planTells_139] at h
    refine ev_iload dX11_planTells_139 rfl ?_
    refine ev_iconst dX11_planTells_141 (r32c rfl) ?_
    refine ev_aload_n (i := 0) dX11_planTells_142 rfl rfl ?_
    refine ev_cVI (b := 150) (av := []) (S := [vI 1, vI x5]) (fun q => q) h dX11_planTells_143 (fun Q' q => TX11_carts _ q) kvX11_carts ml_X11_269 sh_150 rfl (RRc (by decide) (by decide)) (Nat.le_of_ble_eq_true rfl) ⟨Nat.le_of_ble_eq_true rfl, Nat.le_of_ble_eq_true rfl⟩ (fun y1 f1 h => ?_)
    refine ev_ishl dX11_planTells_146 ?_
    refine ev_icmp_ge (tgt := 195) dX11_planTells_147 (by decide) (fun c7 => ?_) (fun c7 => ?_)
    · rw [if_pos c7] at h
      refine ev_fg [true, false, false, true, true, false, true] rfl ?_
      exact SX11_planTells_195  x3 _ h
    · rw [if_neg c7] at h
      refine ev_iload dX11_planTells_150 rfl ?_
      refine ev_iload_n (i := 2) dX11_planTells_152 rfl rfl ?_
      refine ev_iconst dX11_planTells_153 (r32c rfl) ?_
      refine ev_ixor dX11_planTells_154 ?_
      refine ev_iand dX11_planTells_155 ?_
      refine ev_if_ne (tgt := 189) dX11_planTells_156 (by decide) (fun c6 => ?_) (fun c6 => ?_)
      · rw [if_neg c6] at h
        exact SX11_planTells_189 ih x1 x2 x3 x5 _ h
      · rw [if_pos c6] at h
        refine ev_iload_n (i := 3) dX11_planTells_159 rfl rfl ?_
        refine ev_aload_n (i := 0) dX11_planTells_160 rfl rfl ?_
        refine ev_getR dX11_planTells_161 fl_X11_74 sh_150 (by decide) (by decide) rf_150_35 ?_
        refine ev_iload dX11_planTells_164 rfl ?_
        by_cases g2 : 0 ≤ x5 ∧ x5 < 64
        · rw [if_pos g2] at h
          refine ex_iald (x := (f1 170 x5.toNat)) dX11_planTells_166 sh_170 g2.1 g2.2 rfl ?_
          refine ev_icmp_lt (tgt := 173) dX11_planTells_167 (by decide) (fun c5 => ?_) (fun c5 => ?_)
          · rw [if_pos c5] at h
            refine ev_aload_n (i := 0) dX11_planTells_173 rfl rfl ?_
            refine ev_getR dX11_planTells_174 fl_X11_74 sh_150 (by decide) (by decide) rf_150_35 ?_
            refine ev_iload dX11_planTells_177 rfl ?_
            refine ev_iload_n (i := 3) dX11_planTells_179 rfl rfl ?_
            by_cases g3 : 0 ≤ x5 ∧ x5 < 64
            · rw [if_pos g3] at h
              refine ex_iast (j := x5.toNat) dX11_planTells_180 sh_170 g3.1 g3.2 rfl ?_
              refine ev_aload_n (i := 0) dX11_planTells_181 rfl rfl ?_
              refine ev_getR dX11_planTells_182 fl_X11_77 sh_150 (by decide) (by decide) rf_150_36 ?_
              refine ev_iload dX11_planTells_185 rfl ?_
              refine ev_iload_n (i := 1) dX11_planTells_187 rfl rfl ?_
              by_cases g4 : 0 ≤ x5 ∧ x5 < 64
              · rw [if_pos g4] at h
                refine ex_iast (j := x5.toNat) dX11_planTells_188 sh_171 g4.1 g4.2 rfl ?_
                exact SX11_planTells_189 ih x1 x2 x3 x5 _ h
              · rw [if_neg g4] at h; exact h.elim
            · rw [if_neg g3] at h; exact h.elim
          · rw [if_neg c5] at h
            refine ev_goto (tgt := 189) dX11_planTells_170 (by decide) ?_
            exact SX11_planTells_189 ih x1 x2 x3 x5 _ h
        · rw [if_neg g2] at h; exact h.elim
def FX11_planTells_132  (x1 : Int) (x2 : Int) (x3 : Int) (s1 : Int) (s2 : Int) (f : Mm) : Option Mm := FX11_planTells_139 fu x1 x2 x3 0 (up f 150 32 (w32 (s1 + s2)))
set_option maxHeartbeats 4000000 in
set_option maxRecDepth 100000 in
theorem SX11_planTells_132 {G : GT} {l : Launch} {Q : Option AV → Mem → Prop}  (x1 : Int) (x2 : Int) (x3 : Int) (s1 : Int) (s2 : Int) (f : Mm) (h : OkV Q (FX11_planTells_132  x1 x2 x3 s1 s2 f)) : Ev G l MX11_planTells (Rm 3 0 0) (ZM G Q 0 0) 0 0 132 [some (vR 150), some (vI x1), some (vI x2), some (vI x3), none, none, none] [vI s2, vI s1, vR 150] (SH, RF, f) := by
  unfold FX11_planTells_132 at h
  refine ev_iadd dX11_planTells_132 ?_
  refine ev_putI dX11_planTells_133 fl_X11_362 sh_150 (by decide) (by decide) ?_
  refine ev_iconst dX11_planTells_136 (r32c rfl) ?_
  refine ev_istore (L' := [some (vR 150), some (vI x1), some (vI x2), some (vI x3), none, some (vI 0), none]) dX11_planTells_137 (by decide) rfl ?_
  exact SX11_planTells_139  fu x1 x2 x3 0 _ h
def FX11_planTells_113  (x1 : Int) (x2 : Int) (x3 : Int) (x4 : Int) (f : Mm) : Option Mm := (if x4 = (f 150 31) then FX11_planTells_132 x1 x2 x3 (f 150 32) 1 f else FX11_planTells_132 x1 x2 x3 (f 150 32) 0 f)
set_option maxHeartbeats 4000000 in
set_option maxRecDepth 100000 in
theorem SX11_planTells_113 {G : GT} {l : Launch} {Q : Option AV → Mem → Prop}  (x1 : Int) (x2 : Int) (x3 : Int) (x4 : Int) (f : Mm) (h : OkV Q (FX11_planTells_113  x1 x2 x3 x4 f)) : Ev G l MX11_planTells (Rm 3 0 0) (ZM G Q 0 0) 0 0 113 [some (vR 150), some (vI x1), some (vI x2), some (vI x3), some (vI x4), none, none] [] (SH, RF, f) := by
  unfold FX11_planTells_113 at h
  refine ev_aload_n (i := 0) dX11_planTells_113 rfl rfl ?_
  refine ev_dupR dX11_planTells_114 ?_
  refine ex_getI (x := (f 150 32)) dX11_planTells_115 fl_X11_362 sh_150 (by decide) (by decide) rfl ?_
  refine ev_iload dX11_planTells_118 rfl ?_
  refine ev_aload_n (i := 0) dX11_planTells_120 rfl rfl ?_
  refine ex_getI (x := (f 150 31)) dX11_planTells_121 fl_X11_343 sh_150 (by decide) (by decide) rfl ?_
  refine ev_icmp_ne (tgt := 131) dX11_planTells_124 (by decide) (fun c1 => ?_) (fun c1 => ?_)
  · rw [if_neg c1] at h
    refine ev_iconst dX11_planTells_131 (r32c rfl) ?_
    refine ev_fg [true, true, true, true, false, true, true] rfl ?_
    exact SX11_planTells_132  x1 x2 x3 (f 150 32) 0 _ h
  · rw [if_pos c1] at h
    refine ev_iconst dX11_planTells_127 (r32c rfl) ?_
    refine ev_goto (tgt := 132) dX11_planTells_128 (by decide) ?_
    refine ev_fg [true, true, true, true, false, true, true] rfl ?_
    exact SX11_planTells_132  x1 x2 x3 (f 150 32) 1 _ h
def FX11_planTells_84  : Nat → Int → Int → Int → Int → Int → Mm → Option Mm
  | 0, _, _, _, _, _, _ => none
  | n + 1, x1, x2, x3, x4, x5, f => (b2 (FX11_days f) fun y1 f1 => (if y1 ≤ x5 then FX11_planTells_113 x1 x2 x3 x4 f1 else (if 0 ≤ x5 ∧ x5 < 6 then (if 0 ≤ x5 ∧ x5 < 6 then FX11_planTells_84 n x1 x2 x3 x4 (w32 (x5 + 1)) (up f1 169 x5.toNat (f1 162 x5.toNat)) else none) else none)))
set_option maxHeartbeats 4000000 in
set_option maxRecDepth 100000 in
theorem SX11_planTells_84 {G : GT} {l : Launch} {Q : Option AV → Mem → Prop}  : ∀ (n : Nat) (x1 : Int) (x2 : Int) (x3 : Int) (x4 : Int) (x5 : Int) (f : Mm), OkV Q (FX11_planTells_84  n x1 x2 x3 x4 x5 f) → Ev G l MX11_planTells (Rm 3 0 0) (ZM G Q 0 0) 0 0 84 [some (vR 150), some (vI x1), some (vI x2), some (vI x3), some (vI x4), some (vI x5), none] [] (SH, RF, f) := by
  intro n
  induction n with
  | zero => intro x1 x2 x3 x4 x5 f h; exact absurd h (by rw [FX11_planTells_84]; exact fun q => q)
  | succ n ih =>
    intro x1 x2 x3 x4 x5 f h
    rw [FX11_planTells_84] at h
    refine ev_iload dX11_planTells_84 rfl ?_
    refine ev_aload_n (i := 0) dX11_planTells_86 rfl rfl ?_
    refine ev_cVI (b := 150) (av := []) (S := [vI x5]) (fun q => q) h dX11_planTells_87 (fun Q' q => TX11_days _ q) kvX11_days ml_X11_266 sh_150 rfl (RRc (by decide) (by decide)) (Nat.le_of_ble_eq_true rfl) ⟨Nat.le_of_ble_eq_true rfl, Nat.le_of_ble_eq_true rfl⟩ (fun y1 f1 h => ?_)
    refine ev_icmp_ge (tgt := 113) dX11_planTells_90 (by decide) (fun c4 => ?_) (fun c4 => ?_)
    · rw [if_pos c4] at h
      refine ev_fg [true, true, true, true, true, false, true] rfl ?_
      exact SX11_planTells_113  x1 x2 x3 x4 _ h
    · rw [if_neg c4] at h
      refine ev_aload_n (i := 0) dX11_planTells_93 rfl rfl ?_
      refine ev_getR dX11_planTells_94 fl_X11_71 sh_150 (by decide) (by decide) rf_150_34 ?_
      refine ev_iload dX11_planTells_97 rfl ?_
      refine ev_aload_n (i := 0) dX11_planTells_99 rfl rfl ?_
      refine ev_getR dX11_planTells_100 fl_X11_50 sh_150 (by decide) (by decide) rf_150_22 ?_
      refine ev_iload dX11_planTells_103 rfl ?_
      by_cases g2 : 0 ≤ x5 ∧ x5 < 6
      · rw [if_pos g2] at h
        refine ex_iald (x := (f1 162 x5.toNat)) dX11_planTells_105 sh_162 g2.1 g2.2 rfl ?_
        by_cases g3 : 0 ≤ x5 ∧ x5 < 6
        · rw [if_pos g3] at h
          refine ex_iast (j := x5.toNat) dX11_planTells_106 sh_169 g3.1 g3.2 rfl ?_
          refine ev_iinc (L' := [some (vR 150), some (vI x1), some (vI x2), some (vI x3), some (vI x4), some (vI (w32 (x5 + 1))), none]) dX11_planTells_107 rfl (by decide) rfl ?_
          refine ev_goto (tgt := 84) dX11_planTells_110 (by decide) ?_
          exact ih x1 x2 x3 x4 (w32 (x5 + 1)) _ h
        · rw [if_neg g3] at h; exact h.elim
      · rw [if_neg g2] at h; exact h.elim
def FX11_planTells_61  (x1 : Int) (x2 : Int) (x3 : Int) (x4 : Int) (f : Mm) : Option Mm := (if x4 ≤ (f 150 31) then FX11_planTells_113 x1 x2 x3 x4 f else FX11_planTells_84 fu x1 x2 x3 x4 0 (up (up f 150 31 x4) 150 32 0))
set_option maxHeartbeats 4000000 in
set_option maxRecDepth 100000 in
theorem SX11_planTells_61 {G : GT} {l : Launch} {Q : Option AV → Mem → Prop}  (x1 : Int) (x2 : Int) (x3 : Int) (x4 : Int) (f : Mm) (h : OkV Q (FX11_planTells_61  x1 x2 x3 x4 f)) : Ev G l MX11_planTells (Rm 3 0 0) (ZM G Q 0 0) 0 0 61 [some (vR 150), some (vI x1), some (vI x2), some (vI x3), some (vI x4), none, none] [] (SH, RF, f) := by
  unfold FX11_planTells_61 at h
  refine ev_iload dX11_planTells_61 rfl ?_
  refine ev_aload_n (i := 0) dX11_planTells_63 rfl rfl ?_
  refine ex_getI (x := (f 150 31)) dX11_planTells_64 fl_X11_343 sh_150 (by decide) (by decide) rfl ?_
  refine ev_icmp_le (tgt := 113) dX11_planTells_67 (by decide) (fun c1 => ?_) (fun c1 => ?_)
  · rw [if_pos c1] at h
    exact SX11_planTells_113  x1 x2 x3 x4 _ h
  · rw [if_neg c1] at h
    refine ev_aload_n (i := 0) dX11_planTells_70 rfl rfl ?_
    refine ev_iload dX11_planTells_71 rfl ?_
    refine ev_putI dX11_planTells_73 fl_X11_343 sh_150 (by decide) (by decide) ?_
    refine ev_aload_n (i := 0) dX11_planTells_76 rfl rfl ?_
    refine ev_iconst dX11_planTells_77 (r32c rfl) ?_
    refine ev_putI dX11_planTells_78 fl_X11_362 sh_150 (by decide) (by decide) ?_
    refine ev_iconst dX11_planTells_81 (r32c rfl) ?_
    refine ev_istore (L' := [some (vR 150), some (vI x1), some (vI x2), some (vI x3), some (vI x4), some (vI 0), none]) dX11_planTells_82 (by decide) rfl ?_
    exact SX11_planTells_84  fu x1 x2 x3 x4 0 _ h
def FX11_planTells_53 (k22 : Int → Int → Int → Int → Int → Mm → Option Mm) (x1 : Int) (x2 : Int) (x3 : Int) (x4 : Int) (x5 : Int) (s1 : Int) (s2 : Int) (s3 : Int) (f : Mm) : Option Mm := (if 0 ≤ s1 ∧ s1 < 6 then k22 x1 x2 x3 x4 (w32 (x5 + 1)) (up f 175 s1.toNat (w32 (s2 + s3))) else none)
set_option maxHeartbeats 4000000 in
set_option maxRecDepth 100000 in
theorem SX11_planTells_53 {G : GT} {l : Launch} {Q : Option AV → Mem → Prop} {k22 : Int → Int → Int → Int → Int → Mm → Option Mm} (q22 : ∀ (x1 : Int) (x2 : Int) (x3 : Int) (x4 : Int) (x5 : Int) (f : Mm), OkV Q (k22 x1 x2 x3 x4 x5 f) → Ev G l MX11_planTells (Rm 3 0 0) (ZM G Q 0 0) 0 0 22 [some (vR 150), some (vI x1), some (vI x2), some (vI x3), some (vI x4), some (vI x5), none] [] (SH, RF, f)) (x1 : Int) (x2 : Int) (x3 : Int) (x4 : Int) (x5 : Int) (s1 : Int) (s2 : Int) (s3 : Int) (f : Mm) (h : OkV Q (FX11_planTells_53 k22 x1 x2 x3 x4 x5 s1 s2 s3 f)) : Ev G l MX11_planTells (Rm 3 0 0) (ZM G Q 0 0) 0 0 53 [some (vR 150), some (vI x1), some (vI x2), some (vI x3), some (vI x4), some (vI x5), none] [vI s3, vI s2, vI s1, vR 175] (SH, RF, f) := by
  unfold FX11_planTells_53 at h
  refine ev_iadd dX11_planTells_53 ?_
  by_cases g1 : 0 ≤ s1 ∧ s1 < 6
  · rw [if_pos g1] at h
    refine ex_iast (j := s1.toNat) dX11_planTells_54 sh_175 g1.1 g1.2 rfl ?_
    refine ev_iinc (L' := [some (vR 150), some (vI x1), some (vI x2), some (vI x3), some (vI x4), some (vI (w32 (x5 + 1))), none]) dX11_planTells_55 rfl (by decide) rfl ?_
    refine ev_goto (tgt := 22) dX11_planTells_58 (by decide) ?_
    exact q22 x1 x2 x3 x4 (w32 (x5 + 1)) _ h
  · rw [if_neg g1] at h; exact h.elim
def FX11_planTells_22  : Nat → Int → Int → Int → Int → Int → Mm → Option Mm
  | 0, _, _, _, _, _, _ => none
  | n + 1, x1, x2, x3, x4, x5, f => (b2 (FX11_carts f) fun y1 f1 => (if y1 ≤ x5 then FX11_planTells_61 x1 x2 x3 x4 f1 else (if 0 ≤ x5 ∧ x5 < 6 then (b2 (FX11_isBit x2 x5 f1) fun y3 f3 => (if y3 = 0 then FX11_planTells_53 (FX11_planTells_22 n) x1 x2 x3 x4 x5 x5 (f1 175 x5.toNat) 0 f3 else FX11_planTells_53 (FX11_planTells_22 n) x1 x2 x3 x4 x5 x5 (f1 175 x5.toNat) 1 f3)) else none)))
set_option maxHeartbeats 4000000 in
set_option maxRecDepth 100000 in
theorem SX11_planTells_22 {G : GT} {l : Launch} {Q : Option AV → Mem → Prop}  : ∀ (n : Nat) (x1 : Int) (x2 : Int) (x3 : Int) (x4 : Int) (x5 : Int) (f : Mm), OkV Q (FX11_planTells_22  n x1 x2 x3 x4 x5 f) → Ev G l MX11_planTells (Rm 3 0 0) (ZM G Q 0 0) 0 0 22 [some (vR 150), some (vI x1), some (vI x2), some (vI x3), some (vI x4), some (vI x5), none] [] (SH, RF, f) := by
  intro n
  induction n with
  | zero => intro x1 x2 x3 x4 x5 f h; exact absurd h (by rw [FX11_planTells_22]; exact fun q => q)
  | succ n ih =>
    intro x1 x2 x3 x4 x5 f h
    rw [FX11_planTells_22] at h
    refine ev_iload dX11_planTells_22 rfl ?_
    refine ev_aload_n (i := 0) dX11_planTells_24 rfl rfl ?_
    refine ev_cVI (b := 150) (av := []) (S := [vI x5]) (fun q => q) h dX11_planTells_25 (fun Q' q => TX11_carts _ q) kvX11_carts ml_X11_269 sh_150 rfl (RRc (by decide) (by decide)) (Nat.le_of_ble_eq_true rfl) ⟨Nat.le_of_ble_eq_true rfl, Nat.le_of_ble_eq_true rfl⟩ (fun y1 f1 h => ?_)
    refine ev_icmp_ge (tgt := 61) dX11_planTells_28 (by decide) (fun c5 => ?_) (fun c5 => ?_)
    · rw [if_pos c5] at h
      refine ev_fg [true, true, true, true, true, false, true] rfl ?_
      exact SX11_planTells_61  x1 x2 x3 x4 _ h
    · rw [if_neg c5] at h
      refine ev_aload_n (i := 0) dX11_planTells_31 rfl rfl ?_
      refine ev_getR dX11_planTells_32 fl_X11_89 sh_150 (by decide) (by decide) rf_150_40 ?_
      refine ev_iload dX11_planTells_35 rfl ?_
      refine ev_dup2IR dX11_planTells_37 ?_
      by_cases g2 : 0 ≤ x5 ∧ x5 < 6
      · rw [if_pos g2] at h
        refine ex_iald (x := (f1 175 x5.toNat)) dX11_planTells_38 sh_175 g2.1 g2.2 rfl ?_
        refine ev_iload_n (i := 2) dX11_planTells_39 rfl rfl ?_
        refine ev_iload dX11_planTells_40 rfl ?_
        refine ev_cSI (av := [vI x2, vI x5]) (S := [vI (f1 175 x5.toNat), vI x5, vR 175]) (fun q => q) h dX11_planTells_42 (fun Q' q => TX11_isBit x2 x5 _ q) ksX11_isBit ml_X11_289 rfl (RRc (by decide) (by decide)) (Nat.le_of_ble_eq_true rfl) ⟨Nat.le_of_ble_eq_true rfl, Nat.le_of_ble_eq_true rfl⟩ (fun y3 f3 h => ?_)
        refine ev_if_eq (tgt := 52) dX11_planTells_45 (by decide) (fun c4 => ?_) (fun c4 => ?_)
        · rw [if_pos c4] at h
          refine ev_iconst dX11_planTells_52 (r32c rfl) ?_
          exact SX11_planTells_53 ih x1 x2 x3 x4 x5 x5 (f1 175 x5.toNat) 0 _ h
        · rw [if_neg c4] at h
          refine ev_iconst dX11_planTells_48 (r32c rfl) ?_
          refine ev_goto (tgt := 53) dX11_planTells_49 (by decide) ?_
          exact SX11_planTells_53 ih x1 x2 x3 x4 x5 x5 (f1 175 x5.toNat) 1 _ h
      · rw [if_neg g2] at h; exact h.elim
def FX11_planTells_0  (x1 : Int) (f : Mm) : Option Mm := (b2 (FX11_keptNow f) fun y1 f1 => (b2 (FX11_costNow f1) fun y2 f2 => (b2 (FX11_payOf y1 f2) fun y3 f3 => FX11_planTells_22 fu x1 y1 y2 (w32 (y3 - y2)) 0 f3)))
set_option maxHeartbeats 4000000 in
set_option maxRecDepth 100000 in
theorem SX11_planTells_0 {G : GT} {l : Launch} {Q : Option AV → Mem → Prop}  (x1 : Int) (f : Mm) (h : OkV Q (FX11_planTells_0  x1 f)) : Ev G l MX11_planTells (Rm 3 0 0) (ZM G Q 0 0) 0 0 0 [some (vR 150), some (vI x1), none, none, none, none, none] [] (SH, RF, f) := by
  unfold FX11_planTells_0 at h
  refine ev_aload_n (i := 0) dX11_planTells_0 rfl rfl ?_
  refine ev_cVI (b := 150) (av := []) (S := []) (fun q => q) h dX11_planTells_1 (fun Q' q => TX11_keptNow _ q) kvX11_keptNow ml_X11_330 sh_150 rfl (RRc (by decide) (by decide)) (Nat.le_of_ble_eq_true rfl) ⟨Nat.le_of_ble_eq_true rfl, Nat.le_of_ble_eq_true rfl⟩ (fun y1 f1 h => ?_)
  refine ev_istore_n (i := 2) (L' := [some (vR 150), some (vI x1), some (vI y1), none, none, none, none]) dX11_planTells_4 rfl (by decide) rfl ?_
  refine ev_aload_n (i := 0) dX11_planTells_5 rfl rfl ?_
  refine ev_cVI (b := 150) (av := []) (S := []) (fun q => q) h dX11_planTells_6 (fun Q' q => TX11_costNow _ q) kvX11_costNow ml_X11_336 sh_150 rfl (RRc (by decide) (by decide)) (Nat.le_of_ble_eq_true rfl) ⟨Nat.le_of_ble_eq_true rfl, Nat.le_of_ble_eq_true rfl⟩ (fun y2 f2 h => ?_)
  refine ev_istore_n (i := 3) (L' := [some (vR 150), some (vI x1), some (vI y1), some (vI y2), none, none, none]) dX11_planTells_9 rfl (by decide) rfl ?_
  refine ev_aload_n (i := 0) dX11_planTells_10 rfl rfl ?_
  refine ev_iload_n (i := 2) dX11_planTells_11 rfl rfl ?_
  refine ev_cVI (b := 150) (av := [vI y1]) (S := []) (fun q => q) h dX11_planTells_12 (fun Q' q => TX11_payOf y1 _ q) kvX11_payOf ml_X11_333 sh_150 rfl (RRc (by decide) (by decide)) (Nat.le_of_ble_eq_true rfl) ⟨Nat.le_of_ble_eq_true rfl, Nat.le_of_ble_eq_true rfl⟩ (fun y3 f3 h => ?_)
  refine ev_iload_n (i := 3) dX11_planTells_15 rfl rfl ?_
  refine ev_isub dX11_planTells_16 ?_
  refine ev_istore (L' := [some (vR 150), some (vI x1), some (vI y1), some (vI y2), some (vI (w32 (y3 - y2))), none, none]) dX11_planTells_17 (by decide) rfl ?_
  refine ev_iconst dX11_planTells_19 (r32c rfl) ?_
  refine ev_istore (L' := [some (vR 150), some (vI x1), some (vI y1), some (vI y2), some (vI (w32 (y3 - y2))), some (vI 0), none]) dX11_planTells_20 (by decide) rfl ?_
  exact SX11_planTells_22  fu x1 y1 y2 (w32 (y3 - y2)) 0 _ h
def FX11_planTells (x1 : Int) (f : Mm) : Option Mm := FX11_planTells_0 x1 f
set_option maxRecDepth 100000 in
theorem TX11_planTells {G : GT} {l : Launch} {Q : Option AV → Mem → Prop} (x1 : Int) (f : Mm) (h : OkV Q (FX11_planTells x1 f)) : Ret G l MX11_planTells (3) 0 0 [vR 150, vI x1] (SH, RF, f) Q := by
  refine ret_of (L := [some (vR 150), some (vI x1), none, none, none, none, none]) (by decide) rfl (Nat.le_of_ble_eq_true rfl) ?_
  exact SX11_planTells_0 x1 f h

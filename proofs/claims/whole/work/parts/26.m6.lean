theorem dX11_drawnTempers_61 : decode cX11_drawnTempers 61 = .ok (.ior, 1) := by decide +kernel
theorem dX11_drawnTempers_62 : decode cX11_drawnTempers 62 = .ok (.istore 5, 2) := by decide +kernel
theorem dX11_drawnTempers_64 : decode cX11_drawnTempers 64 = .ok (.iinc 6 1, 3) := by decide +kernel
theorem dX11_drawnTempers_67 : decode cX11_drawnTempers 67 = .ok (.goto (-59), 3) := by decide +kernel
theorem dX11_drawnTempers_8 : decode cX11_drawnTempers 8 = .ok (.iload 6, 2) := by decide +kernel
theorem dX11_drawnTempers_10 : decode cX11_drawnTempers 10 = .ok (.aload_n 0, 1) := by decide +kernel
theorem dX11_drawnTempers_11 : decode cX11_drawnTempers 11 = .ok (.invokevirtual 266, 3) := by decide +kernel
theorem dX11_drawnTempers_14 : decode cX11_drawnTempers 14 = .ok (.if_icmp .ge 56, 3) := by decide +kernel
theorem dX11_drawnTempers_70 : decode cX11_drawnTempers 70 = .ok (.iload 5, 2) := by decide +kernel
theorem dX11_drawnTempers_72 : decode cX11_drawnTempers 72 = .ok (.ireturn, 1) := by decide +kernel
theorem dX11_drawnTempers_17 : decode cX11_drawnTempers 17 = .ok (.ldc2_w 477, 3) := by decide +kernel
theorem dX11_drawnTempers_20 : decode cX11_drawnTempers 20 = .ok (.lload_n 3, 1) := by decide +kernel
theorem dX11_drawnTempers_21 : decode cX11_drawnTempers 21 = .ok (.lmul, 1) := by decide +kernel
theorem dX11_drawnTempers_22 : decode cX11_drawnTempers 22 = .ok (.ldc2_w 479, 3) := by decide +kernel
theorem dX11_drawnTempers_25 : decode cX11_drawnTempers 25 = .ok (.ladd, 1) := by decide +kernel
theorem dX11_drawnTempers_26 : decode cX11_drawnTempers 26 = .ok (.ldc2_w 481, 3) := by decide +kernel
theorem dX11_drawnTempers_29 : decode cX11_drawnTempers 29 = .ok (.lrem, 1) := by decide +kernel
theorem dX11_drawnTempers_30 : decode cX11_drawnTempers 30 = .ok (.lstore_n 3, 1) := by decide +kernel
theorem dX11_drawnTempers_31 : decode cX11_drawnTempers 31 = .ok (.iload 5, 2) := by decide +kernel
theorem dX11_drawnTempers_33 : decode cX11_drawnTempers 33 = .ok (.lload_n 3, 1) := by decide +kernel
theorem dX11_drawnTempers_34 : decode cX11_drawnTempers 34 = .ok (.ldc2_w 483, 3) := by decide +kernel
theorem dX11_drawnTempers_37 : decode cX11_drawnTempers 37 = .ok (.ldiv, 1) := by decide +kernel
theorem dX11_drawnTempers_38 : decode cX11_drawnTempers 38 = .ok (.ldc2_w 469, 3) := by decide +kernel
theorem dX11_drawnTempers_41 : decode cX11_drawnTempers 41 = .ok (.lrem, 1) := by decide +kernel
theorem dX11_drawnTempers_42 : decode cX11_drawnTempers 42 = .ok (.aload_n 0, 1) := by decide +kernel
theorem dX11_drawnTempers_43 : decode cX11_drawnTempers 43 = .ok (.getfield 34, 3) := by decide +kernel
theorem dX11_drawnTempers_46 : decode cX11_drawnTempers 46 = .ok (.iconst 4, 1) := by decide +kernel
theorem dX11_drawnTempers_47 : decode cX11_drawnTempers 47 = .ok (.iaload, 1) := by decide +kernel
theorem dX11_drawnTempers_48 : decode cX11_drawnTempers 48 = .ok (.i2l, 1) := by decide +kernel
theorem dX11_drawnTempers_49 : decode cX11_drawnTempers 49 = .ok (.lcmp, 1) := by decide +kernel
theorem dX11_drawnTempers_50 : decode cX11_drawnTempers 50 = .ok (.ifCond .ge 10, 3) := by decide +kernel
theorem dX11_drawnTempers_60 : decode cX11_drawnTempers 60 = .ok (.iconst 0, 1) := by decide +kernel
theorem dX11_drawnTempers_53 : decode cX11_drawnTempers 53 = .ok (.iconst 1, 1) := by decide +kernel
theorem dX11_drawnTempers_54 : decode cX11_drawnTempers 54 = .ok (.iload 6, 2) := by decide +kernel
theorem dX11_drawnTempers_56 : decode cX11_drawnTempers 56 = .ok (.ishl, 1) := by decide +kernel
theorem dX11_drawnTempers_57 : decode cX11_drawnTempers 57 = .ok (.goto 4, 3) := by decide +kernel
theorem dX11_drawnTempers_0 : decode cX11_drawnTempers 0 = .ok (.lload_n 1, 1) := by decide +kernel
theorem dX11_drawnTempers_1 : decode cX11_drawnTempers 1 = .ok (.lstore_n 3, 1) := by decide +kernel
theorem dX11_drawnTempers_2 : decode cX11_drawnTempers 2 = .ok (.iconst 0, 1) := by decide +kernel
theorem dX11_drawnTempers_3 : decode cX11_drawnTempers 3 = .ok (.istore 5, 2) := by decide +kernel
theorem dX11_drawnTempers_5 : decode cX11_drawnTempers 5 = .ok (.iconst 0, 1) := by decide +kernel
theorem dX11_drawnTempers_6 : decode cX11_drawnTempers 6 = .ok (.istore 6, 2) := by decide +kernel
def FX11_drawnTempers_61 (k8 : Int → Int → Int → Mm → Option (Int × Mm)) (x3 : Int) (x6 : Int) (s0 : Int) (s1 : Int) (f : Mm) : Option (Int × Mm) := k8 x3 (bOr s0 s1) (w32 (x6 + 1)) f
set_option maxHeartbeats 4000000 in
set_option maxRecDepth 100000 in
theorem SX11_drawnTempers_61 {G : GT} {l : Launch} {Q : Option AV → Mem → Prop} {k8 : Int → Int → Int → Mm → Option (Int × Mm)} (q8 : ∀ (x3 : Int) (x5 : Int) (x6 : Int) (f : Mm), OkI Q (k8 x3 x5 x6 f) → Ev G l MX11_drawnTempers (Rm 2 0 0) (ZM G Q 0 0) 0 0 8 [some (vR 150), none, none, some (vJ x3), none, some (vI x5), some (vI x6)] [] (SH, RF, f)) (x3 : Int) (x6 : Int) (s0 : Int) (s1 : Int) (f : Mm) (h : OkI Q (FX11_drawnTempers_61 k8 x3 x6 s0 s1 f)) : Ev G l MX11_drawnTempers (Rm 2 0 0) (ZM G Q 0 0) 0 0 61 [some (vR 150), none, none, some (vJ x3), none, none, some (vI x6)] [vI s1, vI s0] (SH, RF, f) := by
  unfold FX11_drawnTempers_61 at h
  refine ev_ior dX11_drawnTempers_61 ?_
  refine ev_istore (L' := [some (vR 150), none, none, some (vJ x3), none, some (vI (bOr s0 s1)), some (vI x6)]) dX11_drawnTempers_62 (by decide) rfl ?_
  refine ev_iinc (L' := [some (vR 150), none, none, some (vJ x3), none, some (vI (bOr s0 s1)), some (vI (w32 (x6 + 1)))]) dX11_drawnTempers_64 rfl (by decide) rfl ?_
  refine ev_goto (tgt := 8) dX11_drawnTempers_67 (by decide) ?_
  exact q8 x3 (bOr s0 s1) (w32 (x6 + 1)) _ h
def FX11_drawnTempers_8  : Nat → Int → Int → Int → Mm → Option (Int × Mm)
  | 0, _, _, _, _ => none
  | n + 1, x3, x5, x6, f => (b2 (FX11_days f) fun y1 f1 => (if y1 ≤ x6 then some (x5, f1) else (if 0 ≤ (cmp3 (lRem (lDiv (lRem (w64 ((w64 (1103515245 * x3)) + 12345)) 2147483648) 65536) 10) (f1 157 4)) then FX11_drawnTempers_61 (FX11_drawnTempers_8 n) (lRem (w64 ((w64 (1103515245 * x3)) + 12345)) 2147483648) x6 x5 0 f1 else FX11_drawnTempers_61 (FX11_drawnTempers_8 n) (lRem (w64 ((w64 (1103515245 * x3)) + 12345)) 2147483648) x6 x5 (bShl 1 x6) f1)))
set_option maxHeartbeats 4000000 in
set_option maxRecDepth 100000 in
theorem SX11_drawnTempers_8 {G : GT} {l : Launch} {Q : Option AV → Mem → Prop}  : ∀ (n : Nat) (x3 : Int) (x5 : Int) (x6 : Int) (f : Mm), OkI Q (FX11_drawnTempers_8  n x3 x5 x6 f) → Ev G l MX11_drawnTempers (Rm 2 0 0) (ZM G Q 0 0) 0 0 8 [some (vR 150), none, none, some (vJ x3), none, some (vI x5), some (vI x6)] [] (SH, RF, f) := by
  intro n
  induction n with
  | zero => intro x3 x5 x6 f h; exact absurd h (by rw [FX11_drawnTempers_8]; exact fun q => q)
  | succ n ih =>
    intro x3 x5 x6 f h
    rw [FX11_drawnTempers_8] at h
    refine ev_iload dX11_drawnTempers_8 rfl ?_
    refine ev_aload_n (i := 0) dX11_drawnTempers_10 rfl rfl ?_
    refine ev_cVI (b := 150) (av := []) (S := [vI x6]) (fun q => q) h dX11_drawnTempers_11 (fun Q' q => TX11_days _ q) kvX11_days ml_X11_266 sh_150 rfl (RRc (by decide) (by decide)) (Nat.le_of_ble_eq_true rfl) ⟨Nat.le_of_ble_eq_true rfl, Nat.le_of_ble_eq_true rfl⟩ (fun y1 f1 h => ?_)
    refine ev_icmp_ge (tgt := 70) dX11_drawnTempers_14 (by decide) (fun c3 => ?_) (fun c3 => ?_)
    · rw [if_pos c3] at h
      refine ev_iload dX11_drawnTempers_70 rfl ?_
      exact ev_iret rfl dX11_drawnTempers_72 h
    · rw [if_neg c3] at h
      refine ev_ldc2 (v := 1103515245) dX11_drawnTempers_17 (r64c rfl) kc_X11_477 ?_
      refine ev_lload_n (i := 3) dX11_drawnTempers_20 rfl rfl ?_
      refine ev_lmul dX11_drawnTempers_21 ?_
      refine ev_ldc2 (v := 12345) dX11_drawnTempers_22 (r64c rfl) kc_X11_479 ?_
      refine ev_ladd dX11_drawnTempers_25 ?_
      refine ev_ldc2 (v := 2147483648) dX11_drawnTempers_26 (r64c rfl) kc_X11_481 ?_
      refine ev_lrem dX11_drawnTempers_29 (by decide) ?_
      refine ev_lstore_n (i := 3) (L' := [some (vR 150), none, none, some (vJ (lRem (w64 ((w64 (1103515245 * x3)) + 12345)) 2147483648)), none, some (vI x5), some (vI x6)]) dX11_drawnTempers_30 rfl (by decide) rfl ?_
      refine ev_iload dX11_drawnTempers_31 rfl ?_
      refine ev_lload_n (i := 3) dX11_drawnTempers_33 rfl rfl ?_
      refine ev_ldc2 (v := 65536) dX11_drawnTempers_34 (r64c rfl) kc_X11_483 ?_
      refine ev_ldiv dX11_drawnTempers_37 (by decide) ?_
      refine ev_ldc2 (v := 10) dX11_drawnTempers_38 (r64c rfl) kc_X11_469 ?_
      refine ev_lrem dX11_drawnTempers_41 (by decide) ?_
      refine ev_aload_n (i := 0) dX11_drawnTempers_42 rfl rfl ?_
      refine ev_getR dX11_drawnTempers_43 fl_X11_34 sh_150 (by decide) (by decide) rf_150_17 ?_
      refine ev_iconst dX11_drawnTempers_46 (r32c rfl) ?_
      refine ex_iald (x := (f1 157 4)) dX11_drawnTempers_47 sh_157 (by decide) (by decide) rfl ?_
      refine ev_i2l dX11_drawnTempers_48 ?_
      refine ev_lcmp dX11_drawnTempers_49 ?_
      refine ev_if_ge (tgt := 60) dX11_drawnTempers_50 (by decide) (fun c2 => ?_) (fun c2 => ?_)
      · rw [if_pos c2] at h
        refine ev_iconst dX11_drawnTempers_60 (r32c rfl) ?_
        refine ev_fg [true, true, true, true, true, false, true] rfl ?_
        exact SX11_drawnTempers_61 ih (lRem (w64 ((w64 (1103515245 * x3)) + 12345)) 2147483648) x6 x5 0 _ h
      · rw [if_neg c2] at h
        refine ev_iconst dX11_drawnTempers_53 (r32c rfl) ?_
        refine ev_iload dX11_drawnTempers_54 rfl ?_
        refine ev_ishl dX11_drawnTempers_56 ?_
        refine ev_goto (tgt := 61) dX11_drawnTempers_57 (by decide) ?_
        refine ev_fg [true, true, true, true, true, false, true] rfl ?_
        exact SX11_drawnTempers_61 ih (lRem (w64 ((w64 (1103515245 * x3)) + 12345)) 2147483648) x6 x5 (bShl 1 x6) _ h
def FX11_drawnTempers_0  (x1 : Int) (f : Mm) : Option (Int × Mm) := FX11_drawnTempers_8 fu x1 0 0 f
set_option maxHeartbeats 4000000 in
set_option maxRecDepth 100000 in
theorem SX11_drawnTempers_0 {G : GT} {l : Launch} {Q : Option AV → Mem → Prop}  (x1 : Int) (f : Mm) (h : OkI Q (FX11_drawnTempers_0  x1 f)) : Ev G l MX11_drawnTempers (Rm 2 0 0) (ZM G Q 0 0) 0 0 0 [some (vR 150), some (vJ x1), none, none, none, none, none] [] (SH, RF, f) := by
  unfold FX11_drawnTempers_0 at h
  refine ev_lload_n (i := 1) dX11_drawnTempers_0 rfl rfl ?_
  refine ev_lstore_n (i := 3) (L' := [some (vR 150), some (vJ x1), none, some (vJ x1), none, none, none]) dX11_drawnTempers_1 rfl (by decide) rfl ?_
  refine ev_iconst dX11_drawnTempers_2 (r32c rfl) ?_
  refine ev_istore (L' := [some (vR 150), some (vJ x1), none, some (vJ x1), none, some (vI 0), none]) dX11_drawnTempers_3 (by decide) rfl ?_
  refine ev_iconst dX11_drawnTempers_5 (r32c rfl) ?_
  refine ev_istore (L' := [some (vR 150), some (vJ x1), none, some (vJ x1), none, some (vI 0), some (vI 0)]) dX11_drawnTempers_6 (by decide) rfl ?_
  refine ev_fg [true, false, true, true, true, true, true] rfl ?_
  exact SX11_drawnTempers_8  fu x1 0 0 _ h
def FX11_drawnTempers (x1 : Int) (f : Mm) : Option (Int × Mm) := FX11_drawnTempers_0 x1 f
set_option maxRecDepth 100000 in
theorem TX11_drawnTempers {G : GT} {l : Launch} {Q : Option AV → Mem → Prop} (x1 : Int) (f : Mm) (h : OkI Q (FX11_drawnTempers x1 f)) : Ret G l MX11_drawnTempers (2) 0 0 [vR 150, vJ x1] (SH, RF, f) Q := by
  refine ret_of (L := [some (vR 150), some (vJ x1), none, none, none, none, none]) (by decide) rfl (Nat.le_of_ble_eq_true rfl) ?_
  exact SX11_drawnTempers_0 x1 f h
theorem dX11_laysDrawn_0 : decode cX11_laysDrawn 0 = .ok (.aload_n 0, 1) := by decide +kernel
theorem dX11_laysDrawn_1 : decode cX11_laysDrawn 1 = .ok (.invokevirtual 296, 3) := by decide +kernel
theorem dX11_laysDrawn_4 : decode cX11_laysDrawn 4 = .ok (.aload_n 0, 1) := by decide +kernel
theorem dX11_laysDrawn_5 : decode cX11_laysDrawn 5 = .ok (.aload_n 0, 1) := by decide +kernel
theorem dX11_laysDrawn_6 : decode cX11_laysDrawn 6 = .ok (.lload_n 1, 1) := by decide +kernel
theorem dX11_laysDrawn_7 : decode cX11_laysDrawn 7 = .ok (.invokevirtual 485, 3) := by decide +kernel
theorem dX11_laysDrawn_10 : decode cX11_laysDrawn 10 = .ok (.aload_n 0, 1) := by decide +kernel
theorem dX11_laysDrawn_11 : decode cX11_laysDrawn 11 = .ok (.getfield 34, 3) := by decide +kernel
theorem dX11_laysDrawn_14 : decode cX11_laysDrawn 14 = .ok (.iconst 3, 1) := by decide +kernel
theorem dX11_laysDrawn_15 : decode cX11_laysDrawn 15 = .ok (.iaload, 1) := by decide +kernel
theorem dX11_laysDrawn_16 : decode cX11_laysDrawn 16 = .ok (.invokevirtual 293, 3) := by decide +kernel
theorem dX11_laysDrawn_19 : decode cX11_laysDrawn 19 = .ok (.aload_n 0, 1) := by decide +kernel
theorem dX11_laysDrawn_20 : decode cX11_laysDrawn 20 = .ok (.invokevirtual 304, 3) := by decide +kernel
theorem dX11_laysDrawn_23 : decode cX11_laysDrawn 23 = .ok (.aload_n 0, 1) := by decide +kernel
theorem dX11_laysDrawn_24 : decode cX11_laysDrawn 24 = .ok (.invokevirtual 307, 3) := by decide +kernel
theorem dX11_laysDrawn_27 : decode cX11_laysDrawn 27 = .ok (.return_, 1) := by decide +kernel
def FX11_laysDrawn_0  (x1 : Int) (f : Mm) : Option Mm := ((FX11_lays f).bind fun f1 => (b2 (FX11_drawnTempers x1 f1) fun y2 f2 => ((FX11_goes y2 (f2 157 3) f2).bind fun f3 => ((FX11_byNumbers f3).bind fun f4 => ((FX11_passes f4).bind fun f5 => some f5)))))
set_option maxHeartbeats 4000000 in
set_option maxRecDepth 100000 in
theorem SX11_laysDrawn_0 {G : GT} {l : Launch} {Q : Option AV → Mem → Prop}  (x1 : Int) (f : Mm) (h : OkV Q (FX11_laysDrawn_0  x1 f)) : Ev G l MX11_laysDrawn (Rm 4 0 0) (ZM G Q 0 0) 0 0 0 [some (vR 150), some (vJ x1), none] [] (SH, RF, f) := by
  unfold FX11_laysDrawn_0 at h
  refine ev_aload_n (i := 0) dX11_laysDrawn_0 rfl rfl ?_
  refine ev_cVV (b := 150) (av := []) (S := []) (fun q => q) h dX11_laysDrawn_1 (fun Q' q => TX11_lays _ q) kvX11_lays ml_X11_296 sh_150 rfl (RRc (by decide) (by decide)) (Nat.le_of_ble_eq_true rfl) ⟨Nat.le_of_ble_eq_true rfl, Nat.le_of_ble_eq_true rfl⟩ (fun f1 h => ?_)
  refine ev_aload_n (i := 0) dX11_laysDrawn_4 rfl rfl ?_
  refine ev_aload_n (i := 0) dX11_laysDrawn_5 rfl rfl ?_
  refine ev_lload_n (i := 1) dX11_laysDrawn_6 rfl rfl ?_
  refine ev_cVI (b := 150) (av := [vJ x1]) (S := [vR 150]) (fun q => q) h dX11_laysDrawn_7 (fun Q' q => TX11_drawnTempers x1 _ q) kvX11_drawnTempers ml_X11_485 sh_150 rfl (RRc (by decide) (by decide)) (Nat.le_of_ble_eq_true rfl) ⟨Nat.le_of_ble_eq_true rfl, Nat.le_of_ble_eq_true rfl⟩ (fun y2 f2 h => ?_)
  refine ev_aload_n (i := 0) dX11_laysDrawn_10 rfl rfl ?_
  refine ev_getR dX11_laysDrawn_11 fl_X11_34 sh_150 (by decide) (by decide) rf_150_17 ?_
  refine ev_iconst dX11_laysDrawn_14 (r32c rfl) ?_
  refine ex_iald (x := (f2 157 3)) dX11_laysDrawn_15 sh_157 (by decide) (by decide) rfl ?_
  refine ev_cVV (b := 150) (av := [vI y2, vI (f2 157 3)]) (S := []) (fun q => q) h dX11_laysDrawn_16 (fun Q' q => TX11_goes y2 (f2 157 3) _ q) kvX11_goes ml_X11_293 sh_150 rfl (RRc (by decide) (by decide)) (Nat.le_of_ble_eq_true rfl) ⟨Nat.le_of_ble_eq_true rfl, Nat.le_of_ble_eq_true rfl⟩ (fun f3 h => ?_)
  refine ev_aload_n (i := 0) dX11_laysDrawn_19 rfl rfl ?_
  refine ev_cVV (b := 150) (av := []) (S := []) (fun q => q) h dX11_laysDrawn_20 (fun Q' q => TX11_byNumbers _ q) kvX11_byNumbers ml_X11_304 sh_150 rfl (RRc (by decide) (by decide)) (Nat.le_of_ble_eq_true rfl) ⟨Nat.le_of_ble_eq_true rfl, Nat.le_of_ble_eq_true rfl⟩ (fun f4 h => ?_)
  refine ev_aload_n (i := 0) dX11_laysDrawn_23 rfl rfl ?_
  refine ev_cVV (b := 150) (av := []) (S := []) (fun q => q) h dX11_laysDrawn_24 (fun Q' q => TX11_passes _ q) kvX11_passes ml_X11_307 sh_150 rfl (RRc (by decide) (by decide)) (Nat.le_of_ble_eq_true rfl) ⟨Nat.le_of_ble_eq_true rfl, Nat.le_of_ble_eq_true rfl⟩ (fun f5 h => ?_)
  exact ev_vret rfl dX11_laysDrawn_27 h
def FX11_laysDrawn (x1 : Int) (f : Mm) : Option Mm := FX11_laysDrawn_0 x1 f
set_option maxRecDepth 100000 in
theorem TX11_laysDrawn {G : GT} {l : Launch} {Q : Option AV → Mem → Prop} (x1 : Int) (f : Mm) (h : OkV Q (FX11_laysDrawn x1 f)) : Ret G l MX11_laysDrawn (4) 0 0 [vR 150, vJ x1] (SH, RF, f) Q := by
  refine ret_of (L := [some (vR 150), some (vJ x1), none]) (by decide) rfl (Nat.le_of_ble_eq_true rfl) ?_
  exact SX11_laysDrawn_0 x1 f h
theorem dX11_isSeed_0 : decode cX11_isSeed 0 = .ok (.aload_n 0, 1) := by decide +kernel
theorem dX11_isSeed_1 : decode cX11_isSeed 1 = .ok (.invokevirtual 272, 3) := by decide +kernel
theorem dX11_isSeed_4 : decode cX11_isSeed 4 = .ok (.ifCond .eq 19, 3) := by decide +kernel
theorem dX11_isSeed_23 : decode cX11_isSeed 23 = .ok (.iconst 0, 1) := by decide +kernel
theorem dX11_isSeed_24 : decode cX11_isSeed 24 = .ok (.ireturn, 1) := by decide +kernel
theorem dX11_isSeed_7 : decode cX11_isSeed 7 = .ok (.iload_n 1, 1) := by decide +kernel
theorem dX11_isSeed_8 : decode cX11_isSeed 8 = .ok (.i2l, 1) := by decide +kernel
theorem dX11_isSeed_9 : decode cX11_isSeed 9 = .ok (.lconst 0, 1) := by decide +kernel
theorem dX11_isSeed_10 : decode cX11_isSeed 10 = .ok (.ldc2_w 489, 3) := by decide +kernel
theorem dX11_isSeed_13 : decode cX11_isSeed 13 = .ok (.invokestatic 103, 3) := by decide +kernel
theorem dX11_isSeed_16 : decode cX11_isSeed 16 = .ok (.ifCond .eq 7, 3) := by decide +kernel
theorem dX11_isSeed_19 : decode cX11_isSeed 19 = .ok (.iconst 1, 1) := by decide +kernel
theorem dX11_isSeed_20 : decode cX11_isSeed 20 = .ok (.goto 4, 3) := by decide +kernel
def FX11_isSeed_0  (x1 : Int) (f : Mm) : Option (Int × Mm) := (b2 (FX11_isBridge f) fun y1 f1 => (if y1 = 0 then some (0, f1) else (b2 (FX11_in x1 0 2000000000 f1) fun y2 f2 => (if y2 = 0 then some (0, f2) else some (1, f2)))))
set_option maxHeartbeats 4000000 in
set_option maxRecDepth 100000 in
theorem SX11_isSeed_0 {G : GT} {l : Launch} {Q : Option AV → Mem → Prop}  (x1 : Int) (f : Mm) (h : OkI Q (FX11_isSeed_0  x1 f)) : Ev G l MX11_isSeed (Rm 2 0 0) (ZM G Q 0 0) 0 0 0 [some (vR 150), some (vI x1)] [] (SH, RF, f) := by
  unfold FX11_isSeed_0 at h
  refine ev_aload_n (i := 0) dX11_isSeed_0 rfl rfl ?_
  refine ev_cVI (b := 150) (av := []) (S := []) (fun q => q) h dX11_isSeed_1 (fun Q' q => TX11_isBridge _ q) kvX11_isBridge ml_X11_272 sh_150 rfl (RRc (by decide) (by decide)) (Nat.le_of_ble_eq_true rfl) ⟨Nat.le_of_ble_eq_true rfl, Nat.le_of_ble_eq_true rfl⟩ (fun y1 f1 h => ?_)
  refine ev_if_eq (tgt := 23) dX11_isSeed_4 (by decide) (fun c4 => ?_) (fun c4 => ?_)
  · rw [if_pos c4] at h
    refine ev_iconst dX11_isSeed_23 (r32c rfl) ?_
    exact ev_zret rfl (by decide) dX11_isSeed_24 h
  · rw [if_neg c4] at h
    refine ev_iload_n (i := 1) dX11_isSeed_7 rfl rfl ?_
    refine ev_i2l dX11_isSeed_8 ?_
    refine ev_lconst (v := 0) dX11_isSeed_9 (r64c rfl) (by decide) ?_
    refine ev_ldc2 (v := 2000000000) dX11_isSeed_10 (r64c rfl) kc_X11_489 ?_
    refine ev_cSI (av := [vJ x1, vJ 0, vJ 2000000000]) (S := []) (fun q => q) h dX11_isSeed_13 (fun Q' q => TX11_in x1 0 2000000000 _ q) ksX11_in ml_X11_103 rfl (RRc (by decide) (by decide)) (Nat.le_of_ble_eq_true rfl) ⟨Nat.le_of_ble_eq_true rfl, Nat.le_of_ble_eq_true rfl⟩ (fun y2 f2 h => ?_)
    refine ev_if_eq (tgt := 23) dX11_isSeed_16 (by decide) (fun c3 => ?_) (fun c3 => ?_)
    · rw [if_pos c3] at h
      refine ev_iconst dX11_isSeed_23 (r32c rfl) ?_
      exact ev_zret rfl (by decide) dX11_isSeed_24 h
    · rw [if_neg c3] at h
      refine ev_iconst dX11_isSeed_19 (r32c rfl) ?_
      refine ev_goto (tgt := 24) dX11_isSeed_20 (by decide) ?_
      exact ev_zret rfl (by decide) dX11_isSeed_24 h
def FX11_isSeed (x1 : Int) (f : Mm) : Option (Int × Mm) := FX11_isSeed_0 x1 f
set_option maxRecDepth 100000 in
theorem TX11_isSeed {G : GT} {l : Launch} {Q : Option AV → Mem → Prop} (x1 : Int) (f : Mm) (h : OkI Q (FX11_isSeed x1 f)) : Ret G l MX11_isSeed (2) 0 0 [vR 150, vI x1] (SH, RF, f) Q := by
  refine ret_of (L := [some (vR 150), some (vI x1)]) (by decide) rfl (Nat.le_of_ble_eq_true rfl) ?_
  exact SX11_isSeed_0 x1 f h
theorem dX11_drawn_96 : decode cX11_drawn 96 = .ok (.ior, 1) := by decide +kernel
theorem dX11_drawn_97 : decode cX11_drawn 97 = .ok (.istore_n 3, 1) := by decide +kernel
theorem dX11_drawn_98 : decode cX11_drawn 98 = .ok (.iinc 4 1, 3) := by decide +kernel
theorem dX11_drawn_101 : decode cX11_drawn 101 = .ok (.goto (-34), 3) := by decide +kernel
theorem dX11_drawn_67 : decode cX11_drawn 67 = .ok (.iload 4, 2) := by decide +kernel
theorem dX11_drawn_69 : decode cX11_drawn 69 = .ok (.aload_n 0, 1) := by decide +kernel
theorem dX11_drawn_70 : decode cX11_drawn 70 = .ok (.invokevirtual 269, 3) := by decide +kernel
theorem dX11_drawn_73 : decode cX11_drawn 73 = .ok (.if_icmp .ge 31, 3) := by decide +kernel
theorem dX11_drawn_104 : decode cX11_drawn 104 = .ok (.iload_n 3, 1) := by decide +kernel
theorem dX11_drawn_105 : decode cX11_drawn 105 = .ok (.ireturn, 1) := by decide +kernel
theorem dX11_drawn_76 : decode cX11_drawn 76 = .ok (.iload_n 3, 1) := by decide +kernel
theorem dX11_drawn_77 : decode cX11_drawn 77 = .ok (.aload_n 0, 1) := by decide +kernel
theorem dX11_drawn_78 : decode cX11_drawn 78 = .ok (.getfield 65, 3) := by decide +kernel
theorem dX11_drawn_81 : decode cX11_drawn 81 = .ok (.iload 4, 2) := by decide +kernel
theorem dX11_drawn_83 : decode cX11_drawn 83 = .ok (.iaload, 1) := by decide +kernel
theorem dX11_drawn_84 : decode cX11_drawn 84 = .ok (.iconst (-1), 1) := by decide +kernel
theorem dX11_drawn_85 : decode cX11_drawn 85 = .ok (.if_icmp .eq 10, 3) := by decide +kernel
theorem dX11_drawn_95 : decode cX11_drawn 95 = .ok (.iconst 0, 1) := by decide +kernel
theorem dX11_drawn_88 : decode cX11_drawn 88 = .ok (.iconst 1, 1) := by decide +kernel
theorem dX11_drawn_89 : decode cX11_drawn 89 = .ok (.iload 4, 2) := by decide +kernel
theorem dX11_drawn_91 : decode cX11_drawn 91 = .ok (.ishl, 1) := by decide +kernel
theorem dX11_drawn_92 : decode cX11_drawn 92 = .ok (.goto 4, 3) := by decide +kernel
theorem dX11_drawn_0 : decode cX11_drawn 0 = .ok (.aload_n 0, 1) := by decide +kernel
theorem dX11_drawn_1 : decode cX11_drawn 1 = .ok (.iconst 0, 1) := by decide +kernel
theorem dX11_drawn_2 : decode cX11_drawn 2 = .ok (.putfield 98, 3) := by decide +kernel
theorem dX11_drawn_5 : decode cX11_drawn 5 = .ok (.aload_n 0, 1) := by decide +kernel
theorem dX11_drawn_6 : decode cX11_drawn 6 = .ok (.iload_n 1, 1) := by decide +kernel
theorem dX11_drawn_7 : decode cX11_drawn 7 = .ok (.invokevirtual 491, 3) := by decide +kernel
theorem dX11_drawn_10 : decode cX11_drawn 10 = .ok (.ifCond .eq 15, 3) := by decide +kernel
theorem dX11_drawn_25 : decode cX11_drawn 25 = .ok (.bipush (-2), 2) := by decide +kernel
theorem dX11_drawn_27 : decode cX11_drawn 27 = .ok (.ireturn, 1) := by decide +kernel
theorem dX11_drawn_13 : decode cX11_drawn 13 = .ok (.iload_n 2, 1) := by decide +kernel
theorem dX11_drawn_14 : decode cX11_drawn 14 = .ok (.i2l, 1) := by decide +kernel
theorem dX11_drawn_15 : decode cX11_drawn 15 = .ok (.lconst 0, 1) := by decide +kernel
theorem dX11_drawn_16 : decode cX11_drawn 16 = .ok (.ldc2_w 494, 3) := by decide +kernel
theorem dX11_drawn_19 : decode cX11_drawn 19 = .ok (.invokestatic 103, 3) := by decide +kernel
theorem dX11_drawn_22 : decode cX11_drawn 22 = .ok (.ifCond .ne 6, 3) := by decide +kernel
theorem dX11_drawn_28 : decode cX11_drawn 28 = .ok (.iload_n 2, 1) := by decide +kernel
theorem dX11_drawn_29 : decode cX11_drawn 29 = .ok (.ifCond .ne 10, 3) := by decide +kernel
theorem dX11_drawn_39 : decode cX11_drawn 39 = .ok (.aload_n 0, 1) := by decide +kernel
theorem dX11_drawn_40 : decode cX11_drawn 40 = .ok (.iload_n 1, 1) := by decide +kernel
theorem dX11_drawn_41 : decode cX11_drawn 41 = .ok (.i2l, 1) := by decide +kernel
theorem dX11_drawn_42 : decode cX11_drawn 42 = .ok (.invokevirtual 496, 3) := by decide +kernel
theorem dX11_drawn_45 : decode cX11_drawn 45 = .ok (.iload_n 2, 1) := by decide +kernel
theorem dX11_drawn_46 : decode cX11_drawn 46 = .ok (.iconst 1, 1) := by decide +kernel
theorem dX11_drawn_47 : decode cX11_drawn 47 = .ok (.if_icmp .ne 15, 3) := by decide +kernel
theorem dX11_drawn_62 : decode cX11_drawn 62 = .ok (.iconst 0, 1) := by decide +kernel
theorem dX11_drawn_63 : decode cX11_drawn 63 = .ok (.istore_n 3, 1) := by decide +kernel
theorem dX11_drawn_64 : decode cX11_drawn 64 = .ok (.iconst 0, 1) := by decide +kernel
theorem dX11_drawn_65 : decode cX11_drawn 65 = .ok (.istore 4, 2) := by decide +kernel
theorem dX11_drawn_50 : decode cX11_drawn 50 = .ok (.aload_n 0, 1) := by decide +kernel
theorem dX11_drawn_51 : decode cX11_drawn 51 = .ok (.getfield 56, 3) := by decide +kernel
theorem dX11_drawn_54 : decode cX11_drawn 54 = .ok (.aload_n 0, 1) := by decide +kernel
theorem dX11_drawn_55 : decode cX11_drawn 55 = .ok (.invokevirtual 266, 3) := by decide +kernel
theorem dX11_drawn_58 : decode cX11_drawn 58 = .ok (.iconst 1, 1) := by decide +kernel
theorem dX11_drawn_59 : decode cX11_drawn 59 = .ok (.isub, 1) := by decide +kernel
theorem dX11_drawn_60 : decode cX11_drawn 60 = .ok (.iaload, 1) := by decide +kernel
theorem dX11_drawn_61 : decode cX11_drawn 61 = .ok (.ireturn, 1) := by decide +kernel
theorem dX11_drawn_32 : decode cX11_drawn 32 = .ok (.aload_n 0, 1) := by decide +kernel
theorem dX11_drawn_33 : decode cX11_drawn 33 = .ok (.iload_n 1, 1) := by decide +kernel
theorem dX11_drawn_34 : decode cX11_drawn 34 = .ok (.i2l, 1) := by decide +kernel
theorem dX11_drawn_35 : decode cX11_drawn 35 = .ok (.invokevirtual 485, 3) := by decide +kernel
theorem dX11_drawn_38 : decode cX11_drawn 38 = .ok (.ireturn, 1) := by decide +kernel
def FX11_drawn_96 (k67 : Int → Int → Mm → Option (Int × Mm)) (x4 : Int) (s0 : Int) (s1 : Int) (f : Mm) : Option (Int × Mm) := k67 (bOr s0 s1) (w32 (x4 + 1)) f
set_option maxHeartbeats 4000000 in
set_option maxRecDepth 100000 in
theorem SX11_drawn_96 {G : GT} {l : Launch} {Q : Option AV → Mem → Prop} {k67 : Int → Int → Mm → Option (Int × Mm)} (q67 : ∀ (x3 : Int) (x4 : Int) (f : Mm), OkI Q (k67 x3 x4 f) → Ev G l MX11_drawn (Rm 5 0 0) (ZM G Q 0 0) 0 0 67 [some (vR 150), none, none, some (vI x3), some (vI x4)] [] (SH, RF, f)) (x4 : Int) (s0 : Int) (s1 : Int) (f : Mm) (h : OkI Q (FX11_drawn_96 k67 x4 s0 s1 f)) : Ev G l MX11_drawn (Rm 5 0 0) (ZM G Q 0 0) 0 0 96 [some (vR 150), none, none, none, some (vI x4)] [vI s1, vI s0] (SH, RF, f) := by
  unfold FX11_drawn_96 at h
  refine ev_ior dX11_drawn_96 ?_
  refine ev_istore_n (i := 3) (L' := [some (vR 150), none, none, some (vI (bOr s0 s1)), some (vI x4)]) dX11_drawn_97 rfl (by decide) rfl ?_
  refine ev_iinc (L' := [some (vR 150), none, none, some (vI (bOr s0 s1)), some (vI (w32 (x4 + 1)))]) dX11_drawn_98 rfl (by decide) rfl ?_
  refine ev_goto (tgt := 67) dX11_drawn_101 (by decide) ?_
  exact q67 (bOr s0 s1) (w32 (x4 + 1)) _ h
def FX11_drawn_67  : Nat → Int → Int → Mm → Option (Int × Mm)
  | 0, _, _, _ => none
  | n + 1, x3, x4, f => (b2 (FX11_carts f) fun y1 f1 => (if y1 ≤ x4 then some (x3, f1) else (if 0 ≤ x4 ∧ x4 < 6 then (if (f1 167 x4.toNat) = (-1) then FX11_drawn_96 (FX11_drawn_67 n) x4 x3 0 f1 else FX11_drawn_96 (FX11_drawn_67 n) x4 x3 (bShl 1 x4) f1) else none)))
set_option maxHeartbeats 4000000 in
set_option maxRecDepth 100000 in
theorem SX11_drawn_67 {G : GT} {l : Launch} {Q : Option AV → Mem → Prop}  : ∀ (n : Nat) (x3 : Int) (x4 : Int) (f : Mm), OkI Q (FX11_drawn_67  n x3 x4 f) → Ev G l MX11_drawn (Rm 5 0 0) (ZM G Q 0 0) 0 0 67 [some (vR 150), none, none, some (vI x3), some (vI x4)] [] (SH, RF, f) := by
  intro n
  induction n with
  | zero => intro x3 x4 f h; exact absurd h (by rw [FX11_drawn_67]; exact fun q => q)
  | succ n ih =>
    intro x3 x4 f h
    rw [FX11_drawn_67] at h
    refine ev_iload dX11_drawn_67 rfl ?_
    refine ev_aload_n (i := 0) dX11_drawn_69 rfl rfl ?_
    refine ev_cVI (b := 150) (av := []) (S := [vI x4]) (fun q => q) h dX11_drawn_70 (fun Q' q => TX11_carts _ q) kvX11_carts ml_X11_269 sh_150 rfl (RRc (by decide) (by decide)) (Nat.le_of_ble_eq_true rfl) ⟨Nat.le_of_ble_eq_true rfl, Nat.le_of_ble_eq_true rfl⟩ (fun y1 f1 h => ?_)
    refine ev_icmp_ge (tgt := 104) dX11_drawn_73 (by decide) (fun c4 => ?_) (fun c4 => ?_)
    · rw [if_pos c4] at h
      refine ev_iload_n (i := 3) dX11_drawn_104 rfl rfl ?_
      exact ev_iret rfl dX11_drawn_105 h
    · rw [if_neg c4] at h
      refine ev_iload_n (i := 3) dX11_drawn_76 rfl rfl ?_
      refine ev_aload_n (i := 0) dX11_drawn_77 rfl rfl ?_
      refine ev_getR dX11_drawn_78 fl_X11_65 sh_150 (by decide) (by decide) rf_150_29 ?_
      refine ev_iload dX11_drawn_81 rfl ?_
      by_cases g2 : 0 ≤ x4 ∧ x4 < 6
      · rw [if_pos g2] at h
        refine ex_iald (x := (f1 167 x4.toNat)) dX11_drawn_83 sh_167 g2.1 g2.2 rfl ?_
        refine ev_iconst dX11_drawn_84 (r32c rfl) ?_
        refine ev_icmp_eq (tgt := 95) dX11_drawn_85 (by decide) (fun c3 => ?_) (fun c3 => ?_)
        · rw [if_pos c3] at h
          refine ev_iconst dX11_drawn_95 (r32c rfl) ?_
          refine ev_fg [true, true, true, false, true] rfl ?_
          exact SX11_drawn_96 ih x4 x3 0 _ h
        · rw [if_neg c3] at h
          refine ev_iconst dX11_drawn_88 (r32c rfl) ?_
          refine ev_iload dX11_drawn_89 rfl ?_
          refine ev_ishl dX11_drawn_91 ?_
          refine ev_goto (tgt := 96) dX11_drawn_92 (by decide) ?_
          refine ev_fg [true, true, true, false, true] rfl ?_
          exact SX11_drawn_96 ih x4 x3 (bShl 1 x4) _ h
      · rw [if_neg g2] at h; exact h.elim
def FX11_drawn_0  (x1 : Int) (x2 : Int) (f : Mm) : Option (Int × Mm) := (b2 (FX11_isSeed x1 (up f 150 0 0)) fun y1 f1 => (if y1 = 0 then some ((-2), f1) else (b2 (FX11_in x2 0 2 f1) fun y2 f2 => (if y2 = 0 then some ((-2), f2) else (if x2 = 0 then (b2 (FX11_drawnTempers x1 f2) fun y7 f7 => some (y7, f7)) else ((FX11_laysDrawn x1 f2).bind fun f3 => (if x2 = 1 then (b2 (FX11_days f3) fun y4 f4 => (if 0 ≤ (w32 (y4 - 1)) ∧ (w32 (y4 - 1)) < 6 then some ((f4 164 (w32 (y4 - 1)).toNat), f4) else none)) else FX11_drawn_67 fu 0 0 f3)))))))
set_option maxHeartbeats 4000000 in
set_option maxRecDepth 100000 in
theorem SX11_drawn_0 {G : GT} {l : Launch} {Q : Option AV → Mem → Prop}  (x1 : Int) (x2 : Int) (f : Mm) (h : OkI Q (FX11_drawn_0  x1 x2 f)) : Ev G l MX11_drawn (Rm 5 0 0) (ZM G Q 0 0) 0 0 0 [some (vR 150), some (vI x1), some (vI x2), none, none] [] (SH, RF, f) := by
  unfold FX11_drawn_0 at h
  refine ev_aload_n (i := 0) dX11_drawn_0 rfl rfl ?_
  refine ev_iconst dX11_drawn_1 (r32c rfl) ?_
  refine ev_putI dX11_drawn_2 fl_X11_98 sh_150 (by decide) (by decide) ?_
  refine ev_aload_n (i := 0) dX11_drawn_5 rfl rfl ?_
  refine ev_iload_n (i := 1) dX11_drawn_6 rfl rfl ?_
  refine ev_cVI (b := 150) (av := [vI x1]) (S := []) (fun q => q) h dX11_drawn_7 (fun Q' q => TX11_isSeed x1 _ q) kvX11_isSeed ml_X11_491 sh_150 rfl (RRc (by decide) (by decide)) (Nat.le_of_ble_eq_true rfl) ⟨Nat.le_of_ble_eq_true rfl, Nat.le_of_ble_eq_true rfl⟩ (fun y1 f1 h => ?_)
  refine ev_if_eq (tgt := 25) dX11_drawn_10 (by decide) (fun c10 => ?_) (fun c10 => ?_)
  · rw [if_pos c10] at h
    refine ev_bipush (v := (-2)) dX11_drawn_25 (r32c rfl) (by decide) ?_
    exact ev_iret rfl dX11_drawn_27 h
  · rw [if_neg c10] at h
    refine ev_iload_n (i := 2) dX11_drawn_13 rfl rfl ?_
    refine ev_i2l dX11_drawn_14 ?_
    refine ev_lconst (v := 0) dX11_drawn_15 (r64c rfl) (by decide) ?_
    refine ev_ldc2 (v := 2) dX11_drawn_16 (r64c rfl) kc_X11_494 ?_
    refine ev_cSI (av := [vJ x2, vJ 0, vJ 2]) (S := []) (fun q => q) h dX11_drawn_19 (fun Q' q => TX11_in x2 0 2 _ q) ksX11_in ml_X11_103 rfl (RRc (by decide) (by decide)) (Nat.le_of_ble_eq_true rfl) ⟨Nat.le_of_ble_eq_true rfl, Nat.le_of_ble_eq_true rfl⟩ (fun y2 f2 h => ?_)
    refine ev_if_ne (tgt := 28) dX11_drawn_22 (by decide) (fun c9 => ?_) (fun c9 => ?_)
    · rw [if_neg c9] at h
      refine ev_iload_n (i := 2) dX11_drawn_28 rfl rfl ?_
      refine ev_if_ne (tgt := 39) dX11_drawn_29 (by decide) (fun c8 => ?_) (fun c8 => ?_)
      · rw [if_neg c8] at h
        refine ev_aload_n (i := 0) dX11_drawn_39 rfl rfl ?_
        refine ev_iload_n (i := 1) dX11_drawn_40 rfl rfl ?_
        refine ev_i2l dX11_drawn_41 ?_
        refine ev_cVV (b := 150) (av := [vJ x1]) (S := []) (fun q => q) h dX11_drawn_42 (fun Q' q => TX11_laysDrawn x1 _ q) kvX11_laysDrawn ml_X11_496 sh_150 rfl (RRc (by decide) (by decide)) (Nat.le_of_ble_eq_true rfl) ⟨Nat.le_of_ble_eq_true rfl, Nat.le_of_ble_eq_true rfl⟩ (fun f3 h => ?_)
        refine ev_iload_n (i := 2) dX11_drawn_45 rfl rfl ?_
        refine ev_iconst dX11_drawn_46 (r32c rfl) ?_
        refine ev_icmp_ne (tgt := 62) dX11_drawn_47 (by decide) (fun c6 => ?_) (fun c6 => ?_)
        · rw [if_neg c6] at h
          refine ev_iconst dX11_drawn_62 (r32c rfl) ?_
          refine ev_istore_n (i := 3) (L' := [some (vR 150), some (vI x1), some (vI x2), some (vI 0), none]) dX11_drawn_63 rfl (by decide) rfl ?_
          refine ev_iconst dX11_drawn_64 (r32c rfl) ?_
          refine ev_istore (L' := [some (vR 150), some (vI x1), some (vI x2), some (vI 0), some (vI 0)]) dX11_drawn_65 (by decide) rfl ?_
          refine ev_fg [true, false, false, true, true] rfl ?_
          exact SX11_drawn_67  fu 0 0 _ h
        · rw [if_pos c6] at h
          refine ev_aload_n (i := 0) dX11_drawn_50 rfl rfl ?_
          refine ev_getR dX11_drawn_51 fl_X11_56 sh_150 (by decide) (by decide) rf_150_26 ?_
          refine ev_aload_n (i := 0) dX11_drawn_54 rfl rfl ?_
          refine ev_cVI (b := 150) (av := []) (S := [vR 164]) (fun q => q) h dX11_drawn_55 (fun Q' q => TX11_days _ q) kvX11_days ml_X11_266 sh_150 rfl (RRc (by decide) (by decide)) (Nat.le_of_ble_eq_true rfl) ⟨Nat.le_of_ble_eq_true rfl, Nat.le_of_ble_eq_true rfl⟩ (fun y4 f4 h => ?_)
          refine ev_iconst dX11_drawn_58 (r32c rfl) ?_
          refine ev_isub dX11_drawn_59 ?_
          by_cases g5 : 0 ≤ (w32 (y4 - 1)) ∧ (w32 (y4 - 1)) < 6
          · rw [if_pos g5] at h
            refine ex_iald (x := (f4 164 (w32 (y4 - 1)).toNat)) dX11_drawn_60 sh_164 g5.1 g5.2 rfl ?_
            exact ev_iret rfl dX11_drawn_61 h
          · rw [if_neg g5] at h; exact h.elim
      · rw [if_pos c8] at h
        refine ev_aload_n (i := 0) dX11_drawn_32 rfl rfl ?_
        refine ev_iload_n (i := 1) dX11_drawn_33 rfl rfl ?_
        refine ev_i2l dX11_drawn_34 ?_
        refine ev_cVI (b := 150) (av := [vJ x1]) (S := []) (fun q => q) h dX11_drawn_35 (fun Q' q => TX11_drawnTempers x1 _ q) kvX11_drawnTempers ml_X11_485 sh_150 rfl (RRc (by decide) (by decide)) (Nat.le_of_ble_eq_true rfl) ⟨Nat.le_of_ble_eq_true rfl, Nat.le_of_ble_eq_true rfl⟩ (fun y7 f7 h => ?_)
        exact ev_iret rfl dX11_drawn_38 h
    · rw [if_pos c9] at h
      refine ev_bipush (v := (-2)) dX11_drawn_25 (r32c rfl) (by decide) ?_
      exact ev_iret rfl dX11_drawn_27 h
def FX11_drawn (x1 : Int) (x2 : Int) (f : Mm) : Option (Int × Mm) := FX11_drawn_0 x1 x2 f
set_option maxRecDepth 100000 in
theorem TX11_drawn {G : GT} {l : Launch} {Q : Option AV → Mem → Prop} (x1 : Int) (x2 : Int) (f : Mm) (h : OkI Q (FX11_drawn x1 x2 f)) : Ret G l MX11_drawn (5) 0 0 [vR 150, vI x1, vI x2] (SH, RF, f) Q := by
  refine ret_of (L := [some (vR 150), some (vI x1), some (vI x2), none, none]) (by decide) rfl (Nat.le_of_ble_eq_true rfl) ?_
  exact SX11_drawn_0 x1 x2 f h
theorem dX11_luck_73 : decode cX11_luck 73 = .ok (.iadd, 1) := by decide +kernel
theorem dX11_luck_74 : decode cX11_luck 74 = .ok (.istore 4, 2) := by decide +kernel
theorem dX11_luck_76 : decode cX11_luck 76 = .ok (.iinc 5 1, 3) := by decide +kernel
theorem dX11_luck_79 : decode cX11_luck 79 = .ok (.goto (-37), 3) := by decide +kernel
theorem dX11_luck_42 : decode cX11_luck 42 = .ok (.iload 5, 2) := by decide +kernel
theorem dX11_luck_44 : decode cX11_luck 44 = .ok (.iload_n 2, 1) := by decide +kernel
theorem dX11_luck_45 : decode cX11_luck 45 = .ok (.if_icmp .ge 37, 3) := by decide +kernel
theorem dX11_luck_82 : decode cX11_luck 82 = .ok (.iload 4, 2) := by decide +kernel
theorem dX11_luck_84 : decode cX11_luck 84 = .ok (.ireturn, 1) := by decide +kernel
theorem dX11_luck_48 : decode cX11_luck 48 = .ok (.aload_n 0, 1) := by decide +kernel
theorem dX11_luck_49 : decode cX11_luck 49 = .ok (.iload_n 1, 1) := by decide +kernel
theorem dX11_luck_50 : decode cX11_luck 50 = .ok (.i2l, 1) := by decide +kernel
theorem dX11_luck_51 : decode cX11_luck 51 = .ok (.iload 5, 2) := by decide +kernel
theorem dX11_luck_53 : decode cX11_luck 53 = .ok (.i2l, 1) := by decide +kernel
theorem dX11_luck_54 : decode cX11_luck 54 = .ok (.ladd, 1) := by decide +kernel
theorem dX11_luck_55 : decode cX11_luck 55 = .ok (.invokevirtual 496, 3) := by decide +kernel
theorem dX11_luck_58 : decode cX11_luck 58 = .ok (.iload 4, 2) := by decide +kernel
theorem dX11_luck_60 : decode cX11_luck 60 = .ok (.aload_n 0, 1) := by decide +kernel
theorem dX11_luck_61 : decode cX11_luck 61 = .ok (.iload_n 3, 1) := by decide +kernel
theorem dX11_luck_62 : decode cX11_luck 62 = .ok (.invokevirtual 310, 3) := by decide +kernel
theorem dX11_luck_65 : decode cX11_luck 65 = .ok (.ifCond .eq 7, 3) := by decide +kernel
theorem dX11_luck_72 : decode cX11_luck 72 = .ok (.iconst 0, 1) := by decide +kernel
theorem dX11_luck_68 : decode cX11_luck 68 = .ok (.iconst 1, 1) := by decide +kernel
theorem dX11_luck_69 : decode cX11_luck 69 = .ok (.goto 4, 3) := by decide +kernel
theorem dX11_luck_0 : decode cX11_luck 0 = .ok (.aload_n 0, 1) := by decide +kernel
theorem dX11_luck_1 : decode cX11_luck 1 = .ok (.iconst 0, 1) := by decide +kernel
theorem dX11_luck_2 : decode cX11_luck 2 = .ok (.putfield 98, 3) := by decide +kernel
theorem dX11_luck_5 : decode cX11_luck 5 = .ok (.aload_n 0, 1) := by decide +kernel
theorem dX11_luck_6 : decode cX11_luck 6 = .ok (.iload_n 1, 1) := by decide +kernel
theorem dX11_luck_7 : decode cX11_luck 7 = .ok (.invokevirtual 491, 3) := by decide +kernel
theorem dX11_luck_10 : decode cX11_luck 10 = .ok (.ifCond .eq 23, 3) := by decide +kernel
theorem dX11_luck_33 : decode cX11_luck 33 = .ok (.bipush (-2), 2) := by decide +kernel
theorem dX11_luck_35 : decode cX11_luck 35 = .ok (.ireturn, 1) := by decide +kernel
theorem dX11_luck_13 : decode cX11_luck 13 = .ok (.iload_n 2, 1) := by decide +kernel
theorem dX11_luck_14 : decode cX11_luck 14 = .ok (.i2l, 1) := by decide +kernel
theorem dX11_luck_15 : decode cX11_luck 15 = .ok (.lconst 1, 1) := by decide +kernel
theorem dX11_luck_16 : decode cX11_luck 16 = .ok (.ldc2_w 499, 3) := by decide +kernel
theorem dX11_luck_19 : decode cX11_luck 19 = .ok (.invokestatic 103, 3) := by decide +kernel
theorem dX11_luck_22 : decode cX11_luck 22 = .ok (.ifCond .eq 11, 3) := by decide +kernel
theorem dX11_luck_25 : decode cX11_luck 25 = .ok (.aload_n 0, 1) := by decide +kernel
theorem dX11_luck_26 : decode cX11_luck 26 = .ok (.iload_n 3, 1) := by decide +kernel
theorem dX11_luck_27 : decode cX11_luck 27 = .ok (.invokevirtual 316, 3) := by decide +kernel
theorem dX11_luck_30 : decode cX11_luck 30 = .ok (.ifCond .ne 6, 3) := by decide +kernel
theorem dX11_luck_36 : decode cX11_luck 36 = .ok (.iconst 0, 1) := by decide +kernel
theorem dX11_luck_37 : decode cX11_luck 37 = .ok (.istore 4, 2) := by decide +kernel
theorem dX11_luck_39 : decode cX11_luck 39 = .ok (.iconst 0, 1) := by decide +kernel
theorem dX11_luck_40 : decode cX11_luck 40 = .ok (.istore 5, 2) := by decide +kernel
def FX11_luck_73 (k42 : Int → Int → Int → Int → Int → Mm → Option (Int × Mm)) (x1 : Int) (x2 : Int) (x3 : Int) (x5 : Int) (s0 : Int) (s1 : Int) (f : Mm) : Option (Int × Mm) := k42 x1 x2 x3 (w32 (s0 + s1)) (w32 (x5 + 1)) f
set_option maxHeartbeats 4000000 in
set_option maxRecDepth 100000 in
theorem SX11_luck_73 {G : GT} {l : Launch} {Q : Option AV → Mem → Prop} {k42 : Int → Int → Int → Int → Int → Mm → Option (Int × Mm)} (q42 : ∀ (x1 : Int) (x2 : Int) (x3 : Int) (x4 : Int) (x5 : Int) (f : Mm), OkI Q (k42 x1 x2 x3 x4 x5 f) → Ev G l MX11_luck (Rm 5 0 0) (ZM G Q 0 0) 0 0 42 [some (vR 150), some (vI x1), some (vI x2), some (vI x3), some (vI x4), some (vI x5)] [] (SH, RF, f)) (x1 : Int) (x2 : Int) (x3 : Int) (x5 : Int) (s0 : Int) (s1 : Int) (f : Mm) (h : OkI Q (FX11_luck_73 k42 x1 x2 x3 x5 s0 s1 f)) : Ev G l MX11_luck (Rm 5 0 0) (ZM G Q 0 0) 0 0 73 [some (vR 150), some (vI x1), some (vI x2), some (vI x3), none, some (vI x5)] [vI s1, vI s0] (SH, RF, f) := by
  unfold FX11_luck_73 at h
  refine ev_iadd dX11_luck_73 ?_
  refine ev_istore (L' := [some (vR 150), some (vI x1), some (vI x2), some (vI x3), some (vI (w32 (s0 + s1))), some (vI x5)]) dX11_luck_74 (by decide) rfl ?_
  refine ev_iinc (L' := [some (vR 150), some (vI x1), some (vI x2), some (vI x3), some (vI (w32 (s0 + s1))), some (vI (w32 (x5 + 1)))]) dX11_luck_76 rfl (by decide) rfl ?_
  refine ev_goto (tgt := 42) dX11_luck_79 (by decide) ?_
  exact q42 x1 x2 x3 (w32 (s0 + s1)) (w32 (x5 + 1)) _ h
def FX11_luck_42  : Nat → Int → Int → Int → Int → Int → Mm → Option (Int × Mm)
  | 0, _, _, _, _, _, _ => none
  | n + 1, x1, x2, x3, x4, x5, f => (if x2 ≤ x5 then some (x4, f) else ((FX11_laysDrawn (w64 (x1 + x5)) f).bind fun f1 => (b2 (FX11_isInTime x3 f1) fun y2 f2 => (if y2 = 0 then FX11_luck_73 (FX11_luck_42 n) x1 x2 x3 x5 x4 0 f2 else FX11_luck_73 (FX11_luck_42 n) x1 x2 x3 x5 x4 1 f2))))
set_option maxHeartbeats 4000000 in
set_option maxRecDepth 100000 in
theorem SX11_luck_42 {G : GT} {l : Launch} {Q : Option AV → Mem → Prop}  : ∀ (n : Nat) (x1 : Int) (x2 : Int) (x3 : Int) (x4 : Int) (x5 : Int) (f : Mm), OkI Q (FX11_luck_42  n x1 x2 x3 x4 x5 f) → Ev G l MX11_luck (Rm 5 0 0) (ZM G Q 0 0) 0 0 42 [some (vR 150), some (vI x1), some (vI x2), some (vI x3), some (vI x4), some (vI x5)] [] (SH, RF, f) := by
  intro n
  induction n with
  | zero => intro x1 x2 x3 x4 x5 f h; exact absurd h (by rw [FX11_luck_42]; exact fun q => q)
  | succ n ih =>
    intro x1 x2 x3 x4 x5 f h
    rw [FX11_luck_42] at h
    refine ev_iload dX11_luck_42 rfl ?_
    refine ev_iload_n (i := 2) dX11_luck_44 rfl rfl ?_
    refine ev_icmp_ge (tgt := 82) dX11_luck_45 (by decide) (fun c4 => ?_) (fun c4 => ?_)
    · rw [if_pos c4] at h
      refine ev_iload dX11_luck_82 rfl ?_
      exact ev_iret rfl dX11_luck_84 h
    · rw [if_neg c4] at h
      refine ev_aload_n (i := 0) dX11_luck_48 rfl rfl ?_
      refine ev_iload_n (i := 1) dX11_luck_49 rfl rfl ?_
      refine ev_i2l dX11_luck_50 ?_
      refine ev_iload dX11_luck_51 rfl ?_
      refine ev_i2l dX11_luck_53 ?_
      refine ev_ladd dX11_luck_54 ?_
      refine ev_cVV (b := 150) (av := [vJ (w64 (x1 + x5))]) (S := []) (fun q => q) h dX11_luck_55 (fun Q' q => TX11_laysDrawn (w64 (x1 + x5)) _ q) kvX11_laysDrawn ml_X11_496 sh_150 rfl (RRc (by decide) (by decide)) (Nat.le_of_ble_eq_true rfl) ⟨Nat.le_of_ble_eq_true rfl, Nat.le_of_ble_eq_true rfl⟩ (fun f1 h => ?_)
      refine ev_iload dX11_luck_58 rfl ?_
      refine ev_aload_n (i := 0) dX11_luck_60 rfl rfl ?_
      refine ev_iload_n (i := 3) dX11_luck_61 rfl rfl ?_
      refine ev_cVI (b := 150) (av := [vI x3]) (S := [vI x4]) (fun q => q) h dX11_luck_62 (fun Q' q => TX11_isInTime x3 _ q) kvX11_isInTime ml_X11_310 sh_150 rfl (RRc (by decide) (by decide)) (Nat.le_of_ble_eq_true rfl) ⟨Nat.le_of_ble_eq_true rfl, Nat.le_of_ble_eq_true rfl⟩ (fun y2 f2 h => ?_)
      refine ev_if_eq (tgt := 72) dX11_luck_65 (by decide) (fun c3 => ?_) (fun c3 => ?_)
      · rw [if_pos c3] at h
        refine ev_iconst dX11_luck_72 (r32c rfl) ?_
        refine ev_fg [true, true, true, true, false, true] rfl ?_
        exact SX11_luck_73 ih x1 x2 x3 x5 x4 0 _ h
      · rw [if_neg c3] at h
        refine ev_iconst dX11_luck_68 (r32c rfl) ?_
        refine ev_goto (tgt := 73) dX11_luck_69 (by decide) ?_
        refine ev_fg [true, true, true, true, false, true] rfl ?_
        exact SX11_luck_73 ih x1 x2 x3 x5 x4 1 _ h
def FX11_luck_0  (x1 : Int) (x2 : Int) (x3 : Int) (f : Mm) : Option (Int × Mm) := (b2 (FX11_isSeed x1 (up f 150 0 0)) fun y1 f1 => (if y1 = 0 then some ((-2), f1) else (b2 (FX11_in x2 1 20 f1) fun y2 f2 => (if y2 = 0 then some ((-2), f2) else (b2 (FX11_isCart x3 f2) fun y3 f3 => (if y3 = 0 then some ((-2), f3) else FX11_luck_42 fu x1 x2 x3 0 0 f3))))))
set_option maxHeartbeats 4000000 in
set_option maxRecDepth 100000 in
theorem SX11_luck_0 {G : GT} {l : Launch} {Q : Option AV → Mem → Prop}  (x1 : Int) (x2 : Int) (x3 : Int) (f : Mm) (h : OkI Q (FX11_luck_0  x1 x2 x3 f)) : Ev G l MX11_luck (Rm 5 0 0) (ZM G Q 0 0) 0 0 0 [some (vR 150), some (vI x1), some (vI x2), some (vI x3), none, none] [] (SH, RF, f) := by
  unfold FX11_luck_0 at h
  refine ev_aload_n (i := 0) dX11_luck_0 rfl rfl ?_
  refine ev_iconst dX11_luck_1 (r32c rfl) ?_
  refine ev_putI dX11_luck_2 fl_X11_98 sh_150 (by decide) (by decide) ?_
  refine ev_aload_n (i := 0) dX11_luck_5 rfl rfl ?_
  refine ev_iload_n (i := 1) dX11_luck_6 rfl rfl ?_
  refine ev_cVI (b := 150) (av := [vI x1]) (S := []) (fun q => q) h dX11_luck_7 (fun Q' q => TX11_isSeed x1 _ q) kvX11_isSeed ml_X11_491 sh_150 rfl (RRc (by decide) (by decide)) (Nat.le_of_ble_eq_true rfl) ⟨Nat.le_of_ble_eq_true rfl, Nat.le_of_ble_eq_true rfl⟩ (fun y1 f1 h => ?_)
  refine ev_if_eq (tgt := 33) dX11_luck_10 (by decide) (fun c6 => ?_) (fun c6 => ?_)
  · rw [if_pos c6] at h
    refine ev_bipush (v := (-2)) dX11_luck_33 (r32c rfl) (by decide) ?_
    exact ev_iret rfl dX11_luck_35 h
  · rw [if_neg c6] at h
    refine ev_iload_n (i := 2) dX11_luck_13 rfl rfl ?_
    refine ev_i2l dX11_luck_14 ?_
    refine ev_lconst (v := 1) dX11_luck_15 (r64c rfl) (by decide) ?_
    refine ev_ldc2 (v := 20) dX11_luck_16 (r64c rfl) kc_X11_499 ?_
    refine ev_cSI (av := [vJ x2, vJ 1, vJ 20]) (S := []) (fun q => q) h dX11_luck_19 (fun Q' q => TX11_in x2 1 20 _ q) ksX11_in ml_X11_103 rfl (RRc (by decide) (by decide)) (Nat.le_of_ble_eq_true rfl) ⟨Nat.le_of_ble_eq_true rfl, Nat.le_of_ble_eq_true rfl⟩ (fun y2 f2 h => ?_)
    refine ev_if_eq (tgt := 33) dX11_luck_22 (by decide) (fun c5 => ?_) (fun c5 => ?_)
    · rw [if_pos c5] at h
      refine ev_bipush (v := (-2)) dX11_luck_33 (r32c rfl) (by decide) ?_
      exact ev_iret rfl dX11_luck_35 h
    · rw [if_neg c5] at h
      refine ev_aload_n (i := 0) dX11_luck_25 rfl rfl ?_
      refine ev_iload_n (i := 3) dX11_luck_26 rfl rfl ?_
      refine ev_cVI (b := 150) (av := [vI x3]) (S := []) (fun q => q) h dX11_luck_27 (fun Q' q => TX11_isCart x3 _ q) kvX11_isCart ml_X11_316 sh_150 rfl (RRc (by decide) (by decide)) (Nat.le_of_ble_eq_true rfl) ⟨Nat.le_of_ble_eq_true rfl, Nat.le_of_ble_eq_true rfl⟩ (fun y3 f3 h => ?_)
      refine ev_if_ne (tgt := 36) dX11_luck_30 (by decide) (fun c4 => ?_) (fun c4 => ?_)
      · rw [if_neg c4] at h
        refine ev_iconst dX11_luck_36 (r32c rfl) ?_
        refine ev_istore (L' := [some (vR 150), some (vI x1), some (vI x2), some (vI x3), some (vI 0), none]) dX11_luck_37 (by decide) rfl ?_
        refine ev_iconst dX11_luck_39 (r32c rfl) ?_
        refine ev_istore (L' := [some (vR 150), some (vI x1), some (vI x2), some (vI x3), some (vI 0), some (vI 0)]) dX11_luck_40 (by decide) rfl ?_
        exact SX11_luck_42  fu x1 x2 x3 0 0 _ h
      · rw [if_pos c4] at h
        refine ev_bipush (v := (-2)) dX11_luck_33 (r32c rfl) (by decide) ?_
        exact ev_iret rfl dX11_luck_35 h
def FX11_luck (x1 : Int) (x2 : Int) (x3 : Int) (f : Mm) : Option (Int × Mm) := FX11_luck_0 x1 x2 x3 f
set_option maxRecDepth 100000 in
theorem TX11_luck {G : GT} {l : Launch} {Q : Option AV → Mem → Prop} (x1 : Int) (x2 : Int) (x3 : Int) (f : Mm) (h : OkI Q (FX11_luck x1 x2 x3 f)) : Ret G l MX11_luck (5) 0 0 [vR 150, vI x1, vI x2, vI x3] (SH, RF, f) Q := by
  refine ret_of (L := [some (vR 150), some (vI x1), some (vI x2), some (vI x3), none, none]) (by decide) rfl (Nat.le_of_ble_eq_true rfl) ?_
  exact SX11_luck_0 x1 x2 x3 f h
theorem dX11_does_30 : decode cX11_does 30 = .ok (.aload_n 0, 1) := by decide +kernel
theorem dX11_does_31 : decode cX11_does 31 = .ok (.getfield 34, 3) := by decide +kernel
theorem dX11_does_34 : decode cX11_does 34 = .ok (.bipush 7, 2) := by decide +kernel
theorem dX11_does_36 : decode cX11_does 36 = .ok (.iaload, 1) := by decide +kernel
theorem dX11_does_37 : decode cX11_does 37 = .ok (.bipush 40, 2) := by decide +kernel
theorem dX11_does_39 : decode cX11_does 39 = .ok (.if_icmp .ne 6, 3) := by decide +kernel
theorem dX11_does_45 : decode cX11_does 45 = .ok (.aload_n 0, 1) := by decide +kernel
theorem dX11_does_46 : decode cX11_does 46 = .ok (.invokevirtual 296, 3) := by decide +kernel
theorem dX11_does_49 : decode cX11_does 49 = .ok (.aload_n 0, 1) := by decide +kernel
theorem dX11_does_50 : decode cX11_does 50 = .ok (.getfield 43, 3) := by decide +kernel
theorem dX11_does_53 : decode cX11_does 53 = .ok (.iconst 2, 1) := by decide +kernel
theorem dX11_does_54 : decode cX11_does 54 = .ok (.aload_n 0, 1) := by decide +kernel
theorem dX11_does_55 : decode cX11_does 55 = .ok (.getfield 34, 3) := by decide +kernel
theorem dX11_does_58 : decode cX11_does 58 = .ok (.bipush 7, 2) := by decide +kernel
theorem dX11_does_60 : decode cX11_does 60 = .ok (.iaload, 1) := by decide +kernel
theorem dX11_does_61 : decode cX11_does 61 = .ok (.imul, 1) := by decide +kernel
theorem dX11_does_62 : decode cX11_does 62 = .ok (.iload_n 1, 1) := by decide +kernel
theorem dX11_does_63 : decode cX11_does 63 = .ok (.iastore, 1) := by decide +kernel
theorem dX11_does_64 : decode cX11_does 64 = .ok (.aload_n 0, 1) := by decide +kernel
theorem dX11_does_65 : decode cX11_does 65 = .ok (.getfield 43, 3) := by decide +kernel
theorem dX11_does_68 : decode cX11_does 68 = .ok (.iconst 2, 1) := by decide +kernel
theorem dX11_does_69 : decode cX11_does 69 = .ok (.aload_n 0, 1) := by decide +kernel
theorem dX11_does_70 : decode cX11_does 70 = .ok (.getfield 34, 3) := by decide +kernel
theorem dX11_does_73 : decode cX11_does 73 = .ok (.bipush 7, 2) := by decide +kernel
theorem dX11_does_75 : decode cX11_does 75 = .ok (.iaload, 1) := by decide +kernel
theorem dX11_does_76 : decode cX11_does 76 = .ok (.imul, 1) := by decide +kernel
theorem dX11_does_77 : decode cX11_does 77 = .ok (.iconst 1, 1) := by decide +kernel
theorem dX11_does_78 : decode cX11_does 78 = .ok (.iadd, 1) := by decide +kernel
theorem dX11_does_79 : decode cX11_does 79 = .ok (.iload_n 2, 1) := by decide +kernel
theorem dX11_does_80 : decode cX11_does 80 = .ok (.iastore, 1) := by decide +kernel
theorem dX11_does_81 : decode cX11_does 81 = .ok (.aload_n 0, 1) := by decide +kernel
theorem dX11_does_82 : decode cX11_does 82 = .ok (.getfield 34, 3) := by decide +kernel
theorem dX11_does_85 : decode cX11_does 85 = .ok (.bipush 7, 2) := by decide +kernel
theorem dX11_does_87 : decode cX11_does 87 = .ok (.dup2, 1) := by decide +kernel
theorem dX11_does_88 : decode cX11_does 88 = .ok (.iaload, 1) := by decide +kernel
theorem dX11_does_89 : decode cX11_does 89 = .ok (.iconst 1, 1) := by decide +kernel
theorem dX11_does_90 : decode cX11_does 90 = .ok (.iadd, 1) := by decide +kernel
theorem dX11_does_91 : decode cX11_does 91 = .ok (.iastore, 1) := by decide +kernel
theorem dX11_does_92 : decode cX11_does 92 = .ok (.aload_n 0, 1) := by decide +kernel
theorem dX11_does_93 : decode cX11_does 93 = .ok (.getfield 50, 3) := by decide +kernel
theorem dX11_does_96 : decode cX11_does 96 = .ok (.iload_n 1, 1) := by decide +kernel
theorem dX11_does_97 : decode cX11_does 97 = .ok (.iaload, 1) := by decide +kernel
theorem dX11_does_98 : decode cX11_does 98 = .ok (.ireturn, 1) := by decide +kernel
theorem dX11_does_42 : decode cX11_does 42 = .ok (.bipush (-5), 2) := by decide +kernel
theorem dX11_does_44 : decode cX11_does 44 = .ok (.ireturn, 1) := by decide +kernel
theorem dX11_does_0 : decode cX11_does 0 = .ok (.aload_n 0, 1) := by decide +kernel
theorem dX11_does_1 : decode cX11_does 1 = .ok (.iconst 0, 1) := by decide +kernel
theorem dX11_does_2 : decode cX11_does 2 = .ok (.putfield 98, 3) := by decide +kernel
theorem dX11_does_5 : decode cX11_does 5 = .ok (.aload_n 0, 1) := by decide +kernel
theorem dX11_does_6 : decode cX11_does 6 = .ok (.iload_n 1, 1) := by decide +kernel
theorem dX11_does_7 : decode cX11_does 7 = .ok (.i2l, 1) := by decide +kernel
theorem dX11_does_8 : decode cX11_does 8 = .ok (.invokevirtual 324, 3) := by decide +kernel
theorem dX11_does_11 : decode cX11_does 11 = .ok (.ifCond .eq 16, 3) := by decide +kernel
theorem dX11_does_27 : decode cX11_does 27 = .ok (.bipush (-2), 2) := by decide +kernel
theorem dX11_does_29 : decode cX11_does 29 = .ok (.ireturn, 1) := by decide +kernel
theorem dX11_does_14 : decode cX11_does 14 = .ok (.iload_n 2, 1) := by decide +kernel
theorem dX11_does_15 : decode cX11_does 15 = .ok (.iconst (-1), 1) := by decide +kernel
theorem dX11_does_16 : decode cX11_does 16 = .ok (.if_icmp .eq 14, 3) := by decide +kernel
theorem dX11_does_19 : decode cX11_does 19 = .ok (.aload_n 0, 1) := by decide +kernel
theorem dX11_does_20 : decode cX11_does 20 = .ok (.iload_n 2, 1) := by decide +kernel
theorem dX11_does_21 : decode cX11_does 21 = .ok (.invokevirtual 313, 3) := by decide +kernel
theorem dX11_does_24 : decode cX11_does 24 = .ok (.ifCond .ne 6, 3) := by decide +kernel
def FX11_does_30  (x1 : Int) (x2 : Int) (f : Mm) : Option (Int × Mm) := (if (f 157 7) = 40 then some ((-5), f) else ((FX11_lays f).bind fun f1 => (if 0 ≤ (w32 (2 * (f1 157 7))) ∧ (w32 (2 * (f1 157 7))) < 400 then (if 0 ≤ (w32 ((w32 (2 * (f1 157 7))) + 1)) ∧ (w32 ((w32 (2 * (f1 157 7))) + 1)) < 400 then (if 0 ≤ x1 ∧ x1 < 6 then some ((f1 162 x1.toNat), (up (up (up f1 160 (w32 (2 * (f1 157 7))).toNat x1) 160 (w32 ((w32 (2 * (f1 157 7))) + 1)).toNat x2) 157 7 (w32 ((f1 157 7) + 1)))) else none) else none) else none)))
set_option maxHeartbeats 4000000 in
set_option maxRecDepth 100000 in
theorem SX11_does_30 {G : GT} {l : Launch} {Q : Option AV → Mem → Prop}  (x1 : Int) (x2 : Int) (f : Mm) (h : OkI Q (FX11_does_30  x1 x2 f)) : Ev G l MX11_does (Rm 3 0 0) (ZM G Q 0 0) 0 0 30 [some (vR 150), some (vI x1), some (vI x2)] [] (SH, RF, f) := by
  unfold FX11_does_30 at h
  refine ev_aload_n (i := 0) dX11_does_30 rfl rfl ?_
  refine ev_getR dX11_does_31 fl_X11_34 sh_150 (by decide) (by decide) rf_150_17 ?_
  refine ev_bipush (v := 7) dX11_does_34 (r32c rfl) (by decide) ?_
  refine ex_iald (x := (f 157 7)) dX11_does_36 sh_157 (by decide) (by decide) rfl ?_
  refine ev_bipush (v := 40) dX11_does_37 (r32c rfl) (by decide) ?_
  refine ev_icmp_ne (tgt := 45) dX11_does_39 (by decide) (fun c5 => ?_) (fun c5 => ?_)
  · rw [if_neg c5] at h
    refine ev_aload_n (i := 0) dX11_does_45 rfl rfl ?_
    refine ev_cVV (b := 150) (av := []) (S := []) (fun q => q) h dX11_does_46 (fun Q' q => TX11_lays _ q) kvX11_lays ml_X11_296 sh_150 rfl (RRc (by decide) (by decide)) (Nat.le_of_ble_eq_true rfl) ⟨Nat.le_of_ble_eq_true rfl, Nat.le_of_ble_eq_true rfl⟩ (fun f1 h => ?_)
    refine ev_aload_n (i := 0) dX11_does_49 rfl rfl ?_
    refine ev_getR dX11_does_50 fl_X11_43 sh_150 (by decide) (by decide) rf_150_20 ?_
    refine ev_iconst dX11_does_53 (r32c rfl) ?_
    refine ev_aload_n (i := 0) dX11_does_54 rfl rfl ?_
    refine ev_getR dX11_does_55 fl_X11_34 sh_150 (by decide) (by decide) rf_150_17 ?_
    refine ev_bipush (v := 7) dX11_does_58 (r32c rfl) (by decide) ?_
    refine ex_iald (x := (f1 157 7)) dX11_does_60 sh_157 (by decide) (by decide) rfl ?_
    refine ev_imul dX11_does_61 ?_
    refine ev_iload_n (i := 1) dX11_does_62 rfl rfl ?_
    by_cases g2 : 0 ≤ (w32 (2 * (f1 157 7))) ∧ (w32 (2 * (f1 157 7))) < 400
    · rw [if_pos g2] at h
      refine ex_iast (j := (w32 (2 * (f1 157 7))).toNat) dX11_does_63 sh_160 g2.1 g2.2 rfl ?_
      refine ev_aload_n (i := 0) dX11_does_64 rfl rfl ?_
      refine ev_getR dX11_does_65 fl_X11_43 sh_150 (by decide) (by decide) rf_150_20 ?_
      refine ev_iconst dX11_does_68 (r32c rfl) ?_
      refine ev_aload_n (i := 0) dX11_does_69 rfl rfl ?_
      refine ev_getR dX11_does_70 fl_X11_34 sh_150 (by decide) (by decide) rf_150_17 ?_
      refine ev_bipush (v := 7) dX11_does_73 (r32c rfl) (by decide) ?_
      refine ex_iald (x := (f1 157 7)) dX11_does_75 sh_157 (by decide) (by decide) rfl ?_
      refine ev_imul dX11_does_76 ?_
      refine ev_iconst dX11_does_77 (r32c rfl) ?_
      refine ev_iadd dX11_does_78 ?_
      refine ev_iload_n (i := 2) dX11_does_79 rfl rfl ?_
      by_cases g3 : 0 ≤ (w32 ((w32 (2 * (f1 157 7))) + 1)) ∧ (w32 ((w32 (2 * (f1 157 7))) + 1)) < 400
      · rw [if_pos g3] at h
        refine ex_iast (j := (w32 ((w32 (2 * (f1 157 7))) + 1)).toNat) dX11_does_80 sh_160 g3.1 g3.2 rfl ?_
        refine ev_aload_n (i := 0) dX11_does_81 rfl rfl ?_
        refine ev_getR dX11_does_82 fl_X11_34 sh_150 (by decide) (by decide) rf_150_17 ?_
        refine ev_bipush (v := 7) dX11_does_85 (r32c rfl) (by decide) ?_
        refine ev_dup2IR dX11_does_87 ?_
        refine ex_iald (x := (f1 157 7)) dX11_does_88 sh_157 (by decide) (by decide) rfl ?_
        refine ev_iconst dX11_does_89 (r32c rfl) ?_
        refine ev_iadd dX11_does_90 ?_
        refine ex_iast (j := 7) dX11_does_91 sh_157 (by decide) (by decide) rfl ?_
        refine ev_aload_n (i := 0) dX11_does_92 rfl rfl ?_
        refine ev_getR dX11_does_93 fl_X11_50 sh_150 (by decide) (by decide) rf_150_22 ?_
        refine ev_iload_n (i := 1) dX11_does_96 rfl rfl ?_
        by_cases g4 : 0 ≤ x1 ∧ x1 < 6
        · rw [if_pos g4] at h
          refine ex_iald (x := (f1 162 x1.toNat)) dX11_does_97 sh_162 g4.1 g4.2 rfl ?_
          exact ev_iret rfl dX11_does_98 h
        · rw [if_neg g4] at h; exact h.elim
      · rw [if_neg g3] at h; exact h.elim
    · rw [if_neg g2] at h; exact h.elim
  · rw [if_pos c5] at h
    refine ev_bipush (v := (-5)) dX11_does_42 (r32c rfl) (by decide) ?_
    exact ev_iret rfl dX11_does_44 h
def FX11_does_0  (x1 : Int) (x2 : Int) (f : Mm) : Option (Int × Mm) := (b2 (FX11_isDay x1 (up f 150 0 0)) fun y1 f1 => (if y1 = 0 then some ((-2), f1) else (if x2 = (-1) then FX11_does_30 x1 x2 f1 else (b2 (FX11_isDeed x2 f1) fun y2 f2 => (if y2 = 0 then some ((-2), f2) else FX11_does_30 x1 x2 f2)))))
set_option maxHeartbeats 4000000 in
set_option maxRecDepth 100000 in
theorem SX11_does_0 {G : GT} {l : Launch} {Q : Option AV → Mem → Prop}  (x1 : Int) (x2 : Int) (f : Mm) (h : OkI Q (FX11_does_0  x1 x2 f)) : Ev G l MX11_does (Rm 3 0 0) (ZM G Q 0 0) 0 0 0 [some (vR 150), some (vI x1), some (vI x2)] [] (SH, RF, f) := by
  unfold FX11_does_0 at h
  refine ev_aload_n (i := 0) dX11_does_0 rfl rfl ?_
  refine ev_iconst dX11_does_1 (r32c rfl) ?_
  refine ev_putI dX11_does_2 fl_X11_98 sh_150 (by decide) (by decide) ?_
  refine ev_aload_n (i := 0) dX11_does_5 rfl rfl ?_
  refine ev_iload_n (i := 1) dX11_does_6 rfl rfl ?_
  refine ev_i2l dX11_does_7 ?_
  refine ev_cVI (b := 150) (av := [vJ x1]) (S := []) (fun q => q) h dX11_does_8 (fun Q' q => TX11_isDay x1 _ q) kvX11_isDay ml_X11_324 sh_150 rfl (RRc (by decide) (by decide)) (Nat.le_of_ble_eq_true rfl) ⟨Nat.le_of_ble_eq_true rfl, Nat.le_of_ble_eq_true rfl⟩ (fun y1 f1 h => ?_)
  refine ev_if_eq (tgt := 27) dX11_does_11 (by decide) (fun c5 => ?_) (fun c5 => ?_)
  · rw [if_pos c5] at h
    refine ev_bipush (v := (-2)) dX11_does_27 (r32c rfl) (by decide) ?_
    exact ev_iret rfl dX11_does_29 h
  · rw [if_neg c5] at h
    refine ev_iload_n (i := 2) dX11_does_14 rfl rfl ?_
    refine ev_iconst dX11_does_15 (r32c rfl) ?_
    refine ev_icmp_eq (tgt := 30) dX11_does_16 (by decide) (fun c4 => ?_) (fun c4 => ?_)
    · rw [if_pos c4] at h
      exact SX11_does_30  x1 x2 _ h
    · rw [if_neg c4] at h
      refine ev_aload_n (i := 0) dX11_does_19 rfl rfl ?_
      refine ev_iload_n (i := 2) dX11_does_20 rfl rfl ?_
      refine ev_cVI (b := 150) (av := [vI x2]) (S := []) (fun q => q) h dX11_does_21 (fun Q' q => TX11_isDeed x2 _ q) kvX11_isDeed ml_X11_313 sh_150 rfl (RRc (by decide) (by decide)) (Nat.le_of_ble_eq_true rfl) ⟨Nat.le_of_ble_eq_true rfl, Nat.le_of_ble_eq_true rfl⟩ (fun y2 f2 h => ?_)
      refine ev_if_ne (tgt := 30) dX11_does_24 (by decide) (fun c3 => ?_) (fun c3 => ?_)
      · rw [if_neg c3] at h
        exact SX11_does_30  x1 x2 _ h
      · rw [if_pos c3] at h
        refine ev_bipush (v := (-2)) dX11_does_27 (r32c rfl) (by decide) ?_
        exact ev_iret rfl dX11_does_29 h
def FX11_does (x1 : Int) (x2 : Int) (f : Mm) : Option (Int × Mm) := FX11_does_0 x1 x2 f
set_option maxRecDepth 100000 in
theorem TX11_does {G : GT} {l : Launch} {Q : Option AV → Mem → Prop} (x1 : Int) (x2 : Int) (f : Mm) (h : OkI Q (FX11_does x1 x2 f)) : Ret G l MX11_does (3) 0 0 [vR 150, vI x1, vI x2] (SH, RF, f) Q := by
  refine ret_of (L := [some (vR 150), some (vI x1), some (vI x2)]) (by decide) rfl (Nat.le_of_ble_eq_true rfl) ?_
  exact SX11_does_0 x1 x2 f h
theorem dX11_undo_0 : decode cX11_undo 0 = .ok (.aload_n 0, 1) := by decide +kernel
theorem dX11_undo_1 : decode cX11_undo 1 = .ok (.iconst 0, 1) := by decide +kernel
theorem dX11_undo_2 : decode cX11_undo 2 = .ok (.putfield 98, 3) := by decide +kernel
theorem dX11_undo_5 : decode cX11_undo 5 = .ok (.aload_n 0, 1) := by decide +kernel
theorem dX11_undo_6 : decode cX11_undo 6 = .ok (.invokevirtual 272, 3) := by decide +kernel
theorem dX11_undo_9 : decode cX11_undo 9 = .ok (.ifCond .ne 6, 3) := by decide +kernel
theorem dX11_undo_15 : decode cX11_undo 15 = .ok (.aload_n 0, 1) := by decide +kernel
theorem dX11_undo_16 : decode cX11_undo 16 = .ok (.getfield 34, 3) := by decide +kernel
theorem dX11_undo_19 : decode cX11_undo 19 = .ok (.bipush 7, 2) := by decide +kernel
theorem dX11_undo_21 : decode cX11_undo 21 = .ok (.iaload, 1) := by decide +kernel
theorem dX11_undo_22 : decode cX11_undo 22 = .ok (.ifCond .ne 6, 3) := by decide +kernel
theorem dX11_undo_28 : decode cX11_undo 28 = .ok (.aload_n 0, 1) := by decide +kernel
theorem dX11_undo_29 : decode cX11_undo 29 = .ok (.getfield 34, 3) := by decide +kernel
theorem dX11_undo_32 : decode cX11_undo 32 = .ok (.bipush 7, 2) := by decide +kernel
theorem dX11_undo_34 : decode cX11_undo 34 = .ok (.dup2, 1) := by decide +kernel
theorem dX11_undo_35 : decode cX11_undo 35 = .ok (.iaload, 1) := by decide +kernel
theorem dX11_undo_36 : decode cX11_undo 36 = .ok (.iconst 1, 1) := by decide +kernel
theorem dX11_undo_37 : decode cX11_undo 37 = .ok (.isub, 1) := by decide +kernel
theorem dX11_undo_38 : decode cX11_undo 38 = .ok (.iastore, 1) := by decide +kernel
theorem dX11_undo_39 : decode cX11_undo 39 = .ok (.aload_n 0, 1) := by decide +kernel
theorem dX11_undo_40 : decode cX11_undo 40 = .ok (.getfield 34, 3) := by decide +kernel
theorem dX11_undo_43 : decode cX11_undo 43 = .ok (.bipush 7, 2) := by decide +kernel
theorem dX11_undo_45 : decode cX11_undo 45 = .ok (.iaload, 1) := by decide +kernel
theorem dX11_undo_46 : decode cX11_undo 46 = .ok (.ireturn, 1) := by decide +kernel
theorem dX11_undo_25 : decode cX11_undo 25 = .ok (.bipush (-5), 2) := by decide +kernel
theorem dX11_undo_27 : decode cX11_undo 27 = .ok (.ireturn, 1) := by decide +kernel
theorem dX11_undo_12 : decode cX11_undo 12 = .ok (.bipush (-2), 2) := by decide +kernel
theorem dX11_undo_14 : decode cX11_undo 14 = .ok (.ireturn, 1) := by decide +kernel
def FX11_undo_0   (f : Mm) : Option (Int × Mm) := (b2 (FX11_isBridge (up f 150 0 0)) fun y1 f1 => (if y1 = 0 then some ((-2), f1) else (if (f1 157 7) = 0 then some ((-5), f1) else some ((w32 ((f1 157 7) - 1)), (up f1 157 7 (w32 ((f1 157 7) - 1)))))))
set_option maxHeartbeats 4000000 in
set_option maxRecDepth 100000 in
theorem SX11_undo_0 {G : GT} {l : Launch} {Q : Option AV → Mem → Prop}   (f : Mm) (h : OkI Q (FX11_undo_0   f)) : Ev G l MX11_undo (Rm 2 0 0) (ZM G Q 0 0) 0 0 0 [some (vR 150)] [] (SH, RF, f) := by
  unfold FX11_undo_0 at h
  refine ev_aload_n (i := 0) dX11_undo_0 rfl rfl ?_
  refine ev_iconst dX11_undo_1 (r32c rfl) ?_
  refine ev_putI dX11_undo_2 fl_X11_98 sh_150 (by decide) (by decide) ?_
  refine ev_aload_n (i := 0) dX11_undo_5 rfl rfl ?_
  refine ev_cVI (b := 150) (av := []) (S := []) (fun q => q) h dX11_undo_6 (fun Q' q => TX11_isBridge _ q) kvX11_isBridge ml_X11_272 sh_150 rfl (RRc (by decide) (by decide)) (Nat.le_of_ble_eq_true rfl) ⟨Nat.le_of_ble_eq_true rfl, Nat.le_of_ble_eq_true rfl⟩ (fun y1 f1 h => ?_)
  refine ev_if_ne (tgt := 15) dX11_undo_9 (by decide) (fun c3 => ?_) (fun c3 => ?_)
  · rw [if_neg c3] at h
    refine ev_aload_n (i := 0) dX11_undo_15 rfl rfl ?_
    refine ev_getR dX11_undo_16 fl_X11_34 sh_150 (by decide) (by decide) rf_150_17 ?_
    refine ev_bipush (v := 7) dX11_undo_19 (r32c rfl) (by decide) ?_
    refine ex_iald (x := (f1 157 7)) dX11_undo_21 sh_157 (by decide) (by decide) rfl ?_
    refine ev_if_ne (tgt := 28) dX11_undo_22 (by decide) (fun c2 => ?_) (fun c2 => ?_)
    · rw [if_neg c2] at h
      refine ev_aload_n (i := 0) dX11_undo_28 rfl rfl ?_
      refine ev_getR dX11_undo_29 fl_X11_34 sh_150 (by decide) (by decide) rf_150_17 ?_
      refine ev_bipush (v := 7) dX11_undo_32 (r32c rfl) (by decide) ?_
      refine ev_dup2IR dX11_undo_34 ?_
      refine ex_iald (x := (f1 157 7)) dX11_undo_35 sh_157 (by decide) (by decide) rfl ?_
      refine ev_iconst dX11_undo_36 (r32c rfl) ?_
      refine ev_isub dX11_undo_37 ?_
      refine ex_iast (j := 7) dX11_undo_38 sh_157 (by decide) (by decide) rfl ?_
      refine ev_aload_n (i := 0) dX11_undo_39 rfl rfl ?_
      refine ev_getR dX11_undo_40 fl_X11_34 sh_150 (by decide) (by decide) rf_150_17 ?_
      refine ev_bipush (v := 7) dX11_undo_43 (r32c rfl) (by decide) ?_
      refine ex_iald (x := (w32 ((f1 157 7) - 1))) dX11_undo_45 sh_157 (by decide) (by decide) rfl ?_
      exact ev_iret rfl dX11_undo_46 h
    · rw [if_pos c2] at h
      refine ev_bipush (v := (-5)) dX11_undo_25 (r32c rfl) (by decide) ?_
      exact ev_iret rfl dX11_undo_27 h
  · rw [if_pos c3] at h
    refine ev_bipush (v := (-2)) dX11_undo_12 (r32c rfl) (by decide) ?_
    exact ev_iret rfl dX11_undo_14 h
def FX11_undo  (f : Mm) : Option (Int × Mm) := FX11_undo_0  f
set_option maxRecDepth 100000 in
theorem TX11_undo {G : GT} {l : Launch} {Q : Option AV → Mem → Prop}  (f : Mm) (h : OkI Q (FX11_undo  f)) : Ret G l MX11_undo (2) 0 0 [vR 150] (SH, RF, f) Q := by
  refine ret_of (L := [some (vR 150)]) (by decide) rfl (Nat.le_of_ble_eq_true rfl) ?_
  exact SX11_undo_0  f h
theorem dX11_anew_0 : decode cX11_anew 0 = .ok (.aload_n 0, 1) := by decide +kernel
theorem dX11_anew_1 : decode cX11_anew 1 = .ok (.iconst 0, 1) := by decide +kernel
theorem dX11_anew_2 : decode cX11_anew 2 = .ok (.putfield 98, 3) := by decide +kernel
theorem dX11_anew_5 : decode cX11_anew 5 = .ok (.aload_n 0, 1) := by decide +kernel
theorem dX11_anew_6 : decode cX11_anew 6 = .ok (.invokevirtual 272, 3) := by decide +kernel
theorem dX11_anew_9 : decode cX11_anew 9 = .ok (.ifCond .ne 6, 3) := by decide +kernel
theorem dX11_anew_15 : decode cX11_anew 15 = .ok (.aload_n 0, 1) := by decide +kernel
theorem dX11_anew_16 : decode cX11_anew 16 = .ok (.getfield 34, 3) := by decide +kernel
theorem dX11_anew_19 : decode cX11_anew 19 = .ok (.bipush 7, 2) := by decide +kernel
theorem dX11_anew_21 : decode cX11_anew 21 = .ok (.iaload, 1) := by decide +kernel
theorem dX11_anew_22 : decode cX11_anew 22 = .ok (.istore_n 1, 1) := by decide +kernel
theorem dX11_anew_23 : decode cX11_anew 23 = .ok (.aload_n 0, 1) := by decide +kernel
theorem dX11_anew_24 : decode cX11_anew 24 = .ok (.getfield 34, 3) := by decide +kernel
theorem dX11_anew_27 : decode cX11_anew 27 = .ok (.bipush 7, 2) := by decide +kernel
theorem dX11_anew_29 : decode cX11_anew 29 = .ok (.iconst 0, 1) := by decide +kernel
theorem dX11_anew_30 : decode cX11_anew 30 = .ok (.iastore, 1) := by decide +kernel
theorem dX11_anew_31 : decode cX11_anew 31 = .ok (.iload_n 1, 1) := by decide +kernel
theorem dX11_anew_32 : decode cX11_anew 32 = .ok (.ireturn, 1) := by decide +kernel
theorem dX11_anew_12 : decode cX11_anew 12 = .ok (.bipush (-2), 2) := by decide +kernel
theorem dX11_anew_14 : decode cX11_anew 14 = .ok (.ireturn, 1) := by decide +kernel
def FX11_anew_0   (f : Mm) : Option (Int × Mm) := (b2 (FX11_isBridge (up f 150 0 0)) fun y1 f1 => (if y1 = 0 then some ((-2), f1) else some ((f1 157 7), (up f1 157 7 0))))
set_option maxHeartbeats 4000000 in
set_option maxRecDepth 100000 in
theorem SX11_anew_0 {G : GT} {l : Launch} {Q : Option AV → Mem → Prop}   (f : Mm) (h : OkI Q (FX11_anew_0   f)) : Ev G l MX11_anew (Rm 2 0 0) (ZM G Q 0 0) 0 0 0 [some (vR 150), none] [] (SH, RF, f) := by
  unfold FX11_anew_0 at h
  refine ev_aload_n (i := 0) dX11_anew_0 rfl rfl ?_
  refine ev_iconst dX11_anew_1 (r32c rfl) ?_
  refine ev_putI dX11_anew_2 fl_X11_98 sh_150 (by decide) (by decide) ?_
  refine ev_aload_n (i := 0) dX11_anew_5 rfl rfl ?_
  refine ev_cVI (b := 150) (av := []) (S := []) (fun q => q) h dX11_anew_6 (fun Q' q => TX11_isBridge _ q) kvX11_isBridge ml_X11_272 sh_150 rfl (RRc (by decide) (by decide)) (Nat.le_of_ble_eq_true rfl) ⟨Nat.le_of_ble_eq_true rfl, Nat.le_of_ble_eq_true rfl⟩ (fun y1 f1 h => ?_)
  refine ev_if_ne (tgt := 15) dX11_anew_9 (by decide) (fun c2 => ?_) (fun c2 => ?_)
  · rw [if_neg c2] at h
    refine ev_aload_n (i := 0) dX11_anew_15 rfl rfl ?_
    refine ev_getR dX11_anew_16 fl_X11_34 sh_150 (by decide) (by decide) rf_150_17 ?_
    refine ev_bipush (v := 7) dX11_anew_19 (r32c rfl) (by decide) ?_
    refine ex_iald (x := (f1 157 7)) dX11_anew_21 sh_157 (by decide) (by decide) rfl ?_
    refine ev_istore_n (i := 1) (L' := [some (vR 150), some (vI (f1 157 7))]) dX11_anew_22 rfl (by decide) rfl ?_
    refine ev_aload_n (i := 0) dX11_anew_23 rfl rfl ?_
    refine ev_getR dX11_anew_24 fl_X11_34 sh_150 (by decide) (by decide) rf_150_17 ?_
    refine ev_bipush (v := 7) dX11_anew_27 (r32c rfl) (by decide) ?_
    refine ev_iconst dX11_anew_29 (r32c rfl) ?_
    refine ex_iast (j := 7) dX11_anew_30 sh_157 (by decide) (by decide) rfl ?_
    refine ev_iload_n (i := 1) dX11_anew_31 rfl rfl ?_
    exact ev_iret rfl dX11_anew_32 h
  · rw [if_pos c2] at h
    refine ev_bipush (v := (-2)) dX11_anew_12 (r32c rfl) (by decide) ?_
    exact ev_iret rfl dX11_anew_14 h
def FX11_anew  (f : Mm) : Option (Int × Mm) := FX11_anew_0  f
set_option maxRecDepth 100000 in
theorem TX11_anew {G : GT} {l : Launch} {Q : Option AV → Mem → Prop}  (f : Mm) (h : OkI Q (FX11_anew  f)) : Ret G l MX11_anew (2) 0 0 [vR 150] (SH, RF, f) Q := by
  refine ret_of (L := [some (vR 150), none]) (by decide) rfl (Nat.le_of_ble_eq_true rfl) ?_
  exact SX11_anew_0  f h
theorem dX11_done_0 : decode cX11_done 0 = .ok (.aload_n 0, 1) := by decide +kernel
theorem dX11_done_1 : decode cX11_done 1 = .ok (.iconst 0, 1) := by decide +kernel
theorem dX11_done_2 : decode cX11_done 2 = .ok (.putfield 98, 3) := by decide +kernel
theorem dX11_done_5 : decode cX11_done 5 = .ok (.aload_n 0, 1) := by decide +kernel
theorem dX11_done_6 : decode cX11_done 6 = .ok (.iload_n 1, 1) := by decide +kernel
theorem dX11_done_7 : decode cX11_done 7 = .ok (.i2l, 1) := by decide +kernel
theorem dX11_done_8 : decode cX11_done 8 = .ok (.invokevirtual 324, 3) := by decide +kernel
theorem dX11_done_11 : decode cX11_done 11 = .ok (.ifCond .ne 6, 3) := by decide +kernel
theorem dX11_done_17 : decode cX11_done 17 = .ok (.aload_n 0, 1) := by decide +kernel
theorem dX11_done_18 : decode cX11_done 18 = .ok (.invokevirtual 296, 3) := by decide +kernel
theorem dX11_done_21 : decode cX11_done 21 = .ok (.aload_n 0, 1) := by decide +kernel
theorem dX11_done_22 : decode cX11_done 22 = .ok (.getfield 50, 3) := by decide +kernel
theorem dX11_done_25 : decode cX11_done 25 = .ok (.iload_n 1, 1) := by decide +kernel
theorem dX11_done_26 : decode cX11_done 26 = .ok (.iaload, 1) := by decide +kernel
theorem dX11_done_27 : decode cX11_done 27 = .ok (.ireturn, 1) := by decide +kernel
theorem dX11_done_14 : decode cX11_done 14 = .ok (.bipush (-2), 2) := by decide +kernel
theorem dX11_done_16 : decode cX11_done 16 = .ok (.ireturn, 1) := by decide +kernel
def FX11_done_0  (x1 : Int) (f : Mm) : Option (Int × Mm) := (b2 (FX11_isDay x1 (up f 150 0 0)) fun y1 f1 => (if y1 = 0 then some ((-2), f1) else ((FX11_lays f1).bind fun f2 => (if 0 ≤ x1 ∧ x1 < 6 then some ((f2 162 x1.toNat), f2) else none))))
set_option maxHeartbeats 4000000 in
set_option maxRecDepth 100000 in
theorem SX11_done_0 {G : GT} {l : Launch} {Q : Option AV → Mem → Prop}  (x1 : Int) (f : Mm) (h : OkI Q (FX11_done_0  x1 f)) : Ev G l MX11_done (Rm 3 0 0) (ZM G Q 0 0) 0 0 0 [some (vR 150), some (vI x1)] [] (SH, RF, f) := by
  unfold FX11_done_0 at h
  refine ev_aload_n (i := 0) dX11_done_0 rfl rfl ?_
  refine ev_iconst dX11_done_1 (r32c rfl) ?_
  refine ev_putI dX11_done_2 fl_X11_98 sh_150 (by decide) (by decide) ?_
  refine ev_aload_n (i := 0) dX11_done_5 rfl rfl ?_
  refine ev_iload_n (i := 1) dX11_done_6 rfl rfl ?_
  refine ev_i2l dX11_done_7 ?_
  refine ev_cVI (b := 150) (av := [vJ x1]) (S := []) (fun q => q) h dX11_done_8 (fun Q' q => TX11_isDay x1 _ q) kvX11_isDay ml_X11_324 sh_150 rfl (RRc (by decide) (by decide)) (Nat.le_of_ble_eq_true rfl) ⟨Nat.le_of_ble_eq_true rfl, Nat.le_of_ble_eq_true rfl⟩ (fun y1 f1 h => ?_)
  refine ev_if_ne (tgt := 17) dX11_done_11 (by decide) (fun c4 => ?_) (fun c4 => ?_)
  · rw [if_neg c4] at h
    refine ev_aload_n (i := 0) dX11_done_17 rfl rfl ?_
    refine ev_cVV (b := 150) (av := []) (S := []) (fun q => q) h dX11_done_18 (fun Q' q => TX11_lays _ q) kvX11_lays ml_X11_296 sh_150 rfl (RRc (by decide) (by decide)) (Nat.le_of_ble_eq_true rfl) ⟨Nat.le_of_ble_eq_true rfl, Nat.le_of_ble_eq_true rfl⟩ (fun f2 h => ?_)
    refine ev_aload_n (i := 0) dX11_done_21 rfl rfl ?_
    refine ev_getR dX11_done_22 fl_X11_50 sh_150 (by decide) (by decide) rf_150_22 ?_
    refine ev_iload_n (i := 1) dX11_done_25 rfl rfl ?_
    by_cases g3 : 0 ≤ x1 ∧ x1 < 6
    · rw [if_pos g3] at h
      refine ex_iald (x := (f2 162 x1.toNat)) dX11_done_26 sh_162 g3.1 g3.2 rfl ?_
      exact ev_iret rfl dX11_done_27 h
    · rw [if_neg g3] at h; exact h.elim
  · rw [if_pos c4] at h
    refine ev_bipush (v := (-2)) dX11_done_14 (r32c rfl) (by decide) ?_
    exact ev_iret rfl dX11_done_16 h
def FX11_done (x1 : Int) (f : Mm) : Option (Int × Mm) := FX11_done_0 x1 f
set_option maxRecDepth 100000 in
theorem TX11_done {G : GT} {l : Launch} {Q : Option AV → Mem → Prop} (x1 : Int) (f : Mm) (h : OkI Q (FX11_done x1 f)) : Ret G l MX11_done (3) 0 0 [vR 150, vI x1] (SH, RF, f) Q := by
  refine ret_of (L := [some (vR 150), some (vI x1)]) (by decide) rfl (Nat.le_of_ble_eq_true rfl) ?_
  exact SX11_done_0 x1 f h
theorem dX11_rate_0 : decode cX11_rate 0 = .ok (.aload_n 0, 1) := by decide +kernel
theorem dX11_rate_1 : decode cX11_rate 1 = .ok (.iconst 0, 1) := by decide +kernel
theorem dX11_rate_2 : decode cX11_rate 2 = .ok (.putfield 98, 3) := by decide +kernel
theorem dX11_rate_5 : decode cX11_rate 5 = .ok (.aload_n 0, 1) := by decide +kernel
theorem dX11_rate_6 : decode cX11_rate 6 = .ok (.iload_n 1, 1) := by decide +kernel
theorem dX11_rate_7 : decode cX11_rate 7 = .ok (.invokevirtual 316, 3) := by decide +kernel
theorem dX11_rate_10 : decode cX11_rate 10 = .ok (.ifCond .eq 15, 3) := by decide +kernel
theorem dX11_rate_25 : decode cX11_rate 25 = .ok (.bipush (-2), 2) := by decide +kernel
theorem dX11_rate_27 : decode cX11_rate 27 = .ok (.ireturn, 1) := by decide +kernel
theorem dX11_rate_13 : decode cX11_rate 13 = .ok (.iload_n 2, 1) := by decide +kernel
theorem dX11_rate_14 : decode cX11_rate 14 = .ok (.i2l, 1) := by decide +kernel
theorem dX11_rate_15 : decode cX11_rate 15 = .ok (.lconst 0, 1) := by decide +kernel
theorem dX11_rate_16 : decode cX11_rate 16 = .ok (.ldc2_w 451, 3) := by decide +kernel
theorem dX11_rate_19 : decode cX11_rate 19 = .ok (.invokestatic 103, 3) := by decide +kernel
theorem dX11_rate_22 : decode cX11_rate 22 = .ok (.ifCond .ne 6, 3) := by decide +kernel
theorem dX11_rate_28 : decode cX11_rate 28 = .ok (.aload_n 0, 1) := by decide +kernel
theorem dX11_rate_29 : decode cX11_rate 29 = .ok (.getfield 34, 3) := by decide +kernel
theorem dX11_rate_32 : decode cX11_rate 32 = .ok (.bipush 7, 2) := by decide +kernel
theorem dX11_rate_34 : decode cX11_rate 34 = .ok (.iaload, 1) := by decide +kernel
theorem dX11_rate_35 : decode cX11_rate 35 = .ok (.ifCond .le 6, 3) := by decide +kernel
theorem dX11_rate_41 : decode cX11_rate 41 = .ok (.aload_n 0, 1) := by decide +kernel
theorem dX11_rate_42 : decode cX11_rate 42 = .ok (.getfield 40, 3) := by decide +kernel
theorem dX11_rate_45 : decode cX11_rate 45 = .ok (.iconst 5, 1) := by decide +kernel
theorem dX11_rate_46 : decode cX11_rate 46 = .ok (.iload_n 1, 1) := by decide +kernel
theorem dX11_rate_47 : decode cX11_rate 47 = .ok (.imul, 1) := by decide +kernel
theorem dX11_rate_48 : decode cX11_rate 48 = .ok (.iconst 4, 1) := by decide +kernel
theorem dX11_rate_49 : decode cX11_rate 49 = .ok (.iadd, 1) := by decide +kernel
theorem dX11_rate_50 : decode cX11_rate 50 = .ok (.iaload, 1) := by decide +kernel
theorem dX11_rate_51 : decode cX11_rate 51 = .ok (.istore_n 3, 1) := by decide +kernel
theorem dX11_rate_52 : decode cX11_rate 52 = .ok (.aload_n 0, 1) := by decide +kernel
theorem dX11_rate_53 : decode cX11_rate 53 = .ok (.getfield 40, 3) := by decide +kernel
theorem dX11_rate_56 : decode cX11_rate 56 = .ok (.iconst 5, 1) := by decide +kernel
theorem dX11_rate_57 : decode cX11_rate 57 = .ok (.iload_n 1, 1) := by decide +kernel
theorem dX11_rate_58 : decode cX11_rate 58 = .ok (.imul, 1) := by decide +kernel
theorem dX11_rate_59 : decode cX11_rate 59 = .ok (.iconst 4, 1) := by decide +kernel
theorem dX11_rate_60 : decode cX11_rate 60 = .ok (.iadd, 1) := by decide +kernel
theorem dX11_rate_61 : decode cX11_rate 61 = .ok (.iload_n 2, 1) := by decide +kernel
theorem dX11_rate_62 : decode cX11_rate 62 = .ok (.iastore, 1) := by decide +kernel
theorem dX11_rate_63 : decode cX11_rate 63 = .ok (.iload_n 3, 1) := by decide +kernel
theorem dX11_rate_64 : decode cX11_rate 64 = .ok (.ireturn, 1) := by decide +kernel
theorem dX11_rate_38 : decode cX11_rate 38 = .ok (.bipush (-5), 2) := by decide +kernel
theorem dX11_rate_40 : decode cX11_rate 40 = .ok (.ireturn, 1) := by decide +kernel
def FX11_rate_0  (x1 : Int) (x2 : Int) (f : Mm) : Option (Int × Mm) := (b2 (FX11_isCart x1 (up f 150 0 0)) fun y1 f1 => (if y1 = 0 then some ((-2), f1) else (b2 (FX11_in x2 0 999 f1) fun y2 f2 => (if y2 = 0 then some ((-2), f2) else (if (f2 157 7) ≤ 0 then (if 0 ≤ (w32 ((w32 (5 * x1)) + 4)) ∧ (w32 ((w32 (5 * x1)) + 4)) < 150 then (if 0 ≤ (w32 ((w32 (5 * x1)) + 4)) ∧ (w32 ((w32 (5 * x1)) + 4)) < 150 then some ((f2 159 (w32 ((w32 (5 * x1)) + 4)).toNat), (up f2 159 (w32 ((w32 (5 * x1)) + 4)).toNat x2)) else none) else none) else some ((-5), f2))))))
set_option maxHeartbeats 4000000 in
set_option maxRecDepth 100000 in
theorem SX11_rate_0 {G : GT} {l : Launch} {Q : Option AV → Mem → Prop}  (x1 : Int) (x2 : Int) (f : Mm) (h : OkI Q (FX11_rate_0  x1 x2 f)) : Ev G l MX11_rate (Rm 3 0 0) (ZM G Q 0 0) 0 0 0 [some (vR 150), some (vI x1), some (vI x2), none] [] (SH, RF, f) := by
  unfold FX11_rate_0 at h
  refine ev_aload_n (i := 0) dX11_rate_0 rfl rfl ?_
  refine ev_iconst dX11_rate_1 (r32c rfl) ?_
  refine ev_putI dX11_rate_2 fl_X11_98 sh_150 (by decide) (by decide) ?_
  refine ev_aload_n (i := 0) dX11_rate_5 rfl rfl ?_
  refine ev_iload_n (i := 1) dX11_rate_6 rfl rfl ?_
  refine ev_cVI (b := 150) (av := [vI x1]) (S := []) (fun q => q) h dX11_rate_7 (fun Q' q => TX11_isCart x1 _ q) kvX11_isCart ml_X11_316 sh_150 rfl (RRc (by decide) (by decide)) (Nat.le_of_ble_eq_true rfl) ⟨Nat.le_of_ble_eq_true rfl, Nat.le_of_ble_eq_true rfl⟩ (fun y1 f1 h => ?_)
  refine ev_if_eq (tgt := 25) dX11_rate_10 (by decide) (fun c7 => ?_) (fun c7 => ?_)
  · rw [if_pos c7] at h
    refine ev_bipush (v := (-2)) dX11_rate_25 (r32c rfl) (by decide) ?_
    exact ev_iret rfl dX11_rate_27 h
  · rw [if_neg c7] at h
    refine ev_iload_n (i := 2) dX11_rate_13 rfl rfl ?_
    refine ev_i2l dX11_rate_14 ?_
    refine ev_lconst (v := 0) dX11_rate_15 (r64c rfl) (by decide) ?_
    refine ev_ldc2 (v := 999) dX11_rate_16 (r64c rfl) kc_X11_451 ?_
    refine ev_cSI (av := [vJ x2, vJ 0, vJ 999]) (S := []) (fun q => q) h dX11_rate_19 (fun Q' q => TX11_in x2 0 999 _ q) ksX11_in ml_X11_103 rfl (RRc (by decide) (by decide)) (Nat.le_of_ble_eq_true rfl) ⟨Nat.le_of_ble_eq_true rfl, Nat.le_of_ble_eq_true rfl⟩ (fun y2 f2 h => ?_)
    refine ev_if_ne (tgt := 28) dX11_rate_22 (by decide) (fun c6 => ?_) (fun c6 => ?_)
    · rw [if_neg c6] at h
      refine ev_aload_n (i := 0) dX11_rate_28 rfl rfl ?_
      refine ev_getR dX11_rate_29 fl_X11_34 sh_150 (by decide) (by decide) rf_150_17 ?_
      refine ev_bipush (v := 7) dX11_rate_32 (r32c rfl) (by decide) ?_
      refine ex_iald (x := (f2 157 7)) dX11_rate_34 sh_157 (by decide) (by decide) rfl ?_
      refine ev_if_le (tgt := 41) dX11_rate_35 (by decide) (fun c5 => ?_) (fun c5 => ?_)
      · rw [if_pos c5] at h
        refine ev_aload_n (i := 0) dX11_rate_41 rfl rfl ?_
        refine ev_getR dX11_rate_42 fl_X11_40 sh_150 (by decide) (by decide) rf_150_19 ?_
        refine ev_iconst dX11_rate_45 (r32c rfl) ?_
        refine ev_iload_n (i := 1) dX11_rate_46 rfl rfl ?_
        refine ev_imul dX11_rate_47 ?_
        refine ev_iconst dX11_rate_48 (r32c rfl) ?_
        refine ev_iadd dX11_rate_49 ?_
        by_cases g3 : 0 ≤ (w32 ((w32 (5 * x1)) + 4)) ∧ (w32 ((w32 (5 * x1)) + 4)) < 150
        · rw [if_pos g3] at h
          refine ex_iald (x := (f2 159 (w32 ((w32 (5 * x1)) + 4)).toNat)) dX11_rate_50 sh_159 g3.1 g3.2 rfl ?_
          refine ev_istore_n (i := 3) (L' := [some (vR 150), some (vI x1), some (vI x2), some (vI (f2 159 (w32 ((w32 (5 * x1)) + 4)).toNat))]) dX11_rate_51 rfl (by decide) rfl ?_
          refine ev_aload_n (i := 0) dX11_rate_52 rfl rfl ?_
          refine ev_getR dX11_rate_53 fl_X11_40 sh_150 (by decide) (by decide) rf_150_19 ?_
          refine ev_iconst dX11_rate_56 (r32c rfl) ?_
          refine ev_iload_n (i := 1) dX11_rate_57 rfl rfl ?_
          refine ev_imul dX11_rate_58 ?_
          refine ev_iconst dX11_rate_59 (r32c rfl) ?_
          refine ev_iadd dX11_rate_60 ?_
          refine ev_iload_n (i := 2) dX11_rate_61 rfl rfl ?_
          by_cases g4 : 0 ≤ (w32 ((w32 (5 * x1)) + 4)) ∧ (w32 ((w32 (5 * x1)) + 4)) < 150
          · rw [if_pos g4] at h
            refine ex_iast (j := (w32 ((w32 (5 * x1)) + 4)).toNat) dX11_rate_62 sh_159 g4.1 g4.2 rfl ?_
            refine ev_iload_n (i := 3) dX11_rate_63 rfl rfl ?_
            exact ev_iret rfl dX11_rate_64 h
          · rw [if_neg g4] at h; exact h.elim
        · rw [if_neg g3] at h; exact h.elim
      · rw [if_neg c5] at h
        refine ev_bipush (v := (-5)) dX11_rate_38 (r32c rfl) (by decide) ?_
        exact ev_iret rfl dX11_rate_40 h
    · rw [if_pos c6] at h
      refine ev_bipush (v := (-2)) dX11_rate_25 (r32c rfl) (by decide) ?_
      exact ev_iret rfl dX11_rate_27 h
def FX11_rate (x1 : Int) (x2 : Int) (f : Mm) : Option (Int × Mm) := FX11_rate_0 x1 x2 f
set_option maxRecDepth 100000 in
theorem TX11_rate {G : GT} {l : Launch} {Q : Option AV → Mem → Prop} (x1 : Int) (x2 : Int) (f : Mm) (h : OkI Q (FX11_rate x1 x2 f)) : Ret G l MX11_rate (3) 0 0 [vR 150, vI x1, vI x2] (SH, RF, f) Q := by
  refine ret_of (L := [some (vR 150), some (vI x1), some (vI x2), none]) (by decide) rfl (Nat.le_of_ble_eq_true rfl) ?_
  exact SX11_rate_0 x1 x2 f h
theorem dX11_count_139 : decode cX11_count 139 = .ok (.iadd, 1) := by decide +kernel
theorem dX11_count_140 : decode cX11_count 140 = .ok (.istore_n 2, 1) := by decide +kernel
theorem dX11_count_141 : decode cX11_count 141 = .ok (.iinc 3 1, 3) := by decide +kernel
theorem dX11_count_144 : decode cX11_count 144 = .ok (.goto (-26), 3) := by decide +kernel
theorem dX11_count_118 : decode cX11_count 118 = .ok (.iload_n 3, 1) := by decide +kernel
theorem dX11_count_119 : decode cX11_count 119 = .ok (.iconst 4, 1) := by decide +kernel
theorem dX11_count_120 : decode cX11_count 120 = .ok (.if_icmp .ge 27, 3) := by decide +kernel
theorem dX11_count_147 : decode cX11_count 147 = .ok (.iload_n 2, 1) := by decide +kernel
theorem dX11_count_148 : decode cX11_count 148 = .ok (.ireturn, 1) := by decide +kernel
theorem dX11_count_123 : decode cX11_count 123 = .ok (.iload_n 2, 1) := by decide +kernel
theorem dX11_count_124 : decode cX11_count 124 = .ok (.aload_n 0, 1) := by decide +kernel
theorem dX11_count_125 : decode cX11_count 125 = .ok (.getfield 7, 3) := by decide +kernel
theorem dX11_count_128 : decode cX11_count 128 = .ok (.iload_n 3, 1) := by decide +kernel
theorem dX11_count_129 : decode cX11_count 129 = .ok (.iaload, 1) := by decide +kernel
theorem dX11_count_130 : decode cX11_count 130 = .ok (.iconst (-1), 1) := by decide +kernel
theorem dX11_count_131 : decode cX11_count 131 = .ok (.if_icmp .ne 7, 3) := by decide +kernel
theorem dX11_count_138 : decode cX11_count 138 = .ok (.iconst 1, 1) := by decide +kernel
theorem dX11_count_134 : decode cX11_count 134 = .ok (.iconst 0, 1) := by decide +kernel
theorem dX11_count_135 : decode cX11_count 135 = .ok (.goto 4, 3) := by decide +kernel
theorem dX11_count_0 : decode cX11_count 0 = .ok (.aload_n 0, 1) := by decide +kernel
theorem dX11_count_1 : decode cX11_count 1 = .ok (.iconst 0, 1) := by decide +kernel
theorem dX11_count_2 : decode cX11_count 2 = .ok (.putfield 98, 3) := by decide +kernel
theorem dX11_count_5 : decode cX11_count 5 = .ok (.iconst 0, 1) := by decide +kernel
theorem dX11_count_6 : decode cX11_count 6 = .ok (.istore_n 2, 1) := by decide +kernel
theorem dX11_count_7 : decode cX11_count 7 = .ok (.iload_n 1, 1) := by decide +kernel
theorem dX11_count_8 : decode cX11_count 8 = .ok (.tableswitch 141 0 8 #[52, 59, 66, 73, 80, 88, 96, 103, 108], 52) := by decide +kernel
theorem dX11_count_60 : decode cX11_count 60 = .ok (.aload_n 0, 1) := by decide +kernel
theorem dX11_count_61 : decode cX11_count 61 = .ok (.getfield 34, 3) := by decide +kernel
theorem dX11_count_64 : decode cX11_count 64 = .ok (.iconst 0, 1) := by decide +kernel
theorem dX11_count_65 : decode cX11_count 65 = .ok (.iaload, 1) := by decide +kernel
theorem dX11_count_66 : decode cX11_count 66 = .ok (.ireturn, 1) := by decide +kernel
theorem dX11_count_67 : decode cX11_count 67 = .ok (.aload_n 0, 1) := by decide +kernel
theorem dX11_count_68 : decode cX11_count 68 = .ok (.getfield 34, 3) := by decide +kernel
theorem dX11_count_71 : decode cX11_count 71 = .ok (.iconst 3, 1) := by decide +kernel
theorem dX11_count_72 : decode cX11_count 72 = .ok (.iaload, 1) := by decide +kernel
theorem dX11_count_73 : decode cX11_count 73 = .ok (.ireturn, 1) := by decide +kernel
theorem dX11_count_74 : decode cX11_count 74 = .ok (.aload_n 0, 1) := by decide +kernel
theorem dX11_count_75 : decode cX11_count 75 = .ok (.getfield 34, 3) := by decide +kernel
theorem dX11_count_78 : decode cX11_count 78 = .ok (.iconst 4, 1) := by decide +kernel
theorem dX11_count_79 : decode cX11_count 79 = .ok (.iaload, 1) := by decide +kernel
theorem dX11_count_80 : decode cX11_count 80 = .ok (.ireturn, 1) := by decide +kernel
theorem dX11_count_81 : decode cX11_count 81 = .ok (.aload_n 0, 1) := by decide +kernel
theorem dX11_count_82 : decode cX11_count 82 = .ok (.getfield 34, 3) := by decide +kernel
theorem dX11_count_85 : decode cX11_count 85 = .ok (.iconst 5, 1) := by decide +kernel
theorem dX11_count_86 : decode cX11_count 86 = .ok (.iaload, 1) := by decide +kernel
theorem dX11_count_87 : decode cX11_count 87 = .ok (.ireturn, 1) := by decide +kernel
theorem dX11_count_88 : decode cX11_count 88 = .ok (.aload_n 0, 1) := by decide +kernel
theorem dX11_count_89 : decode cX11_count 89 = .ok (.getfield 34, 3) := by decide +kernel
theorem dX11_count_92 : decode cX11_count 92 = .ok (.bipush 6, 2) := by decide +kernel
theorem dX11_count_94 : decode cX11_count 94 = .ok (.iaload, 1) := by decide +kernel
theorem dX11_count_95 : decode cX11_count 95 = .ok (.ireturn, 1) := by decide +kernel
theorem dX11_count_96 : decode cX11_count 96 = .ok (.aload_n 0, 1) := by decide +kernel
theorem dX11_count_97 : decode cX11_count 97 = .ok (.getfield 34, 3) := by decide +kernel
theorem dX11_count_100 : decode cX11_count 100 = .ok (.bipush 7, 2) := by decide +kernel
theorem dX11_count_102 : decode cX11_count 102 = .ok (.iaload, 1) := by decide +kernel
theorem dX11_count_103 : decode cX11_count 103 = .ok (.ireturn, 1) := by decide +kernel
theorem dX11_count_104 : decode cX11_count 104 = .ok (.aload_n 0, 1) := by decide +kernel
theorem dX11_count_105 : decode cX11_count 105 = .ok (.getfield 31, 3) := by decide +kernel
theorem dX11_count_108 : decode cX11_count 108 = .ok (.iconst 0, 1) := by decide +kernel
theorem dX11_count_109 : decode cX11_count 109 = .ok (.iaload, 1) := by decide +kernel
theorem dX11_count_110 : decode cX11_count 110 = .ok (.ireturn, 1) := by decide +kernel
theorem dX11_count_111 : decode cX11_count 111 = .ok (.aload_n 0, 1) := by decide +kernel
theorem dX11_count_112 : decode cX11_count 112 = .ok (.getfield 115, 3) := by decide +kernel
theorem dX11_count_115 : decode cX11_count 115 = .ok (.ireturn, 1) := by decide +kernel
theorem dX11_count_116 : decode cX11_count 116 = .ok (.iconst 0, 1) := by decide +kernel
theorem dX11_count_117 : decode cX11_count 117 = .ok (.istore_n 3, 1) := by decide +kernel
theorem dX11_count_149 : decode cX11_count 149 = .ok (.iconst (-1), 1) := by decide +kernel
theorem dX11_count_150 : decode cX11_count 150 = .ok (.ireturn, 1) := by decide +kernel
def FX11_count_139 (k118 : Int → Int → Mm → Option (Int × Mm)) (x3 : Int) (s0 : Int) (s1 : Int) (f : Mm) : Option (Int × Mm) := k118 (w32 (s0 + s1)) (w32 (x3 + 1)) f
set_option maxHeartbeats 4000000 in
set_option maxRecDepth 100000 in
theorem SX11_count_139 {G : GT} {l : Launch} {Q : Option AV → Mem → Prop} {k118 : Int → Int → Mm → Option (Int × Mm)} (q118 : ∀ (x2 : Int) (x3 : Int) (f : Mm), OkI Q (k118 x2 x3 f) → Ev G l MX11_count (Rm 1 0 0) (ZM G Q 0 0) 0 0 118 [some (vR 150), none, some (vI x2), some (vI x3)] [] (SH, RF, f)) (x3 : Int) (s0 : Int) (s1 : Int) (f : Mm) (h : OkI Q (FX11_count_139 k118 x3 s0 s1 f)) : Ev G l MX11_count (Rm 1 0 0) (ZM G Q 0 0) 0 0 139 [some (vR 150), none, none, some (vI x3)] [vI s1, vI s0] (SH, RF, f) := by
  unfold FX11_count_139 at h
  refine ev_iadd dX11_count_139 ?_
  refine ev_istore_n (i := 2) (L' := [some (vR 150), none, some (vI (w32 (s0 + s1))), some (vI x3)]) dX11_count_140 rfl (by decide) rfl ?_
  refine ev_iinc (L' := [some (vR 150), none, some (vI (w32 (s0 + s1))), some (vI (w32 (x3 + 1)))]) dX11_count_141 rfl (by decide) rfl ?_
  refine ev_goto (tgt := 118) dX11_count_144 (by decide) ?_
  exact q118 (w32 (s0 + s1)) (w32 (x3 + 1)) _ h
def FX11_count_118  : Nat → Int → Int → Mm → Option (Int × Mm)
  | 0, _, _, _ => none
  | n + 1, x2, x3, f => (if 4 ≤ x3 then some (x2, f) else (if 0 ≤ x3 ∧ x3 < 4 then (if (f 151 x3.toNat) = (-1) then FX11_count_139 (FX11_count_118 n) x3 x2 0 f else FX11_count_139 (FX11_count_118 n) x3 x2 1 f) else none))
set_option maxHeartbeats 4000000 in
set_option maxRecDepth 100000 in
theorem SX11_count_118 {G : GT} {l : Launch} {Q : Option AV → Mem → Prop}  : ∀ (n : Nat) (x2 : Int) (x3 : Int) (f : Mm), OkI Q (FX11_count_118  n x2 x3 f) → Ev G l MX11_count (Rm 1 0 0) (ZM G Q 0 0) 0 0 118 [some (vR 150), none, some (vI x2), some (vI x3)] [] (SH, RF, f) := by
  intro n
  induction n with
  | zero => intro x2 x3 f h; exact absurd h (by rw [FX11_count_118]; exact fun q => q)
  | succ n ih =>
    intro x2 x3 f h
    rw [FX11_count_118] at h
    refine ev_iload_n (i := 3) dX11_count_118 rfl rfl ?_
    refine ev_iconst dX11_count_119 (r32c rfl) ?_
    refine ev_icmp_ge (tgt := 147) dX11_count_120 (by decide) (fun c3 => ?_) (fun c3 => ?_)
    · rw [if_pos c3] at h
      refine ev_iload_n (i := 2) dX11_count_147 rfl rfl ?_
      exact ev_iret rfl dX11_count_148 h
    · rw [if_neg c3] at h
      refine ev_iload_n (i := 2) dX11_count_123 rfl rfl ?_
      refine ev_aload_n (i := 0) dX11_count_124 rfl rfl ?_
      refine ev_getR dX11_count_125 fl_X11_7 sh_150 (by decide) (by decide) rf_150_1 ?_
      refine ev_iload_n (i := 3) dX11_count_128 rfl rfl ?_
      by_cases g1 : 0 ≤ x3 ∧ x3 < 4
      · rw [if_pos g1] at h
        refine ex_iald (x := (f 151 x3.toNat)) dX11_count_129 sh_151 g1.1 g1.2 rfl ?_
        refine ev_iconst dX11_count_130 (r32c rfl) ?_
        refine ev_icmp_ne (tgt := 138) dX11_count_131 (by decide) (fun c2 => ?_) (fun c2 => ?_)
        · rw [if_neg c2] at h
          refine ev_iconst dX11_count_138 (r32c rfl) ?_
          refine ev_fg [true, true, false, true] rfl ?_
          exact SX11_count_139 ih x3 x2 1 _ h
        · rw [if_pos c2] at h
          refine ev_iconst dX11_count_134 (r32c rfl) ?_
          refine ev_goto (tgt := 139) dX11_count_135 (by decide) ?_
          refine ev_fg [true, true, false, true] rfl ?_
          exact SX11_count_139 ih x3 x2 0 _ h
      · rw [if_neg g1] at h; exact h.elim
def FX11_count_0  (x1 : Int) (f : Mm) : Option (Int × Mm) := (if x1 = 0 then some ((f 157 0), (up f 150 0 0)) else (if x1 = 1 then some ((f 157 3), (up f 150 0 0)) else (if x1 = 2 then some ((f 157 4), (up f 150 0 0)) else (if x1 = 3 then some ((f 157 5), (up f 150 0 0)) else (if x1 = 4 then some ((f 157 6), (up f 150 0 0)) else (if x1 = 5 then some ((f 157 7), (up f 150 0 0)) else (if x1 = 6 then some ((f 156 0), (up f 150 0 0)) else (if x1 = 7 then some ((f 150 6), (up f 150 0 0)) else (if x1 = 8 then FX11_count_118 fu 0 0 (up f 150 0 0) else some ((-1), (up f 150 0 0)))))))))))
set_option maxHeartbeats 4000000 in
set_option maxRecDepth 100000 in
theorem SX11_count_0 {G : GT} {l : Launch} {Q : Option AV → Mem → Prop}  (x1 : Int) (f : Mm) (h : OkI Q (FX11_count_0  x1 f)) : Ev G l MX11_count (Rm 1 0 0) (ZM G Q 0 0) 0 0 0 [some (vR 150), some (vI x1), none, none] [] (SH, RF, f) := by
  unfold FX11_count_0 at h
  refine ev_aload_n (i := 0) dX11_count_0 rfl rfl ?_
  refine ev_iconst dX11_count_1 (r32c rfl) ?_
  refine ev_putI dX11_count_2 fl_X11_98 sh_150 (by decide) (by decide) ?_
  refine ev_iconst dX11_count_5 (r32c rfl) ?_
  refine ev_istore_n (i := 2) (L' := [some (vR 150), some (vI x1), some (vI 0), none]) dX11_count_6 rfl (by decide) rfl ?_
  refine ev_iload_n (i := 1) dX11_count_7 rfl rfl ?_
  by_cases c1 : x1 = 0
  · rw [if_pos c1] at h
    refine ev_tIn (off := 52) (tgt := 60) dX11_count_8 (by omega) (by omega) (by rw [c1]; rfl) (by decide) ?_
    refine ev_aload_n (i := 0) dX11_count_60 rfl rfl ?_
    refine ev_getR dX11_count_61 fl_X11_34 sh_150 (by decide) (by decide) rf_150_17 ?_
    refine ev_iconst dX11_count_64 (r32c rfl) ?_
    refine ex_iald (x := (f 157 0)) dX11_count_65 sh_157 (by decide) (by decide) rfl ?_
    exact ev_iret rfl dX11_count_66 h
  · rw [if_neg c1] at h
    by_cases c2 : x1 = 1
    · rw [if_pos c2] at h
      refine ev_tIn (off := 59) (tgt := 67) dX11_count_8 (by omega) (by omega) (by rw [c2]; rfl) (by decide) ?_
      refine ev_aload_n (i := 0) dX11_count_67 rfl rfl ?_
      refine ev_getR dX11_count_68 fl_X11_34 sh_150 (by decide) (by decide) rf_150_17 ?_
      refine ev_iconst dX11_count_71 (r32c rfl) ?_
      refine ex_iald (x := (f 157 3)) dX11_count_72 sh_157 (by decide) (by decide) rfl ?_
      exact ev_iret rfl dX11_count_73 h
    · rw [if_neg c2] at h
      by_cases c3 : x1 = 2
      · rw [if_pos c3] at h
        refine ev_tIn (off := 66) (tgt := 74) dX11_count_8 (by omega) (by omega) (by rw [c3]; rfl) (by decide) ?_
        refine ev_aload_n (i := 0) dX11_count_74 rfl rfl ?_
        refine ev_getR dX11_count_75 fl_X11_34 sh_150 (by decide) (by decide) rf_150_17 ?_
        refine ev_iconst dX11_count_78 (r32c rfl) ?_
        refine ex_iald (x := (f 157 4)) dX11_count_79 sh_157 (by decide) (by decide) rfl ?_
        exact ev_iret rfl dX11_count_80 h
      · rw [if_neg c3] at h
        by_cases c4 : x1 = 3
        · rw [if_pos c4] at h
          refine ev_tIn (off := 73) (tgt := 81) dX11_count_8 (by omega) (by omega) (by rw [c4]; rfl) (by decide) ?_
          refine ev_aload_n (i := 0) dX11_count_81 rfl rfl ?_
          refine ev_getR dX11_count_82 fl_X11_34 sh_150 (by decide) (by decide) rf_150_17 ?_
          refine ev_iconst dX11_count_85 (r32c rfl) ?_
          refine ex_iald (x := (f 157 5)) dX11_count_86 sh_157 (by decide) (by decide) rfl ?_
          exact ev_iret rfl dX11_count_87 h
        · rw [if_neg c4] at h
          by_cases c5 : x1 = 4
          · rw [if_pos c5] at h
            refine ev_tIn (off := 80) (tgt := 88) dX11_count_8 (by omega) (by omega) (by rw [c5]; rfl) (by decide) ?_
            refine ev_aload_n (i := 0) dX11_count_88 rfl rfl ?_
            refine ev_getR dX11_count_89 fl_X11_34 sh_150 (by decide) (by decide) rf_150_17 ?_
            refine ev_bipush (v := 6) dX11_count_92 (r32c rfl) (by decide) ?_
            refine ex_iald (x := (f 157 6)) dX11_count_94 sh_157 (by decide) (by decide) rfl ?_
            exact ev_iret rfl dX11_count_95 h
          · rw [if_neg c5] at h
            by_cases c6 : x1 = 5
            · rw [if_pos c6] at h
              refine ev_tIn (off := 88) (tgt := 96) dX11_count_8 (by omega) (by omega) (by rw [c6]; rfl) (by decide) ?_
              refine ev_aload_n (i := 0) dX11_count_96 rfl rfl ?_
              refine ev_getR dX11_count_97 fl_X11_34 sh_150 (by decide) (by decide) rf_150_17 ?_
              refine ev_bipush (v := 7) dX11_count_100 (r32c rfl) (by decide) ?_
              refine ex_iald (x := (f 157 7)) dX11_count_102 sh_157 (by decide) (by decide) rfl ?_
              exact ev_iret rfl dX11_count_103 h
            · rw [if_neg c6] at h
              by_cases c7 : x1 = 6
              · rw [if_pos c7] at h
                refine ev_tIn (off := 96) (tgt := 104) dX11_count_8 (by omega) (by omega) (by rw [c7]; rfl) (by decide) ?_
                refine ev_aload_n (i := 0) dX11_count_104 rfl rfl ?_
                refine ev_getR dX11_count_105 fl_X11_31 sh_150 (by decide) (by decide) rf_150_16 ?_
                refine ev_iconst dX11_count_108 (r32c rfl) ?_
                refine ex_iald (x := (f 156 0)) dX11_count_109 sh_156 (by decide) (by decide) rfl ?_
                exact ev_iret rfl dX11_count_110 h
              · rw [if_neg c7] at h
                by_cases c8 : x1 = 7
                · rw [if_pos c8] at h
                  refine ev_tIn (off := 103) (tgt := 111) dX11_count_8 (by omega) (by omega) (by rw [c8]; rfl) (by decide) ?_
                  refine ev_aload_n (i := 0) dX11_count_111 rfl rfl ?_
                  refine ex_getI (x := (f 150 6)) dX11_count_112 fl_X11_115 sh_150 (by decide) (by decide) rfl ?_
                  exact ev_iret rfl dX11_count_115 h
                · rw [if_neg c8] at h
                  by_cases c9 : x1 = 8
                  · rw [if_pos c9] at h
                    refine ev_tIn (off := 108) (tgt := 116) dX11_count_8 (by omega) (by omega) (by rw [c9]; rfl) (by decide) ?_
                    refine ev_iconst dX11_count_116 (r32c rfl) ?_
                    refine ev_istore_n (i := 3) (L' := [some (vR 150), some (vI x1), some (vI 0), some (vI 0)]) dX11_count_117 rfl (by decide) rfl ?_
                    refine ev_fg [true, false, true, true] rfl ?_
                    exact SX11_count_118  fu 0 0 _ h
                  · rw [if_neg c9] at h
                    refine ev_tOut (tgt := 149) dX11_count_8 (by omega) (by decide) ?_
                    refine ev_iconst dX11_count_149 (r32c rfl) ?_
                    exact ev_iret rfl dX11_count_150 h
def FX11_count (x1 : Int) (f : Mm) : Option (Int × Mm) := FX11_count_0 x1 f
set_option maxRecDepth 100000 in
theorem TX11_count {G : GT} {l : Launch} {Q : Option AV → Mem → Prop} (x1 : Int) (f : Mm) (h : OkI Q (FX11_count x1 f)) : Ret G l MX11_count (1) 0 0 [vR 150, vI x1] (SH, RF, f) Q := by
  refine ret_of (L := [some (vR 150), some (vI x1), none, none]) (by decide) rfl (Nat.le_of_ble_eq_true rfl) ?_
  exact SX11_count_0 x1 f h
theorem dX11_image_0 : decode cX11_image 0 = .ok (.aload_n 0, 1) := by decide +kernel
theorem dX11_image_1 : decode cX11_image 1 = .ok (.iconst 0, 1) := by decide +kernel
theorem dX11_image_2 : decode cX11_image 2 = .ok (.putfield 98, 3) := by decide +kernel
theorem dX11_image_5 : decode cX11_image 5 = .ok (.iload_n 1, 1) := by decide +kernel
theorem dX11_image_6 : decode cX11_image 6 = .ok (.i2l, 1) := by decide +kernel
theorem dX11_image_7 : decode cX11_image 7 = .ok (.lconst 0, 1) := by decide +kernel
theorem dX11_image_8 : decode cX11_image 8 = .ok (.ldc2_w 494, 3) := by decide +kernel
theorem dX11_image_11 : decode cX11_image 11 = .ok (.invokestatic 103, 3) := by decide +kernel
theorem dX11_image_14 : decode cX11_image 14 = .ok (.ifCond .ne 6, 3) := by decide +kernel
theorem dX11_image_20 : decode cX11_image 20 = .ok (.aload_n 0, 1) := by decide +kernel
theorem dX11_image_21 : decode cX11_image 21 = .ok (.iconst 0, 1) := by decide +kernel
theorem dX11_image_22 : decode cX11_image 22 = .ok (.iconst 1, 1) := by decide +kernel
theorem dX11_image_23 : decode cX11_image 23 = .ok (.iload_n 1, 1) := by decide +kernel
theorem dX11_image_24 : decode cX11_image 24 = .ok (.iadd, 1) := by decide +kernel
theorem dX11_image_25 : decode cX11_image 25 = .ok (.invokevirtual 259, 3) := by decide +kernel
theorem dX11_image_28 : decode cX11_image 28 = .ok (.aload_n 0, 1) := by decide +kernel
theorem dX11_image_29 : decode cX11_image 29 = .ok (.getfield 46, 3) := by decide +kernel
theorem dX11_image_32 : decode cX11_image 32 = .ok (.iload_n 1, 1) := by decide +kernel
theorem dX11_image_33 : decode cX11_image 33 = .ok (.iconst 1, 1) := by decide +kernel
theorem dX11_image_34 : decode cX11_image 34 = .ok (.bastore, 1) := by decide +kernel
theorem dX11_image_35 : decode cX11_image 35 = .ok (.iconst 0, 1) := by decide +kernel
theorem dX11_image_36 : decode cX11_image 36 = .ok (.ireturn, 1) := by decide +kernel
theorem dX11_image_17 : decode cX11_image 17 = .ok (.bipush (-2), 2) := by decide +kernel
theorem dX11_image_19 : decode cX11_image 19 = .ok (.ireturn, 1) := by decide +kernel
def FX11_image_0  (x1 : Int) (f : Mm) : Option (Int × Mm) := (b2 (FX11_in x1 0 2 (up f 150 0 0)) fun y1 f1 => (if y1 = 0 then some ((-2), f1) else ((FX11_copyBridge 0 (w32 (1 + x1)) f1).bind fun f2 => (if 0 ≤ x1 ∧ x1 < 3 then some (0, (up f2 161 x1.toNat 1)) else none))))
set_option maxHeartbeats 4000000 in
set_option maxRecDepth 100000 in
theorem SX11_image_0 {G : GT} {l : Launch} {Q : Option AV → Mem → Prop}  (x1 : Int) (f : Mm) (h : OkI Q (FX11_image_0  x1 f)) : Ev G l MX11_image (Rm 3 0 0) (ZM G Q 0 0) 0 0 0 [some (vR 150), some (vI x1)] [] (SH, RF, f) := by
  unfold FX11_image_0 at h
  refine ev_aload_n (i := 0) dX11_image_0 rfl rfl ?_
  refine ev_iconst dX11_image_1 (r32c rfl) ?_
  refine ev_putI dX11_image_2 fl_X11_98 sh_150 (by decide) (by decide) ?_
  refine ev_iload_n (i := 1) dX11_image_5 rfl rfl ?_
  refine ev_i2l dX11_image_6 ?_
  refine ev_lconst (v := 0) dX11_image_7 (r64c rfl) (by decide) ?_
  refine ev_ldc2 (v := 2) dX11_image_8 (r64c rfl) kc_X11_494 ?_
  refine ev_cSI (av := [vJ x1, vJ 0, vJ 2]) (S := []) (fun q => q) h dX11_image_11 (fun Q' q => TX11_in x1 0 2 _ q) ksX11_in ml_X11_103 rfl (RRc (by decide) (by decide)) (Nat.le_of_ble_eq_true rfl) ⟨Nat.le_of_ble_eq_true rfl, Nat.le_of_ble_eq_true rfl⟩ (fun y1 f1 h => ?_)
  refine ev_if_ne (tgt := 20) dX11_image_14 (by decide) (fun c4 => ?_) (fun c4 => ?_)
  · rw [if_neg c4] at h
    refine ev_aload_n (i := 0) dX11_image_20 rfl rfl ?_
    refine ev_iconst dX11_image_21 (r32c rfl) ?_
    refine ev_iconst dX11_image_22 (r32c rfl) ?_
    refine ev_iload_n (i := 1) dX11_image_23 rfl rfl ?_
    refine ev_iadd dX11_image_24 ?_
    refine ev_cVV (b := 150) (av := [vI 0, vI (w32 (1 + x1))]) (S := []) (fun q => q) h dX11_image_25 (fun Q' q => TX11_copyBridge 0 (w32 (1 + x1)) _ q) kvX11_copyBridge ml_X11_259 sh_150 rfl (RRc (by decide) (by decide)) (Nat.le_of_ble_eq_true rfl) ⟨Nat.le_of_ble_eq_true rfl, Nat.le_of_ble_eq_true rfl⟩ (fun f2 h => ?_)
    refine ev_aload_n (i := 0) dX11_image_28 rfl rfl ?_
    refine ev_getR dX11_image_29 fl_X11_46 sh_150 (by decide) (by decide) rf_150_21 ?_
    refine ev_iload_n (i := 1) dX11_image_32 rfl rfl ?_
    refine ev_iconst dX11_image_33 (r32c rfl) ?_
    by_cases g3 : 0 ≤ x1 ∧ x1 < 3
    · rw [if_pos g3] at h
      refine ex_zast (j := x1.toNat) dX11_image_34 sh_161 g3.1 g3.2 (by decide) rfl ?_
      refine ev_iconst dX11_image_35 (r32c rfl) ?_
      exact ev_iret rfl dX11_image_36 h
    · rw [if_neg g3] at h; exact h.elim
  · rw [if_pos c4] at h
    refine ev_bipush (v := (-2)) dX11_image_17 (r32c rfl) (by decide) ?_
    exact ev_iret rfl dX11_image_19 h
def FX11_image (x1 : Int) (f : Mm) : Option (Int × Mm) := FX11_image_0 x1 f
set_option maxRecDepth 100000 in
theorem TX11_image {G : GT} {l : Launch} {Q : Option AV → Mem → Prop} (x1 : Int) (f : Mm) (h : OkI Q (FX11_image x1 f)) : Ret G l MX11_image (3) 0 0 [vR 150, vI x1] (SH, RF, f) Q := by
  refine ret_of (L := [some (vR 150), some (vI x1)]) (by decide) rfl (Nat.le_of_ble_eq_true rfl) ?_
  exact SX11_image_0 x1 f h
theorem dX11_back_0 : decode cX11_back 0 = .ok (.aload_n 0, 1) := by decide +kernel
theorem dX11_back_1 : decode cX11_back 1 = .ok (.iconst 0, 1) := by decide +kernel
theorem dX11_back_2 : decode cX11_back 2 = .ok (.putfield 98, 3) := by decide +kernel
theorem dX11_back_5 : decode cX11_back 5 = .ok (.iload_n 1, 1) := by decide +kernel
theorem dX11_back_6 : decode cX11_back 6 = .ok (.i2l, 1) := by decide +kernel
theorem dX11_back_7 : decode cX11_back 7 = .ok (.lconst 0, 1) := by decide +kernel
theorem dX11_back_8 : decode cX11_back 8 = .ok (.ldc2_w 494, 3) := by decide +kernel
theorem dX11_back_11 : decode cX11_back 11 = .ok (.invokestatic 103, 3) := by decide +kernel
theorem dX11_back_14 : decode cX11_back 14 = .ok (.ifCond .ne 6, 3) := by decide +kernel
theorem dX11_back_20 : decode cX11_back 20 = .ok (.aload_n 0, 1) := by decide +kernel
theorem dX11_back_21 : decode cX11_back 21 = .ok (.getfield 46, 3) := by decide +kernel
theorem dX11_back_24 : decode cX11_back 24 = .ok (.iload_n 1, 1) := by decide +kernel
theorem dX11_back_25 : decode cX11_back 25 = .ok (.baload, 1) := by decide +kernel
theorem dX11_back_26 : decode cX11_back 26 = .ok (.ifCond .ne 6, 3) := by decide +kernel
theorem dX11_back_32 : decode cX11_back 32 = .ok (.aload_n 0, 1) := by decide +kernel
theorem dX11_back_33 : decode cX11_back 33 = .ok (.iconst 1, 1) := by decide +kernel
theorem dX11_back_34 : decode cX11_back 34 = .ok (.iload_n 1, 1) := by decide +kernel
theorem dX11_back_35 : decode cX11_back 35 = .ok (.iadd, 1) := by decide +kernel
theorem dX11_back_36 : decode cX11_back 36 = .ok (.iconst 0, 1) := by decide +kernel
theorem dX11_back_37 : decode cX11_back 37 = .ok (.invokevirtual 259, 3) := by decide +kernel
theorem dX11_back_40 : decode cX11_back 40 = .ok (.iconst 0, 1) := by decide +kernel
theorem dX11_back_41 : decode cX11_back 41 = .ok (.ireturn, 1) := by decide +kernel
theorem dX11_back_29 : decode cX11_back 29 = .ok (.bipush (-6), 2) := by decide +kernel
theorem dX11_back_31 : decode cX11_back 31 = .ok (.ireturn, 1) := by decide +kernel
theorem dX11_back_17 : decode cX11_back 17 = .ok (.bipush (-2), 2) := by decide +kernel
theorem dX11_back_19 : decode cX11_back 19 = .ok (.ireturn, 1) := by decide +kernel
def FX11_back_0  (x1 : Int) (f : Mm) : Option (Int × Mm) := (b2 (FX11_in x1 0 2 (up f 150 0 0)) fun y1 f1 => (if y1 = 0 then some ((-2), f1) else (if 0 ≤ x1 ∧ x1 < 3 then (if (f1 161 x1.toNat) = 0 then some ((-6), f1) else ((FX11_copyBridge (w32 (1 + x1)) 0 f1).bind fun f3 => some (0, f3))) else none)))
set_option maxHeartbeats 4000000 in
set_option maxRecDepth 100000 in
theorem SX11_back_0 {G : GT} {l : Launch} {Q : Option AV → Mem → Prop}  (x1 : Int) (f : Mm) (h : OkI Q (FX11_back_0  x1 f)) : Ev G l MX11_back (Rm 3 0 0) (ZM G Q 0 0) 0 0 0 [some (vR 150), some (vI x1)] [] (SH, RF, f) := by
  unfold FX11_back_0 at h
  refine ev_aload_n (i := 0) dX11_back_0 rfl rfl ?_
  refine ev_iconst dX11_back_1 (r32c rfl) ?_
  refine ev_putI dX11_back_2 fl_X11_98 sh_150 (by decide) (by decide) ?_
  refine ev_iload_n (i := 1) dX11_back_5 rfl rfl ?_
  refine ev_i2l dX11_back_6 ?_
  refine ev_lconst (v := 0) dX11_back_7 (r64c rfl) (by decide) ?_
  refine ev_ldc2 (v := 2) dX11_back_8 (r64c rfl) kc_X11_494 ?_
  refine ev_cSI (av := [vJ x1, vJ 0, vJ 2]) (S := []) (fun q => q) h dX11_back_11 (fun Q' q => TX11_in x1 0 2 _ q) ksX11_in ml_X11_103 rfl (RRc (by decide) (by decide)) (Nat.le_of_ble_eq_true rfl) ⟨Nat.le_of_ble_eq_true rfl, Nat.le_of_ble_eq_true rfl⟩ (fun y1 f1 h => ?_)
  refine ev_if_ne (tgt := 20) dX11_back_14 (by decide) (fun c5 => ?_) (fun c5 => ?_)
  · rw [if_neg c5] at h
    refine ev_aload_n (i := 0) dX11_back_20 rfl rfl ?_
    refine ev_getR dX11_back_21 fl_X11_46 sh_150 (by decide) (by decide) rf_150_21 ?_
    refine ev_iload_n (i := 1) dX11_back_24 rfl rfl ?_
    by_cases g2 : 0 ≤ x1 ∧ x1 < 3
    · rw [if_pos g2] at h
      refine ex_zald (x := (f1 161 x1.toNat)) dX11_back_25 sh_161 g2.1 g2.2 rfl ?_
      refine ev_if_ne (tgt := 32) dX11_back_26 (by decide) (fun c4 => ?_) (fun c4 => ?_)
      · rw [if_neg c4] at h
        refine ev_aload_n (i := 0) dX11_back_32 rfl rfl ?_
        refine ev_iconst dX11_back_33 (r32c rfl) ?_
        refine ev_iload_n (i := 1) dX11_back_34 rfl rfl ?_
        refine ev_iadd dX11_back_35 ?_
        refine ev_iconst dX11_back_36 (r32c rfl) ?_
        refine ev_cVV (b := 150) (av := [vI (w32 (1 + x1)), vI 0]) (S := []) (fun q => q) h dX11_back_37 (fun Q' q => TX11_copyBridge (w32 (1 + x1)) 0 _ q) kvX11_copyBridge ml_X11_259 sh_150 rfl (RRc (by decide) (by decide)) (Nat.le_of_ble_eq_true rfl) ⟨Nat.le_of_ble_eq_true rfl, Nat.le_of_ble_eq_true rfl⟩ (fun f3 h => ?_)
        refine ev_iconst dX11_back_40 (r32c rfl) ?_
        exact ev_iret rfl dX11_back_41 h
      · rw [if_pos c4] at h
        refine ev_bipush (v := (-6)) dX11_back_29 (r32c rfl) (by decide) ?_
        exact ev_iret rfl dX11_back_31 h
    · rw [if_neg g2] at h; exact h.elim
  · rw [if_pos c5] at h
    refine ev_bipush (v := (-2)) dX11_back_17 (r32c rfl) (by decide) ?_
    exact ev_iret rfl dX11_back_19 h
def FX11_back (x1 : Int) (f : Mm) : Option (Int × Mm) := FX11_back_0 x1 f
set_option maxRecDepth 100000 in
theorem TX11_back {G : GT} {l : Launch} {Q : Option AV → Mem → Prop} (x1 : Int) (f : Mm) (h : OkI Q (FX11_back x1 f)) : Ret G l MX11_back (3) 0 0 [vR 150, vI x1] (SH, RF, f) Q := by
  refine ret_of (L := [some (vR 150), some (vI x1)]) (by decide) rfl (Nat.le_of_ble_eq_true rfl) ?_
  exact SX11_back_0 x1 f h
theorem dX7_add_40 : decode cX7_add 40 = .ok (.iinc 2 (-8), 3) := by decide +kernel
theorem dX7_add_43 : decode cX7_add 43 = .ok (.goto (-40), 3) := by decide +kernel
theorem dX7_add_3 : decode cX7_add 3 = .ok (.iload_n 2, 1) := by decide +kernel
theorem dX7_add_4 : decode cX7_add 4 = .ok (.ifCond .lt 42, 3) := by decide +kernel
theorem dX7_add_46 : decode cX7_add 46 = .ok (.return_, 1) := by decide +kernel
theorem dX7_add_7 : decode cX7_add 7 = .ok (.aload_n 0, 1) := by decide +kernel
theorem dX7_add_8 : decode cX7_add 8 = .ok (.getfield 15, 3) := by decide +kernel
theorem dX7_add_11 : decode cX7_add 11 = .ok (.sipush 800, 3) := by decide +kernel
theorem dX7_add_14 : decode cX7_add 14 = .ok (.if_icmp .ge 26, 3) := by decide +kernel
theorem dX7_add_17 : decode cX7_add 17 = .ok (.aload_n 0, 1) := by decide +kernel
theorem dX7_add_18 : decode cX7_add 18 = .ok (.getfield 9, 3) := by decide +kernel
theorem dX7_add_21 : decode cX7_add 21 = .ok (.aload_n 0, 1) := by decide +kernel
theorem dX7_add_22 : decode cX7_add 22 = .ok (.getfield 15, 3) := by decide +kernel
theorem dX7_add_25 : decode cX7_add 25 = .ok (.iload_n 1, 1) := by decide +kernel
theorem dX7_add_26 : decode cX7_add 26 = .ok (.iload_n 2, 1) := by decide +kernel
theorem dX7_add_27 : decode cX7_add 27 = .ok (.ishr, 1) := by decide +kernel
theorem dX7_add_28 : decode cX7_add 28 = .ok (.i2b, 1) := by decide +kernel
theorem dX7_add_29 : decode cX7_add 29 = .ok (.bastore, 1) := by decide +kernel
theorem dX7_add_30 : decode cX7_add 30 = .ok (.aload_n 0, 1) := by decide +kernel
theorem dX7_add_31 : decode cX7_add 31 = .ok (.dup, 1) := by decide +kernel
theorem dX7_add_32 : decode cX7_add 32 = .ok (.getfield 15, 3) := by decide +kernel
theorem dX7_add_35 : decode cX7_add 35 = .ok (.iconst 1, 1) := by decide +kernel
theorem dX7_add_36 : decode cX7_add 36 = .ok (.iadd, 1) := by decide +kernel
theorem dX7_add_37 : decode cX7_add 37 = .ok (.putfield 15, 3) := by decide +kernel
theorem dX7_add_0 : decode cX7_add 0 = .ok (.bipush 24, 2) := by decide +kernel
theorem dX7_add_2 : decode cX7_add 2 = .ok (.istore_n 2, 1) := by decide +kernel
def FX7_add_40 (k3 : Int → Int → Mm → Option Mm) (x1 : Int) (x2 : Int) (f : Mm) : Option Mm := k3 x1 (w32 (x2 + (-8))) f
set_option maxHeartbeats 4000000 in
set_option maxRecDepth 100000 in
theorem SX7_add_40 {G : GT} {l : Launch} {Q : Option AV → Mem → Prop} {k3 : Int → Int → Mm → Option Mm} (q3 : ∀ (x1 : Int) (x2 : Int) (f : Mm), OkV Q (k3 x1 x2 f) → Ev G l MX7_add (Rm 1 0 0) (ZM G Q 0 0) 0 0 3 [some (vR 2), some (vI x1), some (vI x2)] [] (SH, RF, f)) (x1 : Int) (x2 : Int) (f : Mm) (h : OkV Q (FX7_add_40 k3 x1 x2 f)) : Ev G l MX7_add (Rm 1 0 0) (ZM G Q 0 0) 0 0 40 [some (vR 2), some (vI x1), some (vI x2)] [] (SH, RF, f) := by
  unfold FX7_add_40 at h
  refine ev_iinc (L' := [some (vR 2), some (vI x1), some (vI (w32 (x2 + (-8))))]) dX7_add_40 rfl (by decide) rfl ?_
  refine ev_goto (tgt := 3) dX7_add_43 (by decide) ?_
  exact q3 x1 (w32 (x2 + (-8))) _ h
def FX7_add_3  : Nat → Int → Int → Mm → Option Mm
  | 0, _, _, _ => none
  | n + 1, x1, x2, f => (if x2 < 0 then some f else (if 800 ≤ (f 2 1) then FX7_add_40 (FX7_add_3 n) x1 x2 f else (if 0 ≤ (f 2 1) ∧ (f 2 1) < 800 then FX7_add_40 (FX7_add_3 n) x1 x2 (up (up f 3 (f 2 1).toNat (w8 (w8 (bShr x1 x2)))) 2 1 (w32 ((f 2 1) + 1))) else none)))
set_option maxHeartbeats 4000000 in
set_option maxRecDepth 100000 in
theorem SX7_add_3 {G : GT} {l : Launch} {Q : Option AV → Mem → Prop}  : ∀ (n : Nat) (x1 : Int) (x2 : Int) (f : Mm), OkV Q (FX7_add_3  n x1 x2 f) → Ev G l MX7_add (Rm 1 0 0) (ZM G Q 0 0) 0 0 3 [some (vR 2), some (vI x1), some (vI x2)] [] (SH, RF, f) := by
  intro n
  induction n with
  | zero => intro x1 x2 f h; exact absurd h (by rw [FX7_add_3]; exact fun q => q)
  | succ n ih =>
    intro x1 x2 f h
    rw [FX7_add_3] at h
    refine ev_iload_n (i := 2) dX7_add_3 rfl rfl ?_
    refine ev_if_lt (tgt := 46) dX7_add_4 (by decide) (fun c3 => ?_) (fun c3 => ?_)
    · rw [if_pos c3] at h
      exact ev_vret rfl dX7_add_46 h
    · rw [if_neg c3] at h
      refine ev_aload_n (i := 0) dX7_add_7 rfl rfl ?_
      refine ex_getI (x := (f 2 1)) dX7_add_8 fl_X7_15 sh_2 (by decide) (by decide) rfl ?_
      refine ev_sipush (v := 800) dX7_add_11 (r32c rfl) (by decide) ?_
      refine ev_icmp_ge (tgt := 40) dX7_add_14 (by decide) (fun c2 => ?_) (fun c2 => ?_)
      · rw [if_pos c2] at h
        exact SX7_add_40 ih x1 x2 _ h
      · rw [if_neg c2] at h
        refine ev_aload_n (i := 0) dX7_add_17 rfl rfl ?_
        refine ev_getR dX7_add_18 fl_X7_9 sh_2 (by decide) (by decide) rf_2_0 ?_
        refine ev_aload_n (i := 0) dX7_add_21 rfl rfl ?_
        refine ex_getI (x := (f 2 1)) dX7_add_22 fl_X7_15 sh_2 (by decide) (by decide) rfl ?_
        refine ev_iload_n (i := 1) dX7_add_25 rfl rfl ?_
        refine ev_iload_n (i := 2) dX7_add_26 rfl rfl ?_
        refine ev_ishr dX7_add_27 ?_
        refine ev_i2b dX7_add_28 ?_
        by_cases g1 : 0 ≤ (f 2 1) ∧ (f 2 1) < 800
        · rw [if_pos g1] at h
          refine ex_bast (j := (f 2 1).toNat) dX7_add_29 sh_3 g1.1 g1.2 rfl ?_
          refine ev_aload_n (i := 0) dX7_add_30 rfl rfl ?_
          refine ev_dupR dX7_add_31 ?_
          refine ex_getI (x := (f 2 1)) dX7_add_32 fl_X7_15 sh_2 (by decide) (by decide) rfl ?_
          refine ev_iconst dX7_add_35 (r32c rfl) ?_
          refine ev_iadd dX7_add_36 ?_
          refine ev_putI dX7_add_37 fl_X7_15 sh_2 (by decide) (by decide) ?_
          exact SX7_add_40 ih x1 x2 _ h
        · rw [if_neg g1] at h; exact h.elim
def FX7_add_0  (x1 : Int) (f : Mm) : Option Mm := FX7_add_3 fu x1 24 f
set_option maxHeartbeats 4000000 in
set_option maxRecDepth 100000 in
theorem SX7_add_0 {G : GT} {l : Launch} {Q : Option AV → Mem → Prop}  (x1 : Int) (f : Mm) (h : OkV Q (FX7_add_0  x1 f)) : Ev G l MX7_add (Rm 1 0 0) (ZM G Q 0 0) 0 0 0 [some (vR 2), some (vI x1), none] [] (SH, RF, f) := by
  unfold FX7_add_0 at h
  refine ev_bipush (v := 24) dX7_add_0 (r32c rfl) (by decide) ?_
  refine ev_istore_n (i := 2) (L' := [some (vR 2), some (vI x1), some (vI 24)]) dX7_add_2 rfl (by decide) rfl ?_
  exact SX7_add_3  fu x1 24 _ h
def FX7_add (x1 : Int) (f : Mm) : Option Mm := FX7_add_0 x1 f
set_option maxRecDepth 100000 in
theorem TX7_add {G : GT} {l : Launch} {Q : Option AV → Mem → Prop} (x1 : Int) (f : Mm) (h : OkV Q (FX7_add x1 f)) : Ret G l MX7_add (1) 0 0 [vR 2, vI x1] (SH, RF, f) Q := by
  refine ret_of (L := [some (vR 2), some (vI x1), none]) (by decide) rfl (Nat.le_of_ble_eq_true rfl) ?_
  exact SX7_add_0 x1 f h
theorem dX10_feed_0 : decode cX10_feed 0 = .ok (.aload_n 0, 1) := by decide +kernel
theorem dX10_feed_1 : decode cX10_feed 1 = .ok (.getfield 10, 3) := by decide +kernel
theorem dX10_feed_4 : decode cX10_feed 4 = .ok (.getfield 76, 3) := by decide +kernel
theorem dX10_feed_7 : decode cX10_feed 7 = .ok (.getfield 80, 3) := by decide +kernel
theorem dX10_feed_10 : decode cX10_feed 10 = .ok (.bipush 20, 2) := by decide +kernel
theorem dX10_feed_12 : decode cX10_feed 12 = .ok (.iadd, 1) := by decide +kernel
theorem dX10_feed_13 : decode cX10_feed 13 = .ok (.sipush 800, 3) := by decide +kernel
theorem dX10_feed_16 : decode cX10_feed 16 = .ok (.if_icmp .le 5, 3) := by decide +kernel
theorem dX10_feed_21 : decode cX10_feed 21 = .ok (.aload_n 0, 1) := by decide +kernel
theorem dX10_feed_22 : decode cX10_feed 22 = .ok (.getfield 10, 3) := by decide +kernel
theorem dX10_feed_25 : decode cX10_feed 25 = .ok (.getfield 76, 3) := by decide +kernel
theorem dX10_feed_28 : decode cX10_feed 28 = .ok (.iload_n 1, 1) := by decide +kernel
theorem dX10_feed_29 : decode cX10_feed 29 = .ok (.invokevirtual 86, 3) := by decide +kernel
theorem dX10_feed_32 : decode cX10_feed 32 = .ok (.aload_n 0, 1) := by decide +kernel
theorem dX10_feed_33 : decode cX10_feed 33 = .ok (.getfield 10, 3) := by decide +kernel
theorem dX10_feed_36 : decode cX10_feed 36 = .ok (.getfield 76, 3) := by decide +kernel
theorem dX10_feed_39 : decode cX10_feed 39 = .ok (.iload_n 2, 1) := by decide +kernel
theorem dX10_feed_40 : decode cX10_feed 40 = .ok (.invokevirtual 86, 3) := by decide +kernel
theorem dX10_feed_43 : decode cX10_feed 43 = .ok (.aload_n 0, 1) := by decide +kernel
theorem dX10_feed_44 : decode cX10_feed 44 = .ok (.getfield 10, 3) := by decide +kernel
theorem dX10_feed_47 : decode cX10_feed 47 = .ok (.getfield 76, 3) := by decide +kernel
theorem dX10_feed_50 : decode cX10_feed 50 = .ok (.iload_n 3, 1) := by decide +kernel
theorem dX10_feed_51 : decode cX10_feed 51 = .ok (.invokevirtual 86, 3) := by decide +kernel
theorem dX10_feed_54 : decode cX10_feed 54 = .ok (.aload_n 0, 1) := by decide +kernel
theorem dX10_feed_55 : decode cX10_feed 55 = .ok (.getfield 10, 3) := by decide +kernel
theorem dX10_feed_58 : decode cX10_feed 58 = .ok (.getfield 76, 3) := by decide +kernel
theorem dX10_feed_61 : decode cX10_feed 61 = .ok (.iload 4, 2) := by decide +kernel
theorem dX10_feed_63 : decode cX10_feed 63 = .ok (.invokevirtual 86, 3) := by decide +kernel
theorem dX10_feed_66 : decode cX10_feed 66 = .ok (.aload_n 0, 1) := by decide +kernel
theorem dX10_feed_67 : decode cX10_feed 67 = .ok (.getfield 10, 3) := by decide +kernel
theorem dX10_feed_70 : decode cX10_feed 70 = .ok (.getfield 76, 3) := by decide +kernel
theorem dX10_feed_73 : decode cX10_feed 73 = .ok (.iload 5, 2) := by decide +kernel
theorem dX10_feed_75 : decode cX10_feed 75 = .ok (.invokevirtual 86, 3) := by decide +kernel
theorem dX10_feed_78 : decode cX10_feed 78 = .ok (.aload_n 0, 1) := by decide +kernel
theorem dX10_feed_79 : decode cX10_feed 79 = .ok (.getfield 10, 3) := by decide +kernel
theorem dX10_feed_82 : decode cX10_feed 82 = .ok (.getfield 76, 3) := by decide +kernel
theorem dX10_feed_85 : decode cX10_feed 85 = .ok (.getfield 80, 3) := by decide +kernel
theorem dX10_feed_88 : decode cX10_feed 88 = .ok (.ireturn, 1) := by decide +kernel
theorem dX10_feed_19 : decode cX10_feed 19 = .ok (.iconst (-1), 1) := by decide +kernel
theorem dX10_feed_20 : decode cX10_feed 20 = .ok (.ireturn, 1) := by decide +kernel
def FX10_feed_0  (x1 : Int) (x2 : Int) (x3 : Int) (x4 : Int) (x5 : Int) (f : Mm) : Option (Int × Mm) := (if (w32 ((f 2 1) + 20)) ≤ 800 then ((FX7_add x1 f).bind fun f1 => ((FX7_add x2 f1).bind fun f2 => ((FX7_add x3 f2).bind fun f3 => ((FX7_add x4 f3).bind fun f4 => ((FX7_add x5 f4).bind fun f5 => some ((f5 2 1), f5)))))) else some ((-1), f))
set_option maxHeartbeats 4000000 in
set_option maxRecDepth 100000 in
theorem SX10_feed_0 {G : GT} {l : Launch} {Q : Option AV → Mem → Prop}  (x1 : Int) (x2 : Int) (x3 : Int) (x4 : Int) (x5 : Int) (f : Mm) (h : OkI Q (FX10_feed_0  x1 x2 x3 x4 x5 f)) : Ev G l MX10_feed (Rm 2 0 0) (ZM G Q 0 0) 0 0 0 [some (vR 0), some (vI x1), some (vI x2), some (vI x3), some (vI x4), some (vI x5)] [] (SH, RF, f) := by
  unfold FX10_feed_0 at h
  refine ev_aload_n (i := 0) dX10_feed_0 rfl rfl ?_
  refine ev_getR dX10_feed_1 fl_X10_10 sh_0 (by decide) (by decide) rf_0_0 ?_
  refine ev_getR dX10_feed_4 fl_X10_76 sh_1 (by decide) (by decide) rf_1_2 ?_
  refine ex_getI (x := (f 2 1)) dX10_feed_7 fl_X10_80 sh_2 (by decide) (by decide) rfl ?_
  refine ev_bipush (v := 20) dX10_feed_10 (r32c rfl) (by decide) ?_
  refine ev_iadd dX10_feed_12 ?_
  refine ev_sipush (v := 800) dX10_feed_13 (r32c rfl) (by decide) ?_
  refine ev_icmp_le (tgt := 21) dX10_feed_16 (by decide) (fun c6 => ?_) (fun c6 => ?_)
  · rw [if_pos c6] at h
    refine ev_aload_n (i := 0) dX10_feed_21 rfl rfl ?_
    refine ev_getR dX10_feed_22 fl_X10_10 sh_0 (by decide) (by decide) rf_0_0 ?_
    refine ev_getR dX10_feed_25 fl_X10_76 sh_1 (by decide) (by decide) rf_1_2 ?_
    refine ev_iload_n (i := 1) dX10_feed_28 rfl rfl ?_
    refine ev_cVV (b := 2) (av := [vI x1]) (S := []) (fun q => q) h dX10_feed_29 (fun Q' q => TX7_add x1 _ q) kvX7_add ml_X10_86 sh_2 rfl (RRc (by decide) (by decide)) (Nat.le_of_ble_eq_true rfl) ⟨Nat.le_of_ble_eq_true rfl, Nat.le_of_ble_eq_true rfl⟩ (fun f1 h => ?_)
    refine ev_aload_n (i := 0) dX10_feed_32 rfl rfl ?_
    refine ev_getR dX10_feed_33 fl_X10_10 sh_0 (by decide) (by decide) rf_0_0 ?_
    refine ev_getR dX10_feed_36 fl_X10_76 sh_1 (by decide) (by decide) rf_1_2 ?_
    refine ev_iload_n (i := 2) dX10_feed_39 rfl rfl ?_
    refine ev_cVV (b := 2) (av := [vI x2]) (S := []) (fun q => q) h dX10_feed_40 (fun Q' q => TX7_add x2 _ q) kvX7_add ml_X10_86 sh_2 rfl (RRc (by decide) (by decide)) (Nat.le_of_ble_eq_true rfl) ⟨Nat.le_of_ble_eq_true rfl, Nat.le_of_ble_eq_true rfl⟩ (fun f2 h => ?_)
    refine ev_aload_n (i := 0) dX10_feed_43 rfl rfl ?_
    refine ev_getR dX10_feed_44 fl_X10_10 sh_0 (by decide) (by decide) rf_0_0 ?_
    refine ev_getR dX10_feed_47 fl_X10_76 sh_1 (by decide) (by decide) rf_1_2 ?_
    refine ev_iload_n (i := 3) dX10_feed_50 rfl rfl ?_
    refine ev_cVV (b := 2) (av := [vI x3]) (S := []) (fun q => q) h dX10_feed_51 (fun Q' q => TX7_add x3 _ q) kvX7_add ml_X10_86 sh_2 rfl (RRc (by decide) (by decide)) (Nat.le_of_ble_eq_true rfl) ⟨Nat.le_of_ble_eq_true rfl, Nat.le_of_ble_eq_true rfl⟩ (fun f3 h => ?_)
    refine ev_aload_n (i := 0) dX10_feed_54 rfl rfl ?_
    refine ev_getR dX10_feed_55 fl_X10_10 sh_0 (by decide) (by decide) rf_0_0 ?_
    refine ev_getR dX10_feed_58 fl_X10_76 sh_1 (by decide) (by decide) rf_1_2 ?_
    refine ev_iload dX10_feed_61 rfl ?_
    refine ev_cVV (b := 2) (av := [vI x4]) (S := []) (fun q => q) h dX10_feed_63 (fun Q' q => TX7_add x4 _ q) kvX7_add ml_X10_86 sh_2 rfl (RRc (by decide) (by decide)) (Nat.le_of_ble_eq_true rfl) ⟨Nat.le_of_ble_eq_true rfl, Nat.le_of_ble_eq_true rfl⟩ (fun f4 h => ?_)
    refine ev_aload_n (i := 0) dX10_feed_66 rfl rfl ?_
    refine ev_getR dX10_feed_67 fl_X10_10 sh_0 (by decide) (by decide) rf_0_0 ?_
    refine ev_getR dX10_feed_70 fl_X10_76 sh_1 (by decide) (by decide) rf_1_2 ?_
    refine ev_iload dX10_feed_73 rfl ?_
    refine ev_cVV (b := 2) (av := [vI x5]) (S := []) (fun q => q) h dX10_feed_75 (fun Q' q => TX7_add x5 _ q) kvX7_add ml_X10_86 sh_2 rfl (RRc (by decide) (by decide)) (Nat.le_of_ble_eq_true rfl) ⟨Nat.le_of_ble_eq_true rfl, Nat.le_of_ble_eq_true rfl⟩ (fun f5 h => ?_)
    refine ev_aload_n (i := 0) dX10_feed_78 rfl rfl ?_
    refine ev_getR dX10_feed_79 fl_X10_10 sh_0 (by decide) (by decide) rf_0_0 ?_
    refine ev_getR dX10_feed_82 fl_X10_76 sh_1 (by decide) (by decide) rf_1_2 ?_
    refine ex_getI (x := (f5 2 1)) dX10_feed_85 fl_X10_80 sh_2 (by decide) (by decide) rfl ?_
    exact ev_iret rfl dX10_feed_88 h
  · rw [if_neg c6] at h
    refine ev_iconst dX10_feed_19 (r32c rfl) ?_
    exact ev_iret rfl dX10_feed_20 h
def FX10_feed (x1 : Int) (x2 : Int) (x3 : Int) (x4 : Int) (x5 : Int) (f : Mm) : Option (Int × Mm) := FX10_feed_0 x1 x2 x3 x4 x5 f
set_option maxRecDepth 100000 in
theorem TX10_feed {G : GT} {l : Launch} {Q : Option AV → Mem → Prop} (x1 : Int) (x2 : Int) (x3 : Int) (x4 : Int) (x5 : Int) (f : Mm) (h : OkI Q (FX10_feed x1 x2 x3 x4 x5 f)) : Ret G l MX10_feed (2) 0 0 [vR 0, vI x1, vI x2, vI x3, vI x4, vI x5] (SH, RF, f) Q := by
  refine ret_of (L := [some (vR 0), some (vI x1), some (vI x2), some (vI x3), some (vI x4), some (vI x5)]) (by decide) rfl (Nat.le_of_ble_eq_true rfl) ?_
  exact SX10_feed_0 x1 x2 x3 x4 x5 f h
theorem dX10_end_0 : decode cX10_end 0 = .ok (.iload_n 1, 1) := by decide +kernel
theorem dX10_end_1 : decode cX10_end 1 = .ok (.ifCond .lt 17, 3) := by decide +kernel
theorem dX10_end_18 : decode cX10_end 18 = .ok (.iconst (-1), 1) := by decide +kernel
theorem dX10_end_19 : decode cX10_end 19 = .ok (.ireturn, 1) := by decide +kernel
theorem dX10_end_4 : decode cX10_end 4 = .ok (.iload_n 1, 1) := by decide +kernel
theorem dX10_end_5 : decode cX10_end 5 = .ok (.aload_n 0, 1) := by decide +kernel
theorem dX10_end_6 : decode cX10_end 6 = .ok (.getfield 10, 3) := by decide +kernel
theorem dX10_end_9 : decode cX10_end 9 = .ok (.getfield 76, 3) := by decide +kernel
theorem dX10_end_12 : decode cX10_end 12 = .ok (.getfield 80, 3) := by decide +kernel
theorem dX10_end_15 : decode cX10_end 15 = .ok (.if_icmp .le 5, 3) := by decide +kernel
theorem dX10_end_20 : decode cX10_end 20 = .ok (.aload_n 0, 1) := by decide +kernel
theorem dX10_end_21 : decode cX10_end 21 = .ok (.getfield 10, 3) := by decide +kernel
theorem dX10_end_24 : decode cX10_end 24 = .ok (.getfield 76, 3) := by decide +kernel
theorem dX10_end_27 : decode cX10_end 27 = .ok (.iload_n 1, 1) := by decide +kernel
theorem dX10_end_28 : decode cX10_end 28 = .ok (.putfield 80, 3) := by decide +kernel
theorem dX10_end_31 : decode cX10_end 31 = .ok (.iload_n 1, 1) := by decide +kernel
theorem dX10_end_32 : decode cX10_end 32 = .ok (.ireturn, 1) := by decide +kernel
def FX10_end_0  (x1 : Int) (f : Mm) : Option (Int × Mm) := (if x1 < 0 then some ((-1), f) else (if x1 ≤ (f 2 1) then some (x1, (up f 2 1 x1)) else some ((-1), f)))
set_option maxHeartbeats 4000000 in
set_option maxRecDepth 100000 in
theorem SX10_end_0 {G : GT} {l : Launch} {Q : Option AV → Mem → Prop}  (x1 : Int) (f : Mm) (h : OkI Q (FX10_end_0  x1 f)) : Ev G l MX10_end (Rm 1 0 0) (ZM G Q 0 0) 0 0 0 [some (vR 0), some (vI x1)] [] (SH, RF, f) := by
  unfold FX10_end_0 at h
  refine ev_iload_n (i := 1) dX10_end_0 rfl rfl ?_
  refine ev_if_lt (tgt := 18) dX10_end_1 (by decide) (fun c2 => ?_) (fun c2 => ?_)
  · rw [if_pos c2] at h
    refine ev_iconst dX10_end_18 (r32c rfl) ?_
    exact ev_iret rfl dX10_end_19 h
  · rw [if_neg c2] at h
    refine ev_iload_n (i := 1) dX10_end_4 rfl rfl ?_
    refine ev_aload_n (i := 0) dX10_end_5 rfl rfl ?_
    refine ev_getR dX10_end_6 fl_X10_10 sh_0 (by decide) (by decide) rf_0_0 ?_
    refine ev_getR dX10_end_9 fl_X10_76 sh_1 (by decide) (by decide) rf_1_2 ?_
    refine ex_getI (x := (f 2 1)) dX10_end_12 fl_X10_80 sh_2 (by decide) (by decide) rfl ?_
    refine ev_icmp_le (tgt := 20) dX10_end_15 (by decide) (fun c1 => ?_) (fun c1 => ?_)
    · rw [if_pos c1] at h
      refine ev_aload_n (i := 0) dX10_end_20 rfl rfl ?_
      refine ev_getR dX10_end_21 fl_X10_10 sh_0 (by decide) (by decide) rf_0_0 ?_
      refine ev_getR dX10_end_24 fl_X10_76 sh_1 (by decide) (by decide) rf_1_2 ?_
      refine ev_iload_n (i := 1) dX10_end_27 rfl rfl ?_
      refine ev_putI dX10_end_28 fl_X10_80 sh_2 (by decide) (by decide) ?_
      refine ev_iload_n (i := 1) dX10_end_31 rfl rfl ?_
      exact ev_iret rfl dX10_end_32 h
    · rw [if_neg c1] at h
      refine ev_iconst dX10_end_18 (r32c rfl) ?_
      exact ev_iret rfl dX10_end_19 h
def FX10_end (x1 : Int) (f : Mm) : Option (Int × Mm) := FX10_end_0 x1 f
set_option maxRecDepth 100000 in
theorem TX10_end {G : GT} {l : Launch} {Q : Option AV → Mem → Prop} (x1 : Int) (f : Mm) (h : OkI Q (FX10_end x1 f)) : Ret G l MX10_end (1) 0 0 [vR 0, vI x1] (SH, RF, f) Q := by
  refine ret_of (L := [some (vR 0), some (vI x1)]) (by decide) rfl (Nat.le_of_ble_eq_true rfl) ?_
  exact SX10_end_0 x1 f h
theorem dX0_takeAllBack_7 : decode cX0_takeAllBack 7 = .ok (.iload_n 1, 1) := by decide +kernel
theorem dX0_takeAllBack_8 : decode cX0_takeAllBack 8 = .ok (.bipush 6, 2) := by decide +kernel
theorem dX0_takeAllBack_10 : decode cX0_takeAllBack 10 = .ok (.if_icmp .ge 16, 3) := by decide +kernel
theorem dX0_takeAllBack_26 : decode cX0_takeAllBack 26 = .ok (.return_, 1) := by decide +kernel
theorem dX0_takeAllBack_13 : decode cX0_takeAllBack 13 = .ok (.aload_n 0, 1) := by decide +kernel
theorem dX0_takeAllBack_14 : decode cX0_takeAllBack 14 = .ok (.getfield 23, 3) := by decide +kernel
theorem dX0_takeAllBack_17 : decode cX0_takeAllBack 17 = .ok (.iload_n 1, 1) := by decide +kernel
theorem dX0_takeAllBack_18 : decode cX0_takeAllBack 18 = .ok (.iconst (-1), 1) := by decide +kernel
theorem dX0_takeAllBack_19 : decode cX0_takeAllBack 19 = .ok (.iastore, 1) := by decide +kernel
theorem dX0_takeAllBack_20 : decode cX0_takeAllBack 20 = .ok (.iinc 1 1, 3) := by decide +kernel
theorem dX0_takeAllBack_23 : decode cX0_takeAllBack 23 = .ok (.goto (-16), 3) := by decide +kernel
theorem dX0_takeAllBack_0 : decode cX0_takeAllBack 0 = .ok (.aload_n 0, 1) := by decide +kernel
theorem dX0_takeAllBack_1 : decode cX0_takeAllBack 1 = .ok (.iconst 0, 1) := by decide +kernel
theorem dX0_takeAllBack_2 : decode cX0_takeAllBack 2 = .ok (.putfield 54, 3) := by decide +kernel
theorem dX0_takeAllBack_5 : decode cX0_takeAllBack 5 = .ok (.iconst 0, 1) := by decide +kernel
theorem dX0_takeAllBack_6 : decode cX0_takeAllBack 6 = .ok (.istore_n 1, 1) := by decide +kernel
def FX0_takeAllBack_21_7  : Nat → Int → Mm → Option Mm
  | 0, _, _ => none
  | n + 1, x1, f => (if 6 ≤ x1 then some f else (if 0 ≤ x1 ∧ x1 < 6 then FX0_takeAllBack_21_7 n (w32 (x1 + 1)) (up f 35 x1.toNat (-1)) else none))
set_option maxHeartbeats 4000000 in
set_option maxRecDepth 100000 in
theorem SX0_takeAllBack_21_7 {G : GT} {l : Launch} {Q : Option AV → Mem → Prop}  : ∀ (n : Nat) (x1 : Int) (f : Mm), OkV Q (FX0_takeAllBack_21_7  n x1 f) → Ev G l MX0_takeAllBack (Rm 1 0 0) (ZM G Q 0 0) 0 0 7 [some (vR 21), some (vI x1)] [] (SH, RF, f) := by
  intro n
  induction n with
  | zero => intro x1 f h; exact absurd h (by rw [FX0_takeAllBack_21_7]; exact fun q => q)
  | succ n ih =>
    intro x1 f h
    rw [FX0_takeAllBack_21_7] at h
    refine ev_iload_n (i := 1) dX0_takeAllBack_7 rfl rfl ?_
    refine ev_bipush (v := 6) dX0_takeAllBack_8 (r32c rfl) (by decide) ?_
    refine ev_icmp_ge (tgt := 26) dX0_takeAllBack_10 (by decide) (fun c2 => ?_) (fun c2 => ?_)
    · rw [if_pos c2] at h
      exact ev_vret rfl dX0_takeAllBack_26 h
    · rw [if_neg c2] at h
      refine ev_aload_n (i := 0) dX0_takeAllBack_13 rfl rfl ?_
      refine ev_getR dX0_takeAllBack_14 fl_X0_23 sh_21 (by decide) (by decide) rf_21_10 ?_
      refine ev_iload_n (i := 1) dX0_takeAllBack_17 rfl rfl ?_
      refine ev_iconst dX0_takeAllBack_18 (r32c rfl) ?_
      by_cases g1 : 0 ≤ x1 ∧ x1 < 6
      · rw [if_pos g1] at h
        refine ex_iast (j := x1.toNat) dX0_takeAllBack_19 sh_35 g1.1 g1.2 rfl ?_
        refine ev_iinc (L' := [some (vR 21), some (vI (w32 (x1 + 1)))]) dX0_takeAllBack_20 rfl (by decide) rfl ?_
        refine ev_goto (tgt := 7) dX0_takeAllBack_23 (by decide) ?_
        exact ih (w32 (x1 + 1)) _ h
      · rw [if_neg g1] at h; exact h.elim
def FX0_takeAllBack_21_0   (f : Mm) : Option Mm := FX0_takeAllBack_21_7 fu 0 (up f 21 6 0)
set_option maxHeartbeats 4000000 in
set_option maxRecDepth 100000 in
theorem SX0_takeAllBack_21_0 {G : GT} {l : Launch} {Q : Option AV → Mem → Prop}   (f : Mm) (h : OkV Q (FX0_takeAllBack_21_0   f)) : Ev G l MX0_takeAllBack (Rm 1 0 0) (ZM G Q 0 0) 0 0 0 [some (vR 21), none] [] (SH, RF, f) := by
  unfold FX0_takeAllBack_21_0 at h
  refine ev_aload_n (i := 0) dX0_takeAllBack_0 rfl rfl ?_
  refine ev_iconst dX0_takeAllBack_1 (r32c rfl) ?_
  refine ev_putI dX0_takeAllBack_2 fl_X0_54 sh_21 (by decide) (by decide) ?_
  refine ev_iconst dX0_takeAllBack_5 (r32c rfl) ?_
  refine ev_istore_n (i := 1) (L' := [some (vR 21), some (vI 0)]) dX0_takeAllBack_6 rfl (by decide) rfl ?_
  exact SX0_takeAllBack_21_7  fu 0 _ h
def FX0_takeAllBack_21  (f : Mm) : Option Mm := FX0_takeAllBack_21_0  f
set_option maxRecDepth 100000 in
theorem TX0_takeAllBack_21 {G : GT} {l : Launch} {Q : Option AV → Mem → Prop}  (f : Mm) (h : OkV Q (FX0_takeAllBack_21  f)) : Ret G l MX0_takeAllBack (1) 0 0 [vR 21] (SH, RF, f) Q := by
  refine ret_of (L := [some (vR 21), none]) (by decide) rfl (Nat.le_of_ble_eq_true rfl) ?_
  exact SX0_takeAllBack_21_0  f h
theorem dX0_clear_0 : decode cX0_clear 0 = .ok (.aload_n 0, 1) := by decide +kernel
theorem dX0_clear_1 : decode cX0_clear 1 = .ok (.iconst 0, 1) := by decide +kernel
theorem dX0_clear_2 : decode cX0_clear 2 = .ok (.putfield 32, 3) := by decide +kernel
theorem dX0_clear_5 : decode cX0_clear 5 = .ok (.aload_n 0, 1) := by decide +kernel
theorem dX0_clear_6 : decode cX0_clear 6 = .ok (.iconst 0, 1) := by decide +kernel
theorem dX0_clear_7 : decode cX0_clear 7 = .ok (.putfield 36, 3) := by decide +kernel
theorem dX0_clear_10 : decode cX0_clear 10 = .ok (.aload_n 0, 1) := by decide +kernel
theorem dX0_clear_11 : decode cX0_clear 11 = .ok (.iconst 0, 1) := by decide +kernel
theorem dX0_clear_12 : decode cX0_clear 12 = .ok (.putfield 39, 3) := by decide +kernel
theorem dX0_clear_15 : decode cX0_clear 15 = .ok (.aload_n 0, 1) := by decide +kernel
theorem dX0_clear_16 : decode cX0_clear 16 = .ok (.iconst 0, 1) := by decide +kernel
theorem dX0_clear_17 : decode cX0_clear 17 = .ok (.putfield 42, 3) := by decide +kernel
theorem dX0_clear_20 : decode cX0_clear 20 = .ok (.aload_n 0, 1) := by decide +kernel
theorem dX0_clear_21 : decode cX0_clear 21 = .ok (.iconst 0, 1) := by decide +kernel
theorem dX0_clear_22 : decode cX0_clear 22 = .ok (.putfield 45, 3) := by decide +kernel
theorem dX0_clear_25 : decode cX0_clear 25 = .ok (.aload_n 0, 1) := by decide +kernel
theorem dX0_clear_26 : decode cX0_clear 26 = .ok (.iconst 0, 1) := by decide +kernel
theorem dX0_clear_27 : decode cX0_clear 27 = .ok (.putfield 48, 3) := by decide +kernel
theorem dX0_clear_30 : decode cX0_clear 30 = .ok (.aload_n 0, 1) := by decide +kernel
theorem dX0_clear_31 : decode cX0_clear 31 = .ok (.invokevirtual 51, 3) := by decide +kernel
theorem dX0_clear_34 : decode cX0_clear 34 = .ok (.return_, 1) := by decide +kernel
def FX0_clear_21_0   (f : Mm) : Option Mm := ((FX0_takeAllBack_21 (up (up (up (up (up (up f 21 0 0) 21 1 0) 21 2 0) 21 3 0) 21 4 0) 21 5 0)).bind fun f1 => some f1)
set_option maxHeartbeats 4000000 in
set_option maxRecDepth 100000 in
theorem SX0_clear_21_0 {G : GT} {l : Launch} {Q : Option AV → Mem → Prop}   (f : Mm) (h : OkV Q (FX0_clear_21_0   f)) : Ev G l MX0_clear (Rm 2 0 0) (ZM G Q 0 0) 0 0 0 [some (vR 21)] [] (SH, RF, f) := by
  unfold FX0_clear_21_0 at h
  refine ev_aload_n (i := 0) dX0_clear_0 rfl rfl ?_
  refine ev_iconst dX0_clear_1 (r32c rfl) ?_
  refine ev_putI dX0_clear_2 fl_X0_32 sh_21 (by decide) (by decide) ?_
  refine ev_aload_n (i := 0) dX0_clear_5 rfl rfl ?_
  refine ev_iconst dX0_clear_6 (r32c rfl) ?_
  refine ev_putI dX0_clear_7 fl_X0_36 sh_21 (by decide) (by decide) ?_
  refine ev_aload_n (i := 0) dX0_clear_10 rfl rfl ?_
  refine ev_iconst dX0_clear_11 (r32c rfl) ?_
  refine ev_putI dX0_clear_12 fl_X0_39 sh_21 (by decide) (by decide) ?_
  refine ev_aload_n (i := 0) dX0_clear_15 rfl rfl ?_
  refine ev_iconst dX0_clear_16 (r32c rfl) ?_
  refine ev_putI dX0_clear_17 fl_X0_42 sh_21 (by decide) (by decide) ?_
  refine ev_aload_n (i := 0) dX0_clear_20 rfl rfl ?_
  refine ev_iconst dX0_clear_21 (r32c rfl) ?_
  refine ev_putI dX0_clear_22 fl_X0_45 sh_21 (by decide) (by decide) ?_
  refine ev_aload_n (i := 0) dX0_clear_25 rfl rfl ?_
  refine ev_iconst dX0_clear_26 (r32c rfl) ?_
  refine ev_putI dX0_clear_27 fl_X0_48 sh_21 (by decide) (by decide) ?_
  refine ev_aload_n (i := 0) dX0_clear_30 rfl rfl ?_
  refine ev_cVV (b := 21) (av := []) (S := []) (fun q => q) h dX0_clear_31 (fun Q' q => TX0_takeAllBack_21 _ q) kvX0_takeAllBack ml_X0_51 sh_21 rfl (RRc (by decide) (by decide)) (Nat.le_of_ble_eq_true rfl) ⟨Nat.le_of_ble_eq_true rfl, Nat.le_of_ble_eq_true rfl⟩ (fun f1 h => ?_)
  exact ev_vret rfl dX0_clear_34 h
def FX0_clear_21  (f : Mm) : Option Mm := FX0_clear_21_0  f
set_option maxRecDepth 100000 in
theorem TX0_clear_21 {G : GT} {l : Launch} {Q : Option AV → Mem → Prop}  (f : Mm) (h : OkV Q (FX0_clear_21  f)) : Ret G l MX0_clear (2) 0 0 [vR 21] (SH, RF, f) Q := by
  refine ret_of (L := [some (vR 21)]) (by decide) rfl (Nat.le_of_ble_eq_true rfl) ?_
  exact SX0_clear_21_0  f h
theorem dX4_byteAt_0 : decode cX4_byteAt 0 = .ok (.iload_n 1, 1) := by decide +kernel
theorem dX4_byteAt_1 : decode cX4_byteAt 1 = .ok (.ifCond .lt 22, 3) := by decide +kernel
theorem dX4_byteAt_23 : decode cX4_byteAt 23 = .ok (.iconst 0, 1) := by decide +kernel
theorem dX4_byteAt_24 : decode cX4_byteAt 24 = .ok (.ireturn, 1) := by decide +kernel
theorem dX4_byteAt_4 : decode cX4_byteAt 4 = .ok (.iload_n 1, 1) := by decide +kernel
theorem dX4_byteAt_5 : decode cX4_byteAt 5 = .ok (.sipush 800, 3) := by decide +kernel
theorem dX4_byteAt_8 : decode cX4_byteAt 8 = .ok (.if_icmp .ge 15, 3) := by decide +kernel
theorem dX4_byteAt_11 : decode cX4_byteAt 11 = .ok (.aload_n 0, 1) := by decide +kernel
theorem dX4_byteAt_12 : decode cX4_byteAt 12 = .ok (.getfield 18, 3) := by decide +kernel
theorem dX4_byteAt_15 : decode cX4_byteAt 15 = .ok (.getfield 170, 3) := by decide +kernel
theorem dX4_byteAt_18 : decode cX4_byteAt 18 = .ok (.iload_n 1, 1) := by decide +kernel
theorem dX4_byteAt_19 : decode cX4_byteAt 19 = .ok (.baload, 1) := by decide +kernel
theorem dX4_byteAt_20 : decode cX4_byteAt 20 = .ok (.goto 4, 3) := by decide +kernel
def FX4_byteAt_0  (x1 : Int) (f : Mm) : Option (Int × Mm) := (if x1 < 0 then some (0, f) else (if 800 ≤ x1 then some (0, f) else (if 0 ≤ x1 ∧ x1 < 800 then some ((f 3 x1.toNat), f) else none)))
set_option maxHeartbeats 4000000 in
set_option maxRecDepth 100000 in
theorem SX4_byteAt_0 {G : GT} {l : Launch} {Q : Option AV → Mem → Prop}  (x1 : Int) (f : Mm) (h : OkI Q (FX4_byteAt_0  x1 f)) : Ev G l MX4_byteAt (Rm 1 0 0) (ZM G Q 0 0) 0 0 0 [some (vR 1), some (vI x1)] [] (SH, RF, f) := by
  unfold FX4_byteAt_0 at h
  refine ev_iload_n (i := 1) dX4_byteAt_0 rfl rfl ?_
  refine ev_if_lt (tgt := 23) dX4_byteAt_1 (by decide) (fun c3 => ?_) (fun c3 => ?_)
  · rw [if_pos c3] at h
    refine ev_iconst dX4_byteAt_23 (r32c rfl) ?_
    exact ev_iret rfl dX4_byteAt_24 h
  · rw [if_neg c3] at h
    refine ev_iload_n (i := 1) dX4_byteAt_4 rfl rfl ?_
    refine ev_sipush (v := 800) dX4_byteAt_5 (r32c rfl) (by decide) ?_
    refine ev_icmp_ge (tgt := 23) dX4_byteAt_8 (by decide) (fun c2 => ?_) (fun c2 => ?_)
    · rw [if_pos c2] at h
      refine ev_iconst dX4_byteAt_23 (r32c rfl) ?_
      exact ev_iret rfl dX4_byteAt_24 h
    · rw [if_neg c2] at h
      refine ev_aload_n (i := 0) dX4_byteAt_11 rfl rfl ?_
      refine ev_getR dX4_byteAt_12 fl_X4_18 sh_1 (by decide) (by decide) rf_1_2 ?_
      refine ev_getR dX4_byteAt_15 fl_X4_170 sh_2 (by decide) (by decide) rf_2_0 ?_
      refine ev_iload_n (i := 1) dX4_byteAt_18 rfl rfl ?_
      by_cases g1 : 0 ≤ x1 ∧ x1 < 800
      · rw [if_pos g1] at h
        refine ex_bald (x := (f 3 x1.toNat)) dX4_byteAt_19 sh_3 g1.1 g1.2 rfl ?_
        refine ev_goto (tgt := 24) dX4_byteAt_20 (by decide) ?_
        exact ev_iret rfl dX4_byteAt_24 h
      · rw [if_neg g1] at h; exact h.elim
def FX4_byteAt (x1 : Int) (f : Mm) : Option (Int × Mm) := FX4_byteAt_0 x1 f
set_option maxRecDepth 100000 in
theorem TX4_byteAt {G : GT} {l : Launch} {Q : Option AV → Mem → Prop} (x1 : Int) (f : Mm) (h : OkI Q (FX4_byteAt x1 f)) : Ret G l MX4_byteAt (1) 0 0 [vR 1, vI x1] (SH, RF, f) Q := by
  refine ret_of (L := [some (vR 1), some (vI x1)]) (by decide) rfl (Nat.le_of_ble_eq_true rfl) ?_
  exact SX4_byteAt_0 x1 f h
theorem dX4_isBlank_12 : decode cX4_isBlank 12 = .ok (.iconst 1, 1) := by decide +kernel
theorem dX4_isBlank_13 : decode cX4_isBlank 13 = .ok (.goto 4, 3) := by decide +kernel
theorem dX4_isBlank_17 : decode cX4_isBlank 17 = .ok (.ireturn, 1) := by decide +kernel
theorem dX4_isBlank_0 : decode cX4_isBlank 0 = .ok (.iload_n 0, 1) := by decide +kernel
theorem dX4_isBlank_1 : decode cX4_isBlank 1 = .ok (.bipush 32, 2) := by decide +kernel
theorem dX4_isBlank_3 : decode cX4_isBlank 3 = .ok (.if_icmp .eq 9, 3) := by decide +kernel
theorem dX4_isBlank_6 : decode cX4_isBlank 6 = .ok (.iload_n 0, 1) := by decide +kernel
theorem dX4_isBlank_7 : decode cX4_isBlank 7 = .ok (.bipush 10, 2) := by decide +kernel
theorem dX4_isBlank_9 : decode cX4_isBlank 9 = .ok (.if_icmp .ne 7, 3) := by decide +kernel
theorem dX4_isBlank_16 : decode cX4_isBlank 16 = .ok (.iconst 0, 1) := by decide +kernel
def FX4_isBlank_12   (f : Mm) : Option (Int × Mm) := some (1, f)
set_option maxHeartbeats 4000000 in
set_option maxRecDepth 100000 in
theorem SX4_isBlank_12 {G : GT} {l : Launch} {Q : Option AV → Mem → Prop}   (f : Mm) (h : OkI Q (FX4_isBlank_12   f)) : Ev G l MX4_isBlank (Rm 1 0 0) (ZM G Q 0 0) 0 0 12 [none] [] (SH, RF, f) := by
  unfold FX4_isBlank_12 at h
  refine ev_iconst dX4_isBlank_12 (r32c rfl) ?_
  refine ev_goto (tgt := 17) dX4_isBlank_13 (by decide) ?_
  exact ev_zret rfl (by decide) dX4_isBlank_17 h
def FX4_isBlank_0  (x0 : Int) (f : Mm) : Option (Int × Mm) := (if x0 = 32 then FX4_isBlank_12 f else (if x0 = 10 then FX4_isBlank_12 f else some (0, f)))
set_option maxHeartbeats 4000000 in
set_option maxRecDepth 100000 in
theorem SX4_isBlank_0 {G : GT} {l : Launch} {Q : Option AV → Mem → Prop}  (x0 : Int) (f : Mm) (h : OkI Q (FX4_isBlank_0  x0 f)) : Ev G l MX4_isBlank (Rm 1 0 0) (ZM G Q 0 0) 0 0 0 [some (vI x0)] [] (SH, RF, f) := by
  unfold FX4_isBlank_0 at h
  refine ev_iload_n (i := 0) dX4_isBlank_0 rfl rfl ?_
  refine ev_bipush (v := 32) dX4_isBlank_1 (r32c rfl) (by decide) ?_
  refine ev_icmp_eq (tgt := 12) dX4_isBlank_3 (by decide) (fun c2 => ?_) (fun c2 => ?_)
  · rw [if_pos c2] at h
    refine ev_fg [false] rfl ?_
    exact SX4_isBlank_12   _ h
  · rw [if_neg c2] at h
    refine ev_iload_n (i := 0) dX4_isBlank_6 rfl rfl ?_
    refine ev_bipush (v := 10) dX4_isBlank_7 (r32c rfl) (by decide) ?_
    refine ev_icmp_ne (tgt := 16) dX4_isBlank_9 (by decide) (fun c1 => ?_) (fun c1 => ?_)
    · rw [if_neg c1] at h
      refine ev_iconst dX4_isBlank_16 (r32c rfl) ?_
      exact ev_zret rfl (by decide) dX4_isBlank_17 h
    · rw [if_pos c1] at h
      refine ev_fg [false] rfl ?_
      exact SX4_isBlank_12   _ h
def FX4_isBlank (x0 : Int) (f : Mm) : Option (Int × Mm) := FX4_isBlank_0 x0 f
set_option maxRecDepth 100000 in
theorem TX4_isBlank {G : GT} {l : Launch} {Q : Option AV → Mem → Prop} (x0 : Int) (f : Mm) (h : OkI Q (FX4_isBlank x0 f)) : Ret G l MX4_isBlank (1) 0 0 [vI x0] (SH, RF, f) Q := by
  refine ret_of (L := [some (vI x0)]) (by decide) rfl (Nat.le_of_ble_eq_true rfl) ?_
  exact SX4_isBlank_0 x0 f h
theorem dX4_isLetter_0 : decode cX4_isLetter 0 = .ok (.iload_n 0, 1) := by decide +kernel
theorem dX4_isLetter_1 : decode cX4_isLetter 1 = .ok (.bipush 97, 2) := by decide +kernel
theorem dX4_isLetter_3 : decode cX4_isLetter 3 = .ok (.if_icmp .lt 13, 3) := by decide +kernel
theorem dX4_isLetter_16 : decode cX4_isLetter 16 = .ok (.iconst 0, 1) := by decide +kernel
theorem dX4_isLetter_17 : decode cX4_isLetter 17 = .ok (.ireturn, 1) := by decide +kernel
theorem dX4_isLetter_6 : decode cX4_isLetter 6 = .ok (.iload_n 0, 1) := by decide +kernel
theorem dX4_isLetter_7 : decode cX4_isLetter 7 = .ok (.bipush 122, 2) := by decide +kernel
theorem dX4_isLetter_9 : decode cX4_isLetter 9 = .ok (.if_icmp .gt 7, 3) := by decide +kernel
theorem dX4_isLetter_12 : decode cX4_isLetter 12 = .ok (.iconst 1, 1) := by decide +kernel
theorem dX4_isLetter_13 : decode cX4_isLetter 13 = .ok (.goto 4, 3) := by decide +kernel
def FX4_isLetter_0  (x0 : Int) (f : Mm) : Option (Int × Mm) := (if x0 < 97 then some (0, f) else (if 122 < x0 then some (0, f) else some (1, f)))
set_option maxHeartbeats 4000000 in
set_option maxRecDepth 100000 in
theorem SX4_isLetter_0 {G : GT} {l : Launch} {Q : Option AV → Mem → Prop}  (x0 : Int) (f : Mm) (h : OkI Q (FX4_isLetter_0  x0 f)) : Ev G l MX4_isLetter (Rm 1 0 0) (ZM G Q 0 0) 0 0 0 [some (vI x0)] [] (SH, RF, f) := by
  unfold FX4_isLetter_0 at h
  refine ev_iload_n (i := 0) dX4_isLetter_0 rfl rfl ?_
  refine ev_bipush (v := 97) dX4_isLetter_1 (r32c rfl) (by decide) ?_
  refine ev_icmp_lt (tgt := 16) dX4_isLetter_3 (by decide) (fun c2 => ?_) (fun c2 => ?_)
  · rw [if_pos c2] at h
    refine ev_iconst dX4_isLetter_16 (r32c rfl) ?_
    exact ev_zret rfl (by decide) dX4_isLetter_17 h
  · rw [if_neg c2] at h
    refine ev_iload_n (i := 0) dX4_isLetter_6 rfl rfl ?_
    refine ev_bipush (v := 122) dX4_isLetter_7 (r32c rfl) (by decide) ?_
    refine ev_icmp_gt (tgt := 16) dX4_isLetter_9 (by decide) (fun c1 => ?_) (fun c1 => ?_)
    · rw [if_pos c1] at h
      refine ev_iconst dX4_isLetter_16 (r32c rfl) ?_
      exact ev_zret rfl (by decide) dX4_isLetter_17 h
    · rw [if_neg c1] at h
      refine ev_iconst dX4_isLetter_12 (r32c rfl) ?_
      refine ev_goto (tgt := 17) dX4_isLetter_13 (by decide) ?_
      exact ev_zret rfl (by decide) dX4_isLetter_17 h
def FX4_isLetter (x0 : Int) (f : Mm) : Option (Int × Mm) := FX4_isLetter_0 x0 f
set_option maxRecDepth 100000 in
theorem TX4_isLetter {G : GT} {l : Launch} {Q : Option AV → Mem → Prop} (x0 : Int) (f : Mm) (h : OkI Q (FX4_isLetter x0 f)) : Ret G l MX4_isLetter (1) 0 0 [vI x0] (SH, RF, f) Q := by
  refine ret_of (L := [some (vI x0)]) (by decide) rfl (Nat.le_of_ble_eq_true rfl) ?_
  exact SX4_isLetter_0 x0 f h
theorem dX4_isDigit_0 : decode cX4_isDigit 0 = .ok (.iload_n 0, 1) := by decide +kernel
theorem dX4_isDigit_1 : decode cX4_isDigit 1 = .ok (.bipush 48, 2) := by decide +kernel
theorem dX4_isDigit_3 : decode cX4_isDigit 3 = .ok (.if_icmp .lt 13, 3) := by decide +kernel
theorem dX4_isDigit_16 : decode cX4_isDigit 16 = .ok (.iconst 0, 1) := by decide +kernel
theorem dX4_isDigit_17 : decode cX4_isDigit 17 = .ok (.ireturn, 1) := by decide +kernel
theorem dX4_isDigit_6 : decode cX4_isDigit 6 = .ok (.iload_n 0, 1) := by decide +kernel
theorem dX4_isDigit_7 : decode cX4_isDigit 7 = .ok (.bipush 57, 2) := by decide +kernel
theorem dX4_isDigit_9 : decode cX4_isDigit 9 = .ok (.if_icmp .gt 7, 3) := by decide +kernel
theorem dX4_isDigit_12 : decode cX4_isDigit 12 = .ok (.iconst 1, 1) := by decide +kernel
theorem dX4_isDigit_13 : decode cX4_isDigit 13 = .ok (.goto 4, 3) := by decide +kernel
def FX4_isDigit_0  (x0 : Int) (f : Mm) : Option (Int × Mm) := (if x0 < 48 then some (0, f) else (if 57 < x0 then some (0, f) else some (1, f)))
set_option maxHeartbeats 4000000 in
set_option maxRecDepth 100000 in
theorem SX4_isDigit_0 {G : GT} {l : Launch} {Q : Option AV → Mem → Prop}  (x0 : Int) (f : Mm) (h : OkI Q (FX4_isDigit_0  x0 f)) : Ev G l MX4_isDigit (Rm 1 0 0) (ZM G Q 0 0) 0 0 0 [some (vI x0)] [] (SH, RF, f) := by
  unfold FX4_isDigit_0 at h
  refine ev_iload_n (i := 0) dX4_isDigit_0 rfl rfl ?_
  refine ev_bipush (v := 48) dX4_isDigit_1 (r32c rfl) (by decide) ?_
  refine ev_icmp_lt (tgt := 16) dX4_isDigit_3 (by decide) (fun c2 => ?_) (fun c2 => ?_)
  · rw [if_pos c2] at h
    refine ev_iconst dX4_isDigit_16 (r32c rfl) ?_
    exact ev_zret rfl (by decide) dX4_isDigit_17 h
  · rw [if_neg c2] at h
    refine ev_iload_n (i := 0) dX4_isDigit_6 rfl rfl ?_
    refine ev_bipush (v := 57) dX4_isDigit_7 (r32c rfl) (by decide) ?_
    refine ev_icmp_gt (tgt := 16) dX4_isDigit_9 (by decide) (fun c1 => ?_) (fun c1 => ?_)
    · rw [if_pos c1] at h
      refine ev_iconst dX4_isDigit_16 (r32c rfl) ?_
      exact ev_zret rfl (by decide) dX4_isDigit_17 h
    · rw [if_neg c1] at h
      refine ev_iconst dX4_isDigit_12 (r32c rfl) ?_
      refine ev_goto (tgt := 17) dX4_isDigit_13 (by decide) ?_
      exact ev_zret rfl (by decide) dX4_isDigit_17 h
def FX4_isDigit (x0 : Int) (f : Mm) : Option (Int × Mm) := FX4_isDigit_0 x0 f
set_option maxRecDepth 100000 in
theorem TX4_isDigit {G : GT} {l : Launch} {Q : Option AV → Mem → Prop} (x0 : Int) (f : Mm) (h : OkI Q (FX4_isDigit x0 f)) : Ret G l MX4_isDigit (1) 0 0 [vI x0] (SH, RF, f) Q := by
  refine ret_of (L := [some (vI x0)]) (by decide) rfl (Nat.le_of_ble_eq_true rfl) ?_
  exact SX4_isDigit_0 x0 f h
theorem dX4_tokenOf_0 : decode cX4_tokenOf 0 = .ok (.iload_n 0, 1) := by decide +kernel
theorem dX4_tokenOf_1 : decode cX4_tokenOf 1 = .ok (.invokestatic 157, 3) := by decide +kernel
theorem dX4_tokenOf_4 : decode cX4_tokenOf 4 = .ok (.ifCond .eq 5, 3) := by decide +kernel
theorem dX4_tokenOf_9 : decode cX4_tokenOf 9 = .ok (.iload_n 0, 1) := by decide +kernel
theorem dX4_tokenOf_10 : decode cX4_tokenOf 10 = .ok (.invokestatic 160, 3) := by decide +kernel
theorem dX4_tokenOf_13 : decode cX4_tokenOf 13 = .ok (.ifCond .eq 5, 3) := by decide +kernel
theorem dX4_tokenOf_18 : decode cX4_tokenOf 18 = .ok (.iload_n 0, 1) := by decide +kernel
theorem dX4_tokenOf_19 : decode cX4_tokenOf 19 = .ok (.bipush 59, 2) := by decide +kernel
theorem dX4_tokenOf_21 : decode cX4_tokenOf 21 = .ok (.if_icmp .ne 7, 3) := by decide +kernel
theorem dX4_tokenOf_28 : decode cX4_tokenOf 28 = .ok (.iconst 4, 1) := by decide +kernel
theorem dX4_tokenOf_29 : decode cX4_tokenOf 29 = .ok (.ireturn, 1) := by decide +kernel
theorem dX4_tokenOf_24 : decode cX4_tokenOf 24 = .ok (.iconst 3, 1) := by decide +kernel
theorem dX4_tokenOf_25 : decode cX4_tokenOf 25 = .ok (.goto 4, 3) := by decide +kernel
theorem dX4_tokenOf_16 : decode cX4_tokenOf 16 = .ok (.iconst 2, 1) := by decide +kernel
theorem dX4_tokenOf_17 : decode cX4_tokenOf 17 = .ok (.ireturn, 1) := by decide +kernel
theorem dX4_tokenOf_7 : decode cX4_tokenOf 7 = .ok (.iconst 1, 1) := by decide +kernel
theorem dX4_tokenOf_8 : decode cX4_tokenOf 8 = .ok (.ireturn, 1) := by decide +kernel
def FX4_tokenOf_0  (x0 : Int) (f : Mm) : Option (Int × Mm) := (b2 (FX4_isLetter x0 f) fun y1 f1 => (if y1 = 0 then (b2 (FX4_isDigit x0 f1) fun y2 f2 => (if y2 = 0 then (if x0 = 59 then some (3, f2) else some (4, f2)) else some (2, f2))) else some (1, f1)))
set_option maxHeartbeats 4000000 in
set_option maxRecDepth 100000 in
theorem SX4_tokenOf_0 {G : GT} {l : Launch} {Q : Option AV → Mem → Prop}  (x0 : Int) (f : Mm) (h : OkI Q (FX4_tokenOf_0  x0 f)) : Ev G l MX4_tokenOf (Rm 2 0 0) (ZM G Q 0 0) 0 0 0 [some (vI x0)] [] (SH, RF, f) := by
  unfold FX4_tokenOf_0 at h
  refine ev_iload_n (i := 0) dX4_tokenOf_0 rfl rfl ?_
  refine ev_cSI (av := [vI x0]) (S := []) (fun q => q) h dX4_tokenOf_1 (fun Q' q => TX4_isLetter x0 _ q) ksX4_isLetter ml_X4_157 rfl (RRc (by decide) (by decide)) (Nat.le_of_ble_eq_true rfl) ⟨Nat.le_of_ble_eq_true rfl, Nat.le_of_ble_eq_true rfl⟩ (fun y1 f1 h => ?_)
  refine ev_if_eq (tgt := 9) dX4_tokenOf_4 (by decide) (fun c5 => ?_) (fun c5 => ?_)
  · rw [if_pos c5] at h
    refine ev_iload_n (i := 0) dX4_tokenOf_9 rfl rfl ?_
    refine ev_cSI (av := [vI x0]) (S := []) (fun q => q) h dX4_tokenOf_10 (fun Q' q => TX4_isDigit x0 _ q) ksX4_isDigit ml_X4_160 rfl (RRc (by decide) (by decide)) (Nat.le_of_ble_eq_true rfl) ⟨Nat.le_of_ble_eq_true rfl, Nat.le_of_ble_eq_true rfl⟩ (fun y2 f2 h => ?_)
    refine ev_if_eq (tgt := 18) dX4_tokenOf_13 (by decide) (fun c4 => ?_) (fun c4 => ?_)
    · rw [if_pos c4] at h
      refine ev_iload_n (i := 0) dX4_tokenOf_18 rfl rfl ?_
      refine ev_bipush (v := 59) dX4_tokenOf_19 (r32c rfl) (by decide) ?_
      refine ev_icmp_ne (tgt := 28) dX4_tokenOf_21 (by decide) (fun c3 => ?_) (fun c3 => ?_)
      · rw [if_neg c3] at h
        refine ev_iconst dX4_tokenOf_28 (r32c rfl) ?_
        exact ev_iret rfl dX4_tokenOf_29 h
      · rw [if_pos c3] at h
        refine ev_iconst dX4_tokenOf_24 (r32c rfl) ?_
        refine ev_goto (tgt := 29) dX4_tokenOf_25 (by decide) ?_
        exact ev_iret rfl dX4_tokenOf_29 h
    · rw [if_neg c4] at h
      refine ev_iconst dX4_tokenOf_16 (r32c rfl) ?_
      exact ev_iret rfl dX4_tokenOf_17 h
  · rw [if_neg c5] at h
    refine ev_iconst dX4_tokenOf_7 (r32c rfl) ?_
    exact ev_iret rfl dX4_tokenOf_8 h
def FX4_tokenOf (x0 : Int) (f : Mm) : Option (Int × Mm) := FX4_tokenOf_0 x0 f
set_option maxRecDepth 100000 in
theorem TX4_tokenOf {G : GT} {l : Launch} {Q : Option AV → Mem → Prop} (x0 : Int) (f : Mm) (h : OkI Q (FX4_tokenOf x0 f)) : Ret G l MX4_tokenOf (2) 0 0 [vI x0] (SH, RF, f) Q := by
  refine ret_of (L := [some (vI x0)]) (by decide) rfl (Nat.le_of_ble_eq_true rfl) ?_
  exact SX4_tokenOf_0 x0 f h
theorem dX4_next_111 : decode cX4_next 111 = .ok (.aload_n 0, 1) := by decide +kernel
theorem dX4_next_112 : decode cX4_next 112 = .ok (.getfield 25, 3) := by decide +kernel
theorem dX4_next_115 : decode cX4_next 115 = .ok (.aload_n 0, 1) := by decide +kernel
theorem dX4_next_116 : decode cX4_next 116 = .ok (.getfield 18, 3) := by decide +kernel
theorem dX4_next_119 : decode cX4_next 119 = .ok (.getfield 147, 3) := by decide +kernel
theorem dX4_next_122 : decode cX4_next 122 = .ok (.if_icmp .ge 124, 3) := by decide +kernel
theorem dX4_next_246 : decode cX4_next 246 = .ok (.return_, 1) := by decide +kernel
theorem dX4_next_125 : decode cX4_next 125 = .ok (.aload_n 0, 1) := by decide +kernel
theorem dX4_next_126 : decode cX4_next 126 = .ok (.aload_n 0, 1) := by decide +kernel
theorem dX4_next_127 : decode cX4_next 127 = .ok (.getfield 25, 3) := by decide +kernel
theorem dX4_next_130 : decode cX4_next 130 = .ok (.invokevirtual 139, 3) := by decide +kernel
theorem dX4_next_133 : decode cX4_next 133 = .ok (.invokestatic 157, 3) := by decide +kernel
theorem dX4_next_136 : decode cX4_next 136 = .ok (.ifCond .eq 110, 3) := by decide +kernel
theorem dX4_next_139 : decode cX4_next 139 = .ok (.aload_n 0, 1) := by decide +kernel
theorem dX4_next_140 : decode cX4_next 140 = .ok (.dup, 1) := by decide +kernel
theorem dX4_next_141 : decode cX4_next 141 = .ok (.getfield 25, 3) := by decide +kernel
theorem dX4_next_144 : decode cX4_next 144 = .ok (.iconst 1, 1) := by decide +kernel
theorem dX4_next_145 : decode cX4_next 145 = .ok (.iadd, 1) := by decide +kernel
theorem dX4_next_146 : decode cX4_next 146 = .ok (.putfield 25, 3) := by decide +kernel
theorem dX4_next_149 : decode cX4_next 149 = .ok (.goto (-38), 3) := by decide +kernel
theorem dX4_next_160 : decode cX4_next 160 = .ok (.aload_n 0, 1) := by decide +kernel
theorem dX4_next_161 : decode cX4_next 161 = .ok (.getfield 25, 3) := by decide +kernel
theorem dX4_next_164 : decode cX4_next 164 = .ok (.aload_n 0, 1) := by decide +kernel
theorem dX4_next_165 : decode cX4_next 165 = .ok (.getfield 18, 3) := by decide +kernel
theorem dX4_next_168 : decode cX4_next 168 = .ok (.getfield 147, 3) := by decide +kernel
theorem dX4_next_171 : decode cX4_next 171 = .ok (.if_icmp .ge 75, 3) := by decide +kernel
theorem dX4_next_174 : decode cX4_next 174 = .ok (.aload_n 0, 1) := by decide +kernel
theorem dX4_next_175 : decode cX4_next 175 = .ok (.aload_n 0, 1) := by decide +kernel
theorem dX4_next_176 : decode cX4_next 176 = .ok (.getfield 25, 3) := by decide +kernel
theorem dX4_next_179 : decode cX4_next 179 = .ok (.invokevirtual 139, 3) := by decide +kernel
theorem dX4_next_182 : decode cX4_next 182 = .ok (.invokestatic 160, 3) := by decide +kernel
theorem dX4_next_185 : decode cX4_next 185 = .ok (.ifCond .eq 61, 3) := by decide +kernel
theorem dX4_next_188 : decode cX4_next 188 = .ok (.aload_n 0, 1) := by decide +kernel
theorem dX4_next_189 : decode cX4_next 189 = .ok (.ldc 163, 2) := by decide +kernel
theorem dX4_next_191 : decode cX4_next 191 = .ok (.aload_n 0, 1) := by decide +kernel
theorem dX4_next_192 : decode cX4_next 192 = .ok (.getfield 127, 3) := by decide +kernel
theorem dX4_next_195 : decode cX4_next 195 = .ok (.bipush 10, 2) := by decide +kernel
theorem dX4_next_197 : decode cX4_next 197 = .ok (.imul, 1) := by decide +kernel
theorem dX4_next_198 : decode cX4_next 198 = .ok (.aload_n 0, 1) := by decide +kernel
theorem dX4_next_199 : decode cX4_next 199 = .ok (.aload_n 0, 1) := by decide +kernel
theorem dX4_next_200 : decode cX4_next 200 = .ok (.getfield 25, 3) := by decide +kernel
theorem dX4_next_203 : decode cX4_next 203 = .ok (.invokevirtual 139, 3) := by decide +kernel
theorem dX4_next_206 : decode cX4_next 206 = .ok (.iadd, 1) := by decide +kernel
theorem dX4_next_207 : decode cX4_next 207 = .ok (.bipush 48, 2) := by decide +kernel
theorem dX4_next_209 : decode cX4_next 209 = .ok (.isub, 1) := by decide +kernel
theorem dX4_next_210 : decode cX4_next 210 = .ok (.invokestatic 164, 3) := by decide +kernel
theorem dX4_next_213 : decode cX4_next 213 = .ok (.putfield 127, 3) := by decide +kernel
theorem dX4_next_216 : decode cX4_next 216 = .ok (.aload_n 0, 1) := by decide +kernel
theorem dX4_next_217 : decode cX4_next 217 = .ok (.dup, 1) := by decide +kernel
theorem dX4_next_218 : decode cX4_next 218 = .ok (.getfield 25, 3) := by decide +kernel
theorem dX4_next_221 : decode cX4_next 221 = .ok (.iconst 1, 1) := by decide +kernel
theorem dX4_next_222 : decode cX4_next 222 = .ok (.iadd, 1) := by decide +kernel
theorem dX4_next_223 : decode cX4_next 223 = .ok (.putfield 25, 3) := by decide +kernel
theorem dX4_next_226 : decode cX4_next 226 = .ok (.goto (-66), 3) := by decide +kernel
theorem dX4_next_87 : decode cX4_next 87 = .ok (.putfield 36, 3) := by decide +kernel
theorem dX4_next_90 : decode cX4_next 90 = .ok (.aload_n 0, 1) := by decide +kernel
theorem dX4_next_91 : decode cX4_next 91 = .ok (.aload_n 0, 1) := by decide +kernel
theorem dX4_next_92 : decode cX4_next 92 = .ok (.getfield 130, 3) := by decide +kernel
theorem dX4_next_95 : decode cX4_next 95 = .ok (.putfield 25, 3) := by decide +kernel
theorem dX4_next_98 : decode cX4_next 98 = .ok (.aload_n 0, 1) := by decide +kernel
theorem dX4_next_99 : decode cX4_next 99 = .ok (.iconst 0, 1) := by decide +kernel
theorem dX4_next_100 : decode cX4_next 100 = .ok (.putfield 127, 3) := by decide +kernel
theorem dX4_next_103 : decode cX4_next 103 = .ok (.aload_n 0, 1) := by decide +kernel
theorem dX4_next_104 : decode cX4_next 104 = .ok (.getfield 36, 3) := by decide +kernel
theorem dX4_next_107 : decode cX4_next 107 = .ok (.iconst 1, 1) := by decide +kernel
theorem dX4_next_108 : decode cX4_next 108 = .ok (.if_icmp .ne 44, 3) := by decide +kernel
theorem dX4_next_152 : decode cX4_next 152 = .ok (.aload_n 0, 1) := by decide +kernel
theorem dX4_next_153 : decode cX4_next 153 = .ok (.getfield 36, 3) := by decide +kernel
theorem dX4_next_156 : decode cX4_next 156 = .ok (.iconst 2, 1) := by decide +kernel
theorem dX4_next_157 : decode cX4_next 157 = .ok (.if_icmp .ne 72, 3) := by decide +kernel
theorem dX4_next_229 : decode cX4_next 229 = .ok (.aload_n 0, 1) := by decide +kernel
theorem dX4_next_230 : decode cX4_next 230 = .ok (.getfield 36, 3) := by decide +kernel
theorem dX4_next_233 : decode cX4_next 233 = .ok (.ifCond .eq 13, 3) := by decide +kernel
theorem dX4_next_236 : decode cX4_next 236 = .ok (.aload_n 0, 1) := by decide +kernel
theorem dX4_next_237 : decode cX4_next 237 = .ok (.aload_n 0, 1) := by decide +kernel
theorem dX4_next_238 : decode cX4_next 238 = .ok (.getfield 130, 3) := by decide +kernel
theorem dX4_next_241 : decode cX4_next 241 = .ok (.iconst 1, 1) := by decide +kernel
theorem dX4_next_242 : decode cX4_next 242 = .ok (.iadd, 1) := by decide +kernel
theorem dX4_next_243 : decode cX4_next 243 = .ok (.putfield 25, 3) := by decide +kernel
theorem dX4_next_57 : decode cX4_next 57 = .ok (.aload_n 0, 1) := by decide +kernel
theorem dX4_next_58 : decode cX4_next 58 = .ok (.aload_n 0, 1) := by decide +kernel
theorem dX4_next_59 : decode cX4_next 59 = .ok (.getfield 130, 3) := by decide +kernel
theorem dX4_next_62 : decode cX4_next 62 = .ok (.aload_n 0, 1) := by decide +kernel
theorem dX4_next_63 : decode cX4_next 63 = .ok (.getfield 18, 3) := by decide +kernel
theorem dX4_next_66 : decode cX4_next 66 = .ok (.getfield 147, 3) := by decide +kernel
theorem dX4_next_69 : decode cX4_next 69 = .ok (.if_icmp .ge 17, 3) := by decide +kernel
theorem dX4_next_86 : decode cX4_next 86 = .ok (.iconst 0, 1) := by decide +kernel
theorem dX4_next_72 : decode cX4_next 72 = .ok (.aload_n 0, 1) := by decide +kernel
theorem dX4_next_73 : decode cX4_next 73 = .ok (.aload_n 0, 1) := by decide +kernel
theorem dX4_next_74 : decode cX4_next 74 = .ok (.getfield 130, 3) := by decide +kernel
theorem dX4_next_77 : decode cX4_next 77 = .ok (.invokevirtual 139, 3) := by decide +kernel
theorem dX4_next_80 : decode cX4_next 80 = .ok (.invokestatic 154, 3) := by decide +kernel
theorem dX4_next_83 : decode cX4_next 83 = .ok (.goto 4, 3) := by decide +kernel
theorem dX4_next_16 : decode cX4_next 16 = .ok (.aload_n 0, 1) := by decide +kernel
theorem dX4_next_17 : decode cX4_next 17 = .ok (.getfield 130, 3) := by decide +kernel
theorem dX4_next_20 : decode cX4_next 20 = .ok (.aload_n 0, 1) := by decide +kernel
theorem dX4_next_21 : decode cX4_next 21 = .ok (.getfield 18, 3) := by decide +kernel
theorem dX4_next_24 : decode cX4_next 24 = .ok (.getfield 147, 3) := by decide +kernel
theorem dX4_next_27 : decode cX4_next 27 = .ok (.if_icmp .ge 30, 3) := by decide +kernel
theorem dX4_next_30 : decode cX4_next 30 = .ok (.aload_n 0, 1) := by decide +kernel
theorem dX4_next_31 : decode cX4_next 31 = .ok (.aload_n 0, 1) := by decide +kernel
theorem dX4_next_32 : decode cX4_next 32 = .ok (.getfield 130, 3) := by decide +kernel
theorem dX4_next_35 : decode cX4_next 35 = .ok (.invokevirtual 139, 3) := by decide +kernel
theorem dX4_next_38 : decode cX4_next 38 = .ok (.invokestatic 150, 3) := by decide +kernel
theorem dX4_next_41 : decode cX4_next 41 = .ok (.ifCond .eq 16, 3) := by decide +kernel
theorem dX4_next_44 : decode cX4_next 44 = .ok (.aload_n 0, 1) := by decide +kernel
theorem dX4_next_45 : decode cX4_next 45 = .ok (.dup, 1) := by decide +kernel
theorem dX4_next_46 : decode cX4_next 46 = .ok (.getfield 130, 3) := by decide +kernel
theorem dX4_next_49 : decode cX4_next 49 = .ok (.iconst 1, 1) := by decide +kernel
theorem dX4_next_50 : decode cX4_next 50 = .ok (.iadd, 1) := by decide +kernel
theorem dX4_next_51 : decode cX4_next 51 = .ok (.putfield 130, 3) := by decide +kernel
theorem dX4_next_54 : decode cX4_next 54 = .ok (.goto (-38), 3) := by decide +kernel
theorem dX4_next_0 : decode cX4_next 0 = .ok (.aload_n 0, 1) := by decide +kernel
theorem dX4_next_1 : decode cX4_next 1 = .ok (.getfield 22, 3) := by decide +kernel
theorem dX4_next_4 : decode cX4_next 4 = .ok (.ifCond .eq 4, 3) := by decide +kernel
theorem dX4_next_8 : decode cX4_next 8 = .ok (.aload_n 0, 1) := by decide +kernel
theorem dX4_next_9 : decode cX4_next 9 = .ok (.aload_n 0, 1) := by decide +kernel
theorem dX4_next_10 : decode cX4_next 10 = .ok (.getfield 25, 3) := by decide +kernel
theorem dX4_next_13 : decode cX4_next 13 = .ok (.putfield 130, 3) := by decide +kernel
theorem dX4_next_7 : decode cX4_next 7 = .ok (.return_, 1) := by decide +kernel
def FX4_next_111  : Nat → Mm → Option Mm
  | 0, _ => none
  | n + 1, f => (if (f 2 1) ≤ (f 1 5) then some f else (b2 (FX4_byteAt (f 1 5) f) fun y1 f1 => (b2 (FX4_isLetter y1 f1) fun y2 f2 => (if y2 = 0 then some f2 else FX4_next_111 n (up f2 1 5 (w32 ((f2 1 5) + 1)))))))
set_option maxHeartbeats 4000000 in
set_option maxRecDepth 100000 in
theorem SX4_next_111 {G : GT} {l : Launch} {Q : Option AV → Mem → Prop}  : ∀ (n : Nat)  (f : Mm), OkV Q (FX4_next_111  n  f) → Ev G l MX4_next (Rm 3 0 0) (ZM G Q 0 0) 0 0 111 [some (vR 1)] [] (SH, RF, f) := by
  intro n
  induction n with
  | zero => intro  f h; exact absurd h (by rw [FX4_next_111]; exact fun q => q)
  | succ n ih =>
    intro  f h
    rw [FX4_next_111] at h
    refine ev_aload_n (i := 0) dX4_next_111 rfl rfl ?_
    refine ex_getI (x := (f 1 5)) dX4_next_112 fl_X4_25 sh_1 (by decide) (by decide) rfl ?_
    refine ev_aload_n (i := 0) dX4_next_115 rfl rfl ?_
    refine ev_getR dX4_next_116 fl_X4_18 sh_1 (by decide) (by decide) rf_1_2 ?_
    refine ex_getI (x := (f 2 1)) dX4_next_119 fl_X4_147 sh_2 (by decide) (by decide) rfl ?_
    refine ev_icmp_ge (tgt := 246) dX4_next_122 (by decide) (fun c4 => ?_) (fun c4 => ?_)
    · rw [if_pos c4] at h
      exact ev_vret rfl dX4_next_246 h
    · rw [if_neg c4] at h
      refine ev_aload_n (i := 0) dX4_next_125 rfl rfl ?_
      refine ev_aload_n (i := 0) dX4_next_126 rfl rfl ?_
      refine ex_getI (x := (f 1 5)) dX4_next_127 fl_X4_25 sh_1 (by decide) (by decide) rfl ?_
      refine ev_cVI (b := 1) (av := [vI (f 1 5)]) (S := []) (fun q => q) h dX4_next_130 (fun Q' q => TX4_byteAt (f 1 5) _ q) kvX4_byteAt ml_X4_139 sh_1 rfl (RRc (by decide) (by decide)) (Nat.le_of_ble_eq_true rfl) ⟨Nat.le_of_ble_eq_true rfl, Nat.le_of_ble_eq_true rfl⟩ (fun y1 f1 h => ?_)
      refine ev_cSI (av := [vI y1]) (S := []) (fun q => q) h dX4_next_133 (fun Q' q => TX4_isLetter y1 _ q) ksX4_isLetter ml_X4_157 rfl (RRc (by decide) (by decide)) (Nat.le_of_ble_eq_true rfl) ⟨Nat.le_of_ble_eq_true rfl, Nat.le_of_ble_eq_true rfl⟩ (fun y2 f2 h => ?_)
      refine ev_if_eq (tgt := 246) dX4_next_136 (by decide) (fun c3 => ?_) (fun c3 => ?_)
      · rw [if_pos c3] at h
        exact ev_vret rfl dX4_next_246 h
      · rw [if_neg c3] at h
        refine ev_aload_n (i := 0) dX4_next_139 rfl rfl ?_
        refine ev_dupR dX4_next_140 ?_
        refine ex_getI (x := (f2 1 5)) dX4_next_141 fl_X4_25 sh_1 (by decide) (by decide) rfl ?_
        refine ev_iconst dX4_next_144 (r32c rfl) ?_
        refine ev_iadd dX4_next_145 ?_
        refine ev_putI dX4_next_146 fl_X4_25 sh_1 (by decide) (by decide) ?_
        refine ev_goto (tgt := 111) dX4_next_149 (by decide) ?_
        exact ih  _ h
def FX4_next_160  : Nat → Mm → Option Mm
  | 0, _ => none
  | n + 1, f => (if (f 2 1) ≤ (f 1 5) then some f else (b2 (FX4_byteAt (f 1 5) f) fun y1 f1 => (b2 (FX4_isDigit y1 f1) fun y2 f2 => (if y2 = 0 then some f2 else (b2 (FX4_byteAt (f2 1 5) f2) fun y3 f3 => FX4_next_160 n (up (up f3 1 6 (jMin 100000 (w32 ((w32 ((w32 ((f2 1 6) * 10)) + y3)) - 48)))) 1 5 (w32 ((f3 1 5) + 1))))))))
set_option maxHeartbeats 4000000 in
set_option maxRecDepth 100000 in
theorem SX4_next_160 {G : GT} {l : Launch} {Q : Option AV → Mem → Prop}  : ∀ (n : Nat)  (f : Mm), OkV Q (FX4_next_160  n  f) → Ev G l MX4_next (Rm 3 0 0) (ZM G Q 0 0) 0 0 160 [some (vR 1)] [] (SH, RF, f) := by
  intro n
  induction n with
  | zero => intro  f h; exact absurd h (by rw [FX4_next_160]; exact fun q => q)
  | succ n ih =>
    intro  f h
    rw [FX4_next_160] at h
    refine ev_aload_n (i := 0) dX4_next_160 rfl rfl ?_
    refine ex_getI (x := (f 1 5)) dX4_next_161 fl_X4_25 sh_1 (by decide) (by decide) rfl ?_
    refine ev_aload_n (i := 0) dX4_next_164 rfl rfl ?_
    refine ev_getR dX4_next_165 fl_X4_18 sh_1 (by decide) (by decide) rf_1_2 ?_
    refine ex_getI (x := (f 2 1)) dX4_next_168 fl_X4_147 sh_2 (by decide) (by decide) rfl ?_
    refine ev_icmp_ge (tgt := 246) dX4_next_171 (by decide) (fun c5 => ?_) (fun c5 => ?_)
    · rw [if_pos c5] at h
      exact ev_vret rfl dX4_next_246 h
    · rw [if_neg c5] at h
      refine ev_aload_n (i := 0) dX4_next_174 rfl rfl ?_
      refine ev_aload_n (i := 0) dX4_next_175 rfl rfl ?_
      refine ex_getI (x := (f 1 5)) dX4_next_176 fl_X4_25 sh_1 (by decide) (by decide) rfl ?_
      refine ev_cVI (b := 1) (av := [vI (f 1 5)]) (S := []) (fun q => q) h dX4_next_179 (fun Q' q => TX4_byteAt (f 1 5) _ q) kvX4_byteAt ml_X4_139 sh_1 rfl (RRc (by decide) (by decide)) (Nat.le_of_ble_eq_true rfl) ⟨Nat.le_of_ble_eq_true rfl, Nat.le_of_ble_eq_true rfl⟩ (fun y1 f1 h => ?_)
      refine ev_cSI (av := [vI y1]) (S := []) (fun q => q) h dX4_next_182 (fun Q' q => TX4_isDigit y1 _ q) ksX4_isDigit ml_X4_160 rfl (RRc (by decide) (by decide)) (Nat.le_of_ble_eq_true rfl) ⟨Nat.le_of_ble_eq_true rfl, Nat.le_of_ble_eq_true rfl⟩ (fun y2 f2 h => ?_)
      refine ev_if_eq (tgt := 246) dX4_next_185 (by decide) (fun c4 => ?_) (fun c4 => ?_)
      · rw [if_pos c4] at h
        exact ev_vret rfl dX4_next_246 h
      · rw [if_neg c4] at h
        refine ev_aload_n (i := 0) dX4_next_188 rfl rfl ?_
        refine ev_ldc (v := 100000) dX4_next_189 (r32c rfl) kc_X4_163 ?_
        refine ev_aload_n (i := 0) dX4_next_191 rfl rfl ?_
        refine ex_getI (x := (f2 1 6)) dX4_next_192 fl_X4_127 sh_1 (by decide) (by decide) rfl ?_
        refine ev_bipush (v := 10) dX4_next_195 (r32c rfl) (by decide) ?_
        refine ev_imul dX4_next_197 ?_
        refine ev_aload_n (i := 0) dX4_next_198 rfl rfl ?_
        refine ev_aload_n (i := 0) dX4_next_199 rfl rfl ?_
        refine ex_getI (x := (f2 1 5)) dX4_next_200 fl_X4_25 sh_1 (by decide) (by decide) rfl ?_
        refine ev_cVI (b := 1) (av := [vI (f2 1 5)]) (S := [vI (w32 ((f2 1 6) * 10)), vI 100000, vR 1]) (fun q => q) h dX4_next_203 (fun Q' q => TX4_byteAt (f2 1 5) _ q) kvX4_byteAt ml_X4_139 sh_1 rfl (RRc (by decide) (by decide)) (Nat.le_of_ble_eq_true rfl) ⟨Nat.le_of_ble_eq_true rfl, Nat.le_of_ble_eq_true rfl⟩ (fun y3 f3 h => ?_)
        refine ev_iadd dX4_next_206 ?_
        refine ev_bipush (v := 48) dX4_next_207 (r32c rfl) (by decide) ?_
        refine ev_isub dX4_next_209 ?_
        refine ev_mmin dX4_next_210 mlm_X4_164 (Nat.le_of_ble_eq_true rfl) (Nat.le_of_ble_eq_true rfl) (Nat.le_of_ble_eq_true rfl) (Nat.le_of_ble_eq_true rfl) ?_
        refine ev_putI dX4_next_213 fl_X4_127 sh_1 (by decide) (by decide) ?_
        refine ev_aload_n (i := 0) dX4_next_216 rfl rfl ?_
        refine ev_dupR dX4_next_217 ?_
        refine ex_getI (x := (f3 1 5)) dX4_next_218 fl_X4_25 sh_1 (by decide) (by decide) rfl ?_
        refine ev_iconst dX4_next_221 (r32c rfl) ?_
        refine ev_iadd dX4_next_222 ?_
        refine ev_putI dX4_next_223 fl_X4_25 sh_1 (by decide) (by decide) ?_
        refine ev_goto (tgt := 160) dX4_next_226 (by decide) ?_
        exact ih  _ h
def FX4_next_87  (s1 : Int) (f : Mm) : Option Mm := (if s1 = 1 then FX4_next_111 fu (up (up (up f 1 3 s1) 1 5 (f 1 4)) 1 6 0) else (if s1 = 2 then FX4_next_160 fu (up (up (up f 1 3 s1) 1 5 (f 1 4)) 1 6 0) else (if s1 = 0 then some (up (up (up f 1 3 s1) 1 5 (f 1 4)) 1 6 0) else some (up (up (up (up f 1 3 s1) 1 5 (f 1 4)) 1 6 0) 1 5 (w32 ((f 1 4) + 1))))))
set_option maxHeartbeats 4000000 in
set_option maxRecDepth 100000 in
theorem SX4_next_87 {G : GT} {l : Launch} {Q : Option AV → Mem → Prop}  (s1 : Int) (f : Mm) (h : OkV Q (FX4_next_87  s1 f)) : Ev G l MX4_next (Rm 3 0 0) (ZM G Q 0 0) 0 0 87 [some (vR 1)] [vI s1, vR 1] (SH, RF, f) := by
  unfold FX4_next_87 at h
  refine ev_putI dX4_next_87 fl_X4_36 sh_1 (by decide) (by decide) ?_
  refine ev_aload_n (i := 0) dX4_next_90 rfl rfl ?_
  refine ev_aload_n (i := 0) dX4_next_91 rfl rfl ?_
  refine ex_getI (x := (f 1 4)) dX4_next_92 fl_X4_130 sh_1 (by decide) (by decide) rfl ?_
  refine ev_putI dX4_next_95 fl_X4_25 sh_1 (by decide) (by decide) ?_
  refine ev_aload_n (i := 0) dX4_next_98 rfl rfl ?_
  refine ev_iconst dX4_next_99 (r32c rfl) ?_
  refine ev_putI dX4_next_100 fl_X4_127 sh_1 (by decide) (by decide) ?_
  refine ev_aload_n (i := 0) dX4_next_103 rfl rfl ?_
  refine ex_getI (x := s1) dX4_next_104 fl_X4_36 sh_1 (by decide) (by decide) rfl ?_
  refine ev_iconst dX4_next_107 (r32c rfl) ?_
  refine ev_icmp_ne (tgt := 152) dX4_next_108 (by decide) (fun c3 => ?_) (fun c3 => ?_)
  · rw [if_neg c3] at h
    refine ev_aload_n (i := 0) dX4_next_152 rfl rfl ?_
    refine ex_getI (x := s1) dX4_next_153 fl_X4_36 sh_1 (by decide) (by decide) rfl ?_
    refine ev_iconst dX4_next_156 (r32c rfl) ?_
    refine ev_icmp_ne (tgt := 229) dX4_next_157 (by decide) (fun c2 => ?_) (fun c2 => ?_)
    · rw [if_neg c2] at h
      refine ev_aload_n (i := 0) dX4_next_229 rfl rfl ?_
      refine ex_getI (x := s1) dX4_next_230 fl_X4_36 sh_1 (by decide) (by decide) rfl ?_
      refine ev_if_eq (tgt := 246) dX4_next_233 (by decide) (fun c1 => ?_) (fun c1 => ?_)
      · rw [if_pos c1] at h
        exact ev_vret rfl dX4_next_246 h
      · rw [if_neg c1] at h
        refine ev_aload_n (i := 0) dX4_next_236 rfl rfl ?_
        refine ev_aload_n (i := 0) dX4_next_237 rfl rfl ?_
        refine ex_getI (x := (f 1 4)) dX4_next_238 fl_X4_130 sh_1 (by decide) (by decide) rfl ?_
        refine ev_iconst dX4_next_241 (r32c rfl) ?_
        refine ev_iadd dX4_next_242 ?_
        refine ev_putI dX4_next_243 fl_X4_25 sh_1 (by decide) (by decide) ?_
        exact ev_vret rfl dX4_next_246 h
    · rw [if_pos c2] at h
      exact SX4_next_160  fu  _ h
  · rw [if_pos c3] at h
    exact SX4_next_111  fu  _ h
def FX4_next_57   (f : Mm) : Option Mm := (if (f 2 1) ≤ (f 1 4) then FX4_next_87 0 f else (b2 (FX4_byteAt (f 1 4) f) fun y1 f1 => (b2 (FX4_tokenOf y1 f1) fun y2 f2 => FX4_next_87 y2 f2)))
set_option maxHeartbeats 4000000 in
set_option maxRecDepth 100000 in
theorem SX4_next_57 {G : GT} {l : Launch} {Q : Option AV → Mem → Prop}   (f : Mm) (h : OkV Q (FX4_next_57   f)) : Ev G l MX4_next (Rm 3 0 0) (ZM G Q 0 0) 0 0 57 [some (vR 1)] [] (SH, RF, f) := by
  unfold FX4_next_57 at h
  refine ev_aload_n (i := 0) dX4_next_57 rfl rfl ?_
  refine ev_aload_n (i := 0) dX4_next_58 rfl rfl ?_
  refine ex_getI (x := (f 1 4)) dX4_next_59 fl_X4_130 sh_1 (by decide) (by decide) rfl ?_
  refine ev_aload_n (i := 0) dX4_next_62 rfl rfl ?_
  refine ev_getR dX4_next_63 fl_X4_18 sh_1 (by decide) (by decide) rf_1_2 ?_
  refine ex_getI (x := (f 2 1)) dX4_next_66 fl_X4_147 sh_2 (by decide) (by decide) rfl ?_
  refine ev_icmp_ge (tgt := 86) dX4_next_69 (by decide) (fun c3 => ?_) (fun c3 => ?_)
  · rw [if_pos c3] at h
    refine ev_iconst dX4_next_86 (r32c rfl) ?_
    exact SX4_next_87  0 _ h
  · rw [if_neg c3] at h
    refine ev_aload_n (i := 0) dX4_next_72 rfl rfl ?_
    refine ev_aload_n (i := 0) dX4_next_73 rfl rfl ?_
    refine ex_getI (x := (f 1 4)) dX4_next_74 fl_X4_130 sh_1 (by decide) (by decide) rfl ?_
    refine ev_cVI (b := 1) (av := [vI (f 1 4)]) (S := [vR 1]) (fun q => q) h dX4_next_77 (fun Q' q => TX4_byteAt (f 1 4) _ q) kvX4_byteAt ml_X4_139 sh_1 rfl (RRc (by decide) (by decide)) (Nat.le_of_ble_eq_true rfl) ⟨Nat.le_of_ble_eq_true rfl, Nat.le_of_ble_eq_true rfl⟩ (fun y1 f1 h => ?_)
    refine ev_cSI (av := [vI y1]) (S := [vR 1]) (fun q => q) h dX4_next_80 (fun Q' q => TX4_tokenOf y1 _ q) ksX4_tokenOf ml_X4_154 rfl (RRc (by decide) (by decide)) (Nat.le_of_ble_eq_true rfl) ⟨Nat.le_of_ble_eq_true rfl, Nat.le_of_ble_eq_true rfl⟩ (fun y2 f2 h => ?_)
    refine ev_goto (tgt := 87) dX4_next_83 (by decide) ?_
    exact SX4_next_87  y2 _ h
def FX4_next_16  : Nat → Mm → Option Mm
  | 0, _ => none
  | n + 1, f => (if (f 2 1) ≤ (f 1 4) then FX4_next_57 f else (b2 (FX4_byteAt (f 1 4) f) fun y1 f1 => (b2 (FX4_isBlank y1 f1) fun y2 f2 => (if y2 = 0 then FX4_next_57 f2 else FX4_next_16 n (up f2 1 4 (w32 ((f2 1 4) + 1)))))))
set_option maxHeartbeats 4000000 in
set_option maxRecDepth 100000 in
theorem SX4_next_16 {G : GT} {l : Launch} {Q : Option AV → Mem → Prop}  : ∀ (n : Nat)  (f : Mm), OkV Q (FX4_next_16  n  f) → Ev G l MX4_next (Rm 3 0 0) (ZM G Q 0 0) 0 0 16 [some (vR 1)] [] (SH, RF, f) := by
  intro n
  induction n with
  | zero => intro  f h; exact absurd h (by rw [FX4_next_16]; exact fun q => q)
  | succ n ih =>
    intro  f h
    rw [FX4_next_16] at h
    refine ev_aload_n (i := 0) dX4_next_16 rfl rfl ?_
    refine ex_getI (x := (f 1 4)) dX4_next_17 fl_X4_130 sh_1 (by decide) (by decide) rfl ?_
    refine ev_aload_n (i := 0) dX4_next_20 rfl rfl ?_
    refine ev_getR dX4_next_21 fl_X4_18 sh_1 (by decide) (by decide) rf_1_2 ?_
    refine ex_getI (x := (f 2 1)) dX4_next_24 fl_X4_147 sh_2 (by decide) (by decide) rfl ?_
    refine ev_icmp_ge (tgt := 57) dX4_next_27 (by decide) (fun c4 => ?_) (fun c4 => ?_)
    · rw [if_pos c4] at h
      exact SX4_next_57   _ h
    · rw [if_neg c4] at h
      refine ev_aload_n (i := 0) dX4_next_30 rfl rfl ?_
      refine ev_aload_n (i := 0) dX4_next_31 rfl rfl ?_
      refine ex_getI (x := (f 1 4)) dX4_next_32 fl_X4_130 sh_1 (by decide) (by decide) rfl ?_
      refine ev_cVI (b := 1) (av := [vI (f 1 4)]) (S := []) (fun q => q) h dX4_next_35 (fun Q' q => TX4_byteAt (f 1 4) _ q) kvX4_byteAt ml_X4_139 sh_1 rfl (RRc (by decide) (by decide)) (Nat.le_of_ble_eq_true rfl) ⟨Nat.le_of_ble_eq_true rfl, Nat.le_of_ble_eq_true rfl⟩ (fun y1 f1 h => ?_)
      refine ev_cSI (av := [vI y1]) (S := []) (fun q => q) h dX4_next_38 (fun Q' q => TX4_isBlank y1 _ q) ksX4_isBlank ml_X4_150 rfl (RRc (by decide) (by decide)) (Nat.le_of_ble_eq_true rfl) ⟨Nat.le_of_ble_eq_true rfl, Nat.le_of_ble_eq_true rfl⟩ (fun y2 f2 h => ?_)
      refine ev_if_eq (tgt := 57) dX4_next_41 (by decide) (fun c3 => ?_) (fun c3 => ?_)
      · rw [if_pos c3] at h
        exact SX4_next_57   _ h
      · rw [if_neg c3] at h
        refine ev_aload_n (i := 0) dX4_next_44 rfl rfl ?_
        refine ev_dupR dX4_next_45 ?_
        refine ex_getI (x := (f2 1 4)) dX4_next_46 fl_X4_130 sh_1 (by decide) (by decide) rfl ?_
        refine ev_iconst dX4_next_49 (r32c rfl) ?_
        refine ev_iadd dX4_next_50 ?_
        refine ev_putI dX4_next_51 fl_X4_130 sh_1 (by decide) (by decide) ?_
        refine ev_goto (tgt := 16) dX4_next_54 (by decide) ?_
        exact ih  _ h
def FX4_next_0   (f : Mm) : Option Mm := (if (f 1 0) = 0 then FX4_next_16 fu (up f 1 4 (f 1 5)) else some f)
set_option maxHeartbeats 4000000 in
set_option maxRecDepth 100000 in
theorem SX4_next_0 {G : GT} {l : Launch} {Q : Option AV → Mem → Prop}   (f : Mm) (h : OkV Q (FX4_next_0   f)) : Ev G l MX4_next (Rm 3 0 0) (ZM G Q 0 0) 0 0 0 [some (vR 1)] [] (SH, RF, f) := by
  unfold FX4_next_0 at h
  refine ev_aload_n (i := 0) dX4_next_0 rfl rfl ?_
  refine ex_getI (x := (f 1 0)) dX4_next_1 fl_X4_22 sh_1 (by decide) (by decide) rfl ?_
  refine ev_if_eq (tgt := 8) dX4_next_4 (by decide) (fun c1 => ?_) (fun c1 => ?_)
  · rw [if_pos c1] at h
    refine ev_aload_n (i := 0) dX4_next_8 rfl rfl ?_
    refine ev_aload_n (i := 0) dX4_next_9 rfl rfl ?_
    refine ex_getI (x := (f 1 5)) dX4_next_10 fl_X4_25 sh_1 (by decide) (by decide) rfl ?_
    refine ev_putI dX4_next_13 fl_X4_130 sh_1 (by decide) (by decide) ?_
    exact SX4_next_16  fu  _ h
  · rw [if_neg c1] at h
    exact ev_vret rfl dX4_next_7 h
def FX4_next  (f : Mm) : Option Mm := FX4_next_0  f
set_option maxRecDepth 100000 in
theorem TX4_next {G : GT} {l : Launch} {Q : Option AV → Mem → Prop}  (f : Mm) (h : OkV Q (FX4_next  f)) : Ret G l MX4_next (3) 0 0 [vR 1] (SH, RF, f) Q := by
  refine ret_of (L := [some (vR 1)]) (by decide) rfl (Nat.le_of_ble_eq_true rfl) ?_
  exact SX4_next_0  f h

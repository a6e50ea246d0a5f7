theorem dX11_ask_0 : decode cX11_ask 0 = .ok (.aload_n 0, 1) := by decide +kernel
theorem dX11_ask_1 : decode cX11_ask 1 = .ok (.iconst 0, 1) := by decide +kernel
theorem dX11_ask_2 : decode cX11_ask 2 = .ok (.putfield 98, 3) := by decide +kernel
theorem dX11_ask_5 : decode cX11_ask 5 = .ok (.aload_n 0, 1) := by decide +kernel
theorem dX11_ask_6 : decode cX11_ask 6 = .ok (.iload_n 1, 1) := by decide +kernel
theorem dX11_ask_7 : decode cX11_ask 7 = .ok (.invokevirtual 417, 3) := by decide +kernel
theorem dX11_ask_10 : decode cX11_ask 10 = .ok (.istore_n 2, 1) := by decide +kernel
theorem dX11_ask_11 : decode cX11_ask 11 = .ok (.iload_n 2, 1) := by decide +kernel
theorem dX11_ask_12 : decode cX11_ask 12 = .ok (.ifCond .eq 5, 3) := by decide +kernel
theorem dX11_ask_17 : decode cX11_ask 17 = .ok (.aload_n 0, 1) := by decide +kernel
theorem dX11_ask_18 : decode cX11_ask 18 = .ok (.iload_n 1, 1) := by decide +kernel
theorem dX11_ask_19 : decode cX11_ask 19 = .ok (.invokevirtual 429, 3) := by decide +kernel
theorem dX11_ask_22 : decode cX11_ask 22 = .ok (.aload_n 0, 1) := by decide +kernel
theorem dX11_ask_23 : decode cX11_ask 23 = .ok (.getfield 423, 3) := by decide +kernel
theorem dX11_ask_26 : decode cX11_ask 26 = .ok (.ireturn, 1) := by decide +kernel
theorem dX11_ask_15 : decode cX11_ask 15 = .ok (.iload_n 2, 1) := by decide +kernel
theorem dX11_ask_16 : decode cX11_ask 16 = .ok (.ireturn, 1) := by decide +kernel
def FX11_ask_0  (x1 : Int) (f : Mm) : Option (Int × Mm) := (b2 (FX11_whyNot x1 (up f 150 0 0)) fun y1 f1 => (if y1 = 0 then ((FX11_laysAsk x1 f1).bind fun f2 => some ((f2 150 49), f2)) else some (y1, f1)))
set_option maxHeartbeats 4000000 in
set_option maxRecDepth 100000 in
theorem SX11_ask_0 {G : GT} {l : Launch} {Q : Option AV → Mem → Prop}  (x1 : Int) (f : Mm) (h : OkI Q (FX11_ask_0  x1 f)) : Ev G l MX11_ask (Rm 7 0 0) (ZM G Q 0 0) 0 0 0 [some (vR 150), some (vI x1), none] [] (SH, RF, f) := by
  unfold FX11_ask_0 at h
  refine ev_aload_n (i := 0) dX11_ask_0 rfl rfl ?_
  refine ev_iconst dX11_ask_1 (r32c rfl) ?_
  refine ev_putI dX11_ask_2 fl_X11_98 sh_150 (by decide) (by decide) ?_
  refine ev_aload_n (i := 0) dX11_ask_5 rfl rfl ?_
  refine ev_iload_n (i := 1) dX11_ask_6 rfl rfl ?_
  refine ev_cVI (b := 150) (av := [vI x1]) (S := []) (fun q => q) h dX11_ask_7 (fun Q' q => TX11_whyNot x1 _ q) kvX11_whyNot ml_X11_417 sh_150 rfl (RRc (by decide) (by decide)) (Nat.le_of_ble_eq_true rfl) ⟨Nat.le_of_ble_eq_true rfl, Nat.le_of_ble_eq_true rfl⟩ (fun y1 f1 h => ?_)
  refine ev_istore_n (i := 2) (L' := [some (vR 150), some (vI x1), some (vI y1)]) dX11_ask_10 rfl (by decide) rfl ?_
  refine ev_iload_n (i := 2) dX11_ask_11 rfl rfl ?_
  refine ev_if_eq (tgt := 17) dX11_ask_12 (by decide) (fun c3 => ?_) (fun c3 => ?_)
  · rw [if_pos c3] at h
    refine ev_aload_n (i := 0) dX11_ask_17 rfl rfl ?_
    refine ev_iload_n (i := 1) dX11_ask_18 rfl rfl ?_
    refine ev_cVV (b := 150) (av := [vI x1]) (S := []) (fun q => q) h dX11_ask_19 (fun Q' q => TX11_laysAsk x1 _ q) kvX11_laysAsk ml_X11_429 sh_150 rfl (RRc (by decide) (by decide)) (Nat.le_of_ble_eq_true rfl) ⟨Nat.le_of_ble_eq_true rfl, Nat.le_of_ble_eq_true rfl⟩ (fun f2 h => ?_)
    refine ev_aload_n (i := 0) dX11_ask_22 rfl rfl ?_
    refine ex_getI (x := (f2 150 49)) dX11_ask_23 fl_X11_423 sh_150 (by decide) (by decide) rfl ?_
    exact ev_iret rfl dX11_ask_26 h
  · rw [if_neg c3] at h
    refine ev_iload_n (i := 2) dX11_ask_15 rfl rfl ?_
    exact ev_iret rfl dX11_ask_16 h
def FX11_ask (x1 : Int) (f : Mm) : Option (Int × Mm) := FX11_ask_0 x1 f
set_option maxRecDepth 100000 in
theorem TX11_ask {G : GT} {l : Launch} {Q : Option AV → Mem → Prop} (x1 : Int) (f : Mm) (h : OkI Q (FX11_ask x1 f)) : Ret G l MX11_ask (7) 0 0 [vR 150, vI x1] (SH, RF, f) Q := by
  refine ret_of (L := [some (vR 150), some (vI x1), none]) (by decide) rfl (Nat.le_of_ble_eq_true rfl) ?_
  exact SX11_ask_0 x1 f h
theorem dX11_leaves_0 : decode cX11_leaves 0 = .ok (.aload_n 0, 1) := by decide +kernel
theorem dX11_leaves_1 : decode cX11_leaves 1 = .ok (.iconst 0, 1) := by decide +kernel
theorem dX11_leaves_2 : decode cX11_leaves 2 = .ok (.putfield 98, 3) := by decide +kernel
theorem dX11_leaves_5 : decode cX11_leaves 5 = .ok (.aload_n 0, 1) := by decide +kernel
theorem dX11_leaves_6 : decode cX11_leaves 6 = .ok (.iload_n 1, 1) := by decide +kernel
theorem dX11_leaves_7 : decode cX11_leaves 7 = .ok (.invokevirtual 417, 3) := by decide +kernel
theorem dX11_leaves_10 : decode cX11_leaves 10 = .ok (.istore_n 2, 1) := by decide +kernel
theorem dX11_leaves_11 : decode cX11_leaves 11 = .ok (.iload_n 2, 1) := by decide +kernel
theorem dX11_leaves_12 : decode cX11_leaves 12 = .ok (.ifCond .eq 5, 3) := by decide +kernel
theorem dX11_leaves_17 : decode cX11_leaves 17 = .ok (.aload_n 0, 1) := by decide +kernel
theorem dX11_leaves_18 : decode cX11_leaves 18 = .ok (.iload_n 1, 1) := by decide +kernel
theorem dX11_leaves_19 : decode cX11_leaves 19 = .ok (.invokevirtual 429, 3) := by decide +kernel
theorem dX11_leaves_22 : decode cX11_leaves 22 = .ok (.aload_n 0, 1) := by decide +kernel
theorem dX11_leaves_23 : decode cX11_leaves 23 = .ok (.getfield 426, 3) := by decide +kernel
theorem dX11_leaves_26 : decode cX11_leaves 26 = .ok (.ireturn, 1) := by decide +kernel
theorem dX11_leaves_15 : decode cX11_leaves 15 = .ok (.iload_n 2, 1) := by decide +kernel
theorem dX11_leaves_16 : decode cX11_leaves 16 = .ok (.ireturn, 1) := by decide +kernel
def FX11_leaves_0  (x1 : Int) (f : Mm) : Option (Int × Mm) := (b2 (FX11_whyNot x1 (up f 150 0 0)) fun y1 f1 => (if y1 = 0 then ((FX11_laysAsk x1 f1).bind fun f2 => some ((f2 150 50), f2)) else some (y1, f1)))
set_option maxHeartbeats 4000000 in
set_option maxRecDepth 100000 in
theorem SX11_leaves_0 {G : GT} {l : Launch} {Q : Option AV → Mem → Prop}  (x1 : Int) (f : Mm) (h : OkI Q (FX11_leaves_0  x1 f)) : Ev G l MX11_leaves (Rm 7 0 0) (ZM G Q 0 0) 0 0 0 [some (vR 150), some (vI x1), none] [] (SH, RF, f) := by
  unfold FX11_leaves_0 at h
  refine ev_aload_n (i := 0) dX11_leaves_0 rfl rfl ?_
  refine ev_iconst dX11_leaves_1 (r32c rfl) ?_
  refine ev_putI dX11_leaves_2 fl_X11_98 sh_150 (by decide) (by decide) ?_
  refine ev_aload_n (i := 0) dX11_leaves_5 rfl rfl ?_
  refine ev_iload_n (i := 1) dX11_leaves_6 rfl rfl ?_
  refine ev_cVI (b := 150) (av := [vI x1]) (S := []) (fun q => q) h dX11_leaves_7 (fun Q' q => TX11_whyNot x1 _ q) kvX11_whyNot ml_X11_417 sh_150 rfl (RRc (by decide) (by decide)) (Nat.le_of_ble_eq_true rfl) ⟨Nat.le_of_ble_eq_true rfl, Nat.le_of_ble_eq_true rfl⟩ (fun y1 f1 h => ?_)
  refine ev_istore_n (i := 2) (L' := [some (vR 150), some (vI x1), some (vI y1)]) dX11_leaves_10 rfl (by decide) rfl ?_
  refine ev_iload_n (i := 2) dX11_leaves_11 rfl rfl ?_
  refine ev_if_eq (tgt := 17) dX11_leaves_12 (by decide) (fun c3 => ?_) (fun c3 => ?_)
  · rw [if_pos c3] at h
    refine ev_aload_n (i := 0) dX11_leaves_17 rfl rfl ?_
    refine ev_iload_n (i := 1) dX11_leaves_18 rfl rfl ?_
    refine ev_cVV (b := 150) (av := [vI x1]) (S := []) (fun q => q) h dX11_leaves_19 (fun Q' q => TX11_laysAsk x1 _ q) kvX11_laysAsk ml_X11_429 sh_150 rfl (RRc (by decide) (by decide)) (Nat.le_of_ble_eq_true rfl) ⟨Nat.le_of_ble_eq_true rfl, Nat.le_of_ble_eq_true rfl⟩ (fun f2 h => ?_)
    refine ev_aload_n (i := 0) dX11_leaves_22 rfl rfl ?_
    refine ex_getI (x := (f2 150 50)) dX11_leaves_23 fl_X11_426 sh_150 (by decide) (by decide) rfl ?_
    exact ev_iret rfl dX11_leaves_26 h
  · rw [if_neg c3] at h
    refine ev_iload_n (i := 2) dX11_leaves_15 rfl rfl ?_
    exact ev_iret rfl dX11_leaves_16 h
def FX11_leaves (x1 : Int) (f : Mm) : Option (Int × Mm) := FX11_leaves_0 x1 f
set_option maxRecDepth 100000 in
theorem TX11_leaves {G : GT} {l : Launch} {Q : Option AV → Mem → Prop} (x1 : Int) (f : Mm) (h : OkI Q (FX11_leaves x1 f)) : Ret G l MX11_leaves (7) 0 0 [vR 150, vI x1] (SH, RF, f) Q := by
  refine ret_of (L := [some (vR 150), some (vI x1), none]) (by decide) rfl (Nat.le_of_ble_eq_true rfl) ?_
  exact SX11_leaves_0 x1 f h
theorem dX11_isCool_0 : decode cX11_isCool 0 = .ok (.aload_n 0, 1) := by decide +kernel
theorem dX11_isCool_1 : decode cX11_isCool 1 = .ok (.iconst 0, 1) := by decide +kernel
theorem dX11_isCool_2 : decode cX11_isCool 2 = .ok (.iload_n 2, 1) := by decide +kernel
theorem dX11_isCool_3 : decode cX11_isCool 3 = .ok (.invokevirtual 293, 3) := by decide +kernel
theorem dX11_isCool_6 : decode cX11_isCool 6 = .ok (.aload_n 0, 1) := by decide +kernel
theorem dX11_isCool_7 : decode cX11_isCool 7 = .ok (.iload_n 1, 1) := by decide +kernel
theorem dX11_isCool_8 : decode cX11_isCool 8 = .ok (.invokevirtual 414, 3) := by decide +kernel
theorem dX11_isCool_11 : decode cX11_isCool 11 = .ok (.ireturn, 1) := by decide +kernel
def FX11_isCool_0  (x1 : Int) (x2 : Int) (f : Mm) : Option (Int × Mm) := ((FX11_goes 0 x2 f).bind fun f1 => (b2 (FX11_isSo x1 f1) fun y2 f2 => (if y2 = 0 ∨ y2 = 1 then some (y2, f2) else none)))
set_option maxHeartbeats 4000000 in
set_option maxRecDepth 100000 in
theorem SX11_isCool_0 {G : GT} {l : Launch} {Q : Option AV → Mem → Prop}  (x1 : Int) (x2 : Int) (f : Mm) (h : OkI Q (FX11_isCool_0  x1 x2 f)) : Ev G l MX11_isCool (Rm 4 0 0) (ZM G Q 0 0) 0 0 0 [some (vR 150), some (vI x1), some (vI x2)] [] (SH, RF, f) := by
  unfold FX11_isCool_0 at h
  refine ev_aload_n (i := 0) dX11_isCool_0 rfl rfl ?_
  refine ev_iconst dX11_isCool_1 (r32c rfl) ?_
  refine ev_iload_n (i := 2) dX11_isCool_2 rfl rfl ?_
  refine ev_cVV (b := 150) (av := [vI 0, vI x2]) (S := []) (fun q => q) h dX11_isCool_3 (fun Q' q => TX11_goes 0 x2 _ q) kvX11_goes ml_X11_293 sh_150 rfl (RRc (by decide) (by decide)) (Nat.le_of_ble_eq_true rfl) ⟨Nat.le_of_ble_eq_true rfl, Nat.le_of_ble_eq_true rfl⟩ (fun f1 h => ?_)
  refine ev_aload_n (i := 0) dX11_isCool_6 rfl rfl ?_
  refine ev_iload_n (i := 1) dX11_isCool_7 rfl rfl ?_
  refine ev_cVI (b := 150) (av := [vI x1]) (S := []) (fun q => q) h dX11_isCool_8 (fun Q' q => TX11_isSo x1 _ q) kvX11_isSo ml_X11_414 sh_150 rfl (RRc (by decide) (by decide)) (Nat.le_of_ble_eq_true rfl) ⟨Nat.le_of_ble_eq_true rfl, Nat.le_of_ble_eq_true rfl⟩ (fun y2 f2 h => ?_)
  by_cases g3 : y2 = 0 ∨ y2 = 1
  · rw [if_pos g3] at h
    exact ev_zret rfl g3 dX11_isCool_11 h
  · rw [if_neg g3] at h; exact h.elim
def FX11_isCool (x1 : Int) (x2 : Int) (f : Mm) : Option (Int × Mm) := FX11_isCool_0 x1 x2 f
set_option maxRecDepth 100000 in
theorem TX11_isCool {G : GT} {l : Launch} {Q : Option AV → Mem → Prop} (x1 : Int) (x2 : Int) (f : Mm) (h : OkI Q (FX11_isCool x1 x2 f)) : Ret G l MX11_isCool (4) 0 0 [vR 150, vI x1, vI x2] (SH, RF, f) Q := by
  refine ret_of (L := [some (vR 150), some (vI x1), some (vI x2)]) (by decide) rfl (Nat.le_of_ble_eq_true rfl) ?_
  exact SX11_isCool_0 x1 x2 f h
theorem dX11_cools_49 : decode cX11_cools 49 = .ok (.iadd, 1) := by decide +kernel
theorem dX11_cools_50 : decode cX11_cools 50 = .ok (.istore_n 3, 1) := by decide +kernel
theorem dX11_cools_51 : decode cX11_cools 51 = .ok (.iinc 4 1, 3) := by decide +kernel
theorem dX11_cools_54 : decode cX11_cools 54 = .ok (.goto (-28), 3) := by decide +kernel
theorem dX11_cools_26 : decode cX11_cools 26 = .ok (.iload 4, 2) := by decide +kernel
theorem dX11_cools_28 : decode cX11_cools 28 = .ok (.bipush 9, 2) := by decide +kernel
theorem dX11_cools_30 : decode cX11_cools 30 = .ok (.if_icmp .gt 27, 3) := by decide +kernel
theorem dX11_cools_57 : decode cX11_cools 57 = .ok (.iload_n 3, 1) := by decide +kernel
theorem dX11_cools_58 : decode cX11_cools 58 = .ok (.ireturn, 1) := by decide +kernel
theorem dX11_cools_33 : decode cX11_cools 33 = .ok (.iload_n 3, 1) := by decide +kernel
theorem dX11_cools_34 : decode cX11_cools 34 = .ok (.aload_n 0, 1) := by decide +kernel
theorem dX11_cools_35 : decode cX11_cools 35 = .ok (.iload_n 1, 1) := by decide +kernel
theorem dX11_cools_36 : decode cX11_cools 36 = .ok (.iload 4, 2) := by decide +kernel
theorem dX11_cools_38 : decode cX11_cools 38 = .ok (.invokevirtual 432, 3) := by decide +kernel
theorem dX11_cools_41 : decode cX11_cools 41 = .ok (.ifCond .eq 7, 3) := by decide +kernel
theorem dX11_cools_48 : decode cX11_cools 48 = .ok (.iconst 0, 1) := by decide +kernel
theorem dX11_cools_44 : decode cX11_cools 44 = .ok (.iconst 1, 1) := by decide +kernel
theorem dX11_cools_45 : decode cX11_cools 45 = .ok (.goto 4, 3) := by decide +kernel
theorem dX11_cools_0 : decode cX11_cools 0 = .ok (.aload_n 0, 1) := by decide +kernel
theorem dX11_cools_1 : decode cX11_cools 1 = .ok (.iconst 0, 1) := by decide +kernel
theorem dX11_cools_2 : decode cX11_cools 2 = .ok (.putfield 98, 3) := by decide +kernel
theorem dX11_cools_5 : decode cX11_cools 5 = .ok (.aload_n 0, 1) := by decide +kernel
theorem dX11_cools_6 : decode cX11_cools 6 = .ok (.iload_n 1, 1) := by decide +kernel
theorem dX11_cools_7 : decode cX11_cools 7 = .ok (.invokevirtual 417, 3) := by decide +kernel
theorem dX11_cools_10 : decode cX11_cools 10 = .ok (.istore_n 2, 1) := by decide +kernel
theorem dX11_cools_11 : decode cX11_cools 11 = .ok (.iload_n 2, 1) := by decide +kernel
theorem dX11_cools_12 : decode cX11_cools 12 = .ok (.ifCond .eq 5, 3) := by decide +kernel
theorem dX11_cools_17 : decode cX11_cools 17 = .ok (.aload_n 0, 1) := by decide +kernel
theorem dX11_cools_18 : decode cX11_cools 18 = .ok (.invokevirtual 296, 3) := by decide +kernel
theorem dX11_cools_21 : decode cX11_cools 21 = .ok (.iconst 0, 1) := by decide +kernel
theorem dX11_cools_22 : decode cX11_cools 22 = .ok (.istore_n 3, 1) := by decide +kernel
theorem dX11_cools_23 : decode cX11_cools 23 = .ok (.iconst 0, 1) := by decide +kernel
theorem dX11_cools_24 : decode cX11_cools 24 = .ok (.istore 4, 2) := by decide +kernel
theorem dX11_cools_15 : decode cX11_cools 15 = .ok (.iload_n 2, 1) := by decide +kernel
theorem dX11_cools_16 : decode cX11_cools 16 = .ok (.ireturn, 1) := by decide +kernel
def FX11_cools_49 (k26 : Int → Int → Int → Mm → Option (Int × Mm)) (x1 : Int) (x4 : Int) (s0 : Int) (s1 : Int) (f : Mm) : Option (Int × Mm) := k26 x1 (w32 (s0 + s1)) (w32 (x4 + 1)) f
set_option maxHeartbeats 4000000 in
set_option maxRecDepth 100000 in
theorem SX11_cools_49 {G : GT} {l : Launch} {Q : Option AV → Mem → Prop} {k26 : Int → Int → Int → Mm → Option (Int × Mm)} (q26 : ∀ (x1 : Int) (x3 : Int) (x4 : Int) (f : Mm), OkI Q (k26 x1 x3 x4 f) → Ev G l MX11_cools (Rm 5 0 0) (ZM G Q 0 0) 0 0 26 [some (vR 150), some (vI x1), none, some (vI x3), some (vI x4)] [] (SH, RF, f)) (x1 : Int) (x4 : Int) (s0 : Int) (s1 : Int) (f : Mm) (h : OkI Q (FX11_cools_49 k26 x1 x4 s0 s1 f)) : Ev G l MX11_cools (Rm 5 0 0) (ZM G Q 0 0) 0 0 49 [some (vR 150), some (vI x1), none, none, some (vI x4)] [vI s1, vI s0] (SH, RF, f) := by
  unfold FX11_cools_49 at h
  refine ev_iadd dX11_cools_49 ?_
  refine ev_istore_n (i := 3) (L' := [some (vR 150), some (vI x1), none, some (vI (w32 (s0 + s1))), some (vI x4)]) dX11_cools_50 rfl (by decide) rfl ?_
  refine ev_iinc (L' := [some (vR 150), some (vI x1), none, some (vI (w32 (s0 + s1))), some (vI (w32 (x4 + 1)))]) dX11_cools_51 rfl (by decide) rfl ?_
  refine ev_goto (tgt := 26) dX11_cools_54 (by decide) ?_
  exact q26 x1 (w32 (s0 + s1)) (w32 (x4 + 1)) _ h
def FX11_cools_26  : Nat → Int → Int → Int → Mm → Option (Int × Mm)
  | 0, _, _, _, _ => none
  | n + 1, x1, x3, x4, f => (if 9 < x4 then some (x3, f) else (b2 (FX11_isCool x1 x4 f) fun y1 f1 => (if y1 = 0 then FX11_cools_49 (FX11_cools_26 n) x1 x4 x3 0 f1 else FX11_cools_49 (FX11_cools_26 n) x1 x4 x3 1 f1)))
set_option maxHeartbeats 4000000 in
set_option maxRecDepth 100000 in
theorem SX11_cools_26 {G : GT} {l : Launch} {Q : Option AV → Mem → Prop}  : ∀ (n : Nat) (x1 : Int) (x3 : Int) (x4 : Int) (f : Mm), OkI Q (FX11_cools_26  n x1 x3 x4 f) → Ev G l MX11_cools (Rm 5 0 0) (ZM G Q 0 0) 0 0 26 [some (vR 150), some (vI x1), none, some (vI x3), some (vI x4)] [] (SH, RF, f) := by
  intro n
  induction n with
  | zero => intro x1 x3 x4 f h; exact absurd h (by rw [FX11_cools_26]; exact fun q => q)
  | succ n ih =>
    intro x1 x3 x4 f h
    rw [FX11_cools_26] at h
    refine ev_iload dX11_cools_26 rfl ?_
    refine ev_bipush (v := 9) dX11_cools_28 (r32c rfl) (by decide) ?_
    refine ev_icmp_gt (tgt := 57) dX11_cools_30 (by decide) (fun c3 => ?_) (fun c3 => ?_)
    · rw [if_pos c3] at h
      refine ev_iload_n (i := 3) dX11_cools_57 rfl rfl ?_
      exact ev_iret rfl dX11_cools_58 h
    · rw [if_neg c3] at h
      refine ev_iload_n (i := 3) dX11_cools_33 rfl rfl ?_
      refine ev_aload_n (i := 0) dX11_cools_34 rfl rfl ?_
      refine ev_iload_n (i := 1) dX11_cools_35 rfl rfl ?_
      refine ev_iload dX11_cools_36 rfl ?_
      refine ev_cVI (b := 150) (av := [vI x1, vI x4]) (S := [vI x3]) (fun q => q) h dX11_cools_38 (fun Q' q => TX11_isCool x1 x4 _ q) kvX11_isCool ml_X11_432 sh_150 rfl (RRc (by decide) (by decide)) (Nat.le_of_ble_eq_true rfl) ⟨Nat.le_of_ble_eq_true rfl, Nat.le_of_ble_eq_true rfl⟩ (fun y1 f1 h => ?_)
      refine ev_if_eq (tgt := 48) dX11_cools_41 (by decide) (fun c2 => ?_) (fun c2 => ?_)
      · rw [if_pos c2] at h
        refine ev_iconst dX11_cools_48 (r32c rfl) ?_
        refine ev_fg [true, true, true, false, true] rfl ?_
        exact SX11_cools_49 ih x1 x4 x3 0 _ h
      · rw [if_neg c2] at h
        refine ev_iconst dX11_cools_44 (r32c rfl) ?_
        refine ev_goto (tgt := 49) dX11_cools_45 (by decide) ?_
        refine ev_fg [true, true, true, false, true] rfl ?_
        exact SX11_cools_49 ih x1 x4 x3 1 _ h
def FX11_cools_0  (x1 : Int) (f : Mm) : Option (Int × Mm) := (b2 (FX11_whyNot x1 (up f 150 0 0)) fun y1 f1 => (if y1 = 0 then ((FX11_lays f1).bind fun f2 => FX11_cools_26 fu x1 0 0 f2) else some (y1, f1)))
set_option maxHeartbeats 4000000 in
set_option maxRecDepth 100000 in
theorem SX11_cools_0 {G : GT} {l : Launch} {Q : Option AV → Mem → Prop}  (x1 : Int) (f : Mm) (h : OkI Q (FX11_cools_0  x1 f)) : Ev G l MX11_cools (Rm 5 0 0) (ZM G Q 0 0) 0 0 0 [some (vR 150), some (vI x1), none, none, none] [] (SH, RF, f) := by
  unfold FX11_cools_0 at h
  refine ev_aload_n (i := 0) dX11_cools_0 rfl rfl ?_
  refine ev_iconst dX11_cools_1 (r32c rfl) ?_
  refine ev_putI dX11_cools_2 fl_X11_98 sh_150 (by decide) (by decide) ?_
  refine ev_aload_n (i := 0) dX11_cools_5 rfl rfl ?_
  refine ev_iload_n (i := 1) dX11_cools_6 rfl rfl ?_
  refine ev_cVI (b := 150) (av := [vI x1]) (S := []) (fun q => q) h dX11_cools_7 (fun Q' q => TX11_whyNot x1 _ q) kvX11_whyNot ml_X11_417 sh_150 rfl (RRc (by decide) (by decide)) (Nat.le_of_ble_eq_true rfl) ⟨Nat.le_of_ble_eq_true rfl, Nat.le_of_ble_eq_true rfl⟩ (fun y1 f1 h => ?_)
  refine ev_istore_n (i := 2) (L' := [some (vR 150), some (vI x1), some (vI y1), none, none]) dX11_cools_10 rfl (by decide) rfl ?_
  refine ev_iload_n (i := 2) dX11_cools_11 rfl rfl ?_
  refine ev_if_eq (tgt := 17) dX11_cools_12 (by decide) (fun c3 => ?_) (fun c3 => ?_)
  · rw [if_pos c3] at h
    refine ev_aload_n (i := 0) dX11_cools_17 rfl rfl ?_
    refine ev_cVV (b := 150) (av := []) (S := []) (fun q => q) h dX11_cools_18 (fun Q' q => TX11_lays _ q) kvX11_lays ml_X11_296 sh_150 rfl (RRc (by decide) (by decide)) (Nat.le_of_ble_eq_true rfl) ⟨Nat.le_of_ble_eq_true rfl, Nat.le_of_ble_eq_true rfl⟩ (fun f2 h => ?_)
    refine ev_iconst dX11_cools_21 (r32c rfl) ?_
    refine ev_istore_n (i := 3) (L' := [some (vR 150), some (vI x1), some (vI y1), some (vI 0), none]) dX11_cools_22 rfl (by decide) rfl ?_
    refine ev_iconst dX11_cools_23 (r32c rfl) ?_
    refine ev_istore (L' := [some (vR 150), some (vI x1), some (vI y1), some (vI 0), some (vI 0)]) dX11_cools_24 (by decide) rfl ?_
    refine ev_fg [true, true, false, true, true] rfl ?_
    exact SX11_cools_26  fu x1 0 0 _ h
  · rw [if_neg c3] at h
    refine ev_iload_n (i := 2) dX11_cools_15 rfl rfl ?_
    exact ev_iret rfl dX11_cools_16 h
def FX11_cools (x1 : Int) (f : Mm) : Option (Int × Mm) := FX11_cools_0 x1 f
set_option maxRecDepth 100000 in
theorem TX11_cools {G : GT} {l : Launch} {Q : Option AV → Mem → Prop} (x1 : Int) (f : Mm) (h : OkI Q (FX11_cools x1 f)) : Ret G l MX11_cools (5) 0 0 [vR 150, vI x1] (SH, RF, f) Q := by
  refine ret_of (L := [some (vR 150), some (vI x1), none, none, none]) (by decide) rfl (Nat.le_of_ble_eq_true rfl) ?_
  exact SX11_cools_0 x1 f h
theorem dX11_cool_23 : decode cX11_cool 23 = .ok (.iload_n 3, 1) := by decide +kernel
theorem dX11_cool_24 : decode cX11_cool 24 = .ok (.bipush 9, 2) := by decide +kernel
theorem dX11_cool_26 : decode cX11_cool 26 = .ok (.if_icmp .gt 20, 3) := by decide +kernel
theorem dX11_cool_46 : decode cX11_cool 46 = .ok (.iconst (-1), 1) := by decide +kernel
theorem dX11_cool_47 : decode cX11_cool 47 = .ok (.ireturn, 1) := by decide +kernel
theorem dX11_cool_29 : decode cX11_cool 29 = .ok (.aload_n 0, 1) := by decide +kernel
theorem dX11_cool_30 : decode cX11_cool 30 = .ok (.iload_n 1, 1) := by decide +kernel
theorem dX11_cool_31 : decode cX11_cool 31 = .ok (.iload_n 3, 1) := by decide +kernel
theorem dX11_cool_32 : decode cX11_cool 32 = .ok (.invokevirtual 432, 3) := by decide +kernel
theorem dX11_cool_35 : decode cX11_cool 35 = .ok (.ifCond .eq 5, 3) := by decide +kernel
theorem dX11_cool_40 : decode cX11_cool 40 = .ok (.iinc 3 1, 3) := by decide +kernel
theorem dX11_cool_43 : decode cX11_cool 43 = .ok (.goto (-20), 3) := by decide +kernel
theorem dX11_cool_38 : decode cX11_cool 38 = .ok (.iload_n 3, 1) := by decide +kernel
theorem dX11_cool_39 : decode cX11_cool 39 = .ok (.ireturn, 1) := by decide +kernel
theorem dX11_cool_0 : decode cX11_cool 0 = .ok (.aload_n 0, 1) := by decide +kernel
theorem dX11_cool_1 : decode cX11_cool 1 = .ok (.iconst 0, 1) := by decide +kernel
theorem dX11_cool_2 : decode cX11_cool 2 = .ok (.putfield 98, 3) := by decide +kernel
theorem dX11_cool_5 : decode cX11_cool 5 = .ok (.aload_n 0, 1) := by decide +kernel
theorem dX11_cool_6 : decode cX11_cool 6 = .ok (.iload_n 1, 1) := by decide +kernel
theorem dX11_cool_7 : decode cX11_cool 7 = .ok (.invokevirtual 417, 3) := by decide +kernel
theorem dX11_cool_10 : decode cX11_cool 10 = .ok (.istore_n 2, 1) := by decide +kernel
theorem dX11_cool_11 : decode cX11_cool 11 = .ok (.iload_n 2, 1) := by decide +kernel
theorem dX11_cool_12 : decode cX11_cool 12 = .ok (.ifCond .eq 5, 3) := by decide +kernel
theorem dX11_cool_17 : decode cX11_cool 17 = .ok (.aload_n 0, 1) := by decide +kernel
theorem dX11_cool_18 : decode cX11_cool 18 = .ok (.invokevirtual 296, 3) := by decide +kernel
theorem dX11_cool_21 : decode cX11_cool 21 = .ok (.iconst 0, 1) := by decide +kernel
theorem dX11_cool_22 : decode cX11_cool 22 = .ok (.istore_n 3, 1) := by decide +kernel
theorem dX11_cool_15 : decode cX11_cool 15 = .ok (.iload_n 2, 1) := by decide +kernel
theorem dX11_cool_16 : decode cX11_cool 16 = .ok (.ireturn, 1) := by decide +kernel
def FX11_cool_23  : Nat → Int → Int → Mm → Option (Int × Mm)
  | 0, _, _, _ => none
  | n + 1, x1, x3, f => (if 9 < x3 then some ((-1), f) else (b2 (FX11_isCool x1 x3 f) fun y1 f1 => (if y1 = 0 then FX11_cool_23 n x1 (w32 (x3 + 1)) f1 else some (x3, f1))))
set_option maxHeartbeats 4000000 in
set_option maxRecDepth 100000 in
theorem SX11_cool_23 {G : GT} {l : Launch} {Q : Option AV → Mem → Prop}  : ∀ (n : Nat) (x1 : Int) (x3 : Int) (f : Mm), OkI Q (FX11_cool_23  n x1 x3 f) → Ev G l MX11_cool (Rm 5 0 0) (ZM G Q 0 0) 0 0 23 [some (vR 150), some (vI x1), none, some (vI x3)] [] (SH, RF, f) := by
  intro n
  induction n with
  | zero => intro x1 x3 f h; exact absurd h (by rw [FX11_cool_23]; exact fun q => q)
  | succ n ih =>
    intro x1 x3 f h
    rw [FX11_cool_23] at h
    refine ev_iload_n (i := 3) dX11_cool_23 rfl rfl ?_
    refine ev_bipush (v := 9) dX11_cool_24 (r32c rfl) (by decide) ?_
    refine ev_icmp_gt (tgt := 46) dX11_cool_26 (by decide) (fun c3 => ?_) (fun c3 => ?_)
    · rw [if_pos c3] at h
      refine ev_iconst dX11_cool_46 (r32c rfl) ?_
      exact ev_iret rfl dX11_cool_47 h
    · rw [if_neg c3] at h
      refine ev_aload_n (i := 0) dX11_cool_29 rfl rfl ?_
      refine ev_iload_n (i := 1) dX11_cool_30 rfl rfl ?_
      refine ev_iload_n (i := 3) dX11_cool_31 rfl rfl ?_
      refine ev_cVI (b := 150) (av := [vI x1, vI x3]) (S := []) (fun q => q) h dX11_cool_32 (fun Q' q => TX11_isCool x1 x3 _ q) kvX11_isCool ml_X11_432 sh_150 rfl (RRc (by decide) (by decide)) (Nat.le_of_ble_eq_true rfl) ⟨Nat.le_of_ble_eq_true rfl, Nat.le_of_ble_eq_true rfl⟩ (fun y1 f1 h => ?_)
      refine ev_if_eq (tgt := 40) dX11_cool_35 (by decide) (fun c2 => ?_) (fun c2 => ?_)
      · rw [if_pos c2] at h
        refine ev_iinc (L' := [some (vR 150), some (vI x1), none, some (vI (w32 (x3 + 1)))]) dX11_cool_40 rfl (by decide) rfl ?_
        refine ev_goto (tgt := 23) dX11_cool_43 (by decide) ?_
        exact ih x1 (w32 (x3 + 1)) _ h
      · rw [if_neg c2] at h
        refine ev_iload_n (i := 3) dX11_cool_38 rfl rfl ?_
        exact ev_iret rfl dX11_cool_39 h
def FX11_cool_0  (x1 : Int) (f : Mm) : Option (Int × Mm) := (b2 (FX11_whyNot x1 (up f 150 0 0)) fun y1 f1 => (if y1 = 0 then ((FX11_lays f1).bind fun f2 => FX11_cool_23 fu x1 0 f2) else some (y1, f1)))
set_option maxHeartbeats 4000000 in
set_option maxRecDepth 100000 in
theorem SX11_cool_0 {G : GT} {l : Launch} {Q : Option AV → Mem → Prop}  (x1 : Int) (f : Mm) (h : OkI Q (FX11_cool_0  x1 f)) : Ev G l MX11_cool (Rm 5 0 0) (ZM G Q 0 0) 0 0 0 [some (vR 150), some (vI x1), none, none] [] (SH, RF, f) := by
  unfold FX11_cool_0 at h
  refine ev_aload_n (i := 0) dX11_cool_0 rfl rfl ?_
  refine ev_iconst dX11_cool_1 (r32c rfl) ?_
  refine ev_putI dX11_cool_2 fl_X11_98 sh_150 (by decide) (by decide) ?_
  refine ev_aload_n (i := 0) dX11_cool_5 rfl rfl ?_
  refine ev_iload_n (i := 1) dX11_cool_6 rfl rfl ?_
  refine ev_cVI (b := 150) (av := [vI x1]) (S := []) (fun q => q) h dX11_cool_7 (fun Q' q => TX11_whyNot x1 _ q) kvX11_whyNot ml_X11_417 sh_150 rfl (RRc (by decide) (by decide)) (Nat.le_of_ble_eq_true rfl) ⟨Nat.le_of_ble_eq_true rfl, Nat.le_of_ble_eq_true rfl⟩ (fun y1 f1 h => ?_)
  refine ev_istore_n (i := 2) (L' := [some (vR 150), some (vI x1), some (vI y1), none]) dX11_cool_10 rfl (by decide) rfl ?_
  refine ev_iload_n (i := 2) dX11_cool_11 rfl rfl ?_
  refine ev_if_eq (tgt := 17) dX11_cool_12 (by decide) (fun c3 => ?_) (fun c3 => ?_)
  · rw [if_pos c3] at h
    refine ev_aload_n (i := 0) dX11_cool_17 rfl rfl ?_
    refine ev_cVV (b := 150) (av := []) (S := []) (fun q => q) h dX11_cool_18 (fun Q' q => TX11_lays _ q) kvX11_lays ml_X11_296 sh_150 rfl (RRc (by decide) (by decide)) (Nat.le_of_ble_eq_true rfl) ⟨Nat.le_of_ble_eq_true rfl, Nat.le_of_ble_eq_true rfl⟩ (fun f2 h => ?_)
    refine ev_iconst dX11_cool_21 (r32c rfl) ?_
    refine ev_istore_n (i := 3) (L' := [some (vR 150), some (vI x1), some (vI y1), some (vI 0)]) dX11_cool_22 rfl (by decide) rfl ?_
    refine ev_fg [true, true, false, true] rfl ?_
    exact SX11_cool_23  fu x1 0 _ h
  · rw [if_neg c3] at h
    refine ev_iload_n (i := 2) dX11_cool_15 rfl rfl ?_
    exact ev_iret rfl dX11_cool_16 h
def FX11_cool (x1 : Int) (f : Mm) : Option (Int × Mm) := FX11_cool_0 x1 f
set_option maxRecDepth 100000 in
theorem TX11_cool {G : GT} {l : Launch} {Q : Option AV → Mem → Prop} (x1 : Int) (f : Mm) (h : OkI Q (FX11_cool x1 f)) : Ret G l MX11_cool (5) 0 0 [vR 150, vI x1] (SH, RF, f) Q := by
  refine ret_of (L := [some (vR 150), some (vI x1), none, none]) (by decide) rfl (Nat.le_of_ble_eq_true rfl) ?_
  exact SX11_cool_0 x1 f h
theorem dX11_isChoice_25 : decode cX11_isChoice 25 = .ok (.iconst 1, 1) := by decide +kernel
theorem dX11_isChoice_26 : decode cX11_isChoice 26 = .ok (.goto 4, 3) := by decide +kernel
theorem dX11_isChoice_30 : decode cX11_isChoice 30 = .ok (.ireturn, 1) := by decide +kernel
theorem dX11_isChoice_0 : decode cX11_isChoice 0 = .ok (.iload_n 1, 1) := by decide +kernel
theorem dX11_isChoice_1 : decode cX11_isChoice 1 = .ok (.iconst (-1), 1) := by decide +kernel
theorem dX11_isChoice_2 : decode cX11_isChoice 2 = .ok (.if_icmp .eq 23, 3) := by decide +kernel
theorem dX11_isChoice_5 : decode cX11_isChoice 5 = .ok (.aload_n 0, 1) := by decide +kernel
theorem dX11_isChoice_6 : decode cX11_isChoice 6 = .ok (.iload_n 1, 1) := by decide +kernel
theorem dX11_isChoice_7 : decode cX11_isChoice 7 = .ok (.invokevirtual 313, 3) := by decide +kernel
theorem dX11_isChoice_10 : decode cX11_isChoice 10 = .ok (.ifCond .eq 19, 3) := by decide +kernel
theorem dX11_isChoice_29 : decode cX11_isChoice 29 = .ok (.iconst 0, 1) := by decide +kernel
theorem dX11_isChoice_13 : decode cX11_isChoice 13 = .ok (.aload_n 0, 1) := by decide +kernel
theorem dX11_isChoice_14 : decode cX11_isChoice 14 = .ok (.getfield 37, 3) := by decide +kernel
theorem dX11_isChoice_17 : decode cX11_isChoice 17 = .ok (.iconst 4, 1) := by decide +kernel
theorem dX11_isChoice_18 : decode cX11_isChoice 18 = .ok (.iload_n 1, 1) := by decide +kernel
theorem dX11_isChoice_19 : decode cX11_isChoice 19 = .ok (.imul, 1) := by decide +kernel
theorem dX11_isChoice_20 : decode cX11_isChoice 20 = .ok (.iaload, 1) := by decide +kernel
theorem dX11_isChoice_21 : decode cX11_isChoice 21 = .ok (.iload_n 2, 1) := by decide +kernel
theorem dX11_isChoice_22 : decode cX11_isChoice 22 = .ok (.if_icmp .ne 7, 3) := by decide +kernel
def FX11_isChoice_25   (f : Mm) : Option (Int × Mm) := some (1, f)
set_option maxHeartbeats 4000000 in
set_option maxRecDepth 100000 in
theorem SX11_isChoice_25 {G : GT} {l : Launch} {Q : Option AV → Mem → Prop}   (f : Mm) (h : OkI Q (FX11_isChoice_25   f)) : Ev G l MX11_isChoice (Rm 3 0 0) (ZM G Q 0 0) 0 0 25 [none, none, none] [] (SH, RF, f) := by
  unfold FX11_isChoice_25 at h
  refine ev_iconst dX11_isChoice_25 (r32c rfl) ?_
  refine ev_goto (tgt := 30) dX11_isChoice_26 (by decide) ?_
  exact ev_zret rfl (by decide) dX11_isChoice_30 h
def FX11_isChoice_0  (x1 : Int) (x2 : Int) (f : Mm) : Option (Int × Mm) := (if x1 = (-1) then FX11_isChoice_25 f else (b2 (FX11_isDeed x1 f) fun y1 f1 => (if y1 = 0 then some (0, f1) else (if 0 ≤ (w32 (4 * x1)) ∧ (w32 (4 * x1)) < 80 then (if (f1 158 (w32 (4 * x1)).toNat) = x2 then FX11_isChoice_25 f1 else some (0, f1)) else none))))
set_option maxHeartbeats 4000000 in
set_option maxRecDepth 100000 in
theorem SX11_isChoice_0 {G : GT} {l : Launch} {Q : Option AV → Mem → Prop}  (x1 : Int) (x2 : Int) (f : Mm) (h : OkI Q (FX11_isChoice_0  x1 x2 f)) : Ev G l MX11_isChoice (Rm 3 0 0) (ZM G Q 0 0) 0 0 0 [some (vR 150), some (vI x1), some (vI x2)] [] (SH, RF, f) := by
  unfold FX11_isChoice_0 at h
  refine ev_iload_n (i := 1) dX11_isChoice_0 rfl rfl ?_
  refine ev_iconst dX11_isChoice_1 (r32c rfl) ?_
  refine ev_icmp_eq (tgt := 25) dX11_isChoice_2 (by decide) (fun c5 => ?_) (fun c5 => ?_)
  · rw [if_pos c5] at h
    refine ev_fg [false, false, false] rfl ?_
    exact SX11_isChoice_25   _ h
  · rw [if_neg c5] at h
    refine ev_aload_n (i := 0) dX11_isChoice_5 rfl rfl ?_
    refine ev_iload_n (i := 1) dX11_isChoice_6 rfl rfl ?_
    refine ev_cVI (b := 150) (av := [vI x1]) (S := []) (fun q => q) h dX11_isChoice_7 (fun Q' q => TX11_isDeed x1 _ q) kvX11_isDeed ml_X11_313 sh_150 rfl (RRc (by decide) (by decide)) (Nat.le_of_ble_eq_true rfl) ⟨Nat.le_of_ble_eq_true rfl, Nat.le_of_ble_eq_true rfl⟩ (fun y1 f1 h => ?_)
    refine ev_if_eq (tgt := 29) dX11_isChoice_10 (by decide) (fun c4 => ?_) (fun c4 => ?_)
    · rw [if_pos c4] at h
      refine ev_iconst dX11_isChoice_29 (r32c rfl) ?_
      exact ev_zret rfl (by decide) dX11_isChoice_30 h
    · rw [if_neg c4] at h
      refine ev_aload_n (i := 0) dX11_isChoice_13 rfl rfl ?_
      refine ev_getR dX11_isChoice_14 fl_X11_37 sh_150 (by decide) (by decide) rf_150_18 ?_
      refine ev_iconst dX11_isChoice_17 (r32c rfl) ?_
      refine ev_iload_n (i := 1) dX11_isChoice_18 rfl rfl ?_
      refine ev_imul dX11_isChoice_19 ?_
      by_cases g2 : 0 ≤ (w32 (4 * x1)) ∧ (w32 (4 * x1)) < 80
      · rw [if_pos g2] at h
        refine ex_iald (x := (f1 158 (w32 (4 * x1)).toNat)) dX11_isChoice_20 sh_158 g2.1 g2.2 rfl ?_
        refine ev_iload_n (i := 2) dX11_isChoice_21 rfl rfl ?_
        refine ev_icmp_ne (tgt := 29) dX11_isChoice_22 (by decide) (fun c3 => ?_) (fun c3 => ?_)
        · rw [if_neg c3] at h
          refine ev_iconst dX11_isChoice_29 (r32c rfl) ?_
          exact ev_zret rfl (by decide) dX11_isChoice_30 h
        · rw [if_pos c3] at h
          refine ev_fg [false, false, false] rfl ?_
          exact SX11_isChoice_25   _ h
      · rw [if_neg g2] at h; exact h.elim
def FX11_isChoice (x1 : Int) (x2 : Int) (f : Mm) : Option (Int × Mm) := FX11_isChoice_0 x1 x2 f
set_option maxRecDepth 100000 in
theorem TX11_isChoice {G : GT} {l : Launch} {Q : Option AV → Mem → Prop} (x1 : Int) (x2 : Int) (f : Mm) (h : OkI Q (FX11_isChoice x1 x2 f)) : Ret G l MX11_isChoice (3) 0 0 [vR 150, vI x1, vI x2] (SH, RF, f) Q := by
  refine ret_of (L := [some (vR 150), some (vI x1), some (vI x2)]) (by decide) rfl (Nat.le_of_ble_eq_true rfl) ?_
  exact SX11_isChoice_0 x1 x2 f h
theorem dX11_hasBy_121 : decode cX11_hasBy 121 = .ok (.iadd, 1) := by decide +kernel
theorem dX11_hasBy_122 : decode cX11_hasBy 122 = .ok (.istore 6, 2) := by decide +kernel
theorem dX11_hasBy_124 : decode cX11_hasBy 124 = .ok (.iinc 7 1, 3) := by decide +kernel
theorem dX11_hasBy_127 : decode cX11_hasBy 127 = .ok (.goto (-54), 3) := by decide +kernel
theorem dX11_hasBy_120 : decode cX11_hasBy 120 = .ok (.iconst 0, 1) := by decide +kernel
theorem dX11_hasBy_73 : decode cX11_hasBy 73 = .ok (.iload 7, 2) := by decide +kernel
theorem dX11_hasBy_75 : decode cX11_hasBy 75 = .ok (.aload_n 0, 1) := by decide +kernel
theorem dX11_hasBy_76 : decode cX11_hasBy 76 = .ok (.invokevirtual 269, 3) := by decide +kernel
theorem dX11_hasBy_79 : decode cX11_hasBy 79 = .ok (.if_icmp .ge 51, 3) := by decide +kernel
theorem dX11_hasBy_130 : decode cX11_hasBy 130 = .ok (.iload 6, 2) := by decide +kernel
theorem dX11_hasBy_132 : decode cX11_hasBy 132 = .ok (.ireturn, 1) := by decide +kernel
theorem dX11_hasBy_82 : decode cX11_hasBy 82 = .ok (.iload 6, 2) := by decide +kernel
theorem dX11_hasBy_84 : decode cX11_hasBy 84 = .ok (.aload_n 0, 1) := by decide +kernel
theorem dX11_hasBy_85 : decode cX11_hasBy 85 = .ok (.getfield 40, 3) := by decide +kernel
theorem dX11_hasBy_88 : decode cX11_hasBy 88 = .ok (.iconst 5, 1) := by decide +kernel
theorem dX11_hasBy_89 : decode cX11_hasBy 89 = .ok (.iload 7, 2) := by decide +kernel
theorem dX11_hasBy_91 : decode cX11_hasBy 91 = .ok (.imul, 1) := by decide +kernel
theorem dX11_hasBy_92 : decode cX11_hasBy 92 = .ok (.iaload, 1) := by decide +kernel
theorem dX11_hasBy_93 : decode cX11_hasBy 93 = .ok (.iload_n 1, 1) := by decide +kernel
theorem dX11_hasBy_94 : decode cX11_hasBy 94 = .ok (.if_icmp .ne 26, 3) := by decide +kernel
theorem dX11_hasBy_97 : decode cX11_hasBy 97 = .ok (.aload_n 0, 1) := by decide +kernel
theorem dX11_hasBy_98 : decode cX11_hasBy 98 = .ok (.iload 7, 2) := by decide +kernel
theorem dX11_hasBy_100 : decode cX11_hasBy 100 = .ok (.invokevirtual 310, 3) := by decide +kernel
theorem dX11_hasBy_103 : decode cX11_hasBy 103 = .ok (.ifCond .eq 17, 3) := by decide +kernel
theorem dX11_hasBy_106 : decode cX11_hasBy 106 = .ok (.aload_n 0, 1) := by decide +kernel
theorem dX11_hasBy_107 : decode cX11_hasBy 107 = .ok (.getfield 40, 3) := by decide +kernel
theorem dX11_hasBy_110 : decode cX11_hasBy 110 = .ok (.iconst 5, 1) := by decide +kernel
theorem dX11_hasBy_111 : decode cX11_hasBy 111 = .ok (.iload 7, 2) := by decide +kernel
theorem dX11_hasBy_113 : decode cX11_hasBy 113 = .ok (.imul, 1) := by decide +kernel
theorem dX11_hasBy_114 : decode cX11_hasBy 114 = .ok (.iconst 4, 1) := by decide +kernel
theorem dX11_hasBy_115 : decode cX11_hasBy 115 = .ok (.iadd, 1) := by decide +kernel
theorem dX11_hasBy_116 : decode cX11_hasBy 116 = .ok (.iaload, 1) := by decide +kernel
theorem dX11_hasBy_117 : decode cX11_hasBy 117 = .ok (.goto 4, 3) := by decide +kernel
theorem dX11_hasBy_68 : decode cX11_hasBy 68 = .ok (.istore 6, 2) := by decide +kernel
theorem dX11_hasBy_70 : decode cX11_hasBy 70 = .ok (.iconst 0, 1) := by decide +kernel
theorem dX11_hasBy_71 : decode cX11_hasBy 71 = .ok (.istore 7, 2) := by decide +kernel
theorem dX11_hasBy_44 : decode cX11_hasBy 44 = .ok (.istore 5, 2) := by decide +kernel
theorem dX11_hasBy_46 : decode cX11_hasBy 46 = .ok (.iload 5, 2) := by decide +kernel
theorem dX11_hasBy_48 : decode cX11_hasBy 48 = .ok (.iconst (-1), 1) := by decide +kernel
theorem dX11_hasBy_49 : decode cX11_hasBy 49 = .ok (.if_icmp .ne 7, 3) := by decide +kernel
theorem dX11_hasBy_56 : decode cX11_hasBy 56 = .ok (.aload_n 0, 1) := by decide +kernel
theorem dX11_hasBy_57 : decode cX11_hasBy 57 = .ok (.getfield 37, 3) := by decide +kernel
theorem dX11_hasBy_60 : decode cX11_hasBy 60 = .ok (.iconst 4, 1) := by decide +kernel
theorem dX11_hasBy_61 : decode cX11_hasBy 61 = .ok (.iload 5, 2) := by decide +kernel
theorem dX11_hasBy_63 : decode cX11_hasBy 63 = .ok (.imul, 1) := by decide +kernel
theorem dX11_hasBy_64 : decode cX11_hasBy 64 = .ok (.iconst 1, 1) := by decide +kernel
theorem dX11_hasBy_65 : decode cX11_hasBy 65 = .ok (.iadd, 1) := by decide +kernel
theorem dX11_hasBy_66 : decode cX11_hasBy 66 = .ok (.iaload, 1) := by decide +kernel
theorem dX11_hasBy_67 : decode cX11_hasBy 67 = .ok (.ineg, 1) := by decide +kernel
theorem dX11_hasBy_52 : decode cX11_hasBy 52 = .ok (.iconst 0, 1) := by decide +kernel
theorem dX11_hasBy_53 : decode cX11_hasBy 53 = .ok (.goto 15, 3) := by decide +kernel
theorem dX11_hasBy_0 : decode cX11_hasBy 0 = .ok (.aload_n 0, 1) := by decide +kernel
theorem dX11_hasBy_1 : decode cX11_hasBy 1 = .ok (.invokevirtual 296, 3) := by decide +kernel
theorem dX11_hasBy_4 : decode cX11_hasBy 4 = .ok (.aload_n 0, 1) := by decide +kernel
theorem dX11_hasBy_5 : decode cX11_hasBy 5 = .ok (.getfield 50, 3) := by decide +kernel
theorem dX11_hasBy_8 : decode cX11_hasBy 8 = .ok (.iload 4, 2) := by decide +kernel
theorem dX11_hasBy_10 : decode cX11_hasBy 10 = .ok (.iload_n 2, 1) := by decide +kernel
theorem dX11_hasBy_11 : decode cX11_hasBy 11 = .ok (.iastore, 1) := by decide +kernel
theorem dX11_hasBy_12 : decode cX11_hasBy 12 = .ok (.aload_n 0, 1) := by decide +kernel
theorem dX11_hasBy_13 : decode cX11_hasBy 13 = .ok (.iload 4, 2) := by decide +kernel
theorem dX11_hasBy_15 : decode cX11_hasBy 15 = .ok (.putfield 277, 3) := by decide +kernel
theorem dX11_hasBy_18 : decode cX11_hasBy 18 = .ok (.aload_n 0, 1) := by decide +kernel
theorem dX11_hasBy_19 : decode cX11_hasBy 19 = .ok (.iload_n 3, 1) := by decide +kernel
theorem dX11_hasBy_20 : decode cX11_hasBy 20 = .ok (.putfield 286, 3) := by decide +kernel
theorem dX11_hasBy_23 : decode cX11_hasBy 23 = .ok (.aload_n 0, 1) := by decide +kernel
theorem dX11_hasBy_24 : decode cX11_hasBy 24 = .ok (.invokevirtual 299, 3) := by decide +kernel
theorem dX11_hasBy_27 : decode cX11_hasBy 27 = .ok (.aload_n 0, 1) := by decide +kernel
theorem dX11_hasBy_28 : decode cX11_hasBy 28 = .ok (.invokevirtual 304, 3) := by decide +kernel
theorem dX11_hasBy_31 : decode cX11_hasBy 31 = .ok (.aload_n 0, 1) := by decide +kernel
theorem dX11_hasBy_32 : decode cX11_hasBy 32 = .ok (.invokevirtual 307, 3) := by decide +kernel
theorem dX11_hasBy_35 : decode cX11_hasBy 35 = .ok (.iload_n 1, 1) := by decide +kernel
theorem dX11_hasBy_36 : decode cX11_hasBy 36 = .ok (.ifCond .ne 7, 3) := by decide +kernel
theorem dX11_hasBy_43 : decode cX11_hasBy 43 = .ok (.iload_n 3, 1) := by decide +kernel
theorem dX11_hasBy_39 : decode cX11_hasBy 39 = .ok (.iload_n 2, 1) := by decide +kernel
theorem dX11_hasBy_40 : decode cX11_hasBy 40 = .ok (.goto 4, 3) := by decide +kernel
def FX11_hasBy_121 (k73 : Int → Int → Int → Mm → Option (Int × Mm)) (x1 : Int) (x7 : Int) (s0 : Int) (s1 : Int) (f : Mm) : Option (Int × Mm) := k73 x1 (w32 (s0 + s1)) (w32 (x7 + 1)) f
set_option maxHeartbeats 4000000 in
set_option maxRecDepth 100000 in
theorem SX11_hasBy_121 {G : GT} {l : Launch} {Q : Option AV → Mem → Prop} {k73 : Int → Int → Int → Mm → Option (Int × Mm)} (q73 : ∀ (x1 : Int) (x6 : Int) (x7 : Int) (f : Mm), OkI Q (k73 x1 x6 x7 f) → Ev G l MX11_hasBy (Rm 5 0 0) (ZM G Q 0 0) 0 0 73 [some (vR 150), some (vI x1), none, none, none, none, some (vI x6), some (vI x7)] [] (SH, RF, f)) (x1 : Int) (x7 : Int) (s0 : Int) (s1 : Int) (f : Mm) (h : OkI Q (FX11_hasBy_121 k73 x1 x7 s0 s1 f)) : Ev G l MX11_hasBy (Rm 5 0 0) (ZM G Q 0 0) 0 0 121 [some (vR 150), some (vI x1), none, none, none, none, none, some (vI x7)] [vI s1, vI s0] (SH, RF, f) := by
  unfold FX11_hasBy_121 at h
  refine ev_iadd dX11_hasBy_121 ?_
  refine ev_istore (L' := [some (vR 150), some (vI x1), none, none, none, none, some (vI (w32 (s0 + s1))), some (vI x7)]) dX11_hasBy_122 (by decide) rfl ?_
  refine ev_iinc (L' := [some (vR 150), some (vI x1), none, none, none, none, some (vI (w32 (s0 + s1))), some (vI (w32 (x7 + 1)))]) dX11_hasBy_124 rfl (by decide) rfl ?_
  refine ev_goto (tgt := 73) dX11_hasBy_127 (by decide) ?_
  exact q73 x1 (w32 (s0 + s1)) (w32 (x7 + 1)) _ h
def FX11_hasBy_120 (k73 : Int → Int → Int → Mm → Option (Int × Mm)) (x1 : Int) (x7 : Int) (s0 : Int) (f : Mm) : Option (Int × Mm) := FX11_hasBy_121 k73 x1 x7 s0 0 f
set_option maxHeartbeats 4000000 in
set_option maxRecDepth 100000 in
theorem SX11_hasBy_120 {G : GT} {l : Launch} {Q : Option AV → Mem → Prop} {k73 : Int → Int → Int → Mm → Option (Int × Mm)} (q73 : ∀ (x1 : Int) (x6 : Int) (x7 : Int) (f : Mm), OkI Q (k73 x1 x6 x7 f) → Ev G l MX11_hasBy (Rm 5 0 0) (ZM G Q 0 0) 0 0 73 [some (vR 150), some (vI x1), none, none, none, none, some (vI x6), some (vI x7)] [] (SH, RF, f)) (x1 : Int) (x7 : Int) (s0 : Int) (f : Mm) (h : OkI Q (FX11_hasBy_120 k73 x1 x7 s0 f)) : Ev G l MX11_hasBy (Rm 5 0 0) (ZM G Q 0 0) 0 0 120 [some (vR 150), some (vI x1), none, none, none, none, none, some (vI x7)] [vI s0] (SH, RF, f) := by
  unfold FX11_hasBy_120 at h
  refine ev_iconst dX11_hasBy_120 (r32c rfl) ?_
  exact SX11_hasBy_121 q73 x1 x7 s0 0 _ h
def FX11_hasBy_73  : Nat → Int → Int → Int → Mm → Option (Int × Mm)
  | 0, _, _, _, _ => none
  | n + 1, x1, x6, x7, f => (b2 (FX11_carts f) fun y1 f1 => (if y1 ≤ x7 then some (x6, f1) else (if 0 ≤ (w32 (5 * x7)) ∧ (w32 (5 * x7)) < 150 then (if (f1 159 (w32 (5 * x7)).toNat) = x1 then (b2 (FX11_isInTime x7 f1) fun y3 f3 => (if y3 = 0 then FX11_hasBy_120 (FX11_hasBy_73 n) x1 x7 x6 f3 else (if 0 ≤ (w32 ((w32 (5 * x7)) + 4)) ∧ (w32 ((w32 (5 * x7)) + 4)) < 150 then FX11_hasBy_121 (FX11_hasBy_73 n) x1 x7 x6 (f3 159 (w32 ((w32 (5 * x7)) + 4)).toNat) f3 else none))) else FX11_hasBy_120 (FX11_hasBy_73 n) x1 x7 x6 f1) else none)))
set_option maxHeartbeats 4000000 in
set_option maxRecDepth 100000 in
theorem SX11_hasBy_73 {G : GT} {l : Launch} {Q : Option AV → Mem → Prop}  : ∀ (n : Nat) (x1 : Int) (x6 : Int) (x7 : Int) (f : Mm), OkI Q (FX11_hasBy_73  n x1 x6 x7 f) → Ev G l MX11_hasBy (Rm 5 0 0) (ZM G Q 0 0) 0 0 73 [some (vR 150), some (vI x1), none, none, none, none, some (vI x6), some (vI x7)] [] (SH, RF, f) := by
  intro n
  induction n with
  | zero => intro x1 x6 x7 f h; exact absurd h (by rw [FX11_hasBy_73]; exact fun q => q)
  | succ n ih =>
    intro x1 x6 x7 f h
    rw [FX11_hasBy_73] at h
    refine ev_iload dX11_hasBy_73 rfl ?_
    refine ev_aload_n (i := 0) dX11_hasBy_75 rfl rfl ?_
    refine ev_cVI (b := 150) (av := []) (S := [vI x7]) (fun q => q) h dX11_hasBy_76 (fun Q' q => TX11_carts _ q) kvX11_carts ml_X11_269 sh_150 rfl (RRc (by decide) (by decide)) (Nat.le_of_ble_eq_true rfl) ⟨Nat.le_of_ble_eq_true rfl, Nat.le_of_ble_eq_true rfl⟩ (fun y1 f1 h => ?_)
    refine ev_icmp_ge (tgt := 130) dX11_hasBy_79 (by decide) (fun c7 => ?_) (fun c7 => ?_)
    · rw [if_pos c7] at h
      refine ev_iload dX11_hasBy_130 rfl ?_
      exact ev_iret rfl dX11_hasBy_132 h
    · rw [if_neg c7] at h
      refine ev_iload dX11_hasBy_82 rfl ?_
      refine ev_aload_n (i := 0) dX11_hasBy_84 rfl rfl ?_
      refine ev_getR dX11_hasBy_85 fl_X11_40 sh_150 (by decide) (by decide) rf_150_19 ?_
      refine ev_iconst dX11_hasBy_88 (r32c rfl) ?_
      refine ev_iload dX11_hasBy_89 rfl ?_
      refine ev_imul dX11_hasBy_91 ?_
      by_cases g2 : 0 ≤ (w32 (5 * x7)) ∧ (w32 (5 * x7)) < 150
      · rw [if_pos g2] at h
        refine ex_iald (x := (f1 159 (w32 (5 * x7)).toNat)) dX11_hasBy_92 sh_159 g2.1 g2.2 rfl ?_
        refine ev_iload_n (i := 1) dX11_hasBy_93 rfl rfl ?_
        refine ev_icmp_ne (tgt := 120) dX11_hasBy_94 (by decide) (fun c6 => ?_) (fun c6 => ?_)
        · rw [if_neg c6] at h
          refine ev_fg [true, true, true, true, true, true, false, true] rfl ?_
          exact SX11_hasBy_120 ih x1 x7 x6 _ h
        · rw [if_pos c6] at h
          refine ev_aload_n (i := 0) dX11_hasBy_97 rfl rfl ?_
          refine ev_iload dX11_hasBy_98 rfl ?_
          refine ev_cVI (b := 150) (av := [vI x7]) (S := [vI x6]) (fun q => q) h dX11_hasBy_100 (fun Q' q => TX11_isInTime x7 _ q) kvX11_isInTime ml_X11_310 sh_150 rfl (RRc (by decide) (by decide)) (Nat.le_of_ble_eq_true rfl) ⟨Nat.le_of_ble_eq_true rfl, Nat.le_of_ble_eq_true rfl⟩ (fun y3 f3 h => ?_)
          refine ev_if_eq (tgt := 120) dX11_hasBy_103 (by decide) (fun c5 => ?_) (fun c5 => ?_)
          · rw [if_pos c5] at h
            refine ev_fg [true, true, true, true, true, true, false, true] rfl ?_
            exact SX11_hasBy_120 ih x1 x7 x6 _ h
          · rw [if_neg c5] at h
            refine ev_aload_n (i := 0) dX11_hasBy_106 rfl rfl ?_
            refine ev_getR dX11_hasBy_107 fl_X11_40 sh_150 (by decide) (by decide) rf_150_19 ?_
            refine ev_iconst dX11_hasBy_110 (r32c rfl) ?_
            refine ev_iload dX11_hasBy_111 rfl ?_
            refine ev_imul dX11_hasBy_113 ?_
            refine ev_iconst dX11_hasBy_114 (r32c rfl) ?_
            refine ev_iadd dX11_hasBy_115 ?_
            by_cases g4 : 0 ≤ (w32 ((w32 (5 * x7)) + 4)) ∧ (w32 ((w32 (5 * x7)) + 4)) < 150
            · rw [if_pos g4] at h
              refine ex_iald (x := (f3 159 (w32 ((w32 (5 * x7)) + 4)).toNat)) dX11_hasBy_116 sh_159 g4.1 g4.2 rfl ?_
              refine ev_goto (tgt := 121) dX11_hasBy_117 (by decide) ?_
              refine ev_fg [true, true, true, true, true, true, false, true] rfl ?_
              exact SX11_hasBy_121 ih x1 x7 x6 (f3 159 (w32 ((w32 (5 * x7)) + 4)).toNat) _ h
            · rw [if_neg g4] at h; exact h.elim
      · rw [if_neg g2] at h; exact h.elim
def FX11_hasBy_68  (x1 : Int) (s0 : Int) (f : Mm) : Option (Int × Mm) := FX11_hasBy_73 fu x1 s0 0 f
set_option maxHeartbeats 4000000 in
set_option maxRecDepth 100000 in
theorem SX11_hasBy_68 {G : GT} {l : Launch} {Q : Option AV → Mem → Prop}  (x1 : Int) (s0 : Int) (f : Mm) (h : OkI Q (FX11_hasBy_68  x1 s0 f)) : Ev G l MX11_hasBy (Rm 5 0 0) (ZM G Q 0 0) 0 0 68 [some (vR 150), some (vI x1), none, none, none, none, none, none] [vI s0] (SH, RF, f) := by
  unfold FX11_hasBy_68 at h
  refine ev_istore (L' := [some (vR 150), some (vI x1), none, none, none, none, some (vI s0), none]) dX11_hasBy_68 (by decide) rfl ?_
  refine ev_iconst dX11_hasBy_70 (r32c rfl) ?_
  refine ev_istore (L' := [some (vR 150), some (vI x1), none, none, none, none, some (vI s0), some (vI 0)]) dX11_hasBy_71 (by decide) rfl ?_
  exact SX11_hasBy_73  fu x1 s0 0 _ h
def FX11_hasBy_44  (x1 : Int) (s0 : Int) (f : Mm) : Option (Int × Mm) := (if s0 = (-1) then FX11_hasBy_68 x1 0 f else (if 0 ≤ (w32 ((w32 (4 * s0)) + 1)) ∧ (w32 ((w32 (4 * s0)) + 1)) < 80 then FX11_hasBy_68 x1 (w32 (-(f 158 (w32 ((w32 (4 * s0)) + 1)).toNat))) f else none))
set_option maxHeartbeats 4000000 in
set_option maxRecDepth 100000 in
theorem SX11_hasBy_44 {G : GT} {l : Launch} {Q : Option AV → Mem → Prop}  (x1 : Int) (s0 : Int) (f : Mm) (h : OkI Q (FX11_hasBy_44  x1 s0 f)) : Ev G l MX11_hasBy (Rm 5 0 0) (ZM G Q 0 0) 0 0 44 [some (vR 150), some (vI x1), none, none, none, none, none, none] [vI s0] (SH, RF, f) := by
  unfold FX11_hasBy_44 at h
  refine ev_istore (L' := [some (vR 150), some (vI x1), none, none, none, some (vI s0), none, none]) dX11_hasBy_44 (by decide) rfl ?_
  refine ev_iload dX11_hasBy_46 rfl ?_
  refine ev_iconst dX11_hasBy_48 (r32c rfl) ?_
  refine ev_icmp_ne (tgt := 56) dX11_hasBy_49 (by decide) (fun c2 => ?_) (fun c2 => ?_)
  · rw [if_neg c2] at h
    refine ev_aload_n (i := 0) dX11_hasBy_56 rfl rfl ?_
    refine ev_getR dX11_hasBy_57 fl_X11_37 sh_150 (by decide) (by decide) rf_150_18 ?_
    refine ev_iconst dX11_hasBy_60 (r32c rfl) ?_
    refine ev_iload dX11_hasBy_61 rfl ?_
    refine ev_imul dX11_hasBy_63 ?_
    refine ev_iconst dX11_hasBy_64 (r32c rfl) ?_
    refine ev_iadd dX11_hasBy_65 ?_
    by_cases g1 : 0 ≤ (w32 ((w32 (4 * s0)) + 1)) ∧ (w32 ((w32 (4 * s0)) + 1)) < 80
    · rw [if_pos g1] at h
      refine ex_iald (x := (f 158 (w32 ((w32 (4 * s0)) + 1)).toNat)) dX11_hasBy_66 sh_158 g1.1 g1.2 rfl ?_
      refine ev_ineg dX11_hasBy_67 ?_
      refine ev_fg [true, true, true, true, true, false, true, true] rfl ?_
      exact SX11_hasBy_68  x1 (w32 (-(f 158 (w32 ((w32 (4 * s0)) + 1)).toNat))) _ h
    · rw [if_neg g1] at h; exact h.elim
  · rw [if_pos c2] at h
    refine ev_iconst dX11_hasBy_52 (r32c rfl) ?_
    refine ev_goto (tgt := 68) dX11_hasBy_53 (by decide) ?_
    refine ev_fg [true, true, true, true, true, false, true, true] rfl ?_
    exact SX11_hasBy_68  x1 0 _ h
def FX11_hasBy_0  (x1 : Int) (x2 : Int) (x3 : Int) (x4 : Int) (f : Mm) : Option (Int × Mm) := ((FX11_lays f).bind fun f1 => (if 0 ≤ x4 ∧ x4 < 6 then ((FX11_goes_ (up (up (up f1 162 x4.toNat x2) 150 23 x4) 150 24 x3)).bind fun f3 => ((FX11_byNumbers f3).bind fun f4 => ((FX11_passes f4).bind fun f5 => (if x1 = 0 then FX11_hasBy_44 x1 x2 f5 else FX11_hasBy_44 x1 x3 f5)))) else none))
set_option maxHeartbeats 4000000 in
set_option maxRecDepth 100000 in
theorem SX11_hasBy_0 {G : GT} {l : Launch} {Q : Option AV → Mem → Prop}  (x1 : Int) (x2 : Int) (x3 : Int) (x4 : Int) (f : Mm) (h : OkI Q (FX11_hasBy_0  x1 x2 x3 x4 f)) : Ev G l MX11_hasBy (Rm 5 0 0) (ZM G Q 0 0) 0 0 0 [some (vR 150), some (vI x1), some (vI x2), some (vI x3), some (vI x4), none, none, none] [] (SH, RF, f) := by
  unfold FX11_hasBy_0 at h
  refine ev_aload_n (i := 0) dX11_hasBy_0 rfl rfl ?_
  refine ev_cVV (b := 150) (av := []) (S := []) (fun q => q) h dX11_hasBy_1 (fun Q' q => TX11_lays _ q) kvX11_lays ml_X11_296 sh_150 rfl (RRc (by decide) (by decide)) (Nat.le_of_ble_eq_true rfl) ⟨Nat.le_of_ble_eq_true rfl, Nat.le_of_ble_eq_true rfl⟩ (fun f1 h => ?_)
  refine ev_aload_n (i := 0) dX11_hasBy_4 rfl rfl ?_
  refine ev_getR dX11_hasBy_5 fl_X11_50 sh_150 (by decide) (by decide) rf_150_22 ?_
  refine ev_iload dX11_hasBy_8 rfl ?_
  refine ev_iload_n (i := 2) dX11_hasBy_10 rfl rfl ?_
  by_cases g2 : 0 ≤ x4 ∧ x4 < 6
  · rw [if_pos g2] at h
    refine ex_iast (j := x4.toNat) dX11_hasBy_11 sh_162 g2.1 g2.2 rfl ?_
    refine ev_aload_n (i := 0) dX11_hasBy_12 rfl rfl ?_
    refine ev_iload dX11_hasBy_13 rfl ?_
    refine ev_putI dX11_hasBy_15 fl_X11_277 sh_150 (by decide) (by decide) ?_
    refine ev_aload_n (i := 0) dX11_hasBy_18 rfl rfl ?_
    refine ev_iload_n (i := 3) dX11_hasBy_19 rfl rfl ?_
    refine ev_putI dX11_hasBy_20 fl_X11_286 sh_150 (by decide) (by decide) ?_
    refine ev_aload_n (i := 0) dX11_hasBy_23 rfl rfl ?_
    refine ev_cVV (b := 150) (av := []) (S := []) (fun q => q) h dX11_hasBy_24 (fun Q' q => TX11_goes_ _ q) kvX11_goes_ ml_X11_299 sh_150 rfl (RRc (by decide) (by decide)) (Nat.le_of_ble_eq_true rfl) ⟨Nat.le_of_ble_eq_true rfl, Nat.le_of_ble_eq_true rfl⟩ (fun f3 h => ?_)
    refine ev_aload_n (i := 0) dX11_hasBy_27 rfl rfl ?_
    refine ev_cVV (b := 150) (av := []) (S := []) (fun q => q) h dX11_hasBy_28 (fun Q' q => TX11_byNumbers _ q) kvX11_byNumbers ml_X11_304 sh_150 rfl (RRc (by decide) (by decide)) (Nat.le_of_ble_eq_true rfl) ⟨Nat.le_of_ble_eq_true rfl, Nat.le_of_ble_eq_true rfl⟩ (fun f4 h => ?_)
    refine ev_aload_n (i := 0) dX11_hasBy_31 rfl rfl ?_
    refine ev_cVV (b := 150) (av := []) (S := []) (fun q => q) h dX11_hasBy_32 (fun Q' q => TX11_passes _ q) kvX11_passes ml_X11_307 sh_150 rfl (RRc (by decide) (by decide)) (Nat.le_of_ble_eq_true rfl) ⟨Nat.le_of_ble_eq_true rfl, Nat.le_of_ble_eq_true rfl⟩ (fun f5 h => ?_)
    refine ev_iload_n (i := 1) dX11_hasBy_35 rfl rfl ?_
    refine ev_if_ne (tgt := 43) dX11_hasBy_36 (by decide) (fun c6 => ?_) (fun c6 => ?_)
    · rw [if_neg c6] at h
      refine ev_iload_n (i := 3) dX11_hasBy_43 rfl rfl ?_
      refine ev_fg [true, true, false, false, false, true, true, true] rfl ?_
      exact SX11_hasBy_44  x1 x3 _ h
    · rw [if_pos c6] at h
      refine ev_iload_n (i := 2) dX11_hasBy_39 rfl rfl ?_
      refine ev_goto (tgt := 44) dX11_hasBy_40 (by decide) ?_
      refine ev_fg [true, true, false, false, false, true, true, true] rfl ?_
      exact SX11_hasBy_44  x1 x2 _ h
  · rw [if_neg g2] at h; exact h.elim
def FX11_hasBy (x1 : Int) (x2 : Int) (x3 : Int) (x4 : Int) (f : Mm) : Option (Int × Mm) := FX11_hasBy_0 x1 x2 x3 x4 f
set_option maxRecDepth 100000 in
theorem TX11_hasBy {G : GT} {l : Launch} {Q : Option AV → Mem → Prop} (x1 : Int) (x2 : Int) (x3 : Int) (x4 : Int) (f : Mm) (h : OkI Q (FX11_hasBy x1 x2 x3 x4 f)) : Ret G l MX11_hasBy (5) 0 0 [vR 150, vI x1, vI x2, vI x3, vI x4] (SH, RF, f) Q := by
  refine ret_of (L := [some (vR 150), some (vI x1), some (vI x2), some (vI x3), some (vI x4), none, none, none]) (by decide) rfl (Nat.le_of_ble_eq_true rfl) ?_
  exact SX11_hasBy_0 x1 x2 x3 x4 f h
theorem dX11_isRest_78 : decode cX11_isRest 78 = .ok (.iinc 4 1, 3) := by decide +kernel
theorem dX11_isRest_81 : decode cX11_isRest 81 = .ok (.goto (-78), 3) := by decide +kernel
theorem dX11_isRest_46 : decode cX11_isRest 46 = .ok (.aload_n 0, 1) := by decide +kernel
theorem dX11_isRest_47 : decode cX11_isRest 47 = .ok (.iload 4, 2) := by decide +kernel
theorem dX11_isRest_49 : decode cX11_isRest 49 = .ok (.iconst 1, 1) := by decide +kernel
theorem dX11_isRest_50 : decode cX11_isRest 50 = .ok (.invokevirtual 435, 3) := by decide +kernel
theorem dX11_isRest_53 : decode cX11_isRest 53 = .ok (.ifCond .eq 25, 3) := by decide +kernel
theorem dX11_isRest_56 : decode cX11_isRest 56 = .ok (.aload_n 0, 1) := by decide +kernel
theorem dX11_isRest_57 : decode cX11_isRest 57 = .ok (.iconst 1, 1) := by decide +kernel
theorem dX11_isRest_58 : decode cX11_isRest 58 = .ok (.iload_n 1, 1) := by decide +kernel
theorem dX11_isRest_59 : decode cX11_isRest 59 = .ok (.iload 4, 2) := by decide +kernel
theorem dX11_isRest_61 : decode cX11_isRest 61 = .ok (.iload_n 3, 1) := by decide +kernel
theorem dX11_isRest_62 : decode cX11_isRest 62 = .ok (.invokevirtual 438, 3) := by decide +kernel
theorem dX11_isRest_65 : decode cX11_isRest 65 = .ok (.aload_n 0, 1) := by decide +kernel
theorem dX11_isRest_66 : decode cX11_isRest 66 = .ok (.iconst 1, 1) := by decide +kernel
theorem dX11_isRest_67 : decode cX11_isRest 67 = .ok (.iload_n 1, 1) := by decide +kernel
theorem dX11_isRest_68 : decode cX11_isRest 68 = .ok (.iload_n 2, 1) := by decide +kernel
theorem dX11_isRest_69 : decode cX11_isRest 69 = .ok (.iload_n 3, 1) := by decide +kernel
theorem dX11_isRest_70 : decode cX11_isRest 70 = .ok (.invokevirtual 438, 3) := by decide +kernel
theorem dX11_isRest_73 : decode cX11_isRest 73 = .ok (.if_icmp .le 5, 3) := by decide +kernel
theorem dX11_isRest_76 : decode cX11_isRest 76 = .ok (.iconst 0, 1) := by decide +kernel
theorem dX11_isRest_77 : decode cX11_isRest 77 = .ok (.ireturn, 1) := by decide +kernel
theorem dX11_isRest_3 : decode cX11_isRest 3 = .ok (.iload 4, 2) := by decide +kernel
theorem dX11_isRest_5 : decode cX11_isRest 5 = .ok (.aload_n 0, 1) := by decide +kernel
theorem dX11_isRest_6 : decode cX11_isRest 6 = .ok (.getfield 34, 3) := by decide +kernel
theorem dX11_isRest_9 : decode cX11_isRest 9 = .ok (.iconst 5, 1) := by decide +kernel
theorem dX11_isRest_10 : decode cX11_isRest 10 = .ok (.iaload, 1) := by decide +kernel
theorem dX11_isRest_11 : decode cX11_isRest 11 = .ok (.if_icmp .ge 73, 3) := by decide +kernel
theorem dX11_isRest_84 : decode cX11_isRest 84 = .ok (.iconst 1, 1) := by decide +kernel
theorem dX11_isRest_85 : decode cX11_isRest 85 = .ok (.ireturn, 1) := by decide +kernel
theorem dX11_isRest_14 : decode cX11_isRest 14 = .ok (.aload_n 0, 1) := by decide +kernel
theorem dX11_isRest_15 : decode cX11_isRest 15 = .ok (.iload 4, 2) := by decide +kernel
theorem dX11_isRest_17 : decode cX11_isRest 17 = .ok (.iconst 0, 1) := by decide +kernel
theorem dX11_isRest_18 : decode cX11_isRest 18 = .ok (.invokevirtual 435, 3) := by decide +kernel
theorem dX11_isRest_21 : decode cX11_isRest 21 = .ok (.ifCond .eq 25, 3) := by decide +kernel
theorem dX11_isRest_24 : decode cX11_isRest 24 = .ok (.aload_n 0, 1) := by decide +kernel
theorem dX11_isRest_25 : decode cX11_isRest 25 = .ok (.iconst 0, 1) := by decide +kernel
theorem dX11_isRest_26 : decode cX11_isRest 26 = .ok (.iload 4, 2) := by decide +kernel
theorem dX11_isRest_28 : decode cX11_isRest 28 = .ok (.iload_n 2, 1) := by decide +kernel
theorem dX11_isRest_29 : decode cX11_isRest 29 = .ok (.iload_n 3, 1) := by decide +kernel
theorem dX11_isRest_30 : decode cX11_isRest 30 = .ok (.invokevirtual 438, 3) := by decide +kernel
theorem dX11_isRest_33 : decode cX11_isRest 33 = .ok (.aload_n 0, 1) := by decide +kernel
theorem dX11_isRest_34 : decode cX11_isRest 34 = .ok (.iconst 0, 1) := by decide +kernel
theorem dX11_isRest_35 : decode cX11_isRest 35 = .ok (.iload_n 1, 1) := by decide +kernel
theorem dX11_isRest_36 : decode cX11_isRest 36 = .ok (.iload_n 2, 1) := by decide +kernel
theorem dX11_isRest_37 : decode cX11_isRest 37 = .ok (.iload_n 3, 1) := by decide +kernel
theorem dX11_isRest_38 : decode cX11_isRest 38 = .ok (.invokevirtual 438, 3) := by decide +kernel
theorem dX11_isRest_41 : decode cX11_isRest 41 = .ok (.if_icmp .le 5, 3) := by decide +kernel
theorem dX11_isRest_44 : decode cX11_isRest 44 = .ok (.iconst 0, 1) := by decide +kernel
theorem dX11_isRest_45 : decode cX11_isRest 45 = .ok (.ireturn, 1) := by decide +kernel
theorem dX11_isRest_0 : decode cX11_isRest 0 = .ok (.iconst (-1), 1) := by decide +kernel
theorem dX11_isRest_1 : decode cX11_isRest 1 = .ok (.istore 4, 2) := by decide +kernel
def FX11_isRest_78 (k3 : Int → Int → Int → Int → Mm → Option (Int × Mm)) (x1 : Int) (x2 : Int) (x3 : Int) (x4 : Int) (f : Mm) : Option (Int × Mm) := k3 x1 x2 x3 (w32 (x4 + 1)) f
set_option maxHeartbeats 4000000 in
set_option maxRecDepth 100000 in
theorem SX11_isRest_78 {G : GT} {l : Launch} {Q : Option AV → Mem → Prop} {k3 : Int → Int → Int → Int → Mm → Option (Int × Mm)} (q3 : ∀ (x1 : Int) (x2 : Int) (x3 : Int) (x4 : Int) (f : Mm), OkI Q (k3 x1 x2 x3 x4 f) → Ev G l MX11_isRest (Rm 6 0 0) (ZM G Q 0 0) 0 0 3 [some (vR 150), some (vI x1), some (vI x2), some (vI x3), some (vI x4)] [] (SH, RF, f)) (x1 : Int) (x2 : Int) (x3 : Int) (x4 : Int) (f : Mm) (h : OkI Q (FX11_isRest_78 k3 x1 x2 x3 x4 f)) : Ev G l MX11_isRest (Rm 6 0 0) (ZM G Q 0 0) 0 0 78 [some (vR 150), some (vI x1), some (vI x2), some (vI x3), some (vI x4)] [] (SH, RF, f) := by
  unfold FX11_isRest_78 at h
  refine ev_iinc (L' := [some (vR 150), some (vI x1), some (vI x2), some (vI x3), some (vI (w32 (x4 + 1)))]) dX11_isRest_78 rfl (by decide) rfl ?_
  refine ev_goto (tgt := 3) dX11_isRest_81 (by decide) ?_
  exact q3 x1 x2 x3 (w32 (x4 + 1)) _ h
def FX11_isRest_46 (k3 : Int → Int → Int → Int → Mm → Option (Int × Mm)) (x1 : Int) (x2 : Int) (x3 : Int) (x4 : Int) (f : Mm) : Option (Int × Mm) := (b2 (FX11_isChoice x4 1 f) fun y1 f1 => (if y1 = 0 then FX11_isRest_78 k3 x1 x2 x3 x4 f1 else (b2 (FX11_hasBy 1 x1 x4 x3 f1) fun y2 f2 => (b2 (FX11_hasBy 1 x1 x2 x3 f2) fun y3 f3 => (if y2 ≤ y3 then FX11_isRest_78 k3 x1 x2 x3 x4 f3 else some (0, f3))))))
set_option maxHeartbeats 4000000 in
set_option maxRecDepth 100000 in
theorem SX11_isRest_46 {G : GT} {l : Launch} {Q : Option AV → Mem → Prop} {k3 : Int → Int → Int → Int → Mm → Option (Int × Mm)} (q3 : ∀ (x1 : Int) (x2 : Int) (x3 : Int) (x4 : Int) (f : Mm), OkI Q (k3 x1 x2 x3 x4 f) → Ev G l MX11_isRest (Rm 6 0 0) (ZM G Q 0 0) 0 0 3 [some (vR 150), some (vI x1), some (vI x2), some (vI x3), some (vI x4)] [] (SH, RF, f)) (x1 : Int) (x2 : Int) (x3 : Int) (x4 : Int) (f : Mm) (h : OkI Q (FX11_isRest_46 k3 x1 x2 x3 x4 f)) : Ev G l MX11_isRest (Rm 6 0 0) (ZM G Q 0 0) 0 0 46 [some (vR 150), some (vI x1), some (vI x2), some (vI x3), some (vI x4)] [] (SH, RF, f) := by
  unfold FX11_isRest_46 at h
  refine ev_aload_n (i := 0) dX11_isRest_46 rfl rfl ?_
  refine ev_iload dX11_isRest_47 rfl ?_
  refine ev_iconst dX11_isRest_49 (r32c rfl) ?_
  refine ev_cVI (b := 150) (av := [vI x4, vI 1]) (S := []) (fun q => q) h dX11_isRest_50 (fun Q' q => TX11_isChoice x4 1 _ q) kvX11_isChoice ml_X11_435 sh_150 rfl (RRc (by decide) (by decide)) (Nat.le_of_ble_eq_true rfl) ⟨Nat.le_of_ble_eq_true rfl, Nat.le_of_ble_eq_true rfl⟩ (fun y1 f1 h => ?_)
  refine ev_if_eq (tgt := 78) dX11_isRest_53 (by decide) (fun c5 => ?_) (fun c5 => ?_)
  · rw [if_pos c5] at h
    exact SX11_isRest_78 q3 x1 x2 x3 x4 _ h
  · rw [if_neg c5] at h
    refine ev_aload_n (i := 0) dX11_isRest_56 rfl rfl ?_
    refine ev_iconst dX11_isRest_57 (r32c rfl) ?_
    refine ev_iload_n (i := 1) dX11_isRest_58 rfl rfl ?_
    refine ev_iload dX11_isRest_59 rfl ?_
    refine ev_iload_n (i := 3) dX11_isRest_61 rfl rfl ?_
    refine ev_cVI (b := 150) (av := [vI 1, vI x1, vI x4, vI x3]) (S := []) (fun q => q) h dX11_isRest_62 (fun Q' q => TX11_hasBy 1 x1 x4 x3 _ q) kvX11_hasBy ml_X11_438 sh_150 rfl (RRc (by decide) (by decide)) (Nat.le_of_ble_eq_true rfl) ⟨Nat.le_of_ble_eq_true rfl, Nat.le_of_ble_eq_true rfl⟩ (fun y2 f2 h => ?_)
    refine ev_aload_n (i := 0) dX11_isRest_65 rfl rfl ?_
    refine ev_iconst dX11_isRest_66 (r32c rfl) ?_
    refine ev_iload_n (i := 1) dX11_isRest_67 rfl rfl ?_
    refine ev_iload_n (i := 2) dX11_isRest_68 rfl rfl ?_
    refine ev_iload_n (i := 3) dX11_isRest_69 rfl rfl ?_
    refine ev_cVI (b := 150) (av := [vI 1, vI x1, vI x2, vI x3]) (S := [vI y2]) (fun q => q) h dX11_isRest_70 (fun Q' q => TX11_hasBy 1 x1 x2 x3 _ q) kvX11_hasBy ml_X11_438 sh_150 rfl (RRc (by decide) (by decide)) (Nat.le_of_ble_eq_true rfl) ⟨Nat.le_of_ble_eq_true rfl, Nat.le_of_ble_eq_true rfl⟩ (fun y3 f3 h => ?_)
    refine ev_icmp_le (tgt := 78) dX11_isRest_73 (by decide) (fun c4 => ?_) (fun c4 => ?_)
    · rw [if_pos c4] at h
      exact SX11_isRest_78 q3 x1 x2 x3 x4 _ h
    · rw [if_neg c4] at h
      refine ev_iconst dX11_isRest_76 (r32c rfl) ?_
      exact ev_zret rfl (by decide) dX11_isRest_77 h
def FX11_isRest_3  : Nat → Int → Int → Int → Int → Mm → Option (Int × Mm)
  | 0, _, _, _, _, _ => none
  | n + 1, x1, x2, x3, x4, f => (if (f 157 5) ≤ x4 then some (1, f) else (b2 (FX11_isChoice x4 0 f) fun y1 f1 => (if y1 = 0 then FX11_isRest_46 (FX11_isRest_3 n) x1 x2 x3 x4 f1 else (b2 (FX11_hasBy 0 x4 x2 x3 f1) fun y2 f2 => (b2 (FX11_hasBy 0 x1 x2 x3 f2) fun y3 f3 => (if y2 ≤ y3 then FX11_isRest_46 (FX11_isRest_3 n) x1 x2 x3 x4 f3 else some (0, f3)))))))
set_option maxHeartbeats 4000000 in
set_option maxRecDepth 100000 in
theorem SX11_isRest_3 {G : GT} {l : Launch} {Q : Option AV → Mem → Prop}  : ∀ (n : Nat) (x1 : Int) (x2 : Int) (x3 : Int) (x4 : Int) (f : Mm), OkI Q (FX11_isRest_3  n x1 x2 x3 x4 f) → Ev G l MX11_isRest (Rm 6 0 0) (ZM G Q 0 0) 0 0 3 [some (vR 150), some (vI x1), some (vI x2), some (vI x3), some (vI x4)] [] (SH, RF, f) := by
  intro n
  induction n with
  | zero => intro x1 x2 x3 x4 f h; exact absurd h (by rw [FX11_isRest_3]; exact fun q => q)
  | succ n ih =>
    intro x1 x2 x3 x4 f h
    rw [FX11_isRest_3] at h
    refine ev_iload dX11_isRest_3 rfl ?_
    refine ev_aload_n (i := 0) dX11_isRest_5 rfl rfl ?_
    refine ev_getR dX11_isRest_6 fl_X11_34 sh_150 (by decide) (by decide) rf_150_17 ?_
    refine ev_iconst dX11_isRest_9 (r32c rfl) ?_
    refine ex_iald (x := (f 157 5)) dX11_isRest_10 sh_157 (by decide) (by decide) rfl ?_
    refine ev_icmp_ge (tgt := 84) dX11_isRest_11 (by decide) (fun c6 => ?_) (fun c6 => ?_)
    · rw [if_pos c6] at h
      refine ev_iconst dX11_isRest_84 (r32c rfl) ?_
      exact ev_zret rfl (by decide) dX11_isRest_85 h
    · rw [if_neg c6] at h
      refine ev_aload_n (i := 0) dX11_isRest_14 rfl rfl ?_
      refine ev_iload dX11_isRest_15 rfl ?_
      refine ev_iconst dX11_isRest_17 (r32c rfl) ?_
      refine ev_cVI (b := 150) (av := [vI x4, vI 0]) (S := []) (fun q => q) h dX11_isRest_18 (fun Q' q => TX11_isChoice x4 0 _ q) kvX11_isChoice ml_X11_435 sh_150 rfl (RRc (by decide) (by decide)) (Nat.le_of_ble_eq_true rfl) ⟨Nat.le_of_ble_eq_true rfl, Nat.le_of_ble_eq_true rfl⟩ (fun y1 f1 h => ?_)
      refine ev_if_eq (tgt := 46) dX11_isRest_21 (by decide) (fun c5 => ?_) (fun c5 => ?_)
      · rw [if_pos c5] at h
        exact SX11_isRest_46 ih x1 x2 x3 x4 _ h
      · rw [if_neg c5] at h
        refine ev_aload_n (i := 0) dX11_isRest_24 rfl rfl ?_
        refine ev_iconst dX11_isRest_25 (r32c rfl) ?_
        refine ev_iload dX11_isRest_26 rfl ?_
        refine ev_iload_n (i := 2) dX11_isRest_28 rfl rfl ?_
        refine ev_iload_n (i := 3) dX11_isRest_29 rfl rfl ?_
        refine ev_cVI (b := 150) (av := [vI 0, vI x4, vI x2, vI x3]) (S := []) (fun q => q) h dX11_isRest_30 (fun Q' q => TX11_hasBy 0 x4 x2 x3 _ q) kvX11_hasBy ml_X11_438 sh_150 rfl (RRc (by decide) (by decide)) (Nat.le_of_ble_eq_true rfl) ⟨Nat.le_of_ble_eq_true rfl, Nat.le_of_ble_eq_true rfl⟩ (fun y2 f2 h => ?_)
        refine ev_aload_n (i := 0) dX11_isRest_33 rfl rfl ?_
        refine ev_iconst dX11_isRest_34 (r32c rfl) ?_
        refine ev_iload_n (i := 1) dX11_isRest_35 rfl rfl ?_
        refine ev_iload_n (i := 2) dX11_isRest_36 rfl rfl ?_
        refine ev_iload_n (i := 3) dX11_isRest_37 rfl rfl ?_
        refine ev_cVI (b := 150) (av := [vI 0, vI x1, vI x2, vI x3]) (S := [vI y2]) (fun q => q) h dX11_isRest_38 (fun Q' q => TX11_hasBy 0 x1 x2 x3 _ q) kvX11_hasBy ml_X11_438 sh_150 rfl (RRc (by decide) (by decide)) (Nat.le_of_ble_eq_true rfl) ⟨Nat.le_of_ble_eq_true rfl, Nat.le_of_ble_eq_true rfl⟩ (fun y3 f3 h => ?_)
        refine ev_icmp_le (tgt := 46) dX11_isRest_41 (by decide) (fun c4 => ?_) (fun c4 => ?_)
        · rw [if_pos c4] at h
          exact SX11_isRest_46 ih x1 x2 x3 x4 _ h
        · rw [if_neg c4] at h
          refine ev_iconst dX11_isRest_44 (r32c rfl) ?_
          exact ev_zret rfl (by decide) dX11_isRest_45 h
def FX11_isRest_0  (x1 : Int) (x2 : Int) (x3 : Int) (f : Mm) : Option (Int × Mm) := FX11_isRest_3 fu x1 x2 x3 (-1) f
set_option maxHeartbeats 4000000 in
set_option maxRecDepth 100000 in
theorem SX11_isRest_0 {G : GT} {l : Launch} {Q : Option AV → Mem → Prop}  (x1 : Int) (x2 : Int) (x3 : Int) (f : Mm) (h : OkI Q (FX11_isRest_0  x1 x2 x3 f)) : Ev G l MX11_isRest (Rm 6 0 0) (ZM G Q 0 0) 0 0 0 [some (vR 150), some (vI x1), some (vI x2), some (vI x3), none] [] (SH, RF, f) := by
  unfold FX11_isRest_0 at h
  refine ev_iconst dX11_isRest_0 (r32c rfl) ?_
  refine ev_istore (L' := [some (vR 150), some (vI x1), some (vI x2), some (vI x3), some (vI (-1))]) dX11_isRest_1 (by decide) rfl ?_
  exact SX11_isRest_3  fu x1 x2 x3 (-1) _ h
def FX11_isRest (x1 : Int) (x2 : Int) (x3 : Int) (f : Mm) : Option (Int × Mm) := FX11_isRest_0 x1 x2 x3 f
set_option maxRecDepth 100000 in
theorem TX11_isRest {G : GT} {l : Launch} {Q : Option AV → Mem → Prop} (x1 : Int) (x2 : Int) (x3 : Int) (f : Mm) (h : OkI Q (FX11_isRest x1 x2 x3 f)) : Ret G l MX11_isRest (6) 0 0 [vR 150, vI x1, vI x2, vI x3] (SH, RF, f) Q := by
  refine ret_of (L := [some (vR 150), some (vI x1), some (vI x2), some (vI x3), none]) (by decide) rfl (Nat.le_of_ble_eq_true rfl) ?_
  exact SX11_isRest_0 x1 x2 x3 f h
theorem dX11_restsOf_101 : decode cX11_restsOf 101 = .ok (.iinc 3 1, 3) := by decide +kernel
theorem dX11_restsOf_104 : decode cX11_restsOf 104 = .ok (.goto (-95), 3) := by decide +kernel
theorem dX11_restsOf_95 : decode cX11_restsOf 95 = .ok (.iinc 4 1, 3) := by decide +kernel
theorem dX11_restsOf_98 : decode cX11_restsOf 98 = .ok (.goto (-76), 3) := by decide +kernel
theorem dX11_restsOf_89 : decode cX11_restsOf 89 = .ok (.putfield 442, 3) := by decide +kernel
theorem dX11_restsOf_92 : decode cX11_restsOf 92 = .ok (.iinc 2 1, 3) := by decide +kernel
theorem dX11_restsOf_22 : decode cX11_restsOf 22 = .ok (.iload 4, 2) := by decide +kernel
theorem dX11_restsOf_24 : decode cX11_restsOf 24 = .ok (.aload_n 0, 1) := by decide +kernel
theorem dX11_restsOf_25 : decode cX11_restsOf 25 = .ok (.getfield 34, 3) := by decide +kernel
theorem dX11_restsOf_28 : decode cX11_restsOf 28 = .ok (.iconst 5, 1) := by decide +kernel
theorem dX11_restsOf_29 : decode cX11_restsOf 29 = .ok (.iaload, 1) := by decide +kernel
theorem dX11_restsOf_30 : decode cX11_restsOf 30 = .ok (.if_icmp .ge 71, 3) := by decide +kernel
theorem dX11_restsOf_33 : decode cX11_restsOf 33 = .ok (.aload_n 0, 1) := by decide +kernel
theorem dX11_restsOf_34 : decode cX11_restsOf 34 = .ok (.iload_n 3, 1) := by decide +kernel
theorem dX11_restsOf_35 : decode cX11_restsOf 35 = .ok (.iconst 0, 1) := by decide +kernel
theorem dX11_restsOf_36 : decode cX11_restsOf 36 = .ok (.invokevirtual 435, 3) := by decide +kernel
theorem dX11_restsOf_39 : decode cX11_restsOf 39 = .ok (.ifCond .eq 56, 3) := by decide +kernel
theorem dX11_restsOf_42 : decode cX11_restsOf 42 = .ok (.aload_n 0, 1) := by decide +kernel
theorem dX11_restsOf_43 : decode cX11_restsOf 43 = .ok (.iload 4, 2) := by decide +kernel
theorem dX11_restsOf_45 : decode cX11_restsOf 45 = .ok (.iconst 1, 1) := by decide +kernel
theorem dX11_restsOf_46 : decode cX11_restsOf 46 = .ok (.invokevirtual 435, 3) := by decide +kernel
theorem dX11_restsOf_49 : decode cX11_restsOf 49 = .ok (.ifCond .eq 46, 3) := by decide +kernel
theorem dX11_restsOf_52 : decode cX11_restsOf 52 = .ok (.aload_n 0, 1) := by decide +kernel
theorem dX11_restsOf_53 : decode cX11_restsOf 53 = .ok (.iload_n 3, 1) := by decide +kernel
theorem dX11_restsOf_54 : decode cX11_restsOf 54 = .ok (.iload 4, 2) := by decide +kernel
theorem dX11_restsOf_56 : decode cX11_restsOf 56 = .ok (.iload_n 1, 1) := by decide +kernel
theorem dX11_restsOf_57 : decode cX11_restsOf 57 = .ok (.invokevirtual 445, 3) := by decide +kernel
theorem dX11_restsOf_60 : decode cX11_restsOf 60 = .ok (.ifCond .ne 6, 3) := by decide +kernel
theorem dX11_restsOf_66 : decode cX11_restsOf 66 = .ok (.aload_n 0, 1) := by decide +kernel
theorem dX11_restsOf_67 : decode cX11_restsOf 67 = .ok (.iload_n 2, 1) := by decide +kernel
theorem dX11_restsOf_68 : decode cX11_restsOf 68 = .ok (.ifCond .ne 17, 3) := by decide +kernel
theorem dX11_restsOf_85 : decode cX11_restsOf 85 = .ok (.aload_n 0, 1) := by decide +kernel
theorem dX11_restsOf_86 : decode cX11_restsOf 86 = .ok (.getfield 442, 3) := by decide +kernel
theorem dX11_restsOf_71 : decode cX11_restsOf 71 = .ok (.bipush 10, 2) := by decide +kernel
theorem dX11_restsOf_73 : decode cX11_restsOf 73 = .ok (.iload_n 3, 1) := by decide +kernel
theorem dX11_restsOf_74 : decode cX11_restsOf 74 = .ok (.iconst 1, 1) := by decide +kernel
theorem dX11_restsOf_75 : decode cX11_restsOf 75 = .ok (.iadd, 1) := by decide +kernel
theorem dX11_restsOf_76 : decode cX11_restsOf 76 = .ok (.imul, 1) := by decide +kernel
theorem dX11_restsOf_77 : decode cX11_restsOf 77 = .ok (.iload 4, 2) := by decide +kernel
theorem dX11_restsOf_79 : decode cX11_restsOf 79 = .ok (.iadd, 1) := by decide +kernel
theorem dX11_restsOf_80 : decode cX11_restsOf 80 = .ok (.iconst 1, 1) := by decide +kernel
theorem dX11_restsOf_81 : decode cX11_restsOf 81 = .ok (.iadd, 1) := by decide +kernel
theorem dX11_restsOf_82 : decode cX11_restsOf 82 = .ok (.goto 7, 3) := by decide +kernel
theorem dX11_restsOf_63 : decode cX11_restsOf 63 = .ok (.goto 32, 3) := by decide +kernel
theorem dX11_restsOf_9 : decode cX11_restsOf 9 = .ok (.iload_n 3, 1) := by decide +kernel
theorem dX11_restsOf_10 : decode cX11_restsOf 10 = .ok (.aload_n 0, 1) := by decide +kernel
theorem dX11_restsOf_11 : decode cX11_restsOf 11 = .ok (.getfield 34, 3) := by decide +kernel
theorem dX11_restsOf_14 : decode cX11_restsOf 14 = .ok (.iconst 5, 1) := by decide +kernel
theorem dX11_restsOf_15 : decode cX11_restsOf 15 = .ok (.iaload, 1) := by decide +kernel
theorem dX11_restsOf_16 : decode cX11_restsOf 16 = .ok (.if_icmp .ge 91, 3) := by decide +kernel
theorem dX11_restsOf_107 : decode cX11_restsOf 107 = .ok (.iload_n 2, 1) := by decide +kernel
theorem dX11_restsOf_108 : decode cX11_restsOf 108 = .ok (.ireturn, 1) := by decide +kernel
theorem dX11_restsOf_19 : decode cX11_restsOf 19 = .ok (.iconst (-1), 1) := by decide +kernel
theorem dX11_restsOf_20 : decode cX11_restsOf 20 = .ok (.istore 4, 2) := by decide +kernel
theorem dX11_restsOf_0 : decode cX11_restsOf 0 = .ok (.iconst 0, 1) := by decide +kernel
theorem dX11_restsOf_1 : decode cX11_restsOf 1 = .ok (.istore_n 2, 1) := by decide +kernel
theorem dX11_restsOf_2 : decode cX11_restsOf 2 = .ok (.aload_n 0, 1) := by decide +kernel
theorem dX11_restsOf_3 : decode cX11_restsOf 3 = .ok (.iconst (-1), 1) := by decide +kernel
theorem dX11_restsOf_4 : decode cX11_restsOf 4 = .ok (.putfield 442, 3) := by decide +kernel
theorem dX11_restsOf_7 : decode cX11_restsOf 7 = .ok (.iconst (-1), 1) := by decide +kernel
theorem dX11_restsOf_8 : decode cX11_restsOf 8 = .ok (.istore_n 3, 1) := by decide +kernel
def FX11_restsOf_101 (k9 : Int → Int → Int → Mm → Option (Int × Mm)) (x1 : Int) (x2 : Int) (x3 : Int) (f : Mm) : Option (Int × Mm) := k9 x1 x2 (w32 (x3 + 1)) f
set_option maxHeartbeats 4000000 in
set_option maxRecDepth 100000 in
theorem SX11_restsOf_101 {G : GT} {l : Launch} {Q : Option AV → Mem → Prop} {k9 : Int → Int → Int → Mm → Option (Int × Mm)} (q9 : ∀ (x1 : Int) (x2 : Int) (x3 : Int) (f : Mm), OkI Q (k9 x1 x2 x3 f) → Ev G l MX11_restsOf (Rm 7 0 0) (ZM G Q 0 0) 0 0 9 [some (vR 150), some (vI x1), some (vI x2), some (vI x3), none] [] (SH, RF, f)) (x1 : Int) (x2 : Int) (x3 : Int) (f : Mm) (h : OkI Q (FX11_restsOf_101 k9 x1 x2 x3 f)) : Ev G l MX11_restsOf (Rm 7 0 0) (ZM G Q 0 0) 0 0 101 [some (vR 150), some (vI x1), some (vI x2), some (vI x3), none] [] (SH, RF, f) := by
  unfold FX11_restsOf_101 at h
  refine ev_iinc (L' := [some (vR 150), some (vI x1), some (vI x2), some (vI (w32 (x3 + 1))), none]) dX11_restsOf_101 rfl (by decide) rfl ?_
  refine ev_goto (tgt := 9) dX11_restsOf_104 (by decide) ?_
  exact q9 x1 x2 (w32 (x3 + 1)) _ h
def FX11_restsOf_95 (k9 : Int → Int → Int → Mm → Option (Int × Mm)) (k22 : Int → Int → Int → Int → Mm → Option (Int × Mm)) (x1 : Int) (x2 : Int) (x3 : Int) (x4 : Int) (f : Mm) : Option (Int × Mm) := k22 x1 x2 x3 (w32 (x4 + 1)) f
set_option maxHeartbeats 4000000 in
set_option maxRecDepth 100000 in
theorem SX11_restsOf_95 {G : GT} {l : Launch} {Q : Option AV → Mem → Prop} {k9 : Int → Int → Int → Mm → Option (Int × Mm)} {k22 : Int → Int → Int → Int → Mm → Option (Int × Mm)} (q9 : ∀ (x1 : Int) (x2 : Int) (x3 : Int) (f : Mm), OkI Q (k9 x1 x2 x3 f) → Ev G l MX11_restsOf (Rm 7 0 0) (ZM G Q 0 0) 0 0 9 [some (vR 150), some (vI x1), some (vI x2), some (vI x3), none] [] (SH, RF, f)) (q22 : ∀ (x1 : Int) (x2 : Int) (x3 : Int) (x4 : Int) (f : Mm), OkI Q (k22 x1 x2 x3 x4 f) → Ev G l MX11_restsOf (Rm 7 0 0) (ZM G Q 0 0) 0 0 22 [some (vR 150), some (vI x1), some (vI x2), some (vI x3), some (vI x4)] [] (SH, RF, f)) (x1 : Int) (x2 : Int) (x3 : Int) (x4 : Int) (f : Mm) (h : OkI Q (FX11_restsOf_95 k9 k22 x1 x2 x3 x4 f)) : Ev G l MX11_restsOf (Rm 7 0 0) (ZM G Q 0 0) 0 0 95 [some (vR 150), some (vI x1), some (vI x2), some (vI x3), some (vI x4)] [] (SH, RF, f) := by
  unfold FX11_restsOf_95 at h
  refine ev_iinc (L' := [some (vR 150), some (vI x1), some (vI x2), some (vI x3), some (vI (w32 (x4 + 1)))]) dX11_restsOf_95 rfl (by decide) rfl ?_
  refine ev_goto (tgt := 22) dX11_restsOf_98 (by decide) ?_
  exact q22 x1 x2 x3 (w32 (x4 + 1)) _ h
def FX11_restsOf_89 (k9 : Int → Int → Int → Mm → Option (Int × Mm)) (k22 : Int → Int → Int → Int → Mm → Option (Int × Mm)) (x1 : Int) (x2 : Int) (x3 : Int) (x4 : Int) (s1 : Int) (f : Mm) : Option (Int × Mm) := FX11_restsOf_95 k9 k22 x1 (w32 (x2 + 1)) x3 x4 (up f 150 51 s1)
set_option maxHeartbeats 4000000 in
set_option maxRecDepth 100000 in
theorem SX11_restsOf_89 {G : GT} {l : Launch} {Q : Option AV → Mem → Prop} {k9 : Int → Int → Int → Mm → Option (Int × Mm)} {k22 : Int → Int → Int → Int → Mm → Option (Int × Mm)} (q9 : ∀ (x1 : Int) (x2 : Int) (x3 : Int) (f : Mm), OkI Q (k9 x1 x2 x3 f) → Ev G l MX11_restsOf (Rm 7 0 0) (ZM G Q 0 0) 0 0 9 [some (vR 150), some (vI x1), some (vI x2), some (vI x3), none] [] (SH, RF, f)) (q22 : ∀ (x1 : Int) (x2 : Int) (x3 : Int) (x4 : Int) (f : Mm), OkI Q (k22 x1 x2 x3 x4 f) → Ev G l MX11_restsOf (Rm 7 0 0) (ZM G Q 0 0) 0 0 22 [some (vR 150), some (vI x1), some (vI x2), some (vI x3), some (vI x4)] [] (SH, RF, f)) (x1 : Int) (x2 : Int) (x3 : Int) (x4 : Int) (s1 : Int) (f : Mm) (h : OkI Q (FX11_restsOf_89 k9 k22 x1 x2 x3 x4 s1 f)) : Ev G l MX11_restsOf (Rm 7 0 0) (ZM G Q 0 0) 0 0 89 [some (vR 150), some (vI x1), some (vI x2), some (vI x3), some (vI x4)] [vI s1, vR 150] (SH, RF, f) := by
  unfold FX11_restsOf_89 at h
  refine ev_putI dX11_restsOf_89 fl_X11_442 sh_150 (by decide) (by decide) ?_
  refine ev_iinc (L' := [some (vR 150), some (vI x1), some (vI (w32 (x2 + 1))), some (vI x3), some (vI x4)]) dX11_restsOf_92 rfl (by decide) rfl ?_
  exact SX11_restsOf_95 q9 q22 x1 (w32 (x2 + 1)) x3 x4 _ h
def FX11_restsOf_22 (k9 : Int → Int → Int → Mm → Option (Int × Mm)) : Nat → Int → Int → Int → Int → Mm → Option (Int × Mm)
  | 0, _, _, _, _, _ => none
  | n + 1, x1, x2, x3, x4, f => (if (f 157 5) ≤ x4 then FX11_restsOf_101 k9 x1 x2 x3 f else (b2 (FX11_isChoice x3 0 f) fun y1 f1 => (if y1 = 0 then FX11_restsOf_95 k9 (FX11_restsOf_22 k9 n) x1 x2 x3 x4 f1 else (b2 (FX11_isChoice x4 1 f1) fun y2 f2 => (if y2 = 0 then FX11_restsOf_95 k9 (FX11_restsOf_22 k9 n) x1 x2 x3 x4 f2 else (b2 (FX11_isRest x3 x4 x1 f2) fun y3 f3 => (if y3 = 0 then FX11_restsOf_95 k9 (FX11_restsOf_22 k9 n) x1 x2 x3 x4 f3 else (if x2 = 0 then FX11_restsOf_89 k9 (FX11_restsOf_22 k9 n) x1 x2 x3 x4 (w32 ((w32 ((w32 (10 * (w32 (x3 + 1)))) + x4)) + 1)) f3 else FX11_restsOf_89 k9 (FX11_restsOf_22 k9 n) x1 x2 x3 x4 (f3 150 51) f3))))))))
set_option maxHeartbeats 4000000 in
set_option maxRecDepth 100000 in
theorem SX11_restsOf_22 {G : GT} {l : Launch} {Q : Option AV → Mem → Prop} {k9 : Int → Int → Int → Mm → Option (Int × Mm)} (q9 : ∀ (x1 : Int) (x2 : Int) (x3 : Int) (f : Mm), OkI Q (k9 x1 x2 x3 f) → Ev G l MX11_restsOf (Rm 7 0 0) (ZM G Q 0 0) 0 0 9 [some (vR 150), some (vI x1), some (vI x2), some (vI x3), none] [] (SH, RF, f)) : ∀ (n : Nat) (x1 : Int) (x2 : Int) (x3 : Int) (x4 : Int) (f : Mm), OkI Q (FX11_restsOf_22 k9 n x1 x2 x3 x4 f) → Ev G l MX11_restsOf (Rm 7 0 0) (ZM G Q 0 0) 0 0 22 [some (vR 150), some (vI x1), some (vI x2), some (vI x3), some (vI x4)] [] (SH, RF, f) := by
  intro n
  induction n with
  | zero => intro x1 x2 x3 x4 f h; exact absurd h (by rw [FX11_restsOf_22]; exact fun q => q)
  | succ n ih =>
    intro x1 x2 x3 x4 f h
    rw [FX11_restsOf_22] at h
    refine ev_iload dX11_restsOf_22 rfl ?_
    refine ev_aload_n (i := 0) dX11_restsOf_24 rfl rfl ?_
    refine ev_getR dX11_restsOf_25 fl_X11_34 sh_150 (by decide) (by decide) rf_150_17 ?_
    refine ev_iconst dX11_restsOf_28 (r32c rfl) ?_
    refine ex_iald (x := (f 157 5)) dX11_restsOf_29 sh_157 (by decide) (by decide) rfl ?_
    refine ev_icmp_ge (tgt := 101) dX11_restsOf_30 (by decide) (fun c8 => ?_) (fun c8 => ?_)
    · rw [if_pos c8] at h
      refine ev_fg [true, true, true, true, false] rfl ?_
      exact SX11_restsOf_101 q9 x1 x2 x3 _ h
    · rw [if_neg c8] at h
      refine ev_aload_n (i := 0) dX11_restsOf_33 rfl rfl ?_
      refine ev_iload_n (i := 3) dX11_restsOf_34 rfl rfl ?_
      refine ev_iconst dX11_restsOf_35 (r32c rfl) ?_
      refine ev_cVI (b := 150) (av := [vI x3, vI 0]) (S := []) (fun q => q) h dX11_restsOf_36 (fun Q' q => TX11_isChoice x3 0 _ q) kvX11_isChoice ml_X11_435 sh_150 rfl (RRc (by decide) (by decide)) (Nat.le_of_ble_eq_true rfl) ⟨Nat.le_of_ble_eq_true rfl, Nat.le_of_ble_eq_true rfl⟩ (fun y1 f1 h => ?_)
      refine ev_if_eq (tgt := 95) dX11_restsOf_39 (by decide) (fun c7 => ?_) (fun c7 => ?_)
      · rw [if_pos c7] at h
        exact SX11_restsOf_95 q9 ih x1 x2 x3 x4 _ h
      · rw [if_neg c7] at h
        refine ev_aload_n (i := 0) dX11_restsOf_42 rfl rfl ?_
        refine ev_iload dX11_restsOf_43 rfl ?_
        refine ev_iconst dX11_restsOf_45 (r32c rfl) ?_
        refine ev_cVI (b := 150) (av := [vI x4, vI 1]) (S := []) (fun q => q) h dX11_restsOf_46 (fun Q' q => TX11_isChoice x4 1 _ q) kvX11_isChoice ml_X11_435 sh_150 rfl (RRc (by decide) (by decide)) (Nat.le_of_ble_eq_true rfl) ⟨Nat.le_of_ble_eq_true rfl, Nat.le_of_ble_eq_true rfl⟩ (fun y2 f2 h => ?_)
        refine ev_if_eq (tgt := 95) dX11_restsOf_49 (by decide) (fun c6 => ?_) (fun c6 => ?_)
        · rw [if_pos c6] at h
          exact SX11_restsOf_95 q9 ih x1 x2 x3 x4 _ h
        · rw [if_neg c6] at h
          refine ev_aload_n (i := 0) dX11_restsOf_52 rfl rfl ?_
          refine ev_iload_n (i := 3) dX11_restsOf_53 rfl rfl ?_
          refine ev_iload dX11_restsOf_54 rfl ?_
          refine ev_iload_n (i := 1) dX11_restsOf_56 rfl rfl ?_
          refine ev_cVI (b := 150) (av := [vI x3, vI x4, vI x1]) (S := []) (fun q => q) h dX11_restsOf_57 (fun Q' q => TX11_isRest x3 x4 x1 _ q) kvX11_isRest ml_X11_445 sh_150 rfl (RRc (by decide) (by decide)) (Nat.le_of_ble_eq_true rfl) ⟨Nat.le_of_ble_eq_true rfl, Nat.le_of_ble_eq_true rfl⟩ (fun y3 f3 h => ?_)
          refine ev_if_ne (tgt := 66) dX11_restsOf_60 (by decide) (fun c5 => ?_) (fun c5 => ?_)
          · rw [if_neg c5] at h
            refine ev_aload_n (i := 0) dX11_restsOf_66 rfl rfl ?_
            refine ev_iload_n (i := 2) dX11_restsOf_67 rfl rfl ?_
            refine ev_if_ne (tgt := 85) dX11_restsOf_68 (by decide) (fun c4 => ?_) (fun c4 => ?_)
            · rw [if_neg c4] at h
              refine ev_aload_n (i := 0) dX11_restsOf_85 rfl rfl ?_
              refine ex_getI (x := (f3 150 51)) dX11_restsOf_86 fl_X11_442 sh_150 (by decide) (by decide) rfl ?_
              exact SX11_restsOf_89 q9 ih x1 x2 x3 x4 (f3 150 51) _ h
            · rw [if_pos c4] at h
              refine ev_bipush (v := 10) dX11_restsOf_71 (r32c rfl) (by decide) ?_
              refine ev_iload_n (i := 3) dX11_restsOf_73 rfl rfl ?_
              refine ev_iconst dX11_restsOf_74 (r32c rfl) ?_
              refine ev_iadd dX11_restsOf_75 ?_
              refine ev_imul dX11_restsOf_76 ?_
              refine ev_iload dX11_restsOf_77 rfl ?_
              refine ev_iadd dX11_restsOf_79 ?_
              refine ev_iconst dX11_restsOf_80 (r32c rfl) ?_
              refine ev_iadd dX11_restsOf_81 ?_
              refine ev_goto (tgt := 89) dX11_restsOf_82 (by decide) ?_
              exact SX11_restsOf_89 q9 ih x1 x2 x3 x4 (w32 ((w32 ((w32 (10 * (w32 (x3 + 1)))) + x4)) + 1)) _ h
          · rw [if_pos c5] at h
            refine ev_goto (tgt := 95) dX11_restsOf_63 (by decide) ?_
            exact SX11_restsOf_95 q9 ih x1 x2 x3 x4 _ h
def FX11_restsOf_9  : Nat → Int → Int → Int → Mm → Option (Int × Mm)
  | 0, _, _, _, _ => none
  | n + 1, x1, x2, x3, f => (if (f 157 5) ≤ x3 then some (x2, f) else FX11_restsOf_22 (FX11_restsOf_9 n) fu x1 x2 x3 (-1) f)
set_option maxHeartbeats 4000000 in
set_option maxRecDepth 100000 in
theorem SX11_restsOf_9 {G : GT} {l : Launch} {Q : Option AV → Mem → Prop}  : ∀ (n : Nat) (x1 : Int) (x2 : Int) (x3 : Int) (f : Mm), OkI Q (FX11_restsOf_9  n x1 x2 x3 f) → Ev G l MX11_restsOf (Rm 7 0 0) (ZM G Q 0 0) 0 0 9 [some (vR 150), some (vI x1), some (vI x2), some (vI x3), none] [] (SH, RF, f) := by
  intro n
  induction n with
  | zero => intro x1 x2 x3 f h; exact absurd h (by rw [FX11_restsOf_9]; exact fun q => q)
  | succ n ih =>
    intro x1 x2 x3 f h
    rw [FX11_restsOf_9] at h
    refine ev_iload_n (i := 3) dX11_restsOf_9 rfl rfl ?_
    refine ev_aload_n (i := 0) dX11_restsOf_10 rfl rfl ?_
    refine ev_getR dX11_restsOf_11 fl_X11_34 sh_150 (by decide) (by decide) rf_150_17 ?_
    refine ev_iconst dX11_restsOf_14 (r32c rfl) ?_
    refine ex_iald (x := (f 157 5)) dX11_restsOf_15 sh_157 (by decide) (by decide) rfl ?_
    refine ev_icmp_ge (tgt := 107) dX11_restsOf_16 (by decide) (fun c1 => ?_) (fun c1 => ?_)
    · rw [if_pos c1] at h
      refine ev_iload_n (i := 2) dX11_restsOf_107 rfl rfl ?_
      exact ev_iret rfl dX11_restsOf_108 h
    · rw [if_neg c1] at h
      refine ev_iconst dX11_restsOf_19 (r32c rfl) ?_
      refine ev_istore (L' := [some (vR 150), some (vI x1), some (vI x2), some (vI x3), some (vI (-1))]) dX11_restsOf_20 (by decide) rfl ?_
      exact SX11_restsOf_22 ih fu x1 x2 x3 (-1) _ h
def FX11_restsOf_0  (x1 : Int) (f : Mm) : Option (Int × Mm) := FX11_restsOf_9 fu x1 0 (-1) (up f 150 51 (-1))
set_option maxHeartbeats 4000000 in
set_option maxRecDepth 100000 in
theorem SX11_restsOf_0 {G : GT} {l : Launch} {Q : Option AV → Mem → Prop}  (x1 : Int) (f : Mm) (h : OkI Q (FX11_restsOf_0  x1 f)) : Ev G l MX11_restsOf (Rm 7 0 0) (ZM G Q 0 0) 0 0 0 [some (vR 150), some (vI x1), none, none, none] [] (SH, RF, f) := by
  unfold FX11_restsOf_0 at h
  refine ev_iconst dX11_restsOf_0 (r32c rfl) ?_
  refine ev_istore_n (i := 2) (L' := [some (vR 150), some (vI x1), some (vI 0), none, none]) dX11_restsOf_1 rfl (by decide) rfl ?_
  refine ev_aload_n (i := 0) dX11_restsOf_2 rfl rfl ?_
  refine ev_iconst dX11_restsOf_3 (r32c rfl) ?_
  refine ev_putI dX11_restsOf_4 fl_X11_442 sh_150 (by decide) (by decide) ?_
  refine ev_iconst dX11_restsOf_7 (r32c rfl) ?_
  refine ev_istore_n (i := 3) (L' := [some (vR 150), some (vI x1), some (vI 0), some (vI (-1)), none]) dX11_restsOf_8 rfl (by decide) rfl ?_
  exact SX11_restsOf_9  fu x1 0 (-1) _ h
def FX11_restsOf (x1 : Int) (f : Mm) : Option (Int × Mm) := FX11_restsOf_0 x1 f
set_option maxRecDepth 100000 in
theorem TX11_restsOf {G : GT} {l : Launch} {Q : Option AV → Mem → Prop} (x1 : Int) (f : Mm) (h : OkI Q (FX11_restsOf x1 f)) : Ret G l MX11_restsOf (7) 0 0 [vR 150, vI x1] (SH, RF, f) Q := by
  refine ret_of (L := [some (vR 150), some (vI x1), none, none, none]) (by decide) rfl (Nat.le_of_ble_eq_true rfl) ?_
  exact SX11_restsOf_0 x1 f h
theorem dX11_rests_0 : decode cX11_rests 0 = .ok (.aload_n 0, 1) := by decide +kernel
theorem dX11_rests_1 : decode cX11_rests 1 = .ok (.iconst 0, 1) := by decide +kernel
theorem dX11_rests_2 : decode cX11_rests 2 = .ok (.putfield 98, 3) := by decide +kernel
theorem dX11_rests_5 : decode cX11_rests 5 = .ok (.aload_n 0, 1) := by decide +kernel
theorem dX11_rests_6 : decode cX11_rests 6 = .ok (.iload_n 1, 1) := by decide +kernel
theorem dX11_rests_7 : decode cX11_rests 7 = .ok (.i2l, 1) := by decide +kernel
theorem dX11_rests_8 : decode cX11_rests 8 = .ok (.invokevirtual 324, 3) := by decide +kernel
theorem dX11_rests_11 : decode cX11_rests 11 = .ok (.ifCond .eq 11, 3) := by decide +kernel
theorem dX11_rests_22 : decode cX11_rests 22 = .ok (.bipush (-2), 2) := by decide +kernel
theorem dX11_rests_24 : decode cX11_rests 24 = .ok (.ireturn, 1) := by decide +kernel
theorem dX11_rests_14 : decode cX11_rests 14 = .ok (.aload_n 0, 1) := by decide +kernel
theorem dX11_rests_15 : decode cX11_rests 15 = .ok (.iload_n 1, 1) := by decide +kernel
theorem dX11_rests_16 : decode cX11_rests 16 = .ok (.invokevirtual 448, 3) := by decide +kernel
theorem dX11_rests_19 : decode cX11_rests 19 = .ok (.goto 5, 3) := by decide +kernel
def FX11_rests_0  (x1 : Int) (f : Mm) : Option (Int × Mm) := (b2 (FX11_isDay x1 (up f 150 0 0)) fun y1 f1 => (if y1 = 0 then some ((-2), f1) else (b2 (FX11_restsOf x1 f1) fun y2 f2 => some (y2, f2))))
set_option maxHeartbeats 4000000 in
set_option maxRecDepth 100000 in
theorem SX11_rests_0 {G : GT} {l : Launch} {Q : Option AV → Mem → Prop}  (x1 : Int) (f : Mm) (h : OkI Q (FX11_rests_0  x1 f)) : Ev G l MX11_rests (Rm 8 0 0) (ZM G Q 0 0) 0 0 0 [some (vR 150), some (vI x1)] [] (SH, RF, f) := by
  unfold FX11_rests_0 at h
  refine ev_aload_n (i := 0) dX11_rests_0 rfl rfl ?_
  refine ev_iconst dX11_rests_1 (r32c rfl) ?_
  refine ev_putI dX11_rests_2 fl_X11_98 sh_150 (by decide) (by decide) ?_
  refine ev_aload_n (i := 0) dX11_rests_5 rfl rfl ?_
  refine ev_iload_n (i := 1) dX11_rests_6 rfl rfl ?_
  refine ev_i2l dX11_rests_7 ?_
  refine ev_cVI (b := 150) (av := [vJ x1]) (S := []) (fun q => q) h dX11_rests_8 (fun Q' q => TX11_isDay x1 _ q) kvX11_isDay ml_X11_324 sh_150 rfl (RRc (by decide) (by decide)) (Nat.le_of_ble_eq_true rfl) ⟨Nat.le_of_ble_eq_true rfl, Nat.le_of_ble_eq_true rfl⟩ (fun y1 f1 h => ?_)
  refine ev_if_eq (tgt := 22) dX11_rests_11 (by decide) (fun c3 => ?_) (fun c3 => ?_)
  · rw [if_pos c3] at h
    refine ev_bipush (v := (-2)) dX11_rests_22 (r32c rfl) (by decide) ?_
    exact ev_iret rfl dX11_rests_24 h
  · rw [if_neg c3] at h
    refine ev_aload_n (i := 0) dX11_rests_14 rfl rfl ?_
    refine ev_iload_n (i := 1) dX11_rests_15 rfl rfl ?_
    refine ev_cVI (b := 150) (av := [vI x1]) (S := []) (fun q => q) h dX11_rests_16 (fun Q' q => TX11_restsOf x1 _ q) kvX11_restsOf ml_X11_448 sh_150 rfl (RRc (by decide) (by decide)) (Nat.le_of_ble_eq_true rfl) ⟨Nat.le_of_ble_eq_true rfl, Nat.le_of_ble_eq_true rfl⟩ (fun y2 f2 h => ?_)
    refine ev_goto (tgt := 24) dX11_rests_19 (by decide) ?_
    exact ev_iret rfl dX11_rests_24 h
def FX11_rests (x1 : Int) (f : Mm) : Option (Int × Mm) := FX11_rests_0 x1 f
set_option maxRecDepth 100000 in
theorem TX11_rests {G : GT} {l : Launch} {Q : Option AV → Mem → Prop} (x1 : Int) (f : Mm) (h : OkI Q (FX11_rests x1 f)) : Ret G l MX11_rests (8) 0 0 [vR 150, vI x1] (SH, RF, f) Q := by
  refine ret_of (L := [some (vR 150), some (vI x1)]) (by decide) rfl (Nat.le_of_ble_eq_true rfl) ?_
  exact SX11_rests_0 x1 f h
theorem dX11_rest_0 : decode cX11_rest 0 = .ok (.aload_n 0, 1) := by decide +kernel
theorem dX11_rest_1 : decode cX11_rest 1 = .ok (.iconst 0, 1) := by decide +kernel
theorem dX11_rest_2 : decode cX11_rest 2 = .ok (.putfield 98, 3) := by decide +kernel
theorem dX11_rest_5 : decode cX11_rest 5 = .ok (.aload_n 0, 1) := by decide +kernel
theorem dX11_rest_6 : decode cX11_rest 6 = .ok (.iload_n 1, 1) := by decide +kernel
theorem dX11_rest_7 : decode cX11_rest 7 = .ok (.i2l, 1) := by decide +kernel
theorem dX11_rest_8 : decode cX11_rest 8 = .ok (.invokevirtual 324, 3) := by decide +kernel
theorem dX11_rest_11 : decode cX11_rest 11 = .ok (.ifCond .ne 6, 3) := by decide +kernel
theorem dX11_rest_17 : decode cX11_rest 17 = .ok (.aload_n 0, 1) := by decide +kernel
theorem dX11_rest_18 : decode cX11_rest 18 = .ok (.iload_n 1, 1) := by decide +kernel
theorem dX11_rest_19 : decode cX11_rest 19 = .ok (.invokevirtual 448, 3) := by decide +kernel
theorem dX11_rest_22 : decode cX11_rest 22 = .ok (.pop, 1) := by decide +kernel
theorem dX11_rest_23 : decode cX11_rest 23 = .ok (.aload_n 0, 1) := by decide +kernel
theorem dX11_rest_24 : decode cX11_rest 24 = .ok (.getfield 442, 3) := by decide +kernel
theorem dX11_rest_27 : decode cX11_rest 27 = .ok (.ireturn, 1) := by decide +kernel
theorem dX11_rest_14 : decode cX11_rest 14 = .ok (.bipush (-2), 2) := by decide +kernel
theorem dX11_rest_16 : decode cX11_rest 16 = .ok (.ireturn, 1) := by decide +kernel
def FX11_rest_0  (x1 : Int) (f : Mm) : Option (Int × Mm) := (b2 (FX11_isDay x1 (up f 150 0 0)) fun y1 f1 => (if y1 = 0 then some ((-2), f1) else (b2 (FX11_restsOf x1 f1) fun y2 f2 => some ((f2 150 51), f2))))
set_option maxHeartbeats 4000000 in
set_option maxRecDepth 100000 in
theorem SX11_rest_0 {G : GT} {l : Launch} {Q : Option AV → Mem → Prop}  (x1 : Int) (f : Mm) (h : OkI Q (FX11_rest_0  x1 f)) : Ev G l MX11_rest (Rm 8 0 0) (ZM G Q 0 0) 0 0 0 [some (vR 150), some (vI x1)] [] (SH, RF, f) := by
  unfold FX11_rest_0 at h
  refine ev_aload_n (i := 0) dX11_rest_0 rfl rfl ?_
  refine ev_iconst dX11_rest_1 (r32c rfl) ?_
  refine ev_putI dX11_rest_2 fl_X11_98 sh_150 (by decide) (by decide) ?_
  refine ev_aload_n (i := 0) dX11_rest_5 rfl rfl ?_
  refine ev_iload_n (i := 1) dX11_rest_6 rfl rfl ?_
  refine ev_i2l dX11_rest_7 ?_
  refine ev_cVI (b := 150) (av := [vJ x1]) (S := []) (fun q => q) h dX11_rest_8 (fun Q' q => TX11_isDay x1 _ q) kvX11_isDay ml_X11_324 sh_150 rfl (RRc (by decide) (by decide)) (Nat.le_of_ble_eq_true rfl) ⟨Nat.le_of_ble_eq_true rfl, Nat.le_of_ble_eq_true rfl⟩ (fun y1 f1 h => ?_)
  refine ev_if_ne (tgt := 17) dX11_rest_11 (by decide) (fun c3 => ?_) (fun c3 => ?_)
  · rw [if_neg c3] at h
    refine ev_aload_n (i := 0) dX11_rest_17 rfl rfl ?_
    refine ev_iload_n (i := 1) dX11_rest_18 rfl rfl ?_
    refine ev_cVI (b := 150) (av := [vI x1]) (S := []) (fun q => q) h dX11_rest_19 (fun Q' q => TX11_restsOf x1 _ q) kvX11_restsOf ml_X11_448 sh_150 rfl (RRc (by decide) (by decide)) (Nat.le_of_ble_eq_true rfl) ⟨Nat.le_of_ble_eq_true rfl, Nat.le_of_ble_eq_true rfl⟩ (fun y2 f2 h => ?_)
    refine ev_popI dX11_rest_22 ?_
    refine ev_aload_n (i := 0) dX11_rest_23 rfl rfl ?_
    refine ex_getI (x := (f2 150 51)) dX11_rest_24 fl_X11_442 sh_150 (by decide) (by decide) rfl ?_
    exact ev_iret rfl dX11_rest_27 h
  · rw [if_pos c3] at h
    refine ev_bipush (v := (-2)) dX11_rest_14 (r32c rfl) (by decide) ?_
    exact ev_iret rfl dX11_rest_16 h
def FX11_rest (x1 : Int) (f : Mm) : Option (Int × Mm) := FX11_rest_0 x1 f
set_option maxRecDepth 100000 in
theorem TX11_rest {G : GT} {l : Launch} {Q : Option AV → Mem → Prop} (x1 : Int) (f : Mm) (h : OkI Q (FX11_rest x1 f)) : Ret G l MX11_rest (8) 0 0 [vR 150, vI x1] (SH, RF, f) Q := by
  refine ret_of (L := [some (vR 150), some (vI x1)]) (by decide) rfl (Nat.le_of_ble_eq_true rfl) ?_
  exact SX11_rest_0 x1 f h
theorem dX11_has_0 : decode cX11_has 0 = .ok (.aload_n 0, 1) := by decide +kernel
theorem dX11_has_1 : decode cX11_has 1 = .ok (.iconst 0, 1) := by decide +kernel
theorem dX11_has_2 : decode cX11_has 2 = .ok (.putfield 98, 3) := by decide +kernel
theorem dX11_has_5 : decode cX11_has 5 = .ok (.iload_n 1, 1) := by decide +kernel
theorem dX11_has_6 : decode cX11_has 6 = .ok (.invokestatic 321, 3) := by decide +kernel
theorem dX11_has_9 : decode cX11_has 9 = .ok (.ifCond .eq 43, 3) := by decide +kernel
theorem dX11_has_52 : decode cX11_has 52 = .ok (.ldc_w 342, 3) := by decide +kernel
theorem dX11_has_55 : decode cX11_has 55 = .ok (.ireturn, 1) := by decide +kernel
theorem dX11_has_12 : decode cX11_has 12 = .ok (.aload_n 0, 1) := by decide +kernel
theorem dX11_has_13 : decode cX11_has 13 = .ok (.iload 4, 2) := by decide +kernel
theorem dX11_has_15 : decode cX11_has 15 = .ok (.i2l, 1) := by decide +kernel
theorem dX11_has_16 : decode cX11_has 16 = .ok (.invokevirtual 324, 3) := by decide +kernel
theorem dX11_has_19 : decode cX11_has 19 = .ok (.ifCond .eq 33, 3) := by decide +kernel
theorem dX11_has_22 : decode cX11_has 22 = .ok (.aload_n 0, 1) := by decide +kernel
theorem dX11_has_23 : decode cX11_has 23 = .ok (.iload_n 2, 1) := by decide +kernel
theorem dX11_has_24 : decode cX11_has 24 = .ok (.iconst 0, 1) := by decide +kernel
theorem dX11_has_25 : decode cX11_has 25 = .ok (.invokevirtual 435, 3) := by decide +kernel
theorem dX11_has_28 : decode cX11_has 28 = .ok (.ifCond .eq 24, 3) := by decide +kernel
theorem dX11_has_31 : decode cX11_has 31 = .ok (.aload_n 0, 1) := by decide +kernel
theorem dX11_has_32 : decode cX11_has 32 = .ok (.iload_n 3, 1) := by decide +kernel
theorem dX11_has_33 : decode cX11_has 33 = .ok (.iconst 1, 1) := by decide +kernel
theorem dX11_has_34 : decode cX11_has 34 = .ok (.invokevirtual 435, 3) := by decide +kernel
theorem dX11_has_37 : decode cX11_has 37 = .ok (.ifCond .eq 15, 3) := by decide +kernel
theorem dX11_has_40 : decode cX11_has 40 = .ok (.aload_n 0, 1) := by decide +kernel
theorem dX11_has_41 : decode cX11_has 41 = .ok (.iload_n 1, 1) := by decide +kernel
theorem dX11_has_42 : decode cX11_has 42 = .ok (.iload_n 2, 1) := by decide +kernel
theorem dX11_has_43 : decode cX11_has 43 = .ok (.iload_n 3, 1) := by decide +kernel
theorem dX11_has_44 : decode cX11_has 44 = .ok (.iload 4, 2) := by decide +kernel
theorem dX11_has_46 : decode cX11_has 46 = .ok (.invokevirtual 438, 3) := by decide +kernel
theorem dX11_has_49 : decode cX11_has 49 = .ok (.goto 6, 3) := by decide +kernel
def FX11_has_0  (x1 : Int) (x2 : Int) (x3 : Int) (x4 : Int) (f : Mm) : Option (Int × Mm) := (b2 (FX11_isHalf x1 (up f 150 0 0)) fun y1 f1 => (if y1 = 0 then some ((-1000000), f1) else (b2 (FX11_isDay x4 f1) fun y2 f2 => (if y2 = 0 then some ((-1000000), f2) else (b2 (FX11_isChoice x2 0 f2) fun y3 f3 => (if y3 = 0 then some ((-1000000), f3) else (b2 (FX11_isChoice x3 1 f3) fun y4 f4 => (if y4 = 0 then some ((-1000000), f4) else (b2 (FX11_hasBy x1 x2 x3 x4 f4) fun y5 f5 => some (y5, f5))))))))))
set_option maxHeartbeats 4000000 in
set_option maxRecDepth 100000 in
theorem SX11_has_0 {G : GT} {l : Launch} {Q : Option AV → Mem → Prop}  (x1 : Int) (x2 : Int) (x3 : Int) (x4 : Int) (f : Mm) (h : OkI Q (FX11_has_0  x1 x2 x3 x4 f)) : Ev G l MX11_has (Rm 6 0 0) (ZM G Q 0 0) 0 0 0 [some (vR 150), some (vI x1), some (vI x2), some (vI x3), some (vI x4)] [] (SH, RF, f) := by
  unfold FX11_has_0 at h
  refine ev_aload_n (i := 0) dX11_has_0 rfl rfl ?_
  refine ev_iconst dX11_has_1 (r32c rfl) ?_
  refine ev_putI dX11_has_2 fl_X11_98 sh_150 (by decide) (by decide) ?_
  refine ev_iload_n (i := 1) dX11_has_5 rfl rfl ?_
  refine ev_cSI (av := [vI x1]) (S := []) (fun q => q) h dX11_has_6 (fun Q' q => TX11_isHalf x1 _ q) ksX11_isHalf ml_X11_321 rfl (RRc (by decide) (by decide)) (Nat.le_of_ble_eq_true rfl) ⟨Nat.le_of_ble_eq_true rfl, Nat.le_of_ble_eq_true rfl⟩ (fun y1 f1 h => ?_)
  refine ev_if_eq (tgt := 52) dX11_has_9 (by decide) (fun c9 => ?_) (fun c9 => ?_)
  · rw [if_pos c9] at h
    refine ev_ldcw (v := (-1000000)) dX11_has_52 (r32c rfl) kc_X11_342 ?_
    exact ev_iret rfl dX11_has_55 h
  · rw [if_neg c9] at h
    refine ev_aload_n (i := 0) dX11_has_12 rfl rfl ?_
    refine ev_iload dX11_has_13 rfl ?_
    refine ev_i2l dX11_has_15 ?_
    refine ev_cVI (b := 150) (av := [vJ x4]) (S := []) (fun q => q) h dX11_has_16 (fun Q' q => TX11_isDay x4 _ q) kvX11_isDay ml_X11_324 sh_150 rfl (RRc (by decide) (by decide)) (Nat.le_of_ble_eq_true rfl) ⟨Nat.le_of_ble_eq_true rfl, Nat.le_of_ble_eq_true rfl⟩ (fun y2 f2 h => ?_)
    refine ev_if_eq (tgt := 52) dX11_has_19 (by decide) (fun c8 => ?_) (fun c8 => ?_)
    · rw [if_pos c8] at h
      refine ev_ldcw (v := (-1000000)) dX11_has_52 (r32c rfl) kc_X11_342 ?_
      exact ev_iret rfl dX11_has_55 h
    · rw [if_neg c8] at h
      refine ev_aload_n (i := 0) dX11_has_22 rfl rfl ?_
      refine ev_iload_n (i := 2) dX11_has_23 rfl rfl ?_
      refine ev_iconst dX11_has_24 (r32c rfl) ?_
      refine ev_cVI (b := 150) (av := [vI x2, vI 0]) (S := []) (fun q => q) h dX11_has_25 (fun Q' q => TX11_isChoice x2 0 _ q) kvX11_isChoice ml_X11_435 sh_150 rfl (RRc (by decide) (by decide)) (Nat.le_of_ble_eq_true rfl) ⟨Nat.le_of_ble_eq_true rfl, Nat.le_of_ble_eq_true rfl⟩ (fun y3 f3 h => ?_)
      refine ev_if_eq (tgt := 52) dX11_has_28 (by decide) (fun c7 => ?_) (fun c7 => ?_)
      · rw [if_pos c7] at h
        refine ev_ldcw (v := (-1000000)) dX11_has_52 (r32c rfl) kc_X11_342 ?_
        exact ev_iret rfl dX11_has_55 h
      · rw [if_neg c7] at h
        refine ev_aload_n (i := 0) dX11_has_31 rfl rfl ?_
        refine ev_iload_n (i := 3) dX11_has_32 rfl rfl ?_
        refine ev_iconst dX11_has_33 (r32c rfl) ?_
        refine ev_cVI (b := 150) (av := [vI x3, vI 1]) (S := []) (fun q => q) h dX11_has_34 (fun Q' q => TX11_isChoice x3 1 _ q) kvX11_isChoice ml_X11_435 sh_150 rfl (RRc (by decide) (by decide)) (Nat.le_of_ble_eq_true rfl) ⟨Nat.le_of_ble_eq_true rfl, Nat.le_of_ble_eq_true rfl⟩ (fun y4 f4 h => ?_)
        refine ev_if_eq (tgt := 52) dX11_has_37 (by decide) (fun c6 => ?_) (fun c6 => ?_)
        · rw [if_pos c6] at h
          refine ev_ldcw (v := (-1000000)) dX11_has_52 (r32c rfl) kc_X11_342 ?_
          exact ev_iret rfl dX11_has_55 h
        · rw [if_neg c6] at h
          refine ev_aload_n (i := 0) dX11_has_40 rfl rfl ?_
          refine ev_iload_n (i := 1) dX11_has_41 rfl rfl ?_
          refine ev_iload_n (i := 2) dX11_has_42 rfl rfl ?_
          refine ev_iload_n (i := 3) dX11_has_43 rfl rfl ?_
          refine ev_iload dX11_has_44 rfl ?_
          refine ev_cVI (b := 150) (av := [vI x1, vI x2, vI x3, vI x4]) (S := []) (fun q => q) h dX11_has_46 (fun Q' q => TX11_hasBy x1 x2 x3 x4 _ q) kvX11_hasBy ml_X11_438 sh_150 rfl (RRc (by decide) (by decide)) (Nat.le_of_ble_eq_true rfl) ⟨Nat.le_of_ble_eq_true rfl, Nat.le_of_ble_eq_true rfl⟩ (fun y5 f5 h => ?_)
          refine ev_goto (tgt := 55) dX11_has_49 (by decide) ?_
          exact ev_iret rfl dX11_has_55 h
def FX11_has (x1 : Int) (x2 : Int) (x3 : Int) (x4 : Int) (f : Mm) : Option (Int × Mm) := FX11_has_0 x1 x2 x3 x4 f
set_option maxRecDepth 100000 in
theorem TX11_has {G : GT} {l : Launch} {Q : Option AV → Mem → Prop} (x1 : Int) (x2 : Int) (x3 : Int) (x4 : Int) (f : Mm) (h : OkI Q (FX11_has x1 x2 x3 x4 f)) : Ret G l MX11_has (6) 0 0 [vR 150, vI x1, vI x2, vI x3, vI x4] (SH, RF, f) Q := by
  refine ret_of (L := [some (vR 150), some (vI x1), some (vI x2), some (vI x3), some (vI x4)]) (by decide) rfl (Nat.le_of_ble_eq_true rfl) ?_
  exact SX11_has_0 x1 x2 x3 x4 f h
theorem dX11_whyNotShares_88 : decode cX11_whyNotShares 88 = .ok (.aload_n 0, 1) := by decide +kernel
theorem dX11_whyNotShares_89 : decode cX11_whyNotShares 89 = .ok (.invokevirtual 365, 3) := by decide +kernel
theorem dX11_whyNotShares_92 : decode cX11_whyNotShares 92 = .ok (.iconst 0, 1) := by decide +kernel
theorem dX11_whyNotShares_93 : decode cX11_whyNotShares 93 = .ok (.ireturn, 1) := by decide +kernel
theorem dX11_whyNotShares_48 : decode cX11_whyNotShares 48 = .ok (.iload_n 2, 1) := by decide +kernel
theorem dX11_whyNotShares_49 : decode cX11_whyNotShares 49 = .ok (.aload_n 0, 1) := by decide +kernel
theorem dX11_whyNotShares_50 : decode cX11_whyNotShares 50 = .ok (.getfield 13, 3) := by decide +kernel
theorem dX11_whyNotShares_53 : decode cX11_whyNotShares 53 = .ok (.iload_n 1, 1) := by decide +kernel
theorem dX11_whyNotShares_54 : decode cX11_whyNotShares 54 = .ok (.iaload, 1) := by decide +kernel
theorem dX11_whyNotShares_55 : decode cX11_whyNotShares 55 = .ok (.if_icmp .ge 33, 3) := by decide +kernel
theorem dX11_whyNotShares_58 : decode cX11_whyNotShares 58 = .ok (.aload_n 0, 1) := by decide +kernel
theorem dX11_whyNotShares_59 : decode cX11_whyNotShares 59 = .ok (.getfield 16, 3) := by decide +kernel
theorem dX11_whyNotShares_62 : decode cX11_whyNotShares 62 = .ok (.bipush 60, 2) := by decide +kernel
theorem dX11_whyNotShares_64 : decode cX11_whyNotShares 64 = .ok (.iload_n 1, 1) := by decide +kernel
theorem dX11_whyNotShares_65 : decode cX11_whyNotShares 65 = .ok (.imul, 1) := by decide +kernel
theorem dX11_whyNotShares_66 : decode cX11_whyNotShares 66 = .ok (.iload_n 2, 1) := by decide +kernel
theorem dX11_whyNotShares_67 : decode cX11_whyNotShares 67 = .ok (.iadd, 1) := by decide +kernel
theorem dX11_whyNotShares_68 : decode cX11_whyNotShares 68 = .ok (.laload, 1) := by decide +kernel
theorem dX11_whyNotShares_69 : decode cX11_whyNotShares 69 = .ok (.lconst 0, 1) := by decide +kernel
theorem dX11_whyNotShares_70 : decode cX11_whyNotShares 70 = .ok (.ldc2_w 451, 3) := by decide +kernel
theorem dX11_whyNotShares_73 : decode cX11_whyNotShares 73 = .ok (.invokestatic 103, 3) := by decide +kernel
theorem dX11_whyNotShares_76 : decode cX11_whyNotShares 76 = .ok (.ifCond .ne 6, 3) := by decide +kernel
theorem dX11_whyNotShares_82 : decode cX11_whyNotShares 82 = .ok (.iinc 2 1, 3) := by decide +kernel
theorem dX11_whyNotShares_85 : decode cX11_whyNotShares 85 = .ok (.goto (-37), 3) := by decide +kernel
theorem dX11_whyNotShares_79 : decode cX11_whyNotShares 79 = .ok (.bipush (-2), 2) := by decide +kernel
theorem dX11_whyNotShares_81 : decode cX11_whyNotShares 81 = .ok (.ireturn, 1) := by decide +kernel
theorem dX11_whyNotShares_0 : decode cX11_whyNotShares 0 = .ok (.iload_n 1, 1) := by decide +kernel
theorem dX11_whyNotShares_1 : decode cX11_whyNotShares 1 = .ok (.invokestatic 107, 3) := by decide +kernel
theorem dX11_whyNotShares_4 : decode cX11_whyNotShares 4 = .ok (.ifCond .eq 10, 3) := by decide +kernel
theorem dX11_whyNotShares_14 : decode cX11_whyNotShares 14 = .ok (.bipush (-2), 2) := by decide +kernel
theorem dX11_whyNotShares_16 : decode cX11_whyNotShares 16 = .ok (.ireturn, 1) := by decide +kernel
theorem dX11_whyNotShares_7 : decode cX11_whyNotShares 7 = .ok (.aload_n 0, 1) := by decide +kernel
theorem dX11_whyNotShares_8 : decode cX11_whyNotShares 8 = .ok (.invokevirtual 272, 3) := by decide +kernel
theorem dX11_whyNotShares_11 : decode cX11_whyNotShares 11 = .ok (.ifCond .ne 6, 3) := by decide +kernel
theorem dX11_whyNotShares_17 : decode cX11_whyNotShares 17 = .ok (.aload_n 0, 1) := by decide +kernel
theorem dX11_whyNotShares_18 : decode cX11_whyNotShares 18 = .ok (.getfield 7, 3) := by decide +kernel
theorem dX11_whyNotShares_21 : decode cX11_whyNotShares 21 = .ok (.iload_n 1, 1) := by decide +kernel
theorem dX11_whyNotShares_22 : decode cX11_whyNotShares 22 = .ok (.iaload, 1) := by decide +kernel
theorem dX11_whyNotShares_23 : decode cX11_whyNotShares 23 = .ok (.iconst (-1), 1) := by decide +kernel
theorem dX11_whyNotShares_24 : decode cX11_whyNotShares 24 = .ok (.if_icmp .ne 6, 3) := by decide +kernel
theorem dX11_whyNotShares_30 : decode cX11_whyNotShares 30 = .ok (.aload_n 0, 1) := by decide +kernel
theorem dX11_whyNotShares_31 : decode cX11_whyNotShares 31 = .ok (.getfield 13, 3) := by decide +kernel
theorem dX11_whyNotShares_34 : decode cX11_whyNotShares 34 = .ok (.iload_n 1, 1) := by decide +kernel
theorem dX11_whyNotShares_35 : decode cX11_whyNotShares 35 = .ok (.iaload, 1) := by decide +kernel
theorem dX11_whyNotShares_36 : decode cX11_whyNotShares 36 = .ok (.aload_n 0, 1) := by decide +kernel
theorem dX11_whyNotShares_37 : decode cX11_whyNotShares 37 = .ok (.invokevirtual 269, 3) := by decide +kernel
theorem dX11_whyNotShares_40 : decode cX11_whyNotShares 40 = .ok (.if_icmp .eq 6, 3) := by decide +kernel
theorem dX11_whyNotShares_46 : decode cX11_whyNotShares 46 = .ok (.iconst 0, 1) := by decide +kernel
theorem dX11_whyNotShares_47 : decode cX11_whyNotShares 47 = .ok (.istore_n 2, 1) := by decide +kernel
theorem dX11_whyNotShares_43 : decode cX11_whyNotShares 43 = .ok (.bipush (-2), 2) := by decide +kernel
theorem dX11_whyNotShares_45 : decode cX11_whyNotShares 45 = .ok (.ireturn, 1) := by decide +kernel
theorem dX11_whyNotShares_27 : decode cX11_whyNotShares 27 = .ok (.bipush (-6), 2) := by decide +kernel
theorem dX11_whyNotShares_29 : decode cX11_whyNotShares 29 = .ok (.ireturn, 1) := by decide +kernel
def FX11_whyNotShares_88   (f : Mm) : Option (Int × Mm) := ((FX11_laysPlans f).bind fun f1 => some (0, f1))
set_option maxHeartbeats 4000000 in
set_option maxRecDepth 100000 in
theorem SX11_whyNotShares_88 {G : GT} {l : Launch} {Q : Option AV → Mem → Prop}   (f : Mm) (h : OkI Q (FX11_whyNotShares_88   f)) : Ev G l MX11_whyNotShares (Rm 7 0 0) (ZM G Q 0 0) 0 0 88 [some (vR 150), none, none] [] (SH, RF, f) := by
  unfold FX11_whyNotShares_88 at h
  refine ev_aload_n (i := 0) dX11_whyNotShares_88 rfl rfl ?_
  refine ev_cVV (b := 150) (av := []) (S := []) (fun q => q) h dX11_whyNotShares_89 (fun Q' q => TX11_laysPlans _ q) kvX11_laysPlans ml_X11_365 sh_150 rfl (RRc (by decide) (by decide)) (Nat.le_of_ble_eq_true rfl) ⟨Nat.le_of_ble_eq_true rfl, Nat.le_of_ble_eq_true rfl⟩ (fun f1 h => ?_)
  refine ev_iconst dX11_whyNotShares_92 (r32c rfl) ?_
  exact ev_iret rfl dX11_whyNotShares_93 h
def FX11_whyNotShares_48  : Nat → Int → Int → Mm → Option (Int × Mm)
  | 0, _, _, _ => none
  | n + 1, x1, x2, f => (if 0 ≤ x1 ∧ x1 < 4 then (if (f 152 x1.toNat) ≤ x2 then FX11_whyNotShares_88 f else (if 0 ≤ (w32 ((w32 (60 * x1)) + x2)) ∧ (w32 ((w32 (60 * x1)) + x2)) < 240 then (b2 (FX11_in (f 153 (w32 ((w32 (60 * x1)) + x2)).toNat) 0 999 f) fun y3 f3 => (if y3 = 0 then some ((-2), f3) else FX11_whyNotShares_48 n x1 (w32 (x2 + 1)) f3)) else none)) else none)
set_option maxHeartbeats 4000000 in
set_option maxRecDepth 100000 in
theorem SX11_whyNotShares_48 {G : GT} {l : Launch} {Q : Option AV → Mem → Prop}  : ∀ (n : Nat) (x1 : Int) (x2 : Int) (f : Mm), OkI Q (FX11_whyNotShares_48  n x1 x2 f) → Ev G l MX11_whyNotShares (Rm 7 0 0) (ZM G Q 0 0) 0 0 48 [some (vR 150), some (vI x1), some (vI x2)] [] (SH, RF, f) := by
  intro n
  induction n with
  | zero => intro x1 x2 f h; exact absurd h (by rw [FX11_whyNotShares_48]; exact fun q => q)
  | succ n ih =>
    intro x1 x2 f h
    rw [FX11_whyNotShares_48] at h
    refine ev_iload_n (i := 2) dX11_whyNotShares_48 rfl rfl ?_
    refine ev_aload_n (i := 0) dX11_whyNotShares_49 rfl rfl ?_
    refine ev_getR dX11_whyNotShares_50 fl_X11_13 sh_150 (by decide) (by decide) rf_150_2 ?_
    refine ev_iload_n (i := 1) dX11_whyNotShares_53 rfl rfl ?_
    by_cases g1 : 0 ≤ x1 ∧ x1 < 4
    · rw [if_pos g1] at h
      refine ex_iald (x := (f 152 x1.toNat)) dX11_whyNotShares_54 sh_152 g1.1 g1.2 rfl ?_
      refine ev_icmp_ge (tgt := 88) dX11_whyNotShares_55 (by decide) (fun c5 => ?_) (fun c5 => ?_)
      · rw [if_pos c5] at h
        refine ev_fg [true, false, false] rfl ?_
        exact SX11_whyNotShares_88   _ h
      · rw [if_neg c5] at h
        refine ev_aload_n (i := 0) dX11_whyNotShares_58 rfl rfl ?_
        refine ev_getR dX11_whyNotShares_59 fl_X11_16 sh_150 (by decide) (by decide) rf_150_3 ?_
        refine ev_bipush (v := 60) dX11_whyNotShares_62 (r32c rfl) (by decide) ?_
        refine ev_iload_n (i := 1) dX11_whyNotShares_64 rfl rfl ?_
        refine ev_imul dX11_whyNotShares_65 ?_
        refine ev_iload_n (i := 2) dX11_whyNotShares_66 rfl rfl ?_
        refine ev_iadd dX11_whyNotShares_67 ?_
        by_cases g2 : 0 ≤ (w32 ((w32 (60 * x1)) + x2)) ∧ (w32 ((w32 (60 * x1)) + x2)) < 240
        · rw [if_pos g2] at h
          refine ex_lald (x := (f 153 (w32 ((w32 (60 * x1)) + x2)).toNat)) dX11_whyNotShares_68 sh_153 g2.1 g2.2 rfl ?_
          refine ev_lconst (v := 0) dX11_whyNotShares_69 (r64c rfl) (by decide) ?_
          refine ev_ldc2 (v := 999) dX11_whyNotShares_70 (r64c rfl) kc_X11_451 ?_
          refine ev_cSI (av := [vJ (f 153 (w32 ((w32 (60 * x1)) + x2)).toNat), vJ 0, vJ 999]) (S := []) (fun q => q) h dX11_whyNotShares_73 (fun Q' q => TX11_in (f 153 (w32 ((w32 (60 * x1)) + x2)).toNat) 0 999 _ q) ksX11_in ml_X11_103 rfl (RRc (by decide) (by decide)) (Nat.le_of_ble_eq_true rfl) ⟨Nat.le_of_ble_eq_true rfl, Nat.le_of_ble_eq_true rfl⟩ (fun y3 f3 h => ?_)
          refine ev_if_ne (tgt := 82) dX11_whyNotShares_76 (by decide) (fun c4 => ?_) (fun c4 => ?_)
          · rw [if_neg c4] at h
            refine ev_iinc (L' := [some (vR 150), some (vI x1), some (vI (w32 (x2 + 1)))]) dX11_whyNotShares_82 rfl (by decide) rfl ?_
            refine ev_goto (tgt := 48) dX11_whyNotShares_85 (by decide) ?_
            exact ih x1 (w32 (x2 + 1)) _ h
          · rw [if_pos c4] at h
            refine ev_bipush (v := (-2)) dX11_whyNotShares_79 (r32c rfl) (by decide) ?_
            exact ev_iret rfl dX11_whyNotShares_81 h
        · rw [if_neg g2] at h; exact h.elim
    · rw [if_neg g1] at h; exact h.elim
def FX11_whyNotShares_0  (x1 : Int) (f : Mm) : Option (Int × Mm) := (b2 (FX11_isSlot x1 f) fun y1 f1 => (if y1 = 0 then some ((-2), f1) else (b2 (FX11_isBridge f1) fun y2 f2 => (if y2 = 0 then some ((-2), f2) else (if 0 ≤ x1 ∧ x1 < 4 then (if (f2 151 x1.toNat) = (-1) then some ((-6), f2) else (if 0 ≤ x1 ∧ x1 < 4 then (b2 (FX11_carts f2) fun y5 f5 => (if (f2 152 x1.toNat) = y5 then FX11_whyNotShares_48 fu x1 0 f5 else some ((-2), f5))) else none)) else none)))))
set_option maxHeartbeats 4000000 in
set_option maxRecDepth 100000 in
theorem SX11_whyNotShares_0 {G : GT} {l : Launch} {Q : Option AV → Mem → Prop}  (x1 : Int) (f : Mm) (h : OkI Q (FX11_whyNotShares_0  x1 f)) : Ev G l MX11_whyNotShares (Rm 7 0 0) (ZM G Q 0 0) 0 0 0 [some (vR 150), some (vI x1), none] [] (SH, RF, f) := by
  unfold FX11_whyNotShares_0 at h
  refine ev_iload_n (i := 1) dX11_whyNotShares_0 rfl rfl ?_
  refine ev_cSI (av := [vI x1]) (S := []) (fun q => q) h dX11_whyNotShares_1 (fun Q' q => TX11_isSlot x1 _ q) ksX11_isSlot ml_X11_107 rfl (RRc (by decide) (by decide)) (Nat.le_of_ble_eq_true rfl) ⟨Nat.le_of_ble_eq_true rfl, Nat.le_of_ble_eq_true rfl⟩ (fun y1 f1 h => ?_)
  refine ev_if_eq (tgt := 14) dX11_whyNotShares_4 (by decide) (fun c9 => ?_) (fun c9 => ?_)
  · rw [if_pos c9] at h
    refine ev_bipush (v := (-2)) dX11_whyNotShares_14 (r32c rfl) (by decide) ?_
    exact ev_iret rfl dX11_whyNotShares_16 h
  · rw [if_neg c9] at h
    refine ev_aload_n (i := 0) dX11_whyNotShares_7 rfl rfl ?_
    refine ev_cVI (b := 150) (av := []) (S := []) (fun q => q) h dX11_whyNotShares_8 (fun Q' q => TX11_isBridge _ q) kvX11_isBridge ml_X11_272 sh_150 rfl (RRc (by decide) (by decide)) (Nat.le_of_ble_eq_true rfl) ⟨Nat.le_of_ble_eq_true rfl, Nat.le_of_ble_eq_true rfl⟩ (fun y2 f2 h => ?_)
    refine ev_if_ne (tgt := 17) dX11_whyNotShares_11 (by decide) (fun c8 => ?_) (fun c8 => ?_)
    · rw [if_neg c8] at h
      refine ev_aload_n (i := 0) dX11_whyNotShares_17 rfl rfl ?_
      refine ev_getR dX11_whyNotShares_18 fl_X11_7 sh_150 (by decide) (by decide) rf_150_1 ?_
      refine ev_iload_n (i := 1) dX11_whyNotShares_21 rfl rfl ?_
      by_cases g3 : 0 ≤ x1 ∧ x1 < 4
      · rw [if_pos g3] at h
        refine ex_iald (x := (f2 151 x1.toNat)) dX11_whyNotShares_22 sh_151 g3.1 g3.2 rfl ?_
        refine ev_iconst dX11_whyNotShares_23 (r32c rfl) ?_
        refine ev_icmp_ne (tgt := 30) dX11_whyNotShares_24 (by decide) (fun c7 => ?_) (fun c7 => ?_)
        · rw [if_neg c7] at h
          refine ev_aload_n (i := 0) dX11_whyNotShares_30 rfl rfl ?_
          refine ev_getR dX11_whyNotShares_31 fl_X11_13 sh_150 (by decide) (by decide) rf_150_2 ?_
          refine ev_iload_n (i := 1) dX11_whyNotShares_34 rfl rfl ?_
          by_cases g4 : 0 ≤ x1 ∧ x1 < 4
          · rw [if_pos g4] at h
            refine ex_iald (x := (f2 152 x1.toNat)) dX11_whyNotShares_35 sh_152 g4.1 g4.2 rfl ?_
            refine ev_aload_n (i := 0) dX11_whyNotShares_36 rfl rfl ?_
            refine ev_cVI (b := 150) (av := []) (S := [vI (f2 152 x1.toNat)]) (fun q => q) h dX11_whyNotShares_37 (fun Q' q => TX11_carts _ q) kvX11_carts ml_X11_269 sh_150 rfl (RRc (by decide) (by decide)) (Nat.le_of_ble_eq_true rfl) ⟨Nat.le_of_ble_eq_true rfl, Nat.le_of_ble_eq_true rfl⟩ (fun y5 f5 h => ?_)
            refine ev_icmp_eq (tgt := 46) dX11_whyNotShares_40 (by decide) (fun c6 => ?_) (fun c6 => ?_)
            · rw [if_pos c6] at h
              refine ev_iconst dX11_whyNotShares_46 (r32c rfl) ?_
              refine ev_istore_n (i := 2) (L' := [some (vR 150), some (vI x1), some (vI 0)]) dX11_whyNotShares_47 rfl (by decide) rfl ?_
              exact SX11_whyNotShares_48  fu x1 0 _ h
            · rw [if_neg c6] at h
              refine ev_bipush (v := (-2)) dX11_whyNotShares_43 (r32c rfl) (by decide) ?_
              exact ev_iret rfl dX11_whyNotShares_45 h
          · rw [if_neg g4] at h; exact h.elim
        · rw [if_pos c7] at h
          refine ev_bipush (v := (-6)) dX11_whyNotShares_27 (r32c rfl) (by decide) ?_
          exact ev_iret rfl dX11_whyNotShares_29 h
      · rw [if_neg g3] at h; exact h.elim
    · rw [if_pos c8] at h
      refine ev_bipush (v := (-2)) dX11_whyNotShares_14 (r32c rfl) (by decide) ?_
      exact ev_iret rfl dX11_whyNotShares_16 h
def FX11_whyNotShares (x1 : Int) (f : Mm) : Option (Int × Mm) := FX11_whyNotShares_0 x1 f
set_option maxRecDepth 100000 in
theorem TX11_whyNotShares {G : GT} {l : Launch} {Q : Option AV → Mem → Prop} (x1 : Int) (f : Mm) (h : OkI Q (FX11_whyNotShares x1 f)) : Ret G l MX11_whyNotShares (7) 0 0 [vR 150, vI x1] (SH, RF, f) Q := by
  refine ret_of (L := [some (vR 150), some (vI x1), none]) (by decide) rfl (Nat.le_of_ble_eq_true rfl) ?_
  exact SX11_whyNotShares_0 x1 f h
theorem dX11_shareOf_41 : decode cX11_shareOf 41 = .ok (.iadd, 1) := by decide +kernel
theorem dX11_shareOf_42 : decode cX11_shareOf 42 = .ok (.istore_n 3, 1) := by decide +kernel
theorem dX11_shareOf_43 : decode cX11_shareOf 43 = .ok (.iinc 4 1, 3) := by decide +kernel
theorem dX11_shareOf_46 : decode cX11_shareOf 46 = .ok (.goto (-41), 3) := by decide +kernel
theorem dX11_shareOf_5 : decode cX11_shareOf 5 = .ok (.iload 4, 2) := by decide +kernel
theorem dX11_shareOf_7 : decode cX11_shareOf 7 = .ok (.aload_n 0, 1) := by decide +kernel
theorem dX11_shareOf_8 : decode cX11_shareOf 8 = .ok (.invokevirtual 269, 3) := by decide +kernel
theorem dX11_shareOf_11 : decode cX11_shareOf 11 = .ok (.if_icmp .ge 38, 3) := by decide +kernel
theorem dX11_shareOf_49 : decode cX11_shareOf 49 = .ok (.iload_n 3, 1) := by decide +kernel
theorem dX11_shareOf_50 : decode cX11_shareOf 50 = .ok (.ireturn, 1) := by decide +kernel
theorem dX11_shareOf_14 : decode cX11_shareOf 14 = .ok (.iload_n 3, 1) := by decide +kernel
theorem dX11_shareOf_15 : decode cX11_shareOf 15 = .ok (.iload_n 2, 1) := by decide +kernel
theorem dX11_shareOf_16 : decode cX11_shareOf 16 = .ok (.iload 4, 2) := by decide +kernel
theorem dX11_shareOf_18 : decode cX11_shareOf 18 = .ok (.invokestatic 289, 3) := by decide +kernel
theorem dX11_shareOf_21 : decode cX11_shareOf 21 = .ok (.ifCond .eq 19, 3) := by decide +kernel
theorem dX11_shareOf_40 : decode cX11_shareOf 40 = .ok (.iconst 0, 1) := by decide +kernel
theorem dX11_shareOf_24 : decode cX11_shareOf 24 = .ok (.aload_n 0, 1) := by decide +kernel
theorem dX11_shareOf_25 : decode cX11_shareOf 25 = .ok (.getfield 16, 3) := by decide +kernel
theorem dX11_shareOf_28 : decode cX11_shareOf 28 = .ok (.bipush 60, 2) := by decide +kernel
theorem dX11_shareOf_30 : decode cX11_shareOf 30 = .ok (.iload_n 1, 1) := by decide +kernel
theorem dX11_shareOf_31 : decode cX11_shareOf 31 = .ok (.imul, 1) := by decide +kernel
theorem dX11_shareOf_32 : decode cX11_shareOf 32 = .ok (.iload 4, 2) := by decide +kernel
theorem dX11_shareOf_34 : decode cX11_shareOf 34 = .ok (.iadd, 1) := by decide +kernel
theorem dX11_shareOf_35 : decode cX11_shareOf 35 = .ok (.laload, 1) := by decide +kernel
theorem dX11_shareOf_36 : decode cX11_shareOf 36 = .ok (.l2i, 1) := by decide +kernel
theorem dX11_shareOf_37 : decode cX11_shareOf 37 = .ok (.goto 4, 3) := by decide +kernel
theorem dX11_shareOf_0 : decode cX11_shareOf 0 = .ok (.iconst 0, 1) := by decide +kernel
theorem dX11_shareOf_1 : decode cX11_shareOf 1 = .ok (.istore_n 3, 1) := by decide +kernel
theorem dX11_shareOf_2 : decode cX11_shareOf 2 = .ok (.iconst 0, 1) := by decide +kernel
theorem dX11_shareOf_3 : decode cX11_shareOf 3 = .ok (.istore 4, 2) := by decide +kernel
def FX11_shareOf_41 (k5 : Int → Int → Int → Int → Mm → Option (Int × Mm)) (x1 : Int) (x2 : Int) (x4 : Int) (s0 : Int) (s1 : Int) (f : Mm) : Option (Int × Mm) := k5 x1 x2 (w32 (s0 + s1)) (w32 (x4 + 1)) f
set_option maxHeartbeats 4000000 in
set_option maxRecDepth 100000 in
theorem SX11_shareOf_41 {G : GT} {l : Launch} {Q : Option AV → Mem → Prop} {k5 : Int → Int → Int → Int → Mm → Option (Int × Mm)} (q5 : ∀ (x1 : Int) (x2 : Int) (x3 : Int) (x4 : Int) (f : Mm), OkI Q (k5 x1 x2 x3 x4 f) → Ev G l MX11_shareOf (Rm 2 0 0) (ZM G Q 0 0) 0 0 5 [some (vR 150), some (vI x1), some (vI x2), some (vI x3), some (vI x4)] [] (SH, RF, f)) (x1 : Int) (x2 : Int) (x4 : Int) (s0 : Int) (s1 : Int) (f : Mm) (h : OkI Q (FX11_shareOf_41 k5 x1 x2 x4 s0 s1 f)) : Ev G l MX11_shareOf (Rm 2 0 0) (ZM G Q 0 0) 0 0 41 [some (vR 150), some (vI x1), some (vI x2), none, some (vI x4)] [vI s1, vI s0] (SH, RF, f) := by
  unfold FX11_shareOf_41 at h
  refine ev_iadd dX11_shareOf_41 ?_
  refine ev_istore_n (i := 3) (L' := [some (vR 150), some (vI x1), some (vI x2), some (vI (w32 (s0 + s1))), some (vI x4)]) dX11_shareOf_42 rfl (by decide) rfl ?_
  refine ev_iinc (L' := [some (vR 150), some (vI x1), some (vI x2), some (vI (w32 (s0 + s1))), some (vI (w32 (x4 + 1)))]) dX11_shareOf_43 rfl (by decide) rfl ?_
  refine ev_goto (tgt := 5) dX11_shareOf_46 (by decide) ?_
  exact q5 x1 x2 (w32 (s0 + s1)) (w32 (x4 + 1)) _ h
def FX11_shareOf_5  : Nat → Int → Int → Int → Int → Mm → Option (Int × Mm)
  | 0, _, _, _, _, _ => none
  | n + 1, x1, x2, x3, x4, f => (b2 (FX11_carts f) fun y1 f1 => (if y1 ≤ x4 then some (x3, f1) else (b2 (FX11_isBit x2 x4 f1) fun y2 f2 => (if y2 = 0 then FX11_shareOf_41 (FX11_shareOf_5 n) x1 x2 x4 x3 0 f2 else (if 0 ≤ (w32 ((w32 (60 * x1)) + x4)) ∧ (w32 ((w32 (60 * x1)) + x4)) < 240 then FX11_shareOf_41 (FX11_shareOf_5 n) x1 x2 x4 x3 (w32 (f2 153 (w32 ((w32 (60 * x1)) + x4)).toNat)) f2 else none)))))
set_option maxHeartbeats 4000000 in
set_option maxRecDepth 100000 in
theorem SX11_shareOf_5 {G : GT} {l : Launch} {Q : Option AV → Mem → Prop}  : ∀ (n : Nat) (x1 : Int) (x2 : Int) (x3 : Int) (x4 : Int) (f : Mm), OkI Q (FX11_shareOf_5  n x1 x2 x3 x4 f) → Ev G l MX11_shareOf (Rm 2 0 0) (ZM G Q 0 0) 0 0 5 [some (vR 150), some (vI x1), some (vI x2), some (vI x3), some (vI x4)] [] (SH, RF, f) := by
  intro n
  induction n with
  | zero => intro x1 x2 x3 x4 f h; exact absurd h (by rw [FX11_shareOf_5]; exact fun q => q)
  | succ n ih =>
    intro x1 x2 x3 x4 f h
    rw [FX11_shareOf_5] at h
    refine ev_iload dX11_shareOf_5 rfl ?_
    refine ev_aload_n (i := 0) dX11_shareOf_7 rfl rfl ?_
    refine ev_cVI (b := 150) (av := []) (S := [vI x4]) (fun q => q) h dX11_shareOf_8 (fun Q' q => TX11_carts _ q) kvX11_carts ml_X11_269 sh_150 rfl (RRc (by decide) (by decide)) (Nat.le_of_ble_eq_true rfl) ⟨Nat.le_of_ble_eq_true rfl, Nat.le_of_ble_eq_true rfl⟩ (fun y1 f1 h => ?_)
    refine ev_icmp_ge (tgt := 49) dX11_shareOf_11 (by decide) (fun c5 => ?_) (fun c5 => ?_)
    · rw [if_pos c5] at h
      refine ev_iload_n (i := 3) dX11_shareOf_49 rfl rfl ?_
      exact ev_iret rfl dX11_shareOf_50 h
    · rw [if_neg c5] at h
      refine ev_iload_n (i := 3) dX11_shareOf_14 rfl rfl ?_
      refine ev_iload_n (i := 2) dX11_shareOf_15 rfl rfl ?_
      refine ev_iload dX11_shareOf_16 rfl ?_
      refine ev_cSI (av := [vI x2, vI x4]) (S := [vI x3]) (fun q => q) h dX11_shareOf_18 (fun Q' q => TX11_isBit x2 x4 _ q) ksX11_isBit ml_X11_289 rfl (RRc (by decide) (by decide)) (Nat.le_of_ble_eq_true rfl) ⟨Nat.le_of_ble_eq_true rfl, Nat.le_of_ble_eq_true rfl⟩ (fun y2 f2 h => ?_)
      refine ev_if_eq (tgt := 40) dX11_shareOf_21 (by decide) (fun c4 => ?_) (fun c4 => ?_)
      · rw [if_pos c4] at h
        refine ev_iconst dX11_shareOf_40 (r32c rfl) ?_
        refine ev_fg [true, true, true, false, true] rfl ?_
        exact SX11_shareOf_41 ih x1 x2 x4 x3 0 _ h
      · rw [if_neg c4] at h
        refine ev_aload_n (i := 0) dX11_shareOf_24 rfl rfl ?_
        refine ev_getR dX11_shareOf_25 fl_X11_16 sh_150 (by decide) (by decide) rf_150_3 ?_
        refine ev_bipush (v := 60) dX11_shareOf_28 (r32c rfl) (by decide) ?_
        refine ev_iload_n (i := 1) dX11_shareOf_30 rfl rfl ?_
        refine ev_imul dX11_shareOf_31 ?_
        refine ev_iload dX11_shareOf_32 rfl ?_
        refine ev_iadd dX11_shareOf_34 ?_
        by_cases g3 : 0 ≤ (w32 ((w32 (60 * x1)) + x4)) ∧ (w32 ((w32 (60 * x1)) + x4)) < 240
        · rw [if_pos g3] at h
          refine ex_lald (x := (f2 153 (w32 ((w32 (60 * x1)) + x4)).toNat)) dX11_shareOf_35 sh_153 g3.1 g3.2 rfl ?_
          refine ev_l2i dX11_shareOf_36 ?_
          refine ev_goto (tgt := 41) dX11_shareOf_37 (by decide) ?_
          refine ev_fg [true, true, true, false, true] rfl ?_
          exact SX11_shareOf_41 ih x1 x2 x4 x3 (w32 (f2 153 (w32 ((w32 (60 * x1)) + x4)).toNat)) _ h
        · rw [if_neg g3] at h; exact h.elim
def FX11_shareOf_0  (x1 : Int) (x2 : Int) (f : Mm) : Option (Int × Mm) := FX11_shareOf_5 fu x1 x2 0 0 f
set_option maxHeartbeats 4000000 in
set_option maxRecDepth 100000 in
theorem SX11_shareOf_0 {G : GT} {l : Launch} {Q : Option AV → Mem → Prop}  (x1 : Int) (x2 : Int) (f : Mm) (h : OkI Q (FX11_shareOf_0  x1 x2 f)) : Ev G l MX11_shareOf (Rm 2 0 0) (ZM G Q 0 0) 0 0 0 [some (vR 150), some (vI x1), some (vI x2), none, none] [] (SH, RF, f) := by
  unfold FX11_shareOf_0 at h
  refine ev_iconst dX11_shareOf_0 (r32c rfl) ?_
  refine ev_istore_n (i := 3) (L' := [some (vR 150), some (vI x1), some (vI x2), some (vI 0), none]) dX11_shareOf_1 rfl (by decide) rfl ?_
  refine ev_iconst dX11_shareOf_2 (r32c rfl) ?_
  refine ev_istore (L' := [some (vR 150), some (vI x1), some (vI x2), some (vI 0), some (vI 0)]) dX11_shareOf_3 (by decide) rfl ?_
  exact SX11_shareOf_5  fu x1 x2 0 0 _ h
def FX11_shareOf (x1 : Int) (x2 : Int) (f : Mm) : Option (Int × Mm) := FX11_shareOf_0 x1 x2 f
set_option maxRecDepth 100000 in
theorem TX11_shareOf {G : GT} {l : Launch} {Q : Option AV → Mem → Prop} (x1 : Int) (x2 : Int) (f : Mm) (h : OkI Q (FX11_shareOf x1 x2 f)) : Ret G l MX11_shareOf (2) 0 0 [vR 150, vI x1, vI x2] (SH, RF, f) Q := by
  refine ret_of (L := [some (vR 150), some (vI x1), some (vI x2), none, none]) (by decide) rfl (Nat.le_of_ble_eq_true rfl) ?_
  exact SX11_shareOf_0 x1 x2 f h
theorem dX11_leaveOf_41 : decode cX11_leaveOf 41 = .ok (.iinc 2 1, 3) := by decide +kernel
theorem dX11_leaveOf_44 : decode cX11_leaveOf 44 = .ok (.goto (-42), 3) := by decide +kernel
theorem dX11_leaveOf_2 : decode cX11_leaveOf 2 = .ok (.iload_n 2, 1) := by decide +kernel
theorem dX11_leaveOf_3 : decode cX11_leaveOf 3 = .ok (.iconst 1, 1) := by decide +kernel
theorem dX11_leaveOf_4 : decode cX11_leaveOf 4 = .ok (.aload_n 0, 1) := by decide +kernel
theorem dX11_leaveOf_5 : decode cX11_leaveOf 5 = .ok (.invokevirtual 269, 3) := by decide +kernel
theorem dX11_leaveOf_8 : decode cX11_leaveOf 8 = .ok (.ishl, 1) := by decide +kernel
theorem dX11_leaveOf_9 : decode cX11_leaveOf 9 = .ok (.if_icmp .ge 38, 3) := by decide +kernel
theorem dX11_leaveOf_47 : decode cX11_leaveOf 47 = .ok (.iconst (-1), 1) := by decide +kernel
theorem dX11_leaveOf_48 : decode cX11_leaveOf 48 = .ok (.ireturn, 1) := by decide +kernel
theorem dX11_leaveOf_12 : decode cX11_leaveOf 12 = .ok (.aload_n 0, 1) := by decide +kernel
theorem dX11_leaveOf_13 : decode cX11_leaveOf 13 = .ok (.getfield 74, 3) := by decide +kernel
theorem dX11_leaveOf_16 : decode cX11_leaveOf 16 = .ok (.iload_n 2, 1) := by decide +kernel
theorem dX11_leaveOf_17 : decode cX11_leaveOf 17 = .ok (.iaload, 1) := by decide +kernel
theorem dX11_leaveOf_18 : decode cX11_leaveOf 18 = .ok (.ldc_w 349, 3) := by decide +kernel
theorem dX11_leaveOf_21 : decode cX11_leaveOf 21 = .ok (.if_icmp .ge 20, 3) := by decide +kernel
theorem dX11_leaveOf_24 : decode cX11_leaveOf 24 = .ok (.aload_n 0, 1) := by decide +kernel
theorem dX11_leaveOf_25 : decode cX11_leaveOf 25 = .ok (.iload_n 1, 1) := by decide +kernel
theorem dX11_leaveOf_26 : decode cX11_leaveOf 26 = .ok (.iload_n 2, 1) := by decide +kernel
theorem dX11_leaveOf_27 : decode cX11_leaveOf 27 = .ok (.invokevirtual 453, 3) := by decide +kernel
theorem dX11_leaveOf_30 : decode cX11_leaveOf 30 = .ok (.aload_n 0, 1) := by decide +kernel
theorem dX11_leaveOf_31 : decode cX11_leaveOf 31 = .ok (.getfield 74, 3) := by decide +kernel
theorem dX11_leaveOf_34 : decode cX11_leaveOf 34 = .ok (.iload_n 2, 1) := by decide +kernel
theorem dX11_leaveOf_35 : decode cX11_leaveOf 35 = .ok (.iaload, 1) := by decide +kernel
theorem dX11_leaveOf_36 : decode cX11_leaveOf 36 = .ok (.if_icmp .le 5, 3) := by decide +kernel
theorem dX11_leaveOf_39 : decode cX11_leaveOf 39 = .ok (.iload_n 2, 1) := by decide +kernel
theorem dX11_leaveOf_40 : decode cX11_leaveOf 40 = .ok (.ireturn, 1) := by decide +kernel
theorem dX11_leaveOf_0 : decode cX11_leaveOf 0 = .ok (.iconst 0, 1) := by decide +kernel
theorem dX11_leaveOf_1 : decode cX11_leaveOf 1 = .ok (.istore_n 2, 1) := by decide +kernel
def FX11_leaveOf_41 (k2 : Int → Int → Mm → Option (Int × Mm)) (x1 : Int) (x2 : Int) (f : Mm) : Option (Int × Mm) := k2 x1 (w32 (x2 + 1)) f
set_option maxHeartbeats 4000000 in
set_option maxRecDepth 100000 in
theorem SX11_leaveOf_41 {G : GT} {l : Launch} {Q : Option AV → Mem → Prop} {k2 : Int → Int → Mm → Option (Int × Mm)} (q2 : ∀ (x1 : Int) (x2 : Int) (f : Mm), OkI Q (k2 x1 x2 f) → Ev G l MX11_leaveOf (Rm 3 0 0) (ZM G Q 0 0) 0 0 2 [some (vR 150), some (vI x1), some (vI x2)] [] (SH, RF, f)) (x1 : Int) (x2 : Int) (f : Mm) (h : OkI Q (FX11_leaveOf_41 k2 x1 x2 f)) : Ev G l MX11_leaveOf (Rm 3 0 0) (ZM G Q 0 0) 0 0 41 [some (vR 150), some (vI x1), some (vI x2)] [] (SH, RF, f) := by
  unfold FX11_leaveOf_41 at h
  refine ev_iinc (L' := [some (vR 150), some (vI x1), some (vI (w32 (x2 + 1)))]) dX11_leaveOf_41 rfl (by decide) rfl ?_
  refine ev_goto (tgt := 2) dX11_leaveOf_44 (by decide) ?_
  exact q2 x1 (w32 (x2 + 1)) _ h
def FX11_leaveOf_2  : Nat → Int → Int → Mm → Option (Int × Mm)
  | 0, _, _, _ => none
  | n + 1, x1, x2, f => (b2 (FX11_carts f) fun y1 f1 => (if (bShl 1 y1) ≤ x2 then some ((-1), f1) else (if 0 ≤ x2 ∧ x2 < 64 then (if 10000000 ≤ (f1 170 x2.toNat) then FX11_leaveOf_41 (FX11_leaveOf_2 n) x1 x2 f1 else (b2 (FX11_shareOf x1 x2 f1) fun y3 f3 => (if 0 ≤ x2 ∧ x2 < 64 then (if y3 ≤ (f3 170 x2.toNat) then FX11_leaveOf_41 (FX11_leaveOf_2 n) x1 x2 f3 else some (x2, f3)) else none))) else none)))
set_option maxHeartbeats 4000000 in
set_option maxRecDepth 100000 in
theorem SX11_leaveOf_2 {G : GT} {l : Launch} {Q : Option AV → Mem → Prop}  : ∀ (n : Nat) (x1 : Int) (x2 : Int) (f : Mm), OkI Q (FX11_leaveOf_2  n x1 x2 f) → Ev G l MX11_leaveOf (Rm 3 0 0) (ZM G Q 0 0) 0 0 2 [some (vR 150), some (vI x1), some (vI x2)] [] (SH, RF, f) := by
  intro n
  induction n with
  | zero => intro x1 x2 f h; exact absurd h (by rw [FX11_leaveOf_2]; exact fun q => q)
  | succ n ih =>
    intro x1 x2 f h
    rw [FX11_leaveOf_2] at h
    refine ev_iload_n (i := 2) dX11_leaveOf_2 rfl rfl ?_
    refine ev_iconst dX11_leaveOf_3 (r32c rfl) ?_
    refine ev_aload_n (i := 0) dX11_leaveOf_4 rfl rfl ?_
    refine ev_cVI (b := 150) (av := []) (S := [vI 1, vI x2]) (fun q => q) h dX11_leaveOf_5 (fun Q' q => TX11_carts _ q) kvX11_carts ml_X11_269 sh_150 rfl (RRc (by decide) (by decide)) (Nat.le_of_ble_eq_true rfl) ⟨Nat.le_of_ble_eq_true rfl, Nat.le_of_ble_eq_true rfl⟩ (fun y1 f1 h => ?_)
    refine ev_ishl dX11_leaveOf_8 ?_
    refine ev_icmp_ge (tgt := 47) dX11_leaveOf_9 (by decide) (fun c7 => ?_) (fun c7 => ?_)
    · rw [if_pos c7] at h
      refine ev_iconst dX11_leaveOf_47 (r32c rfl) ?_
      exact ev_iret rfl dX11_leaveOf_48 h
    · rw [if_neg c7] at h
      refine ev_aload_n (i := 0) dX11_leaveOf_12 rfl rfl ?_
      refine ev_getR dX11_leaveOf_13 fl_X11_74 sh_150 (by decide) (by decide) rf_150_35 ?_
      refine ev_iload_n (i := 2) dX11_leaveOf_16 rfl rfl ?_
      by_cases g2 : 0 ≤ x2 ∧ x2 < 64
      · rw [if_pos g2] at h
        refine ex_iald (x := (f1 170 x2.toNat)) dX11_leaveOf_17 sh_170 g2.1 g2.2 rfl ?_
        refine ev_ldcw (v := 10000000) dX11_leaveOf_18 (r32c rfl) kc_X11_349 ?_
        refine ev_icmp_ge (tgt := 41) dX11_leaveOf_21 (by decide) (fun c6 => ?_) (fun c6 => ?_)
        · rw [if_pos c6] at h
          exact SX11_leaveOf_41 ih x1 x2 _ h
        · rw [if_neg c6] at h
          refine ev_aload_n (i := 0) dX11_leaveOf_24 rfl rfl ?_
          refine ev_iload_n (i := 1) dX11_leaveOf_25 rfl rfl ?_
          refine ev_iload_n (i := 2) dX11_leaveOf_26 rfl rfl ?_
          refine ev_cVI (b := 150) (av := [vI x1, vI x2]) (S := []) (fun q => q) h dX11_leaveOf_27 (fun Q' q => TX11_shareOf x1 x2 _ q) kvX11_shareOf ml_X11_453 sh_150 rfl (RRc (by decide) (by decide)) (Nat.le_of_ble_eq_true rfl) ⟨Nat.le_of_ble_eq_true rfl, Nat.le_of_ble_eq_true rfl⟩ (fun y3 f3 h => ?_)
          refine ev_aload_n (i := 0) dX11_leaveOf_30 rfl rfl ?_
          refine ev_getR dX11_leaveOf_31 fl_X11_74 sh_150 (by decide) (by decide) rf_150_35 ?_
          refine ev_iload_n (i := 2) dX11_leaveOf_34 rfl rfl ?_
          by_cases g4 : 0 ≤ x2 ∧ x2 < 64
          · rw [if_pos g4] at h
            refine ex_iald (x := (f3 170 x2.toNat)) dX11_leaveOf_35 sh_170 g4.1 g4.2 rfl ?_
            refine ev_icmp_le (tgt := 41) dX11_leaveOf_36 (by decide) (fun c5 => ?_) (fun c5 => ?_)
            · rw [if_pos c5] at h
              exact SX11_leaveOf_41 ih x1 x2 _ h
            · rw [if_neg c5] at h
              refine ev_iload_n (i := 2) dX11_leaveOf_39 rfl rfl ?_
              exact ev_iret rfl dX11_leaveOf_40 h
          · rw [if_neg g4] at h; exact h.elim
      · rw [if_neg g2] at h; exact h.elim
def FX11_leaveOf_0  (x1 : Int) (f : Mm) : Option (Int × Mm) := FX11_leaveOf_2 fu x1 0 f
set_option maxHeartbeats 4000000 in
set_option maxRecDepth 100000 in
theorem SX11_leaveOf_0 {G : GT} {l : Launch} {Q : Option AV → Mem → Prop}  (x1 : Int) (f : Mm) (h : OkI Q (FX11_leaveOf_0  x1 f)) : Ev G l MX11_leaveOf (Rm 3 0 0) (ZM G Q 0 0) 0 0 0 [some (vR 150), some (vI x1), none] [] (SH, RF, f) := by
  unfold FX11_leaveOf_0 at h
  refine ev_iconst dX11_leaveOf_0 (r32c rfl) ?_
  refine ev_istore_n (i := 2) (L' := [some (vR 150), some (vI x1), some (vI 0)]) dX11_leaveOf_1 rfl (by decide) rfl ?_
  exact SX11_leaveOf_2  fu x1 0 _ h
def FX11_leaveOf (x1 : Int) (f : Mm) : Option (Int × Mm) := FX11_leaveOf_0 x1 f
set_option maxRecDepth 100000 in
theorem TX11_leaveOf {G : GT} {l : Launch} {Q : Option AV → Mem → Prop} (x1 : Int) (f : Mm) (h : OkI Q (FX11_leaveOf x1 f)) : Ret G l MX11_leaveOf (3) 0 0 [vR 150, vI x1] (SH, RF, f) Q := by
  refine ret_of (L := [some (vR 150), some (vI x1), none]) (by decide) rfl (Nat.le_of_ble_eq_true rfl) ?_
  exact SX11_leaveOf_0 x1 f h
theorem dX11_fair_0 : decode cX11_fair 0 = .ok (.aload_n 0, 1) := by decide +kernel
theorem dX11_fair_1 : decode cX11_fair 1 = .ok (.iconst 0, 1) := by decide +kernel
theorem dX11_fair_2 : decode cX11_fair 2 = .ok (.putfield 98, 3) := by decide +kernel
theorem dX11_fair_5 : decode cX11_fair 5 = .ok (.aload_n 0, 1) := by decide +kernel
theorem dX11_fair_6 : decode cX11_fair 6 = .ok (.iload_n 1, 1) := by decide +kernel
theorem dX11_fair_7 : decode cX11_fair 7 = .ok (.invokevirtual 456, 3) := by decide +kernel
theorem dX11_fair_10 : decode cX11_fair 10 = .ok (.istore_n 2, 1) := by decide +kernel
theorem dX11_fair_11 : decode cX11_fair 11 = .ok (.iload_n 2, 1) := by decide +kernel
theorem dX11_fair_12 : decode cX11_fair 12 = .ok (.ifCond .eq 5, 3) := by decide +kernel
theorem dX11_fair_17 : decode cX11_fair 17 = .ok (.iconst 1, 1) := by decide +kernel
theorem dX11_fair_18 : decode cX11_fair 18 = .ok (.aload_n 0, 1) := by decide +kernel
theorem dX11_fair_19 : decode cX11_fair 19 = .ok (.invokevirtual 269, 3) := by decide +kernel
theorem dX11_fair_22 : decode cX11_fair 22 = .ok (.ishl, 1) := by decide +kernel
theorem dX11_fair_23 : decode cX11_fair 23 = .ok (.iconst 1, 1) := by decide +kernel
theorem dX11_fair_24 : decode cX11_fair 24 = .ok (.isub, 1) := by decide +kernel
theorem dX11_fair_25 : decode cX11_fair 25 = .ok (.istore_n 3, 1) := by decide +kernel
theorem dX11_fair_26 : decode cX11_fair 26 = .ok (.aload_n 0, 1) := by decide +kernel
theorem dX11_fair_27 : decode cX11_fair 27 = .ok (.getfield 74, 3) := by decide +kernel
theorem dX11_fair_30 : decode cX11_fair 30 = .ok (.iload_n 3, 1) := by decide +kernel
theorem dX11_fair_31 : decode cX11_fair 31 = .ok (.iaload, 1) := by decide +kernel
theorem dX11_fair_32 : decode cX11_fair 32 = .ok (.ldc_w 349, 3) := by decide +kernel
theorem dX11_fair_35 : decode cX11_fair 35 = .ok (.if_icmp .ge 31, 3) := by decide +kernel
theorem dX11_fair_66 : decode cX11_fair 66 = .ok (.iconst 0, 1) := by decide +kernel
theorem dX11_fair_67 : decode cX11_fair 67 = .ok (.ireturn, 1) := by decide +kernel
theorem dX11_fair_38 : decode cX11_fair 38 = .ok (.aload_n 0, 1) := by decide +kernel
theorem dX11_fair_39 : decode cX11_fair 39 = .ok (.iload_n 1, 1) := by decide +kernel
theorem dX11_fair_40 : decode cX11_fair 40 = .ok (.iload_n 3, 1) := by decide +kernel
theorem dX11_fair_41 : decode cX11_fair 41 = .ok (.invokevirtual 453, 3) := by decide +kernel
theorem dX11_fair_44 : decode cX11_fair 44 = .ok (.aload_n 0, 1) := by decide +kernel
theorem dX11_fair_45 : decode cX11_fair 45 = .ok (.getfield 74, 3) := by decide +kernel
theorem dX11_fair_48 : decode cX11_fair 48 = .ok (.iload_n 3, 1) := by decide +kernel
theorem dX11_fair_49 : decode cX11_fair 49 = .ok (.iaload, 1) := by decide +kernel
theorem dX11_fair_50 : decode cX11_fair 50 = .ok (.if_icmp .ne 16, 3) := by decide +kernel
theorem dX11_fair_53 : decode cX11_fair 53 = .ok (.aload_n 0, 1) := by decide +kernel
theorem dX11_fair_54 : decode cX11_fair 54 = .ok (.iload_n 1, 1) := by decide +kernel
theorem dX11_fair_55 : decode cX11_fair 55 = .ok (.invokevirtual 459, 3) := by decide +kernel
theorem dX11_fair_58 : decode cX11_fair 58 = .ok (.iconst (-1), 1) := by decide +kernel
theorem dX11_fair_59 : decode cX11_fair 59 = .ok (.if_icmp .ne 7, 3) := by decide +kernel
theorem dX11_fair_62 : decode cX11_fair 62 = .ok (.iconst 1, 1) := by decide +kernel
theorem dX11_fair_63 : decode cX11_fair 63 = .ok (.goto 4, 3) := by decide +kernel
theorem dX11_fair_15 : decode cX11_fair 15 = .ok (.iload_n 2, 1) := by decide +kernel
theorem dX11_fair_16 : decode cX11_fair 16 = .ok (.ireturn, 1) := by decide +kernel
def FX11_fair_0  (x1 : Int) (f : Mm) : Option (Int × Mm) := (b2 (FX11_whyNotShares x1 (up f 150 0 0)) fun y1 f1 => (if y1 = 0 then (b2 (FX11_carts f1) fun y2 f2 => (if 0 ≤ (w32 ((bShl 1 y2) - 1)) ∧ (w32 ((bShl 1 y2) - 1)) < 64 then (if 10000000 ≤ (f2 170 (w32 ((bShl 1 y2) - 1)).toNat) then some (0, f2) else (b2 (FX11_shareOf x1 (w32 ((bShl 1 y2) - 1)) f2) fun y4 f4 => (if 0 ≤ (w32 ((bShl 1 y2) - 1)) ∧ (w32 ((bShl 1 y2) - 1)) < 64 then (if y4 = (f4 170 (w32 ((bShl 1 y2) - 1)).toNat) then (b2 (FX11_leaveOf x1 f4) fun y6 f6 => (if y6 = (-1) then some (1, f6) else some (0, f6))) else some (0, f4)) else none))) else none)) else some (y1, f1)))
set_option maxHeartbeats 4000000 in
set_option maxRecDepth 100000 in
theorem SX11_fair_0 {G : GT} {l : Launch} {Q : Option AV → Mem → Prop}  (x1 : Int) (f : Mm) (h : OkI Q (FX11_fair_0  x1 f)) : Ev G l MX11_fair (Rm 8 0 0) (ZM G Q 0 0) 0 0 0 [some (vR 150), some (vI x1), none, none] [] (SH, RF, f) := by
  unfold FX11_fair_0 at h
  refine ev_aload_n (i := 0) dX11_fair_0 rfl rfl ?_
  refine ev_iconst dX11_fair_1 (r32c rfl) ?_
  refine ev_putI dX11_fair_2 fl_X11_98 sh_150 (by decide) (by decide) ?_
  refine ev_aload_n (i := 0) dX11_fair_5 rfl rfl ?_
  refine ev_iload_n (i := 1) dX11_fair_6 rfl rfl ?_
  refine ev_cVI (b := 150) (av := [vI x1]) (S := []) (fun q => q) h dX11_fair_7 (fun Q' q => TX11_whyNotShares x1 _ q) kvX11_whyNotShares ml_X11_456 sh_150 rfl (RRc (by decide) (by decide)) (Nat.le_of_ble_eq_true rfl) ⟨Nat.le_of_ble_eq_true rfl, Nat.le_of_ble_eq_true rfl⟩ (fun y1 f1 h => ?_)
  refine ev_istore_n (i := 2) (L' := [some (vR 150), some (vI x1), some (vI y1), none]) dX11_fair_10 rfl (by decide) rfl ?_
  refine ev_iload_n (i := 2) dX11_fair_11 rfl rfl ?_
  refine ev_if_eq (tgt := 17) dX11_fair_12 (by decide) (fun c10 => ?_) (fun c10 => ?_)
  · rw [if_pos c10] at h
    refine ev_iconst dX11_fair_17 (r32c rfl) ?_
    refine ev_aload_n (i := 0) dX11_fair_18 rfl rfl ?_
    refine ev_cVI (b := 150) (av := []) (S := [vI 1]) (fun q => q) h dX11_fair_19 (fun Q' q => TX11_carts _ q) kvX11_carts ml_X11_269 sh_150 rfl (RRc (by decide) (by decide)) (Nat.le_of_ble_eq_true rfl) ⟨Nat.le_of_ble_eq_true rfl, Nat.le_of_ble_eq_true rfl⟩ (fun y2 f2 h => ?_)
    refine ev_ishl dX11_fair_22 ?_
    refine ev_iconst dX11_fair_23 (r32c rfl) ?_
    refine ev_isub dX11_fair_24 ?_
    refine ev_istore_n (i := 3) (L' := [some (vR 150), some (vI x1), some (vI y1), some (vI (w32 ((bShl 1 y2) - 1)))]) dX11_fair_25 rfl (by decide) rfl ?_
    refine ev_aload_n (i := 0) dX11_fair_26 rfl rfl ?_
    refine ev_getR dX11_fair_27 fl_X11_74 sh_150 (by decide) (by decide) rf_150_35 ?_
    refine ev_iload_n (i := 3) dX11_fair_30 rfl rfl ?_
    by_cases g3 : 0 ≤ (w32 ((bShl 1 y2) - 1)) ∧ (w32 ((bShl 1 y2) - 1)) < 64
    · rw [if_pos g3] at h
      refine ex_iald (x := (f2 170 (w32 ((bShl 1 y2) - 1)).toNat)) dX11_fair_31 sh_170 g3.1 g3.2 rfl ?_
      refine ev_ldcw (v := 10000000) dX11_fair_32 (r32c rfl) kc_X11_349 ?_
      refine ev_icmp_ge (tgt := 66) dX11_fair_35 (by decide) (fun c9 => ?_) (fun c9 => ?_)
      · rw [if_pos c9] at h
        refine ev_iconst dX11_fair_66 (r32c rfl) ?_
        exact ev_iret rfl dX11_fair_67 h
      · rw [if_neg c9] at h
        refine ev_aload_n (i := 0) dX11_fair_38 rfl rfl ?_
        refine ev_iload_n (i := 1) dX11_fair_39 rfl rfl ?_
        refine ev_iload_n (i := 3) dX11_fair_40 rfl rfl ?_
        refine ev_cVI (b := 150) (av := [vI x1, vI (w32 ((bShl 1 y2) - 1))]) (S := []) (fun q => q) h dX11_fair_41 (fun Q' q => TX11_shareOf x1 (w32 ((bShl 1 y2) - 1)) _ q) kvX11_shareOf ml_X11_453 sh_150 rfl (RRc (by decide) (by decide)) (Nat.le_of_ble_eq_true rfl) ⟨Nat.le_of_ble_eq_true rfl, Nat.le_of_ble_eq_true rfl⟩ (fun y4 f4 h => ?_)
        refine ev_aload_n (i := 0) dX11_fair_44 rfl rfl ?_
        refine ev_getR dX11_fair_45 fl_X11_74 sh_150 (by decide) (by decide) rf_150_35 ?_
        refine ev_iload_n (i := 3) dX11_fair_48 rfl rfl ?_
        by_cases g5 : 0 ≤ (w32 ((bShl 1 y2) - 1)) ∧ (w32 ((bShl 1 y2) - 1)) < 64
        · rw [if_pos g5] at h
          refine ex_iald (x := (f4 170 (w32 ((bShl 1 y2) - 1)).toNat)) dX11_fair_49 sh_170 g5.1 g5.2 rfl ?_
          refine ev_icmp_ne (tgt := 66) dX11_fair_50 (by decide) (fun c8 => ?_) (fun c8 => ?_)
          · rw [if_neg c8] at h
            refine ev_iconst dX11_fair_66 (r32c rfl) ?_
            exact ev_iret rfl dX11_fair_67 h
          · rw [if_pos c8] at h
            refine ev_aload_n (i := 0) dX11_fair_53 rfl rfl ?_
            refine ev_iload_n (i := 1) dX11_fair_54 rfl rfl ?_
            refine ev_cVI (b := 150) (av := [vI x1]) (S := []) (fun q => q) h dX11_fair_55 (fun Q' q => TX11_leaveOf x1 _ q) kvX11_leaveOf ml_X11_459 sh_150 rfl (RRc (by decide) (by decide)) (Nat.le_of_ble_eq_true rfl) ⟨Nat.le_of_ble_eq_true rfl, Nat.le_of_ble_eq_true rfl⟩ (fun y6 f6 h => ?_)
            refine ev_iconst dX11_fair_58 (r32c rfl) ?_
            refine ev_icmp_ne (tgt := 66) dX11_fair_59 (by decide) (fun c7 => ?_) (fun c7 => ?_)
            · rw [if_neg c7] at h
              refine ev_iconst dX11_fair_66 (r32c rfl) ?_
              exact ev_iret rfl dX11_fair_67 h
            · rw [if_pos c7] at h
              refine ev_iconst dX11_fair_62 (r32c rfl) ?_
              refine ev_goto (tgt := 67) dX11_fair_63 (by decide) ?_
              exact ev_iret rfl dX11_fair_67 h
        · rw [if_neg g5] at h; exact h.elim
    · rw [if_neg g3] at h; exact h.elim
  · rw [if_neg c10] at h
    refine ev_iload_n (i := 2) dX11_fair_15 rfl rfl ?_
    exact ev_iret rfl dX11_fair_16 h
def FX11_fair (x1 : Int) (f : Mm) : Option (Int × Mm) := FX11_fair_0 x1 f
set_option maxRecDepth 100000 in
theorem TX11_fair {G : GT} {l : Launch} {Q : Option AV → Mem → Prop} (x1 : Int) (f : Mm) (h : OkI Q (FX11_fair x1 f)) : Ret G l MX11_fair (8) 0 0 [vR 150, vI x1] (SH, RF, f) Q := by
  refine ret_of (L := [some (vR 150), some (vI x1), none, none]) (by decide) rfl (Nat.le_of_ble_eq_true rfl) ?_
  exact SX11_fair_0 x1 f h
theorem dX11_leave_0 : decode cX11_leave 0 = .ok (.aload_n 0, 1) := by decide +kernel
theorem dX11_leave_1 : decode cX11_leave 1 = .ok (.iconst 0, 1) := by decide +kernel
theorem dX11_leave_2 : decode cX11_leave 2 = .ok (.putfield 98, 3) := by decide +kernel
theorem dX11_leave_5 : decode cX11_leave 5 = .ok (.aload_n 0, 1) := by decide +kernel
theorem dX11_leave_6 : decode cX11_leave 6 = .ok (.iload_n 1, 1) := by decide +kernel
theorem dX11_leave_7 : decode cX11_leave 7 = .ok (.invokevirtual 456, 3) := by decide +kernel
theorem dX11_leave_10 : decode cX11_leave 10 = .ok (.istore_n 2, 1) := by decide +kernel
theorem dX11_leave_11 : decode cX11_leave 11 = .ok (.iload_n 2, 1) := by decide +kernel
theorem dX11_leave_12 : decode cX11_leave 12 = .ok (.ifCond .eq 7, 3) := by decide +kernel
theorem dX11_leave_19 : decode cX11_leave 19 = .ok (.aload_n 0, 1) := by decide +kernel
theorem dX11_leave_20 : decode cX11_leave 20 = .ok (.iload_n 1, 1) := by decide +kernel
theorem dX11_leave_21 : decode cX11_leave 21 = .ok (.invokevirtual 459, 3) := by decide +kernel
theorem dX11_leave_24 : decode cX11_leave 24 = .ok (.ireturn, 1) := by decide +kernel
theorem dX11_leave_15 : decode cX11_leave 15 = .ok (.iload_n 2, 1) := by decide +kernel
theorem dX11_leave_16 : decode cX11_leave 16 = .ok (.goto 8, 3) := by decide +kernel
def FX11_leave_0  (x1 : Int) (f : Mm) : Option (Int × Mm) := (b2 (FX11_whyNotShares x1 (up f 150 0 0)) fun y1 f1 => (if y1 = 0 then (b2 (FX11_leaveOf x1 f1) fun y2 f2 => some (y2, f2)) else some (y1, f1)))
set_option maxHeartbeats 4000000 in
set_option maxRecDepth 100000 in
theorem SX11_leave_0 {G : GT} {l : Launch} {Q : Option AV → Mem → Prop}  (x1 : Int) (f : Mm) (h : OkI Q (FX11_leave_0  x1 f)) : Ev G l MX11_leave (Rm 8 0 0) (ZM G Q 0 0) 0 0 0 [some (vR 150), some (vI x1), none] [] (SH, RF, f) := by
  unfold FX11_leave_0 at h
  refine ev_aload_n (i := 0) dX11_leave_0 rfl rfl ?_
  refine ev_iconst dX11_leave_1 (r32c rfl) ?_
  refine ev_putI dX11_leave_2 fl_X11_98 sh_150 (by decide) (by decide) ?_
  refine ev_aload_n (i := 0) dX11_leave_5 rfl rfl ?_
  refine ev_iload_n (i := 1) dX11_leave_6 rfl rfl ?_
  refine ev_cVI (b := 150) (av := [vI x1]) (S := []) (fun q => q) h dX11_leave_7 (fun Q' q => TX11_whyNotShares x1 _ q) kvX11_whyNotShares ml_X11_456 sh_150 rfl (RRc (by decide) (by decide)) (Nat.le_of_ble_eq_true rfl) ⟨Nat.le_of_ble_eq_true rfl, Nat.le_of_ble_eq_true rfl⟩ (fun y1 f1 h => ?_)
  refine ev_istore_n (i := 2) (L' := [some (vR 150), some (vI x1), some (vI y1)]) dX11_leave_10 rfl (by decide) rfl ?_
  refine ev_iload_n (i := 2) dX11_leave_11 rfl rfl ?_
  refine ev_if_eq (tgt := 19) dX11_leave_12 (by decide) (fun c3 => ?_) (fun c3 => ?_)
  · rw [if_pos c3] at h
    refine ev_aload_n (i := 0) dX11_leave_19 rfl rfl ?_
    refine ev_iload_n (i := 1) dX11_leave_20 rfl rfl ?_
    refine ev_cVI (b := 150) (av := [vI x1]) (S := []) (fun q => q) h dX11_leave_21 (fun Q' q => TX11_leaveOf x1 _ q) kvX11_leaveOf ml_X11_459 sh_150 rfl (RRc (by decide) (by decide)) (Nat.le_of_ble_eq_true rfl) ⟨Nat.le_of_ble_eq_true rfl, Nat.le_of_ble_eq_true rfl⟩ (fun y2 f2 h => ?_)
    exact ev_iret rfl dX11_leave_24 h
  · rw [if_neg c3] at h
    refine ev_iload_n (i := 2) dX11_leave_15 rfl rfl ?_
    refine ev_goto (tgt := 24) dX11_leave_16 (by decide) ?_
    exact ev_iret rfl dX11_leave_24 h
def FX11_leave (x1 : Int) (f : Mm) : Option (Int × Mm) := FX11_leave_0 x1 f
set_option maxRecDepth 100000 in
theorem TX11_leave {G : GT} {l : Launch} {Q : Option AV → Mem → Prop} (x1 : Int) (f : Mm) (h : OkI Q (FX11_leave x1 f)) : Ret G l MX11_leave (8) 0 0 [vR 150, vI x1] (SH, RF, f) Q := by
  refine ret_of (L := [some (vR 150), some (vI x1), none]) (by decide) rfl (Nat.le_of_ble_eq_true rfl) ?_
  exact SX11_leave_0 x1 f h
theorem dX11_chanceOf_131 : decode cX11_chanceOf 131 = .ok (.ladd, 1) := by decide +kernel
theorem dX11_chanceOf_132 : decode cX11_chanceOf 132 = .ok (.lstore_n 3, 1) := by decide +kernel
theorem dX11_chanceOf_133 : decode cX11_chanceOf 133 = .ok (.iinc 5 1, 3) := by decide +kernel
theorem dX11_chanceOf_136 : decode cX11_chanceOf 136 = .ok (.goto (-95), 3) := by decide +kernel
theorem dX11_chanceOf_102 : decode cX11_chanceOf 102 = .ok (.aload_n 0, 1) := by decide +kernel
theorem dX11_chanceOf_103 : decode cX11_chanceOf 103 = .ok (.iload 5, 2) := by decide +kernel
theorem dX11_chanceOf_105 : decode cX11_chanceOf 105 = .ok (.aload_n 0, 1) := by decide +kernel
theorem dX11_chanceOf_106 : decode cX11_chanceOf 106 = .ok (.getfield 34, 3) := by decide +kernel
theorem dX11_chanceOf_109 : decode cX11_chanceOf 109 = .ok (.iconst 3, 1) := by decide +kernel
theorem dX11_chanceOf_110 : decode cX11_chanceOf 110 = .ok (.iaload, 1) := by decide +kernel
theorem dX11_chanceOf_111 : decode cX11_chanceOf 111 = .ok (.invokevirtual 293, 3) := by decide +kernel
theorem dX11_chanceOf_114 : decode cX11_chanceOf 114 = .ok (.lload_n 3, 1) := by decide +kernel
theorem dX11_chanceOf_115 : decode cX11_chanceOf 115 = .ok (.aload_n 0, 1) := by decide +kernel
theorem dX11_chanceOf_116 : decode cX11_chanceOf 116 = .ok (.getfield 56, 3) := by decide +kernel
theorem dX11_chanceOf_119 : decode cX11_chanceOf 119 = .ok (.iload_n 1, 1) := by decide +kernel
theorem dX11_chanceOf_120 : decode cX11_chanceOf 120 = .ok (.iaload, 1) := by decide +kernel
theorem dX11_chanceOf_121 : decode cX11_chanceOf 121 = .ok (.iload_n 2, 1) := by decide +kernel
theorem dX11_chanceOf_122 : decode cX11_chanceOf 122 = .ok (.if_icmp .lt 8, 3) := by decide +kernel
theorem dX11_chanceOf_130 : decode cX11_chanceOf 130 = .ok (.lconst 0, 1) := by decide +kernel
theorem dX11_chanceOf_125 : decode cX11_chanceOf 125 = .ok (.lload 6, 2) := by decide +kernel
theorem dX11_chanceOf_127 : decode cX11_chanceOf 127 = .ok (.goto 4, 3) := by decide +kernel
theorem dX11_chanceOf_93 : decode cX11_chanceOf 93 = .ok (.lmul, 1) := by decide +kernel
theorem dX11_chanceOf_94 : decode cX11_chanceOf 94 = .ok (.lstore 6, 2) := by decide +kernel
theorem dX11_chanceOf_96 : decode cX11_chanceOf 96 = .ok (.iinc 8 1, 3) := by decide +kernel
theorem dX11_chanceOf_99 : decode cX11_chanceOf 99 = .ok (.goto (-44), 3) := by decide +kernel
theorem dX11_chanceOf_55 : decode cX11_chanceOf 55 = .ok (.iload 8, 2) := by decide +kernel
theorem dX11_chanceOf_57 : decode cX11_chanceOf 57 = .ok (.iload_n 1, 1) := by decide +kernel
theorem dX11_chanceOf_58 : decode cX11_chanceOf 58 = .ok (.if_icmp .gt 44, 3) := by decide +kernel
theorem dX11_chanceOf_61 : decode cX11_chanceOf 61 = .ok (.lload 6, 2) := by decide +kernel
theorem dX11_chanceOf_63 : decode cX11_chanceOf 63 = .ok (.iload 5, 2) := by decide +kernel
theorem dX11_chanceOf_65 : decode cX11_chanceOf 65 = .ok (.iload 8, 2) := by decide +kernel
theorem dX11_chanceOf_67 : decode cX11_chanceOf 67 = .ok (.invokestatic 289, 3) := by decide +kernel
theorem dX11_chanceOf_70 : decode cX11_chanceOf 70 = .ok (.ifCond .eq 13, 3) := by decide +kernel
theorem dX11_chanceOf_83 : decode cX11_chanceOf 83 = .ok (.bipush 10, 2) := by decide +kernel
theorem dX11_chanceOf_85 : decode cX11_chanceOf 85 = .ok (.aload_n 0, 1) := by decide +kernel
theorem dX11_chanceOf_86 : decode cX11_chanceOf 86 = .ok (.getfield 34, 3) := by decide +kernel
theorem dX11_chanceOf_89 : decode cX11_chanceOf 89 = .ok (.iconst 4, 1) := by decide +kernel
theorem dX11_chanceOf_90 : decode cX11_chanceOf 90 = .ok (.iaload, 1) := by decide +kernel
theorem dX11_chanceOf_91 : decode cX11_chanceOf 91 = .ok (.isub, 1) := by decide +kernel
theorem dX11_chanceOf_92 : decode cX11_chanceOf 92 = .ok (.i2l, 1) := by decide +kernel
theorem dX11_chanceOf_73 : decode cX11_chanceOf 73 = .ok (.aload_n 0, 1) := by decide +kernel
theorem dX11_chanceOf_74 : decode cX11_chanceOf 74 = .ok (.getfield 34, 3) := by decide +kernel
theorem dX11_chanceOf_77 : decode cX11_chanceOf 77 = .ok (.iconst 4, 1) := by decide +kernel
theorem dX11_chanceOf_78 : decode cX11_chanceOf 78 = .ok (.iaload, 1) := by decide +kernel
theorem dX11_chanceOf_79 : decode cX11_chanceOf 79 = .ok (.i2l, 1) := by decide +kernel
theorem dX11_chanceOf_80 : decode cX11_chanceOf 80 = .ok (.goto 13, 3) := by decide +kernel
theorem dX11_chanceOf_41 : decode cX11_chanceOf 41 = .ok (.iload 5, 2) := by decide +kernel
theorem dX11_chanceOf_43 : decode cX11_chanceOf 43 = .ok (.iconst 2, 1) := by decide +kernel
theorem dX11_chanceOf_44 : decode cX11_chanceOf 44 = .ok (.iload_n 1, 1) := by decide +kernel
theorem dX11_chanceOf_45 : decode cX11_chanceOf 45 = .ok (.ishl, 1) := by decide +kernel
theorem dX11_chanceOf_46 : decode cX11_chanceOf 46 = .ok (.if_icmp .ge 93, 3) := by decide +kernel
theorem dX11_chanceOf_139 : decode cX11_chanceOf 139 = .ok (.lload_n 3, 1) := by decide +kernel
theorem dX11_chanceOf_140 : decode cX11_chanceOf 140 = .ok (.lreturn, 1) := by decide +kernel
theorem dX11_chanceOf_49 : decode cX11_chanceOf 49 = .ok (.lconst 1, 1) := by decide +kernel
theorem dX11_chanceOf_50 : decode cX11_chanceOf 50 = .ok (.lstore 6, 2) := by decide +kernel
theorem dX11_chanceOf_52 : decode cX11_chanceOf 52 = .ok (.iconst 0, 1) := by decide +kernel
theorem dX11_chanceOf_53 : decode cX11_chanceOf 53 = .ok (.istore 8, 2) := by decide +kernel
theorem dX11_chanceOf_38 : decode cX11_chanceOf 38 = .ok (.iconst 0, 1) := by decide +kernel
theorem dX11_chanceOf_39 : decode cX11_chanceOf 39 = .ok (.istore 5, 2) := by decide +kernel
theorem dX11_chanceOf_14 : decode cX11_chanceOf 14 = .ok (.iload 5, 2) := by decide +kernel
theorem dX11_chanceOf_16 : decode cX11_chanceOf 16 = .ok (.iload_n 1, 1) := by decide +kernel
theorem dX11_chanceOf_17 : decode cX11_chanceOf 17 = .ok (.if_icmp .gt 21, 3) := by decide +kernel
theorem dX11_chanceOf_20 : decode cX11_chanceOf 20 = .ok (.aload_n 0, 1) := by decide +kernel
theorem dX11_chanceOf_21 : decode cX11_chanceOf 21 = .ok (.dup, 1) := by decide +kernel
theorem dX11_chanceOf_22 : decode cX11_chanceOf 22 = .ok (.getfield 466, 3) := by decide +kernel
theorem dX11_chanceOf_25 : decode cX11_chanceOf 25 = .ok (.ldc2_w 469, 3) := by decide +kernel
theorem dX11_chanceOf_28 : decode cX11_chanceOf 28 = .ok (.lmul, 1) := by decide +kernel
theorem dX11_chanceOf_29 : decode cX11_chanceOf 29 = .ok (.putfield 466, 3) := by decide +kernel
theorem dX11_chanceOf_32 : decode cX11_chanceOf 32 = .ok (.iinc 5 1, 3) := by decide +kernel
theorem dX11_chanceOf_35 : decode cX11_chanceOf 35 = .ok (.goto (-21), 3) := by decide +kernel
theorem dX11_chanceOf_0 : decode cX11_chanceOf 0 = .ok (.aload_n 0, 1) := by decide +kernel
theorem dX11_chanceOf_1 : decode cX11_chanceOf 1 = .ok (.invokevirtual 296, 3) := by decide +kernel
theorem dX11_chanceOf_4 : decode cX11_chanceOf 4 = .ok (.lconst 0, 1) := by decide +kernel
theorem dX11_chanceOf_5 : decode cX11_chanceOf 5 = .ok (.lstore_n 3, 1) := by decide +kernel
theorem dX11_chanceOf_6 : decode cX11_chanceOf 6 = .ok (.aload_n 0, 1) := by decide +kernel
theorem dX11_chanceOf_7 : decode cX11_chanceOf 7 = .ok (.lconst 1, 1) := by decide +kernel
theorem dX11_chanceOf_8 : decode cX11_chanceOf 8 = .ok (.putfield 466, 3) := by decide +kernel
theorem dX11_chanceOf_11 : decode cX11_chanceOf 11 = .ok (.iconst 0, 1) := by decide +kernel
theorem dX11_chanceOf_12 : decode cX11_chanceOf 12 = .ok (.istore 5, 2) := by decide +kernel
def FX11_chanceOf_131 (k41 : Int → Int → Int → Int → Mm → Option (Int × Mm)) (x1 : Int) (x2 : Int) (x5 : Int) (s0 : Int) (s1 : Int) (f : Mm) : Option (Int × Mm) := k41 x1 x2 (w64 (s0 + s1)) (w32 (x5 + 1)) f
set_option maxHeartbeats 4000000 in
set_option maxRecDepth 100000 in
theorem SX11_chanceOf_131 {G : GT} {l : Launch} {Q : Option AV → Mem → Prop} {k41 : Int → Int → Int → Int → Mm → Option (Int × Mm)} (q41 : ∀ (x1 : Int) (x2 : Int) (x3 : Int) (x5 : Int) (f : Mm), OkJ Q (k41 x1 x2 x3 x5 f) → Ev G l MX11_chanceOf (Rm 4 0 0) (ZM G Q 0 0) 0 0 41 [some (vR 150), some (vI x1), some (vI x2), some (vJ x3), none, some (vI x5), none, none, none] [] (SH, RF, f)) (x1 : Int) (x2 : Int) (x5 : Int) (s0 : Int) (s1 : Int) (f : Mm) (h : OkJ Q (FX11_chanceOf_131 k41 x1 x2 x5 s0 s1 f)) : Ev G l MX11_chanceOf (Rm 4 0 0) (ZM G Q 0 0) 0 0 131 [some (vR 150), some (vI x1), some (vI x2), none, none, some (vI x5), none, none, none] [vJ s1, vJ s0] (SH, RF, f) := by
  unfold FX11_chanceOf_131 at h
  refine ev_ladd dX11_chanceOf_131 ?_
  refine ev_lstore_n (i := 3) (L' := [some (vR 150), some (vI x1), some (vI x2), some (vJ (w64 (s0 + s1))), none, some (vI x5), none, none, none]) dX11_chanceOf_132 rfl (by decide) rfl ?_
  refine ev_iinc (L' := [some (vR 150), some (vI x1), some (vI x2), some (vJ (w64 (s0 + s1))), none, some (vI (w32 (x5 + 1))), none, none, none]) dX11_chanceOf_133 rfl (by decide) rfl ?_
  refine ev_goto (tgt := 41) dX11_chanceOf_136 (by decide) ?_
  exact q41 x1 x2 (w64 (s0 + s1)) (w32 (x5 + 1)) _ h
def FX11_chanceOf_102 (k41 : Int → Int → Int → Int → Mm → Option (Int × Mm)) (x1 : Int) (x2 : Int) (x3 : Int) (x5 : Int) (x6 : Int) (f : Mm) : Option (Int × Mm) := ((FX11_goes x5 (f 157 3) f).bind fun f1 => (if 0 ≤ x1 ∧ x1 < 6 then (if (f1 164 x1.toNat) < x2 then FX11_chanceOf_131 k41 x1 x2 x5 x3 0 f1 else FX11_chanceOf_131 k41 x1 x2 x5 x3 x6 f1) else none))
set_option maxHeartbeats 4000000 in
set_option maxRecDepth 100000 in
theorem SX11_chanceOf_102 {G : GT} {l : Launch} {Q : Option AV → Mem → Prop} {k41 : Int → Int → Int → Int → Mm → Option (Int × Mm)} (q41 : ∀ (x1 : Int) (x2 : Int) (x3 : Int) (x5 : Int) (f : Mm), OkJ Q (k41 x1 x2 x3 x5 f) → Ev G l MX11_chanceOf (Rm 4 0 0) (ZM G Q 0 0) 0 0 41 [some (vR 150), some (vI x1), some (vI x2), some (vJ x3), none, some (vI x5), none, none, none] [] (SH, RF, f)) (x1 : Int) (x2 : Int) (x3 : Int) (x5 : Int) (x6 : Int) (f : Mm) (h : OkJ Q (FX11_chanceOf_102 k41 x1 x2 x3 x5 x6 f)) : Ev G l MX11_chanceOf (Rm 4 0 0) (ZM G Q 0 0) 0 0 102 [some (vR 150), some (vI x1), some (vI x2), some (vJ x3), none, some (vI x5), some (vJ x6), none, none] [] (SH, RF, f) := by
  unfold FX11_chanceOf_102 at h
  refine ev_aload_n (i := 0) dX11_chanceOf_102 rfl rfl ?_
  refine ev_iload dX11_chanceOf_103 rfl ?_
  refine ev_aload_n (i := 0) dX11_chanceOf_105 rfl rfl ?_
  refine ev_getR dX11_chanceOf_106 fl_X11_34 sh_150 (by decide) (by decide) rf_150_17 ?_
  refine ev_iconst dX11_chanceOf_109 (r32c rfl) ?_
  refine ex_iald (x := (f 157 3)) dX11_chanceOf_110 sh_157 (by decide) (by decide) rfl ?_
  refine ev_cVV (b := 150) (av := [vI x5, vI (f 157 3)]) (S := []) (fun q => q) h dX11_chanceOf_111 (fun Q' q => TX11_goes x5 (f 157 3) _ q) kvX11_goes ml_X11_293 sh_150 rfl (RRc (by decide) (by decide)) (Nat.le_of_ble_eq_true rfl) ⟨Nat.le_of_ble_eq_true rfl, Nat.le_of_ble_eq_true rfl⟩ (fun f1 h => ?_)
  refine ev_lload_n (i := 3) dX11_chanceOf_114 rfl rfl ?_
  refine ev_aload_n (i := 0) dX11_chanceOf_115 rfl rfl ?_
  refine ev_getR dX11_chanceOf_116 fl_X11_56 sh_150 (by decide) (by decide) rf_150_26 ?_
  refine ev_iload_n (i := 1) dX11_chanceOf_119 rfl rfl ?_
  by_cases g2 : 0 ≤ x1 ∧ x1 < 6
  · rw [if_pos g2] at h
    refine ex_iald (x := (f1 164 x1.toNat)) dX11_chanceOf_120 sh_164 g2.1 g2.2 rfl ?_
    refine ev_iload_n (i := 2) dX11_chanceOf_121 rfl rfl ?_
    refine ev_icmp_lt (tgt := 130) dX11_chanceOf_122 (by decide) (fun c3 => ?_) (fun c3 => ?_)
    · rw [if_pos c3] at h
      refine ev_lconst (v := 0) dX11_chanceOf_130 (r64c rfl) (by decide) ?_
      refine ev_fg [true, true, true, false, true, true, false, true, true] rfl ?_
      exact SX11_chanceOf_131 q41 x1 x2 x5 x3 0 _ h
    · rw [if_neg c3] at h
      refine ev_lload dX11_chanceOf_125 rfl ?_
      refine ev_goto (tgt := 131) dX11_chanceOf_127 (by decide) ?_
      refine ev_fg [true, true, true, false, true, true, false, true, true] rfl ?_
      exact SX11_chanceOf_131 q41 x1 x2 x5 x3 x6 _ h
  · rw [if_neg g2] at h; exact h.elim
def FX11_chanceOf_93 (k41 : Int → Int → Int → Int → Mm → Option (Int × Mm)) (k55 : Int → Int → Int → Int → Int → Int → Mm → Option (Int × Mm)) (x1 : Int) (x2 : Int) (x3 : Int) (x5 : Int) (x8 : Int) (s0 : Int) (s1 : Int) (f : Mm) : Option (Int × Mm) := k55 x1 x2 x3 x5 (w64 (s0 * s1)) (w32 (x8 + 1)) f
set_option maxHeartbeats 4000000 in
set_option maxRecDepth 100000 in
theorem SX11_chanceOf_93 {G : GT} {l : Launch} {Q : Option AV → Mem → Prop} {k41 : Int → Int → Int → Int → Mm → Option (Int × Mm)} {k55 : Int → Int → Int → Int → Int → Int → Mm → Option (Int × Mm)} (q41 : ∀ (x1 : Int) (x2 : Int) (x3 : Int) (x5 : Int) (f : Mm), OkJ Q (k41 x1 x2 x3 x5 f) → Ev G l MX11_chanceOf (Rm 4 0 0) (ZM G Q 0 0) 0 0 41 [some (vR 150), some (vI x1), some (vI x2), some (vJ x3), none, some (vI x5), none, none, none] [] (SH, RF, f)) (q55 : ∀ (x1 : Int) (x2 : Int) (x3 : Int) (x5 : Int) (x6 : Int) (x8 : Int) (f : Mm), OkJ Q (k55 x1 x2 x3 x5 x6 x8 f) → Ev G l MX11_chanceOf (Rm 4 0 0) (ZM G Q 0 0) 0 0 55 [some (vR 150), some (vI x1), some (vI x2), some (vJ x3), none, some (vI x5), some (vJ x6), none, some (vI x8)] [] (SH, RF, f)) (x1 : Int) (x2 : Int) (x3 : Int) (x5 : Int) (x8 : Int) (s0 : Int) (s1 : Int) (f : Mm) (h : OkJ Q (FX11_chanceOf_93 k41 k55 x1 x2 x3 x5 x8 s0 s1 f)) : Ev G l MX11_chanceOf (Rm 4 0 0) (ZM G Q 0 0) 0 0 93 [some (vR 150), some (vI x1), some (vI x2), some (vJ x3), none, some (vI x5), none, none, some (vI x8)] [vJ s1, vJ s0] (SH, RF, f) := by
  unfold FX11_chanceOf_93 at h
  refine ev_lmul dX11_chanceOf_93 ?_
  refine ev_lstore (L' := [some (vR 150), some (vI x1), some (vI x2), some (vJ x3), none, some (vI x5), some (vJ (w64 (s0 * s1))), none, some (vI x8)]) dX11_chanceOf_94 (by decide) rfl ?_
  refine ev_iinc (L' := [some (vR 150), some (vI x1), some (vI x2), some (vJ x3), none, some (vI x5), some (vJ (w64 (s0 * s1))), none, some (vI (w32 (x8 + 1)))]) dX11_chanceOf_96 rfl (by decide) rfl ?_
  refine ev_goto (tgt := 55) dX11_chanceOf_99 (by decide) ?_
  exact q55 x1 x2 x3 x5 (w64 (s0 * s1)) (w32 (x8 + 1)) _ h
def FX11_chanceOf_55 (k41 : Int → Int → Int → Int → Mm → Option (Int × Mm)) : Nat → Int → Int → Int → Int → Int → Int → Mm → Option (Int × Mm)
  | 0, _, _, _, _, _, _, _ => none
  | n + 1, x1, x2, x3, x5, x6, x8, f => (if x1 < x8 then FX11_chanceOf_102 k41 x1 x2 x3 x5 x6 f else (b2 (FX11_isBit x5 x8 f) fun y1 f1 => (if y1 = 0 then FX11_chanceOf_93 k41 (FX11_chanceOf_55 k41 n) x1 x2 x3 x5 x8 x6 (w32 (10 - (f1 157 4))) f1 else FX11_chanceOf_93 k41 (FX11_chanceOf_55 k41 n) x1 x2 x3 x5 x8 x6 (f1 157 4) f1)))
set_option maxHeartbeats 4000000 in
set_option maxRecDepth 100000 in
theorem SX11_chanceOf_55 {G : GT} {l : Launch} {Q : Option AV → Mem → Prop} {k41 : Int → Int → Int → Int → Mm → Option (Int × Mm)} (q41 : ∀ (x1 : Int) (x2 : Int) (x3 : Int) (x5 : Int) (f : Mm), OkJ Q (k41 x1 x2 x3 x5 f) → Ev G l MX11_chanceOf (Rm 4 0 0) (ZM G Q 0 0) 0 0 41 [some (vR 150), some (vI x1), some (vI x2), some (vJ x3), none, some (vI x5), none, none, none] [] (SH, RF, f)) : ∀ (n : Nat) (x1 : Int) (x2 : Int) (x3 : Int) (x5 : Int) (x6 : Int) (x8 : Int) (f : Mm), OkJ Q (FX11_chanceOf_55 k41 n x1 x2 x3 x5 x6 x8 f) → Ev G l MX11_chanceOf (Rm 4 0 0) (ZM G Q 0 0) 0 0 55 [some (vR 150), some (vI x1), some (vI x2), some (vJ x3), none, some (vI x5), some (vJ x6), none, some (vI x8)] [] (SH, RF, f) := by
  intro n
  induction n with
  | zero => intro x1 x2 x3 x5 x6 x8 f h; exact absurd h (by rw [FX11_chanceOf_55]; exact fun q => q)
  | succ n ih =>
    intro x1 x2 x3 x5 x6 x8 f h
    rw [FX11_chanceOf_55] at h
    refine ev_iload dX11_chanceOf_55 rfl ?_
    refine ev_iload_n (i := 1) dX11_chanceOf_57 rfl rfl ?_
    refine ev_icmp_gt (tgt := 102) dX11_chanceOf_58 (by decide) (fun c3 => ?_) (fun c3 => ?_)
    · rw [if_pos c3] at h
      refine ev_fg [true, true, true, true, true, true, true, true, false] rfl ?_
      exact SX11_chanceOf_102 q41 x1 x2 x3 x5 x6 _ h
    · rw [if_neg c3] at h
      refine ev_lload dX11_chanceOf_61 rfl ?_
      refine ev_iload dX11_chanceOf_63 rfl ?_
      refine ev_iload dX11_chanceOf_65 rfl ?_
      refine ev_cSI (av := [vI x5, vI x8]) (S := [vJ x6]) (fun q => q) h dX11_chanceOf_67 (fun Q' q => TX11_isBit x5 x8 _ q) ksX11_isBit ml_X11_289 rfl (RRc (by decide) (by decide)) (Nat.le_of_ble_eq_true rfl) ⟨Nat.le_of_ble_eq_true rfl, Nat.le_of_ble_eq_true rfl⟩ (fun y1 f1 h => ?_)
      refine ev_if_eq (tgt := 83) dX11_chanceOf_70 (by decide) (fun c2 => ?_) (fun c2 => ?_)
      · rw [if_pos c2] at h
        refine ev_bipush (v := 10) dX11_chanceOf_83 (r32c rfl) (by decide) ?_
        refine ev_aload_n (i := 0) dX11_chanceOf_85 rfl rfl ?_
        refine ev_getR dX11_chanceOf_86 fl_X11_34 sh_150 (by decide) (by decide) rf_150_17 ?_
        refine ev_iconst dX11_chanceOf_89 (r32c rfl) ?_
        refine ex_iald (x := (f1 157 4)) dX11_chanceOf_90 sh_157 (by decide) (by decide) rfl ?_
        refine ev_isub dX11_chanceOf_91 ?_
        refine ev_i2l dX11_chanceOf_92 ?_
        refine ev_fg [true, true, true, true, true, true, false, true, true] rfl ?_
        exact SX11_chanceOf_93 q41 ih x1 x2 x3 x5 x8 x6 (w32 (10 - (f1 157 4))) _ h
      · rw [if_neg c2] at h
        refine ev_aload_n (i := 0) dX11_chanceOf_73 rfl rfl ?_
        refine ev_getR dX11_chanceOf_74 fl_X11_34 sh_150 (by decide) (by decide) rf_150_17 ?_
        refine ev_iconst dX11_chanceOf_77 (r32c rfl) ?_
        refine ex_iald (x := (f1 157 4)) dX11_chanceOf_78 sh_157 (by decide) (by decide) rfl ?_
        refine ev_i2l dX11_chanceOf_79 ?_
        refine ev_goto (tgt := 93) dX11_chanceOf_80 (by decide) ?_
        refine ev_fg [true, true, true, true, true, true, false, true, true] rfl ?_
        exact SX11_chanceOf_93 q41 ih x1 x2 x3 x5 x8 x6 (f1 157 4) _ h
def FX11_chanceOf_41  : Nat → Int → Int → Int → Int → Mm → Option (Int × Mm)
  | 0, _, _, _, _, _ => none
  | n + 1, x1, x2, x3, x5, f => (if (bShl 2 x1) ≤ x5 then some (x3, f) else FX11_chanceOf_55 (FX11_chanceOf_41 n) fu x1 x2 x3 x5 1 0 f)
set_option maxHeartbeats 4000000 in
set_option maxRecDepth 100000 in
theorem SX11_chanceOf_41 {G : GT} {l : Launch} {Q : Option AV → Mem → Prop}  : ∀ (n : Nat) (x1 : Int) (x2 : Int) (x3 : Int) (x5 : Int) (f : Mm), OkJ Q (FX11_chanceOf_41  n x1 x2 x3 x5 f) → Ev G l MX11_chanceOf (Rm 4 0 0) (ZM G Q 0 0) 0 0 41 [some (vR 150), some (vI x1), some (vI x2), some (vJ x3), none, some (vI x5), none, none, none] [] (SH, RF, f) := by
  intro n
  induction n with
  | zero => intro x1 x2 x3 x5 f h; exact absurd h (by rw [FX11_chanceOf_41]; exact fun q => q)
  | succ n ih =>
    intro x1 x2 x3 x5 f h
    rw [FX11_chanceOf_41] at h
    refine ev_iload dX11_chanceOf_41 rfl ?_
    refine ev_iconst dX11_chanceOf_43 (r32c rfl) ?_
    refine ev_iload_n (i := 1) dX11_chanceOf_44 rfl rfl ?_
    refine ev_ishl dX11_chanceOf_45 ?_
    refine ev_icmp_ge (tgt := 139) dX11_chanceOf_46 (by decide) (fun c1 => ?_) (fun c1 => ?_)
    · rw [if_pos c1] at h
      refine ev_lload_n (i := 3) dX11_chanceOf_139 rfl rfl ?_
      exact ev_lret rfl dX11_chanceOf_140 h
    · rw [if_neg c1] at h
      refine ev_lconst (v := 1) dX11_chanceOf_49 (r64c rfl) (by decide) ?_
      refine ev_lstore (L' := [some (vR 150), some (vI x1), some (vI x2), some (vJ x3), none, some (vI x5), some (vJ 1), none, none]) dX11_chanceOf_50 (by decide) rfl ?_
      refine ev_iconst dX11_chanceOf_52 (r32c rfl) ?_
      refine ev_istore (L' := [some (vR 150), some (vI x1), some (vI x2), some (vJ x3), none, some (vI x5), some (vJ 1), none, some (vI 0)]) dX11_chanceOf_53 (by decide) rfl ?_
      exact SX11_chanceOf_55 ih fu x1 x2 x3 x5 1 0 _ h
def FX11_chanceOf_38  (x1 : Int) (x2 : Int) (x3 : Int) (f : Mm) : Option (Int × Mm) := FX11_chanceOf_41 fu x1 x2 x3 0 f
set_option maxHeartbeats 4000000 in
set_option maxRecDepth 100000 in
theorem SX11_chanceOf_38 {G : GT} {l : Launch} {Q : Option AV → Mem → Prop}  (x1 : Int) (x2 : Int) (x3 : Int) (f : Mm) (h : OkJ Q (FX11_chanceOf_38  x1 x2 x3 f)) : Ev G l MX11_chanceOf (Rm 4 0 0) (ZM G Q 0 0) 0 0 38 [some (vR 150), some (vI x1), some (vI x2), some (vJ x3), none, none, none, none, none] [] (SH, RF, f) := by
  unfold FX11_chanceOf_38 at h
  refine ev_iconst dX11_chanceOf_38 (r32c rfl) ?_
  refine ev_istore (L' := [some (vR 150), some (vI x1), some (vI x2), some (vJ x3), none, some (vI 0), none, none, none]) dX11_chanceOf_39 (by decide) rfl ?_
  exact SX11_chanceOf_41  fu x1 x2 x3 0 _ h
def FX11_chanceOf_14  : Nat → Int → Int → Int → Int → Mm → Option (Int × Mm)
  | 0, _, _, _, _, _ => none
  | n + 1, x1, x2, x3, x5, f => (if x1 < x5 then FX11_chanceOf_38 x1 x2 x3 f else FX11_chanceOf_14 n x1 x2 x3 (w32 (x5 + 1)) (up f 150 52 (w64 ((f 150 52) * 10))))
set_option maxHeartbeats 4000000 in
set_option maxRecDepth 100000 in
theorem SX11_chanceOf_14 {G : GT} {l : Launch} {Q : Option AV → Mem → Prop}  : ∀ (n : Nat) (x1 : Int) (x2 : Int) (x3 : Int) (x5 : Int) (f : Mm), OkJ Q (FX11_chanceOf_14  n x1 x2 x3 x5 f) → Ev G l MX11_chanceOf (Rm 4 0 0) (ZM G Q 0 0) 0 0 14 [some (vR 150), some (vI x1), some (vI x2), some (vJ x3), none, some (vI x5), none, none, none] [] (SH, RF, f) := by
  intro n
  induction n with
  | zero => intro x1 x2 x3 x5 f h; exact absurd h (by rw [FX11_chanceOf_14]; exact fun q => q)
  | succ n ih =>
    intro x1 x2 x3 x5 f h
    rw [FX11_chanceOf_14] at h
    refine ev_iload dX11_chanceOf_14 rfl ?_
    refine ev_iload_n (i := 1) dX11_chanceOf_16 rfl rfl ?_
    refine ev_icmp_gt (tgt := 38) dX11_chanceOf_17 (by decide) (fun c1 => ?_) (fun c1 => ?_)
    · rw [if_pos c1] at h
      refine ev_fg [true, true, true, true, true, false, true, true, true] rfl ?_
      exact SX11_chanceOf_38  x1 x2 x3 _ h
    · rw [if_neg c1] at h
      refine ev_aload_n (i := 0) dX11_chanceOf_20 rfl rfl ?_
      refine ev_dupR dX11_chanceOf_21 ?_
      refine ex_getJ (x := (f 150 52)) dX11_chanceOf_22 fl_X11_466 sh_150 (by decide) (by decide) rfl ?_
      refine ev_ldc2 (v := 10) dX11_chanceOf_25 (r64c rfl) kc_X11_469 ?_
      refine ev_lmul dX11_chanceOf_28 ?_
      refine ev_putJ dX11_chanceOf_29 fl_X11_466 sh_150 (by decide) (by decide) ?_
      refine ev_iinc (L' := [some (vR 150), some (vI x1), some (vI x2), some (vJ x3), none, some (vI (w32 (x5 + 1))), none, none, none]) dX11_chanceOf_32 rfl (by decide) rfl ?_
      refine ev_goto (tgt := 14) dX11_chanceOf_35 (by decide) ?_
      exact ih x1 x2 x3 (w32 (x5 + 1)) _ h
def FX11_chanceOf_0  (x1 : Int) (x2 : Int) (f : Mm) : Option (Int × Mm) := ((FX11_lays f).bind fun f1 => FX11_chanceOf_14 fu x1 x2 0 0 (up f1 150 52 1))
set_option maxHeartbeats 4000000 in
set_option maxRecDepth 100000 in
theorem SX11_chanceOf_0 {G : GT} {l : Launch} {Q : Option AV → Mem → Prop}  (x1 : Int) (x2 : Int) (f : Mm) (h : OkJ Q (FX11_chanceOf_0  x1 x2 f)) : Ev G l MX11_chanceOf (Rm 4 0 0) (ZM G Q 0 0) 0 0 0 [some (vR 150), some (vI x1), some (vI x2), none, none, none, none, none, none] [] (SH, RF, f) := by
  unfold FX11_chanceOf_0 at h
  refine ev_aload_n (i := 0) dX11_chanceOf_0 rfl rfl ?_
  refine ev_cVV (b := 150) (av := []) (S := []) (fun q => q) h dX11_chanceOf_1 (fun Q' q => TX11_lays _ q) kvX11_lays ml_X11_296 sh_150 rfl (RRc (by decide) (by decide)) (Nat.le_of_ble_eq_true rfl) ⟨Nat.le_of_ble_eq_true rfl, Nat.le_of_ble_eq_true rfl⟩ (fun f1 h => ?_)
  refine ev_lconst (v := 0) dX11_chanceOf_4 (r64c rfl) (by decide) ?_
  refine ev_lstore_n (i := 3) (L' := [some (vR 150), some (vI x1), some (vI x2), some (vJ 0), none, none, none, none, none]) dX11_chanceOf_5 rfl (by decide) rfl ?_
  refine ev_aload_n (i := 0) dX11_chanceOf_6 rfl rfl ?_
  refine ev_lconst (v := 1) dX11_chanceOf_7 (r64c rfl) (by decide) ?_
  refine ev_putJ dX11_chanceOf_8 fl_X11_466 sh_150 (by decide) (by decide) ?_
  refine ev_iconst dX11_chanceOf_11 (r32c rfl) ?_
  refine ev_istore (L' := [some (vR 150), some (vI x1), some (vI x2), some (vJ 0), none, some (vI 0), none, none, none]) dX11_chanceOf_12 (by decide) rfl ?_
  exact SX11_chanceOf_14  fu x1 x2 0 0 _ h
def FX11_chanceOf (x1 : Int) (x2 : Int) (f : Mm) : Option (Int × Mm) := FX11_chanceOf_0 x1 x2 f
set_option maxRecDepth 100000 in
theorem TX11_chanceOf {G : GT} {l : Launch} {Q : Option AV → Mem → Prop} (x1 : Int) (x2 : Int) (f : Mm) (h : OkJ Q (FX11_chanceOf x1 x2 f)) : Ret G l MX11_chanceOf (4) 0 0 [vR 150, vI x1, vI x2] (SH, RF, f) Q := by
  refine ret_of (L := [some (vR 150), some (vI x1), some (vI x2), none, none, none, none, none, none]) (by decide) rfl (Nat.le_of_ble_eq_true rfl) ?_
  exact SX11_chanceOf_0 x1 x2 f h
theorem dX11_common_0 : decode cX11_common 0 = .ok (.lload_n 2, 1) := by decide +kernel
theorem dX11_common_1 : decode cX11_common 1 = .ok (.lconst 0, 1) := by decide +kernel
theorem dX11_common_2 : decode cX11_common 2 = .ok (.lcmp, 1) := by decide +kernel
theorem dX11_common_3 : decode cX11_common 3 = .ok (.ifCond .ne 7, 3) := by decide +kernel
theorem dX11_common_10 : decode cX11_common 10 = .ok (.lload_n 2, 1) := by decide +kernel
theorem dX11_common_11 : decode cX11_common 11 = .ok (.lload_n 0, 1) := by decide +kernel
theorem dX11_common_12 : decode cX11_common 12 = .ok (.lload_n 2, 1) := by decide +kernel
theorem dX11_common_13 : decode cX11_common 13 = .ok (.lrem, 1) := by decide +kernel
theorem dX11_common_14 : decode cX11_common 14 = .ok (.invokestatic 462, 3) := by decide +kernel
theorem dX11_common_17 : decode cX11_common 17 = .ok (.lreturn, 1) := by decide +kernel
theorem dX11_common_6 : decode cX11_common 6 = .ok (.lload_n 0, 1) := by decide +kernel
theorem dX11_common_7 : decode cX11_common 7 = .ok (.goto 10, 3) := by decide +kernel
def FX11_common_0 (rc : Int → Int → Mm → Option (Int × Mm))  (x0 : Int) (x2 : Int) (f : Mm) : Option (Int × Mm) := (if (cmp3 x2 0) = 0 then some (x0, f) else (if x2 ≠ 0 then (b2 (rc x2 (lRem x0 x2) f) fun y2 f2 => some (y2, f2)) else none))
set_option maxHeartbeats 4000000 in
set_option maxRecDepth 100000 in
theorem SX11_common_0 {G : GT} {l : Launch} {Q : Option AV → Mem → Prop} {m0 : Nat} {rc : Int → Int → Mm → Option (Int × Mm)} (hrc : ∀ (y0 y1 : Int) (g : Mm) (Q' : Option AV → Mem → Prop), OkJ Q' (rc y0 y1 g) → Ret G l MX11_common (m0 + 0) 0 0 [vJ y0, vJ y1] (SH, RF, g) Q')  (x0 : Int) (x2 : Int) (f : Mm) (h : OkJ Q (FX11_common_0 rc  x0 x2 f)) : Ev G l MX11_common (Rm (m0 + 1) 0 0) (ZM G Q 0 0) 0 0 0 [some (vJ x0), none, some (vJ x2), none] [] (SH, RF, f) := by
  unfold FX11_common_0 at h
  refine ev_lload_n (i := 2) dX11_common_0 rfl rfl ?_
  refine ev_lconst (v := 0) dX11_common_1 (r64c rfl) (by decide) ?_
  refine ev_lcmp dX11_common_2 ?_
  refine ev_if_ne (tgt := 10) dX11_common_3 (by decide) (fun c3 => ?_) (fun c3 => ?_)
  · rw [if_neg c3] at h
    refine ev_lload_n (i := 2) dX11_common_10 rfl rfl ?_
    refine ev_lload_n (i := 0) dX11_common_11 rfl rfl ?_
    refine ev_lload_n (i := 2) dX11_common_12 rfl rfl ?_
    by_cases g1 : x2 ≠ 0
    · rw [if_pos g1] at h
      refine ev_lrem dX11_common_13 g1 ?_
      refine ev_cSJ (av := [vJ x2, vJ (lRem x0 x2)]) (S := []) (fun q => q) h dX11_common_14 (fun Q' q => hrc x2 (lRem x0 x2) _ Q' q) ksX11_common ml_X11_462 rfl (RRc (by omega) (by decide)) (Nat.le_of_ble_eq_true rfl) ⟨Nat.le_of_ble_eq_true rfl, Nat.le_of_ble_eq_true rfl⟩ (fun y2 f2 h => ?_)
      exact ev_lret rfl dX11_common_17 h
    · rw [if_neg g1] at h; exact h.elim
  · rw [if_pos c3] at h
    refine ev_lload_n (i := 0) dX11_common_6 rfl rfl ?_
    refine ev_goto (tgt := 17) dX11_common_7 (by decide) ?_
    exact ev_lret rfl dX11_common_17 h
def FX11_common (rc : Int → Int → Mm → Option (Int × Mm)) (x0 : Int) (x2 : Int) (f : Mm) : Option (Int × Mm) := FX11_common_0 rc x0 x2 f
set_option maxRecDepth 100000 in
theorem TX11_common {G : GT} {l : Launch} {Q : Option AV → Mem → Prop} {m0 : Nat} {rc : Int → Int → Mm → Option (Int × Mm)} (hrc : ∀ (y0 y1 : Int) (g : Mm) (Q' : Option AV → Mem → Prop), OkJ Q' (rc y0 y1 g) → Ret G l MX11_common (m0 + 0) 0 0 [vJ y0, vJ y1] (SH, RF, g) Q') (x0 : Int) (x2 : Int) (f : Mm) (h : OkJ Q (FX11_common rc x0 x2 f)) : Ret G l MX11_common ((m0 + 1)) 0 0 [vJ x0, vJ x2] (SH, RF, f) Q := by
  refine ret_of (L := [some (vJ x0), none, some (vJ x2), none]) (by decide) rfl (Nat.le_of_ble_eq_true rfl) ?_
  exact SX11_common_0 hrc x0 x2 f h
def FX11_commonR : Nat → Int → Int → Mm → Option (Int × Mm)
  | 0, _, _, _ => none
  | n + 1, y0, y1, g => FX11_common (FX11_commonR n) y0 y1 g
set_option maxRecDepth 100000 in
theorem TX11_commonR {G : GT} {l : Launch} : ∀ (n : Nat) (y0 y1 : Int) (g : Mm) (Q' : Option AV → Mem → Prop), OkJ Q' (FX11_commonR n y0 y1 g) → Ret G l MX11_common (n + 0) 0 0 [vJ y0, vJ y1] (SH, RF, g) Q'
  | 0, _, _, _, _, h => absurd h (fun q => q)
  | n + 1, y0, y1, g, Q', h => TX11_common (m0 := n) (hrc := TX11_commonR n) y0 y1 g h
theorem dX11_chance_54 : decode cX11_chance 54 = .ok (.lload 4, 2) := by decide +kernel
theorem dX11_chance_56 : decode cX11_chance 56 = .ok (.aload_n 0, 1) := by decide +kernel
theorem dX11_chance_57 : decode cX11_chance 57 = .ok (.getfield 466, 3) := by decide +kernel
theorem dX11_chance_60 : decode cX11_chance 60 = .ok (.invokestatic 462, 3) := by decide +kernel
theorem dX11_chance_63 : decode cX11_chance 63 = .ok (.ldiv, 1) := by decide +kernel
theorem dX11_chance_64 : decode cX11_chance 64 = .ok (.lreturn, 1) := by decide +kernel
theorem dX11_chance_0 : decode cX11_chance 0 = .ok (.aload_n 0, 1) := by decide +kernel
theorem dX11_chance_1 : decode cX11_chance 1 = .ok (.iconst 0, 1) := by decide +kernel
theorem dX11_chance_2 : decode cX11_chance 2 = .ok (.putfield 98, 3) := by decide +kernel
theorem dX11_chance_5 : decode cX11_chance 5 = .ok (.aload_n 0, 1) := by decide +kernel
theorem dX11_chance_6 : decode cX11_chance 6 = .ok (.iload_n 1, 1) := by decide +kernel
theorem dX11_chance_7 : decode cX11_chance 7 = .ok (.i2l, 1) := by decide +kernel
theorem dX11_chance_8 : decode cX11_chance 8 = .ok (.invokevirtual 324, 3) := by decide +kernel
theorem dX11_chance_11 : decode cX11_chance 11 = .ok (.ifCond .eq 18, 3) := by decide +kernel
theorem dX11_chance_29 : decode cX11_chance 29 = .ok (.ldc2_w 471, 3) := by decide +kernel
theorem dX11_chance_32 : decode cX11_chance 32 = .ok (.lreturn, 1) := by decide +kernel
theorem dX11_chance_14 : decode cX11_chance 14 = .ok (.aload_n 0, 1) := by decide +kernel
theorem dX11_chance_15 : decode cX11_chance 15 = .ok (.iload_n 2, 1) := by decide +kernel
theorem dX11_chance_16 : decode cX11_chance 16 = .ok (.invokevirtual 370, 3) := by decide +kernel
theorem dX11_chance_19 : decode cX11_chance 19 = .ok (.ifCond .eq 10, 3) := by decide +kernel
theorem dX11_chance_22 : decode cX11_chance 22 = .ok (.iload_n 3, 1) := by decide +kernel
theorem dX11_chance_23 : decode cX11_chance 23 = .ok (.invokestatic 321, 3) := by decide +kernel
theorem dX11_chance_26 : decode cX11_chance 26 = .ok (.ifCond .ne 7, 3) := by decide +kernel
theorem dX11_chance_33 : decode cX11_chance 33 = .ok (.aload_n 0, 1) := by decide +kernel
theorem dX11_chance_34 : decode cX11_chance 34 = .ok (.iload_n 1, 1) := by decide +kernel
theorem dX11_chance_35 : decode cX11_chance 35 = .ok (.iload_n 2, 1) := by decide +kernel
theorem dX11_chance_36 : decode cX11_chance 36 = .ok (.invokevirtual 473, 3) := by decide +kernel
theorem dX11_chance_39 : decode cX11_chance 39 = .ok (.lstore 4, 2) := by decide +kernel
theorem dX11_chance_41 : decode cX11_chance 41 = .ok (.iload_n 3, 1) := by decide +kernel
theorem dX11_chance_42 : decode cX11_chance 42 = .ok (.ifCond .ne 8, 3) := by decide +kernel
theorem dX11_chance_50 : decode cX11_chance 50 = .ok (.aload_n 0, 1) := by decide +kernel
theorem dX11_chance_51 : decode cX11_chance 51 = .ok (.getfield 466, 3) := by decide +kernel
theorem dX11_chance_45 : decode cX11_chance 45 = .ok (.lload 4, 2) := by decide +kernel
theorem dX11_chance_47 : decode cX11_chance 47 = .ok (.goto 7, 3) := by decide +kernel
def FX11_chance_54  (x4 : Int) (s0 : Int) (f : Mm) : Option (Int × Mm) := (b2 (FX11_commonR 64 x4 (f 150 52) f) fun y1 f1 => (if y1 ≠ 0 then some ((lDiv s0 y1), f1) else none))
set_option maxHeartbeats 4000000 in
set_option maxRecDepth 100000 in
theorem SX11_chance_54 {G : GT} {l : Launch} {Q : Option AV → Mem → Prop}  (x4 : Int) (s0 : Int) (f : Mm) (h : OkJ Q (FX11_chance_54  x4 s0 f)) : Ev G l MX11_chance (Rm 65 0 0) (ZM G Q 0 0) 0 0 54 [some (vR 150), none, none, none, some (vJ x4), none] [vJ s0] (SH, RF, f) := by
  unfold FX11_chance_54 at h
  refine ev_lload dX11_chance_54 rfl ?_
  refine ev_aload_n (i := 0) dX11_chance_56 rfl rfl ?_
  refine ex_getJ (x := (f 150 52)) dX11_chance_57 fl_X11_466 sh_150 (by decide) (by decide) rfl ?_
  refine ev_cSJ (av := [vJ x4, vJ (f 150 52)]) (S := [vJ s0]) (fun q => q) h dX11_chance_60 (fun Q' q => TX11_commonR 64 x4 (f 150 52) _ Q' q) ksX11_common ml_X11_462 rfl (RRc (by decide) (by decide)) (Nat.le_of_ble_eq_true rfl) ⟨Nat.le_of_ble_eq_true rfl, Nat.le_of_ble_eq_true rfl⟩ (fun y1 f1 h => ?_)
  by_cases g2 : y1 ≠ 0
  · rw [if_pos g2] at h
    refine ev_ldiv dX11_chance_63 g2 ?_
    exact ev_lret rfl dX11_chance_64 h
  · rw [if_neg g2] at h; exact h.elim
def FX11_chance_0  (x1 : Int) (x2 : Int) (x3 : Int) (f : Mm) : Option (Int × Mm) := (b2 (FX11_isDay x1 (up f 150 0 0)) fun y1 f1 => (if y1 = 0 then some ((-2), f1) else (b2 (FX11_isWidth x2 f1) fun y2 f2 => (if y2 = 0 then some ((-2), f2) else (b2 (FX11_isHalf x3 f2) fun y3 f3 => (if y3 = 0 then some ((-2), f3) else (b2 (FX11_chanceOf x1 x2 f3) fun y4 f4 => (if x3 = 0 then FX11_chance_54 y4 y4 f4 else FX11_chance_54 y4 (f4 150 52) f4))))))))
set_option maxHeartbeats 4000000 in
set_option maxRecDepth 100000 in
theorem SX11_chance_0 {G : GT} {l : Launch} {Q : Option AV → Mem → Prop}  (x1 : Int) (x2 : Int) (x3 : Int) (f : Mm) (h : OkJ Q (FX11_chance_0  x1 x2 x3 f)) : Ev G l MX11_chance (Rm 65 0 0) (ZM G Q 0 0) 0 0 0 [some (vR 150), some (vI x1), some (vI x2), some (vI x3), none, none] [] (SH, RF, f) := by
  unfold FX11_chance_0 at h
  refine ev_aload_n (i := 0) dX11_chance_0 rfl rfl ?_
  refine ev_iconst dX11_chance_1 (r32c rfl) ?_
  refine ev_putI dX11_chance_2 fl_X11_98 sh_150 (by decide) (by decide) ?_
  refine ev_aload_n (i := 0) dX11_chance_5 rfl rfl ?_
  refine ev_iload_n (i := 1) dX11_chance_6 rfl rfl ?_
  refine ev_i2l dX11_chance_7 ?_
  refine ev_cVI (b := 150) (av := [vJ x1]) (S := []) (fun q => q) h dX11_chance_8 (fun Q' q => TX11_isDay x1 _ q) kvX11_isDay ml_X11_324 sh_150 rfl (RRc (by decide) (by decide)) (Nat.le_of_ble_eq_true rfl) ⟨Nat.le_of_ble_eq_true rfl, Nat.le_of_ble_eq_true rfl⟩ (fun y1 f1 h => ?_)
  refine ev_if_eq (tgt := 29) dX11_chance_11 (by decide) (fun c8 => ?_) (fun c8 => ?_)
  · rw [if_pos c8] at h
    refine ev_ldc2 (v := (-2)) dX11_chance_29 (r64c rfl) kc_X11_471 ?_
    exact ev_lret rfl dX11_chance_32 h
  · rw [if_neg c8] at h
    refine ev_aload_n (i := 0) dX11_chance_14 rfl rfl ?_
    refine ev_iload_n (i := 2) dX11_chance_15 rfl rfl ?_
    refine ev_cVI (b := 150) (av := [vI x2]) (S := []) (fun q => q) h dX11_chance_16 (fun Q' q => TX11_isWidth x2 _ q) kvX11_isWidth ml_X11_370 sh_150 rfl (RRc (by decide) (by decide)) (Nat.le_of_ble_eq_true rfl) ⟨Nat.le_of_ble_eq_true rfl, Nat.le_of_ble_eq_true rfl⟩ (fun y2 f2 h => ?_)
    refine ev_if_eq (tgt := 29) dX11_chance_19 (by decide) (fun c7 => ?_) (fun c7 => ?_)
    · rw [if_pos c7] at h
      refine ev_ldc2 (v := (-2)) dX11_chance_29 (r64c rfl) kc_X11_471 ?_
      exact ev_lret rfl dX11_chance_32 h
    · rw [if_neg c7] at h
      refine ev_iload_n (i := 3) dX11_chance_22 rfl rfl ?_
      refine ev_cSI (av := [vI x3]) (S := []) (fun q => q) h dX11_chance_23 (fun Q' q => TX11_isHalf x3 _ q) ksX11_isHalf ml_X11_321 rfl (RRc (by decide) (by decide)) (Nat.le_of_ble_eq_true rfl) ⟨Nat.le_of_ble_eq_true rfl, Nat.le_of_ble_eq_true rfl⟩ (fun y3 f3 h => ?_)
      refine ev_if_ne (tgt := 33) dX11_chance_26 (by decide) (fun c6 => ?_) (fun c6 => ?_)
      · rw [if_neg c6] at h
        refine ev_aload_n (i := 0) dX11_chance_33 rfl rfl ?_
        refine ev_iload_n (i := 1) dX11_chance_34 rfl rfl ?_
        refine ev_iload_n (i := 2) dX11_chance_35 rfl rfl ?_
        refine ev_cVJ (b := 150) (av := [vI x1, vI x2]) (S := []) (fun q => q) h dX11_chance_36 (fun Q' q => TX11_chanceOf x1 x2 _ q) kvX11_chanceOf ml_X11_473 sh_150 rfl (RRc (by decide) (by decide)) (Nat.le_of_ble_eq_true rfl) ⟨Nat.le_of_ble_eq_true rfl, Nat.le_of_ble_eq_true rfl⟩ (fun y4 f4 h => ?_)
        refine ev_lstore (L' := [some (vR 150), some (vI x1), some (vI x2), some (vI x3), some (vJ y4), none]) dX11_chance_39 (by decide) rfl ?_
        refine ev_iload_n (i := 3) dX11_chance_41 rfl rfl ?_
        refine ev_if_ne (tgt := 50) dX11_chance_42 (by decide) (fun c5 => ?_) (fun c5 => ?_)
        · rw [if_neg c5] at h
          refine ev_aload_n (i := 0) dX11_chance_50 rfl rfl ?_
          refine ex_getJ (x := (f4 150 52)) dX11_chance_51 fl_X11_466 sh_150 (by decide) (by decide) rfl ?_
          refine ev_fg [true, false, false, false, true, true] rfl ?_
          exact SX11_chance_54  y4 (f4 150 52) _ h
        · rw [if_pos c5] at h
          refine ev_lload dX11_chance_45 rfl ?_
          refine ev_goto (tgt := 54) dX11_chance_47 (by decide) ?_
          refine ev_fg [true, false, false, false, true, true] rfl ?_
          exact SX11_chance_54  y4 y4 _ h
      · rw [if_pos c6] at h
        refine ev_ldc2 (v := (-2)) dX11_chance_29 (r64c rfl) kc_X11_471 ?_
        exact ev_lret rfl dX11_chance_32 h
def FX11_chance (x1 : Int) (x2 : Int) (x3 : Int) (f : Mm) : Option (Int × Mm) := FX11_chance_0 x1 x2 x3 f
set_option maxRecDepth 100000 in
theorem TX11_chance {G : GT} {l : Launch} {Q : Option AV → Mem → Prop} (x1 : Int) (x2 : Int) (x3 : Int) (f : Mm) (h : OkJ Q (FX11_chance x1 x2 x3 f)) : Ret G l MX11_chance (65) 0 0 [vR 150, vI x1, vI x2, vI x3] (SH, RF, f) Q := by
  refine ret_of (L := [some (vR 150), some (vI x1), some (vI x2), some (vI x3), none, none]) (by decide) rfl (Nat.le_of_ble_eq_true rfl) ?_
  exact SX11_chance_0 x1 x2 x3 f h
theorem dX11_when_74 : decode cX11_when 74 = .ok (.iinc 7 1, 3) := by decide +kernel
theorem dX11_when_77 : decode cX11_when 77 = .ok (.goto (-51), 3) := by decide +kernel
theorem dX11_when_26 : decode cX11_when 26 = .ok (.iload 7, 2) := by decide +kernel
theorem dX11_when_28 : decode cX11_when 28 = .ok (.aload_n 0, 1) := by decide +kernel
theorem dX11_when_29 : decode cX11_when 29 = .ok (.invokevirtual 266, 3) := by decide +kernel
theorem dX11_when_32 : decode cX11_when 32 = .ok (.if_icmp .ge 48, 3) := by decide +kernel
theorem dX11_when_80 : decode cX11_when 80 = .ok (.iload_n 2, 1) := by decide +kernel
theorem dX11_when_81 : decode cX11_when 81 = .ok (.ireturn, 1) := by decide +kernel
theorem dX11_when_35 : decode cX11_when 35 = .ok (.aload_n 0, 1) := by decide +kernel
theorem dX11_when_36 : decode cX11_when 36 = .ok (.iload 7, 2) := by decide +kernel
theorem dX11_when_38 : decode cX11_when 38 = .ok (.iload_n 1, 1) := by decide +kernel
theorem dX11_when_39 : decode cX11_when 39 = .ok (.invokevirtual 473, 3) := by decide +kernel
theorem dX11_when_42 : decode cX11_when 42 = .ok (.lstore 8, 2) := by decide +kernel
theorem dX11_when_44 : decode cX11_when 44 = .ok (.lload 8, 2) := by decide +kernel
theorem dX11_when_46 : decode cX11_when 46 = .ok (.lload 5, 2) := by decide +kernel
theorem dX11_when_48 : decode cX11_when 48 = .ok (.lmul, 1) := by decide +kernel
theorem dX11_when_49 : decode cX11_when 49 = .ok (.lload_n 3, 1) := by decide +kernel
theorem dX11_when_50 : decode cX11_when 50 = .ok (.aload_n 0, 1) := by decide +kernel
theorem dX11_when_51 : decode cX11_when 51 = .ok (.getfield 466, 3) := by decide +kernel
theorem dX11_when_54 : decode cX11_when 54 = .ok (.lmul, 1) := by decide +kernel
theorem dX11_when_55 : decode cX11_when 55 = .ok (.lcmp, 1) := by decide +kernel
theorem dX11_when_56 : decode cX11_when 56 = .ok (.ifCond .gt 6, 3) := by decide +kernel
theorem dX11_when_62 : decode cX11_when 62 = .ok (.iload 7, 2) := by decide +kernel
theorem dX11_when_64 : decode cX11_when 64 = .ok (.istore_n 2, 1) := by decide +kernel
theorem dX11_when_65 : decode cX11_when 65 = .ok (.lload 8, 2) := by decide +kernel
theorem dX11_when_67 : decode cX11_when 67 = .ok (.lstore_n 3, 1) := by decide +kernel
theorem dX11_when_68 : decode cX11_when 68 = .ok (.aload_n 0, 1) := by decide +kernel
theorem dX11_when_69 : decode cX11_when 69 = .ok (.getfield 466, 3) := by decide +kernel
theorem dX11_when_72 : decode cX11_when 72 = .ok (.lstore 5, 2) := by decide +kernel
theorem dX11_when_59 : decode cX11_when 59 = .ok (.goto 15, 3) := by decide +kernel
theorem dX11_when_0 : decode cX11_when 0 = .ok (.aload_n 0, 1) := by decide +kernel
theorem dX11_when_1 : decode cX11_when 1 = .ok (.iconst 0, 1) := by decide +kernel
theorem dX11_when_2 : decode cX11_when 2 = .ok (.putfield 98, 3) := by decide +kernel
theorem dX11_when_5 : decode cX11_when 5 = .ok (.aload_n 0, 1) := by decide +kernel
theorem dX11_when_6 : decode cX11_when 6 = .ok (.iload_n 1, 1) := by decide +kernel
theorem dX11_when_7 : decode cX11_when 7 = .ok (.invokevirtual 370, 3) := by decide +kernel
theorem dX11_when_10 : decode cX11_when 10 = .ok (.ifCond .ne 6, 3) := by decide +kernel
theorem dX11_when_16 : decode cX11_when 16 = .ok (.iconst (-1), 1) := by decide +kernel
theorem dX11_when_17 : decode cX11_when 17 = .ok (.istore_n 2, 1) := by decide +kernel
theorem dX11_when_18 : decode cX11_when 18 = .ok (.lconst 0, 1) := by decide +kernel
theorem dX11_when_19 : decode cX11_when 19 = .ok (.lstore_n 3, 1) := by decide +kernel
theorem dX11_when_20 : decode cX11_when 20 = .ok (.lconst 1, 1) := by decide +kernel
theorem dX11_when_21 : decode cX11_when 21 = .ok (.lstore 5, 2) := by decide +kernel
theorem dX11_when_23 : decode cX11_when 23 = .ok (.iconst 0, 1) := by decide +kernel
theorem dX11_when_24 : decode cX11_when 24 = .ok (.istore 7, 2) := by decide +kernel
theorem dX11_when_13 : decode cX11_when 13 = .ok (.bipush (-2), 2) := by decide +kernel
theorem dX11_when_15 : decode cX11_when 15 = .ok (.ireturn, 1) := by decide +kernel
def FX11_when_74 (k26 : Int → Int → Int → Int → Int → Mm → Option (Int × Mm)) (x1 : Int) (x2 : Int) (x3 : Int) (x5 : Int) (x7 : Int) (f : Mm) : Option (Int × Mm) := k26 x1 x2 x3 x5 (w32 (x7 + 1)) f
set_option maxHeartbeats 4000000 in
set_option maxRecDepth 100000 in
theorem SX11_when_74 {G : GT} {l : Launch} {Q : Option AV → Mem → Prop} {k26 : Int → Int → Int → Int → Int → Mm → Option (Int × Mm)} (q26 : ∀ (x1 : Int) (x2 : Int) (x3 : Int) (x5 : Int) (x7 : Int) (f : Mm), OkI Q (k26 x1 x2 x3 x5 x7 f) → Ev G l MX11_when (Rm 5 0 0) (ZM G Q 0 0) 0 0 26 [some (vR 150), some (vI x1), some (vI x2), some (vJ x3), none, some (vJ x5), none, some (vI x7), none, none] [] (SH, RF, f)) (x1 : Int) (x2 : Int) (x3 : Int) (x5 : Int) (x7 : Int) (f : Mm) (h : OkI Q (FX11_when_74 k26 x1 x2 x3 x5 x7 f)) : Ev G l MX11_when (Rm 5 0 0) (ZM G Q 0 0) 0 0 74 [some (vR 150), some (vI x1), some (vI x2), some (vJ x3), none, some (vJ x5), none, some (vI x7), none, none] [] (SH, RF, f) := by
  unfold FX11_when_74 at h
  refine ev_iinc (L' := [some (vR 150), some (vI x1), some (vI x2), some (vJ x3), none, some (vJ x5), none, some (vI (w32 (x7 + 1))), none, none]) dX11_when_74 rfl (by decide) rfl ?_
  refine ev_goto (tgt := 26) dX11_when_77 (by decide) ?_
  exact q26 x1 x2 x3 x5 (w32 (x7 + 1)) _ h
def FX11_when_26  : Nat → Int → Int → Int → Int → Int → Mm → Option (Int × Mm)
  | 0, _, _, _, _, _, _ => none
  | n + 1, x1, x2, x3, x5, x7, f => (b2 (FX11_days f) fun y1 f1 => (if y1 ≤ x7 then some (x2, f1) else (b2 (FX11_chanceOf x7 x1 f1) fun y2 f2 => (if 0 < (cmp3 (w64 (y2 * x5)) (w64 (x3 * (f2 150 52)))) then FX11_when_74 (FX11_when_26 n) x1 x7 y2 (f2 150 52) x7 f2 else FX11_when_74 (FX11_when_26 n) x1 x2 x3 x5 x7 f2))))
set_option maxHeartbeats 4000000 in
set_option maxRecDepth 100000 in
theorem SX11_when_26 {G : GT} {l : Launch} {Q : Option AV → Mem → Prop}  : ∀ (n : Nat) (x1 : Int) (x2 : Int) (x3 : Int) (x5 : Int) (x7 : Int) (f : Mm), OkI Q (FX11_when_26  n x1 x2 x3 x5 x7 f) → Ev G l MX11_when (Rm 5 0 0) (ZM G Q 0 0) 0 0 26 [some (vR 150), some (vI x1), some (vI x2), some (vJ x3), none, some (vJ x5), none, some (vI x7), none, none] [] (SH, RF, f) := by
  intro n
  induction n with
  | zero => intro x1 x2 x3 x5 x7 f h; exact absurd h (by rw [FX11_when_26]; exact fun q => q)
  | succ n ih =>
    intro x1 x2 x3 x5 x7 f h
    rw [FX11_when_26] at h
    refine ev_iload dX11_when_26 rfl ?_
    refine ev_aload_n (i := 0) dX11_when_28 rfl rfl ?_
    refine ev_cVI (b := 150) (av := []) (S := [vI x7]) (fun q => q) h dX11_when_29 (fun Q' q => TX11_days _ q) kvX11_days ml_X11_266 sh_150 rfl (RRc (by decide) (by decide)) (Nat.le_of_ble_eq_true rfl) ⟨Nat.le_of_ble_eq_true rfl, Nat.le_of_ble_eq_true rfl⟩ (fun y1 f1 h => ?_)
    refine ev_icmp_ge (tgt := 80) dX11_when_32 (by decide) (fun c4 => ?_) (fun c4 => ?_)
    · rw [if_pos c4] at h
      refine ev_iload_n (i := 2) dX11_when_80 rfl rfl ?_
      exact ev_iret rfl dX11_when_81 h
    · rw [if_neg c4] at h
      refine ev_aload_n (i := 0) dX11_when_35 rfl rfl ?_
      refine ev_iload dX11_when_36 rfl ?_
      refine ev_iload_n (i := 1) dX11_when_38 rfl rfl ?_
      refine ev_cVJ (b := 150) (av := [vI x7, vI x1]) (S := []) (fun q => q) h dX11_when_39 (fun Q' q => TX11_chanceOf x7 x1 _ q) kvX11_chanceOf ml_X11_473 sh_150 rfl (RRc (by decide) (by decide)) (Nat.le_of_ble_eq_true rfl) ⟨Nat.le_of_ble_eq_true rfl, Nat.le_of_ble_eq_true rfl⟩ (fun y2 f2 h => ?_)
      refine ev_lstore (L' := [some (vR 150), some (vI x1), some (vI x2), some (vJ x3), none, some (vJ x5), none, some (vI x7), some (vJ y2), none]) dX11_when_42 (by decide) rfl ?_
      refine ev_lload dX11_when_44 rfl ?_
      refine ev_lload dX11_when_46 rfl ?_
      refine ev_lmul dX11_when_48 ?_
      refine ev_lload_n (i := 3) dX11_when_49 rfl rfl ?_
      refine ev_aload_n (i := 0) dX11_when_50 rfl rfl ?_
      refine ex_getJ (x := (f2 150 52)) dX11_when_51 fl_X11_466 sh_150 (by decide) (by decide) rfl ?_
      refine ev_lmul dX11_when_54 ?_
      refine ev_lcmp dX11_when_55 ?_
      refine ev_if_gt (tgt := 62) dX11_when_56 (by decide) (fun c3 => ?_) (fun c3 => ?_)
      · rw [if_pos c3] at h
        refine ev_iload dX11_when_62 rfl ?_
        refine ev_istore_n (i := 2) (L' := [some (vR 150), some (vI x1), some (vI x7), some (vJ x3), none, some (vJ x5), none, some (vI x7), some (vJ y2), none]) dX11_when_64 rfl (by decide) rfl ?_
        refine ev_lload dX11_when_65 rfl ?_
        refine ev_lstore_n (i := 3) (L' := [some (vR 150), some (vI x1), some (vI x7), some (vJ y2), none, some (vJ x5), none, some (vI x7), some (vJ y2), none]) dX11_when_67 rfl (by decide) rfl ?_
        refine ev_aload_n (i := 0) dX11_when_68 rfl rfl ?_
        refine ex_getJ (x := (f2 150 52)) dX11_when_69 fl_X11_466 sh_150 (by decide) (by decide) rfl ?_
        refine ev_lstore (L' := [some (vR 150), some (vI x1), some (vI x7), some (vJ y2), none, some (vJ (f2 150 52)), none, some (vI x7), some (vJ y2), none]) dX11_when_72 (by decide) rfl ?_
        refine ev_fg [true, true, true, true, true, true, true, true, false, true] rfl ?_
        exact SX11_when_74 ih x1 x7 y2 (f2 150 52) x7 _ h
      · rw [if_neg c3] at h
        refine ev_goto (tgt := 74) dX11_when_59 (by decide) ?_
        refine ev_fg [true, true, true, true, true, true, true, true, false, true] rfl ?_
        exact SX11_when_74 ih x1 x2 x3 x5 x7 _ h
def FX11_when_0  (x1 : Int) (f : Mm) : Option (Int × Mm) := (b2 (FX11_isWidth x1 (up f 150 0 0)) fun y1 f1 => (if y1 = 0 then some ((-2), f1) else FX11_when_26 fu x1 (-1) 0 1 0 f1))
set_option maxHeartbeats 4000000 in
set_option maxRecDepth 100000 in
theorem SX11_when_0 {G : GT} {l : Launch} {Q : Option AV → Mem → Prop}  (x1 : Int) (f : Mm) (h : OkI Q (FX11_when_0  x1 f)) : Ev G l MX11_when (Rm 5 0 0) (ZM G Q 0 0) 0 0 0 [some (vR 150), some (vI x1), none, none, none, none, none, none, none, none] [] (SH, RF, f) := by
  unfold FX11_when_0 at h
  refine ev_aload_n (i := 0) dX11_when_0 rfl rfl ?_
  refine ev_iconst dX11_when_1 (r32c rfl) ?_
  refine ev_putI dX11_when_2 fl_X11_98 sh_150 (by decide) (by decide) ?_
  refine ev_aload_n (i := 0) dX11_when_5 rfl rfl ?_
  refine ev_iload_n (i := 1) dX11_when_6 rfl rfl ?_
  refine ev_cVI (b := 150) (av := [vI x1]) (S := []) (fun q => q) h dX11_when_7 (fun Q' q => TX11_isWidth x1 _ q) kvX11_isWidth ml_X11_370 sh_150 rfl (RRc (by decide) (by decide)) (Nat.le_of_ble_eq_true rfl) ⟨Nat.le_of_ble_eq_true rfl, Nat.le_of_ble_eq_true rfl⟩ (fun y1 f1 h => ?_)
  refine ev_if_ne (tgt := 16) dX11_when_10 (by decide) (fun c2 => ?_) (fun c2 => ?_)
  · rw [if_neg c2] at h
    refine ev_iconst dX11_when_16 (r32c rfl) ?_
    refine ev_istore_n (i := 2) (L' := [some (vR 150), some (vI x1), some (vI (-1)), none, none, none, none, none, none, none]) dX11_when_17 rfl (by decide) rfl ?_
    refine ev_lconst (v := 0) dX11_when_18 (r64c rfl) (by decide) ?_
    refine ev_lstore_n (i := 3) (L' := [some (vR 150), some (vI x1), some (vI (-1)), some (vJ 0), none, none, none, none, none, none]) dX11_when_19 rfl (by decide) rfl ?_
    refine ev_lconst (v := 1) dX11_when_20 (r64c rfl) (by decide) ?_
    refine ev_lstore (L' := [some (vR 150), some (vI x1), some (vI (-1)), some (vJ 0), none, some (vJ 1), none, none, none, none]) dX11_when_21 (by decide) rfl ?_
    refine ev_iconst dX11_when_23 (r32c rfl) ?_
    refine ev_istore (L' := [some (vR 150), some (vI x1), some (vI (-1)), some (vJ 0), none, some (vJ 1), none, some (vI 0), none, none]) dX11_when_24 (by decide) rfl ?_
    exact SX11_when_26  fu x1 (-1) 0 1 0 _ h
  · rw [if_pos c2] at h
    refine ev_bipush (v := (-2)) dX11_when_13 (r32c rfl) (by decide) ?_
    exact ev_iret rfl dX11_when_15 h
def FX11_when (x1 : Int) (f : Mm) : Option (Int × Mm) := FX11_when_0 x1 f
set_option maxRecDepth 100000 in
theorem TX11_when {G : GT} {l : Launch} {Q : Option AV → Mem → Prop} (x1 : Int) (f : Mm) (h : OkI Q (FX11_when x1 f)) : Ret G l MX11_when (5) 0 0 [vR 150, vI x1] (SH, RF, f) Q := by
  refine ret_of (L := [some (vR 150), some (vI x1), none, none, none, none, none, none, none, none]) (by decide) rfl (Nat.le_of_ble_eq_true rfl) ?_
  exact SX11_when_0 x1 f h

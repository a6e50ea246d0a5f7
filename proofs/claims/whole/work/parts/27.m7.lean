theorem dX4_isWord_28 : decode cX4_isWord 28 = .ok (.iload_n 2, 1) := by decide +kernel
theorem dX4_isWord_29 : decode cX4_isWord 29 = .ok (.aload_n 1, 1) := by decide +kernel
theorem dX4_isWord_30 : decode cX4_isWord 30 = .ok (.invokevirtual 133, 3) := by decide +kernel
theorem dX4_isWord_33 : decode cX4_isWord 33 = .ok (.if_icmp .ge 29, 3) := by decide +kernel
theorem dX4_isWord_62 : decode cX4_isWord 62 = .ok (.iconst 1, 1) := by decide +kernel
theorem dX4_isWord_63 : decode cX4_isWord 63 = .ok (.ireturn, 1) := by decide +kernel
theorem dX4_isWord_36 : decode cX4_isWord 36 = .ok (.aload_n 0, 1) := by decide +kernel
theorem dX4_isWord_37 : decode cX4_isWord 37 = .ok (.aload_n 0, 1) := by decide +kernel
theorem dX4_isWord_38 : decode cX4_isWord 38 = .ok (.getfield 130, 3) := by decide +kernel
theorem dX4_isWord_41 : decode cX4_isWord 41 = .ok (.iload_n 2, 1) := by decide +kernel
theorem dX4_isWord_42 : decode cX4_isWord 42 = .ok (.iadd, 1) := by decide +kernel
theorem dX4_isWord_43 : decode cX4_isWord 43 = .ok (.invokevirtual 139, 3) := by decide +kernel
theorem dX4_isWord_46 : decode cX4_isWord 46 = .ok (.aload_n 1, 1) := by decide +kernel
theorem dX4_isWord_47 : decode cX4_isWord 47 = .ok (.iload_n 2, 1) := by decide +kernel
theorem dX4_isWord_48 : decode cX4_isWord 48 = .ok (.invokevirtual 143, 3) := by decide +kernel
theorem dX4_isWord_51 : decode cX4_isWord 51 = .ok (.if_icmp .eq 5, 3) := by decide +kernel
theorem dX4_isWord_56 : decode cX4_isWord 56 = .ok (.iinc 2 1, 3) := by decide +kernel
theorem dX4_isWord_59 : decode cX4_isWord 59 = .ok (.goto (-31), 3) := by decide +kernel
theorem dX4_isWord_54 : decode cX4_isWord 54 = .ok (.iconst 0, 1) := by decide +kernel
theorem dX4_isWord_55 : decode cX4_isWord 55 = .ok (.ireturn, 1) := by decide +kernel
theorem dX4_isWord_0 : decode cX4_isWord 0 = .ok (.aload_n 0, 1) := by decide +kernel
theorem dX4_isWord_1 : decode cX4_isWord 1 = .ok (.getfield 36, 3) := by decide +kernel
theorem dX4_isWord_4 : decode cX4_isWord 4 = .ok (.iconst 1, 1) := by decide +kernel
theorem dX4_isWord_5 : decode cX4_isWord 5 = .ok (.if_icmp .ne 19, 3) := by decide +kernel
theorem dX4_isWord_24 : decode cX4_isWord 24 = .ok (.iconst 0, 1) := by decide +kernel
theorem dX4_isWord_25 : decode cX4_isWord 25 = .ok (.ireturn, 1) := by decide +kernel
theorem dX4_isWord_8 : decode cX4_isWord 8 = .ok (.aload_n 0, 1) := by decide +kernel
theorem dX4_isWord_9 : decode cX4_isWord 9 = .ok (.getfield 25, 3) := by decide +kernel
theorem dX4_isWord_12 : decode cX4_isWord 12 = .ok (.aload_n 0, 1) := by decide +kernel
theorem dX4_isWord_13 : decode cX4_isWord 13 = .ok (.getfield 130, 3) := by decide +kernel
theorem dX4_isWord_16 : decode cX4_isWord 16 = .ok (.isub, 1) := by decide +kernel
theorem dX4_isWord_17 : decode cX4_isWord 17 = .ok (.aload_n 1, 1) := by decide +kernel
theorem dX4_isWord_18 : decode cX4_isWord 18 = .ok (.invokevirtual 133, 3) := by decide +kernel
theorem dX4_isWord_21 : decode cX4_isWord 21 = .ok (.if_icmp .eq 5, 3) := by decide +kernel
theorem dX4_isWord_26 : decode cX4_isWord 26 = .ok (.iconst 0, 1) := by decide +kernel
theorem dX4_isWord_27 : decode cX4_isWord 27 = .ok (.istore_n 2, 1) := by decide +kernel
def FX4_isWord_28  : Nat → Nat → Int → Mm → Option (Int × Mm)
  | 0, _, _, _ => none
  | n + 1, a1, x2, f => (if isS a1 = true then (if ((slen a1 : Nat) : Int) ≤ x2 then some (1, f) else (b2 (FX4_byteAt (w32 ((f 1 4) + x2)) f) fun y2 f2 => (if isS a1 = true ∧ 0 ≤ x2 ∧ x2 < slen a1 then (if y2 = (sch a1 x2.toNat) then FX4_isWord_28 n a1 (w32 (x2 + 1)) f2 else some (0, f2)) else none))) else none)
set_option maxHeartbeats 4000000 in
set_option maxRecDepth 100000 in
theorem SX4_isWord_28 {G : GT} {l : Launch} {Q : Option AV → Mem → Prop}  : ∀ (n : Nat) (a1 : Nat) (x2 : Int) (f : Mm), OkI Q (FX4_isWord_28  n a1 x2 f) → Ev G l MX4_isWord (Rm 5 0 0) (ZM G Q 0 0) 0 0 28 [some (vR 1), some (vR a1), some (vI x2)] [] (SH, RF, f) := by
  intro n
  induction n with
  | zero => intro a1 x2 f h; exact absurd h (by rw [FX4_isWord_28]; exact fun q => q)
  | succ n ih =>
    intro a1 x2 f h
    rw [FX4_isWord_28] at h
    refine ev_iload_n (i := 2) dX4_isWord_28 rfl rfl ?_
    refine ev_aload_n (i := 1) dX4_isWord_29 rfl rfl ?_
    by_cases g1 : isS a1 = true
    · rw [if_pos g1] at h
      refine ev_slen2 dX4_isWord_30 ml_X4_133 g1 (RRc (by decide) (by decide)) (Nat.le_of_ble_eq_true rfl) ?_
      refine ev_icmp_ge (tgt := 62) dX4_isWord_33 (by decide) (fun c5 => ?_) (fun c5 => ?_)
      · rw [if_pos c5] at h
        refine ev_iconst dX4_isWord_62 (r32c rfl) ?_
        exact ev_zret rfl (by decide) dX4_isWord_63 h
      · rw [if_neg c5] at h
        refine ev_aload_n (i := 0) dX4_isWord_36 rfl rfl ?_
        refine ev_aload_n (i := 0) dX4_isWord_37 rfl rfl ?_
        refine ex_getI (x := (f 1 4)) dX4_isWord_38 fl_X4_130 sh_1 (by decide) (by decide) rfl ?_
        refine ev_iload_n (i := 2) dX4_isWord_41 rfl rfl ?_
        refine ev_iadd dX4_isWord_42 ?_
        refine ev_cVI (b := 1) (av := [vI (w32 ((f 1 4) + x2))]) (S := []) (fun q => q) h dX4_isWord_43 (fun Q' q => TX4_byteAt (w32 ((f 1 4) + x2)) _ q) kvX4_byteAt ml_X4_139 sh_1 rfl (RRc (by decide) (by decide)) (Nat.le_of_ble_eq_true rfl) ⟨Nat.le_of_ble_eq_true rfl, Nat.le_of_ble_eq_true rfl⟩ (fun y2 f2 h => ?_)
        refine ev_aload_n (i := 1) dX4_isWord_46 rfl rfl ?_
        refine ev_iload_n (i := 2) dX4_isWord_47 rfl rfl ?_
        by_cases g3 : isS a1 = true ∧ 0 ≤ x2 ∧ x2 < slen a1
        · rw [if_pos g3] at h
          refine ev_scha dX4_isWord_48 ml_X4_143 g3.1 g3.2.1 g3.2.2 (RRc (by decide) (by decide)) (Nat.le_of_ble_eq_true rfl) ?_
          refine ev_icmp_eq (tgt := 56) dX4_isWord_51 (by decide) (fun c4 => ?_) (fun c4 => ?_)
          · rw [if_pos c4] at h
            refine ev_iinc (L' := [some (vR 1), some (vR a1), some (vI (w32 (x2 + 1)))]) dX4_isWord_56 rfl (by decide) rfl ?_
            refine ev_goto (tgt := 28) dX4_isWord_59 (by decide) ?_
            exact ih a1 (w32 (x2 + 1)) _ h
          · rw [if_neg c4] at h
            refine ev_iconst dX4_isWord_54 (r32c rfl) ?_
            exact ev_zret rfl (by decide) dX4_isWord_55 h
        · rw [if_neg g3] at h; exact h.elim
    · rw [if_neg g1] at h; exact h.elim
def FX4_isWord_0  (a1 : Nat) (f : Mm) : Option (Int × Mm) := (if (f 1 3) = 1 then (if isS a1 = true then (if (w32 ((f 1 5) - (f 1 4))) = ((slen a1 : Nat) : Int) then FX4_isWord_28 fu a1 0 f else some (0, f)) else none) else some (0, f))
set_option maxHeartbeats 4000000 in
set_option maxRecDepth 100000 in
theorem SX4_isWord_0 {G : GT} {l : Launch} {Q : Option AV → Mem → Prop}  (a1 : Nat) (f : Mm) (h : OkI Q (FX4_isWord_0  a1 f)) : Ev G l MX4_isWord (Rm 5 0 0) (ZM G Q 0 0) 0 0 0 [some (vR 1), some (vR a1), none] [] (SH, RF, f) := by
  unfold FX4_isWord_0 at h
  refine ev_aload_n (i := 0) dX4_isWord_0 rfl rfl ?_
  refine ex_getI (x := (f 1 3)) dX4_isWord_1 fl_X4_36 sh_1 (by decide) (by decide) rfl ?_
  refine ev_iconst dX4_isWord_4 (r32c rfl) ?_
  refine ev_icmp_ne (tgt := 24) dX4_isWord_5 (by decide) (fun c3 => ?_) (fun c3 => ?_)
  · rw [if_neg c3] at h
    refine ev_iconst dX4_isWord_24 (r32c rfl) ?_
    exact ev_zret rfl (by decide) dX4_isWord_25 h
  · rw [if_pos c3] at h
    refine ev_aload_n (i := 0) dX4_isWord_8 rfl rfl ?_
    refine ex_getI (x := (f 1 5)) dX4_isWord_9 fl_X4_25 sh_1 (by decide) (by decide) rfl ?_
    refine ev_aload_n (i := 0) dX4_isWord_12 rfl rfl ?_
    refine ex_getI (x := (f 1 4)) dX4_isWord_13 fl_X4_130 sh_1 (by decide) (by decide) rfl ?_
    refine ev_isub dX4_isWord_16 ?_
    refine ev_aload_n (i := 1) dX4_isWord_17 rfl rfl ?_
    by_cases g1 : isS a1 = true
    · rw [if_pos g1] at h
      refine ev_slen2 dX4_isWord_18 ml_X4_133 g1 (RRc (by decide) (by decide)) (Nat.le_of_ble_eq_true rfl) ?_
      refine ev_icmp_eq (tgt := 26) dX4_isWord_21 (by decide) (fun c2 => ?_) (fun c2 => ?_)
      · rw [if_pos c2] at h
        refine ev_iconst dX4_isWord_26 (r32c rfl) ?_
        refine ev_istore_n (i := 2) (L' := [some (vR 1), some (vR a1), some (vI 0)]) dX4_isWord_27 rfl (by decide) rfl ?_
        exact SX4_isWord_28  fu a1 0 _ h
      · rw [if_neg c2] at h
        refine ev_iconst dX4_isWord_24 (r32c rfl) ?_
        exact ev_zret rfl (by decide) dX4_isWord_25 h
    · rw [if_neg g1] at h; exact h.elim
def FX4_isWord (a1 : Nat) (f : Mm) : Option (Int × Mm) := FX4_isWord_0 a1 f
set_option maxRecDepth 100000 in
theorem TX4_isWord {G : GT} {l : Launch} {Q : Option AV → Mem → Prop} (a1 : Nat) (f : Mm) (h : OkI Q (FX4_isWord a1 f)) : Ret G l MX4_isWord (5) 0 0 [vR 1, vR a1] (SH, RF, f) Q := by
  refine ret_of (L := [some (vR 1), some (vR a1), none]) (by decide) rfl (Nat.le_of_ble_eq_true rfl) ?_
  exact SX4_isWord_0 a1 f h
theorem dX4_fail_0 : decode cX4_fail 0 = .ok (.aload_n 0, 1) := by decide +kernel
theorem dX4_fail_1 : decode cX4_fail 1 = .ok (.getfield 22, 3) := by decide +kernel
theorem dX4_fail_4 : decode cX4_fail 4 = .ok (.ifCond .ne 16, 3) := by decide +kernel
theorem dX4_fail_20 : decode cX4_fail 20 = .ok (.return_, 1) := by decide +kernel
theorem dX4_fail_7 : decode cX4_fail 7 = .ok (.aload_n 0, 1) := by decide +kernel
theorem dX4_fail_8 : decode cX4_fail 8 = .ok (.iload_n 1, 1) := by decide +kernel
theorem dX4_fail_9 : decode cX4_fail 9 = .ok (.putfield 22, 3) := by decide +kernel
theorem dX4_fail_12 : decode cX4_fail 12 = .ok (.aload_n 0, 1) := by decide +kernel
theorem dX4_fail_13 : decode cX4_fail 13 = .ok (.aload_n 0, 1) := by decide +kernel
theorem dX4_fail_14 : decode cX4_fail 14 = .ok (.getfield 130, 3) := by decide +kernel
theorem dX4_fail_17 : decode cX4_fail 17 = .ok (.putfield 9, 3) := by decide +kernel
def FX4_fail_0  (x1 : Int) (f : Mm) : Option Mm := (if (f 1 0) = 0 then some (up (up f 1 0 x1) 1 1 (f 1 4)) else some f)
set_option maxHeartbeats 4000000 in
set_option maxRecDepth 100000 in
theorem SX4_fail_0 {G : GT} {l : Launch} {Q : Option AV → Mem → Prop}  (x1 : Int) (f : Mm) (h : OkV Q (FX4_fail_0  x1 f)) : Ev G l MX4_fail (Rm 1 0 0) (ZM G Q 0 0) 0 0 0 [some (vR 1), some (vI x1)] [] (SH, RF, f) := by
  unfold FX4_fail_0 at h
  refine ev_aload_n (i := 0) dX4_fail_0 rfl rfl ?_
  refine ex_getI (x := (f 1 0)) dX4_fail_1 fl_X4_22 sh_1 (by decide) (by decide) rfl ?_
  refine ev_if_ne (tgt := 20) dX4_fail_4 (by decide) (fun c1 => ?_) (fun c1 => ?_)
  · rw [if_neg c1] at h
    exact ev_vret rfl dX4_fail_20 h
  · rw [if_pos c1] at h
    refine ev_aload_n (i := 0) dX4_fail_7 rfl rfl ?_
    refine ev_iload_n (i := 1) dX4_fail_8 rfl rfl ?_
    refine ev_putI dX4_fail_9 fl_X4_22 sh_1 (by decide) (by decide) ?_
    refine ev_aload_n (i := 0) dX4_fail_12 rfl rfl ?_
    refine ev_aload_n (i := 0) dX4_fail_13 rfl rfl ?_
    refine ex_getI (x := (f 1 4)) dX4_fail_14 fl_X4_130 sh_1 (by decide) (by decide) rfl ?_
    refine ev_putI dX4_fail_17 fl_X4_9 sh_1 (by decide) (by decide) ?_
    exact ev_vret rfl dX4_fail_20 h
def FX4_fail (x1 : Int) (f : Mm) : Option Mm := FX4_fail_0 x1 f
set_option maxRecDepth 100000 in
theorem TX4_fail {G : GT} {l : Launch} {Q : Option AV → Mem → Prop} (x1 : Int) (f : Mm) (h : OkV Q (FX4_fail x1 f)) : Ret G l MX4_fail (1) 0 0 [vR 1, vI x1] (SH, RF, f) Q := by
  refine ret_of (L := [some (vR 1), some (vI x1)]) (by decide) rfl (Nat.le_of_ble_eq_true rfl) ?_
  exact SX4_fail_0 x1 f h
theorem dX4_skipWord_13 : decode cX4_skipWord 13 = .ok (.aload_n 0, 1) := by decide +kernel
theorem dX4_skipWord_14 : decode cX4_skipWord 14 = .ok (.invokevirtual 33, 3) := by decide +kernel
theorem dX4_skipWord_17 : decode cX4_skipWord 17 = .ok (.return_, 1) := by decide +kernel
theorem dX4_skipWord_0 : decode cX4_skipWord 0 = .ok (.aload_n 0, 1) := by decide +kernel
theorem dX4_skipWord_1 : decode cX4_skipWord 1 = .ok (.aload_n 1, 1) := by decide +kernel
theorem dX4_skipWord_2 : decode cX4_skipWord 2 = .ok (.invokevirtual 45, 3) := by decide +kernel
theorem dX4_skipWord_5 : decode cX4_skipWord 5 = .ok (.ifCond .ne 8, 3) := by decide +kernel
theorem dX4_skipWord_8 : decode cX4_skipWord 8 = .ok (.aload_n 0, 1) := by decide +kernel
theorem dX4_skipWord_9 : decode cX4_skipWord 9 = .ok (.iconst 1, 1) := by decide +kernel
theorem dX4_skipWord_10 : decode cX4_skipWord 10 = .ok (.invokevirtual 93, 3) := by decide +kernel
def FX4_skipWord_13   (f : Mm) : Option Mm := ((FX4_next f).bind fun f1 => some f1)
set_option maxHeartbeats 4000000 in
set_option maxRecDepth 100000 in
theorem SX4_skipWord_13 {G : GT} {l : Launch} {Q : Option AV → Mem → Prop}   (f : Mm) (h : OkV Q (FX4_skipWord_13   f)) : Ev G l MX4_skipWord (Rm 6 0 0) (ZM G Q 0 0) 0 0 13 [some (vR 1), none] [] (SH, RF, f) := by
  unfold FX4_skipWord_13 at h
  refine ev_aload_n (i := 0) dX4_skipWord_13 rfl rfl ?_
  refine ev_cVV (b := 1) (av := []) (S := []) (fun q => q) h dX4_skipWord_14 (fun Q' q => TX4_next _ q) kvX4_next ml_X4_33 sh_1 rfl (RRc (by decide) (by decide)) (Nat.le_of_ble_eq_true rfl) ⟨Nat.le_of_ble_eq_true rfl, Nat.le_of_ble_eq_true rfl⟩ (fun f1 h => ?_)
  exact ev_vret rfl dX4_skipWord_17 h
def FX4_skipWord_0  (a1 : Nat) (f : Mm) : Option Mm := (b2 (FX4_isWord a1 f) fun y1 f1 => (if y1 = 0 then ((FX4_fail 1 f1).bind fun f2 => FX4_skipWord_13 f2) else FX4_skipWord_13 f1))
set_option maxHeartbeats 4000000 in
set_option maxRecDepth 100000 in
theorem SX4_skipWord_0 {G : GT} {l : Launch} {Q : Option AV → Mem → Prop}  (a1 : Nat) (f : Mm) (h : OkV Q (FX4_skipWord_0  a1 f)) : Ev G l MX4_skipWord (Rm 6 0 0) (ZM G Q 0 0) 0 0 0 [some (vR 1), some (vR a1)] [] (SH, RF, f) := by
  unfold FX4_skipWord_0 at h
  refine ev_aload_n (i := 0) dX4_skipWord_0 rfl rfl ?_
  refine ev_aload_n (i := 1) dX4_skipWord_1 rfl rfl ?_
  refine ev_cVI (b := 1) (av := [vR a1]) (S := []) (fun q => q) h dX4_skipWord_2 (fun Q' q => TX4_isWord a1 _ q) kvX4_isWord ml_X4_45 sh_1 rfl (RRc (by decide) (by decide)) (Nat.le_of_ble_eq_true rfl) ⟨Nat.le_of_ble_eq_true rfl, Nat.le_of_ble_eq_true rfl⟩ (fun y1 f1 h => ?_)
  refine ev_if_ne (tgt := 13) dX4_skipWord_5 (by decide) (fun c3 => ?_) (fun c3 => ?_)
  · rw [if_neg c3] at h
    refine ev_fg [true, false] rfl ?_
    exact SX4_skipWord_13   _ h
  · rw [if_pos c3] at h
    refine ev_aload_n (i := 0) dX4_skipWord_8 rfl rfl ?_
    refine ev_iconst dX4_skipWord_9 (r32c rfl) ?_
    refine ev_cVV (b := 1) (av := [vI 1]) (S := []) (fun q => q) h dX4_skipWord_10 (fun Q' q => TX4_fail 1 _ q) kvX4_fail ml_X4_93 sh_1 rfl (RRc (by decide) (by decide)) (Nat.le_of_ble_eq_true rfl) ⟨Nat.le_of_ble_eq_true rfl, Nat.le_of_ble_eq_true rfl⟩ (fun f2 h => ?_)
    refine ev_fg [true, false] rfl ?_
    exact SX4_skipWord_13   _ h
def FX4_skipWord (a1 : Nat) (f : Mm) : Option Mm := FX4_skipWord_0 a1 f
set_option maxRecDepth 100000 in
theorem TX4_skipWord {G : GT} {l : Launch} {Q : Option AV → Mem → Prop} (a1 : Nat) (f : Mm) (h : OkV Q (FX4_skipWord a1 f)) : Ret G l MX4_skipWord (6) 0 0 [vR 1, vR a1] (SH, RF, f) Q := by
  refine ret_of (L := [some (vR 1), some (vR a1)]) (by decide) rfl (Nat.le_of_ble_eq_true rfl) ?_
  exact SX4_skipWord_0 a1 f h
theorem dX4_named_54 : decode cX4_named 54 = .ok (.aload_n 0, 1) := by decide +kernel
theorem dX4_named_55 : decode cX4_named 55 = .ok (.getfield 127, 3) := by decide +kernel
theorem dX4_named_58 : decode cX4_named 58 = .ok (.istore 4, 2) := by decide +kernel
theorem dX4_named_60 : decode cX4_named 60 = .ok (.aload_n 0, 1) := by decide +kernel
theorem dX4_named_61 : decode cX4_named 61 = .ok (.invokevirtual 33, 3) := by decide +kernel
theorem dX4_named_64 : decode cX4_named 64 = .ok (.aload_n 0, 1) := by decide +kernel
theorem dX4_named_65 : decode cX4_named 65 = .ok (.getfield 22, 3) := by decide +kernel
theorem dX4_named_68 : decode cX4_named 68 = .ok (.ifCond .ne 8, 3) := by decide +kernel
theorem dX4_named_76 : decode cX4_named 76 = .ok (.iconst 0, 1) := by decide +kernel
theorem dX4_named_77 : decode cX4_named 77 = .ok (.ireturn, 1) := by decide +kernel
theorem dX4_named_71 : decode cX4_named 71 = .ok (.iload 4, 2) := by decide +kernel
theorem dX4_named_73 : decode cX4_named 73 = .ok (.goto 4, 3) := by decide +kernel
theorem dX4_named_49 : decode cX4_named 49 = .ok (.aload_n 0, 1) := by decide +kernel
theorem dX4_named_50 : decode cX4_named 50 = .ok (.iconst 2, 1) := by decide +kernel
theorem dX4_named_51 : decode cX4_named 51 = .ok (.invokevirtual 93, 3) := by decide +kernel
theorem dX4_named_13 : decode cX4_named 13 = .ok (.aload_n 0, 1) := by decide +kernel
theorem dX4_named_14 : decode cX4_named 14 = .ok (.invokevirtual 33, 3) := by decide +kernel
theorem dX4_named_17 : decode cX4_named 17 = .ok (.aload_n 0, 1) := by decide +kernel
theorem dX4_named_18 : decode cX4_named 18 = .ok (.getfield 36, 3) := by decide +kernel
theorem dX4_named_21 : decode cX4_named 21 = .ok (.iconst 2, 1) := by decide +kernel
theorem dX4_named_22 : decode cX4_named 22 = .ok (.if_icmp .eq 11, 3) := by decide +kernel
theorem dX4_named_33 : decode cX4_named 33 = .ok (.aload_n 0, 1) := by decide +kernel
theorem dX4_named_34 : decode cX4_named 34 = .ok (.getfield 127, 3) := by decide +kernel
theorem dX4_named_37 : decode cX4_named 37 = .ok (.iload_n 2, 1) := by decide +kernel
theorem dX4_named_38 : decode cX4_named 38 = .ok (.if_icmp .lt 11, 3) := by decide +kernel
theorem dX4_named_41 : decode cX4_named 41 = .ok (.aload_n 0, 1) := by decide +kernel
theorem dX4_named_42 : decode cX4_named 42 = .ok (.getfield 127, 3) := by decide +kernel
theorem dX4_named_45 : decode cX4_named 45 = .ok (.iload_n 3, 1) := by decide +kernel
theorem dX4_named_46 : decode cX4_named 46 = .ok (.if_icmp .le 8, 3) := by decide +kernel
theorem dX4_named_25 : decode cX4_named 25 = .ok (.aload_n 0, 1) := by decide +kernel
theorem dX4_named_26 : decode cX4_named 26 = .ok (.iconst 1, 1) := by decide +kernel
theorem dX4_named_27 : decode cX4_named 27 = .ok (.invokevirtual 93, 3) := by decide +kernel
theorem dX4_named_30 : decode cX4_named 30 = .ok (.goto 24, 3) := by decide +kernel
theorem dX4_named_0 : decode cX4_named 0 = .ok (.aload_n 0, 1) := by decide +kernel
theorem dX4_named_1 : decode cX4_named 1 = .ok (.aload_n 1, 1) := by decide +kernel
theorem dX4_named_2 : decode cX4_named 2 = .ok (.invokevirtual 45, 3) := by decide +kernel
theorem dX4_named_5 : decode cX4_named 5 = .ok (.ifCond .ne 8, 3) := by decide +kernel
theorem dX4_named_8 : decode cX4_named 8 = .ok (.aload_n 0, 1) := by decide +kernel
theorem dX4_named_9 : decode cX4_named 9 = .ok (.iconst 1, 1) := by decide +kernel
theorem dX4_named_10 : decode cX4_named 10 = .ok (.invokevirtual 93, 3) := by decide +kernel
def FX4_named_54   (f : Mm) : Option (Int × Mm) := ((FX4_next f).bind fun f1 => (if (f1 1 0) = 0 then some ((f 1 6), f1) else some (0, f1)))
set_option maxHeartbeats 4000000 in
set_option maxRecDepth 100000 in
theorem SX4_named_54 {G : GT} {l : Launch} {Q : Option AV → Mem → Prop}   (f : Mm) (h : OkI Q (FX4_named_54   f)) : Ev G l MX4_named (Rm 6 0 0) (ZM G Q 0 0) 0 0 54 [some (vR 1), none, none, none, none] [] (SH, RF, f) := by
  unfold FX4_named_54 at h
  refine ev_aload_n (i := 0) dX4_named_54 rfl rfl ?_
  refine ex_getI (x := (f 1 6)) dX4_named_55 fl_X4_127 sh_1 (by decide) (by decide) rfl ?_
  refine ev_istore (L' := [some (vR 1), none, none, none, some (vI (f 1 6))]) dX4_named_58 (by decide) rfl ?_
  refine ev_aload_n (i := 0) dX4_named_60 rfl rfl ?_
  refine ev_cVV (b := 1) (av := []) (S := []) (fun q => q) h dX4_named_61 (fun Q' q => TX4_next _ q) kvX4_next ml_X4_33 sh_1 rfl (RRc (by decide) (by decide)) (Nat.le_of_ble_eq_true rfl) ⟨Nat.le_of_ble_eq_true rfl, Nat.le_of_ble_eq_true rfl⟩ (fun f1 h => ?_)
  refine ev_aload_n (i := 0) dX4_named_64 rfl rfl ?_
  refine ex_getI (x := (f1 1 0)) dX4_named_65 fl_X4_22 sh_1 (by decide) (by decide) rfl ?_
  refine ev_if_ne (tgt := 76) dX4_named_68 (by decide) (fun c2 => ?_) (fun c2 => ?_)
  · rw [if_neg c2] at h
    refine ev_iconst dX4_named_76 (r32c rfl) ?_
    exact ev_iret rfl dX4_named_77 h
  · rw [if_pos c2] at h
    refine ev_iload dX4_named_71 rfl ?_
    refine ev_goto (tgt := 77) dX4_named_73 (by decide) ?_
    exact ev_iret rfl dX4_named_77 h
def FX4_named_49   (f : Mm) : Option (Int × Mm) := ((FX4_fail 2 f).bind fun f1 => FX4_named_54 f1)
set_option maxHeartbeats 4000000 in
set_option maxRecDepth 100000 in
theorem SX4_named_49 {G : GT} {l : Launch} {Q : Option AV → Mem → Prop}   (f : Mm) (h : OkI Q (FX4_named_49   f)) : Ev G l MX4_named (Rm 6 0 0) (ZM G Q 0 0) 0 0 49 [some (vR 1), none, none, none, none] [] (SH, RF, f) := by
  unfold FX4_named_49 at h
  refine ev_aload_n (i := 0) dX4_named_49 rfl rfl ?_
  refine ev_iconst dX4_named_50 (r32c rfl) ?_
  refine ev_cVV (b := 1) (av := [vI 2]) (S := []) (fun q => q) h dX4_named_51 (fun Q' q => TX4_fail 2 _ q) kvX4_fail ml_X4_93 sh_1 rfl (RRc (by decide) (by decide)) (Nat.le_of_ble_eq_true rfl) ⟨Nat.le_of_ble_eq_true rfl, Nat.le_of_ble_eq_true rfl⟩ (fun f1 h => ?_)
  exact SX4_named_54   _ h
def FX4_named_13  (x2 : Int) (x3 : Int) (f : Mm) : Option (Int × Mm) := ((FX4_next f).bind fun f1 => (if (f1 1 3) = 2 then (if (f1 1 6) < x2 then FX4_named_49 f1 else (if (f1 1 6) ≤ x3 then FX4_named_54 f1 else FX4_named_49 f1)) else ((FX4_fail 1 f1).bind fun f4 => FX4_named_54 f4)))
set_option maxHeartbeats 4000000 in
set_option maxRecDepth 100000 in
theorem SX4_named_13 {G : GT} {l : Launch} {Q : Option AV → Mem → Prop}  (x2 : Int) (x3 : Int) (f : Mm) (h : OkI Q (FX4_named_13  x2 x3 f)) : Ev G l MX4_named (Rm 6 0 0) (ZM G Q 0 0) 0 0 13 [some (vR 1), none, some (vI x2), some (vI x3), none] [] (SH, RF, f) := by
  unfold FX4_named_13 at h
  refine ev_aload_n (i := 0) dX4_named_13 rfl rfl ?_
  refine ev_cVV (b := 1) (av := []) (S := []) (fun q => q) h dX4_named_14 (fun Q' q => TX4_next _ q) kvX4_next ml_X4_33 sh_1 rfl (RRc (by decide) (by decide)) (Nat.le_of_ble_eq_true rfl) ⟨Nat.le_of_ble_eq_true rfl, Nat.le_of_ble_eq_true rfl⟩ (fun f1 h => ?_)
  refine ev_aload_n (i := 0) dX4_named_17 rfl rfl ?_
  refine ex_getI (x := (f1 1 3)) dX4_named_18 fl_X4_36 sh_1 (by decide) (by decide) rfl ?_
  refine ev_iconst dX4_named_21 (r32c rfl) ?_
  refine ev_icmp_eq (tgt := 33) dX4_named_22 (by decide) (fun c5 => ?_) (fun c5 => ?_)
  · rw [if_pos c5] at h
    refine ev_aload_n (i := 0) dX4_named_33 rfl rfl ?_
    refine ex_getI (x := (f1 1 6)) dX4_named_34 fl_X4_127 sh_1 (by decide) (by decide) rfl ?_
    refine ev_iload_n (i := 2) dX4_named_37 rfl rfl ?_
    refine ev_icmp_lt (tgt := 49) dX4_named_38 (by decide) (fun c3 => ?_) (fun c3 => ?_)
    · rw [if_pos c3] at h
      refine ev_fg [true, true, false, false, true] rfl ?_
      exact SX4_named_49   _ h
    · rw [if_neg c3] at h
      refine ev_aload_n (i := 0) dX4_named_41 rfl rfl ?_
      refine ex_getI (x := (f1 1 6)) dX4_named_42 fl_X4_127 sh_1 (by decide) (by decide) rfl ?_
      refine ev_iload_n (i := 3) dX4_named_45 rfl rfl ?_
      refine ev_icmp_le (tgt := 54) dX4_named_46 (by decide) (fun c2 => ?_) (fun c2 => ?_)
      · rw [if_pos c2] at h
        refine ev_fg [true, true, false, false, true] rfl ?_
        exact SX4_named_54   _ h
      · rw [if_neg c2] at h
        refine ev_fg [true, true, false, false, true] rfl ?_
        exact SX4_named_49   _ h
  · rw [if_neg c5] at h
    refine ev_aload_n (i := 0) dX4_named_25 rfl rfl ?_
    refine ev_iconst dX4_named_26 (r32c rfl) ?_
    refine ev_cVV (b := 1) (av := [vI 1]) (S := []) (fun q => q) h dX4_named_27 (fun Q' q => TX4_fail 1 _ q) kvX4_fail ml_X4_93 sh_1 rfl (RRc (by decide) (by decide)) (Nat.le_of_ble_eq_true rfl) ⟨Nat.le_of_ble_eq_true rfl, Nat.le_of_ble_eq_true rfl⟩ (fun f4 h => ?_)
    refine ev_goto (tgt := 54) dX4_named_30 (by decide) ?_
    refine ev_fg [true, true, false, false, true] rfl ?_
    exact SX4_named_54   _ h
def FX4_named_0  (a1 : Nat) (x2 : Int) (x3 : Int) (f : Mm) : Option (Int × Mm) := (b2 (FX4_isWord a1 f) fun y1 f1 => (if y1 = 0 then ((FX4_fail 1 f1).bind fun f2 => FX4_named_13 x2 x3 f2) else FX4_named_13 x2 x3 f1))
set_option maxHeartbeats 4000000 in
set_option maxRecDepth 100000 in
theorem SX4_named_0 {G : GT} {l : Launch} {Q : Option AV → Mem → Prop}  (a1 : Nat) (x2 : Int) (x3 : Int) (f : Mm) (h : OkI Q (FX4_named_0  a1 x2 x3 f)) : Ev G l MX4_named (Rm 6 0 0) (ZM G Q 0 0) 0 0 0 [some (vR 1), some (vR a1), some (vI x2), some (vI x3), none] [] (SH, RF, f) := by
  unfold FX4_named_0 at h
  refine ev_aload_n (i := 0) dX4_named_0 rfl rfl ?_
  refine ev_aload_n (i := 1) dX4_named_1 rfl rfl ?_
  refine ev_cVI (b := 1) (av := [vR a1]) (S := []) (fun q => q) h dX4_named_2 (fun Q' q => TX4_isWord a1 _ q) kvX4_isWord ml_X4_45 sh_1 rfl (RRc (by decide) (by decide)) (Nat.le_of_ble_eq_true rfl) ⟨Nat.le_of_ble_eq_true rfl, Nat.le_of_ble_eq_true rfl⟩ (fun y1 f1 h => ?_)
  refine ev_if_ne (tgt := 13) dX4_named_5 (by decide) (fun c3 => ?_) (fun c3 => ?_)
  · rw [if_neg c3] at h
    refine ev_fg [true, false, true, true, true] rfl ?_
    exact SX4_named_13  x2 x3 _ h
  · rw [if_pos c3] at h
    refine ev_aload_n (i := 0) dX4_named_8 rfl rfl ?_
    refine ev_iconst dX4_named_9 (r32c rfl) ?_
    refine ev_cVV (b := 1) (av := [vI 1]) (S := []) (fun q => q) h dX4_named_10 (fun Q' q => TX4_fail 1 _ q) kvX4_fail ml_X4_93 sh_1 rfl (RRc (by decide) (by decide)) (Nat.le_of_ble_eq_true rfl) ⟨Nat.le_of_ble_eq_true rfl, Nat.le_of_ble_eq_true rfl⟩ (fun f2 h => ?_)
    refine ev_fg [true, false, true, true, true] rfl ?_
    exact SX4_named_13  x2 x3 _ h
def FX4_named (a1 : Nat) (x2 : Int) (x3 : Int) (f : Mm) : Option (Int × Mm) := FX4_named_0 a1 x2 x3 f
set_option maxRecDepth 100000 in
theorem TX4_named {G : GT} {l : Launch} {Q : Option AV → Mem → Prop} (a1 : Nat) (x2 : Int) (x3 : Int) (f : Mm) (h : OkI Q (FX4_named a1 x2 x3 f)) : Ret G l MX4_named (6) 0 0 [vR 1, vR a1, vI x2, vI x3] (SH, RF, f) Q := by
  refine ret_of (L := [some (vR 1), some (vR a1), some (vI x2), some (vI x3), none]) (by decide) rfl (Nat.le_of_ble_eq_true rfl) ?_
  exact SX4_named_0 a1 x2 x3 f h
theorem dX4_readBridge_0 : decode cX4_readBridge 0 = .ok (.aload_n 0, 1) := by decide +kernel
theorem dX4_readBridge_1 : decode cX4_readBridge 1 = .ok (.ldc 61, 2) := by decide +kernel
theorem dX4_readBridge_3 : decode cX4_readBridge 3 = .ok (.invokevirtual 63, 3) := by decide +kernel
theorem dX4_readBridge_6 : decode cX4_readBridge 6 = .ok (.aload_n 1, 1) := by decide +kernel
theorem dX4_readBridge_7 : decode cX4_readBridge 7 = .ok (.aload_n 0, 1) := by decide +kernel
theorem dX4_readBridge_8 : decode cX4_readBridge 8 = .ok (.ldc 67, 2) := by decide +kernel
theorem dX4_readBridge_10 : decode cX4_readBridge 10 = .ok (.iconst 1, 1) := by decide +kernel
theorem dX4_readBridge_11 : decode cX4_readBridge 11 = .ok (.bipush 6, 2) := by decide +kernel
theorem dX4_readBridge_13 : decode cX4_readBridge 13 = .ok (.invokevirtual 69, 3) := by decide +kernel
theorem dX4_readBridge_16 : decode cX4_readBridge 16 = .ok (.putfield 73, 3) := by decide +kernel
theorem dX4_readBridge_19 : decode cX4_readBridge 19 = .ok (.aload_n 1, 1) := by decide +kernel
theorem dX4_readBridge_20 : decode cX4_readBridge 20 = .ok (.getfield 75, 3) := by decide +kernel
theorem dX4_readBridge_23 : decode cX4_readBridge 23 = .ok (.iconst 0, 1) := by decide +kernel
theorem dX4_readBridge_24 : decode cX4_readBridge 24 = .ok (.aload_n 0, 1) := by decide +kernel
theorem dX4_readBridge_25 : decode cX4_readBridge 25 = .ok (.ldc 79, 2) := by decide +kernel
theorem dX4_readBridge_27 : decode cX4_readBridge 27 = .ok (.iconst 0, 1) := by decide +kernel
theorem dX4_readBridge_28 : decode cX4_readBridge 28 = .ok (.bipush 60, 2) := by decide +kernel
theorem dX4_readBridge_30 : decode cX4_readBridge 30 = .ok (.invokevirtual 69, 3) := by decide +kernel
theorem dX4_readBridge_33 : decode cX4_readBridge 33 = .ok (.iastore, 1) := by decide +kernel
theorem dX4_readBridge_34 : decode cX4_readBridge 34 = .ok (.aload_n 1, 1) := by decide +kernel
theorem dX4_readBridge_35 : decode cX4_readBridge 35 = .ok (.getfield 75, 3) := by decide +kernel
theorem dX4_readBridge_38 : decode cX4_readBridge 38 = .ok (.iconst 1, 1) := by decide +kernel
theorem dX4_readBridge_39 : decode cX4_readBridge 39 = .ok (.aload_n 0, 1) := by decide +kernel
theorem dX4_readBridge_40 : decode cX4_readBridge 40 = .ok (.ldc 79, 2) := by decide +kernel
theorem dX4_readBridge_42 : decode cX4_readBridge 42 = .ok (.iconst 0, 1) := by decide +kernel
theorem dX4_readBridge_43 : decode cX4_readBridge 43 = .ok (.bipush 60, 2) := by decide +kernel
theorem dX4_readBridge_45 : decode cX4_readBridge 45 = .ok (.invokevirtual 69, 3) := by decide +kernel
theorem dX4_readBridge_48 : decode cX4_readBridge 48 = .ok (.iastore, 1) := by decide +kernel
theorem dX4_readBridge_49 : decode cX4_readBridge 49 = .ok (.aload_n 1, 1) := by decide +kernel
theorem dX4_readBridge_50 : decode cX4_readBridge 50 = .ok (.aload_n 0, 1) := by decide +kernel
theorem dX4_readBridge_51 : decode cX4_readBridge 51 = .ok (.ldc 81, 2) := by decide +kernel
theorem dX4_readBridge_53 : decode cX4_readBridge 53 = .ok (.iconst 0, 1) := by decide +kernel
theorem dX4_readBridge_54 : decode cX4_readBridge 54 = .ok (.bipush 9, 2) := by decide +kernel
theorem dX4_readBridge_56 : decode cX4_readBridge 56 = .ok (.invokevirtual 69, 3) := by decide +kernel
theorem dX4_readBridge_59 : decode cX4_readBridge 59 = .ok (.putfield 83, 3) := by decide +kernel
theorem dX4_readBridge_62 : decode cX4_readBridge 62 = .ok (.aload_n 1, 1) := by decide +kernel
theorem dX4_readBridge_63 : decode cX4_readBridge 63 = .ok (.aload_n 0, 1) := by decide +kernel
theorem dX4_readBridge_64 : decode cX4_readBridge 64 = .ok (.ldc 86, 2) := by decide +kernel
theorem dX4_readBridge_66 : decode cX4_readBridge 66 = .ok (.iconst 0, 1) := by decide +kernel
theorem dX4_readBridge_67 : decode cX4_readBridge 67 = .ok (.bipush 10, 2) := by decide +kernel
theorem dX4_readBridge_69 : decode cX4_readBridge 69 = .ok (.invokevirtual 69, 3) := by decide +kernel
theorem dX4_readBridge_72 : decode cX4_readBridge 72 = .ok (.putfield 88, 3) := by decide +kernel
theorem dX4_readBridge_75 : decode cX4_readBridge 75 = .ok (.return_, 1) := by decide +kernel
def FX4_readBridge_1_21_0   (f : Mm) : Option Mm := ((FX4_skipWord 100001 f).bind fun f1 => (b2 (FX4_named 100002 1 6 f1) fun y2 f2 => (b2 (FX4_named 100003 0 60 (up f2 21 1 y2)) fun y3 f3 => (b2 (FX4_named 100003 0 60 (up f3 22 0 y3)) fun y4 f4 => (b2 (FX4_named 100004 0 9 (up f4 22 1 y4)) fun y5 f5 => (b2 (FX4_named 100005 0 10 (up f5 21 2 y5)) fun y6 f6 => some (up f6 21 3 y6)))))))
set_option maxHeartbeats 4000000 in
set_option maxRecDepth 100000 in
theorem SX4_readBridge_1_21_0 {G : GT} {l : Launch} {Q : Option AV → Mem → Prop}   (f : Mm) (h : OkV Q (FX4_readBridge_1_21_0   f)) : Ev G l MX4_readBridge (Rm 7 0 0) (ZM G Q 0 0) 0 0 0 [some (vR 1), some (vR 21)] [] (SH, RF, f) := by
  unfold FX4_readBridge_1_21_0 at h
  refine ev_aload_n (i := 0) dX4_readBridge_0 rfl rfl ?_
  refine ev_ldcS (i := 0) (tx := "bridge") rfl dX4_readBridge_1 rfl ?_
  refine ev_cVV (b := 1) (av := [vR 100001]) (S := []) (fun q => q) h dX4_readBridge_3 (fun Q' q => TX4_skipWord 100001 _ q) kvX4_skipWord ml_X4_63 sh_1 rfl (RRc (by decide) (by decide)) (Nat.le_of_ble_eq_true rfl) ⟨Nat.le_of_ble_eq_true rfl, Nat.le_of_ble_eq_true rfl⟩ (fun f1 h => ?_)
  refine ev_aload_n (i := 1) dX4_readBridge_6 rfl rfl ?_
  refine ev_aload_n (i := 0) dX4_readBridge_7 rfl rfl ?_
  refine ev_ldcS (i := 1) (tx := "days") rfl dX4_readBridge_8 rfl ?_
  refine ev_iconst dX4_readBridge_10 (r32c rfl) ?_
  refine ev_bipush (v := 6) dX4_readBridge_11 (r32c rfl) (by decide) ?_
  refine ev_cVI (b := 1) (av := [vR 100002, vI 1, vI 6]) (S := [vR 21]) (fun q => q) h dX4_readBridge_13 (fun Q' q => TX4_named 100002 1 6 _ q) kvX4_named ml_X4_69 sh_1 rfl (RRc (by decide) (by decide)) (Nat.le_of_ble_eq_true rfl) ⟨Nat.le_of_ble_eq_true rfl, Nat.le_of_ble_eq_true rfl⟩ (fun y2 f2 h => ?_)
  refine ev_putI dX4_readBridge_16 fl_X4_73 sh_21 (by decide) (by decide) ?_
  refine ev_aload_n (i := 1) dX4_readBridge_19 rfl rfl ?_
  refine ev_getR dX4_readBridge_20 fl_X4_75 sh_21 (by decide) (by decide) rf_21_7 ?_
  refine ev_iconst dX4_readBridge_23 (r32c rfl) ?_
  refine ev_aload_n (i := 0) dX4_readBridge_24 rfl rfl ?_
  refine ev_ldcS (i := 2) (tx := "feels") rfl dX4_readBridge_25 rfl ?_
  refine ev_iconst dX4_readBridge_27 (r32c rfl) ?_
  refine ev_bipush (v := 60) dX4_readBridge_28 (r32c rfl) (by decide) ?_
  refine ev_cVI (b := 1) (av := [vR 100003, vI 0, vI 60]) (S := [vI 0, vR 22]) (fun q => q) h dX4_readBridge_30 (fun Q' q => TX4_named 100003 0 60 _ q) kvX4_named ml_X4_69 sh_1 rfl (RRc (by decide) (by decide)) (Nat.le_of_ble_eq_true rfl) ⟨Nat.le_of_ble_eq_true rfl, Nat.le_of_ble_eq_true rfl⟩ (fun y3 f3 h => ?_)
  refine ex_iast (j := 0) dX4_readBridge_33 sh_22 (by decide) (by decide) rfl ?_
  refine ev_aload_n (i := 1) dX4_readBridge_34 rfl rfl ?_
  refine ev_getR dX4_readBridge_35 fl_X4_75 sh_21 (by decide) (by decide) rf_21_7 ?_
  refine ev_iconst dX4_readBridge_38 (r32c rfl) ?_
  refine ev_aload_n (i := 0) dX4_readBridge_39 rfl rfl ?_
  refine ev_ldcS (i := 2) (tx := "feels") rfl dX4_readBridge_40 rfl ?_
  refine ev_iconst dX4_readBridge_42 (r32c rfl) ?_
  refine ev_bipush (v := 60) dX4_readBridge_43 (r32c rfl) (by decide) ?_
  refine ev_cVI (b := 1) (av := [vR 100003, vI 0, vI 60]) (S := [vI 1, vR 22]) (fun q => q) h dX4_readBridge_45 (fun Q' q => TX4_named 100003 0 60 _ q) kvX4_named ml_X4_69 sh_1 rfl (RRc (by decide) (by decide)) (Nat.le_of_ble_eq_true rfl) ⟨Nat.le_of_ble_eq_true rfl, Nat.le_of_ble_eq_true rfl⟩ (fun y4 f4 h => ?_)
  refine ex_iast (j := 1) dX4_readBridge_48 sh_22 (by decide) (by decide) rfl ?_
  refine ev_aload_n (i := 1) dX4_readBridge_49 rfl rfl ?_
  refine ev_aload_n (i := 0) dX4_readBridge_50 rfl rfl ?_
  refine ev_ldcS (i := 3) (tx := "cools") rfl dX4_readBridge_51 rfl ?_
  refine ev_iconst dX4_readBridge_53 (r32c rfl) ?_
  refine ev_bipush (v := 9) dX4_readBridge_54 (r32c rfl) (by decide) ?_
  refine ev_cVI (b := 1) (av := [vR 100004, vI 0, vI 9]) (S := [vR 21]) (fun q => q) h dX4_readBridge_56 (fun Q' q => TX4_named 100004 0 9 _ q) kvX4_named ml_X4_69 sh_1 rfl (RRc (by decide) (by decide)) (Nat.le_of_ble_eq_true rfl) ⟨Nat.le_of_ble_eq_true rfl, Nat.le_of_ble_eq_true rfl⟩ (fun y5 f5 h => ?_)
  refine ev_putI dX4_readBridge_59 fl_X4_83 sh_21 (by decide) (by decide) ?_
  refine ev_aload_n (i := 1) dX4_readBridge_62 rfl rfl ?_
  refine ev_aload_n (i := 0) dX4_readBridge_63 rfl rfl ?_
  refine ev_ldcS (i := 4) (tx := "odds") rfl dX4_readBridge_64 rfl ?_
  refine ev_iconst dX4_readBridge_66 (r32c rfl) ?_
  refine ev_bipush (v := 10) dX4_readBridge_67 (r32c rfl) (by decide) ?_
  refine ev_cVI (b := 1) (av := [vR 100005, vI 0, vI 10]) (S := [vR 21]) (fun q => q) h dX4_readBridge_69 (fun Q' q => TX4_named 100005 0 10 _ q) kvX4_named ml_X4_69 sh_1 rfl (RRc (by decide) (by decide)) (Nat.le_of_ble_eq_true rfl) ⟨Nat.le_of_ble_eq_true rfl, Nat.le_of_ble_eq_true rfl⟩ (fun y6 f6 h => ?_)
  refine ev_putI dX4_readBridge_72 fl_X4_88 sh_21 (by decide) (by decide) ?_
  exact ev_vret rfl dX4_readBridge_75 h
def FX4_readBridge_1_21  (f : Mm) : Option Mm := FX4_readBridge_1_21_0  f
set_option maxRecDepth 100000 in
theorem TX4_readBridge_1_21 {G : GT} {l : Launch} {Q : Option AV → Mem → Prop}  (f : Mm) (h : OkV Q (FX4_readBridge_1_21  f)) : Ret G l MX4_readBridge (7) 0 0 [vR 1, vR 21] (SH, RF, f) Q := by
  refine ret_of (L := [some (vR 1), some (vR 21)]) (by decide) rfl (Nat.le_of_ble_eq_true rfl) ?_
  exact SX4_readBridge_1_21_0  f h
theorem dX4_readDeed_113 : decode cX4_readDeed 113 = .ok (.aload_n 1, 1) := by decide +kernel
theorem dX4_readDeed_114 : decode cX4_readDeed 114 = .ok (.dup, 1) := by decide +kernel
theorem dX4_readDeed_115 : decode cX4_readDeed 115 = .ok (.getfield 90, 3) := by decide +kernel
theorem dX4_readDeed_118 : decode cX4_readDeed 118 = .ok (.iconst 1, 1) := by decide +kernel
theorem dX4_readDeed_119 : decode cX4_readDeed 119 = .ok (.iadd, 1) := by decide +kernel
theorem dX4_readDeed_120 : decode cX4_readDeed 120 = .ok (.putfield 90, 3) := by decide +kernel
theorem dX4_readDeed_123 : decode cX4_readDeed 123 = .ok (.return_, 1) := by decide +kernel
theorem dX4_readDeed_106 : decode cX4_readDeed 106 = .ok (.iastore, 1) := by decide +kernel
theorem dX4_readDeed_107 : decode cX4_readDeed 107 = .ok (.iinc 3 1, 3) := by decide +kernel
theorem dX4_readDeed_110 : decode cX4_readDeed 110 = .ok (.goto (-55), 3) := by decide +kernel
theorem dX4_readDeed_81 : decode cX4_readDeed 81 = .ok (.iconst 0, 1) := by decide +kernel
theorem dX4_readDeed_82 : decode cX4_readDeed 82 = .ok (.bipush 30, 2) := by decide +kernel
theorem dX4_readDeed_84 : decode cX4_readDeed 84 = .ok (.invokevirtual 69, 3) := by decide +kernel
theorem dX4_readDeed_87 : decode cX4_readDeed 87 = .ok (.istore 5, 2) := by decide +kernel
theorem dX4_readDeed_89 : decode cX4_readDeed 89 = .ok (.aload_n 2, 1) := by decide +kernel
theorem dX4_readDeed_90 : decode cX4_readDeed 90 = .ok (.iconst 2, 1) := by decide +kernel
theorem dX4_readDeed_91 : decode cX4_readDeed 91 = .ok (.iload_n 3, 1) := by decide +kernel
theorem dX4_readDeed_92 : decode cX4_readDeed 92 = .ok (.iadd, 1) := by decide +kernel
theorem dX4_readDeed_93 : decode cX4_readDeed 93 = .ok (.iload 4, 2) := by decide +kernel
theorem dX4_readDeed_95 : decode cX4_readDeed 95 = .ok (.ifCond .eq 9, 3) := by decide +kernel
theorem dX4_readDeed_104 : decode cX4_readDeed 104 = .ok (.iload 5, 2) := by decide +kernel
theorem dX4_readDeed_98 : decode cX4_readDeed 98 = .ok (.iload 5, 2) := by decide +kernel
theorem dX4_readDeed_100 : decode cX4_readDeed 100 = .ok (.ineg, 1) := by decide +kernel
theorem dX4_readDeed_101 : decode cX4_readDeed 101 = .ok (.goto 5, 3) := by decide +kernel
theorem dX4_readDeed_55 : decode cX4_readDeed 55 = .ok (.iload_n 3, 1) := by decide +kernel
theorem dX4_readDeed_56 : decode cX4_readDeed 56 = .ok (.iconst 2, 1) := by decide +kernel
theorem dX4_readDeed_57 : decode cX4_readDeed 57 = .ok (.if_icmp .ge 56, 3) := by decide +kernel
theorem dX4_readDeed_60 : decode cX4_readDeed 60 = .ok (.aload_n 0, 1) := by decide +kernel
theorem dX4_readDeed_61 : decode cX4_readDeed 61 = .ok (.ldc 105, 2) := by decide +kernel
theorem dX4_readDeed_63 : decode cX4_readDeed 63 = .ok (.invokevirtual 45, 3) := by decide +kernel
theorem dX4_readDeed_66 : decode cX4_readDeed 66 = .ok (.istore 4, 2) := by decide +kernel
theorem dX4_readDeed_68 : decode cX4_readDeed 68 = .ok (.aload_n 0, 1) := by decide +kernel
theorem dX4_readDeed_69 : decode cX4_readDeed 69 = .ok (.iload 4, 2) := by decide +kernel
theorem dX4_readDeed_71 : decode cX4_readDeed 71 = .ok (.ifCond .eq 8, 3) := by decide +kernel
theorem dX4_readDeed_79 : decode cX4_readDeed 79 = .ok (.ldc 107, 2) := by decide +kernel
theorem dX4_readDeed_74 : decode cX4_readDeed 74 = .ok (.ldc 105, 2) := by decide +kernel
theorem dX4_readDeed_76 : decode cX4_readDeed 76 = .ok (.goto 5, 3) := by decide +kernel
theorem dX4_readDeed_0 : decode cX4_readDeed 0 = .ok (.aload_n 1, 1) := by decide +kernel
theorem dX4_readDeed_1 : decode cX4_readDeed 1 = .ok (.getfield 90, 3) := by decide +kernel
theorem dX4_readDeed_4 : decode cX4_readDeed 4 = .ok (.iconst 4, 1) := by decide +kernel
theorem dX4_readDeed_5 : decode cX4_readDeed 5 = .ok (.if_icmp .lt 9, 3) := by decide +kernel
theorem dX4_readDeed_14 : decode cX4_readDeed 14 = .ok (.aload_n 1, 1) := by decide +kernel
theorem dX4_readDeed_15 : decode cX4_readDeed 15 = .ok (.getfield 97, 3) := by decide +kernel
theorem dX4_readDeed_18 : decode cX4_readDeed 18 = .ok (.aload_n 1, 1) := by decide +kernel
theorem dX4_readDeed_19 : decode cX4_readDeed 19 = .ok (.getfield 90, 3) := by decide +kernel
theorem dX4_readDeed_22 : decode cX4_readDeed 22 = .ok (.aaload, 1) := by decide +kernel
theorem dX4_readDeed_23 : decode cX4_readDeed 23 = .ok (.astore_n 2, 1) := by decide +kernel
theorem dX4_readDeed_24 : decode cX4_readDeed 24 = .ok (.aload_n 0, 1) := by decide +kernel
theorem dX4_readDeed_25 : decode cX4_readDeed 25 = .ok (.ldc 43, 2) := by decide +kernel
theorem dX4_readDeed_27 : decode cX4_readDeed 27 = .ok (.invokevirtual 63, 3) := by decide +kernel
theorem dX4_readDeed_30 : decode cX4_readDeed 30 = .ok (.aload_n 2, 1) := by decide +kernel
theorem dX4_readDeed_31 : decode cX4_readDeed 31 = .ok (.iconst 0, 1) := by decide +kernel
theorem dX4_readDeed_32 : decode cX4_readDeed 32 = .ok (.aload_n 0, 1) := by decide +kernel
theorem dX4_readDeed_33 : decode cX4_readDeed 33 = .ok (.ldc 101, 2) := by decide +kernel
theorem dX4_readDeed_35 : decode cX4_readDeed 35 = .ok (.iconst 0, 1) := by decide +kernel
theorem dX4_readDeed_36 : decode cX4_readDeed 36 = .ok (.iconst 1, 1) := by decide +kernel
theorem dX4_readDeed_37 : decode cX4_readDeed 37 = .ok (.invokevirtual 69, 3) := by decide +kernel
theorem dX4_readDeed_40 : decode cX4_readDeed 40 = .ok (.iastore, 1) := by decide +kernel
theorem dX4_readDeed_41 : decode cX4_readDeed 41 = .ok (.aload_n 2, 1) := by decide +kernel
theorem dX4_readDeed_42 : decode cX4_readDeed 42 = .ok (.iconst 1, 1) := by decide +kernel
theorem dX4_readDeed_43 : decode cX4_readDeed 43 = .ok (.aload_n 0, 1) := by decide +kernel
theorem dX4_readDeed_44 : decode cX4_readDeed 44 = .ok (.ldc 103, 2) := by decide +kernel
theorem dX4_readDeed_46 : decode cX4_readDeed 46 = .ok (.iconst 0, 1) := by decide +kernel
theorem dX4_readDeed_47 : decode cX4_readDeed 47 = .ok (.bipush 99, 2) := by decide +kernel
theorem dX4_readDeed_49 : decode cX4_readDeed 49 = .ok (.invokevirtual 69, 3) := by decide +kernel
theorem dX4_readDeed_52 : decode cX4_readDeed 52 = .ok (.iastore, 1) := by decide +kernel
theorem dX4_readDeed_53 : decode cX4_readDeed 53 = .ok (.iconst 0, 1) := by decide +kernel
theorem dX4_readDeed_54 : decode cX4_readDeed 54 = .ok (.istore_n 3, 1) := by decide +kernel
theorem dX4_readDeed_8 : decode cX4_readDeed 8 = .ok (.aload_n 0, 1) := by decide +kernel
theorem dX4_readDeed_9 : decode cX4_readDeed 9 = .ok (.iconst 3, 1) := by decide +kernel
theorem dX4_readDeed_10 : decode cX4_readDeed 10 = .ok (.invokevirtual 93, 3) := by decide +kernel
theorem dX4_readDeed_13 : decode cX4_readDeed 13 = .ok (.return_, 1) := by decide +kernel
def FX4_readDeed_1_21_113   (f : Mm) : Option Mm := some (up f 21 4 (w32 ((f 21 4) + 1)))
set_option maxHeartbeats 4000000 in
set_option maxRecDepth 100000 in
theorem SX4_readDeed_1_21_113 {G : GT} {l : Launch} {Q : Option AV → Mem → Prop}   (f : Mm) (h : OkV Q (FX4_readDeed_1_21_113   f)) : Ev G l MX4_readDeed (Rm 7 0 0) (ZM G Q 0 0) 0 0 113 [none, some (vR 21), none, none, none, none] [] (SH, RF, f) := by
  unfold FX4_readDeed_1_21_113 at h
  refine ev_aload_n (i := 1) dX4_readDeed_113 rfl rfl ?_
  refine ev_dupR dX4_readDeed_114 ?_
  refine ex_getI (x := (f 21 4)) dX4_readDeed_115 fl_X4_90 sh_21 (by decide) (by decide) rfl ?_
  refine ev_iconst dX4_readDeed_118 (r32c rfl) ?_
  refine ev_iadd dX4_readDeed_119 ?_
  refine ev_putI dX4_readDeed_120 fl_X4_90 sh_21 (by decide) (by decide) ?_
  exact ev_vret rfl dX4_readDeed_123 h
def FX4_readDeed_1_21_106 (k55 : Nat → Int → Mm → Option Mm) (a2 : Nat) (x3 : Int) (b0 : Nat) (s1 : Int) (s2 : Int) (f : Mm) : Option Mm := (if SH[b0]? = some (0, 4) then (if 0 ≤ s1 ∧ s1 < 4 then k55 a2 (w32 (x3 + 1)) (up f b0 s1.toNat s2) else none) else none)
set_option maxHeartbeats 4000000 in
set_option maxRecDepth 100000 in
theorem SX4_readDeed_1_21_106 {G : GT} {l : Launch} {Q : Option AV → Mem → Prop} {k55 : Nat → Int → Mm → Option Mm} (q55 : ∀ (a2 : Nat) (x3 : Int) (f : Mm), OkV Q (k55 a2 x3 f) → Ev G l MX4_readDeed (Rm 7 0 0) (ZM G Q 0 0) 0 0 55 [some (vR 1), some (vR 21), some (vR a2), some (vI x3), none, none] [] (SH, RF, f)) (a2 : Nat) (x3 : Int) (b0 : Nat) (s1 : Int) (s2 : Int) (f : Mm) (h : OkV Q (FX4_readDeed_1_21_106 k55 a2 x3 b0 s1 s2 f)) : Ev G l MX4_readDeed (Rm 7 0 0) (ZM G Q 0 0) 0 0 106 [some (vR 1), some (vR 21), some (vR a2), some (vI x3), none, none] [vI s2, vI s1, vR b0] (SH, RF, f) := by
  unfold FX4_readDeed_1_21_106 at h
  by_cases g1 : SH[b0]? = some (0, 4)
  · rw [if_pos g1] at h
    by_cases g2 : 0 ≤ s1 ∧ s1 < 4
    · rw [if_pos g2] at h
      refine ex_iast (j := s1.toNat) dX4_readDeed_106 g1 g2.1 g2.2 rfl ?_
      refine ev_iinc (L' := [some (vR 1), some (vR 21), some (vR a2), some (vI (w32 (x3 + 1))), none, none]) dX4_readDeed_107 rfl (by decide) rfl ?_
      refine ev_goto (tgt := 55) dX4_readDeed_110 (by decide) ?_
      exact q55 a2 (w32 (x3 + 1)) _ h
    · rw [if_neg g2] at h; exact h.elim
  · rw [if_neg g1] at h; exact h.elim
def FX4_readDeed_1_21_81 (k55 : Nat → Int → Mm → Option Mm) (a2 : Nat) (x3 : Int) (x4 : Int) (b1 : Nat) (f : Mm) : Option Mm := (b2 (FX4_named b1 0 30 f) fun y1 f1 => (if x4 = 0 then FX4_readDeed_1_21_106 k55 a2 x3 a2 (w32 (2 + x3)) y1 f1 else FX4_readDeed_1_21_106 k55 a2 x3 a2 (w32 (2 + x3)) (w32 (-y1)) f1))
set_option maxHeartbeats 4000000 in
set_option maxRecDepth 100000 in
theorem SX4_readDeed_1_21_81 {G : GT} {l : Launch} {Q : Option AV → Mem → Prop} {k55 : Nat → Int → Mm → Option Mm} (q55 : ∀ (a2 : Nat) (x3 : Int) (f : Mm), OkV Q (k55 a2 x3 f) → Ev G l MX4_readDeed (Rm 7 0 0) (ZM G Q 0 0) 0 0 55 [some (vR 1), some (vR 21), some (vR a2), some (vI x3), none, none] [] (SH, RF, f)) (a2 : Nat) (x3 : Int) (x4 : Int) (b1 : Nat) (f : Mm) (h : OkV Q (FX4_readDeed_1_21_81 k55 a2 x3 x4 b1 f)) : Ev G l MX4_readDeed (Rm 7 0 0) (ZM G Q 0 0) 0 0 81 [some (vR 1), some (vR 21), some (vR a2), some (vI x3), some (vI x4), none] [vR b1, vR 1] (SH, RF, f) := by
  unfold FX4_readDeed_1_21_81 at h
  refine ev_iconst dX4_readDeed_81 (r32c rfl) ?_
  refine ev_bipush (v := 30) dX4_readDeed_82 (r32c rfl) (by decide) ?_
  refine ev_cVI (b := 1) (av := [vR b1, vI 0, vI 30]) (S := []) (fun q => q) h dX4_readDeed_84 (fun Q' q => TX4_named b1 0 30 _ q) kvX4_named ml_X4_69 sh_1 rfl (RRc (by decide) (by decide)) (Nat.le_of_ble_eq_true rfl) ⟨Nat.le_of_ble_eq_true rfl, Nat.le_of_ble_eq_true rfl⟩ (fun y1 f1 h => ?_)
  refine ev_istore (L' := [some (vR 1), some (vR 21), some (vR a2), some (vI x3), some (vI x4), some (vI y1)]) dX4_readDeed_87 (by decide) rfl ?_
  refine ev_aload_n (i := 2) dX4_readDeed_89 rfl rfl ?_
  refine ev_iconst dX4_readDeed_90 (r32c rfl) ?_
  refine ev_iload_n (i := 3) dX4_readDeed_91 rfl rfl ?_
  refine ev_iadd dX4_readDeed_92 ?_
  refine ev_iload dX4_readDeed_93 rfl ?_
  refine ev_if_eq (tgt := 104) dX4_readDeed_95 (by decide) (fun c2 => ?_) (fun c2 => ?_)
  · rw [if_pos c2] at h
    refine ev_iload dX4_readDeed_104 rfl ?_
    refine ev_fg [true, true, true, true, false, false] rfl ?_
    exact SX4_readDeed_1_21_106 q55 a2 x3 a2 (w32 (2 + x3)) y1 _ h
  · rw [if_neg c2] at h
    refine ev_iload dX4_readDeed_98 rfl ?_
    refine ev_ineg dX4_readDeed_100 ?_
    refine ev_goto (tgt := 106) dX4_readDeed_101 (by decide) ?_
    refine ev_fg [true, true, true, true, false, false] rfl ?_
    exact SX4_readDeed_1_21_106 q55 a2 x3 a2 (w32 (2 + x3)) (w32 (-y1)) _ h
def FX4_readDeed_1_21_55  : Nat → Nat → Int → Mm → Option Mm
  | 0, _, _, _ => none
  | n + 1, a2, x3, f => (if 2 ≤ x3 then FX4_readDeed_1_21_113 f else (b2 (FX4_isWord 100009 f) fun y1 f1 => (if y1 = 0 then FX4_readDeed_1_21_81 (FX4_readDeed_1_21_55 n) a2 x3 y1 100010 f1 else FX4_readDeed_1_21_81 (FX4_readDeed_1_21_55 n) a2 x3 y1 100009 f1)))
set_option maxHeartbeats 4000000 in
set_option maxRecDepth 100000 in
theorem SX4_readDeed_1_21_55 {G : GT} {l : Launch} {Q : Option AV → Mem → Prop}  : ∀ (n : Nat) (a2 : Nat) (x3 : Int) (f : Mm), OkV Q (FX4_readDeed_1_21_55  n a2 x3 f) → Ev G l MX4_readDeed (Rm 7 0 0) (ZM G Q 0 0) 0 0 55 [some (vR 1), some (vR 21), some (vR a2), some (vI x3), none, none] [] (SH, RF, f) := by
  intro n
  induction n with
  | zero => intro a2 x3 f h; exact absurd h (by rw [FX4_readDeed_1_21_55]; exact fun q => q)
  | succ n ih =>
    intro a2 x3 f h
    rw [FX4_readDeed_1_21_55] at h
    refine ev_iload_n (i := 3) dX4_readDeed_55 rfl rfl ?_
    refine ev_iconst dX4_readDeed_56 (r32c rfl) ?_
    refine ev_icmp_ge (tgt := 113) dX4_readDeed_57 (by decide) (fun c3 => ?_) (fun c3 => ?_)
    · rw [if_pos c3] at h
      refine ev_fg [false, true, false, false, true, true] rfl ?_
      exact SX4_readDeed_1_21_113   _ h
    · rw [if_neg c3] at h
      refine ev_aload_n (i := 0) dX4_readDeed_60 rfl rfl ?_
      refine ev_ldcS (i := 8) (tx := "takes") rfl dX4_readDeed_61 rfl ?_
      refine ev_cVI (b := 1) (av := [vR 100009]) (S := []) (fun q => q) h dX4_readDeed_63 (fun Q' q => TX4_isWord 100009 _ q) kvX4_isWord ml_X4_45 sh_1 rfl (RRc (by decide) (by decide)) (Nat.le_of_ble_eq_true rfl) ⟨Nat.le_of_ble_eq_true rfl, Nat.le_of_ble_eq_true rfl⟩ (fun y1 f1 h => ?_)
      refine ev_istore (L' := [some (vR 1), some (vR 21), some (vR a2), some (vI x3), some (vI y1), none]) dX4_readDeed_66 (by decide) rfl ?_
      refine ev_aload_n (i := 0) dX4_readDeed_68 rfl rfl ?_
      refine ev_iload dX4_readDeed_69 rfl ?_
      refine ev_if_eq (tgt := 79) dX4_readDeed_71 (by decide) (fun c2 => ?_) (fun c2 => ?_)
      · rw [if_pos c2] at h
        refine ev_ldcS (i := 9) (tx := "gives") rfl dX4_readDeed_79 rfl ?_
        exact SX4_readDeed_1_21_81 ih a2 x3 y1 100010 _ h
      · rw [if_neg c2] at h
        refine ev_ldcS (i := 8) (tx := "takes") rfl dX4_readDeed_74 rfl ?_
        refine ev_goto (tgt := 81) dX4_readDeed_76 (by decide) ?_
        exact SX4_readDeed_1_21_81 ih a2 x3 y1 100009 _ h
def FX4_readDeed_1_21_0   (f : Mm) : Option Mm := (if (f 21 4) < 4 then (if 0 ≤ (f 21 4) ∧ (f 21 4) < 4 then ((FX4_skipWord 100006 f).bind fun f2 => (b2 (FX4_named 100007 0 1 f2) fun y3 f3 => (b2 (FX4_named 100008 0 99 (up f3 (24 + (f 21 4).toNat) 0 y3)) fun y4 f4 => FX4_readDeed_1_21_55 fu (24 + (f 21 4).toNat) 0 (up f4 (24 + (f 21 4).toNat) 1 y4)))) else none) else ((FX4_fail 3 f).bind fun f5 => some f5))
set_option maxHeartbeats 4000000 in
set_option maxRecDepth 100000 in
theorem SX4_readDeed_1_21_0 {G : GT} {l : Launch} {Q : Option AV → Mem → Prop}   (f : Mm) (h : OkV Q (FX4_readDeed_1_21_0   f)) : Ev G l MX4_readDeed (Rm 7 0 0) (ZM G Q 0 0) 0 0 0 [some (vR 1), some (vR 21), none, none, none, none] [] (SH, RF, f) := by
  unfold FX4_readDeed_1_21_0 at h
  refine ev_aload_n (i := 1) dX4_readDeed_0 rfl rfl ?_
  refine ex_getI (x := (f 21 4)) dX4_readDeed_1 fl_X4_90 sh_21 (by decide) (by decide) rfl ?_
  refine ev_iconst dX4_readDeed_4 (r32c rfl) ?_
  refine ev_icmp_lt (tgt := 14) dX4_readDeed_5 (by decide) (fun c6 => ?_) (fun c6 => ?_)
  · rw [if_pos c6] at h
    refine ev_aload_n (i := 1) dX4_readDeed_14 rfl rfl ?_
    refine ev_getR dX4_readDeed_15 fl_X4_97 sh_21 (by decide) (by decide) rf_21_8 ?_
    refine ev_aload_n (i := 1) dX4_readDeed_18 rfl rfl ?_
    refine ex_getI (x := (f 21 4)) dX4_readDeed_19 fl_X4_90 sh_21 (by decide) (by decide) rfl ?_
    by_cases g1 : 0 ≤ (f 21 4) ∧ (f 21 4) < 4
    · rw [if_pos g1] at h
      refine ev_aald (b := (24 + (f 21 4).toNat)) dX4_readDeed_22 (Or.inl rfl) sh_23 g1.1 g1.2 (rfr_23 g1) ?_
      refine ev_astore_n (i := 2) (L' := [some (vR 1), some (vR 21), some (vR (24 + (f 21 4).toNat)), none, none, none]) dX4_readDeed_23 rfl (by decide) rfl ?_
      refine ev_aload_n (i := 0) dX4_readDeed_24 rfl rfl ?_
      refine ev_ldcS (i := 5) (tx := "deed") rfl dX4_readDeed_25 rfl ?_
      refine ev_cVV (b := 1) (av := [vR 100006]) (S := []) (fun q => q) h dX4_readDeed_27 (fun Q' q => TX4_skipWord 100006 _ q) kvX4_skipWord ml_X4_63 sh_1 rfl (RRc (by decide) (by decide)) (Nat.le_of_ble_eq_true rfl) ⟨Nat.le_of_ble_eq_true rfl, Nat.le_of_ble_eq_true rfl⟩ (fun f2 h => ?_)
      refine ev_aload_n (i := 2) dX4_readDeed_30 rfl rfl ?_
      refine ev_iconst dX4_readDeed_31 (r32c rfl) ?_
      refine ev_aload_n (i := 0) dX4_readDeed_32 rfl rfl ?_
      refine ev_ldcS (i := 6) (tx := "by") rfl dX4_readDeed_33 rfl ?_
      refine ev_iconst dX4_readDeed_35 (r32c rfl) ?_
      refine ev_iconst dX4_readDeed_36 (r32c rfl) ?_
      refine ev_cVI (b := 1) (av := [vR 100007, vI 0, vI 1]) (S := [vI 0, vR (24 + (f 21 4).toNat)]) (fun q => q) h dX4_readDeed_37 (fun Q' q => TX4_named 100007 0 1 _ q) kvX4_named ml_X4_69 sh_1 rfl (RRc (by decide) (by decide)) (Nat.le_of_ble_eq_true rfl) ⟨Nat.le_of_ble_eq_true rfl, Nat.le_of_ble_eq_true rfl⟩ (fun y3 f3 h => ?_)
      refine ex_iast (j := 0) dX4_readDeed_40 (shr_23 g1) (by decide) (by decide) rfl ?_
      refine ev_aload_n (i := 2) dX4_readDeed_41 rfl rfl ?_
      refine ev_iconst dX4_readDeed_42 (r32c rfl) ?_
      refine ev_aload_n (i := 0) dX4_readDeed_43 rfl rfl ?_
      refine ev_ldcS (i := 7) (tx := "costs") rfl dX4_readDeed_44 rfl ?_
      refine ev_iconst dX4_readDeed_46 (r32c rfl) ?_
      refine ev_bipush (v := 99) dX4_readDeed_47 (r32c rfl) (by decide) ?_
      refine ev_cVI (b := 1) (av := [vR 100008, vI 0, vI 99]) (S := [vI 1, vR (24 + (f 21 4).toNat)]) (fun q => q) h dX4_readDeed_49 (fun Q' q => TX4_named 100008 0 99 _ q) kvX4_named ml_X4_69 sh_1 rfl (RRc (by decide) (by decide)) (Nat.le_of_ble_eq_true rfl) ⟨Nat.le_of_ble_eq_true rfl, Nat.le_of_ble_eq_true rfl⟩ (fun y4 f4 h => ?_)
      refine ex_iast (j := 1) dX4_readDeed_52 (shr_23 g1) (by decide) (by decide) rfl ?_
      refine ev_iconst dX4_readDeed_53 (r32c rfl) ?_
      refine ev_istore_n (i := 3) (L' := [some (vR 1), some (vR 21), some (vR (24 + (f 21 4).toNat)), some (vI 0), none, none]) dX4_readDeed_54 rfl (by decide) rfl ?_
      exact SX4_readDeed_1_21_55  fu (24 + (f 21 4).toNat) 0 _ h
    · rw [if_neg g1] at h; exact h.elim
  · rw [if_neg c6] at h
    refine ev_aload_n (i := 0) dX4_readDeed_8 rfl rfl ?_
    refine ev_iconst dX4_readDeed_9 (r32c rfl) ?_
    refine ev_cVV (b := 1) (av := [vI 3]) (S := []) (fun q => q) h dX4_readDeed_10 (fun Q' q => TX4_fail 3 _ q) kvX4_fail ml_X4_93 sh_1 rfl (RRc (by decide) (by decide)) (Nat.le_of_ble_eq_true rfl) ⟨Nat.le_of_ble_eq_true rfl, Nat.le_of_ble_eq_true rfl⟩ (fun f5 h => ?_)
    exact ev_vret rfl dX4_readDeed_13 h
def FX4_readDeed_1_21  (f : Mm) : Option Mm := FX4_readDeed_1_21_0  f
set_option maxRecDepth 100000 in
theorem TX4_readDeed_1_21 {G : GT} {l : Launch} {Q : Option AV → Mem → Prop}  (f : Mm) (h : OkV Q (FX4_readDeed_1_21  f)) : Ret G l MX4_readDeed (7) 0 0 [vR 1, vR 21] (SH, RF, f) Q := by
  refine ret_of (L := [some (vR 1), some (vR 21), none, none, none, none]) (by decide) rfl (Nat.le_of_ble_eq_true rfl) ?_
  exact SX4_readDeed_1_21_0  f h
theorem dX4_readCart_23 : decode cX4_readCart 23 = .ok (.aload_n 0, 1) := by decide +kernel
theorem dX4_readCart_24 : decode cX4_readCart 24 = .ok (.ldc 109, 2) := by decide +kernel
theorem dX4_readCart_26 : decode cX4_readCart 26 = .ok (.invokevirtual 63, 3) := by decide +kernel
theorem dX4_readCart_29 : decode cX4_readCart 29 = .ok (.aload_n 0, 1) := by decide +kernel
theorem dX4_readCart_30 : decode cX4_readCart 30 = .ok (.getfield 22, 3) := by decide +kernel
theorem dX4_readCart_33 : decode cX4_readCart 33 = .ok (.ifCond .eq 4, 3) := by decide +kernel
theorem dX4_readCart_37 : decode cX4_readCart 37 = .ok (.aload_n 1, 1) := by decide +kernel
theorem dX4_readCart_38 : decode cX4_readCart 38 = .ok (.getfield 114, 3) := by decide +kernel
theorem dX4_readCart_41 : decode cX4_readCart 41 = .ok (.aload_n 1, 1) := by decide +kernel
theorem dX4_readCart_42 : decode cX4_readCart 42 = .ok (.getfield 111, 3) := by decide +kernel
theorem dX4_readCart_45 : decode cX4_readCart 45 = .ok (.aaload, 1) := by decide +kernel
theorem dX4_readCart_46 : decode cX4_readCart 46 = .ok (.astore_n 2, 1) := by decide +kernel
theorem dX4_readCart_47 : decode cX4_readCart 47 = .ok (.aload_n 2, 1) := by decide +kernel
theorem dX4_readCart_48 : decode cX4_readCart 48 = .ok (.iconst 0, 1) := by decide +kernel
theorem dX4_readCart_49 : decode cX4_readCart 49 = .ok (.aload_n 0, 1) := by decide +kernel
theorem dX4_readCart_50 : decode cX4_readCart 50 = .ok (.ldc 117, 2) := by decide +kernel
theorem dX4_readCart_52 : decode cX4_readCart 52 = .ok (.iconst 0, 1) := by decide +kernel
theorem dX4_readCart_53 : decode cX4_readCart 53 = .ok (.iconst 1, 1) := by decide +kernel
theorem dX4_readCart_54 : decode cX4_readCart 54 = .ok (.invokevirtual 69, 3) := by decide +kernel
theorem dX4_readCart_57 : decode cX4_readCart 57 = .ok (.iastore, 1) := by decide +kernel
theorem dX4_readCart_58 : decode cX4_readCart 58 = .ok (.aload_n 2, 1) := by decide +kernel
theorem dX4_readCart_59 : decode cX4_readCart 59 = .ok (.iconst 1, 1) := by decide +kernel
theorem dX4_readCart_60 : decode cX4_readCart 60 = .ok (.aload_n 0, 1) := by decide +kernel
theorem dX4_readCart_61 : decode cX4_readCart 61 = .ok (.ldc 119, 2) := by decide +kernel
theorem dX4_readCart_63 : decode cX4_readCart 63 = .ok (.iconst 1, 1) := by decide +kernel
theorem dX4_readCart_64 : decode cX4_readCart 64 = .ok (.bipush 40, 2) := by decide +kernel
theorem dX4_readCart_66 : decode cX4_readCart 66 = .ok (.invokevirtual 69, 3) := by decide +kernel
theorem dX4_readCart_69 : decode cX4_readCart 69 = .ok (.iastore, 1) := by decide +kernel
theorem dX4_readCart_70 : decode cX4_readCart 70 = .ok (.aload_n 2, 1) := by decide +kernel
theorem dX4_readCart_71 : decode cX4_readCart 71 = .ok (.iconst 2, 1) := by decide +kernel
theorem dX4_readCart_72 : decode cX4_readCart 72 = .ok (.aload_n 0, 1) := by decide +kernel
theorem dX4_readCart_73 : decode cX4_readCart 73 = .ok (.ldc 121, 2) := by decide +kernel
theorem dX4_readCart_75 : decode cX4_readCart 75 = .ok (.iconst 0, 1) := by decide +kernel
theorem dX4_readCart_76 : decode cX4_readCart 76 = .ok (.bipush 9, 2) := by decide +kernel
theorem dX4_readCart_78 : decode cX4_readCart 78 = .ok (.invokevirtual 69, 3) := by decide +kernel
theorem dX4_readCart_81 : decode cX4_readCart 81 = .ok (.iastore, 1) := by decide +kernel
theorem dX4_readCart_82 : decode cX4_readCart 82 = .ok (.aload_n 2, 1) := by decide +kernel
theorem dX4_readCart_83 : decode cX4_readCart 83 = .ok (.iconst 3, 1) := by decide +kernel
theorem dX4_readCart_84 : decode cX4_readCart 84 = .ok (.aload_n 0, 1) := by decide +kernel
theorem dX4_readCart_85 : decode cX4_readCart 85 = .ok (.ldc 123, 2) := by decide +kernel
theorem dX4_readCart_87 : decode cX4_readCart 87 = .ok (.iconst 0, 1) := by decide +kernel
theorem dX4_readCart_88 : decode cX4_readCart 88 = .ok (.bipush 9, 2) := by decide +kernel
theorem dX4_readCart_90 : decode cX4_readCart 90 = .ok (.invokevirtual 69, 3) := by decide +kernel
theorem dX4_readCart_93 : decode cX4_readCart 93 = .ok (.iastore, 1) := by decide +kernel
theorem dX4_readCart_94 : decode cX4_readCart 94 = .ok (.aload_n 2, 1) := by decide +kernel
theorem dX4_readCart_95 : decode cX4_readCart 95 = .ok (.iconst 4, 1) := by decide +kernel
theorem dX4_readCart_96 : decode cX4_readCart 96 = .ok (.aload_n 0, 1) := by decide +kernel
theorem dX4_readCart_97 : decode cX4_readCart 97 = .ok (.ldc 125, 2) := by decide +kernel
theorem dX4_readCart_99 : decode cX4_readCart 99 = .ok (.iconst 0, 1) := by decide +kernel
theorem dX4_readCart_100 : decode cX4_readCart 100 = .ok (.sipush 999, 3) := by decide +kernel
theorem dX4_readCart_103 : decode cX4_readCart 103 = .ok (.invokevirtual 69, 3) := by decide +kernel
theorem dX4_readCart_106 : decode cX4_readCart 106 = .ok (.iastore, 1) := by decide +kernel
theorem dX4_readCart_107 : decode cX4_readCart 107 = .ok (.aload_n 1, 1) := by decide +kernel
theorem dX4_readCart_108 : decode cX4_readCart 108 = .ok (.dup, 1) := by decide +kernel
theorem dX4_readCart_109 : decode cX4_readCart 109 = .ok (.getfield 111, 3) := by decide +kernel
theorem dX4_readCart_112 : decode cX4_readCart 112 = .ok (.iconst 1, 1) := by decide +kernel
theorem dX4_readCart_113 : decode cX4_readCart 113 = .ok (.iadd, 1) := by decide +kernel
theorem dX4_readCart_114 : decode cX4_readCart 114 = .ok (.putfield 111, 3) := by decide +kernel
theorem dX4_readCart_117 : decode cX4_readCart 117 = .ok (.return_, 1) := by decide +kernel
theorem dX4_readCart_36 : decode cX4_readCart 36 = .ok (.return_, 1) := by decide +kernel
theorem dX4_readCart_0 : decode cX4_readCart 0 = .ok (.aload_n 0, 1) := by decide +kernel
theorem dX4_readCart_1 : decode cX4_readCart 1 = .ok (.ldc 109, 2) := by decide +kernel
theorem dX4_readCart_3 : decode cX4_readCart 3 = .ok (.invokevirtual 45, 3) := by decide +kernel
theorem dX4_readCart_6 : decode cX4_readCart 6 = .ok (.ifCond .eq 17, 3) := by decide +kernel
theorem dX4_readCart_9 : decode cX4_readCart 9 = .ok (.aload_n 1, 1) := by decide +kernel
theorem dX4_readCart_10 : decode cX4_readCart 10 = .ok (.getfield 111, 3) := by decide +kernel
theorem dX4_readCart_13 : decode cX4_readCart 13 = .ok (.bipush 6, 2) := by decide +kernel
theorem dX4_readCart_15 : decode cX4_readCart 15 = .ok (.if_icmp .lt 8, 3) := by decide +kernel
theorem dX4_readCart_18 : decode cX4_readCart 18 = .ok (.aload_n 0, 1) := by decide +kernel
theorem dX4_readCart_19 : decode cX4_readCart 19 = .ok (.iconst 3, 1) := by decide +kernel
theorem dX4_readCart_20 : decode cX4_readCart 20 = .ok (.invokevirtual 93, 3) := by decide +kernel
def FX4_readCart_1_21_23   (f : Mm) : Option Mm := ((FX4_skipWord 100011 f).bind fun f1 => (if (f1 1 0) = 0 then (if 0 ≤ (f1 21 5) ∧ (f1 21 5) < 6 then (b2 (FX4_named 100012 0 1 f1) fun y3 f3 => (b2 (FX4_named 100013 1 40 (up f3 (29 + (f1 21 5).toNat) 0 y3)) fun y4 f4 => (b2 (FX4_named 100014 0 9 (up f4 (29 + (f1 21 5).toNat) 1 y4)) fun y5 f5 => (b2 (FX4_named 100015 0 9 (up f5 (29 + (f1 21 5).toNat) 2 y5)) fun y6 f6 => (b2 (FX4_named 100016 0 999 (up f6 (29 + (f1 21 5).toNat) 3 y6)) fun y7 f7 => some (up (up f7 (29 + (f1 21 5).toNat) 4 y7) 21 5 (w32 (((up f7 (29 + (f1 21 5).toNat) 4 y7) 21 5) + 1)))))))) else none) else some f1))
set_option maxHeartbeats 4000000 in
set_option maxRecDepth 100000 in
theorem SX4_readCart_1_21_23 {G : GT} {l : Launch} {Q : Option AV → Mem → Prop}   (f : Mm) (h : OkV Q (FX4_readCart_1_21_23   f)) : Ev G l MX4_readCart (Rm 7 0 0) (ZM G Q 0 0) 0 0 23 [some (vR 1), some (vR 21), none] [] (SH, RF, f) := by
  unfold FX4_readCart_1_21_23 at h
  refine ev_aload_n (i := 0) dX4_readCart_23 rfl rfl ?_
  refine ev_ldcS (i := 10) (tx := "cart") rfl dX4_readCart_24 rfl ?_
  refine ev_cVV (b := 1) (av := [vR 100011]) (S := []) (fun q => q) h dX4_readCart_26 (fun Q' q => TX4_skipWord 100011 _ q) kvX4_skipWord ml_X4_63 sh_1 rfl (RRc (by decide) (by decide)) (Nat.le_of_ble_eq_true rfl) ⟨Nat.le_of_ble_eq_true rfl, Nat.le_of_ble_eq_true rfl⟩ (fun f1 h => ?_)
  refine ev_aload_n (i := 0) dX4_readCart_29 rfl rfl ?_
  refine ex_getI (x := (f1 1 0)) dX4_readCart_30 fl_X4_22 sh_1 (by decide) (by decide) rfl ?_
  refine ev_if_eq (tgt := 37) dX4_readCart_33 (by decide) (fun c8 => ?_) (fun c8 => ?_)
  · rw [if_pos c8] at h
    refine ev_aload_n (i := 1) dX4_readCart_37 rfl rfl ?_
    refine ev_getR dX4_readCart_38 fl_X4_114 sh_21 (by decide) (by decide) rf_21_9 ?_
    refine ev_aload_n (i := 1) dX4_readCart_41 rfl rfl ?_
    refine ex_getI (x := (f1 21 5)) dX4_readCart_42 fl_X4_111 sh_21 (by decide) (by decide) rfl ?_
    by_cases g2 : 0 ≤ (f1 21 5) ∧ (f1 21 5) < 6
    · rw [if_pos g2] at h
      refine ev_aald (b := (29 + (f1 21 5).toNat)) dX4_readCart_45 (Or.inl rfl) sh_28 g2.1 g2.2 (rfr_28 g2) ?_
      refine ev_astore_n (i := 2) (L' := [some (vR 1), some (vR 21), some (vR (29 + (f1 21 5).toNat))]) dX4_readCart_46 rfl (by decide) rfl ?_
      refine ev_aload_n (i := 2) dX4_readCart_47 rfl rfl ?_
      refine ev_iconst dX4_readCart_48 (r32c rfl) ?_
      refine ev_aload_n (i := 0) dX4_readCart_49 rfl rfl ?_
      refine ev_ldcS (i := 11) (tx := "on") rfl dX4_readCart_50 rfl ?_
      refine ev_iconst dX4_readCart_52 (r32c rfl) ?_
      refine ev_iconst dX4_readCart_53 (r32c rfl) ?_
      refine ev_cVI (b := 1) (av := [vR 100012, vI 0, vI 1]) (S := [vI 0, vR (29 + (f1 21 5).toNat)]) (fun q => q) h dX4_readCart_54 (fun Q' q => TX4_named 100012 0 1 _ q) kvX4_named ml_X4_69 sh_1 rfl (RRc (by decide) (by decide)) (Nat.le_of_ble_eq_true rfl) ⟨Nat.le_of_ble_eq_true rfl, Nat.le_of_ble_eq_true rfl⟩ (fun y3 f3 h => ?_)
      refine ex_iast (j := 0) dX4_readCart_57 (shr_28 g2) (by decide) (by decide) rfl ?_
      refine ev_aload_n (i := 2) dX4_readCart_58 rfl rfl ?_
      refine ev_iconst dX4_readCart_59 (r32c rfl) ?_
      refine ev_aload_n (i := 0) dX4_readCart_60 rfl rfl ?_
      refine ev_ldcS (i := 12) (tx := "wide") rfl dX4_readCart_61 rfl ?_
      refine ev_iconst dX4_readCart_63 (r32c rfl) ?_
      refine ev_bipush (v := 40) dX4_readCart_64 (r32c rfl) (by decide) ?_
      refine ev_cVI (b := 1) (av := [vR 100013, vI 1, vI 40]) (S := [vI 1, vR (29 + (f1 21 5).toNat)]) (fun q => q) h dX4_readCart_66 (fun Q' q => TX4_named 100013 1 40 _ q) kvX4_named ml_X4_69 sh_1 rfl (RRc (by decide) (by decide)) (Nat.le_of_ble_eq_true rfl) ⟨Nat.le_of_ble_eq_true rfl, Nat.le_of_ble_eq_true rfl⟩ (fun y4 f4 h => ?_)
      refine ex_iast (j := 1) dX4_readCart_69 (shr_28 g2) (by decide) (by decide) rfl ?_
      refine ev_aload_n (i := 2) dX4_readCart_70 rfl rfl ?_
      refine ev_iconst dX4_readCart_71 (r32c rfl) ?_
      refine ev_aload_n (i := 0) dX4_readCart_72 rfl rfl ?_
      refine ev_ldcS (i := 13) (tx := "from") rfl dX4_readCart_73 rfl ?_
      refine ev_iconst dX4_readCart_75 (r32c rfl) ?_
      refine ev_bipush (v := 9) dX4_readCart_76 (r32c rfl) (by decide) ?_
      refine ev_cVI (b := 1) (av := [vR 100014, vI 0, vI 9]) (S := [vI 2, vR (29 + (f1 21 5).toNat)]) (fun q => q) h dX4_readCart_78 (fun Q' q => TX4_named 100014 0 9 _ q) kvX4_named ml_X4_69 sh_1 rfl (RRc (by decide) (by decide)) (Nat.le_of_ble_eq_true rfl) ⟨Nat.le_of_ble_eq_true rfl, Nat.le_of_ble_eq_true rfl⟩ (fun y5 f5 h => ?_)
      refine ex_iast (j := 2) dX4_readCart_81 (shr_28 g2) (by decide) (by decide) rfl ?_
      refine ev_aload_n (i := 2) dX4_readCart_82 rfl rfl ?_
      refine ev_iconst dX4_readCart_83 (r32c rfl) ?_
      refine ev_aload_n (i := 0) dX4_readCart_84 rfl rfl ?_
      refine ev_ldcS (i := 14) (tx := "due") rfl dX4_readCart_85 rfl ?_
      refine ev_iconst dX4_readCart_87 (r32c rfl) ?_
      refine ev_bipush (v := 9) dX4_readCart_88 (r32c rfl) (by decide) ?_
      refine ev_cVI (b := 1) (av := [vR 100015, vI 0, vI 9]) (S := [vI 3, vR (29 + (f1 21 5).toNat)]) (fun q => q) h dX4_readCart_90 (fun Q' q => TX4_named 100015 0 9 _ q) kvX4_named ml_X4_69 sh_1 rfl (RRc (by decide) (by decide)) (Nat.le_of_ble_eq_true rfl) ⟨Nat.le_of_ble_eq_true rfl, Nat.le_of_ble_eq_true rfl⟩ (fun y6 f6 h => ?_)
      refine ex_iast (j := 3) dX4_readCart_93 (shr_28 g2) (by decide) (by decide) rfl ?_
      refine ev_aload_n (i := 2) dX4_readCart_94 rfl rfl ?_
      refine ev_iconst dX4_readCart_95 (r32c rfl) ?_
      refine ev_aload_n (i := 0) dX4_readCart_96 rfl rfl ?_
      refine ev_ldcS (i := 15) (tx := "pays") rfl dX4_readCart_97 rfl ?_
      refine ev_iconst dX4_readCart_99 (r32c rfl) ?_
      refine ev_sipush (v := 999) dX4_readCart_100 (r32c rfl) (by decide) ?_
      refine ev_cVI (b := 1) (av := [vR 100016, vI 0, vI 999]) (S := [vI 4, vR (29 + (f1 21 5).toNat)]) (fun q => q) h dX4_readCart_103 (fun Q' q => TX4_named 100016 0 999 _ q) kvX4_named ml_X4_69 sh_1 rfl (RRc (by decide) (by decide)) (Nat.le_of_ble_eq_true rfl) ⟨Nat.le_of_ble_eq_true rfl, Nat.le_of_ble_eq_true rfl⟩ (fun y7 f7 h => ?_)
      refine ex_iast (j := 4) dX4_readCart_106 (shr_28 g2) (by decide) (by decide) rfl ?_
      refine ev_aload_n (i := 1) dX4_readCart_107 rfl rfl ?_
      refine ev_dupR dX4_readCart_108 ?_
      refine ex_getI (x := ((up f7 (29 + (f1 21 5).toNat) 4 y7) 21 5)) dX4_readCart_109 fl_X4_111 sh_21 (by decide) (by decide) rfl ?_
      refine ev_iconst dX4_readCart_112 (r32c rfl) ?_
      refine ev_iadd dX4_readCart_113 ?_
      refine ev_putI dX4_readCart_114 fl_X4_111 sh_21 (by decide) (by decide) ?_
      exact ev_vret rfl dX4_readCart_117 h
    · rw [if_neg g2] at h; exact h.elim
  · rw [if_neg c8] at h
    exact ev_vret rfl dX4_readCart_36 h
def FX4_readCart_1_21_0   (f : Mm) : Option Mm := (b2 (FX4_isWord 100011 f) fun y1 f1 => (if y1 = 0 then FX4_readCart_1_21_23 f1 else (if (f1 21 5) < 6 then FX4_readCart_1_21_23 f1 else ((FX4_fail 3 f1).bind fun f2 => FX4_readCart_1_21_23 f2))))
set_option maxHeartbeats 4000000 in
set_option maxRecDepth 100000 in
theorem SX4_readCart_1_21_0 {G : GT} {l : Launch} {Q : Option AV → Mem → Prop}   (f : Mm) (h : OkV Q (FX4_readCart_1_21_0   f)) : Ev G l MX4_readCart (Rm 7 0 0) (ZM G Q 0 0) 0 0 0 [some (vR 1), some (vR 21), none] [] (SH, RF, f) := by
  unfold FX4_readCart_1_21_0 at h
  refine ev_aload_n (i := 0) dX4_readCart_0 rfl rfl ?_
  refine ev_ldcS (i := 10) (tx := "cart") rfl dX4_readCart_1 rfl ?_
  refine ev_cVI (b := 1) (av := [vR 100011]) (S := []) (fun q => q) h dX4_readCart_3 (fun Q' q => TX4_isWord 100011 _ q) kvX4_isWord ml_X4_45 sh_1 rfl (RRc (by decide) (by decide)) (Nat.le_of_ble_eq_true rfl) ⟨Nat.le_of_ble_eq_true rfl, Nat.le_of_ble_eq_true rfl⟩ (fun y1 f1 h => ?_)
  refine ev_if_eq (tgt := 23) dX4_readCart_6 (by decide) (fun c4 => ?_) (fun c4 => ?_)
  · rw [if_pos c4] at h
    exact SX4_readCart_1_21_23   _ h
  · rw [if_neg c4] at h
    refine ev_aload_n (i := 1) dX4_readCart_9 rfl rfl ?_
    refine ex_getI (x := (f1 21 5)) dX4_readCart_10 fl_X4_111 sh_21 (by decide) (by decide) rfl ?_
    refine ev_bipush (v := 6) dX4_readCart_13 (r32c rfl) (by decide) ?_
    refine ev_icmp_lt (tgt := 23) dX4_readCart_15 (by decide) (fun c3 => ?_) (fun c3 => ?_)
    · rw [if_pos c3] at h
      exact SX4_readCart_1_21_23   _ h
    · rw [if_neg c3] at h
      refine ev_aload_n (i := 0) dX4_readCart_18 rfl rfl ?_
      refine ev_iconst dX4_readCart_19 (r32c rfl) ?_
      refine ev_cVV (b := 1) (av := [vI 3]) (S := []) (fun q => q) h dX4_readCart_20 (fun Q' q => TX4_fail 3 _ q) kvX4_fail ml_X4_93 sh_1 rfl (RRc (by decide) (by decide)) (Nat.le_of_ble_eq_true rfl) ⟨Nat.le_of_ble_eq_true rfl, Nat.le_of_ble_eq_true rfl⟩ (fun f2 h => ?_)
      exact SX4_readCart_1_21_23   _ h
def FX4_readCart_1_21  (f : Mm) : Option Mm := FX4_readCart_1_21_0  f
set_option maxRecDepth 100000 in
theorem TX4_readCart_1_21 {G : GT} {l : Launch} {Q : Option AV → Mem → Prop}  (f : Mm) (h : OkV Q (FX4_readCart_1_21  f)) : Ret G l MX4_readCart (7) 0 0 [vR 1, vR 21] (SH, RF, f) Q := by
  refine ret_of (L := [some (vR 1), some (vR 21), none]) (by decide) rfl (Nat.le_of_ble_eq_true rfl) ?_
  exact SX4_readCart_1_21_0  f h
theorem dX4_skipSign_13 : decode cX4_skipSign 13 = .ok (.aload_n 0, 1) := by decide +kernel
theorem dX4_skipSign_14 : decode cX4_skipSign 14 = .ok (.invokevirtual 33, 3) := by decide +kernel
theorem dX4_skipSign_17 : decode cX4_skipSign 17 = .ok (.return_, 1) := by decide +kernel
theorem dX4_skipSign_0 : decode cX4_skipSign 0 = .ok (.aload_n 0, 1) := by decide +kernel
theorem dX4_skipSign_1 : decode cX4_skipSign 1 = .ok (.getfield 36, 3) := by decide +kernel
theorem dX4_skipSign_4 : decode cX4_skipSign 4 = .ok (.iconst 3, 1) := by decide +kernel
theorem dX4_skipSign_5 : decode cX4_skipSign 5 = .ok (.if_icmp .eq 8, 3) := by decide +kernel
theorem dX4_skipSign_8 : decode cX4_skipSign 8 = .ok (.aload_n 0, 1) := by decide +kernel
theorem dX4_skipSign_9 : decode cX4_skipSign 9 = .ok (.iconst 1, 1) := by decide +kernel
theorem dX4_skipSign_10 : decode cX4_skipSign 10 = .ok (.invokevirtual 93, 3) := by decide +kernel
def FX4_skipSign_13   (f : Mm) : Option Mm := ((FX4_next f).bind fun f1 => some f1)
set_option maxHeartbeats 4000000 in
set_option maxRecDepth 100000 in
theorem SX4_skipSign_13 {G : GT} {l : Launch} {Q : Option AV → Mem → Prop}   (f : Mm) (h : OkV Q (FX4_skipSign_13   f)) : Ev G l MX4_skipSign (Rm 4 0 0) (ZM G Q 0 0) 0 0 13 [some (vR 1)] [] (SH, RF, f) := by
  unfold FX4_skipSign_13 at h
  refine ev_aload_n (i := 0) dX4_skipSign_13 rfl rfl ?_
  refine ev_cVV (b := 1) (av := []) (S := []) (fun q => q) h dX4_skipSign_14 (fun Q' q => TX4_next _ q) kvX4_next ml_X4_33 sh_1 rfl (RRc (by decide) (by decide)) (Nat.le_of_ble_eq_true rfl) ⟨Nat.le_of_ble_eq_true rfl, Nat.le_of_ble_eq_true rfl⟩ (fun f1 h => ?_)
  exact ev_vret rfl dX4_skipSign_17 h
def FX4_skipSign_0   (f : Mm) : Option Mm := (if (f 1 3) = 3 then FX4_skipSign_13 f else ((FX4_fail 1 f).bind fun f1 => FX4_skipSign_13 f1))
set_option maxHeartbeats 4000000 in
set_option maxRecDepth 100000 in
theorem SX4_skipSign_0 {G : GT} {l : Launch} {Q : Option AV → Mem → Prop}   (f : Mm) (h : OkV Q (FX4_skipSign_0   f)) : Ev G l MX4_skipSign (Rm 4 0 0) (ZM G Q 0 0) 0 0 0 [some (vR 1)] [] (SH, RF, f) := by
  unfold FX4_skipSign_0 at h
  refine ev_aload_n (i := 0) dX4_skipSign_0 rfl rfl ?_
  refine ex_getI (x := (f 1 3)) dX4_skipSign_1 fl_X4_36 sh_1 (by decide) (by decide) rfl ?_
  refine ev_iconst dX4_skipSign_4 (r32c rfl) ?_
  refine ev_icmp_eq (tgt := 13) dX4_skipSign_5 (by decide) (fun c2 => ?_) (fun c2 => ?_)
  · rw [if_pos c2] at h
    exact SX4_skipSign_13   _ h
  · rw [if_neg c2] at h
    refine ev_aload_n (i := 0) dX4_skipSign_8 rfl rfl ?_
    refine ev_iconst dX4_skipSign_9 (r32c rfl) ?_
    refine ev_cVV (b := 1) (av := [vI 1]) (S := []) (fun q => q) h dX4_skipSign_10 (fun Q' q => TX4_fail 1 _ q) kvX4_fail ml_X4_93 sh_1 rfl (RRc (by decide) (by decide)) (Nat.le_of_ble_eq_true rfl) ⟨Nat.le_of_ble_eq_true rfl, Nat.le_of_ble_eq_true rfl⟩ (fun f1 h => ?_)
    exact SX4_skipSign_13   _ h
def FX4_skipSign  (f : Mm) : Option Mm := FX4_skipSign_0  f
set_option maxRecDepth 100000 in
theorem TX4_skipSign {G : GT} {l : Launch} {Q : Option AV → Mem → Prop}  (f : Mm) (h : OkV Q (FX4_skipSign  f)) : Ret G l MX4_skipSign (4) 0 0 [vR 1] (SH, RF, f) Q := by
  refine ret_of (L := [some (vR 1)]) (by decide) rfl (Nat.le_of_ble_eq_true rfl) ?_
  exact SX4_skipSign_0  f h
theorem dX4_readAll_80 : decode cX4_readAll 80 = .ok (.aload_n 0, 1) := by decide +kernel
theorem dX4_readAll_81 : decode cX4_readAll 81 = .ok (.invokevirtual 55, 3) := by decide +kernel
theorem dX4_readAll_84 : decode cX4_readAll 84 = .ok (.aload_n 1, 1) := by decide +kernel
theorem dX4_readAll_85 : decode cX4_readAll 85 = .ok (.dup, 1) := by decide +kernel
theorem dX4_readAll_86 : decode cX4_readAll 86 = .ok (.getfield 58, 3) := by decide +kernel
theorem dX4_readAll_89 : decode cX4_readAll 89 = .ok (.iconst 1, 1) := by decide +kernel
theorem dX4_readAll_90 : decode cX4_readAll 90 = .ok (.iadd, 1) := by decide +kernel
theorem dX4_readAll_91 : decode cX4_readAll 91 = .ok (.putfield 58, 3) := by decide +kernel
theorem dX4_readAll_94 : decode cX4_readAll 94 = .ok (.iinc 2 1, 3) := by decide +kernel
theorem dX4_readAll_97 : decode cX4_readAll 97 = .ok (.goto (-72), 3) := by decide +kernel
theorem dX4_readAll_25 : decode cX4_readAll 25 = .ok (.iload_n 2, 1) := by decide +kernel
theorem dX4_readAll_26 : decode cX4_readAll 26 = .ok (.sipush 800, 3) := by decide +kernel
theorem dX4_readAll_29 : decode cX4_readAll 29 = .ok (.if_icmp .gt 71, 3) := by decide +kernel
theorem dX4_readAll_100 : decode cX4_readAll 100 = .ok (.return_, 1) := by decide +kernel
theorem dX4_readAll_32 : decode cX4_readAll 32 = .ok (.aload_n 0, 1) := by decide +kernel
theorem dX4_readAll_33 : decode cX4_readAll 33 = .ok (.getfield 36, 3) := by decide +kernel
theorem dX4_readAll_36 : decode cX4_readAll 36 = .ok (.ifCond .eq 64, 3) := by decide +kernel
theorem dX4_readAll_39 : decode cX4_readAll 39 = .ok (.aload_n 0, 1) := by decide +kernel
theorem dX4_readAll_40 : decode cX4_readAll 40 = .ok (.getfield 22, 3) := by decide +kernel
theorem dX4_readAll_43 : decode cX4_readAll 43 = .ok (.ifCond .ne 57, 3) := by decide +kernel
theorem dX4_readAll_46 : decode cX4_readAll 46 = .ok (.iload_n 2, 1) := by decide +kernel
theorem dX4_readAll_47 : decode cX4_readAll 47 = .ok (.ifCond .ne 11, 3) := by decide +kernel
theorem dX4_readAll_58 : decode cX4_readAll 58 = .ok (.aload_n 0, 1) := by decide +kernel
theorem dX4_readAll_59 : decode cX4_readAll 59 = .ok (.ldc 43, 2) := by decide +kernel
theorem dX4_readAll_61 : decode cX4_readAll 61 = .ok (.invokevirtual 45, 3) := by decide +kernel
theorem dX4_readAll_64 : decode cX4_readAll 64 = .ok (.ifCond .eq 11, 3) := by decide +kernel
theorem dX4_readAll_75 : decode cX4_readAll 75 = .ok (.aload_n 0, 1) := by decide +kernel
theorem dX4_readAll_76 : decode cX4_readAll 76 = .ok (.aload_n 1, 1) := by decide +kernel
theorem dX4_readAll_77 : decode cX4_readAll 77 = .ok (.invokevirtual 52, 3) := by decide +kernel
theorem dX4_readAll_67 : decode cX4_readAll 67 = .ok (.aload_n 0, 1) := by decide +kernel
theorem dX4_readAll_68 : decode cX4_readAll 68 = .ok (.aload_n 1, 1) := by decide +kernel
theorem dX4_readAll_69 : decode cX4_readAll 69 = .ok (.invokevirtual 49, 3) := by decide +kernel
theorem dX4_readAll_72 : decode cX4_readAll 72 = .ok (.goto 8, 3) := by decide +kernel
theorem dX4_readAll_50 : decode cX4_readAll 50 = .ok (.aload_n 0, 1) := by decide +kernel
theorem dX4_readAll_51 : decode cX4_readAll 51 = .ok (.aload_n 1, 1) := by decide +kernel
theorem dX4_readAll_52 : decode cX4_readAll 52 = .ok (.invokevirtual 39, 3) := by decide +kernel
theorem dX4_readAll_55 : decode cX4_readAll 55 = .ok (.goto 25, 3) := by decide +kernel
theorem dX4_readAll_0 : decode cX4_readAll 0 = .ok (.aload_n 0, 1) := by decide +kernel
theorem dX4_readAll_1 : decode cX4_readAll 1 = .ok (.iconst 0, 1) := by decide +kernel
theorem dX4_readAll_2 : decode cX4_readAll 2 = .ok (.putfield 22, 3) := by decide +kernel
theorem dX4_readAll_5 : decode cX4_readAll 5 = .ok (.aload_n 0, 1) := by decide +kernel
theorem dX4_readAll_6 : decode cX4_readAll 6 = .ok (.iconst (-1), 1) := by decide +kernel
theorem dX4_readAll_7 : decode cX4_readAll 7 = .ok (.putfield 9, 3) := by decide +kernel
theorem dX4_readAll_10 : decode cX4_readAll 10 = .ok (.aload_n 0, 1) := by decide +kernel
theorem dX4_readAll_11 : decode cX4_readAll 11 = .ok (.iconst 0, 1) := by decide +kernel
theorem dX4_readAll_12 : decode cX4_readAll 12 = .ok (.putfield 25, 3) := by decide +kernel
theorem dX4_readAll_15 : decode cX4_readAll 15 = .ok (.aload_n 1, 1) := by decide +kernel
theorem dX4_readAll_16 : decode cX4_readAll 16 = .ok (.invokevirtual 28, 3) := by decide +kernel
theorem dX4_readAll_19 : decode cX4_readAll 19 = .ok (.aload_n 0, 1) := by decide +kernel
theorem dX4_readAll_20 : decode cX4_readAll 20 = .ok (.invokevirtual 33, 3) := by decide +kernel
theorem dX4_readAll_23 : decode cX4_readAll 23 = .ok (.iconst 0, 1) := by decide +kernel
theorem dX4_readAll_24 : decode cX4_readAll 24 = .ok (.istore_n 2, 1) := by decide +kernel
def FX4_readAll_1_21_80 (k25 : Int → Mm → Option Mm) (x2 : Int) (f : Mm) : Option Mm := ((FX4_skipSign f).bind fun f1 => k25 (w32 (x2 + 1)) (up f1 21 0 (w32 ((f1 21 0) + 1))))
set_option maxHeartbeats 4000000 in
set_option maxRecDepth 100000 in
theorem SX4_readAll_1_21_80 {G : GT} {l : Launch} {Q : Option AV → Mem → Prop} {k25 : Int → Mm → Option Mm} (q25 : ∀ (x2 : Int) (f : Mm), OkV Q (k25 x2 f) → Ev G l MX4_readAll (Rm 8 0 0) (ZM G Q 0 0) 0 0 25 [some (vR 1), some (vR 21), some (vI x2)] [] (SH, RF, f)) (x2 : Int) (f : Mm) (h : OkV Q (FX4_readAll_1_21_80 k25 x2 f)) : Ev G l MX4_readAll (Rm 8 0 0) (ZM G Q 0 0) 0 0 80 [some (vR 1), some (vR 21), some (vI x2)] [] (SH, RF, f) := by
  unfold FX4_readAll_1_21_80 at h
  refine ev_aload_n (i := 0) dX4_readAll_80 rfl rfl ?_
  refine ev_cVV (b := 1) (av := []) (S := []) (fun q => q) h dX4_readAll_81 (fun Q' q => TX4_skipSign _ q) kvX4_skipSign ml_X4_55 sh_1 rfl (RRc (by decide) (by decide)) (Nat.le_of_ble_eq_true rfl) ⟨Nat.le_of_ble_eq_true rfl, Nat.le_of_ble_eq_true rfl⟩ (fun f1 h => ?_)
  refine ev_aload_n (i := 1) dX4_readAll_84 rfl rfl ?_
  refine ev_dupR dX4_readAll_85 ?_
  refine ex_getI (x := (f1 21 0)) dX4_readAll_86 fl_X4_58 sh_21 (by decide) (by decide) rfl ?_
  refine ev_iconst dX4_readAll_89 (r32c rfl) ?_
  refine ev_iadd dX4_readAll_90 ?_
  refine ev_putI dX4_readAll_91 fl_X4_58 sh_21 (by decide) (by decide) ?_
  refine ev_iinc (L' := [some (vR 1), some (vR 21), some (vI (w32 (x2 + 1)))]) dX4_readAll_94 rfl (by decide) rfl ?_
  refine ev_goto (tgt := 25) dX4_readAll_97 (by decide) ?_
  exact q25 (w32 (x2 + 1)) _ h
def FX4_readAll_1_21_25  : Nat → Int → Mm → Option Mm
  | 0, _, _ => none
  | n + 1, x2, f => (if 800 < x2 then some f else (if (f 1 3) = 0 then some f else (if (f 1 0) = 0 then (if x2 = 0 then ((FX4_readBridge_1_21 f).bind fun f5 => FX4_readAll_1_21_80 (FX4_readAll_1_21_25 n) x2 f5) else (b2 (FX4_isWord 100006 f) fun y1 f1 => (if y1 = 0 then ((FX4_readCart_1_21 f1).bind fun f2 => FX4_readAll_1_21_80 (FX4_readAll_1_21_25 n) x2 f2) else ((FX4_readDeed_1_21 f1).bind fun f3 => FX4_readAll_1_21_80 (FX4_readAll_1_21_25 n) x2 f3)))) else some f)))
set_option maxHeartbeats 4000000 in
set_option maxRecDepth 100000 in
theorem SX4_readAll_1_21_25 {G : GT} {l : Launch} {Q : Option AV → Mem → Prop}  : ∀ (n : Nat) (x2 : Int) (f : Mm), OkV Q (FX4_readAll_1_21_25  n x2 f) → Ev G l MX4_readAll (Rm 8 0 0) (ZM G Q 0 0) 0 0 25 [some (vR 1), some (vR 21), some (vI x2)] [] (SH, RF, f) := by
  intro n
  induction n with
  | zero => intro x2 f h; exact absurd h (by rw [FX4_readAll_1_21_25]; exact fun q => q)
  | succ n ih =>
    intro x2 f h
    rw [FX4_readAll_1_21_25] at h
    refine ev_iload_n (i := 2) dX4_readAll_25 rfl rfl ?_
    refine ev_sipush (v := 800) dX4_readAll_26 (r32c rfl) (by decide) ?_
    refine ev_icmp_gt (tgt := 100) dX4_readAll_29 (by decide) (fun c9 => ?_) (fun c9 => ?_)
    · rw [if_pos c9] at h
      exact ev_vret rfl dX4_readAll_100 h
    · rw [if_neg c9] at h
      refine ev_aload_n (i := 0) dX4_readAll_32 rfl rfl ?_
      refine ex_getI (x := (f 1 3)) dX4_readAll_33 fl_X4_36 sh_1 (by decide) (by decide) rfl ?_
      refine ev_if_eq (tgt := 100) dX4_readAll_36 (by decide) (fun c8 => ?_) (fun c8 => ?_)
      · rw [if_pos c8] at h
        exact ev_vret rfl dX4_readAll_100 h
      · rw [if_neg c8] at h
        refine ev_aload_n (i := 0) dX4_readAll_39 rfl rfl ?_
        refine ex_getI (x := (f 1 0)) dX4_readAll_40 fl_X4_22 sh_1 (by decide) (by decide) rfl ?_
        refine ev_if_ne (tgt := 100) dX4_readAll_43 (by decide) (fun c7 => ?_) (fun c7 => ?_)
        · rw [if_neg c7] at h
          exact ev_vret rfl dX4_readAll_100 h
        · rw [if_pos c7] at h
          refine ev_iload_n (i := 2) dX4_readAll_46 rfl rfl ?_
          refine ev_if_ne (tgt := 58) dX4_readAll_47 (by decide) (fun c6 => ?_) (fun c6 => ?_)
          · rw [if_neg c6] at h
            refine ev_aload_n (i := 0) dX4_readAll_58 rfl rfl ?_
            refine ev_ldcS (i := 5) (tx := "deed") rfl dX4_readAll_59 rfl ?_
            refine ev_cVI (b := 1) (av := [vR 100006]) (S := []) (fun q => q) h dX4_readAll_61 (fun Q' q => TX4_isWord 100006 _ q) kvX4_isWord ml_X4_45 sh_1 rfl (RRc (by decide) (by decide)) (Nat.le_of_ble_eq_true rfl) ⟨Nat.le_of_ble_eq_true rfl, Nat.le_of_ble_eq_true rfl⟩ (fun y1 f1 h => ?_)
            refine ev_if_eq (tgt := 75) dX4_readAll_64 (by decide) (fun c4 => ?_) (fun c4 => ?_)
            · rw [if_pos c4] at h
              refine ev_aload_n (i := 0) dX4_readAll_75 rfl rfl ?_
              refine ev_aload_n (i := 1) dX4_readAll_76 rfl rfl ?_
              refine ev_cVV (b := 1) (av := [vR 21]) (S := []) (fun q => q) h dX4_readAll_77 (fun Q' q => TX4_readCart_1_21 _ q) kvX4_readCart ml_X4_52 sh_1 rfl (RRc (by decide) (by decide)) (Nat.le_of_ble_eq_true rfl) ⟨Nat.le_of_ble_eq_true rfl, Nat.le_of_ble_eq_true rfl⟩ (fun f2 h => ?_)
              exact SX4_readAll_1_21_80 ih x2 _ h
            · rw [if_neg c4] at h
              refine ev_aload_n (i := 0) dX4_readAll_67 rfl rfl ?_
              refine ev_aload_n (i := 1) dX4_readAll_68 rfl rfl ?_
              refine ev_cVV (b := 1) (av := [vR 21]) (S := []) (fun q => q) h dX4_readAll_69 (fun Q' q => TX4_readDeed_1_21 _ q) kvX4_readDeed ml_X4_49 sh_1 rfl (RRc (by decide) (by decide)) (Nat.le_of_ble_eq_true rfl) ⟨Nat.le_of_ble_eq_true rfl, Nat.le_of_ble_eq_true rfl⟩ (fun f3 h => ?_)
              refine ev_goto (tgt := 80) dX4_readAll_72 (by decide) ?_
              exact SX4_readAll_1_21_80 ih x2 _ h
          · rw [if_pos c6] at h
            refine ev_aload_n (i := 0) dX4_readAll_50 rfl rfl ?_
            refine ev_aload_n (i := 1) dX4_readAll_51 rfl rfl ?_
            refine ev_cVV (b := 1) (av := [vR 21]) (S := []) (fun q => q) h dX4_readAll_52 (fun Q' q => TX4_readBridge_1_21 _ q) kvX4_readBridge ml_X4_39 sh_1 rfl (RRc (by decide) (by decide)) (Nat.le_of_ble_eq_true rfl) ⟨Nat.le_of_ble_eq_true rfl, Nat.le_of_ble_eq_true rfl⟩ (fun f5 h => ?_)
            refine ev_goto (tgt := 80) dX4_readAll_55 (by decide) ?_
            exact SX4_readAll_1_21_80 ih x2 _ h
def FX4_readAll_1_21_0   (f : Mm) : Option Mm := ((FX0_clear_21 (up (up (up f 1 0 0) 1 1 (-1)) 1 5 0)).bind fun f1 => ((FX4_next f1).bind fun f2 => FX4_readAll_1_21_25 fu 0 f2))
set_option maxHeartbeats 4000000 in
set_option maxRecDepth 100000 in
theorem SX4_readAll_1_21_0 {G : GT} {l : Launch} {Q : Option AV → Mem → Prop}   (f : Mm) (h : OkV Q (FX4_readAll_1_21_0   f)) : Ev G l MX4_readAll (Rm 8 0 0) (ZM G Q 0 0) 0 0 0 [some (vR 1), some (vR 21), none] [] (SH, RF, f) := by
  unfold FX4_readAll_1_21_0 at h
  refine ev_aload_n (i := 0) dX4_readAll_0 rfl rfl ?_
  refine ev_iconst dX4_readAll_1 (r32c rfl) ?_
  refine ev_putI dX4_readAll_2 fl_X4_22 sh_1 (by decide) (by decide) ?_
  refine ev_aload_n (i := 0) dX4_readAll_5 rfl rfl ?_
  refine ev_iconst dX4_readAll_6 (r32c rfl) ?_
  refine ev_putI dX4_readAll_7 fl_X4_9 sh_1 (by decide) (by decide) ?_
  refine ev_aload_n (i := 0) dX4_readAll_10 rfl rfl ?_
  refine ev_iconst dX4_readAll_11 (r32c rfl) ?_
  refine ev_putI dX4_readAll_12 fl_X4_25 sh_1 (by decide) (by decide) ?_
  refine ev_aload_n (i := 1) dX4_readAll_15 rfl rfl ?_
  refine ev_cVV (b := 21) (av := []) (S := []) (fun q => q) h dX4_readAll_16 (fun Q' q => TX0_clear_21 _ q) kvX0_clear ml_X4_28 sh_21 rfl (RRc (by decide) (by decide)) (Nat.le_of_ble_eq_true rfl) ⟨Nat.le_of_ble_eq_true rfl, Nat.le_of_ble_eq_true rfl⟩ (fun f1 h => ?_)
  refine ev_aload_n (i := 0) dX4_readAll_19 rfl rfl ?_
  refine ev_cVV (b := 1) (av := []) (S := []) (fun q => q) h dX4_readAll_20 (fun Q' q => TX4_next _ q) kvX4_next ml_X4_33 sh_1 rfl (RRc (by decide) (by decide)) (Nat.le_of_ble_eq_true rfl) ⟨Nat.le_of_ble_eq_true rfl, Nat.le_of_ble_eq_true rfl⟩ (fun f2 h => ?_)
  refine ev_iconst dX4_readAll_23 (r32c rfl) ?_
  refine ev_istore_n (i := 2) (L' := [some (vR 1), some (vR 21), some (vI 0)]) dX4_readAll_24 rfl (by decide) rfl ?_
  exact SX4_readAll_1_21_25  fu 0 _ h
def FX4_readAll_1_21  (f : Mm) : Option Mm := FX4_readAll_1_21_0  f
set_option maxRecDepth 100000 in
theorem TX4_readAll_1_21 {G : GT} {l : Launch} {Q : Option AV → Mem → Prop}  (f : Mm) (h : OkV Q (FX4_readAll_1_21  f)) : Ret G l MX4_readAll (8) 0 0 [vR 1, vR 21] (SH, RF, f) Q := by
  refine ret_of (L := [some (vR 1), some (vR 21), none]) (by decide) rfl (Nat.le_of_ble_eq_true rfl) ?_
  exact SX4_readAll_1_21_0  f h
theorem dX0_copyRow_2 : decode cX0_copyRow 2 = .ok (.iload_n 2, 1) := by decide +kernel
theorem dX0_copyRow_3 : decode cX0_copyRow 3 = .ok (.aload_n 0, 1) := by decide +kernel
theorem dX0_copyRow_4 : decode cX0_copyRow 4 = .ok (.arraylength, 1) := by decide +kernel
theorem dX0_copyRow_5 : decode cX0_copyRow 5 = .ok (.if_icmp .ge 21, 3) := by decide +kernel
theorem dX0_copyRow_26 : decode cX0_copyRow 26 = .ok (.return_, 1) := by decide +kernel
theorem dX0_copyRow_8 : decode cX0_copyRow 8 = .ok (.iload_n 2, 1) := by decide +kernel
theorem dX0_copyRow_9 : decode cX0_copyRow 9 = .ok (.aload_n 1, 1) := by decide +kernel
theorem dX0_copyRow_10 : decode cX0_copyRow 10 = .ok (.arraylength, 1) := by decide +kernel
theorem dX0_copyRow_11 : decode cX0_copyRow 11 = .ok (.if_icmp .ge 15, 3) := by decide +kernel
theorem dX0_copyRow_14 : decode cX0_copyRow 14 = .ok (.aload_n 1, 1) := by decide +kernel
theorem dX0_copyRow_15 : decode cX0_copyRow 15 = .ok (.iload_n 2, 1) := by decide +kernel
theorem dX0_copyRow_16 : decode cX0_copyRow 16 = .ok (.aload_n 0, 1) := by decide +kernel
theorem dX0_copyRow_17 : decode cX0_copyRow 17 = .ok (.iload_n 2, 1) := by decide +kernel
theorem dX0_copyRow_18 : decode cX0_copyRow 18 = .ok (.iaload, 1) := by decide +kernel
theorem dX0_copyRow_19 : decode cX0_copyRow 19 = .ok (.iastore, 1) := by decide +kernel
theorem dX0_copyRow_20 : decode cX0_copyRow 20 = .ok (.iinc 2 1, 3) := by decide +kernel
theorem dX0_copyRow_23 : decode cX0_copyRow 23 = .ok (.goto (-21), 3) := by decide +kernel
theorem dX0_copyRow_0 : decode cX0_copyRow 0 = .ok (.iconst 0, 1) := by decide +kernel
theorem dX0_copyRow_1 : decode cX0_copyRow 1 = .ok (.istore_n 2, 1) := by decide +kernel
def FX0_copyRow_2  : Nat → Nat → Nat → Int → Mm → Option Mm
  | 0, _, _, _, _ => none
  | n + 1, a0, a1, x2, f => (if kd a0 = 0 then (if ((ln a0 : Nat) : Int) ≤ x2 then some f else (if kd a1 = 0 then (if ((ln a1 : Nat) : Int) ≤ x2 then some f else (if 0 ≤ x2 ∧ x2 < ((ln a0 : Nat) : Int) then (if 0 ≤ x2 ∧ x2 < ((ln a1 : Nat) : Int) then FX0_copyRow_2 n a0 a1 (w32 (x2 + 1)) (up f a1 x2.toNat (f a0 x2.toNat)) else none) else none)) else none)) else none)
set_option maxHeartbeats 4000000 in
set_option maxRecDepth 100000 in
theorem SX0_copyRow_2 {G : GT} {l : Launch} {Q : Option AV → Mem → Prop}  : ∀ (n : Nat) (a0 : Nat) (a1 : Nat) (x2 : Int) (f : Mm), OkV Q (FX0_copyRow_2  n a0 a1 x2 f) → Ev G l MX0_copyRow (Rm 1 0 0) (ZM G Q 0 0) 0 0 2 [some (vR a0), some (vR a1), some (vI x2)] [] (SH, RF, f) := by
  intro n
  induction n with
  | zero => intro a0 a1 x2 f h; exact absurd h (by rw [FX0_copyRow_2]; exact fun q => q)
  | succ n ih =>
    intro a0 a1 x2 f h
    rw [FX0_copyRow_2] at h
    refine ev_iload_n (i := 2) dX0_copyRow_2 rfl rfl ?_
    refine ev_aload_n (i := 0) dX0_copyRow_3 rfl rfl ?_
    by_cases g1 : kd a0 = 0
    · rw [if_pos g1] at h
      refine ev_alen dX0_copyRow_4 (by decide) (kd_sh g1 (by decide)) (ln_r _) ?_
      refine ev_icmp_ge (tgt := 26) dX0_copyRow_5 (by decide) (fun c6 => ?_) (fun c6 => ?_)
      · rw [if_pos c6] at h
        exact ev_vret rfl dX0_copyRow_26 h
      · rw [if_neg c6] at h
        refine ev_iload_n (i := 2) dX0_copyRow_8 rfl rfl ?_
        refine ev_aload_n (i := 1) dX0_copyRow_9 rfl rfl ?_
        by_cases g2 : kd a1 = 0
        · rw [if_pos g2] at h
          refine ev_alen dX0_copyRow_10 (by decide) (kd_sh g2 (by decide)) (ln_r _) ?_
          refine ev_icmp_ge (tgt := 26) dX0_copyRow_11 (by decide) (fun c5 => ?_) (fun c5 => ?_)
          · rw [if_pos c5] at h
            exact ev_vret rfl dX0_copyRow_26 h
          · rw [if_neg c5] at h
            refine ev_aload_n (i := 1) dX0_copyRow_14 rfl rfl ?_
            refine ev_iload_n (i := 2) dX0_copyRow_15 rfl rfl ?_
            refine ev_aload_n (i := 0) dX0_copyRow_16 rfl rfl ?_
            refine ev_iload_n (i := 2) dX0_copyRow_17 rfl rfl ?_
            by_cases g3 : 0 ≤ x2 ∧ x2 < ((ln a0 : Nat) : Int)
            · rw [if_pos g3] at h
              refine ex_iald (x := (f a0 x2.toNat)) dX0_copyRow_18 (kd_sh g1 (by decide)) g3.1 g3.2 rfl ?_
              by_cases g4 : 0 ≤ x2 ∧ x2 < ((ln a1 : Nat) : Int)
              · rw [if_pos g4] at h
                refine ex_iast (j := x2.toNat) dX0_copyRow_19 (kd_sh g2 (by decide)) g4.1 g4.2 rfl ?_
                refine ev_iinc (L' := [some (vR a0), some (vR a1), some (vI (w32 (x2 + 1)))]) dX0_copyRow_20 rfl (by decide) rfl ?_
                refine ev_goto (tgt := 2) dX0_copyRow_23 (by decide) ?_
                exact ih a0 a1 (w32 (x2 + 1)) _ h
              · rw [if_neg g4] at h; exact h.elim
            · rw [if_neg g3] at h; exact h.elim
        · rw [if_neg g2] at h; exact h.elim
    · rw [if_neg g1] at h; exact h.elim
def FX0_copyRow_0  (a0 : Nat) (a1 : Nat) (f : Mm) : Option Mm := FX0_copyRow_2 fu a0 a1 0 f
set_option maxHeartbeats 4000000 in
set_option maxRecDepth 100000 in
theorem SX0_copyRow_0 {G : GT} {l : Launch} {Q : Option AV → Mem → Prop}  (a0 : Nat) (a1 : Nat) (f : Mm) (h : OkV Q (FX0_copyRow_0  a0 a1 f)) : Ev G l MX0_copyRow (Rm 1 0 0) (ZM G Q 0 0) 0 0 0 [some (vR a0), some (vR a1), none] [] (SH, RF, f) := by
  unfold FX0_copyRow_0 at h
  refine ev_iconst dX0_copyRow_0 (r32c rfl) ?_
  refine ev_istore_n (i := 2) (L' := [some (vR a0), some (vR a1), some (vI 0)]) dX0_copyRow_1 rfl (by decide) rfl ?_
  exact SX0_copyRow_2  fu a0 a1 0 _ h
def FX0_copyRow (a0 : Nat) (a1 : Nat) (f : Mm) : Option Mm := FX0_copyRow_0 a0 a1 f
set_option maxRecDepth 100000 in
theorem TX0_copyRow {G : GT} {l : Launch} {Q : Option AV → Mem → Prop} (a0 : Nat) (a1 : Nat) (f : Mm) (h : OkV Q (FX0_copyRow a0 a1 f)) : Ret G l MX0_copyRow (1) 0 0 [vR a0, vR a1] (SH, RF, f) Q := by
  refine ret_of (L := [some (vR a0), some (vR a1), none]) (by decide) rfl (Nat.le_of_ble_eq_true rfl) ?_
  exact SX0_copyRow_0 a0 a1 f h
theorem dX0_become_124 : decode cX0_become 124 = .ok (.aload_n 1, 1) := by decide +kernel
theorem dX0_become_125 : decode cX0_become 125 = .ok (.getfield 23, 3) := by decide +kernel
theorem dX0_become_128 : decode cX0_become 128 = .ok (.aload_n 0, 1) := by decide +kernel
theorem dX0_become_129 : decode cX0_become 129 = .ok (.getfield 23, 3) := by decide +kernel
theorem dX0_become_132 : decode cX0_become 132 = .ok (.invokestatic 57, 3) := by decide +kernel
theorem dX0_become_135 : decode cX0_become 135 = .ok (.aload_n 1, 1) := by decide +kernel
theorem dX0_become_136 : decode cX0_become 136 = .ok (.getfield 26, 3) := by decide +kernel
theorem dX0_become_139 : decode cX0_become 139 = .ok (.aload_n 0, 1) := by decide +kernel
theorem dX0_become_140 : decode cX0_become 140 = .ok (.getfield 26, 3) := by decide +kernel
theorem dX0_become_143 : decode cX0_become 143 = .ok (.invokestatic 57, 3) := by decide +kernel
theorem dX0_become_146 : decode cX0_become 146 = .ok (.aload_n 1, 1) := by decide +kernel
theorem dX0_become_147 : decode cX0_become 147 = .ok (.getfield 29, 3) := by decide +kernel
theorem dX0_become_150 : decode cX0_become 150 = .ok (.aload_n 0, 1) := by decide +kernel
theorem dX0_become_151 : decode cX0_become 151 = .ok (.getfield 29, 3) := by decide +kernel
theorem dX0_become_154 : decode cX0_become 154 = .ok (.invokestatic 57, 3) := by decide +kernel
theorem dX0_become_157 : decode cX0_become 157 = .ok (.return_, 1) := by decide +kernel
theorem dX0_become_97 : decode cX0_become 97 = .ok (.iload_n 2, 1) := by decide +kernel
theorem dX0_become_98 : decode cX0_become 98 = .ok (.bipush 6, 2) := by decide +kernel
theorem dX0_become_100 : decode cX0_become 100 = .ok (.if_icmp .ge 24, 3) := by decide +kernel
theorem dX0_become_103 : decode cX0_become 103 = .ok (.aload_n 1, 1) := by decide +kernel
theorem dX0_become_104 : decode cX0_become 104 = .ok (.getfield 20, 3) := by decide +kernel
theorem dX0_become_107 : decode cX0_become 107 = .ok (.iload_n 2, 1) := by decide +kernel
theorem dX0_become_108 : decode cX0_become 108 = .ok (.aaload, 1) := by decide +kernel
theorem dX0_become_109 : decode cX0_become 109 = .ok (.aload_n 0, 1) := by decide +kernel
theorem dX0_become_110 : decode cX0_become 110 = .ok (.getfield 20, 3) := by decide +kernel
theorem dX0_become_113 : decode cX0_become 113 = .ok (.iload_n 2, 1) := by decide +kernel
theorem dX0_become_114 : decode cX0_become 114 = .ok (.aaload, 1) := by decide +kernel
theorem dX0_become_115 : decode cX0_become 115 = .ok (.invokestatic 57, 3) := by decide +kernel
theorem dX0_become_118 : decode cX0_become 118 = .ok (.iinc 2 1, 3) := by decide +kernel
theorem dX0_become_121 : decode cX0_become 121 = .ok (.goto (-24), 3) := by decide +kernel
theorem dX0_become_95 : decode cX0_become 95 = .ok (.iconst 0, 1) := by decide +kernel
theorem dX0_become_96 : decode cX0_become 96 = .ok (.istore_n 2, 1) := by decide +kernel
theorem dX0_become_69 : decode cX0_become 69 = .ok (.iload_n 2, 1) := by decide +kernel
theorem dX0_become_70 : decode cX0_become 70 = .ok (.iconst 4, 1) := by decide +kernel
theorem dX0_become_71 : decode cX0_become 71 = .ok (.if_icmp .ge 24, 3) := by decide +kernel
theorem dX0_become_74 : decode cX0_become 74 = .ok (.aload_n 1, 1) := by decide +kernel
theorem dX0_become_75 : decode cX0_become 75 = .ok (.getfield 17, 3) := by decide +kernel
theorem dX0_become_78 : decode cX0_become 78 = .ok (.iload_n 2, 1) := by decide +kernel
theorem dX0_become_79 : decode cX0_become 79 = .ok (.aaload, 1) := by decide +kernel
theorem dX0_become_80 : decode cX0_become 80 = .ok (.aload_n 0, 1) := by decide +kernel
theorem dX0_become_81 : decode cX0_become 81 = .ok (.getfield 17, 3) := by decide +kernel
theorem dX0_become_84 : decode cX0_become 84 = .ok (.iload_n 2, 1) := by decide +kernel
theorem dX0_become_85 : decode cX0_become 85 = .ok (.aaload, 1) := by decide +kernel
theorem dX0_become_86 : decode cX0_become 86 = .ok (.invokestatic 57, 3) := by decide +kernel
theorem dX0_become_89 : decode cX0_become 89 = .ok (.iinc 2 1, 3) := by decide +kernel
theorem dX0_become_92 : decode cX0_become 92 = .ok (.goto (-23), 3) := by decide +kernel
theorem dX0_become_0 : decode cX0_become 0 = .ok (.aload_n 0, 1) := by decide +kernel
theorem dX0_become_1 : decode cX0_become 1 = .ok (.aload_n 1, 1) := by decide +kernel
theorem dX0_become_2 : decode cX0_become 2 = .ok (.getfield 32, 3) := by decide +kernel
theorem dX0_become_5 : decode cX0_become 5 = .ok (.putfield 32, 3) := by decide +kernel
theorem dX0_become_8 : decode cX0_become 8 = .ok (.aload_n 0, 1) := by decide +kernel
theorem dX0_become_9 : decode cX0_become 9 = .ok (.aload_n 1, 1) := by decide +kernel
theorem dX0_become_10 : decode cX0_become 10 = .ok (.getfield 36, 3) := by decide +kernel
theorem dX0_become_13 : decode cX0_become 13 = .ok (.putfield 36, 3) := by decide +kernel
theorem dX0_become_16 : decode cX0_become 16 = .ok (.aload_n 0, 1) := by decide +kernel
theorem dX0_become_17 : decode cX0_become 17 = .ok (.aload_n 1, 1) := by decide +kernel
theorem dX0_become_18 : decode cX0_become 18 = .ok (.getfield 39, 3) := by decide +kernel
theorem dX0_become_21 : decode cX0_become 21 = .ok (.putfield 39, 3) := by decide +kernel
theorem dX0_become_24 : decode cX0_become 24 = .ok (.aload_n 0, 1) := by decide +kernel
theorem dX0_become_25 : decode cX0_become 25 = .ok (.aload_n 1, 1) := by decide +kernel
theorem dX0_become_26 : decode cX0_become 26 = .ok (.getfield 42, 3) := by decide +kernel
theorem dX0_become_29 : decode cX0_become 29 = .ok (.putfield 42, 3) := by decide +kernel
theorem dX0_become_32 : decode cX0_become 32 = .ok (.aload_n 0, 1) := by decide +kernel
theorem dX0_become_33 : decode cX0_become 33 = .ok (.aload_n 1, 1) := by decide +kernel
theorem dX0_become_34 : decode cX0_become 34 = .ok (.getfield 45, 3) := by decide +kernel
theorem dX0_become_37 : decode cX0_become 37 = .ok (.putfield 45, 3) := by decide +kernel
theorem dX0_become_40 : decode cX0_become 40 = .ok (.aload_n 0, 1) := by decide +kernel
theorem dX0_become_41 : decode cX0_become 41 = .ok (.aload_n 1, 1) := by decide +kernel
theorem dX0_become_42 : decode cX0_become 42 = .ok (.getfield 48, 3) := by decide +kernel
theorem dX0_become_45 : decode cX0_become 45 = .ok (.putfield 48, 3) := by decide +kernel
theorem dX0_become_48 : decode cX0_become 48 = .ok (.aload_n 0, 1) := by decide +kernel
theorem dX0_become_49 : decode cX0_become 49 = .ok (.aload_n 1, 1) := by decide +kernel
theorem dX0_become_50 : decode cX0_become 50 = .ok (.getfield 54, 3) := by decide +kernel
theorem dX0_become_53 : decode cX0_become 53 = .ok (.putfield 54, 3) := by decide +kernel
theorem dX0_become_56 : decode cX0_become 56 = .ok (.aload_n 1, 1) := by decide +kernel
theorem dX0_become_57 : decode cX0_become 57 = .ok (.getfield 9, 3) := by decide +kernel
theorem dX0_become_60 : decode cX0_become 60 = .ok (.aload_n 0, 1) := by decide +kernel
theorem dX0_become_61 : decode cX0_become 61 = .ok (.getfield 9, 3) := by decide +kernel
theorem dX0_become_64 : decode cX0_become 64 = .ok (.invokestatic 57, 3) := by decide +kernel
theorem dX0_become_67 : decode cX0_become 67 = .ok (.iconst 0, 1) := by decide +kernel
theorem dX0_become_68 : decode cX0_become 68 = .ok (.istore_n 2, 1) := by decide +kernel
def FX0_become_4_21_124   (f : Mm) : Option Mm := ((FX0_copyRow 35 18 f).bind fun f1 => ((FX0_copyRow 36 19 f1).bind fun f2 => ((FX0_copyRow 37 20 f2).bind fun f3 => some f3)))
set_option maxHeartbeats 4000000 in
set_option maxRecDepth 100000 in
theorem SX0_become_4_21_124 {G : GT} {l : Launch} {Q : Option AV → Mem → Prop}   (f : Mm) (h : OkV Q (FX0_become_4_21_124   f)) : Ev G l MX0_become (Rm 2 0 0) (ZM G Q 0 0) 0 0 124 [some (vR 4), some (vR 21), none] [] (SH, RF, f) := by
  unfold FX0_become_4_21_124 at h
  refine ev_aload_n (i := 1) dX0_become_124 rfl rfl ?_
  refine ev_getR dX0_become_125 fl_X0_23 sh_21 (by decide) (by decide) rf_21_10 ?_
  refine ev_aload_n (i := 0) dX0_become_128 rfl rfl ?_
  refine ev_getR dX0_become_129 fl_X0_23 sh_4 (by decide) (by decide) rf_4_10 ?_
  refine ev_cSV (av := [vR 35, vR 18]) (S := []) (fun q => q) h dX0_become_132 (fun Q' q => TX0_copyRow 35 18 _ q) ksX0_copyRow ml_X0_57 rfl (RRc (by decide) (by decide)) (Nat.le_of_ble_eq_true rfl) ⟨Nat.le_of_ble_eq_true rfl, Nat.le_of_ble_eq_true rfl⟩ (fun f1 h => ?_)
  refine ev_aload_n (i := 1) dX0_become_135 rfl rfl ?_
  refine ev_getR dX0_become_136 fl_X0_26 sh_21 (by decide) (by decide) rf_21_11 ?_
  refine ev_aload_n (i := 0) dX0_become_139 rfl rfl ?_
  refine ev_getR dX0_become_140 fl_X0_26 sh_4 (by decide) (by decide) rf_4_11 ?_
  refine ev_cSV (av := [vR 36, vR 19]) (S := []) (fun q => q) h dX0_become_143 (fun Q' q => TX0_copyRow 36 19 _ q) ksX0_copyRow ml_X0_57 rfl (RRc (by decide) (by decide)) (Nat.le_of_ble_eq_true rfl) ⟨Nat.le_of_ble_eq_true rfl, Nat.le_of_ble_eq_true rfl⟩ (fun f2 h => ?_)
  refine ev_aload_n (i := 1) dX0_become_146 rfl rfl ?_
  refine ev_getR dX0_become_147 fl_X0_29 sh_21 (by decide) (by decide) rf_21_12 ?_
  refine ev_aload_n (i := 0) dX0_become_150 rfl rfl ?_
  refine ev_getR dX0_become_151 fl_X0_29 sh_4 (by decide) (by decide) rf_4_12 ?_
  refine ev_cSV (av := [vR 37, vR 20]) (S := []) (fun q => q) h dX0_become_154 (fun Q' q => TX0_copyRow 37 20 _ q) ksX0_copyRow ml_X0_57 rfl (RRc (by decide) (by decide)) (Nat.le_of_ble_eq_true rfl) ⟨Nat.le_of_ble_eq_true rfl, Nat.le_of_ble_eq_true rfl⟩ (fun f3 h => ?_)
  exact ev_vret rfl dX0_become_157 h
def FX0_become_4_21_97  : Nat → Int → Mm → Option Mm
  | 0, _, _ => none
  | n + 1, x2, f => (if 6 ≤ x2 then FX0_become_4_21_124 f else (if 0 ≤ x2 ∧ x2 < 6 then (if 0 ≤ x2 ∧ x2 < 6 then ((FX0_copyRow (29 + x2.toNat) (12 + x2.toNat) f).bind fun f3 => FX0_become_4_21_97 n (w32 (x2 + 1)) f3) else none) else none))
set_option maxHeartbeats 4000000 in
set_option maxRecDepth 100000 in
theorem SX0_become_4_21_97 {G : GT} {l : Launch} {Q : Option AV → Mem → Prop}  : ∀ (n : Nat) (x2 : Int) (f : Mm), OkV Q (FX0_become_4_21_97  n x2 f) → Ev G l MX0_become (Rm 2 0 0) (ZM G Q 0 0) 0 0 97 [some (vR 4), some (vR 21), some (vI x2)] [] (SH, RF, f) := by
  intro n
  induction n with
  | zero => intro x2 f h; exact absurd h (by rw [FX0_become_4_21_97]; exact fun q => q)
  | succ n ih =>
    intro x2 f h
    rw [FX0_become_4_21_97] at h
    refine ev_iload_n (i := 2) dX0_become_97 rfl rfl ?_
    refine ev_bipush (v := 6) dX0_become_98 (r32c rfl) (by decide) ?_
    refine ev_icmp_ge (tgt := 124) dX0_become_100 (by decide) (fun c4 => ?_) (fun c4 => ?_)
    · rw [if_pos c4] at h
      refine ev_fg [true, true, false] rfl ?_
      exact SX0_become_4_21_124   _ h
    · rw [if_neg c4] at h
      refine ev_aload_n (i := 1) dX0_become_103 rfl rfl ?_
      refine ev_getR dX0_become_104 fl_X0_20 sh_21 (by decide) (by decide) rf_21_9 ?_
      refine ev_iload_n (i := 2) dX0_become_107 rfl rfl ?_
      by_cases g1 : 0 ≤ x2 ∧ x2 < 6
      · rw [if_pos g1] at h
        refine ev_aald (b := (29 + x2.toNat)) dX0_become_108 (Or.inl rfl) sh_28 g1.1 g1.2 (rfr_28 g1) ?_
        refine ev_aload_n (i := 0) dX0_become_109 rfl rfl ?_
        refine ev_getR dX0_become_110 fl_X0_20 sh_4 (by decide) (by decide) rf_4_9 ?_
        refine ev_iload_n (i := 2) dX0_become_113 rfl rfl ?_
        by_cases g2 : 0 ≤ x2 ∧ x2 < 6
        · rw [if_pos g2] at h
          refine ev_aald (b := (12 + x2.toNat)) dX0_become_114 (Or.inl rfl) sh_11 g2.1 g2.2 (rfr_11 g2) ?_
          refine ev_cSV (av := [vR (29 + x2.toNat), vR (12 + x2.toNat)]) (S := []) (fun q => q) h dX0_become_115 (fun Q' q => TX0_copyRow (29 + x2.toNat) (12 + x2.toNat) _ q) ksX0_copyRow ml_X0_57 rfl (RRc (by decide) (by decide)) (Nat.le_of_ble_eq_true rfl) ⟨Nat.le_of_ble_eq_true rfl, Nat.le_of_ble_eq_true rfl⟩ (fun f3 h => ?_)
          refine ev_iinc (L' := [some (vR 4), some (vR 21), some (vI (w32 (x2 + 1)))]) dX0_become_118 rfl (by decide) rfl ?_
          refine ev_goto (tgt := 97) dX0_become_121 (by decide) ?_
          exact ih (w32 (x2 + 1)) _ h
        · rw [if_neg g2] at h; exact h.elim
      · rw [if_neg g1] at h; exact h.elim
def FX0_become_4_21_95   (f : Mm) : Option Mm := FX0_become_4_21_97 fu 0 f
set_option maxHeartbeats 4000000 in
set_option maxRecDepth 100000 in
theorem SX0_become_4_21_95 {G : GT} {l : Launch} {Q : Option AV → Mem → Prop}   (f : Mm) (h : OkV Q (FX0_become_4_21_95   f)) : Ev G l MX0_become (Rm 2 0 0) (ZM G Q 0 0) 0 0 95 [some (vR 4), some (vR 21), none] [] (SH, RF, f) := by
  unfold FX0_become_4_21_95 at h
  refine ev_iconst dX0_become_95 (r32c rfl) ?_
  refine ev_istore_n (i := 2) (L' := [some (vR 4), some (vR 21), some (vI 0)]) dX0_become_96 rfl (by decide) rfl ?_
  exact SX0_become_4_21_97  fu 0 _ h
def FX0_become_4_21_69  : Nat → Int → Mm → Option Mm
  | 0, _, _ => none
  | n + 1, x2, f => (if 4 ≤ x2 then FX0_become_4_21_95 f else (if 0 ≤ x2 ∧ x2 < 4 then (if 0 ≤ x2 ∧ x2 < 4 then ((FX0_copyRow (24 + x2.toNat) (7 + x2.toNat) f).bind fun f3 => FX0_become_4_21_69 n (w32 (x2 + 1)) f3) else none) else none))
set_option maxHeartbeats 4000000 in
set_option maxRecDepth 100000 in
theorem SX0_become_4_21_69 {G : GT} {l : Launch} {Q : Option AV → Mem → Prop}  : ∀ (n : Nat) (x2 : Int) (f : Mm), OkV Q (FX0_become_4_21_69  n x2 f) → Ev G l MX0_become (Rm 2 0 0) (ZM G Q 0 0) 0 0 69 [some (vR 4), some (vR 21), some (vI x2)] [] (SH, RF, f) := by
  intro n
  induction n with
  | zero => intro x2 f h; exact absurd h (by rw [FX0_become_4_21_69]; exact fun q => q)
  | succ n ih =>
    intro x2 f h
    rw [FX0_become_4_21_69] at h
    refine ev_iload_n (i := 2) dX0_become_69 rfl rfl ?_
    refine ev_iconst dX0_become_70 (r32c rfl) ?_
    refine ev_icmp_ge (tgt := 95) dX0_become_71 (by decide) (fun c4 => ?_) (fun c4 => ?_)
    · rw [if_pos c4] at h
      refine ev_fg [true, true, false] rfl ?_
      exact SX0_become_4_21_95   _ h
    · rw [if_neg c4] at h
      refine ev_aload_n (i := 1) dX0_become_74 rfl rfl ?_
      refine ev_getR dX0_become_75 fl_X0_17 sh_21 (by decide) (by decide) rf_21_8 ?_
      refine ev_iload_n (i := 2) dX0_become_78 rfl rfl ?_
      by_cases g1 : 0 ≤ x2 ∧ x2 < 4
      · rw [if_pos g1] at h
        refine ev_aald (b := (24 + x2.toNat)) dX0_become_79 (Or.inl rfl) sh_23 g1.1 g1.2 (rfr_23 g1) ?_
        refine ev_aload_n (i := 0) dX0_become_80 rfl rfl ?_
        refine ev_getR dX0_become_81 fl_X0_17 sh_4 (by decide) (by decide) rf_4_8 ?_
        refine ev_iload_n (i := 2) dX0_become_84 rfl rfl ?_
        by_cases g2 : 0 ≤ x2 ∧ x2 < 4
        · rw [if_pos g2] at h
          refine ev_aald (b := (7 + x2.toNat)) dX0_become_85 (Or.inl rfl) sh_6 g2.1 g2.2 (rfr_6 g2) ?_
          refine ev_cSV (av := [vR (24 + x2.toNat), vR (7 + x2.toNat)]) (S := []) (fun q => q) h dX0_become_86 (fun Q' q => TX0_copyRow (24 + x2.toNat) (7 + x2.toNat) _ q) ksX0_copyRow ml_X0_57 rfl (RRc (by decide) (by decide)) (Nat.le_of_ble_eq_true rfl) ⟨Nat.le_of_ble_eq_true rfl, Nat.le_of_ble_eq_true rfl⟩ (fun f3 h => ?_)
          refine ev_iinc (L' := [some (vR 4), some (vR 21), some (vI (w32 (x2 + 1)))]) dX0_become_89 rfl (by decide) rfl ?_
          refine ev_goto (tgt := 69) dX0_become_92 (by decide) ?_
          exact ih (w32 (x2 + 1)) _ h
        · rw [if_neg g2] at h; exact h.elim
      · rw [if_neg g1] at h; exact h.elim
def FX0_become_4_21_0   (f : Mm) : Option Mm := ((FX0_copyRow 22 5 (up (up (up (up (up (up (up f 4 0 (f 21 0)) 4 1 (f 21 1)) 4 2 (f 21 2)) 4 3 (f 21 3)) 4 4 (f 21 4)) 4 5 (f 21 5)) 4 6 (f 21 6))).bind fun f1 => FX0_become_4_21_69 fu 0 f1)
set_option maxHeartbeats 4000000 in
set_option maxRecDepth 100000 in
theorem SX0_become_4_21_0 {G : GT} {l : Launch} {Q : Option AV → Mem → Prop}   (f : Mm) (h : OkV Q (FX0_become_4_21_0   f)) : Ev G l MX0_become (Rm 2 0 0) (ZM G Q 0 0) 0 0 0 [some (vR 4), some (vR 21), none] [] (SH, RF, f) := by
  unfold FX0_become_4_21_0 at h
  refine ev_aload_n (i := 0) dX0_become_0 rfl rfl ?_
  refine ev_aload_n (i := 1) dX0_become_1 rfl rfl ?_
  refine ex_getI (x := (f 21 0)) dX0_become_2 fl_X0_32 sh_21 (by decide) (by decide) rfl ?_
  refine ev_putI dX0_become_5 fl_X0_32 sh_4 (by decide) (by decide) ?_
  refine ev_aload_n (i := 0) dX0_become_8 rfl rfl ?_
  refine ev_aload_n (i := 1) dX0_become_9 rfl rfl ?_
  refine ex_getI (x := (f 21 1)) dX0_become_10 fl_X0_36 sh_21 (by decide) (by decide) rfl ?_
  refine ev_putI dX0_become_13 fl_X0_36 sh_4 (by decide) (by decide) ?_
  refine ev_aload_n (i := 0) dX0_become_16 rfl rfl ?_
  refine ev_aload_n (i := 1) dX0_become_17 rfl rfl ?_
  refine ex_getI (x := (f 21 2)) dX0_become_18 fl_X0_39 sh_21 (by decide) (by decide) rfl ?_
  refine ev_putI dX0_become_21 fl_X0_39 sh_4 (by decide) (by decide) ?_
  refine ev_aload_n (i := 0) dX0_become_24 rfl rfl ?_
  refine ev_aload_n (i := 1) dX0_become_25 rfl rfl ?_
  refine ex_getI (x := (f 21 3)) dX0_become_26 fl_X0_42 sh_21 (by decide) (by decide) rfl ?_
  refine ev_putI dX0_become_29 fl_X0_42 sh_4 (by decide) (by decide) ?_
  refine ev_aload_n (i := 0) dX0_become_32 rfl rfl ?_
  refine ev_aload_n (i := 1) dX0_become_33 rfl rfl ?_
  refine ex_getI (x := (f 21 4)) dX0_become_34 fl_X0_45 sh_21 (by decide) (by decide) rfl ?_
  refine ev_putI dX0_become_37 fl_X0_45 sh_4 (by decide) (by decide) ?_
  refine ev_aload_n (i := 0) dX0_become_40 rfl rfl ?_
  refine ev_aload_n (i := 1) dX0_become_41 rfl rfl ?_
  refine ex_getI (x := (f 21 5)) dX0_become_42 fl_X0_48 sh_21 (by decide) (by decide) rfl ?_
  refine ev_putI dX0_become_45 fl_X0_48 sh_4 (by decide) (by decide) ?_
  refine ev_aload_n (i := 0) dX0_become_48 rfl rfl ?_
  refine ev_aload_n (i := 1) dX0_become_49 rfl rfl ?_
  refine ex_getI (x := (f 21 6)) dX0_become_50 fl_X0_54 sh_21 (by decide) (by decide) rfl ?_
  refine ev_putI dX0_become_53 fl_X0_54 sh_4 (by decide) (by decide) ?_
  refine ev_aload_n (i := 1) dX0_become_56 rfl rfl ?_
  refine ev_getR dX0_become_57 fl_X0_9 sh_21 (by decide) (by decide) rf_21_7 ?_
  refine ev_aload_n (i := 0) dX0_become_60 rfl rfl ?_
  refine ev_getR dX0_become_61 fl_X0_9 sh_4 (by decide) (by decide) rf_4_7 ?_
  refine ev_cSV (av := [vR 22, vR 5]) (S := []) (fun q => q) h dX0_become_64 (fun Q' q => TX0_copyRow 22 5 _ q) ksX0_copyRow ml_X0_57 rfl (RRc (by decide) (by decide)) (Nat.le_of_ble_eq_true rfl) ⟨Nat.le_of_ble_eq_true rfl, Nat.le_of_ble_eq_true rfl⟩ (fun f1 h => ?_)
  refine ev_iconst dX0_become_67 (r32c rfl) ?_
  refine ev_istore_n (i := 2) (L' := [some (vR 4), some (vR 21), some (vI 0)]) dX0_become_68 rfl (by decide) rfl ?_
  exact SX0_become_4_21_69  fu 0 _ h
def FX0_become_4_21  (f : Mm) : Option Mm := FX0_become_4_21_0  f
set_option maxRecDepth 100000 in
theorem TX0_become_4_21 {G : GT} {l : Launch} {Q : Option AV → Mem → Prop}  (f : Mm) (h : OkV Q (FX0_become_4_21  f)) : Ret G l MX0_become (2) 0 0 [vR 4, vR 21] (SH, RF, f) Q := by
  refine ret_of (L := [some (vR 4), some (vR 21), none]) (by decide) rfl (Nat.le_of_ble_eq_true rfl) ?_
  exact SX0_become_4_21_0  f h
theorem dX3_forget_0 : decode cX3_forget 0 = .ok (.aload_n 0, 1) := by decide +kernel
theorem dX3_forget_1 : decode cX3_forget 1 = .ok (.iconst 0, 1) := by decide +kernel
theorem dX3_forget_2 : decode cX3_forget 2 = .ok (.putfield 39, 3) := by decide +kernel
theorem dX3_forget_5 : decode cX3_forget 5 = .ok (.return_, 1) := by decide +kernel
def FX3_forget_0   (f : Mm) : Option Mm := some (up f 57 0 0)
set_option maxHeartbeats 4000000 in
set_option maxRecDepth 100000 in
theorem SX3_forget_0 {G : GT} {l : Launch} {Q : Option AV → Mem → Prop}   (f : Mm) (h : OkV Q (FX3_forget_0   f)) : Ev G l MX3_forget (Rm 1 0 0) (ZM G Q 0 0) 0 0 0 [some (vR 57)] [] (SH, RF, f) := by
  unfold FX3_forget_0 at h
  refine ev_aload_n (i := 0) dX3_forget_0 rfl rfl ?_
  refine ev_iconst dX3_forget_1 (r32c rfl) ?_
  refine ev_putZ dX3_forget_2 fl_X3_39 sh_57 (by decide) (by decide) (by decide) ?_
  exact ev_vret rfl dX3_forget_5 h
def FX3_forget  (f : Mm) : Option Mm := FX3_forget_0  f
set_option maxRecDepth 100000 in
theorem TX3_forget {G : GT} {l : Launch} {Q : Option AV → Mem → Prop}  (f : Mm) (h : OkV Q (FX3_forget  f)) : Ret G l MX3_forget (1) 0 0 [vR 57] (SH, RF, f) Q := by
  refine ret_of (L := [some (vR 57)]) (by decide) rfl (Nat.le_of_ble_eq_true rfl) ?_
  exact SX3_forget_0  f h
theorem dX10_bridge_0 : decode cX10_bridge 0 = .ok (.aload_n 0, 1) := by decide +kernel
theorem dX10_bridge_1 : decode cX10_bridge 1 = .ok (.getfield 10, 3) := by decide +kernel
theorem dX10_bridge_4 : decode cX10_bridge 4 = .ok (.aload_n 0, 1) := by decide +kernel
theorem dX10_bridge_5 : decode cX10_bridge 5 = .ok (.getfield 23, 3) := by decide +kernel
theorem dX10_bridge_8 : decode cX10_bridge 8 = .ok (.invokevirtual 90, 3) := by decide +kernel
theorem dX10_bridge_11 : decode cX10_bridge 11 = .ok (.aload_n 0, 1) := by decide +kernel
theorem dX10_bridge_12 : decode cX10_bridge 12 = .ok (.getfield 10, 3) := by decide +kernel
theorem dX10_bridge_15 : decode cX10_bridge 15 = .ok (.getfield 76, 3) := by decide +kernel
theorem dX10_bridge_18 : decode cX10_bridge 18 = .ok (.iconst 0, 1) := by decide +kernel
theorem dX10_bridge_19 : decode cX10_bridge 19 = .ok (.putfield 80, 3) := by decide +kernel
theorem dX10_bridge_22 : decode cX10_bridge 22 = .ok (.aload_n 0, 1) := by decide +kernel
theorem dX10_bridge_23 : decode cX10_bridge 23 = .ok (.getfield 10, 3) := by decide +kernel
theorem dX10_bridge_26 : decode cX10_bridge 26 = .ok (.getfield 94, 3) := by decide +kernel
theorem dX10_bridge_29 : decode cX10_bridge 29 = .ok (.ifCond .eq 6, 3) := by decide +kernel
theorem dX10_bridge_35 : decode cX10_bridge 35 = .ok (.aload_n 0, 1) := by decide +kernel
theorem dX10_bridge_36 : decode cX10_bridge 36 = .ok (.getfield 19, 3) := by decide +kernel
theorem dX10_bridge_39 : decode cX10_bridge 39 = .ok (.aload_n 0, 1) := by decide +kernel
theorem dX10_bridge_40 : decode cX10_bridge 40 = .ok (.getfield 23, 3) := by decide +kernel
theorem dX10_bridge_43 : decode cX10_bridge 43 = .ok (.invokevirtual 97, 3) := by decide +kernel
theorem dX10_bridge_46 : decode cX10_bridge 46 = .ok (.aload_n 0, 1) := by decide +kernel
theorem dX10_bridge_47 : decode cX10_bridge 47 = .ok (.getfield 51, 3) := by decide +kernel
theorem dX10_bridge_50 : decode cX10_bridge 50 = .ok (.invokevirtual 100, 3) := by decide +kernel
theorem dX10_bridge_53 : decode cX10_bridge 53 = .ok (.aload_n 0, 1) := by decide +kernel
theorem dX10_bridge_54 : decode cX10_bridge 54 = .ok (.getfield 19, 3) := by decide +kernel
theorem dX10_bridge_57 : decode cX10_bridge 57 = .ok (.getfield 103, 3) := by decide +kernel
theorem dX10_bridge_60 : decode cX10_bridge 60 = .ok (.ireturn, 1) := by decide +kernel
theorem dX10_bridge_32 : decode cX10_bridge 32 = .ok (.bipush (-4), 2) := by decide +kernel
theorem dX10_bridge_34 : decode cX10_bridge 34 = .ok (.ireturn, 1) := by decide +kernel
def FX10_bridge_0   (f : Mm) : Option (Int × Mm) := ((FX4_readAll_1_21 f).bind fun f1 => (if (f1 1 0) = 0 then ((FX0_become_4_21 (up f1 2 1 0)).bind fun f2 => ((FX3_forget f2).bind fun f3 => some ((f3 4 0), f3))) else some ((-4), (up f1 2 1 0))))
set_option maxHeartbeats 4000000 in
set_option maxRecDepth 100000 in
theorem SX10_bridge_0 {G : GT} {l : Launch} {Q : Option AV → Mem → Prop}   (f : Mm) (h : OkI Q (FX10_bridge_0   f)) : Ev G l MX10_bridge (Rm 9 0 0) (ZM G Q 0 0) 0 0 0 [some (vR 0)] [] (SH, RF, f) := by
  unfold FX10_bridge_0 at h
  refine ev_aload_n (i := 0) dX10_bridge_0 rfl rfl ?_
  refine ev_getR dX10_bridge_1 fl_X10_10 sh_0 (by decide) (by decide) rf_0_0 ?_
  refine ev_aload_n (i := 0) dX10_bridge_4 rfl rfl ?_
  refine ev_getR dX10_bridge_5 fl_X10_23 sh_0 (by decide) (by decide) rf_0_2 ?_
  refine ev_cVV (b := 1) (av := [vR 21]) (S := []) (fun q => q) h dX10_bridge_8 (fun Q' q => TX4_readAll_1_21 _ q) kvX4_readAll ml_X10_90 sh_1 rfl (RRc (by decide) (by decide)) (Nat.le_of_ble_eq_true rfl) ⟨Nat.le_of_ble_eq_true rfl, Nat.le_of_ble_eq_true rfl⟩ (fun f1 h => ?_)
  refine ev_aload_n (i := 0) dX10_bridge_11 rfl rfl ?_
  refine ev_getR dX10_bridge_12 fl_X10_10 sh_0 (by decide) (by decide) rf_0_0 ?_
  refine ev_getR dX10_bridge_15 fl_X10_76 sh_1 (by decide) (by decide) rf_1_2 ?_
  refine ev_iconst dX10_bridge_18 (r32c rfl) ?_
  refine ev_putI dX10_bridge_19 fl_X10_80 sh_2 (by decide) (by decide) ?_
  refine ev_aload_n (i := 0) dX10_bridge_22 rfl rfl ?_
  refine ev_getR dX10_bridge_23 fl_X10_10 sh_0 (by decide) (by decide) rf_0_0 ?_
  refine ex_getI (x := (f1 1 0)) dX10_bridge_26 fl_X10_94 sh_1 (by decide) (by decide) rfl ?_
  refine ev_if_eq (tgt := 35) dX10_bridge_29 (by decide) (fun c4 => ?_) (fun c4 => ?_)
  · rw [if_pos c4] at h
    refine ev_aload_n (i := 0) dX10_bridge_35 rfl rfl ?_
    refine ev_getR dX10_bridge_36 fl_X10_19 sh_0 (by decide) (by decide) rf_0_1 ?_
    refine ev_aload_n (i := 0) dX10_bridge_39 rfl rfl ?_
    refine ev_getR dX10_bridge_40 fl_X10_23 sh_0 (by decide) (by decide) rf_0_2 ?_
    refine ev_cVV (b := 4) (av := [vR 21]) (S := []) (fun q => q) h dX10_bridge_43 (fun Q' q => TX0_become_4_21 _ q) kvX0_become ml_X10_97 sh_4 rfl (RRc (by decide) (by decide)) (Nat.le_of_ble_eq_true rfl) ⟨Nat.le_of_ble_eq_true rfl, Nat.le_of_ble_eq_true rfl⟩ (fun f2 h => ?_)
    refine ev_aload_n (i := 0) dX10_bridge_46 rfl rfl ?_
    refine ev_getR dX10_bridge_47 fl_X10_51 sh_0 (by decide) (by decide) rf_0_7 ?_
    refine ev_cVV (b := 57) (av := []) (S := []) (fun q => q) h dX10_bridge_50 (fun Q' q => TX3_forget _ q) kvX3_forget ml_X10_100 sh_57 rfl (RRc (by decide) (by decide)) (Nat.le_of_ble_eq_true rfl) ⟨Nat.le_of_ble_eq_true rfl, Nat.le_of_ble_eq_true rfl⟩ (fun f3 h => ?_)
    refine ev_aload_n (i := 0) dX10_bridge_53 rfl rfl ?_
    refine ev_getR dX10_bridge_54 fl_X10_19 sh_0 (by decide) (by decide) rf_0_1 ?_
    refine ex_getI (x := (f3 4 0)) dX10_bridge_57 fl_X10_103 sh_4 (by decide) (by decide) rfl ?_
    exact ev_iret rfl dX10_bridge_60 h
  · rw [if_neg c4] at h
    refine ev_bipush (v := (-4)) dX10_bridge_32 (r32c rfl) (by decide) ?_
    exact ev_iret rfl dX10_bridge_34 h
def FX10_bridge  (f : Mm) : Option (Int × Mm) := FX10_bridge_0  f
set_option maxRecDepth 100000 in
theorem TX10_bridge {G : GT} {l : Launch} {Q : Option AV → Mem → Prop}  (f : Mm) (h : OkI Q (FX10_bridge  f)) : Ret G l MX10_bridge (9) 0 0 [vR 0] (SH, RF, f) Q := by
  refine ret_of (L := [some (vR 0)]) (by decide) rfl (Nat.le_of_ble_eq_true rfl) ?_
  exact SX10_bridge_0  f h
theorem dX10_fault_0 : decode cX10_fault 0 = .ok (.iload_n 1, 1) := by decide +kernel
theorem dX10_fault_1 : decode cX10_fault 1 = .ok (.ifCond .ne 11, 3) := by decide +kernel
theorem dX10_fault_12 : decode cX10_fault 12 = .ok (.iload_n 1, 1) := by decide +kernel
theorem dX10_fault_13 : decode cX10_fault 13 = .ok (.iconst 1, 1) := by decide +kernel
theorem dX10_fault_14 : decode cX10_fault 14 = .ok (.if_icmp .ne 13, 3) := by decide +kernel
theorem dX10_fault_27 : decode cX10_fault 27 = .ok (.iconst (-1), 1) := by decide +kernel
theorem dX10_fault_28 : decode cX10_fault 28 = .ok (.ireturn, 1) := by decide +kernel
theorem dX10_fault_17 : decode cX10_fault 17 = .ok (.aload_n 0, 1) := by decide +kernel
theorem dX10_fault_18 : decode cX10_fault 18 = .ok (.getfield 10, 3) := by decide +kernel
theorem dX10_fault_21 : decode cX10_fault 21 = .ok (.getfield 106, 3) := by decide +kernel
theorem dX10_fault_24 : decode cX10_fault 24 = .ok (.goto 4, 3) := by decide +kernel
theorem dX10_fault_4 : decode cX10_fault 4 = .ok (.aload_n 0, 1) := by decide +kernel
theorem dX10_fault_5 : decode cX10_fault 5 = .ok (.getfield 10, 3) := by decide +kernel
theorem dX10_fault_8 : decode cX10_fault 8 = .ok (.getfield 94, 3) := by decide +kernel
theorem dX10_fault_11 : decode cX10_fault 11 = .ok (.ireturn, 1) := by decide +kernel
def FX10_fault_0  (x1 : Int) (f : Mm) : Option (Int × Mm) := (if x1 = 0 then some ((f 1 0), f) else (if x1 = 1 then some ((f 1 1), f) else some ((-1), f)))
set_option maxHeartbeats 4000000 in
set_option maxRecDepth 100000 in
theorem SX10_fault_0 {G : GT} {l : Launch} {Q : Option AV → Mem → Prop}  (x1 : Int) (f : Mm) (h : OkI Q (FX10_fault_0  x1 f)) : Ev G l MX10_fault (Rm 1 0 0) (ZM G Q 0 0) 0 0 0 [some (vR 0), some (vI x1)] [] (SH, RF, f) := by
  unfold FX10_fault_0 at h
  refine ev_iload_n (i := 1) dX10_fault_0 rfl rfl ?_
  refine ev_if_ne (tgt := 12) dX10_fault_1 (by decide) (fun c2 => ?_) (fun c2 => ?_)
  · rw [if_neg c2] at h
    refine ev_iload_n (i := 1) dX10_fault_12 rfl rfl ?_
    refine ev_iconst dX10_fault_13 (r32c rfl) ?_
    refine ev_icmp_ne (tgt := 27) dX10_fault_14 (by decide) (fun c1 => ?_) (fun c1 => ?_)
    · rw [if_neg c1] at h
      refine ev_iconst dX10_fault_27 (r32c rfl) ?_
      exact ev_iret rfl dX10_fault_28 h
    · rw [if_pos c1] at h
      refine ev_aload_n (i := 0) dX10_fault_17 rfl rfl ?_
      refine ev_getR dX10_fault_18 fl_X10_10 sh_0 (by decide) (by decide) rf_0_0 ?_
      refine ex_getI (x := (f 1 1)) dX10_fault_21 fl_X10_106 sh_1 (by decide) (by decide) rfl ?_
      refine ev_goto (tgt := 28) dX10_fault_24 (by decide) ?_
      exact ev_iret rfl dX10_fault_28 h
  · rw [if_pos c2] at h
    refine ev_aload_n (i := 0) dX10_fault_4 rfl rfl ?_
    refine ev_getR dX10_fault_5 fl_X10_10 sh_0 (by decide) (by decide) rf_0_0 ?_
    refine ex_getI (x := (f 1 0)) dX10_fault_8 fl_X10_94 sh_1 (by decide) (by decide) rfl ?_
    exact ev_iret rfl dX10_fault_11 h
def FX10_fault (x1 : Int) (f : Mm) : Option (Int × Mm) := FX10_fault_0 x1 f
set_option maxRecDepth 100000 in
theorem TX10_fault {G : GT} {l : Launch} {Q : Option AV → Mem → Prop} (x1 : Int) (f : Mm) (h : OkI Q (FX10_fault x1 f)) : Ret G l MX10_fault (1) 0 0 [vR 0, vI x1] (SH, RF, f) Q := by
  refine ret_of (L := [some (vR 0), some (vI x1)]) (by decide) rfl (Nat.le_of_ble_eq_true rfl) ?_
  exact SX10_fault_0 x1 f h
theorem dX0_hasDeed_0 : decode cX0_hasDeed 0 = .ok (.iload_n 1, 1) := by decide +kernel
theorem dX0_hasDeed_1 : decode cX0_hasDeed 1 = .ok (.ifCond .lt 15, 3) := by decide +kernel
theorem dX0_hasDeed_16 : decode cX0_hasDeed 16 = .ok (.iconst 0, 1) := by decide +kernel
theorem dX0_hasDeed_17 : decode cX0_hasDeed 17 = .ok (.ireturn, 1) := by decide +kernel
theorem dX0_hasDeed_4 : decode cX0_hasDeed 4 = .ok (.iload_n 1, 1) := by decide +kernel
theorem dX0_hasDeed_5 : decode cX0_hasDeed 5 = .ok (.aload_n 0, 1) := by decide +kernel
theorem dX0_hasDeed_6 : decode cX0_hasDeed 6 = .ok (.getfield 45, 3) := by decide +kernel
theorem dX0_hasDeed_9 : decode cX0_hasDeed 9 = .ok (.if_icmp .ge 7, 3) := by decide +kernel
theorem dX0_hasDeed_12 : decode cX0_hasDeed 12 = .ok (.iconst 1, 1) := by decide +kernel
theorem dX0_hasDeed_13 : decode cX0_hasDeed 13 = .ok (.goto 4, 3) := by decide +kernel
def FX0_hasDeed_4_0  (x1 : Int) (f : Mm) : Option (Int × Mm) := (if x1 < 0 then some (0, f) else (if (f 4 4) ≤ x1 then some (0, f) else some (1, f)))
set_option maxHeartbeats 4000000 in
set_option maxRecDepth 100000 in
theorem SX0_hasDeed_4_0 {G : GT} {l : Launch} {Q : Option AV → Mem → Prop}  (x1 : Int) (f : Mm) (h : OkI Q (FX0_hasDeed_4_0  x1 f)) : Ev G l MX0_hasDeed (Rm 1 0 0) (ZM G Q 0 0) 0 0 0 [some (vR 4), some (vI x1)] [] (SH, RF, f) := by
  unfold FX0_hasDeed_4_0 at h
  refine ev_iload_n (i := 1) dX0_hasDeed_0 rfl rfl ?_
  refine ev_if_lt (tgt := 16) dX0_hasDeed_1 (by decide) (fun c2 => ?_) (fun c2 => ?_)
  · rw [if_pos c2] at h
    refine ev_iconst dX0_hasDeed_16 (r32c rfl) ?_
    exact ev_zret rfl (by decide) dX0_hasDeed_17 h
  · rw [if_neg c2] at h
    refine ev_iload_n (i := 1) dX0_hasDeed_4 rfl rfl ?_
    refine ev_aload_n (i := 0) dX0_hasDeed_5 rfl rfl ?_
    refine ex_getI (x := (f 4 4)) dX0_hasDeed_6 fl_X0_45 sh_4 (by decide) (by decide) rfl ?_
    refine ev_icmp_ge (tgt := 16) dX0_hasDeed_9 (by decide) (fun c1 => ?_) (fun c1 => ?_)
    · rw [if_pos c1] at h
      refine ev_iconst dX0_hasDeed_16 (r32c rfl) ?_
      exact ev_zret rfl (by decide) dX0_hasDeed_17 h
    · rw [if_neg c1] at h
      refine ev_iconst dX0_hasDeed_12 (r32c rfl) ?_
      refine ev_goto (tgt := 17) dX0_hasDeed_13 (by decide) ?_
      exact ev_zret rfl (by decide) dX0_hasDeed_17 h
def FX0_hasDeed_4 (x1 : Int) (f : Mm) : Option (Int × Mm) := FX0_hasDeed_4_0 x1 f
set_option maxRecDepth 100000 in
theorem TX0_hasDeed_4 {G : GT} {l : Launch} {Q : Option AV → Mem → Prop} (x1 : Int) (f : Mm) (h : OkI Q (FX0_hasDeed_4 x1 f)) : Ret G l MX0_hasDeed (1) 0 0 [vR 4, vI x1] (SH, RF, f) Q := by
  refine ret_of (L := [some (vR 4), some (vI x1)]) (by decide) rfl (Nat.le_of_ble_eq_true rfl) ?_
  exact SX0_hasDeed_4_0 x1 f h
theorem dX10_deed_0 : decode cX10_deed 0 = .ok (.aload_n 0, 1) := by decide +kernel
theorem dX10_deed_1 : decode cX10_deed 1 = .ok (.getfield 19, 3) := by decide +kernel
theorem dX10_deed_4 : decode cX10_deed 4 = .ok (.iload_n 1, 1) := by decide +kernel
theorem dX10_deed_5 : decode cX10_deed 5 = .ok (.invokevirtual 109, 3) := by decide +kernel
theorem dX10_deed_8 : decode cX10_deed 8 = .ok (.ifCond .eq 12, 3) := by decide +kernel
theorem dX10_deed_20 : decode cX10_deed 20 = .ok (.sipush (-1000), 3) := by decide +kernel
theorem dX10_deed_23 : decode cX10_deed 23 = .ok (.ireturn, 1) := by decide +kernel
theorem dX10_deed_11 : decode cX10_deed 11 = .ok (.iload_n 2, 1) := by decide +kernel
theorem dX10_deed_12 : decode cX10_deed 12 = .ok (.ifCond .lt 8, 3) := by decide +kernel
theorem dX10_deed_15 : decode cX10_deed 15 = .ok (.iload_n 2, 1) := by decide +kernel
theorem dX10_deed_16 : decode cX10_deed 16 = .ok (.iconst 4, 1) := by decide +kernel
theorem dX10_deed_17 : decode cX10_deed 17 = .ok (.if_icmp .lt 7, 3) := by decide +kernel
theorem dX10_deed_24 : decode cX10_deed 24 = .ok (.aload_n 0, 1) := by decide +kernel
theorem dX10_deed_25 : decode cX10_deed 25 = .ok (.getfield 19, 3) := by decide +kernel
theorem dX10_deed_28 : decode cX10_deed 28 = .ok (.getfield 113, 3) := by decide +kernel
theorem dX10_deed_31 : decode cX10_deed 31 = .ok (.iload_n 1, 1) := by decide +kernel
theorem dX10_deed_32 : decode cX10_deed 32 = .ok (.aaload, 1) := by decide +kernel
theorem dX10_deed_33 : decode cX10_deed 33 = .ok (.iload_n 2, 1) := by decide +kernel
theorem dX10_deed_34 : decode cX10_deed 34 = .ok (.iaload, 1) := by decide +kernel
theorem dX10_deed_35 : decode cX10_deed 35 = .ok (.ireturn, 1) := by decide +kernel
def FX10_deed_0  (x1 : Int) (x2 : Int) (f : Mm) : Option (Int × Mm) := (b2 (FX0_hasDeed_4 x1 f) fun y1 f1 => (if y1 = 0 then some ((-1000), f1) else (if x2 < 0 then some ((-1000), f1) else (if x2 < 4 then (if 0 ≤ x1 ∧ x1 < 4 then (if 0 ≤ x2 ∧ x2 < 4 then some ((f1 (7 + x1.toNat) x2.toNat), f1) else none) else none) else some ((-1000), f1)))))
set_option maxHeartbeats 4000000 in
set_option maxRecDepth 100000 in
theorem SX10_deed_0 {G : GT} {l : Launch} {Q : Option AV → Mem → Prop}  (x1 : Int) (x2 : Int) (f : Mm) (h : OkI Q (FX10_deed_0  x1 x2 f)) : Ev G l MX10_deed (Rm 2 0 0) (ZM G Q 0 0) 0 0 0 [some (vR 0), some (vI x1), some (vI x2)] [] (SH, RF, f) := by
  unfold FX10_deed_0 at h
  refine ev_aload_n (i := 0) dX10_deed_0 rfl rfl ?_
  refine ev_getR dX10_deed_1 fl_X10_19 sh_0 (by decide) (by decide) rf_0_1 ?_
  refine ev_iload_n (i := 1) dX10_deed_4 rfl rfl ?_
  refine ev_cVI (b := 4) (av := [vI x1]) (S := []) (fun q => q) h dX10_deed_5 (fun Q' q => TX0_hasDeed_4 x1 _ q) kvX0_hasDeed ml_X10_109 sh_4 rfl (RRc (by decide) (by decide)) (Nat.le_of_ble_eq_true rfl) ⟨Nat.le_of_ble_eq_true rfl, Nat.le_of_ble_eq_true rfl⟩ (fun y1 f1 h => ?_)
  refine ev_if_eq (tgt := 20) dX10_deed_8 (by decide) (fun c6 => ?_) (fun c6 => ?_)
  · rw [if_pos c6] at h
    refine ev_sipush (v := (-1000)) dX10_deed_20 (r32c rfl) (by decide) ?_
    exact ev_iret rfl dX10_deed_23 h
  · rw [if_neg c6] at h
    refine ev_iload_n (i := 2) dX10_deed_11 rfl rfl ?_
    refine ev_if_lt (tgt := 20) dX10_deed_12 (by decide) (fun c5 => ?_) (fun c5 => ?_)
    · rw [if_pos c5] at h
      refine ev_sipush (v := (-1000)) dX10_deed_20 (r32c rfl) (by decide) ?_
      exact ev_iret rfl dX10_deed_23 h
    · rw [if_neg c5] at h
      refine ev_iload_n (i := 2) dX10_deed_15 rfl rfl ?_
      refine ev_iconst dX10_deed_16 (r32c rfl) ?_
      refine ev_icmp_lt (tgt := 24) dX10_deed_17 (by decide) (fun c4 => ?_) (fun c4 => ?_)
      · rw [if_pos c4] at h
        refine ev_aload_n (i := 0) dX10_deed_24 rfl rfl ?_
        refine ev_getR dX10_deed_25 fl_X10_19 sh_0 (by decide) (by decide) rf_0_1 ?_
        refine ev_getR dX10_deed_28 fl_X10_113 sh_4 (by decide) (by decide) rf_4_8 ?_
        refine ev_iload_n (i := 1) dX10_deed_31 rfl rfl ?_
        by_cases g2 : 0 ≤ x1 ∧ x1 < 4
        · rw [if_pos g2] at h
          refine ev_aald (b := (7 + x1.toNat)) dX10_deed_32 (Or.inl rfl) sh_6 g2.1 g2.2 (rfr_6 g2) ?_
          refine ev_iload_n (i := 2) dX10_deed_33 rfl rfl ?_
          by_cases g3 : 0 ≤ x2 ∧ x2 < 4
          · rw [if_pos g3] at h
            refine ex_iald (x := (f1 (7 + x1.toNat) x2.toNat)) dX10_deed_34 (shr_6 g2) g3.1 g3.2 rfl ?_
            exact ev_iret rfl dX10_deed_35 h
          · rw [if_neg g3] at h; exact h.elim
        · rw [if_neg g2] at h; exact h.elim
      · rw [if_neg c4] at h
        refine ev_sipush (v := (-1000)) dX10_deed_20 (r32c rfl) (by decide) ?_
        exact ev_iret rfl dX10_deed_23 h
def FX10_deed (x1 : Int) (x2 : Int) (f : Mm) : Option (Int × Mm) := FX10_deed_0 x1 x2 f
set_option maxRecDepth 100000 in
theorem TX10_deed {G : GT} {l : Launch} {Q : Option AV → Mem → Prop} (x1 : Int) (x2 : Int) (f : Mm) (h : OkI Q (FX10_deed x1 x2 f)) : Ret G l MX10_deed (2) 0 0 [vR 0, vI x1, vI x2] (SH, RF, f) Q := by
  refine ret_of (L := [some (vR 0), some (vI x1), some (vI x2)]) (by decide) rfl (Nat.le_of_ble_eq_true rfl) ?_
  exact SX10_deed_0 x1 x2 f h
theorem dX0_hasCart_0 : decode cX0_hasCart 0 = .ok (.iload_n 1, 1) := by decide +kernel
theorem dX0_hasCart_1 : decode cX0_hasCart 1 = .ok (.ifCond .lt 15, 3) := by decide +kernel
theorem dX0_hasCart_16 : decode cX0_hasCart 16 = .ok (.iconst 0, 1) := by decide +kernel
theorem dX0_hasCart_17 : decode cX0_hasCart 17 = .ok (.ireturn, 1) := by decide +kernel
theorem dX0_hasCart_4 : decode cX0_hasCart 4 = .ok (.iload_n 1, 1) := by decide +kernel
theorem dX0_hasCart_5 : decode cX0_hasCart 5 = .ok (.aload_n 0, 1) := by decide +kernel
theorem dX0_hasCart_6 : decode cX0_hasCart 6 = .ok (.getfield 48, 3) := by decide +kernel
theorem dX0_hasCart_9 : decode cX0_hasCart 9 = .ok (.if_icmp .ge 7, 3) := by decide +kernel
theorem dX0_hasCart_12 : decode cX0_hasCart 12 = .ok (.iconst 1, 1) := by decide +kernel
theorem dX0_hasCart_13 : decode cX0_hasCart 13 = .ok (.goto 4, 3) := by decide +kernel
def FX0_hasCart_4_0  (x1 : Int) (f : Mm) : Option (Int × Mm) := (if x1 < 0 then some (0, f) else (if (f 4 5) ≤ x1 then some (0, f) else some (1, f)))
set_option maxHeartbeats 4000000 in
set_option maxRecDepth 100000 in
theorem SX0_hasCart_4_0 {G : GT} {l : Launch} {Q : Option AV → Mem → Prop}  (x1 : Int) (f : Mm) (h : OkI Q (FX0_hasCart_4_0  x1 f)) : Ev G l MX0_hasCart (Rm 1 0 0) (ZM G Q 0 0) 0 0 0 [some (vR 4), some (vI x1)] [] (SH, RF, f) := by
  unfold FX0_hasCart_4_0 at h
  refine ev_iload_n (i := 1) dX0_hasCart_0 rfl rfl ?_
  refine ev_if_lt (tgt := 16) dX0_hasCart_1 (by decide) (fun c2 => ?_) (fun c2 => ?_)
  · rw [if_pos c2] at h
    refine ev_iconst dX0_hasCart_16 (r32c rfl) ?_
    exact ev_zret rfl (by decide) dX0_hasCart_17 h
  · rw [if_neg c2] at h
    refine ev_iload_n (i := 1) dX0_hasCart_4 rfl rfl ?_
    refine ev_aload_n (i := 0) dX0_hasCart_5 rfl rfl ?_
    refine ex_getI (x := (f 4 5)) dX0_hasCart_6 fl_X0_48 sh_4 (by decide) (by decide) rfl ?_
    refine ev_icmp_ge (tgt := 16) dX0_hasCart_9 (by decide) (fun c1 => ?_) (fun c1 => ?_)
    · rw [if_pos c1] at h
      refine ev_iconst dX0_hasCart_16 (r32c rfl) ?_
      exact ev_zret rfl (by decide) dX0_hasCart_17 h
    · rw [if_neg c1] at h
      refine ev_iconst dX0_hasCart_12 (r32c rfl) ?_
      refine ev_goto (tgt := 17) dX0_hasCart_13 (by decide) ?_
      exact ev_zret rfl (by decide) dX0_hasCart_17 h
def FX0_hasCart_4 (x1 : Int) (f : Mm) : Option (Int × Mm) := FX0_hasCart_4_0 x1 f
set_option maxRecDepth 100000 in
theorem TX0_hasCart_4 {G : GT} {l : Launch} {Q : Option AV → Mem → Prop} (x1 : Int) (f : Mm) (h : OkI Q (FX0_hasCart_4 x1 f)) : Ret G l MX0_hasCart (1) 0 0 [vR 4, vI x1] (SH, RF, f) Q := by
  refine ret_of (L := [some (vR 4), some (vI x1)]) (by decide) rfl (Nat.le_of_ble_eq_true rfl) ?_
  exact SX0_hasCart_4_0 x1 f h
theorem dX10_cart_0 : decode cX10_cart 0 = .ok (.aload_n 0, 1) := by decide +kernel
theorem dX10_cart_1 : decode cX10_cart 1 = .ok (.getfield 19, 3) := by decide +kernel
theorem dX10_cart_4 : decode cX10_cart 4 = .ok (.iload_n 1, 1) := by decide +kernel
theorem dX10_cart_5 : decode cX10_cart 5 = .ok (.invokevirtual 117, 3) := by decide +kernel
theorem dX10_cart_8 : decode cX10_cart 8 = .ok (.ifCond .eq 12, 3) := by decide +kernel
theorem dX10_cart_20 : decode cX10_cart 20 = .ok (.bipush (-2), 2) := by decide +kernel
theorem dX10_cart_22 : decode cX10_cart 22 = .ok (.ireturn, 1) := by decide +kernel
theorem dX10_cart_11 : decode cX10_cart 11 = .ok (.iload_n 2, 1) := by decide +kernel
theorem dX10_cart_12 : decode cX10_cart 12 = .ok (.ifCond .lt 8, 3) := by decide +kernel
theorem dX10_cart_15 : decode cX10_cart 15 = .ok (.iload_n 2, 1) := by decide +kernel
theorem dX10_cart_16 : decode cX10_cart 16 = .ok (.iconst 5, 1) := by decide +kernel
theorem dX10_cart_17 : decode cX10_cart 17 = .ok (.if_icmp .lt 6, 3) := by decide +kernel
theorem dX10_cart_23 : decode cX10_cart 23 = .ok (.aload_n 0, 1) := by decide +kernel
theorem dX10_cart_24 : decode cX10_cart 24 = .ok (.getfield 19, 3) := by decide +kernel
theorem dX10_cart_27 : decode cX10_cart 27 = .ok (.getfield 120, 3) := by decide +kernel
theorem dX10_cart_30 : decode cX10_cart 30 = .ok (.iload_n 1, 1) := by decide +kernel
theorem dX10_cart_31 : decode cX10_cart 31 = .ok (.aaload, 1) := by decide +kernel
theorem dX10_cart_32 : decode cX10_cart 32 = .ok (.iload_n 2, 1) := by decide +kernel
theorem dX10_cart_33 : decode cX10_cart 33 = .ok (.iaload, 1) := by decide +kernel
theorem dX10_cart_34 : decode cX10_cart 34 = .ok (.ireturn, 1) := by decide +kernel
def FX10_cart_0  (x1 : Int) (x2 : Int) (f : Mm) : Option (Int × Mm) := (b2 (FX0_hasCart_4 x1 f) fun y1 f1 => (if y1 = 0 then some ((-2), f1) else (if x2 < 0 then some ((-2), f1) else (if x2 < 5 then (if 0 ≤ x1 ∧ x1 < 6 then (if 0 ≤ x2 ∧ x2 < 5 then some ((f1 (12 + x1.toNat) x2.toNat), f1) else none) else none) else some ((-2), f1)))))
set_option maxHeartbeats 4000000 in
set_option maxRecDepth 100000 in
theorem SX10_cart_0 {G : GT} {l : Launch} {Q : Option AV → Mem → Prop}  (x1 : Int) (x2 : Int) (f : Mm) (h : OkI Q (FX10_cart_0  x1 x2 f)) : Ev G l MX10_cart (Rm 2 0 0) (ZM G Q 0 0) 0 0 0 [some (vR 0), some (vI x1), some (vI x2)] [] (SH, RF, f) := by
  unfold FX10_cart_0 at h
  refine ev_aload_n (i := 0) dX10_cart_0 rfl rfl ?_
  refine ev_getR dX10_cart_1 fl_X10_19 sh_0 (by decide) (by decide) rf_0_1 ?_
  refine ev_iload_n (i := 1) dX10_cart_4 rfl rfl ?_
  refine ev_cVI (b := 4) (av := [vI x1]) (S := []) (fun q => q) h dX10_cart_5 (fun Q' q => TX0_hasCart_4 x1 _ q) kvX0_hasCart ml_X10_117 sh_4 rfl (RRc (by decide) (by decide)) (Nat.le_of_ble_eq_true rfl) ⟨Nat.le_of_ble_eq_true rfl, Nat.le_of_ble_eq_true rfl⟩ (fun y1 f1 h => ?_)
  refine ev_if_eq (tgt := 20) dX10_cart_8 (by decide) (fun c6 => ?_) (fun c6 => ?_)
  · rw [if_pos c6] at h
    refine ev_bipush (v := (-2)) dX10_cart_20 (r32c rfl) (by decide) ?_
    exact ev_iret rfl dX10_cart_22 h
  · rw [if_neg c6] at h
    refine ev_iload_n (i := 2) dX10_cart_11 rfl rfl ?_
    refine ev_if_lt (tgt := 20) dX10_cart_12 (by decide) (fun c5 => ?_) (fun c5 => ?_)
    · rw [if_pos c5] at h
      refine ev_bipush (v := (-2)) dX10_cart_20 (r32c rfl) (by decide) ?_
      exact ev_iret rfl dX10_cart_22 h
    · rw [if_neg c5] at h
      refine ev_iload_n (i := 2) dX10_cart_15 rfl rfl ?_
      refine ev_iconst dX10_cart_16 (r32c rfl) ?_
      refine ev_icmp_lt (tgt := 23) dX10_cart_17 (by decide) (fun c4 => ?_) (fun c4 => ?_)
      · rw [if_pos c4] at h
        refine ev_aload_n (i := 0) dX10_cart_23 rfl rfl ?_
        refine ev_getR dX10_cart_24 fl_X10_19 sh_0 (by decide) (by decide) rf_0_1 ?_
        refine ev_getR dX10_cart_27 fl_X10_120 sh_4 (by decide) (by decide) rf_4_9 ?_
        refine ev_iload_n (i := 1) dX10_cart_30 rfl rfl ?_
        by_cases g2 : 0 ≤ x1 ∧ x1 < 6
        · rw [if_pos g2] at h
          refine ev_aald (b := (12 + x1.toNat)) dX10_cart_31 (Or.inl rfl) sh_11 g2.1 g2.2 (rfr_11 g2) ?_
          refine ev_iload_n (i := 2) dX10_cart_32 rfl rfl ?_
          by_cases g3 : 0 ≤ x2 ∧ x2 < 5
          · rw [if_pos g3] at h
            refine ex_iald (x := (f1 (12 + x1.toNat) x2.toNat)) dX10_cart_33 (shr_11 g2) g3.1 g3.2 rfl ?_
            exact ev_iret rfl dX10_cart_34 h
          · rw [if_neg g3] at h; exact h.elim
        · rw [if_neg g2] at h; exact h.elim
      · rw [if_neg c4] at h
        refine ev_bipush (v := (-2)) dX10_cart_20 (r32c rfl) (by decide) ?_
        exact ev_iret rfl dX10_cart_22 h
def FX10_cart (x1 : Int) (x2 : Int) (f : Mm) : Option (Int × Mm) := FX10_cart_0 x1 x2 f
set_option maxRecDepth 100000 in
theorem TX10_cart {G : GT} {l : Launch} {Q : Option AV → Mem → Prop} (x1 : Int) (x2 : Int) (f : Mm) (h : OkI Q (FX10_cart x1 x2 f)) : Ret G l MX10_cart (2) 0 0 [vR 0, vI x1, vI x2] (SH, RF, f) Q := by
  refine ret_of (L := [some (vR 0), some (vI x1), some (vI x2)]) (by decide) rfl (Nat.le_of_ble_eq_true rfl) ?_
  exact SX10_cart_0 x1 x2 f h
theorem dX10_isSide_9 : decode cX10_isSide 9 = .ok (.iconst 1, 1) := by decide +kernel
theorem dX10_isSide_10 : decode cX10_isSide 10 = .ok (.goto 4, 3) := by decide +kernel
theorem dX10_isSide_14 : decode cX10_isSide 14 = .ok (.ireturn, 1) := by decide +kernel
theorem dX10_isSide_0 : decode cX10_isSide 0 = .ok (.iload_n 0, 1) := by decide +kernel
theorem dX10_isSide_1 : decode cX10_isSide 1 = .ok (.ifCond .eq 8, 3) := by decide +kernel
theorem dX10_isSide_4 : decode cX10_isSide 4 = .ok (.iload_n 0, 1) := by decide +kernel
theorem dX10_isSide_5 : decode cX10_isSide 5 = .ok (.iconst 1, 1) := by decide +kernel
theorem dX10_isSide_6 : decode cX10_isSide 6 = .ok (.if_icmp .ne 7, 3) := by decide +kernel
theorem dX10_isSide_13 : decode cX10_isSide 13 = .ok (.iconst 0, 1) := by decide +kernel
def FX10_isSide_9   (f : Mm) : Option (Int × Mm) := some (1, f)
set_option maxHeartbeats 4000000 in
set_option maxRecDepth 100000 in
theorem SX10_isSide_9 {G : GT} {l : Launch} {Q : Option AV → Mem → Prop}   (f : Mm) (h : OkI Q (FX10_isSide_9   f)) : Ev G l MX10_isSide (Rm 1 0 0) (ZM G Q 0 0) 0 0 9 [none] [] (SH, RF, f) := by
  unfold FX10_isSide_9 at h
  refine ev_iconst dX10_isSide_9 (r32c rfl) ?_
  refine ev_goto (tgt := 14) dX10_isSide_10 (by decide) ?_
  exact ev_zret rfl (by decide) dX10_isSide_14 h
def FX10_isSide_0  (x0 : Int) (f : Mm) : Option (Int × Mm) := (if x0 = 0 then FX10_isSide_9 f else (if x0 = 1 then FX10_isSide_9 f else some (0, f)))
set_option maxHeartbeats 4000000 in
set_option maxRecDepth 100000 in
theorem SX10_isSide_0 {G : GT} {l : Launch} {Q : Option AV → Mem → Prop}  (x0 : Int) (f : Mm) (h : OkI Q (FX10_isSide_0  x0 f)) : Ev G l MX10_isSide (Rm 1 0 0) (ZM G Q 0 0) 0 0 0 [some (vI x0)] [] (SH, RF, f) := by
  unfold FX10_isSide_0 at h
  refine ev_iload_n (i := 0) dX10_isSide_0 rfl rfl ?_
  refine ev_if_eq (tgt := 9) dX10_isSide_1 (by decide) (fun c2 => ?_) (fun c2 => ?_)
  · rw [if_pos c2] at h
    refine ev_fg [false] rfl ?_
    exact SX10_isSide_9   _ h
  · rw [if_neg c2] at h
    refine ev_iload_n (i := 0) dX10_isSide_4 rfl rfl ?_
    refine ev_iconst dX10_isSide_5 (r32c rfl) ?_
    refine ev_icmp_ne (tgt := 13) dX10_isSide_6 (by decide) (fun c1 => ?_) (fun c1 => ?_)
    · rw [if_neg c1] at h
      refine ev_iconst dX10_isSide_13 (r32c rfl) ?_
      exact ev_zret rfl (by decide) dX10_isSide_14 h
    · rw [if_pos c1] at h
      refine ev_fg [false] rfl ?_
      exact SX10_isSide_9   _ h
def FX10_isSide (x0 : Int) (f : Mm) : Option (Int × Mm) := FX10_isSide_0 x0 f
set_option maxRecDepth 100000 in
theorem TX10_isSide {G : GT} {l : Launch} {Q : Option AV → Mem → Prop} (x0 : Int) (f : Mm) (h : OkI Q (FX10_isSide x0 f)) : Ret G l MX10_isSide (1) 0 0 [vI x0] (SH, RF, f) Q := by
  refine ret_of (L := [some (vI x0)]) (by decide) rfl (Nat.le_of_ble_eq_true rfl) ?_
  exact SX10_isSide_0 x0 f h
theorem dX0_hasDay_0 : decode cX0_hasDay 0 = .ok (.iload_n 1, 1) := by decide +kernel
theorem dX0_hasDay_1 : decode cX0_hasDay 1 = .ok (.ifCond .lt 15, 3) := by decide +kernel
theorem dX0_hasDay_16 : decode cX0_hasDay 16 = .ok (.iconst 0, 1) := by decide +kernel
theorem dX0_hasDay_17 : decode cX0_hasDay 17 = .ok (.ireturn, 1) := by decide +kernel
theorem dX0_hasDay_4 : decode cX0_hasDay 4 = .ok (.iload_n 1, 1) := by decide +kernel
theorem dX0_hasDay_5 : decode cX0_hasDay 5 = .ok (.aload_n 0, 1) := by decide +kernel
theorem dX0_hasDay_6 : decode cX0_hasDay 6 = .ok (.getfield 36, 3) := by decide +kernel
theorem dX0_hasDay_9 : decode cX0_hasDay 9 = .ok (.if_icmp .ge 7, 3) := by decide +kernel
theorem dX0_hasDay_12 : decode cX0_hasDay 12 = .ok (.iconst 1, 1) := by decide +kernel
theorem dX0_hasDay_13 : decode cX0_hasDay 13 = .ok (.goto 4, 3) := by decide +kernel
def FX0_hasDay_4_0  (x1 : Int) (f : Mm) : Option (Int × Mm) := (if x1 < 0 then some (0, f) else (if (f 4 1) ≤ x1 then some (0, f) else some (1, f)))
set_option maxHeartbeats 4000000 in
set_option maxRecDepth 100000 in
theorem SX0_hasDay_4_0 {G : GT} {l : Launch} {Q : Option AV → Mem → Prop}  (x1 : Int) (f : Mm) (h : OkI Q (FX0_hasDay_4_0  x1 f)) : Ev G l MX0_hasDay (Rm 1 0 0) (ZM G Q 0 0) 0 0 0 [some (vR 4), some (vI x1)] [] (SH, RF, f) := by
  unfold FX0_hasDay_4_0 at h
  refine ev_iload_n (i := 1) dX0_hasDay_0 rfl rfl ?_
  refine ev_if_lt (tgt := 16) dX0_hasDay_1 (by decide) (fun c2 => ?_) (fun c2 => ?_)
  · rw [if_pos c2] at h
    refine ev_iconst dX0_hasDay_16 (r32c rfl) ?_
    exact ev_zret rfl (by decide) dX0_hasDay_17 h
  · rw [if_neg c2] at h
    refine ev_iload_n (i := 1) dX0_hasDay_4 rfl rfl ?_
    refine ev_aload_n (i := 0) dX0_hasDay_5 rfl rfl ?_
    refine ex_getI (x := (f 4 1)) dX0_hasDay_6 fl_X0_36 sh_4 (by decide) (by decide) rfl ?_
    refine ev_icmp_ge (tgt := 16) dX0_hasDay_9 (by decide) (fun c1 => ?_) (fun c1 => ?_)
    · rw [if_pos c1] at h
      refine ev_iconst dX0_hasDay_16 (r32c rfl) ?_
      exact ev_zret rfl (by decide) dX0_hasDay_17 h
    · rw [if_neg c1] at h
      refine ev_iconst dX0_hasDay_12 (r32c rfl) ?_
      refine ev_goto (tgt := 17) dX0_hasDay_13 (by decide) ?_
      exact ev_zret rfl (by decide) dX0_hasDay_17 h
def FX0_hasDay_4 (x1 : Int) (f : Mm) : Option (Int × Mm) := FX0_hasDay_4_0 x1 f
set_option maxRecDepth 100000 in
theorem TX0_hasDay_4 {G : GT} {l : Launch} {Q : Option AV → Mem → Prop} (x1 : Int) (f : Mm) (h : OkI Q (FX0_hasDay_4 x1 f)) : Ret G l MX0_hasDay (1) 0 0 [vR 4, vI x1] (SH, RF, f) Q := by
  refine ret_of (L := [some (vR 4), some (vI x1)]) (by decide) rfl (Nat.le_of_ble_eq_true rfl) ?_
  exact SX0_hasDay_4_0 x1 f h
theorem dX1_asDone_47 : decode cX1_asDone 47 = .ok (.aload_n 0, 1) := by decide +kernel
theorem dX1_asDone_48 : decode cX1_asDone 48 = .ok (.iconst (-1), 1) := by decide +kernel
theorem dX1_asDone_49 : decode cX1_asDone 49 = .ok (.putfield 37, 3) := by decide +kernel
theorem dX1_asDone_52 : decode cX1_asDone 52 = .ok (.aload_n 0, 1) := by decide +kernel
theorem dX1_asDone_53 : decode cX1_asDone 53 = .ok (.iconst (-1), 1) := by decide +kernel
theorem dX1_asDone_54 : decode cX1_asDone 54 = .ok (.putfield 41, 3) := by decide +kernel
theorem dX1_asDone_57 : decode cX1_asDone 57 = .ok (.aload_n 0, 1) := by decide +kernel
theorem dX1_asDone_58 : decode cX1_asDone 58 = .ok (.aload_n 1, 1) := by decide +kernel
theorem dX1_asDone_59 : decode cX1_asDone 59 = .ok (.getfield 44, 3) := by decide +kernel
theorem dX1_asDone_62 : decode cX1_asDone 62 = .ok (.putfield 47, 3) := by decide +kernel
theorem dX1_asDone_65 : decode cX1_asDone 65 = .ok (.aload_n 0, 1) := by decide +kernel
theorem dX1_asDone_66 : decode cX1_asDone 66 = .ok (.iconst 0, 1) := by decide +kernel
theorem dX1_asDone_67 : decode cX1_asDone 67 = .ok (.putfield 48, 3) := by decide +kernel
theorem dX1_asDone_70 : decode cX1_asDone 70 = .ok (.return_, 1) := by decide +kernel
theorem dX1_asDone_28 : decode cX1_asDone 28 = .ok (.iload_n 2, 1) := by decide +kernel
theorem dX1_asDone_29 : decode cX1_asDone 29 = .ok (.bipush 6, 2) := by decide +kernel
theorem dX1_asDone_31 : decode cX1_asDone 31 = .ok (.if_icmp .ge 16, 3) := by decide +kernel
theorem dX1_asDone_34 : decode cX1_asDone 34 = .ok (.aload_n 0, 1) := by decide +kernel
theorem dX1_asDone_35 : decode cX1_asDone 35 = .ok (.getfield 15, 3) := by decide +kernel
theorem dX1_asDone_38 : decode cX1_asDone 38 = .ok (.iload_n 2, 1) := by decide +kernel
theorem dX1_asDone_39 : decode cX1_asDone 39 = .ok (.iload_n 2, 1) := by decide +kernel
theorem dX1_asDone_40 : decode cX1_asDone 40 = .ok (.iastore, 1) := by decide +kernel
theorem dX1_asDone_41 : decode cX1_asDone 41 = .ok (.iinc 2 1, 3) := by decide +kernel
theorem dX1_asDone_44 : decode cX1_asDone 44 = .ok (.goto (-16), 3) := by decide +kernel
theorem dX1_asDone_26 : decode cX1_asDone 26 = .ok (.iconst 0, 1) := by decide +kernel
theorem dX1_asDone_27 : decode cX1_asDone 27 = .ok (.istore_n 2, 1) := by decide +kernel
theorem dX1_asDone_2 : decode cX1_asDone 2 = .ok (.iload_n 2, 1) := by decide +kernel
theorem dX1_asDone_3 : decode cX1_asDone 3 = .ok (.bipush 6, 2) := by decide +kernel
theorem dX1_asDone_5 : decode cX1_asDone 5 = .ok (.if_icmp .ge 21, 3) := by decide +kernel
theorem dX1_asDone_8 : decode cX1_asDone 8 = .ok (.aload_n 0, 1) := by decide +kernel
theorem dX1_asDone_9 : decode cX1_asDone 9 = .ok (.getfield 9, 3) := by decide +kernel
theorem dX1_asDone_12 : decode cX1_asDone 12 = .ok (.iload_n 2, 1) := by decide +kernel
theorem dX1_asDone_13 : decode cX1_asDone 13 = .ok (.aload_n 1, 1) := by decide +kernel
theorem dX1_asDone_14 : decode cX1_asDone 14 = .ok (.getfield 32, 3) := by decide +kernel
theorem dX1_asDone_17 : decode cX1_asDone 17 = .ok (.iload_n 2, 1) := by decide +kernel
theorem dX1_asDone_18 : decode cX1_asDone 18 = .ok (.iaload, 1) := by decide +kernel
theorem dX1_asDone_19 : decode cX1_asDone 19 = .ok (.iastore, 1) := by decide +kernel
theorem dX1_asDone_20 : decode cX1_asDone 20 = .ok (.iinc 2 1, 3) := by decide +kernel
theorem dX1_asDone_23 : decode cX1_asDone 23 = .ok (.goto (-21), 3) := by decide +kernel
theorem dX1_asDone_0 : decode cX1_asDone 0 = .ok (.iconst 0, 1) := by decide +kernel
theorem dX1_asDone_1 : decode cX1_asDone 1 = .ok (.istore_n 2, 1) := by decide +kernel
def FX1_asDone_48_4_47   (f : Mm) : Option Mm := some (up (up (up (up f 48 2 (-1)) 48 3 (-1)) 48 4 (f 4 2)) 48 5 0)
set_option maxHeartbeats 4000000 in
set_option maxRecDepth 100000 in
theorem SX1_asDone_48_4_47 {G : GT} {l : Launch} {Q : Option AV → Mem → Prop}   (f : Mm) (h : OkV Q (FX1_asDone_48_4_47   f)) : Ev G l MX1_asDone (Rm 1 0 0) (ZM G Q 0 0) 0 0 47 [some (vR 48), some (vR 4), none] [] (SH, RF, f) := by
  unfold FX1_asDone_48_4_47 at h
  refine ev_aload_n (i := 0) dX1_asDone_47 rfl rfl ?_
  refine ev_iconst dX1_asDone_48 (r32c rfl) ?_
  refine ev_putI dX1_asDone_49 fl_X1_37 sh_48 (by decide) (by decide) ?_
  refine ev_aload_n (i := 0) dX1_asDone_52 rfl rfl ?_
  refine ev_iconst dX1_asDone_53 (r32c rfl) ?_
  refine ev_putI dX1_asDone_54 fl_X1_41 sh_48 (by decide) (by decide) ?_
  refine ev_aload_n (i := 0) dX1_asDone_57 rfl rfl ?_
  refine ev_aload_n (i := 1) dX1_asDone_58 rfl rfl ?_
  refine ex_getI (x := (f 4 2)) dX1_asDone_59 fl_X1_44 sh_4 (by decide) (by decide) rfl ?_
  refine ev_putI dX1_asDone_62 fl_X1_47 sh_48 (by decide) (by decide) ?_
  refine ev_aload_n (i := 0) dX1_asDone_65 rfl rfl ?_
  refine ev_iconst dX1_asDone_66 (r32c rfl) ?_
  refine ev_putI dX1_asDone_67 fl_X1_48 sh_48 (by decide) (by decide) ?_
  exact ev_vret rfl dX1_asDone_70 h
def FX1_asDone_48_4_28  : Nat → Int → Mm → Option Mm
  | 0, _, _ => none
  | n + 1, x2, f => (if 6 ≤ x2 then FX1_asDone_48_4_47 f else (if 0 ≤ x2 ∧ x2 < 6 then FX1_asDone_48_4_28 n (w32 (x2 + 1)) (up f 50 x2.toNat x2) else none))
set_option maxHeartbeats 4000000 in
set_option maxRecDepth 100000 in
theorem SX1_asDone_48_4_28 {G : GT} {l : Launch} {Q : Option AV → Mem → Prop}  : ∀ (n : Nat) (x2 : Int) (f : Mm), OkV Q (FX1_asDone_48_4_28  n x2 f) → Ev G l MX1_asDone (Rm 1 0 0) (ZM G Q 0 0) 0 0 28 [some (vR 48), some (vR 4), some (vI x2)] [] (SH, RF, f) := by
  intro n
  induction n with
  | zero => intro x2 f h; exact absurd h (by rw [FX1_asDone_48_4_28]; exact fun q => q)
  | succ n ih =>
    intro x2 f h
    rw [FX1_asDone_48_4_28] at h
    refine ev_iload_n (i := 2) dX1_asDone_28 rfl rfl ?_
    refine ev_bipush (v := 6) dX1_asDone_29 (r32c rfl) (by decide) ?_
    refine ev_icmp_ge (tgt := 47) dX1_asDone_31 (by decide) (fun c2 => ?_) (fun c2 => ?_)
    · rw [if_pos c2] at h
      refine ev_fg [true, true, false] rfl ?_
      exact SX1_asDone_48_4_47   _ h
    · rw [if_neg c2] at h
      refine ev_aload_n (i := 0) dX1_asDone_34 rfl rfl ?_
      refine ev_getR dX1_asDone_35 fl_X1_15 sh_48 (by decide) (by decide) rf_48_1 ?_
      refine ev_iload_n (i := 2) dX1_asDone_38 rfl rfl ?_
      refine ev_iload_n (i := 2) dX1_asDone_39 rfl rfl ?_
      by_cases g1 : 0 ≤ x2 ∧ x2 < 6
      · rw [if_pos g1] at h
        refine ex_iast (j := x2.toNat) dX1_asDone_40 sh_50 g1.1 g1.2 rfl ?_
        refine ev_iinc (L' := [some (vR 48), some (vR 4), some (vI (w32 (x2 + 1)))]) dX1_asDone_41 rfl (by decide) rfl ?_
        refine ev_goto (tgt := 28) dX1_asDone_44 (by decide) ?_
        exact ih (w32 (x2 + 1)) _ h
      · rw [if_neg g1] at h; exact h.elim
def FX1_asDone_48_4_26   (f : Mm) : Option Mm := FX1_asDone_48_4_28 fu 0 f
set_option maxHeartbeats 4000000 in
set_option maxRecDepth 100000 in
theorem SX1_asDone_48_4_26 {G : GT} {l : Launch} {Q : Option AV → Mem → Prop}   (f : Mm) (h : OkV Q (FX1_asDone_48_4_26   f)) : Ev G l MX1_asDone (Rm 1 0 0) (ZM G Q 0 0) 0 0 26 [some (vR 48), some (vR 4), none] [] (SH, RF, f) := by
  unfold FX1_asDone_48_4_26 at h
  refine ev_iconst dX1_asDone_26 (r32c rfl) ?_
  refine ev_istore_n (i := 2) (L' := [some (vR 48), some (vR 4), some (vI 0)]) dX1_asDone_27 rfl (by decide) rfl ?_
  exact SX1_asDone_48_4_28  fu 0 _ h
def FX1_asDone_48_4_2  : Nat → Int → Mm → Option Mm
  | 0, _, _ => none
  | n + 1, x2, f => (if 6 ≤ x2 then FX1_asDone_48_4_26 f else (if 0 ≤ x2 ∧ x2 < 6 then (if 0 ≤ x2 ∧ x2 < 6 then FX1_asDone_48_4_2 n (w32 (x2 + 1)) (up f 49 x2.toNat (f 18 x2.toNat)) else none) else none))
set_option maxHeartbeats 4000000 in
set_option maxRecDepth 100000 in
theorem SX1_asDone_48_4_2 {G : GT} {l : Launch} {Q : Option AV → Mem → Prop}  : ∀ (n : Nat) (x2 : Int) (f : Mm), OkV Q (FX1_asDone_48_4_2  n x2 f) → Ev G l MX1_asDone (Rm 1 0 0) (ZM G Q 0 0) 0 0 2 [some (vR 48), some (vR 4), some (vI x2)] [] (SH, RF, f) := by
  intro n
  induction n with
  | zero => intro x2 f h; exact absurd h (by rw [FX1_asDone_48_4_2]; exact fun q => q)
  | succ n ih =>
    intro x2 f h
    rw [FX1_asDone_48_4_2] at h
    refine ev_iload_n (i := 2) dX1_asDone_2 rfl rfl ?_
    refine ev_bipush (v := 6) dX1_asDone_3 (r32c rfl) (by decide) ?_
    refine ev_icmp_ge (tgt := 26) dX1_asDone_5 (by decide) (fun c3 => ?_) (fun c3 => ?_)
    · rw [if_pos c3] at h
      refine ev_fg [true, true, false] rfl ?_
      exact SX1_asDone_48_4_26   _ h
    · rw [if_neg c3] at h
      refine ev_aload_n (i := 0) dX1_asDone_8 rfl rfl ?_
      refine ev_getR dX1_asDone_9 fl_X1_9 sh_48 (by decide) (by decide) rf_48_0 ?_
      refine ev_iload_n (i := 2) dX1_asDone_12 rfl rfl ?_
      refine ev_aload_n (i := 1) dX1_asDone_13 rfl rfl ?_
      refine ev_getR dX1_asDone_14 fl_X1_32 sh_4 (by decide) (by decide) rf_4_10 ?_
      refine ev_iload_n (i := 2) dX1_asDone_17 rfl rfl ?_
      by_cases g1 : 0 ≤ x2 ∧ x2 < 6
      · rw [if_pos g1] at h
        refine ex_iald (x := (f 18 x2.toNat)) dX1_asDone_18 sh_18 g1.1 g1.2 rfl ?_
        by_cases g2 : 0 ≤ x2 ∧ x2 < 6
        · rw [if_pos g2] at h
          refine ex_iast (j := x2.toNat) dX1_asDone_19 sh_49 g2.1 g2.2 rfl ?_
          refine ev_iinc (L' := [some (vR 48), some (vR 4), some (vI (w32 (x2 + 1)))]) dX1_asDone_20 rfl (by decide) rfl ?_
          refine ev_goto (tgt := 2) dX1_asDone_23 (by decide) ?_
          exact ih (w32 (x2 + 1)) _ h
        · rw [if_neg g2] at h; exact h.elim
      · rw [if_neg g1] at h; exact h.elim
def FX1_asDone_48_4_0   (f : Mm) : Option Mm := FX1_asDone_48_4_2 fu 0 f
set_option maxHeartbeats 4000000 in
set_option maxRecDepth 100000 in
theorem SX1_asDone_48_4_0 {G : GT} {l : Launch} {Q : Option AV → Mem → Prop}   (f : Mm) (h : OkV Q (FX1_asDone_48_4_0   f)) : Ev G l MX1_asDone (Rm 1 0 0) (ZM G Q 0 0) 0 0 0 [some (vR 48), some (vR 4), none] [] (SH, RF, f) := by
  unfold FX1_asDone_48_4_0 at h
  refine ev_iconst dX1_asDone_0 (r32c rfl) ?_
  refine ev_istore_n (i := 2) (L' := [some (vR 48), some (vR 4), some (vI 0)]) dX1_asDone_1 rfl (by decide) rfl ?_
  exact SX1_asDone_48_4_2  fu 0 _ h
def FX1_asDone_48_4  (f : Mm) : Option Mm := FX1_asDone_48_4_0  f
set_option maxRecDepth 100000 in
theorem TX1_asDone_48_4 {G : GT} {l : Launch} {Q : Option AV → Mem → Prop}  (f : Mm) (h : OkV Q (FX1_asDone_48_4  f)) : Ret G l MX1_asDone (1) 0 0 [vR 48, vR 4] (SH, RF, f) Q := by
  refine ret_of (L := [some (vR 48), some (vR 4), none]) (by decide) rfl (Nat.le_of_ble_eq_true rfl) ?_
  exact SX1_asDone_48_4_0  f h
theorem dX10_bounded_0 : decode cX10_bounded 0 = .ok (.iload_n 0, 1) := by decide +kernel
theorem dX10_bounded_1 : decode cX10_bounded 1 = .ok (.ifCond .ge 5, 3) := by decide +kernel
theorem dX10_bounded_6 : decode cX10_bounded 6 = .ok (.iload_n 0, 1) := by decide +kernel
theorem dX10_bounded_7 : decode cX10_bounded 7 = .ok (.bipush 60, 2) := by decide +kernel
theorem dX10_bounded_9 : decode cX10_bounded 9 = .ok (.if_icmp .le 8, 3) := by decide +kernel
theorem dX10_bounded_17 : decode cX10_bounded 17 = .ok (.iload_n 0, 1) := by decide +kernel
theorem dX10_bounded_18 : decode cX10_bounded 18 = .ok (.ireturn, 1) := by decide +kernel
theorem dX10_bounded_12 : decode cX10_bounded 12 = .ok (.bipush 60, 2) := by decide +kernel
theorem dX10_bounded_14 : decode cX10_bounded 14 = .ok (.goto 4, 3) := by decide +kernel
theorem dX10_bounded_4 : decode cX10_bounded 4 = .ok (.iconst 0, 1) := by decide +kernel
theorem dX10_bounded_5 : decode cX10_bounded 5 = .ok (.ireturn, 1) := by decide +kernel
def FX10_bounded_0  (x0 : Int) (f : Mm) : Option (Int × Mm) := (if 0 ≤ x0 then (if x0 ≤ 60 then some (x0, f) else some (60, f)) else some (0, f))
set_option maxHeartbeats 4000000 in
set_option maxRecDepth 100000 in
theorem SX10_bounded_0 {G : GT} {l : Launch} {Q : Option AV → Mem → Prop}  (x0 : Int) (f : Mm) (h : OkI Q (FX10_bounded_0  x0 f)) : Ev G l MX10_bounded (Rm 1 0 0) (ZM G Q 0 0) 0 0 0 [some (vI x0)] [] (SH, RF, f) := by
  unfold FX10_bounded_0 at h
  refine ev_iload_n (i := 0) dX10_bounded_0 rfl rfl ?_
  refine ev_if_ge (tgt := 6) dX10_bounded_1 (by decide) (fun c2 => ?_) (fun c2 => ?_)
  · rw [if_pos c2] at h
    refine ev_iload_n (i := 0) dX10_bounded_6 rfl rfl ?_
    refine ev_bipush (v := 60) dX10_bounded_7 (r32c rfl) (by decide) ?_
    refine ev_icmp_le (tgt := 17) dX10_bounded_9 (by decide) (fun c1 => ?_) (fun c1 => ?_)
    · rw [if_pos c1] at h
      refine ev_iload_n (i := 0) dX10_bounded_17 rfl rfl ?_
      exact ev_iret rfl dX10_bounded_18 h
    · rw [if_neg c1] at h
      refine ev_bipush (v := 60) dX10_bounded_12 (r32c rfl) (by decide) ?_
      refine ev_goto (tgt := 18) dX10_bounded_14 (by decide) ?_
      exact ev_iret rfl dX10_bounded_18 h
  · rw [if_neg c2] at h
    refine ev_iconst dX10_bounded_4 (r32c rfl) ?_
    exact ev_iret rfl dX10_bounded_5 h
def FX10_bounded (x0 : Int) (f : Mm) : Option (Int × Mm) := FX10_bounded_0 x0 f
set_option maxRecDepth 100000 in
theorem TX10_bounded {G : GT} {l : Launch} {Q : Option AV → Mem → Prop} (x0 : Int) (f : Mm) (h : OkI Q (FX10_bounded x0 f)) : Ret G l MX10_bounded (1) 0 0 [vI x0] (SH, RF, f) Q := by
  refine ret_of (L := [some (vI x0)]) (by decide) rfl (Nat.le_of_ble_eq_true rfl) ?_
  exact SX10_bounded_0 x0 f h
theorem dX1_moved_0 : decode cX1_moved 0 = .ok (.aload_n 0, 1) := by decide +kernel
theorem dX1_moved_1 : decode cX1_moved 1 = .ok (.iload_n 2, 1) := by decide +kernel
theorem dX1_moved_2 : decode cX1_moved 2 = .ok (.invokevirtual 78, 3) := by decide +kernel
theorem dX1_moved_5 : decode cX1_moved 5 = .ok (.ifCond .eq 21, 3) := by decide +kernel
theorem dX1_moved_26 : decode cX1_moved 26 = .ok (.iload_n 1, 1) := by decide +kernel
theorem dX1_moved_27 : decode cX1_moved 27 = .ok (.ireturn, 1) := by decide +kernel
theorem dX1_moved_8 : decode cX1_moved 8 = .ok (.iload_n 1, 1) := by decide +kernel
theorem dX1_moved_9 : decode cX1_moved 9 = .ok (.aload_n 0, 1) := by decide +kernel
theorem dX1_moved_10 : decode cX1_moved 10 = .ok (.getfield 82, 3) := by decide +kernel
theorem dX1_moved_13 : decode cX1_moved 13 = .ok (.iload_n 2, 1) := by decide +kernel
theorem dX1_moved_14 : decode cX1_moved 14 = .ok (.aaload, 1) := by decide +kernel
theorem dX1_moved_15 : decode cX1_moved 15 = .ok (.iconst 2, 1) := by decide +kernel
theorem dX1_moved_16 : decode cX1_moved 16 = .ok (.iload_n 3, 1) := by decide +kernel
theorem dX1_moved_17 : decode cX1_moved 17 = .ok (.iadd, 1) := by decide +kernel
theorem dX1_moved_18 : decode cX1_moved 18 = .ok (.iaload, 1) := by decide +kernel
theorem dX1_moved_19 : decode cX1_moved 19 = .ok (.iadd, 1) := by decide +kernel
theorem dX1_moved_20 : decode cX1_moved 20 = .ok (.invokestatic 85, 3) := by decide +kernel
theorem dX1_moved_23 : decode cX1_moved 23 = .ok (.goto 4, 3) := by decide +kernel
def FX1_moved_4_0  (x1 : Int) (x2 : Int) (x3 : Int) (f : Mm) : Option (Int × Mm) := (b2 (FX0_hasDeed_4 x2 f) fun y1 f1 => (if y1 = 0 then some (x1, f1) else (if 0 ≤ x2 ∧ x2 < 4 then (if 0 ≤ (w32 (2 + x3)) ∧ (w32 (2 + x3)) < 4 then (b2 (FX10_bounded (w32 (x1 + (f1 (7 + x2.toNat) (w32 (2 + x3)).toNat))) f1) fun y4 f4 => some (y4, f4)) else none) else none)))
set_option maxHeartbeats 4000000 in
set_option maxRecDepth 100000 in
theorem SX1_moved_4_0 {G : GT} {l : Launch} {Q : Option AV → Mem → Prop}  (x1 : Int) (x2 : Int) (x3 : Int) (f : Mm) (h : OkI Q (FX1_moved_4_0  x1 x2 x3 f)) : Ev G l MX1_moved (Rm 2 0 0) (ZM G Q 0 0) 0 0 0 [some (vR 4), some (vI x1), some (vI x2), some (vI x3)] [] (SH, RF, f) := by
  unfold FX1_moved_4_0 at h
  refine ev_aload_n (i := 0) dX1_moved_0 rfl rfl ?_
  refine ev_iload_n (i := 2) dX1_moved_1 rfl rfl ?_
  refine ev_cVI (b := 4) (av := [vI x2]) (S := []) (fun q => q) h dX1_moved_2 (fun Q' q => TX0_hasDeed_4 x2 _ q) kvX0_hasDeed ml_X1_78 sh_4 rfl (RRc (by decide) (by decide)) (Nat.le_of_ble_eq_true rfl) ⟨Nat.le_of_ble_eq_true rfl, Nat.le_of_ble_eq_true rfl⟩ (fun y1 f1 h => ?_)
  refine ev_if_eq (tgt := 26) dX1_moved_5 (by decide) (fun c5 => ?_) (fun c5 => ?_)
  · rw [if_pos c5] at h
    refine ev_iload_n (i := 1) dX1_moved_26 rfl rfl ?_
    exact ev_iret rfl dX1_moved_27 h
  · rw [if_neg c5] at h
    refine ev_iload_n (i := 1) dX1_moved_8 rfl rfl ?_
    refine ev_aload_n (i := 0) dX1_moved_9 rfl rfl ?_
    refine ev_getR dX1_moved_10 fl_X1_82 sh_4 (by decide) (by decide) rf_4_8 ?_
    refine ev_iload_n (i := 2) dX1_moved_13 rfl rfl ?_
    by_cases g2 : 0 ≤ x2 ∧ x2 < 4
    · rw [if_pos g2] at h
      refine ev_aald (b := (7 + x2.toNat)) dX1_moved_14 (Or.inl rfl) sh_6 g2.1 g2.2 (rfr_6 g2) ?_
      refine ev_iconst dX1_moved_15 (r32c rfl) ?_
      refine ev_iload_n (i := 3) dX1_moved_16 rfl rfl ?_
      refine ev_iadd dX1_moved_17 ?_
      by_cases g3 : 0 ≤ (w32 (2 + x3)) ∧ (w32 (2 + x3)) < 4
      · rw [if_pos g3] at h
        refine ex_iald (x := (f1 (7 + x2.toNat) (w32 (2 + x3)).toNat)) dX1_moved_18 (shr_6 g2) g3.1 g3.2 rfl ?_
        refine ev_iadd dX1_moved_19 ?_
        refine ev_cNI (av := [vI (w32 (x1 + (f1 (7 + x2.toNat) (w32 (2 + x3)).toNat)))]) (S := []) (fun q => q) h dX1_moved_20 (fun Q' q => TX10_bounded (w32 (x1 + (f1 (7 + x2.toNat) (w32 (2 + x3)).toNat))) _ q) ksX10_bounded nw_X1_85 rfl (RRc (by decide) (by decide)) (Nat.le_of_ble_eq_true rfl) ⟨Nat.le_of_ble_eq_true rfl, Nat.le_of_ble_eq_true rfl⟩ (fun y4 f4 h => ?_)
        refine ev_goto (tgt := 27) dX1_moved_23 (by decide) ?_
        exact ev_iret rfl dX1_moved_27 h
      · rw [if_neg g3] at h; exact h.elim
    · rw [if_neg g2] at h; exact h.elim
def FX1_moved_4 (x1 : Int) (x2 : Int) (x3 : Int) (f : Mm) : Option (Int × Mm) := FX1_moved_4_0 x1 x2 x3 f
set_option maxRecDepth 100000 in
theorem TX1_moved_4 {G : GT} {l : Launch} {Q : Option AV → Mem → Prop} (x1 : Int) (x2 : Int) (x3 : Int) (f : Mm) (h : OkI Q (FX1_moved_4 x1 x2 x3 f)) : Ret G l MX1_moved (2) 0 0 [vR 4, vI x1, vI x2, vI x3] (SH, RF, f) Q := by
  refine ret_of (L := [some (vR 4), some (vI x1), some (vI x2), some (vI x3)]) (by decide) rfl (Nat.le_of_ble_eq_true rfl) ?_
  exact SX1_moved_4_0 x1 x2 x3 f h
theorem dX10_holds_0 : decode cX10_holds 0 = .ok (.iload_n 0, 1) := by decide +kernel
theorem dX10_holds_1 : decode cX10_holds 1 = .ok (.iload_n 1, 1) := by decide +kernel
theorem dX10_holds_2 : decode cX10_holds 2 = .ok (.ishr, 1) := by decide +kernel
theorem dX10_holds_3 : decode cX10_holds 3 = .ok (.iconst 1, 1) := by decide +kernel
theorem dX10_holds_4 : decode cX10_holds 4 = .ok (.iand, 1) := by decide +kernel
theorem dX10_holds_5 : decode cX10_holds 5 = .ok (.ifCond .eq 7, 3) := by decide +kernel
theorem dX10_holds_12 : decode cX10_holds 12 = .ok (.iconst 0, 1) := by decide +kernel
theorem dX10_holds_13 : decode cX10_holds 13 = .ok (.ireturn, 1) := by decide +kernel
theorem dX10_holds_8 : decode cX10_holds 8 = .ok (.iconst 1, 1) := by decide +kernel
theorem dX10_holds_9 : decode cX10_holds 9 = .ok (.goto 4, 3) := by decide +kernel
def FX10_holds_0  (x0 : Int) (x1 : Int) (f : Mm) : Option (Int × Mm) := (if (bAnd (bShr x0 x1) 1) = 0 then some (0, f) else some (1, f))
set_option maxHeartbeats 4000000 in
set_option maxRecDepth 100000 in
theorem SX10_holds_0 {G : GT} {l : Launch} {Q : Option AV → Mem → Prop}  (x0 : Int) (x1 : Int) (f : Mm) (h : OkI Q (FX10_holds_0  x0 x1 f)) : Ev G l MX10_holds (Rm 1 0 0) (ZM G Q 0 0) 0 0 0 [some (vI x0), some (vI x1)] [] (SH, RF, f) := by
  unfold FX10_holds_0 at h
  refine ev_iload_n (i := 0) dX10_holds_0 rfl rfl ?_
  refine ev_iload_n (i := 1) dX10_holds_1 rfl rfl ?_
  refine ev_ishr dX10_holds_2 ?_
  refine ev_iconst dX10_holds_3 (r32c rfl) ?_
  refine ev_iand dX10_holds_4 ?_
  refine ev_if_eq (tgt := 12) dX10_holds_5 (by decide) (fun c1 => ?_) (fun c1 => ?_)
  · rw [if_pos c1] at h
    refine ev_iconst dX10_holds_12 (r32c rfl) ?_
    exact ev_zret rfl (by decide) dX10_holds_13 h
  · rw [if_neg c1] at h
    refine ev_iconst dX10_holds_8 (r32c rfl) ?_
    refine ev_goto (tgt := 13) dX10_holds_9 (by decide) ?_
    exact ev_zret rfl (by decide) dX10_holds_13 h
def FX10_holds (x0 : Int) (x1 : Int) (f : Mm) : Option (Int × Mm) := FX10_holds_0 x0 x1 f
set_option maxRecDepth 100000 in
theorem TX10_holds {G : GT} {l : Launch} {Q : Option AV → Mem → Prop} (x0 : Int) (x1 : Int) (f : Mm) (h : OkI Q (FX10_holds x0 x1 f)) : Ret G l MX10_holds (1) 0 0 [vI x0, vI x1] (SH, RF, f) Q := by
  refine ret_of (L := [some (vI x0), some (vI x1)]) (by decide) rfl (Nat.le_of_ble_eq_true rfl) ?_
  exact SX10_holds_0 x0 x1 f h
theorem dX1_feelDay_97 : decode cX1_feelDay 97 = .ok (.aload_n 0, 1) := by decide +kernel
theorem dX1_feelDay_98 : decode cX1_feelDay 98 = .ok (.getfield 20, 3) := by decide +kernel
theorem dX1_feelDay_101 : decode cX1_feelDay 101 = .ok (.iload_n 3, 1) := by decide +kernel
theorem dX1_feelDay_102 : decode cX1_feelDay 102 = .ok (.aaload, 1) := by decide +kernel
theorem dX1_feelDay_103 : decode cX1_feelDay 103 = .ok (.iload_n 2, 1) := by decide +kernel
theorem dX1_feelDay_104 : decode cX1_feelDay 104 = .ok (.iload 4, 2) := by decide +kernel
theorem dX1_feelDay_106 : decode cX1_feelDay 106 = .ok (.iastore, 1) := by decide +kernel
theorem dX1_feelDay_107 : decode cX1_feelDay 107 = .ok (.iinc 3 1, 3) := by decide +kernel
theorem dX1_feelDay_110 : decode cX1_feelDay 110 = .ok (.goto (-108), 3) := by decide +kernel
theorem dX1_feelDay_76 : decode cX1_feelDay 76 = .ok (.aload_n 0, 1) := by decide +kernel
theorem dX1_feelDay_77 : decode cX1_feelDay 77 = .ok (.getfield 48, 3) := by decide +kernel
theorem dX1_feelDay_80 : decode cX1_feelDay 80 = .ok (.iload_n 2, 1) := by decide +kernel
theorem dX1_feelDay_81 : decode cX1_feelDay 81 = .ok (.invokestatic 74, 3) := by decide +kernel
theorem dX1_feelDay_84 : decode cX1_feelDay 84 = .ok (.ifCond .eq 13, 3) := by decide +kernel
theorem dX1_feelDay_87 : decode cX1_feelDay 87 = .ok (.iconst 0, 1) := by decide +kernel
theorem dX1_feelDay_88 : decode cX1_feelDay 88 = .ok (.iload 4, 2) := by decide +kernel
theorem dX1_feelDay_90 : decode cX1_feelDay 90 = .ok (.iconst 5, 1) := by decide +kernel
theorem dX1_feelDay_91 : decode cX1_feelDay 91 = .ok (.isub, 1) := by decide +kernel
theorem dX1_feelDay_92 : decode cX1_feelDay 92 = .ok (.invokestatic 64, 3) := by decide +kernel
theorem dX1_feelDay_95 : decode cX1_feelDay 95 = .ok (.istore 4, 2) := by decide +kernel
theorem dX1_feelDay_40 : decode cX1_feelDay 40 = .ok (.aload_n 1, 1) := by decide +kernel
theorem dX1_feelDay_41 : decode cX1_feelDay 41 = .ok (.iload 4, 2) := by decide +kernel
theorem dX1_feelDay_43 : decode cX1_feelDay 43 = .ok (.aload_n 0, 1) := by decide +kernel
theorem dX1_feelDay_44 : decode cX1_feelDay 44 = .ok (.getfield 9, 3) := by decide +kernel
theorem dX1_feelDay_47 : decode cX1_feelDay 47 = .ok (.iload_n 2, 1) := by decide +kernel
theorem dX1_feelDay_48 : decode cX1_feelDay 48 = .ok (.iaload, 1) := by decide +kernel
theorem dX1_feelDay_49 : decode cX1_feelDay 49 = .ok (.iload_n 3, 1) := by decide +kernel
theorem dX1_feelDay_50 : decode cX1_feelDay 50 = .ok (.invokestatic 70, 3) := by decide +kernel
theorem dX1_feelDay_53 : decode cX1_feelDay 53 = .ok (.istore 4, 2) := by decide +kernel
theorem dX1_feelDay_55 : decode cX1_feelDay 55 = .ok (.iload_n 2, 1) := by decide +kernel
theorem dX1_feelDay_56 : decode cX1_feelDay 56 = .ok (.aload_n 0, 1) := by decide +kernel
theorem dX1_feelDay_57 : decode cX1_feelDay 57 = .ok (.getfield 37, 3) := by decide +kernel
theorem dX1_feelDay_60 : decode cX1_feelDay 60 = .ok (.if_icmp .ne 16, 3) := by decide +kernel
theorem dX1_feelDay_63 : decode cX1_feelDay 63 = .ok (.aload_n 1, 1) := by decide +kernel
theorem dX1_feelDay_64 : decode cX1_feelDay 64 = .ok (.iload 4, 2) := by decide +kernel
theorem dX1_feelDay_66 : decode cX1_feelDay 66 = .ok (.aload_n 0, 1) := by decide +kernel
theorem dX1_feelDay_67 : decode cX1_feelDay 67 = .ok (.getfield 41, 3) := by decide +kernel
theorem dX1_feelDay_70 : decode cX1_feelDay 70 = .ok (.iload_n 3, 1) := by decide +kernel
theorem dX1_feelDay_71 : decode cX1_feelDay 71 = .ok (.invokestatic 70, 3) := by decide +kernel
theorem dX1_feelDay_74 : decode cX1_feelDay 74 = .ok (.istore 4, 2) := by decide +kernel
theorem dX1_feelDay_2 : decode cX1_feelDay 2 = .ok (.iload_n 3, 1) := by decide +kernel
theorem dX1_feelDay_3 : decode cX1_feelDay 3 = .ok (.iconst 2, 1) := by decide +kernel
theorem dX1_feelDay_4 : decode cX1_feelDay 4 = .ok (.if_icmp .ge 109, 3) := by decide +kernel
theorem dX1_feelDay_113 : decode cX1_feelDay 113 = .ok (.return_, 1) := by decide +kernel
theorem dX1_feelDay_7 : decode cX1_feelDay 7 = .ok (.aload_n 1, 1) := by decide +kernel
theorem dX1_feelDay_8 : decode cX1_feelDay 8 = .ok (.getfield 61, 3) := by decide +kernel
theorem dX1_feelDay_11 : decode cX1_feelDay 11 = .ok (.iload_n 3, 1) := by decide +kernel
theorem dX1_feelDay_12 : decode cX1_feelDay 12 = .ok (.iaload, 1) := by decide +kernel
theorem dX1_feelDay_13 : decode cX1_feelDay 13 = .ok (.istore 4, 2) := by decide +kernel
theorem dX1_feelDay_15 : decode cX1_feelDay 15 = .ok (.iload_n 2, 1) := by decide +kernel
theorem dX1_feelDay_16 : decode cX1_feelDay 16 = .ok (.ifCond .le 24, 3) := by decide +kernel
theorem dX1_feelDay_19 : decode cX1_feelDay 19 = .ok (.iconst 0, 1) := by decide +kernel
theorem dX1_feelDay_20 : decode cX1_feelDay 20 = .ok (.aload_n 0, 1) := by decide +kernel
theorem dX1_feelDay_21 : decode cX1_feelDay 21 = .ok (.getfield 20, 3) := by decide +kernel
theorem dX1_feelDay_24 : decode cX1_feelDay 24 = .ok (.iload_n 3, 1) := by decide +kernel
theorem dX1_feelDay_25 : decode cX1_feelDay 25 = .ok (.aaload, 1) := by decide +kernel
theorem dX1_feelDay_26 : decode cX1_feelDay 26 = .ok (.iload_n 2, 1) := by decide +kernel
theorem dX1_feelDay_27 : decode cX1_feelDay 27 = .ok (.iconst 1, 1) := by decide +kernel
theorem dX1_feelDay_28 : decode cX1_feelDay 28 = .ok (.isub, 1) := by decide +kernel
theorem dX1_feelDay_29 : decode cX1_feelDay 29 = .ok (.iaload, 1) := by decide +kernel
theorem dX1_feelDay_30 : decode cX1_feelDay 30 = .ok (.aload_n 0, 1) := by decide +kernel
theorem dX1_feelDay_31 : decode cX1_feelDay 31 = .ok (.getfield 47, 3) := by decide +kernel
theorem dX1_feelDay_34 : decode cX1_feelDay 34 = .ok (.isub, 1) := by decide +kernel
theorem dX1_feelDay_35 : decode cX1_feelDay 35 = .ok (.invokestatic 64, 3) := by decide +kernel
theorem dX1_feelDay_38 : decode cX1_feelDay 38 = .ok (.istore 4, 2) := by decide +kernel
theorem dX1_feelDay_0 : decode cX1_feelDay 0 = .ok (.iconst 0, 1) := by decide +kernel
theorem dX1_feelDay_1 : decode cX1_feelDay 1 = .ok (.istore_n 3, 1) := by decide +kernel
def FX1_feelDay_48_4_97 (k2 : Int → Int → Mm → Option Mm) (x2 : Int) (x3 : Int) (x4 : Int) (f : Mm) : Option Mm := (if 0 ≤ x3 ∧ x3 < 2 then (if 0 ≤ x2 ∧ x2 < 6 then k2 x2 (w32 (x3 + 1)) (up f (52 + x3.toNat) x2.toNat x4) else none) else none)
set_option maxHeartbeats 4000000 in
set_option maxRecDepth 100000 in
theorem SX1_feelDay_48_4_97 {G : GT} {l : Launch} {Q : Option AV → Mem → Prop} {k2 : Int → Int → Mm → Option Mm} (q2 : ∀ (x2 : Int) (x3 : Int) (f : Mm), OkV Q (k2 x2 x3 f) → Ev G l MX1_feelDay (Rm 3 0 0) (ZM G Q 0 0) 0 0 2 [some (vR 48), some (vR 4), some (vI x2), some (vI x3), none] [] (SH, RF, f)) (x2 : Int) (x3 : Int) (x4 : Int) (f : Mm) (h : OkV Q (FX1_feelDay_48_4_97 k2 x2 x3 x4 f)) : Ev G l MX1_feelDay (Rm 3 0 0) (ZM G Q 0 0) 0 0 97 [some (vR 48), some (vR 4), some (vI x2), some (vI x3), some (vI x4)] [] (SH, RF, f) := by
  unfold FX1_feelDay_48_4_97 at h
  refine ev_aload_n (i := 0) dX1_feelDay_97 rfl rfl ?_
  refine ev_getR dX1_feelDay_98 fl_X1_20 sh_48 (by decide) (by decide) rf_48_6 ?_
  refine ev_iload_n (i := 3) dX1_feelDay_101 rfl rfl ?_
  by_cases g1 : 0 ≤ x3 ∧ x3 < 2
  · rw [if_pos g1] at h
    refine ev_aald (b := (52 + x3.toNat)) dX1_feelDay_102 (Or.inl rfl) sh_51 g1.1 g1.2 (rfr_51 g1) ?_
    refine ev_iload_n (i := 2) dX1_feelDay_103 rfl rfl ?_
    refine ev_iload dX1_feelDay_104 rfl ?_
    by_cases g2 : 0 ≤ x2 ∧ x2 < 6
    · rw [if_pos g2] at h
      refine ex_iast (j := x2.toNat) dX1_feelDay_106 (shr_51 g1) g2.1 g2.2 rfl ?_
      refine ev_iinc (L' := [some (vR 48), some (vR 4), some (vI x2), some (vI (w32 (x3 + 1))), some (vI x4)]) dX1_feelDay_107 rfl (by decide) rfl ?_
      refine ev_goto (tgt := 2) dX1_feelDay_110 (by decide) ?_
      refine ev_fg [true, true, true, true, false] rfl ?_
      exact q2 x2 (w32 (x3 + 1)) _ h
    · rw [if_neg g2] at h; exact h.elim
  · rw [if_neg g1] at h; exact h.elim
def FX1_feelDay_48_4_76 (k2 : Int → Int → Mm → Option Mm) (x2 : Int) (x3 : Int) (x4 : Int) (f : Mm) : Option Mm := (b2 (FX10_holds (f 48 5) x2 f) fun y1 f1 => (if y1 = 0 then FX1_feelDay_48_4_97 k2 x2 x3 x4 f1 else FX1_feelDay_48_4_97 k2 x2 x3 (jMax 0 (w32 (x4 - 5))) f1))
set_option maxHeartbeats 4000000 in
set_option maxRecDepth 100000 in
theorem SX1_feelDay_48_4_76 {G : GT} {l : Launch} {Q : Option AV → Mem → Prop} {k2 : Int → Int → Mm → Option Mm} (q2 : ∀ (x2 : Int) (x3 : Int) (f : Mm), OkV Q (k2 x2 x3 f) → Ev G l MX1_feelDay (Rm 3 0 0) (ZM G Q 0 0) 0 0 2 [some (vR 48), some (vR 4), some (vI x2), some (vI x3), none] [] (SH, RF, f)) (x2 : Int) (x3 : Int) (x4 : Int) (f : Mm) (h : OkV Q (FX1_feelDay_48_4_76 k2 x2 x3 x4 f)) : Ev G l MX1_feelDay (Rm 3 0 0) (ZM G Q 0 0) 0 0 76 [some (vR 48), some (vR 4), some (vI x2), some (vI x3), some (vI x4)] [] (SH, RF, f) := by
  unfold FX1_feelDay_48_4_76 at h
  refine ev_aload_n (i := 0) dX1_feelDay_76 rfl rfl ?_
  refine ex_getI (x := (f 48 5)) dX1_feelDay_77 fl_X1_48 sh_48 (by decide) (by decide) rfl ?_
  refine ev_iload_n (i := 2) dX1_feelDay_80 rfl rfl ?_
  refine ev_cNI (av := [vI (f 48 5), vI x2]) (S := []) (fun q => q) h dX1_feelDay_81 (fun Q' q => TX10_holds (f 48 5) x2 _ q) ksX10_holds nw_X1_74 rfl (RRc (by decide) (by decide)) (Nat.le_of_ble_eq_true rfl) ⟨Nat.le_of_ble_eq_true rfl, Nat.le_of_ble_eq_true rfl⟩ (fun y1 f1 h => ?_)
  refine ev_if_eq (tgt := 97) dX1_feelDay_84 (by decide) (fun c2 => ?_) (fun c2 => ?_)
  · rw [if_pos c2] at h
    exact SX1_feelDay_48_4_97 q2 x2 x3 x4 _ h
  · rw [if_neg c2] at h
    refine ev_iconst dX1_feelDay_87 (r32c rfl) ?_
    refine ev_iload dX1_feelDay_88 rfl ?_
    refine ev_iconst dX1_feelDay_90 (r32c rfl) ?_
    refine ev_isub dX1_feelDay_91 ?_
    refine ev_mmax dX1_feelDay_92 mlm_X1_64 (Nat.le_of_ble_eq_true rfl) (Nat.le_of_ble_eq_true rfl) (Nat.le_of_ble_eq_true rfl) (Nat.le_of_ble_eq_true rfl) ?_
    refine ev_istore (L' := [some (vR 48), some (vR 4), some (vI x2), some (vI x3), some (vI (jMax 0 (w32 (x4 - 5))))]) dX1_feelDay_95 (by decide) rfl ?_
    exact SX1_feelDay_48_4_97 q2 x2 x3 (jMax 0 (w32 (x4 - 5))) _ h
def FX1_feelDay_48_4_40 (k2 : Int → Int → Mm → Option Mm) (x2 : Int) (x3 : Int) (x4 : Int) (f : Mm) : Option Mm := (if 0 ≤ x2 ∧ x2 < 6 then (b2 (FX1_moved_4 x4 (f 49 x2.toNat) x3 f) fun y2 f2 => (if x2 = (f2 48 2) then (b2 (FX1_moved_4 y2 (f2 48 3) x3 f2) fun y3 f3 => FX1_feelDay_48_4_76 k2 x2 x3 y3 f3) else FX1_feelDay_48_4_76 k2 x2 x3 y2 f2)) else none)
set_option maxHeartbeats 4000000 in
set_option maxRecDepth 100000 in
theorem SX1_feelDay_48_4_40 {G : GT} {l : Launch} {Q : Option AV → Mem → Prop} {k2 : Int → Int → Mm → Option Mm} (q2 : ∀ (x2 : Int) (x3 : Int) (f : Mm), OkV Q (k2 x2 x3 f) → Ev G l MX1_feelDay (Rm 3 0 0) (ZM G Q 0 0) 0 0 2 [some (vR 48), some (vR 4), some (vI x2), some (vI x3), none] [] (SH, RF, f)) (x2 : Int) (x3 : Int) (x4 : Int) (f : Mm) (h : OkV Q (FX1_feelDay_48_4_40 k2 x2 x3 x4 f)) : Ev G l MX1_feelDay (Rm 3 0 0) (ZM G Q 0 0) 0 0 40 [some (vR 48), some (vR 4), some (vI x2), some (vI x3), some (vI x4)] [] (SH, RF, f) := by
  unfold FX1_feelDay_48_4_40 at h
  refine ev_aload_n (i := 1) dX1_feelDay_40 rfl rfl ?_
  refine ev_iload dX1_feelDay_41 rfl ?_
  refine ev_aload_n (i := 0) dX1_feelDay_43 rfl rfl ?_
  refine ev_getR dX1_feelDay_44 fl_X1_9 sh_48 (by decide) (by decide) rf_48_0 ?_
  refine ev_iload_n (i := 2) dX1_feelDay_47 rfl rfl ?_
  by_cases g1 : 0 ≤ x2 ∧ x2 < 6
  · rw [if_pos g1] at h
    refine ex_iald (x := (f 49 x2.toNat)) dX1_feelDay_48 sh_49 g1.1 g1.2 rfl ?_
    refine ev_iload_n (i := 3) dX1_feelDay_49 rfl rfl ?_
    refine ev_cSI (av := [vR 4, vI x4, vI (f 49 x2.toNat), vI x3]) (S := []) (fun q => q) h dX1_feelDay_50 (fun Q' q => TX1_moved_4 x4 (f 49 x2.toNat) x3 _ q) ksX1_moved ml_X1_70 rfl (RRc (by decide) (by decide)) (Nat.le_of_ble_eq_true rfl) ⟨Nat.le_of_ble_eq_true rfl, Nat.le_of_ble_eq_true rfl⟩ (fun y2 f2 h => ?_)
    refine ev_istore (L' := [some (vR 48), some (vR 4), some (vI x2), some (vI x3), some (vI y2)]) dX1_feelDay_53 (by decide) rfl ?_
    refine ev_iload_n (i := 2) dX1_feelDay_55 rfl rfl ?_
    refine ev_aload_n (i := 0) dX1_feelDay_56 rfl rfl ?_
    refine ex_getI (x := (f2 48 2)) dX1_feelDay_57 fl_X1_37 sh_48 (by decide) (by decide) rfl ?_
    refine ev_icmp_ne (tgt := 76) dX1_feelDay_60 (by decide) (fun c4 => ?_) (fun c4 => ?_)
    · rw [if_neg c4] at h
      exact SX1_feelDay_48_4_76 q2 x2 x3 y2 _ h
    · rw [if_pos c4] at h
      refine ev_aload_n (i := 1) dX1_feelDay_63 rfl rfl ?_
      refine ev_iload dX1_feelDay_64 rfl ?_
      refine ev_aload_n (i := 0) dX1_feelDay_66 rfl rfl ?_
      refine ex_getI (x := (f2 48 3)) dX1_feelDay_67 fl_X1_41 sh_48 (by decide) (by decide) rfl ?_
      refine ev_iload_n (i := 3) dX1_feelDay_70 rfl rfl ?_
      refine ev_cSI (av := [vR 4, vI y2, vI (f2 48 3), vI x3]) (S := []) (fun q => q) h dX1_feelDay_71 (fun Q' q => TX1_moved_4 y2 (f2 48 3) x3 _ q) ksX1_moved ml_X1_70 rfl (RRc (by decide) (by decide)) (Nat.le_of_ble_eq_true rfl) ⟨Nat.le_of_ble_eq_true rfl, Nat.le_of_ble_eq_true rfl⟩ (fun y3 f3 h => ?_)
      refine ev_istore (L' := [some (vR 48), some (vR 4), some (vI x2), some (vI x3), some (vI y3)]) dX1_feelDay_74 (by decide) rfl ?_
      exact SX1_feelDay_48_4_76 q2 x2 x3 y3 _ h
  · rw [if_neg g1] at h; exact h.elim
def FX1_feelDay_48_4_2  : Nat → Int → Int → Mm → Option Mm
  | 0, _, _, _ => none
  | n + 1, x2, x3, f => (if 2 ≤ x3 then some f else (if 0 ≤ x3 ∧ x3 < 2 then (if x2 ≤ 0 then FX1_feelDay_48_4_40 (FX1_feelDay_48_4_2 n) x2 x3 (f 5 x3.toNat) f else (if 0 ≤ x3 ∧ x3 < 2 then (if 0 ≤ (w32 (x2 - 1)) ∧ (w32 (x2 - 1)) < 6 then FX1_feelDay_48_4_40 (FX1_feelDay_48_4_2 n) x2 x3 (jMax 0 (w32 ((f (52 + x3.toNat) (w32 (x2 - 1)).toNat) - (f 48 4)))) f else none) else none)) else none))
set_option maxHeartbeats 4000000 in
set_option maxRecDepth 100000 in
theorem SX1_feelDay_48_4_2 {G : GT} {l : Launch} {Q : Option AV → Mem → Prop}  : ∀ (n : Nat) (x2 : Int) (x3 : Int) (f : Mm), OkV Q (FX1_feelDay_48_4_2  n x2 x3 f) → Ev G l MX1_feelDay (Rm 3 0 0) (ZM G Q 0 0) 0 0 2 [some (vR 48), some (vR 4), some (vI x2), some (vI x3), none] [] (SH, RF, f) := by
  intro n
  induction n with
  | zero => intro x2 x3 f h; exact absurd h (by rw [FX1_feelDay_48_4_2]; exact fun q => q)
  | succ n ih =>
    intro x2 x3 f h
    rw [FX1_feelDay_48_4_2] at h
    refine ev_iload_n (i := 3) dX1_feelDay_2 rfl rfl ?_
    refine ev_iconst dX1_feelDay_3 (r32c rfl) ?_
    refine ev_icmp_ge (tgt := 113) dX1_feelDay_4 (by decide) (fun c5 => ?_) (fun c5 => ?_)
    · rw [if_pos c5] at h
      exact ev_vret rfl dX1_feelDay_113 h
    · rw [if_neg c5] at h
      refine ev_aload_n (i := 1) dX1_feelDay_7 rfl rfl ?_
      refine ev_getR dX1_feelDay_8 fl_X1_61 sh_4 (by decide) (by decide) rf_4_7 ?_
      refine ev_iload_n (i := 3) dX1_feelDay_11 rfl rfl ?_
      by_cases g1 : 0 ≤ x3 ∧ x3 < 2
      · rw [if_pos g1] at h
        refine ex_iald (x := (f 5 x3.toNat)) dX1_feelDay_12 sh_5 g1.1 g1.2 rfl ?_
        refine ev_istore (L' := [some (vR 48), some (vR 4), some (vI x2), some (vI x3), some (vI (f 5 x3.toNat))]) dX1_feelDay_13 (by decide) rfl ?_
        refine ev_iload_n (i := 2) dX1_feelDay_15 rfl rfl ?_
        refine ev_if_le (tgt := 40) dX1_feelDay_16 (by decide) (fun c4 => ?_) (fun c4 => ?_)
        · rw [if_pos c4] at h
          exact SX1_feelDay_48_4_40 ih x2 x3 (f 5 x3.toNat) _ h
        · rw [if_neg c4] at h
          refine ev_iconst dX1_feelDay_19 (r32c rfl) ?_
          refine ev_aload_n (i := 0) dX1_feelDay_20 rfl rfl ?_
          refine ev_getR dX1_feelDay_21 fl_X1_20 sh_48 (by decide) (by decide) rf_48_6 ?_
          refine ev_iload_n (i := 3) dX1_feelDay_24 rfl rfl ?_
          by_cases g2 : 0 ≤ x3 ∧ x3 < 2
          · rw [if_pos g2] at h
            refine ev_aald (b := (52 + x3.toNat)) dX1_feelDay_25 (Or.inl rfl) sh_51 g2.1 g2.2 (rfr_51 g2) ?_
            refine ev_iload_n (i := 2) dX1_feelDay_26 rfl rfl ?_
            refine ev_iconst dX1_feelDay_27 (r32c rfl) ?_
            refine ev_isub dX1_feelDay_28 ?_
            by_cases g3 : 0 ≤ (w32 (x2 - 1)) ∧ (w32 (x2 - 1)) < 6
            · rw [if_pos g3] at h
              refine ex_iald (x := (f (52 + x3.toNat) (w32 (x2 - 1)).toNat)) dX1_feelDay_29 (shr_51 g2) g3.1 g3.2 rfl ?_
              refine ev_aload_n (i := 0) dX1_feelDay_30 rfl rfl ?_
              refine ex_getI (x := (f 48 4)) dX1_feelDay_31 fl_X1_47 sh_48 (by decide) (by decide) rfl ?_
              refine ev_isub dX1_feelDay_34 ?_
              refine ev_mmax dX1_feelDay_35 mlm_X1_64 (Nat.le_of_ble_eq_true rfl) (Nat.le_of_ble_eq_true rfl) (Nat.le_of_ble_eq_true rfl) (Nat.le_of_ble_eq_true rfl) ?_
              refine ev_istore (L' := [some (vR 48), some (vR 4), some (vI x2), some (vI x3), some (vI (jMax 0 (w32 ((f (52 + x3.toNat) (w32 (x2 - 1)).toNat) - (f 48 4)))))]) dX1_feelDay_38 (by decide) rfl ?_
              exact SX1_feelDay_48_4_40 ih x2 x3 (jMax 0 (w32 ((f (52 + x3.toNat) (w32 (x2 - 1)).toNat) - (f 48 4)))) _ h
            · rw [if_neg g3] at h; exact h.elim
          · rw [if_neg g2] at h; exact h.elim
      · rw [if_neg g1] at h; exact h.elim
def FX1_feelDay_48_4_0  (x2 : Int) (f : Mm) : Option Mm := FX1_feelDay_48_4_2 fu x2 0 f
set_option maxHeartbeats 4000000 in
set_option maxRecDepth 100000 in
theorem SX1_feelDay_48_4_0 {G : GT} {l : Launch} {Q : Option AV → Mem → Prop}  (x2 : Int) (f : Mm) (h : OkV Q (FX1_feelDay_48_4_0  x2 f)) : Ev G l MX1_feelDay (Rm 3 0 0) (ZM G Q 0 0) 0 0 0 [some (vR 48), some (vR 4), some (vI x2), none, none] [] (SH, RF, f) := by
  unfold FX1_feelDay_48_4_0 at h
  refine ev_iconst dX1_feelDay_0 (r32c rfl) ?_
  refine ev_istore_n (i := 3) (L' := [some (vR 48), some (vR 4), some (vI x2), some (vI 0), none]) dX1_feelDay_1 rfl (by decide) rfl ?_
  exact SX1_feelDay_48_4_2  fu x2 0 _ h
def FX1_feelDay_48_4 (x2 : Int) (f : Mm) : Option Mm := FX1_feelDay_48_4_0 x2 f
set_option maxRecDepth 100000 in
theorem TX1_feelDay_48_4 {G : GT} {l : Launch} {Q : Option AV → Mem → Prop} (x2 : Int) (f : Mm) (h : OkV Q (FX1_feelDay_48_4 x2 f)) : Ret G l MX1_feelDay (3) 0 0 [vR 48, vR 4, vI x2] (SH, RF, f) Q := by
  refine ret_of (L := [some (vR 48), some (vR 4), some (vI x2), none, none]) (by decide) rfl (Nat.le_of_ble_eq_true rfl) ?_
  exact SX1_feelDay_48_4_0 x2 f h

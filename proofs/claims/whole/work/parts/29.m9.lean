theorem dX3_enter_96 : decode cX3_enter 96 = .ok (.aload_n 0, 1) := by decide +kernel
theorem dX3_enter_97 : decode cX3_enter 97 = .ok (.getfield 30, 3) := by decide +kernel
theorem dX3_enter_100 : decode cX3_enter 100 = .ok (.iload 4, 2) := by decide +kernel
theorem dX3_enter_102 : decode cX3_enter 102 = .ok (.iload_n 3, 1) := by decide +kernel
theorem dX3_enter_103 : decode cX3_enter 103 = .ok (.iastore, 1) := by decide +kernel
theorem dX3_enter_104 : decode cX3_enter 104 = .ok (.return_, 1) := by decide +kernel
theorem dX3_enter_74 : decode cX3_enter 74 = .ok (.aload_n 0, 1) := by decide +kernel
theorem dX3_enter_75 : decode cX3_enter 75 = .ok (.getfield 30, 3) := by decide +kernel
theorem dX3_enter_78 : decode cX3_enter 78 = .ok (.iload 4, 2) := by decide +kernel
theorem dX3_enter_80 : decode cX3_enter 80 = .ok (.iaload, 1) := by decide +kernel
theorem dX3_enter_81 : decode cX3_enter 81 = .ok (.iconst (-1), 1) := by decide +kernel
theorem dX3_enter_82 : decode cX3_enter 82 = .ok (.if_icmp .eq 14, 3) := by decide +kernel
theorem dX3_enter_85 : decode cX3_enter 85 = .ok (.iload_n 3, 1) := by decide +kernel
theorem dX3_enter_86 : decode cX3_enter 86 = .ok (.aload_n 0, 1) := by decide +kernel
theorem dX3_enter_87 : decode cX3_enter 87 = .ok (.getfield 30, 3) := by decide +kernel
theorem dX3_enter_90 : decode cX3_enter 90 = .ok (.iload 4, 2) := by decide +kernel
theorem dX3_enter_92 : decode cX3_enter 92 = .ok (.iaload, 1) := by decide +kernel
theorem dX3_enter_93 : decode cX3_enter 93 = .ok (.if_icmp .ge 11, 3) := by decide +kernel
theorem dX3_enter_30 : decode cX3_enter 30 = .ok (.aload_n 0, 1) := by decide +kernel
theorem dX3_enter_31 : decode cX3_enter 31 = .ok (.getfield 21, 3) := by decide +kernel
theorem dX3_enter_34 : decode cX3_enter 34 = .ok (.iload_n 2, 1) := by decide +kernel
theorem dX3_enter_35 : decode cX3_enter 35 = .ok (.iload_n 3, 1) := by decide +kernel
theorem dX3_enter_36 : decode cX3_enter 36 = .ok (.iastore, 1) := by decide +kernel
theorem dX3_enter_37 : decode cX3_enter 37 = .ok (.aload_n 0, 1) := by decide +kernel
theorem dX3_enter_38 : decode cX3_enter 38 = .ok (.getfield 24, 3) := by decide +kernel
theorem dX3_enter_41 : decode cX3_enter 41 = .ok (.iload_n 2, 1) := by decide +kernel
theorem dX3_enter_42 : decode cX3_enter 42 = .ok (.iconst 1, 1) := by decide +kernel
theorem dX3_enter_43 : decode cX3_enter 43 = .ok (.iastore, 1) := by decide +kernel
theorem dX3_enter_44 : decode cX3_enter 44 = .ok (.aload_n 0, 1) := by decide +kernel
theorem dX3_enter_45 : decode cX3_enter 45 = .ok (.getfield 27, 3) := by decide +kernel
theorem dX3_enter_48 : decode cX3_enter 48 = .ok (.iload_n 2, 1) := by decide +kernel
theorem dX3_enter_49 : decode cX3_enter 49 = .ok (.iload_n 1, 1) := by decide +kernel
theorem dX3_enter_50 : decode cX3_enter 50 = .ok (.iastore, 1) := by decide +kernel
theorem dX3_enter_51 : decode cX3_enter 51 = .ok (.goto 23, 3) := by decide +kernel
theorem dX3_enter_0 : decode cX3_enter 0 = .ok (.aload_n 0, 1) := by decide +kernel
theorem dX3_enter_1 : decode cX3_enter 1 = .ok (.getfield 18, 3) := by decide +kernel
theorem dX3_enter_4 : decode cX3_enter 4 = .ok (.iload_n 2, 1) := by decide +kernel
theorem dX3_enter_5 : decode cX3_enter 5 = .ok (.dup2, 1) := by decide +kernel
theorem dX3_enter_6 : decode cX3_enter 6 = .ok (.iaload, 1) := by decide +kernel
theorem dX3_enter_7 : decode cX3_enter 7 = .ok (.iconst 1, 1) := by decide +kernel
theorem dX3_enter_8 : decode cX3_enter 8 = .ok (.iadd, 1) := by decide +kernel
theorem dX3_enter_9 : decode cX3_enter 9 = .ok (.iastore, 1) := by decide +kernel
theorem dX3_enter_10 : decode cX3_enter 10 = .ok (.aload_n 0, 1) := by decide +kernel
theorem dX3_enter_11 : decode cX3_enter 11 = .ok (.getfield 21, 3) := by decide +kernel
theorem dX3_enter_14 : decode cX3_enter 14 = .ok (.iload_n 2, 1) := by decide +kernel
theorem dX3_enter_15 : decode cX3_enter 15 = .ok (.iaload, 1) := by decide +kernel
theorem dX3_enter_16 : decode cX3_enter 16 = .ok (.iconst (-1), 1) := by decide +kernel
theorem dX3_enter_17 : decode cX3_enter 17 = .ok (.if_icmp .eq 13, 3) := by decide +kernel
theorem dX3_enter_20 : decode cX3_enter 20 = .ok (.iload_n 3, 1) := by decide +kernel
theorem dX3_enter_21 : decode cX3_enter 21 = .ok (.aload_n 0, 1) := by decide +kernel
theorem dX3_enter_22 : decode cX3_enter 22 = .ok (.getfield 21, 3) := by decide +kernel
theorem dX3_enter_25 : decode cX3_enter 25 = .ok (.iload_n 2, 1) := by decide +kernel
theorem dX3_enter_26 : decode cX3_enter 26 = .ok (.iaload, 1) := by decide +kernel
theorem dX3_enter_27 : decode cX3_enter 27 = .ok (.if_icmp .ge 27, 3) := by decide +kernel
theorem dX3_enter_54 : decode cX3_enter 54 = .ok (.iload_n 3, 1) := by decide +kernel
theorem dX3_enter_55 : decode cX3_enter 55 = .ok (.aload_n 0, 1) := by decide +kernel
theorem dX3_enter_56 : decode cX3_enter 56 = .ok (.getfield 21, 3) := by decide +kernel
theorem dX3_enter_59 : decode cX3_enter 59 = .ok (.iload_n 2, 1) := by decide +kernel
theorem dX3_enter_60 : decode cX3_enter 60 = .ok (.iaload, 1) := by decide +kernel
theorem dX3_enter_61 : decode cX3_enter 61 = .ok (.if_icmp .ne 13, 3) := by decide +kernel
theorem dX3_enter_64 : decode cX3_enter 64 = .ok (.aload_n 0, 1) := by decide +kernel
theorem dX3_enter_65 : decode cX3_enter 65 = .ok (.getfield 24, 3) := by decide +kernel
theorem dX3_enter_68 : decode cX3_enter 68 = .ok (.iload_n 2, 1) := by decide +kernel
theorem dX3_enter_69 : decode cX3_enter 69 = .ok (.dup2, 1) := by decide +kernel
theorem dX3_enter_70 : decode cX3_enter 70 = .ok (.iaload, 1) := by decide +kernel
theorem dX3_enter_71 : decode cX3_enter 71 = .ok (.iconst 1, 1) := by decide +kernel
theorem dX3_enter_72 : decode cX3_enter 72 = .ok (.iadd, 1) := by decide +kernel
theorem dX3_enter_73 : decode cX3_enter 73 = .ok (.iastore, 1) := by decide +kernel
def FX3_enter_96  (x3 : Int) (x4 : Int) (f : Mm) : Option Mm := (if 0 ≤ x4 ∧ x4 < 61 then some (up f 64 x4.toNat x3) else none)
set_option maxHeartbeats 4000000 in
set_option maxRecDepth 100000 in
theorem SX3_enter_96 {G : GT} {l : Launch} {Q : Option AV → Mem → Prop}  (x3 : Int) (x4 : Int) (f : Mm) (h : OkV Q (FX3_enter_96  x3 x4 f)) : Ev G l MX3_enter (Rm 1 0 0) (ZM G Q 0 0) 0 0 96 [some (vR 57), none, none, some (vI x3), some (vI x4)] [] (SH, RF, f) := by
  unfold FX3_enter_96 at h
  refine ev_aload_n (i := 0) dX3_enter_96 rfl rfl ?_
  refine ev_getR dX3_enter_97 fl_X3_30 sh_57 (by decide) (by decide) rf_57_9 ?_
  refine ev_iload dX3_enter_100 rfl ?_
  refine ev_iload_n (i := 3) dX3_enter_102 rfl rfl ?_
  by_cases g1 : 0 ≤ x4 ∧ x4 < 61
  · rw [if_pos g1] at h
    refine ex_iast (j := x4.toNat) dX3_enter_103 sh_64 g1.1 g1.2 rfl ?_
    exact ev_vret rfl dX3_enter_104 h
  · rw [if_neg g1] at h; exact h.elim
def FX3_enter_74  (x3 : Int) (x4 : Int) (f : Mm) : Option Mm := (if 0 ≤ x4 ∧ x4 < 61 then (if (f 64 x4.toNat) = (-1) then FX3_enter_96 x3 x4 f else (if 0 ≤ x4 ∧ x4 < 61 then (if (f 64 x4.toNat) ≤ x3 then some f else FX3_enter_96 x3 x4 f) else none)) else none)
set_option maxHeartbeats 4000000 in
set_option maxRecDepth 100000 in
theorem SX3_enter_74 {G : GT} {l : Launch} {Q : Option AV → Mem → Prop}  (x3 : Int) (x4 : Int) (f : Mm) (h : OkV Q (FX3_enter_74  x3 x4 f)) : Ev G l MX3_enter (Rm 1 0 0) (ZM G Q 0 0) 0 0 74 [some (vR 57), none, none, some (vI x3), some (vI x4)] [] (SH, RF, f) := by
  unfold FX3_enter_74 at h
  refine ev_aload_n (i := 0) dX3_enter_74 rfl rfl ?_
  refine ev_getR dX3_enter_75 fl_X3_30 sh_57 (by decide) (by decide) rf_57_9 ?_
  refine ev_iload dX3_enter_78 rfl ?_
  by_cases g1 : 0 ≤ x4 ∧ x4 < 61
  · rw [if_pos g1] at h
    refine ex_iald (x := (f 64 x4.toNat)) dX3_enter_80 sh_64 g1.1 g1.2 rfl ?_
    refine ev_iconst dX3_enter_81 (r32c rfl) ?_
    refine ev_icmp_eq (tgt := 96) dX3_enter_82 (by decide) (fun c4 => ?_) (fun c4 => ?_)
    · rw [if_pos c4] at h
      exact SX3_enter_96  x3 x4 _ h
    · rw [if_neg c4] at h
      refine ev_iload_n (i := 3) dX3_enter_85 rfl rfl ?_
      refine ev_aload_n (i := 0) dX3_enter_86 rfl rfl ?_
      refine ev_getR dX3_enter_87 fl_X3_30 sh_57 (by decide) (by decide) rf_57_9 ?_
      refine ev_iload dX3_enter_90 rfl ?_
      by_cases g2 : 0 ≤ x4 ∧ x4 < 61
      · rw [if_pos g2] at h
        refine ex_iald (x := (f 64 x4.toNat)) dX3_enter_92 sh_64 g2.1 g2.2 rfl ?_
        refine ev_icmp_ge (tgt := 104) dX3_enter_93 (by decide) (fun c3 => ?_) (fun c3 => ?_)
        · rw [if_pos c3] at h
          exact ev_vret rfl dX3_enter_104 h
        · rw [if_neg c3] at h
          exact SX3_enter_96  x3 x4 _ h
      · rw [if_neg g2] at h; exact h.elim
  · rw [if_neg g1] at h; exact h.elim
def FX3_enter_30  (x1 : Int) (x2 : Int) (x3 : Int) (x4 : Int) (f : Mm) : Option Mm := (if 0 ≤ x2 ∧ x2 < 64 then (if 0 ≤ x2 ∧ x2 < 64 then (if 0 ≤ x2 ∧ x2 < 64 then FX3_enter_74 x3 x4 (up (up (up f 61 x2.toNat x3) 62 x2.toNat 1) 63 x2.toNat x1) else none) else none) else none)
set_option maxHeartbeats 4000000 in
set_option maxRecDepth 100000 in
theorem SX3_enter_30 {G : GT} {l : Launch} {Q : Option AV → Mem → Prop}  (x1 : Int) (x2 : Int) (x3 : Int) (x4 : Int) (f : Mm) (h : OkV Q (FX3_enter_30  x1 x2 x3 x4 f)) : Ev G l MX3_enter (Rm 1 0 0) (ZM G Q 0 0) 0 0 30 [some (vR 57), some (vI x1), some (vI x2), some (vI x3), some (vI x4)] [] (SH, RF, f) := by
  unfold FX3_enter_30 at h
  refine ev_aload_n (i := 0) dX3_enter_30 rfl rfl ?_
  refine ev_getR dX3_enter_31 fl_X3_21 sh_57 (by decide) (by decide) rf_57_6 ?_
  refine ev_iload_n (i := 2) dX3_enter_34 rfl rfl ?_
  refine ev_iload_n (i := 3) dX3_enter_35 rfl rfl ?_
  by_cases g1 : 0 ≤ x2 ∧ x2 < 64
  · rw [if_pos g1] at h
    refine ex_iast (j := x2.toNat) dX3_enter_36 sh_61 g1.1 g1.2 rfl ?_
    refine ev_aload_n (i := 0) dX3_enter_37 rfl rfl ?_
    refine ev_getR dX3_enter_38 fl_X3_24 sh_57 (by decide) (by decide) rf_57_7 ?_
    refine ev_iload_n (i := 2) dX3_enter_41 rfl rfl ?_
    refine ev_iconst dX3_enter_42 (r32c rfl) ?_
    by_cases g2 : 0 ≤ x2 ∧ x2 < 64
    · rw [if_pos g2] at h
      refine ex_iast (j := x2.toNat) dX3_enter_43 sh_62 g2.1 g2.2 rfl ?_
      refine ev_aload_n (i := 0) dX3_enter_44 rfl rfl ?_
      refine ev_getR dX3_enter_45 fl_X3_27 sh_57 (by decide) (by decide) rf_57_8 ?_
      refine ev_iload_n (i := 2) dX3_enter_48 rfl rfl ?_
      refine ev_iload_n (i := 1) dX3_enter_49 rfl rfl ?_
      by_cases g3 : 0 ≤ x2 ∧ x2 < 64
      · rw [if_pos g3] at h
        refine ex_iast (j := x2.toNat) dX3_enter_50 sh_63 g3.1 g3.2 rfl ?_
        refine ev_goto (tgt := 74) dX3_enter_51 (by decide) ?_
        refine ev_fg [true, false, false, true, true] rfl ?_
        exact SX3_enter_74  x3 x4 _ h
      · rw [if_neg g3] at h; exact h.elim
    · rw [if_neg g2] at h; exact h.elim
  · rw [if_neg g1] at h; exact h.elim
def FX3_enter_0  (x1 : Int) (x2 : Int) (x3 : Int) (x4 : Int) (f : Mm) : Option Mm := (if 0 ≤ x2 ∧ x2 < 64 then (if 0 ≤ x2 ∧ x2 < 64 then (if 0 ≤ x2 ∧ x2 < 64 then (if (f 61 x2.toNat) = (-1) then FX3_enter_30 x1 x2 x3 x4 (up f 60 x2.toNat (w32 ((f 60 x2.toNat) + 1))) else (if 0 ≤ x2 ∧ x2 < 64 then (if (f 61 x2.toNat) ≤ x3 then (if 0 ≤ x2 ∧ x2 < 64 then (if x3 = (f 61 x2.toNat) then (if 0 ≤ x2 ∧ x2 < 64 then (if 0 ≤ x2 ∧ x2 < 64 then FX3_enter_74 x3 x4 (up (up f 60 x2.toNat (w32 ((f 60 x2.toNat) + 1))) 62 x2.toNat (w32 ((f 62 x2.toNat) + 1))) else none) else none) else FX3_enter_74 x3 x4 (up f 60 x2.toNat (w32 ((f 60 x2.toNat) + 1)))) else none) else FX3_enter_30 x1 x2 x3 x4 (up f 60 x2.toNat (w32 ((f 60 x2.toNat) + 1)))) else none)) else none) else none) else none)
set_option maxHeartbeats 4000000 in
set_option maxRecDepth 100000 in
theorem SX3_enter_0 {G : GT} {l : Launch} {Q : Option AV → Mem → Prop}  (x1 : Int) (x2 : Int) (x3 : Int) (x4 : Int) (f : Mm) (h : OkV Q (FX3_enter_0  x1 x2 x3 x4 f)) : Ev G l MX3_enter (Rm 1 0 0) (ZM G Q 0 0) 0 0 0 [some (vR 57), some (vI x1), some (vI x2), some (vI x3), some (vI x4)] [] (SH, RF, f) := by
  unfold FX3_enter_0 at h
  refine ev_aload_n (i := 0) dX3_enter_0 rfl rfl ?_
  refine ev_getR dX3_enter_1 fl_X3_18 sh_57 (by decide) (by decide) rf_57_5 ?_
  refine ev_iload_n (i := 2) dX3_enter_4 rfl rfl ?_
  refine ev_dup2IR dX3_enter_5 ?_
  by_cases g1 : 0 ≤ x2 ∧ x2 < 64
  · rw [if_pos g1] at h
    refine ex_iald (x := (f 60 x2.toNat)) dX3_enter_6 sh_60 g1.1 g1.2 rfl ?_
    refine ev_iconst dX3_enter_7 (r32c rfl) ?_
    refine ev_iadd dX3_enter_8 ?_
    by_cases g2 : 0 ≤ x2 ∧ x2 < 64
    · rw [if_pos g2] at h
      refine ex_iast (j := x2.toNat) dX3_enter_9 sh_60 g2.1 g2.2 rfl ?_
      refine ev_aload_n (i := 0) dX3_enter_10 rfl rfl ?_
      refine ev_getR dX3_enter_11 fl_X3_21 sh_57 (by decide) (by decide) rf_57_6 ?_
      refine ev_iload_n (i := 2) dX3_enter_14 rfl rfl ?_
      by_cases g3 : 0 ≤ x2 ∧ x2 < 64
      · rw [if_pos g3] at h
        refine ex_iald (x := (f 61 x2.toNat)) dX3_enter_15 sh_61 g3.1 g3.2 rfl ?_
        refine ev_iconst dX3_enter_16 (r32c rfl) ?_
        refine ev_icmp_eq (tgt := 30) dX3_enter_17 (by decide) (fun c10 => ?_) (fun c10 => ?_)
        · rw [if_pos c10] at h
          exact SX3_enter_30  x1 x2 x3 x4 _ h
        · rw [if_neg c10] at h
          refine ev_iload_n (i := 3) dX3_enter_20 rfl rfl ?_
          refine ev_aload_n (i := 0) dX3_enter_21 rfl rfl ?_
          refine ev_getR dX3_enter_22 fl_X3_21 sh_57 (by decide) (by decide) rf_57_6 ?_
          refine ev_iload_n (i := 2) dX3_enter_25 rfl rfl ?_
          by_cases g4 : 0 ≤ x2 ∧ x2 < 64
          · rw [if_pos g4] at h
            refine ex_iald (x := (f 61 x2.toNat)) dX3_enter_26 sh_61 g4.1 g4.2 rfl ?_
            refine ev_icmp_ge (tgt := 54) dX3_enter_27 (by decide) (fun c9 => ?_) (fun c9 => ?_)
            · rw [if_pos c9] at h
              refine ev_iload_n (i := 3) dX3_enter_54 rfl rfl ?_
              refine ev_aload_n (i := 0) dX3_enter_55 rfl rfl ?_
              refine ev_getR dX3_enter_56 fl_X3_21 sh_57 (by decide) (by decide) rf_57_6 ?_
              refine ev_iload_n (i := 2) dX3_enter_59 rfl rfl ?_
              by_cases g5 : 0 ≤ x2 ∧ x2 < 64
              · rw [if_pos g5] at h
                refine ex_iald (x := (f 61 x2.toNat)) dX3_enter_60 sh_61 g5.1 g5.2 rfl ?_
                refine ev_icmp_ne (tgt := 74) dX3_enter_61 (by decide) (fun c8 => ?_) (fun c8 => ?_)
                · rw [if_neg c8] at h
                  refine ev_fg [true, false, false, true, true] rfl ?_
                  exact SX3_enter_74  x3 x4 _ h
                · rw [if_pos c8] at h
                  refine ev_aload_n (i := 0) dX3_enter_64 rfl rfl ?_
                  refine ev_getR dX3_enter_65 fl_X3_24 sh_57 (by decide) (by decide) rf_57_7 ?_
                  refine ev_iload_n (i := 2) dX3_enter_68 rfl rfl ?_
                  refine ev_dup2IR dX3_enter_69 ?_
                  by_cases g6 : 0 ≤ x2 ∧ x2 < 64
                  · rw [if_pos g6] at h
                    refine ex_iald (x := (f 62 x2.toNat)) dX3_enter_70 sh_62 g6.1 g6.2 rfl ?_
                    refine ev_iconst dX3_enter_71 (r32c rfl) ?_
                    refine ev_iadd dX3_enter_72 ?_
                    by_cases g7 : 0 ≤ x2 ∧ x2 < 64
                    · rw [if_pos g7] at h
                      refine ex_iast (j := x2.toNat) dX3_enter_73 sh_62 g7.1 g7.2 rfl ?_
                      refine ev_fg [true, false, false, true, true] rfl ?_
                      exact SX3_enter_74  x3 x4 _ h
                    · rw [if_neg g7] at h; exact h.elim
                  · rw [if_neg g6] at h; exact h.elim
              · rw [if_neg g5] at h; exact h.elim
            · rw [if_neg c9] at h
              exact SX3_enter_30  x1 x2 x3 x4 _ h
          · rw [if_neg g4] at h; exact h.elim
      · rw [if_neg g3] at h; exact h.elim
    · rw [if_neg g2] at h; exact h.elim
  · rw [if_neg g1] at h; exact h.elim
def FX3_enter (x1 : Int) (x2 : Int) (x3 : Int) (x4 : Int) (f : Mm) : Option Mm := FX3_enter_0 x1 x2 x3 x4 f
set_option maxRecDepth 100000 in
theorem TX3_enter {G : GT} {l : Launch} {Q : Option AV → Mem → Prop} (x1 : Int) (x2 : Int) (x3 : Int) (x4 : Int) (f : Mm) (h : OkV Q (FX3_enter x1 x2 x3 x4 f)) : Ret G l MX3_enter (1) 0 0 [vR 57, vI x1, vI x2, vI x3, vI x4] (SH, RF, f) Q := by
  refine ret_of (L := [some (vR 57), some (vI x1), some (vI x2), some (vI x3), some (vI x4)]) (by decide) rfl (Nat.le_of_ble_eq_true rfl) ?_
  exact SX3_enter_0 x1 x2 x3 x4 f h
theorem dX3_turnPlan_26 : decode cX3_turnPlan 26 = .ok (.aload_n 1, 1) := by decide +kernel
theorem dX3_turnPlan_27 : decode cX3_turnPlan 27 = .ok (.getfield 89, 3) := by decide +kernel
theorem dX3_turnPlan_30 : decode cX3_turnPlan 30 = .ok (.iload_n 2, 1) := by decide +kernel
theorem dX3_turnPlan_31 : decode cX3_turnPlan 31 = .ok (.dup2, 1) := by decide +kernel
theorem dX3_turnPlan_32 : decode cX3_turnPlan 32 = .ok (.iaload, 1) := by decide +kernel
theorem dX3_turnPlan_33 : decode cX3_turnPlan 33 = .ok (.iconst 1, 1) := by decide +kernel
theorem dX3_turnPlan_34 : decode cX3_turnPlan 34 = .ok (.iadd, 1) := by decide +kernel
theorem dX3_turnPlan_35 : decode cX3_turnPlan 35 = .ok (.iastore, 1) := by decide +kernel
theorem dX3_turnPlan_36 : decode cX3_turnPlan 36 = .ok (.iload_n 2, 1) := by decide +kernel
theorem dX3_turnPlan_37 : decode cX3_turnPlan 37 = .ok (.ireturn, 1) := by decide +kernel
theorem dX3_turnPlan_7 : decode cX3_turnPlan 7 = .ok (.iload_n 2, 1) := by decide +kernel
theorem dX3_turnPlan_8 : decode cX3_turnPlan 8 = .ok (.ifCond .lt 43, 3) := by decide +kernel
theorem dX3_turnPlan_51 : decode cX3_turnPlan 51 = .ok (.iconst 0, 1) := by decide +kernel
theorem dX3_turnPlan_52 : decode cX3_turnPlan 52 = .ok (.ireturn, 1) := by decide +kernel
theorem dX3_turnPlan_11 : decode cX3_turnPlan 11 = .ok (.aload_n 1, 1) := by decide +kernel
theorem dX3_turnPlan_12 : decode cX3_turnPlan 12 = .ok (.getfield 89, 3) := by decide +kernel
theorem dX3_turnPlan_15 : decode cX3_turnPlan 15 = .ok (.iload_n 2, 1) := by decide +kernel
theorem dX3_turnPlan_16 : decode cX3_turnPlan 16 = .ok (.iaload, 1) := by decide +kernel
theorem dX3_turnPlan_17 : decode cX3_turnPlan 17 = .ok (.iconst 2, 1) := by decide +kernel
theorem dX3_turnPlan_18 : decode cX3_turnPlan 18 = .ok (.iadd, 1) := by decide +kernel
theorem dX3_turnPlan_19 : decode cX3_turnPlan 19 = .ok (.aload_n 0, 1) := by decide +kernel
theorem dX3_turnPlan_20 : decode cX3_turnPlan 20 = .ok (.getfield 51, 3) := by decide +kernel
theorem dX3_turnPlan_23 : decode cX3_turnPlan 23 = .ok (.if_icmp .ge 15, 3) := by decide +kernel
theorem dX3_turnPlan_38 : decode cX3_turnPlan 38 = .ok (.aload_n 1, 1) := by decide +kernel
theorem dX3_turnPlan_39 : decode cX3_turnPlan 39 = .ok (.getfield 89, 3) := by decide +kernel
theorem dX3_turnPlan_42 : decode cX3_turnPlan 42 = .ok (.iload_n 2, 1) := by decide +kernel
theorem dX3_turnPlan_43 : decode cX3_turnPlan 43 = .ok (.iconst (-1), 1) := by decide +kernel
theorem dX3_turnPlan_44 : decode cX3_turnPlan 44 = .ok (.iastore, 1) := by decide +kernel
theorem dX3_turnPlan_45 : decode cX3_turnPlan 45 = .ok (.iinc 2 (-1), 3) := by decide +kernel
theorem dX3_turnPlan_48 : decode cX3_turnPlan 48 = .ok (.goto (-41), 3) := by decide +kernel
theorem dX3_turnPlan_0 : decode cX3_turnPlan 0 = .ok (.aload_n 0, 1) := by decide +kernel
theorem dX3_turnPlan_1 : decode cX3_turnPlan 1 = .ok (.getfield 47, 3) := by decide +kernel
theorem dX3_turnPlan_4 : decode cX3_turnPlan 4 = .ok (.iconst 1, 1) := by decide +kernel
theorem dX3_turnPlan_5 : decode cX3_turnPlan 5 = .ok (.isub, 1) := by decide +kernel
theorem dX3_turnPlan_6 : decode cX3_turnPlan 6 = .ok (.istore_n 2, 1) := by decide +kernel
def FX3_turnPlan_57_48_26  (x2 : Int) (f : Mm) : Option (Int × Mm) := (if 0 ≤ x2 ∧ x2 < 6 then (if 0 ≤ x2 ∧ x2 < 6 then some (x2, (up f 49 x2.toNat (w32 ((f 49 x2.toNat) + 1)))) else none) else none)
set_option maxHeartbeats 4000000 in
set_option maxRecDepth 100000 in
theorem SX3_turnPlan_57_48_26 {G : GT} {l : Launch} {Q : Option AV → Mem → Prop}  (x2 : Int) (f : Mm) (h : OkI Q (FX3_turnPlan_57_48_26  x2 f)) : Ev G l MX3_turnPlan (Rm 1 0 0) (ZM G Q 0 0) 0 0 26 [none, some (vR 48), some (vI x2)] [] (SH, RF, f) := by
  unfold FX3_turnPlan_57_48_26 at h
  refine ev_aload_n (i := 1) dX3_turnPlan_26 rfl rfl ?_
  refine ev_getR dX3_turnPlan_27 fl_X3_89 sh_48 (by decide) (by decide) rf_48_0 ?_
  refine ev_iload_n (i := 2) dX3_turnPlan_30 rfl rfl ?_
  refine ev_dup2IR dX3_turnPlan_31 ?_
  by_cases g1 : 0 ≤ x2 ∧ x2 < 6
  · rw [if_pos g1] at h
    refine ex_iald (x := (f 49 x2.toNat)) dX3_turnPlan_32 sh_49 g1.1 g1.2 rfl ?_
    refine ev_iconst dX3_turnPlan_33 (r32c rfl) ?_
    refine ev_iadd dX3_turnPlan_34 ?_
    by_cases g2 : 0 ≤ x2 ∧ x2 < 6
    · rw [if_pos g2] at h
      refine ex_iast (j := x2.toNat) dX3_turnPlan_35 sh_49 g2.1 g2.2 rfl ?_
      refine ev_iload_n (i := 2) dX3_turnPlan_36 rfl rfl ?_
      exact ev_iret rfl dX3_turnPlan_37 h
    · rw [if_neg g2] at h; exact h.elim
  · rw [if_neg g1] at h; exact h.elim
def FX3_turnPlan_57_48_7  : Nat → Int → Mm → Option (Int × Mm)
  | 0, _, _ => none
  | n + 1, x2, f => (if x2 < 0 then some (0, f) else (if 0 ≤ x2 ∧ x2 < 6 then (if (f 57 2) ≤ (w32 ((f 49 x2.toNat) + 2)) then (if 0 ≤ x2 ∧ x2 < 6 then FX3_turnPlan_57_48_7 n (w32 (x2 + (-1))) (up f 49 x2.toNat (-1)) else none) else FX3_turnPlan_57_48_26 x2 f) else none))
set_option maxHeartbeats 4000000 in
set_option maxRecDepth 100000 in
theorem SX3_turnPlan_57_48_7 {G : GT} {l : Launch} {Q : Option AV → Mem → Prop}  : ∀ (n : Nat) (x2 : Int) (f : Mm), OkI Q (FX3_turnPlan_57_48_7  n x2 f) → Ev G l MX3_turnPlan (Rm 1 0 0) (ZM G Q 0 0) 0 0 7 [some (vR 57), some (vR 48), some (vI x2)] [] (SH, RF, f) := by
  intro n
  induction n with
  | zero => intro x2 f h; exact absurd h (by rw [FX3_turnPlan_57_48_7]; exact fun q => q)
  | succ n ih =>
    intro x2 f h
    rw [FX3_turnPlan_57_48_7] at h
    refine ev_iload_n (i := 2) dX3_turnPlan_7 rfl rfl ?_
    refine ev_if_lt (tgt := 51) dX3_turnPlan_8 (by decide) (fun c4 => ?_) (fun c4 => ?_)
    · rw [if_pos c4] at h
      refine ev_iconst dX3_turnPlan_51 (r32c rfl) ?_
      exact ev_iret rfl dX3_turnPlan_52 h
    · rw [if_neg c4] at h
      refine ev_aload_n (i := 1) dX3_turnPlan_11 rfl rfl ?_
      refine ev_getR dX3_turnPlan_12 fl_X3_89 sh_48 (by decide) (by decide) rf_48_0 ?_
      refine ev_iload_n (i := 2) dX3_turnPlan_15 rfl rfl ?_
      by_cases g1 : 0 ≤ x2 ∧ x2 < 6
      · rw [if_pos g1] at h
        refine ex_iald (x := (f 49 x2.toNat)) dX3_turnPlan_16 sh_49 g1.1 g1.2 rfl ?_
        refine ev_iconst dX3_turnPlan_17 (r32c rfl) ?_
        refine ev_iadd dX3_turnPlan_18 ?_
        refine ev_aload_n (i := 0) dX3_turnPlan_19 rfl rfl ?_
        refine ex_getI (x := (f 57 2)) dX3_turnPlan_20 fl_X3_51 sh_57 (by decide) (by decide) rfl ?_
        refine ev_icmp_ge (tgt := 38) dX3_turnPlan_23 (by decide) (fun c3 => ?_) (fun c3 => ?_)
        · rw [if_pos c3] at h
          refine ev_aload_n (i := 1) dX3_turnPlan_38 rfl rfl ?_
          refine ev_getR dX3_turnPlan_39 fl_X3_89 sh_48 (by decide) (by decide) rf_48_0 ?_
          refine ev_iload_n (i := 2) dX3_turnPlan_42 rfl rfl ?_
          refine ev_iconst dX3_turnPlan_43 (r32c rfl) ?_
          by_cases g2 : 0 ≤ x2 ∧ x2 < 6
          · rw [if_pos g2] at h
            refine ex_iast (j := x2.toNat) dX3_turnPlan_44 sh_49 g2.1 g2.2 rfl ?_
            refine ev_iinc (L' := [some (vR 57), some (vR 48), some (vI (w32 (x2 + (-1))))]) dX3_turnPlan_45 rfl (by decide) rfl ?_
            refine ev_goto (tgt := 7) dX3_turnPlan_48 (by decide) ?_
            exact ih (w32 (x2 + (-1))) _ h
          · rw [if_neg g2] at h; exact h.elim
        · rw [if_neg c3] at h
          refine ev_fg [false, true, true] rfl ?_
          exact SX3_turnPlan_57_48_26  x2 _ h
      · rw [if_neg g1] at h; exact h.elim
def FX3_turnPlan_57_48_0   (f : Mm) : Option (Int × Mm) := FX3_turnPlan_57_48_7 fu (w32 ((f 57 1) - 1)) f
set_option maxHeartbeats 4000000 in
set_option maxRecDepth 100000 in
theorem SX3_turnPlan_57_48_0 {G : GT} {l : Launch} {Q : Option AV → Mem → Prop}   (f : Mm) (h : OkI Q (FX3_turnPlan_57_48_0   f)) : Ev G l MX3_turnPlan (Rm 1 0 0) (ZM G Q 0 0) 0 0 0 [some (vR 57), some (vR 48), none] [] (SH, RF, f) := by
  unfold FX3_turnPlan_57_48_0 at h
  refine ev_aload_n (i := 0) dX3_turnPlan_0 rfl rfl ?_
  refine ex_getI (x := (f 57 1)) dX3_turnPlan_1 fl_X3_47 sh_57 (by decide) (by decide) rfl ?_
  refine ev_iconst dX3_turnPlan_4 (r32c rfl) ?_
  refine ev_isub dX3_turnPlan_5 ?_
  refine ev_istore_n (i := 2) (L' := [some (vR 57), some (vR 48), some (vI (w32 ((f 57 1) - 1)))]) dX3_turnPlan_6 rfl (by decide) rfl ?_
  exact SX3_turnPlan_57_48_7  fu (w32 ((f 57 1) - 1)) _ h
def FX3_turnPlan_57_48  (f : Mm) : Option (Int × Mm) := FX3_turnPlan_57_48_0  f
set_option maxRecDepth 100000 in
theorem TX3_turnPlan_57_48 {G : GT} {l : Launch} {Q : Option AV → Mem → Prop}  (f : Mm) (h : OkI Q (FX3_turnPlan_57_48  f)) : Ret G l MX3_turnPlan (1) 0 0 [vR 57, vR 48] (SH, RF, f) Q := by
  refine ret_of (L := [some (vR 57), some (vR 48), none]) (by decide) rfl (Nat.le_of_ble_eq_true rfl) ?_
  exact SX3_turnPlan_57_48_0  f h
theorem dX3_weigh_99 : decode cX3_weigh 99 = .ok (.aload_n 0, 1) := by decide +kernel
theorem dX3_weigh_100 : decode cX3_weigh 100 = .ok (.iload 5, 2) := by decide +kernel
theorem dX3_weigh_102 : decode cX3_weigh 102 = .ok (.aload_n 2, 1) := by decide +kernel
theorem dX3_weigh_103 : decode cX3_weigh 103 = .ok (.aload_n 1, 1) := by decide +kernel
theorem dX3_weigh_104 : decode cX3_weigh 104 = .ok (.invokevirtual 67, 3) := by decide +kernel
theorem dX3_weigh_107 : decode cX3_weigh 107 = .ok (.aload_n 0, 1) := by decide +kernel
theorem dX3_weigh_108 : decode cX3_weigh 108 = .ok (.getfield 9, 3) := by decide +kernel
theorem dX3_weigh_111 : decode cX3_weigh 111 = .ok (.aload_n 0, 1) := by decide +kernel
theorem dX3_weigh_112 : decode cX3_weigh 112 = .ok (.getfield 47, 3) := by decide +kernel
theorem dX3_weigh_115 : decode cX3_weigh 115 = .ok (.iaload, 1) := by decide +kernel
theorem dX3_weigh_116 : decode cX3_weigh 116 = .ok (.aload_n 0, 1) := by decide +kernel
theorem dX3_weigh_117 : decode cX3_weigh 117 = .ok (.getfield 15, 3) := by decide +kernel
theorem dX3_weigh_120 : decode cX3_weigh 120 = .ok (.aload_n 0, 1) := by decide +kernel
theorem dX3_weigh_121 : decode cX3_weigh 121 = .ok (.getfield 47, 3) := by decide +kernel
theorem dX3_weigh_124 : decode cX3_weigh 124 = .ok (.iaload, 1) := by decide +kernel
theorem dX3_weigh_125 : decode cX3_weigh 125 = .ok (.invokevirtual 71, 3) := by decide +kernel
theorem dX3_weigh_128 : decode cX3_weigh 128 = .ok (.aload_n 0, 1) := by decide +kernel
theorem dX3_weigh_129 : decode cX3_weigh 129 = .ok (.aload_n 2, 1) := by decide +kernel
theorem dX3_weigh_130 : decode cX3_weigh 130 = .ok (.invokevirtual 75, 3) := by decide +kernel
theorem dX3_weigh_133 : decode cX3_weigh 133 = .ok (.istore 4, 2) := by decide +kernel
theorem dX3_weigh_135 : decode cX3_weigh 135 = .ok (.iinc 5 1, 3) := by decide +kernel
theorem dX3_weigh_138 : decode cX3_weigh 138 = .ok (.goto (-86), 3) := by decide +kernel
theorem dX3_weigh_62 : decode cX3_weigh 62 = .ok (.iload 6, 2) := by decide +kernel
theorem dX3_weigh_64 : decode cX3_weigh 64 = .ok (.aload_n 0, 1) := by decide +kernel
theorem dX3_weigh_65 : decode cX3_weigh 65 = .ok (.getfield 47, 3) := by decide +kernel
theorem dX3_weigh_68 : decode cX3_weigh 68 = .ok (.if_icmp .ge 31, 3) := by decide +kernel
theorem dX3_weigh_71 : decode cX3_weigh 71 = .ok (.aload_n 2, 1) := by decide +kernel
theorem dX3_weigh_72 : decode cX3_weigh 72 = .ok (.aload_n 1, 1) := by decide +kernel
theorem dX3_weigh_73 : decode cX3_weigh 73 = .ok (.iload 6, 2) := by decide +kernel
theorem dX3_weigh_75 : decode cX3_weigh 75 = .ok (.invokevirtual 54, 3) := by decide +kernel
theorem dX3_weigh_78 : decode cX3_weigh 78 = .ok (.aload_n 2, 1) := by decide +kernel
theorem dX3_weigh_79 : decode cX3_weigh 79 = .ok (.aload_n 1, 1) := by decide +kernel
theorem dX3_weigh_80 : decode cX3_weigh 80 = .ok (.iload 6, 2) := by decide +kernel
theorem dX3_weigh_82 : decode cX3_weigh 82 = .ok (.invokevirtual 60, 3) := by decide +kernel
theorem dX3_weigh_85 : decode cX3_weigh 85 = .ok (.aload_n 0, 1) := by decide +kernel
theorem dX3_weigh_86 : decode cX3_weigh 86 = .ok (.aload_n 1, 1) := by decide +kernel
theorem dX3_weigh_87 : decode cX3_weigh 87 = .ok (.aload_n 2, 1) := by decide +kernel
theorem dX3_weigh_88 : decode cX3_weigh 88 = .ok (.iload 6, 2) := by decide +kernel
theorem dX3_weigh_90 : decode cX3_weigh 90 = .ok (.invokevirtual 63, 3) := by decide +kernel
theorem dX3_weigh_93 : decode cX3_weigh 93 = .ok (.iinc 6 1, 3) := by decide +kernel
theorem dX3_weigh_96 : decode cX3_weigh 96 = .ok (.goto (-34), 3) := by decide +kernel
theorem dX3_weigh_52 : decode cX3_weigh 52 = .ok (.iload 5, 2) := by decide +kernel
theorem dX3_weigh_54 : decode cX3_weigh 54 = .ok (.iload_n 3, 1) := by decide +kernel
theorem dX3_weigh_55 : decode cX3_weigh 55 = .ok (.if_icmp .ge 86, 3) := by decide +kernel
theorem dX3_weigh_141 : decode cX3_weigh 141 = .ok (.return_, 1) := by decide +kernel
theorem dX3_weigh_58 : decode cX3_weigh 58 = .ok (.iload 4, 2) := by decide +kernel
theorem dX3_weigh_60 : decode cX3_weigh 60 = .ok (.istore 6, 2) := by decide +kernel
theorem dX3_weigh_46 : decode cX3_weigh 46 = .ok (.iconst 0, 1) := by decide +kernel
theorem dX3_weigh_47 : decode cX3_weigh 47 = .ok (.istore 4, 2) := by decide +kernel
theorem dX3_weigh_49 : decode cX3_weigh 49 = .ok (.iconst 0, 1) := by decide +kernel
theorem dX3_weigh_50 : decode cX3_weigh 50 = .ok (.istore 5, 2) := by decide +kernel
theorem dX3_weigh_24 : decode cX3_weigh 24 = .ok (.iload 4, 2) := by decide +kernel
theorem dX3_weigh_26 : decode cX3_weigh 26 = .ok (.aload_n 0, 1) := by decide +kernel
theorem dX3_weigh_27 : decode cX3_weigh 27 = .ok (.getfield 47, 3) := by decide +kernel
theorem dX3_weigh_30 : decode cX3_weigh 30 = .ok (.if_icmp .ge 16, 3) := by decide +kernel
theorem dX3_weigh_33 : decode cX3_weigh 33 = .ok (.iload_n 3, 1) := by decide +kernel
theorem dX3_weigh_34 : decode cX3_weigh 34 = .ok (.aload_n 0, 1) := by decide +kernel
theorem dX3_weigh_35 : decode cX3_weigh 35 = .ok (.getfield 51, 3) := by decide +kernel
theorem dX3_weigh_38 : decode cX3_weigh 38 = .ok (.imul, 1) := by decide +kernel
theorem dX3_weigh_39 : decode cX3_weigh 39 = .ok (.istore_n 3, 1) := by decide +kernel
theorem dX3_weigh_40 : decode cX3_weigh 40 = .ok (.iinc 4 1, 3) := by decide +kernel
theorem dX3_weigh_43 : decode cX3_weigh 43 = .ok (.goto (-19), 3) := by decide +kernel
theorem dX3_weigh_0 : decode cX3_weigh 0 = .ok (.aload_n 0, 1) := by decide +kernel
theorem dX3_weigh_1 : decode cX3_weigh 1 = .ok (.getfield 39, 3) := by decide +kernel
theorem dX3_weigh_4 : decode cX3_weigh 4 = .ok (.ifCond .eq 4, 3) := by decide +kernel
theorem dX3_weigh_8 : decode cX3_weigh 8 = .ok (.aload_n 0, 1) := by decide +kernel
theorem dX3_weigh_9 : decode cX3_weigh 9 = .ok (.iconst 1, 1) := by decide +kernel
theorem dX3_weigh_10 : decode cX3_weigh 10 = .ok (.putfield 39, 3) := by decide +kernel
theorem dX3_weigh_13 : decode cX3_weigh 13 = .ok (.aload_n 0, 1) := by decide +kernel
theorem dX3_weigh_14 : decode cX3_weigh 14 = .ok (.aload_n 1, 1) := by decide +kernel
theorem dX3_weigh_15 : decode cX3_weigh 15 = .ok (.aload_n 2, 1) := by decide +kernel
theorem dX3_weigh_16 : decode cX3_weigh 16 = .ok (.invokevirtual 43, 3) := by decide +kernel
theorem dX3_weigh_19 : decode cX3_weigh 19 = .ok (.iconst 1, 1) := by decide +kernel
theorem dX3_weigh_20 : decode cX3_weigh 20 = .ok (.istore_n 3, 1) := by decide +kernel
theorem dX3_weigh_21 : decode cX3_weigh 21 = .ok (.iconst 0, 1) := by decide +kernel
theorem dX3_weigh_22 : decode cX3_weigh 22 = .ok (.istore 4, 2) := by decide +kernel
theorem dX3_weigh_7 : decode cX3_weigh 7 = .ok (.return_, 1) := by decide +kernel
def FX3_weigh_57_4_48_99 (k52 : Int → Int → Int → Mm → Option Mm) (x3 : Int) (x5 : Int) (f : Mm) : Option Mm := (b2 (FX1_keptBits_48_4 f) fun y1 f1 => (if 0 ≤ (f1 57 1) ∧ (f1 57 1) < 7 then (if 0 ≤ (f1 57 1) ∧ (f1 57 1) < 7 then ((FX3_enter x5 y1 (f1 58 (f1 57 1).toNat) (f1 59 (f1 57 1).toNat) f1).bind fun f4 => (b2 (FX3_turnPlan_57_48 f4) fun y5 f5 => k52 x3 y5 (w32 (x5 + 1)) f5)) else none) else none))
set_option maxHeartbeats 4000000 in
set_option maxRecDepth 100000 in
theorem SX3_weigh_57_4_48_99 {G : GT} {l : Launch} {Q : Option AV → Mem → Prop} {k52 : Int → Int → Int → Mm → Option Mm} (q52 : ∀ (x3 : Int) (x4 : Int) (x5 : Int) (f : Mm), OkV Q (k52 x3 x4 x5 f) → Ev G l MX3_weigh (Rm 4 0 0) (ZM G Q 0 0) 0 0 52 [some (vR 57), some (vR 4), some (vR 48), some (vI x3), some (vI x4), some (vI x5), none] [] (SH, RF, f)) (x3 : Int) (x5 : Int) (f : Mm) (h : OkV Q (FX3_weigh_57_4_48_99 k52 x3 x5 f)) : Ev G l MX3_weigh (Rm 4 0 0) (ZM G Q 0 0) 0 0 99 [some (vR 57), some (vR 4), some (vR 48), some (vI x3), none, some (vI x5), none] [] (SH, RF, f) := by
  unfold FX3_weigh_57_4_48_99 at h
  refine ev_aload_n (i := 0) dX3_weigh_99 rfl rfl ?_
  refine ev_iload dX3_weigh_100 rfl ?_
  refine ev_aload_n (i := 2) dX3_weigh_102 rfl rfl ?_
  refine ev_aload_n (i := 1) dX3_weigh_103 rfl rfl ?_
  refine ev_cVI (b := 48) (av := [vR 4]) (S := [vI x5, vR 57]) (fun q => q) h dX3_weigh_104 (fun Q' q => TX1_keptBits_48_4 _ q) kvX1_keptBits ml_X3_67 sh_48 rfl (RRc (by decide) (by decide)) (Nat.le_of_ble_eq_true rfl) ⟨Nat.le_of_ble_eq_true rfl, Nat.le_of_ble_eq_true rfl⟩ (fun y1 f1 h => ?_)
  refine ev_aload_n (i := 0) dX3_weigh_107 rfl rfl ?_
  refine ev_getR dX3_weigh_108 fl_X3_9 sh_57 (by decide) (by decide) rf_57_3 ?_
  refine ev_aload_n (i := 0) dX3_weigh_111 rfl rfl ?_
  refine ex_getI (x := (f1 57 1)) dX3_weigh_112 fl_X3_47 sh_57 (by decide) (by decide) rfl ?_
  by_cases g2 : 0 ≤ (f1 57 1) ∧ (f1 57 1) < 7
  · rw [if_pos g2] at h
    refine ex_iald (x := (f1 58 (f1 57 1).toNat)) dX3_weigh_115 sh_58 g2.1 g2.2 rfl ?_
    refine ev_aload_n (i := 0) dX3_weigh_116 rfl rfl ?_
    refine ev_getR dX3_weigh_117 fl_X3_15 sh_57 (by decide) (by decide) rf_57_4 ?_
    refine ev_aload_n (i := 0) dX3_weigh_120 rfl rfl ?_
    refine ex_getI (x := (f1 57 1)) dX3_weigh_121 fl_X3_47 sh_57 (by decide) (by decide) rfl ?_
    by_cases g3 : 0 ≤ (f1 57 1) ∧ (f1 57 1) < 7
    · rw [if_pos g3] at h
      refine ex_iald (x := (f1 59 (f1 57 1).toNat)) dX3_weigh_124 sh_59 g3.1 g3.2 rfl ?_
      refine ev_cVV (b := 57) (av := [vI x5, vI y1, vI (f1 58 (f1 57 1).toNat), vI (f1 59 (f1 57 1).toNat)]) (S := []) (fun q => q) h dX3_weigh_125 (fun Q' q => TX3_enter x5 y1 (f1 58 (f1 57 1).toNat) (f1 59 (f1 57 1).toNat) _ q) kvX3_enter ml_X3_71 sh_57 rfl (RRc (by decide) (by decide)) (Nat.le_of_ble_eq_true rfl) ⟨Nat.le_of_ble_eq_true rfl, Nat.le_of_ble_eq_true rfl⟩ (fun f4 h => ?_)
      refine ev_aload_n (i := 0) dX3_weigh_128 rfl rfl ?_
      refine ev_aload_n (i := 2) dX3_weigh_129 rfl rfl ?_
      refine ev_cVI (b := 57) (av := [vR 48]) (S := []) (fun q => q) h dX3_weigh_130 (fun Q' q => TX3_turnPlan_57_48 _ q) kvX3_turnPlan ml_X3_75 sh_57 rfl (RRc (by decide) (by decide)) (Nat.le_of_ble_eq_true rfl) ⟨Nat.le_of_ble_eq_true rfl, Nat.le_of_ble_eq_true rfl⟩ (fun y5 f5 h => ?_)
      refine ev_istore (L' := [some (vR 57), some (vR 4), some (vR 48), some (vI x3), some (vI y5), some (vI x5), none]) dX3_weigh_133 (by decide) rfl ?_
      refine ev_iinc (L' := [some (vR 57), some (vR 4), some (vR 48), some (vI x3), some (vI y5), some (vI (w32 (x5 + 1))), none]) dX3_weigh_135 rfl (by decide) rfl ?_
      refine ev_goto (tgt := 52) dX3_weigh_138 (by decide) ?_
      exact q52 x3 y5 (w32 (x5 + 1)) _ h
    · rw [if_neg g3] at h; exact h.elim
  · rw [if_neg g2] at h; exact h.elim
def FX3_weigh_57_4_48_62 (k52 : Int → Int → Int → Mm → Option Mm) : Nat → Int → Int → Int → Mm → Option Mm
  | 0, _, _, _, _ => none
  | n + 1, x3, x5, x6, f => (if (f 57 1) ≤ x6 then FX3_weigh_57_4_48_99 k52 x3 x5 f else ((FX1_feelDay_48_4 x6 f).bind fun f1 => ((FX1_passDay_48_4 x6 f1).bind fun f2 => ((FX3_note_57_4_48 x6 f2).bind fun f3 => FX3_weigh_57_4_48_62 k52 n x3 x5 (w32 (x6 + 1)) f3))))
set_option maxHeartbeats 4000000 in
set_option maxRecDepth 100000 in
theorem SX3_weigh_57_4_48_62 {G : GT} {l : Launch} {Q : Option AV → Mem → Prop} {k52 : Int → Int → Int → Mm → Option Mm} (q52 : ∀ (x3 : Int) (x4 : Int) (x5 : Int) (f : Mm), OkV Q (k52 x3 x4 x5 f) → Ev G l MX3_weigh (Rm 4 0 0) (ZM G Q 0 0) 0 0 52 [some (vR 57), some (vR 4), some (vR 48), some (vI x3), some (vI x4), some (vI x5), none] [] (SH, RF, f)) : ∀ (n : Nat) (x3 : Int) (x5 : Int) (x6 : Int) (f : Mm), OkV Q (FX3_weigh_57_4_48_62 k52 n x3 x5 x6 f) → Ev G l MX3_weigh (Rm 4 0 0) (ZM G Q 0 0) 0 0 62 [some (vR 57), some (vR 4), some (vR 48), some (vI x3), none, some (vI x5), some (vI x6)] [] (SH, RF, f) := by
  intro n
  induction n with
  | zero => intro x3 x5 x6 f h; exact absurd h (by rw [FX3_weigh_57_4_48_62]; exact fun q => q)
  | succ n ih =>
    intro x3 x5 x6 f h
    rw [FX3_weigh_57_4_48_62] at h
    refine ev_iload dX3_weigh_62 rfl ?_
    refine ev_aload_n (i := 0) dX3_weigh_64 rfl rfl ?_
    refine ex_getI (x := (f 57 1)) dX3_weigh_65 fl_X3_47 sh_57 (by decide) (by decide) rfl ?_
    refine ev_icmp_ge (tgt := 99) dX3_weigh_68 (by decide) (fun c4 => ?_) (fun c4 => ?_)
    · rw [if_pos c4] at h
      refine ev_fg [true, true, true, true, true, true, false] rfl ?_
      exact SX3_weigh_57_4_48_99 q52 x3 x5 _ h
    · rw [if_neg c4] at h
      refine ev_aload_n (i := 2) dX3_weigh_71 rfl rfl ?_
      refine ev_aload_n (i := 1) dX3_weigh_72 rfl rfl ?_
      refine ev_iload dX3_weigh_73 rfl ?_
      refine ev_cVV (b := 48) (av := [vR 4, vI x6]) (S := []) (fun q => q) h dX3_weigh_75 (fun Q' q => TX1_feelDay_48_4 x6 _ q) kvX1_feelDay ml_X3_54 sh_48 rfl (RRc (by decide) (by decide)) (Nat.le_of_ble_eq_true rfl) ⟨Nat.le_of_ble_eq_true rfl, Nat.le_of_ble_eq_true rfl⟩ (fun f1 h => ?_)
      refine ev_aload_n (i := 2) dX3_weigh_78 rfl rfl ?_
      refine ev_aload_n (i := 1) dX3_weigh_79 rfl rfl ?_
      refine ev_iload dX3_weigh_80 rfl ?_
      refine ev_cVV (b := 48) (av := [vR 4, vI x6]) (S := []) (fun q => q) h dX3_weigh_82 (fun Q' q => TX1_passDay_48_4 x6 _ q) kvX1_passDay ml_X3_60 sh_48 rfl (RRc (by decide) (by decide)) (Nat.le_of_ble_eq_true rfl) ⟨Nat.le_of_ble_eq_true rfl, Nat.le_of_ble_eq_true rfl⟩ (fun f2 h => ?_)
      refine ev_aload_n (i := 0) dX3_weigh_85 rfl rfl ?_
      refine ev_aload_n (i := 1) dX3_weigh_86 rfl rfl ?_
      refine ev_aload_n (i := 2) dX3_weigh_87 rfl rfl ?_
      refine ev_iload dX3_weigh_88 rfl ?_
      refine ev_cVV (b := 57) (av := [vR 4, vR 48, vI x6]) (S := []) (fun q => q) h dX3_weigh_90 (fun Q' q => TX3_note_57_4_48 x6 _ q) kvX3_note ml_X3_63 sh_57 rfl (RRc (by decide) (by decide)) (Nat.le_of_ble_eq_true rfl) ⟨Nat.le_of_ble_eq_true rfl, Nat.le_of_ble_eq_true rfl⟩ (fun f3 h => ?_)
      refine ev_iinc (L' := [some (vR 57), some (vR 4), some (vR 48), some (vI x3), none, some (vI x5), some (vI (w32 (x6 + 1)))]) dX3_weigh_93 rfl (by decide) rfl ?_
      refine ev_goto (tgt := 62) dX3_weigh_96 (by decide) ?_
      exact ih x3 x5 (w32 (x6 + 1)) _ h
def FX3_weigh_57_4_48_52  : Nat → Int → Int → Int → Mm → Option Mm
  | 0, _, _, _, _ => none
  | n + 1, x3, x4, x5, f => (if x3 ≤ x5 then some f else FX3_weigh_57_4_48_62 (FX3_weigh_57_4_48_52 n) fu x3 x5 x4 f)
set_option maxHeartbeats 4000000 in
set_option maxRecDepth 100000 in
theorem SX3_weigh_57_4_48_52 {G : GT} {l : Launch} {Q : Option AV → Mem → Prop}  : ∀ (n : Nat) (x3 : Int) (x4 : Int) (x5 : Int) (f : Mm), OkV Q (FX3_weigh_57_4_48_52  n x3 x4 x5 f) → Ev G l MX3_weigh (Rm 4 0 0) (ZM G Q 0 0) 0 0 52 [some (vR 57), some (vR 4), some (vR 48), some (vI x3), some (vI x4), some (vI x5), none] [] (SH, RF, f) := by
  intro n
  induction n with
  | zero => intro x3 x4 x5 f h; exact absurd h (by rw [FX3_weigh_57_4_48_52]; exact fun q => q)
  | succ n ih =>
    intro x3 x4 x5 f h
    rw [FX3_weigh_57_4_48_52] at h
    refine ev_iload dX3_weigh_52 rfl ?_
    refine ev_iload_n (i := 3) dX3_weigh_54 rfl rfl ?_
    refine ev_icmp_ge (tgt := 141) dX3_weigh_55 (by decide) (fun c1 => ?_) (fun c1 => ?_)
    · rw [if_pos c1] at h
      exact ev_vret rfl dX3_weigh_141 h
    · rw [if_neg c1] at h
      refine ev_iload dX3_weigh_58 rfl ?_
      refine ev_istore (L' := [some (vR 57), some (vR 4), some (vR 48), some (vI x3), some (vI x4), some (vI x5), some (vI x4)]) dX3_weigh_60 (by decide) rfl ?_
      refine ev_fg [true, true, true, true, false, true, true] rfl ?_
      exact SX3_weigh_57_4_48_62 ih fu x3 x5 x4 _ h
def FX3_weigh_57_4_48_46  (x3 : Int) (f : Mm) : Option Mm := FX3_weigh_57_4_48_52 fu x3 0 0 f
set_option maxHeartbeats 4000000 in
set_option maxRecDepth 100000 in
theorem SX3_weigh_57_4_48_46 {G : GT} {l : Launch} {Q : Option AV → Mem → Prop}  (x3 : Int) (f : Mm) (h : OkV Q (FX3_weigh_57_4_48_46  x3 f)) : Ev G l MX3_weigh (Rm 4 0 0) (ZM G Q 0 0) 0 0 46 [some (vR 57), some (vR 4), some (vR 48), some (vI x3), none, none, none] [] (SH, RF, f) := by
  unfold FX3_weigh_57_4_48_46 at h
  refine ev_iconst dX3_weigh_46 (r32c rfl) ?_
  refine ev_istore (L' := [some (vR 57), some (vR 4), some (vR 48), some (vI x3), some (vI 0), none, none]) dX3_weigh_47 (by decide) rfl ?_
  refine ev_iconst dX3_weigh_49 (r32c rfl) ?_
  refine ev_istore (L' := [some (vR 57), some (vR 4), some (vR 48), some (vI x3), some (vI 0), some (vI 0), none]) dX3_weigh_50 (by decide) rfl ?_
  exact SX3_weigh_57_4_48_52  fu x3 0 0 _ h
def FX3_weigh_57_4_48_24  : Nat → Int → Int → Mm → Option Mm
  | 0, _, _, _ => none
  | n + 1, x3, x4, f => (if (f 57 1) ≤ x4 then FX3_weigh_57_4_48_46 x3 f else FX3_weigh_57_4_48_24 n (w32 (x3 * (f 57 2))) (w32 (x4 + 1)) f)
set_option maxHeartbeats 4000000 in
set_option maxRecDepth 100000 in
theorem SX3_weigh_57_4_48_24 {G : GT} {l : Launch} {Q : Option AV → Mem → Prop}  : ∀ (n : Nat) (x3 : Int) (x4 : Int) (f : Mm), OkV Q (FX3_weigh_57_4_48_24  n x3 x4 f) → Ev G l MX3_weigh (Rm 4 0 0) (ZM G Q 0 0) 0 0 24 [some (vR 57), some (vR 4), some (vR 48), some (vI x3), some (vI x4), none, none] [] (SH, RF, f) := by
  intro n
  induction n with
  | zero => intro x3 x4 f h; exact absurd h (by rw [FX3_weigh_57_4_48_24]; exact fun q => q)
  | succ n ih =>
    intro x3 x4 f h
    rw [FX3_weigh_57_4_48_24] at h
    refine ev_iload dX3_weigh_24 rfl ?_
    refine ev_aload_n (i := 0) dX3_weigh_26 rfl rfl ?_
    refine ex_getI (x := (f 57 1)) dX3_weigh_27 fl_X3_47 sh_57 (by decide) (by decide) rfl ?_
    refine ev_icmp_ge (tgt := 46) dX3_weigh_30 (by decide) (fun c1 => ?_) (fun c1 => ?_)
    · rw [if_pos c1] at h
      refine ev_fg [true, true, true, true, false, true, true] rfl ?_
      exact SX3_weigh_57_4_48_46  x3 _ h
    · rw [if_neg c1] at h
      refine ev_iload_n (i := 3) dX3_weigh_33 rfl rfl ?_
      refine ev_aload_n (i := 0) dX3_weigh_34 rfl rfl ?_
      refine ex_getI (x := (f 57 2)) dX3_weigh_35 fl_X3_51 sh_57 (by decide) (by decide) rfl ?_
      refine ev_imul dX3_weigh_38 ?_
      refine ev_istore_n (i := 3) (L' := [some (vR 57), some (vR 4), some (vR 48), some (vI (w32 (x3 * (f 57 2)))), some (vI x4), none, none]) dX3_weigh_39 rfl (by decide) rfl ?_
      refine ev_iinc (L' := [some (vR 57), some (vR 4), some (vR 48), some (vI (w32 (x3 * (f 57 2)))), some (vI (w32 (x4 + 1))), none, none]) dX3_weigh_40 rfl (by decide) rfl ?_
      refine ev_goto (tgt := 24) dX3_weigh_43 (by decide) ?_
      exact ih (w32 (x3 * (f 57 2))) (w32 (x4 + 1)) _ h
def FX3_weigh_57_4_48_0   (f : Mm) : Option Mm := (if (f 57 0) = 0 then ((FX3_begin_57_4_48 (up f 57 0 1)).bind fun f1 => FX3_weigh_57_4_48_24 fu 1 0 f1) else some f)
set_option maxHeartbeats 4000000 in
set_option maxRecDepth 100000 in
theorem SX3_weigh_57_4_48_0 {G : GT} {l : Launch} {Q : Option AV → Mem → Prop}   (f : Mm) (h : OkV Q (FX3_weigh_57_4_48_0   f)) : Ev G l MX3_weigh (Rm 4 0 0) (ZM G Q 0 0) 0 0 0 [some (vR 57), some (vR 4), some (vR 48), none, none, none, none] [] (SH, RF, f) := by
  unfold FX3_weigh_57_4_48_0 at h
  refine ev_aload_n (i := 0) dX3_weigh_0 rfl rfl ?_
  refine ex_getZ (x := (f 57 0)) dX3_weigh_1 fl_X3_39 sh_57 (by decide) (by decide) rfl ?_
  refine ev_if_eq (tgt := 8) dX3_weigh_4 (by decide) (fun c2 => ?_) (fun c2 => ?_)
  · rw [if_pos c2] at h
    refine ev_aload_n (i := 0) dX3_weigh_8 rfl rfl ?_
    refine ev_iconst dX3_weigh_9 (r32c rfl) ?_
    refine ev_putZ dX3_weigh_10 fl_X3_39 sh_57 (by decide) (by decide) (by decide) ?_
    refine ev_aload_n (i := 0) dX3_weigh_13 rfl rfl ?_
    refine ev_aload_n (i := 1) dX3_weigh_14 rfl rfl ?_
    refine ev_aload_n (i := 2) dX3_weigh_15 rfl rfl ?_
    refine ev_cVV (b := 57) (av := [vR 4, vR 48]) (S := []) (fun q => q) h dX3_weigh_16 (fun Q' q => TX3_begin_57_4_48 _ q) kvX3_begin ml_X3_43 sh_57 rfl (RRc (by decide) (by decide)) (Nat.le_of_ble_eq_true rfl) ⟨Nat.le_of_ble_eq_true rfl, Nat.le_of_ble_eq_true rfl⟩ (fun f1 h => ?_)
    refine ev_iconst dX3_weigh_19 (r32c rfl) ?_
    refine ev_istore_n (i := 3) (L' := [some (vR 57), some (vR 4), some (vR 48), some (vI 1), none, none, none]) dX3_weigh_20 rfl (by decide) rfl ?_
    refine ev_iconst dX3_weigh_21 (r32c rfl) ?_
    refine ev_istore (L' := [some (vR 57), some (vR 4), some (vR 48), some (vI 1), some (vI 0), none, none]) dX3_weigh_22 (by decide) rfl ?_
    exact SX3_weigh_57_4_48_24  fu 1 0 _ h
  · rw [if_neg c2] at h
    exact ev_vret rfl dX3_weigh_7 h
def FX3_weigh_57_4_48  (f : Mm) : Option Mm := FX3_weigh_57_4_48_0  f
set_option maxRecDepth 100000 in
theorem TX3_weigh_57_4_48 {G : GT} {l : Launch} {Q : Option AV → Mem → Prop}  (f : Mm) (h : OkV Q (FX3_weigh_57_4_48  f)) : Ret G l MX3_weigh (4) 0 0 [vR 57, vR 4, vR 48] (SH, RF, f) Q := by
  refine ret_of (L := [some (vR 57), some (vR 4), some (vR 48), none, none, none, none]) (by decide) rfl (Nat.le_of_ble_eq_true rfl) ?_
  exact SX3_weigh_57_4_48_0  f h
theorem dX10_weighed_0 : decode cX10_weighed 0 = .ok (.aload_n 0, 1) := by decide +kernel
theorem dX10_weighed_1 : decode cX10_weighed 1 = .ok (.getfield 51, 3) := by decide +kernel
theorem dX10_weighed_4 : decode cX10_weighed 4 = .ok (.aload_n 0, 1) := by decide +kernel
theorem dX10_weighed_5 : decode cX10_weighed 5 = .ok (.getfield 19, 3) := by decide +kernel
theorem dX10_weighed_8 : decode cX10_weighed 8 = .ok (.aload_n 0, 1) := by decide +kernel
theorem dX10_weighed_9 : decode cX10_weighed 9 = .ok (.getfield 44, 3) := by decide +kernel
theorem dX10_weighed_12 : decode cX10_weighed 12 = .ok (.invokevirtual 423, 3) := by decide +kernel
theorem dX10_weighed_15 : decode cX10_weighed 15 = .ok (.aload_n 0, 1) := by decide +kernel
theorem dX10_weighed_16 : decode cX10_weighed 16 = .ok (.getfield 51, 3) := by decide +kernel
theorem dX10_weighed_19 : decode cX10_weighed 19 = .ok (.areturn, 1) := by decide +kernel
def FX10_weighed_0   (f : Mm) : Option Mm := ((FX3_weigh_57_4_48 f).bind fun f1 => some f1)
set_option maxHeartbeats 4000000 in
set_option maxRecDepth 100000 in
theorem SX10_weighed_0 {G : GT} {l : Launch} {Q : Option AV → Mem → Prop}   (f : Mm) (h : OkC 57 Q (FX10_weighed_0   f)) : Ev G l MX10_weighed (Rm 5 0 0) (ZM G Q 0 0) 0 0 0 [some (vR 0)] [] (SH, RF, f) := by
  unfold FX10_weighed_0 at h
  refine ev_aload_n (i := 0) dX10_weighed_0 rfl rfl ?_
  refine ev_getR dX10_weighed_1 fl_X10_51 sh_0 (by decide) (by decide) rf_0_7 ?_
  refine ev_aload_n (i := 0) dX10_weighed_4 rfl rfl ?_
  refine ev_getR dX10_weighed_5 fl_X10_19 sh_0 (by decide) (by decide) rf_0_1 ?_
  refine ev_aload_n (i := 0) dX10_weighed_8 rfl rfl ?_
  refine ev_getR dX10_weighed_9 fl_X10_44 sh_0 (by decide) (by decide) rf_0_6 ?_
  refine ev_cVV (b := 57) (av := [vR 4, vR 48]) (S := []) (fun q => q) h dX10_weighed_12 (fun Q' q => TX3_weigh_57_4_48 _ q) kvX3_weigh ml_X10_423 sh_57 rfl (RRc (by decide) (by decide)) (Nat.le_of_ble_eq_true rfl) ⟨Nat.le_of_ble_eq_true rfl, Nat.le_of_ble_eq_true rfl⟩ (fun f1 h => ?_)
  refine ev_aload_n (i := 0) dX10_weighed_15 rfl rfl ?_
  refine ev_getR dX10_weighed_16 fl_X10_51 sh_0 (by decide) (by decide) rf_0_7 ?_
  exact ev_aret rfl dX10_weighed_19 h
def FX10_weighed  (f : Mm) : Option Mm := FX10_weighed_0  f
set_option maxRecDepth 100000 in
theorem TX10_weighed {G : GT} {l : Launch} {Q : Option AV → Mem → Prop}  (f : Mm) (h : OkC 57 Q (FX10_weighed  f)) : Ret G l MX10_weighed (5) 0 0 [vR 0] (SH, RF, f) Q := by
  refine ret_of (L := [some (vR 0)]) (by decide) rfl (Nat.le_of_ble_eq_true rfl) ?_
  exact SX10_weighed_0  f h
theorem dX3_bestGain_64 : decode cX3_bestGain 64 = .ok (.iinc 4 1, 3) := by decide +kernel
theorem dX3_bestGain_67 : decode cX3_bestGain 67 = .ok (.goto (-61), 3) := by decide +kernel
theorem dX3_bestGain_43 : decode cX3_bestGain 43 = .ok (.istore 5, 2) := by decide +kernel
theorem dX3_bestGain_45 : decode cX3_bestGain 45 = .ok (.iload_n 3, 1) := by decide +kernel
theorem dX3_bestGain_46 : decode cX3_bestGain 46 = .ok (.aload_n 1, 1) := by decide +kernel
theorem dX3_bestGain_47 : decode cX3_bestGain 47 = .ok (.iload 5, 2) := by decide +kernel
theorem dX3_bestGain_49 : decode cX3_bestGain 49 = .ok (.invokevirtual 123, 3) := by decide +kernel
theorem dX3_bestGain_52 : decode cX3_bestGain 52 = .ok (.aload_n 0, 1) := by decide +kernel
theorem dX3_bestGain_53 : decode cX3_bestGain 53 = .ok (.getfield 21, 3) := by decide +kernel
theorem dX3_bestGain_56 : decode cX3_bestGain 56 = .ok (.iload 4, 2) := by decide +kernel
theorem dX3_bestGain_58 : decode cX3_bestGain 58 = .ok (.iaload, 1) := by decide +kernel
theorem dX3_bestGain_59 : decode cX3_bestGain 59 = .ok (.isub, 1) := by decide +kernel
theorem dX3_bestGain_60 : decode cX3_bestGain 60 = .ok (.invokestatic 105, 3) := by decide +kernel
theorem dX3_bestGain_63 : decode cX3_bestGain 63 = .ok (.istore_n 3, 1) := by decide +kernel
theorem dX3_bestGain_6 : decode cX3_bestGain 6 = .ok (.iload 4, 2) := by decide +kernel
theorem dX3_bestGain_8 : decode cX3_bestGain 8 = .ok (.aload_n 1, 1) := by decide +kernel
theorem dX3_bestGain_9 : decode cX3_bestGain 9 = .ok (.invokevirtual 119, 3) := by decide +kernel
theorem dX3_bestGain_12 : decode cX3_bestGain 12 = .ok (.if_icmp .gt 58, 3) := by decide +kernel
theorem dX3_bestGain_70 : decode cX3_bestGain 70 = .ok (.iload_n 3, 1) := by decide +kernel
theorem dX3_bestGain_71 : decode cX3_bestGain 71 = .ok (.ireturn, 1) := by decide +kernel
theorem dX3_bestGain_15 : decode cX3_bestGain 15 = .ok (.aload_n 0, 1) := by decide +kernel
theorem dX3_bestGain_16 : decode cX3_bestGain 16 = .ok (.getfield 18, 3) := by decide +kernel
theorem dX3_bestGain_19 : decode cX3_bestGain 19 = .ok (.iload 4, 2) := by decide +kernel
theorem dX3_bestGain_21 : decode cX3_bestGain 21 = .ok (.iaload, 1) := by decide +kernel
theorem dX3_bestGain_22 : decode cX3_bestGain 22 = .ok (.ifCond .le 42, 3) := by decide +kernel
theorem dX3_bestGain_25 : decode cX3_bestGain 25 = .ok (.iload_n 2, 1) := by decide +kernel
theorem dX3_bestGain_26 : decode cX3_bestGain 26 = .ok (.iconst (-1), 1) := by decide +kernel
theorem dX3_bestGain_27 : decode cX3_bestGain 27 = .ok (.if_icmp .ne 8, 3) := by decide +kernel
theorem dX3_bestGain_35 : decode cX3_bestGain 35 = .ok (.iload 4, 2) := by decide +kernel
theorem dX3_bestGain_37 : decode cX3_bestGain 37 = .ok (.iconst 1, 1) := by decide +kernel
theorem dX3_bestGain_38 : decode cX3_bestGain 38 = .ok (.iload_n 2, 1) := by decide +kernel
theorem dX3_bestGain_39 : decode cX3_bestGain 39 = .ok (.ishl, 1) := by decide +kernel
theorem dX3_bestGain_40 : decode cX3_bestGain 40 = .ok (.iconst (-1), 1) := by decide +kernel
theorem dX3_bestGain_41 : decode cX3_bestGain 41 = .ok (.ixor, 1) := by decide +kernel
theorem dX3_bestGain_42 : decode cX3_bestGain 42 = .ok (.iand, 1) := by decide +kernel
theorem dX3_bestGain_30 : decode cX3_bestGain 30 = .ok (.iload 4, 2) := by decide +kernel
theorem dX3_bestGain_32 : decode cX3_bestGain 32 = .ok (.goto 11, 3) := by decide +kernel
theorem dX3_bestGain_0 : decode cX3_bestGain 0 = .ok (.ldc 118, 2) := by decide +kernel
theorem dX3_bestGain_2 : decode cX3_bestGain 2 = .ok (.istore_n 3, 1) := by decide +kernel
theorem dX3_bestGain_3 : decode cX3_bestGain 3 = .ok (.iconst 0, 1) := by decide +kernel
theorem dX3_bestGain_4 : decode cX3_bestGain 4 = .ok (.istore 4, 2) := by decide +kernel
def FX3_bestGain_57_4_64 (k6 : Int → Int → Int → Mm → Option (Int × Mm)) (x2 : Int) (x3 : Int) (x4 : Int) (f : Mm) : Option (Int × Mm) := k6 x2 x3 (w32 (x4 + 1)) f
set_option maxHeartbeats 4000000 in
set_option maxRecDepth 100000 in
theorem SX3_bestGain_57_4_64 {G : GT} {l : Launch} {Q : Option AV → Mem → Prop} {k6 : Int → Int → Int → Mm → Option (Int × Mm)} (q6 : ∀ (x2 : Int) (x3 : Int) (x4 : Int) (f : Mm), OkI Q (k6 x2 x3 x4 f) → Ev G l MX3_bestGain (Rm 4 0 0) (ZM G Q 0 0) 0 0 6 [some (vR 57), some (vR 4), some (vI x2), some (vI x3), some (vI x4), none] [] (SH, RF, f)) (x2 : Int) (x3 : Int) (x4 : Int) (f : Mm) (h : OkI Q (FX3_bestGain_57_4_64 k6 x2 x3 x4 f)) : Ev G l MX3_bestGain (Rm 4 0 0) (ZM G Q 0 0) 0 0 64 [some (vR 57), some (vR 4), some (vI x2), some (vI x3), some (vI x4), none] [] (SH, RF, f) := by
  unfold FX3_bestGain_57_4_64 at h
  refine ev_iinc (L' := [some (vR 57), some (vR 4), some (vI x2), some (vI x3), some (vI (w32 (x4 + 1))), none]) dX3_bestGain_64 rfl (by decide) rfl ?_
  refine ev_goto (tgt := 6) dX3_bestGain_67 (by decide) ?_
  exact q6 x2 x3 (w32 (x4 + 1)) _ h
def FX3_bestGain_57_4_43 (k6 : Int → Int → Int → Mm → Option (Int × Mm)) (x2 : Int) (x3 : Int) (x4 : Int) (s0 : Int) (f : Mm) : Option (Int × Mm) := (b2 (FX0_payOf_4 s0 f) fun y1 f1 => (if 0 ≤ x4 ∧ x4 < 64 then FX3_bestGain_57_4_64 k6 x2 (jMax x3 (w32 (y1 - (f1 61 x4.toNat)))) x4 f1 else none))
set_option maxHeartbeats 4000000 in
set_option maxRecDepth 100000 in
theorem SX3_bestGain_57_4_43 {G : GT} {l : Launch} {Q : Option AV → Mem → Prop} {k6 : Int → Int → Int → Mm → Option (Int × Mm)} (q6 : ∀ (x2 : Int) (x3 : Int) (x4 : Int) (f : Mm), OkI Q (k6 x2 x3 x4 f) → Ev G l MX3_bestGain (Rm 4 0 0) (ZM G Q 0 0) 0 0 6 [some (vR 57), some (vR 4), some (vI x2), some (vI x3), some (vI x4), none] [] (SH, RF, f)) (x2 : Int) (x3 : Int) (x4 : Int) (s0 : Int) (f : Mm) (h : OkI Q (FX3_bestGain_57_4_43 k6 x2 x3 x4 s0 f)) : Ev G l MX3_bestGain (Rm 4 0 0) (ZM G Q 0 0) 0 0 43 [some (vR 57), some (vR 4), some (vI x2), some (vI x3), some (vI x4), none] [vI s0] (SH, RF, f) := by
  unfold FX3_bestGain_57_4_43 at h
  refine ev_istore (L' := [some (vR 57), some (vR 4), some (vI x2), some (vI x3), some (vI x4), some (vI s0)]) dX3_bestGain_43 (by decide) rfl ?_
  refine ev_iload_n (i := 3) dX3_bestGain_45 rfl rfl ?_
  refine ev_aload_n (i := 1) dX3_bestGain_46 rfl rfl ?_
  refine ev_iload dX3_bestGain_47 rfl ?_
  refine ev_cVI (b := 4) (av := [vI s0]) (S := [vI x3]) (fun q => q) h dX3_bestGain_49 (fun Q' q => TX0_payOf_4 s0 _ q) kvX0_payOf ml_X3_123 sh_4 rfl (RRc (by decide) (by decide)) (Nat.le_of_ble_eq_true rfl) ⟨Nat.le_of_ble_eq_true rfl, Nat.le_of_ble_eq_true rfl⟩ (fun y1 f1 h => ?_)
  refine ev_aload_n (i := 0) dX3_bestGain_52 rfl rfl ?_
  refine ev_getR dX3_bestGain_53 fl_X3_21 sh_57 (by decide) (by decide) rf_57_6 ?_
  refine ev_iload dX3_bestGain_56 rfl ?_
  by_cases g2 : 0 ≤ x4 ∧ x4 < 64
  · rw [if_pos g2] at h
    refine ex_iald (x := (f1 61 x4.toNat)) dX3_bestGain_58 sh_61 g2.1 g2.2 rfl ?_
    refine ev_isub dX3_bestGain_59 ?_
    refine ev_mmax dX3_bestGain_60 mlm_X3_105 (Nat.le_of_ble_eq_true rfl) (Nat.le_of_ble_eq_true rfl) (Nat.le_of_ble_eq_true rfl) (Nat.le_of_ble_eq_true rfl) ?_
    refine ev_istore_n (i := 3) (L' := [some (vR 57), some (vR 4), some (vI x2), some (vI (jMax x3 (w32 (y1 - (f1 61 x4.toNat))))), some (vI x4), some (vI s0)]) dX3_bestGain_63 rfl (by decide) rfl ?_
    refine ev_fg [true, true, true, true, true, false] rfl ?_
    exact SX3_bestGain_57_4_64 q6 x2 (jMax x3 (w32 (y1 - (f1 61 x4.toNat)))) x4 _ h
  · rw [if_neg g2] at h; exact h.elim
def FX3_bestGain_57_4_6  : Nat → Int → Int → Int → Mm → Option (Int × Mm)
  | 0, _, _, _, _ => none
  | n + 1, x2, x3, x4, f => (b2 (FX0_allCarts_4 f) fun y1 f1 => (if y1 < x4 then some (x3, f1) else (if 0 ≤ x4 ∧ x4 < 64 then (if (f1 60 x4.toNat) ≤ 0 then FX3_bestGain_57_4_64 (FX3_bestGain_57_4_6 n) x2 x3 x4 f1 else (if x2 = (-1) then FX3_bestGain_57_4_43 (FX3_bestGain_57_4_6 n) x2 x3 x4 x4 f1 else FX3_bestGain_57_4_43 (FX3_bestGain_57_4_6 n) x2 x3 x4 (bAnd x4 (bXor (bShl 1 x2) (-1))) f1)) else none)))
set_option maxHeartbeats 4000000 in
set_option maxRecDepth 100000 in
theorem SX3_bestGain_57_4_6 {G : GT} {l : Launch} {Q : Option AV → Mem → Prop}  : ∀ (n : Nat) (x2 : Int) (x3 : Int) (x4 : Int) (f : Mm), OkI Q (FX3_bestGain_57_4_6  n x2 x3 x4 f) → Ev G l MX3_bestGain (Rm 4 0 0) (ZM G Q 0 0) 0 0 6 [some (vR 57), some (vR 4), some (vI x2), some (vI x3), some (vI x4), none] [] (SH, RF, f) := by
  intro n
  induction n with
  | zero => intro x2 x3 x4 f h; exact absurd h (by rw [FX3_bestGain_57_4_6]; exact fun q => q)
  | succ n ih =>
    intro x2 x3 x4 f h
    rw [FX3_bestGain_57_4_6] at h
    refine ev_iload dX3_bestGain_6 rfl ?_
    refine ev_aload_n (i := 1) dX3_bestGain_8 rfl rfl ?_
    refine ev_cVI (b := 4) (av := []) (S := [vI x4]) (fun q => q) h dX3_bestGain_9 (fun Q' q => TX0_allCarts_4 _ q) kvX0_allCarts ml_X3_119 sh_4 rfl (RRc (by decide) (by decide)) (Nat.le_of_ble_eq_true rfl) ⟨Nat.le_of_ble_eq_true rfl, Nat.le_of_ble_eq_true rfl⟩ (fun y1 f1 h => ?_)
    refine ev_icmp_gt (tgt := 70) dX3_bestGain_12 (by decide) (fun c5 => ?_) (fun c5 => ?_)
    · rw [if_pos c5] at h
      refine ev_iload_n (i := 3) dX3_bestGain_70 rfl rfl ?_
      exact ev_iret rfl dX3_bestGain_71 h
    · rw [if_neg c5] at h
      refine ev_aload_n (i := 0) dX3_bestGain_15 rfl rfl ?_
      refine ev_getR dX3_bestGain_16 fl_X3_18 sh_57 (by decide) (by decide) rf_57_5 ?_
      refine ev_iload dX3_bestGain_19 rfl ?_
      by_cases g2 : 0 ≤ x4 ∧ x4 < 64
      · rw [if_pos g2] at h
        refine ex_iald (x := (f1 60 x4.toNat)) dX3_bestGain_21 sh_60 g2.1 g2.2 rfl ?_
        refine ev_if_le (tgt := 64) dX3_bestGain_22 (by decide) (fun c4 => ?_) (fun c4 => ?_)
        · rw [if_pos c4] at h
          exact SX3_bestGain_57_4_64 ih x2 x3 x4 _ h
        · rw [if_neg c4] at h
          refine ev_iload_n (i := 2) dX3_bestGain_25 rfl rfl ?_
          refine ev_iconst dX3_bestGain_26 (r32c rfl) ?_
          refine ev_icmp_ne (tgt := 35) dX3_bestGain_27 (by decide) (fun c3 => ?_) (fun c3 => ?_)
          · rw [if_neg c3] at h
            refine ev_iload dX3_bestGain_35 rfl ?_
            refine ev_iconst dX3_bestGain_37 (r32c rfl) ?_
            refine ev_iload_n (i := 2) dX3_bestGain_38 rfl rfl ?_
            refine ev_ishl dX3_bestGain_39 ?_
            refine ev_iconst dX3_bestGain_40 (r32c rfl) ?_
            refine ev_ixor dX3_bestGain_41 ?_
            refine ev_iand dX3_bestGain_42 ?_
            exact SX3_bestGain_57_4_43 ih x2 x3 x4 (bAnd x4 (bXor (bShl 1 x2) (-1))) _ h
          · rw [if_pos c3] at h
            refine ev_iload dX3_bestGain_30 rfl ?_
            refine ev_goto (tgt := 43) dX3_bestGain_32 (by decide) ?_
            exact SX3_bestGain_57_4_43 ih x2 x3 x4 x4 _ h
      · rw [if_neg g2] at h; exact h.elim
def FX3_bestGain_57_4_0  (x2 : Int) (f : Mm) : Option (Int × Mm) := FX3_bestGain_57_4_6 fu x2 (-1000000) 0 f
set_option maxHeartbeats 4000000 in
set_option maxRecDepth 100000 in
theorem SX3_bestGain_57_4_0 {G : GT} {l : Launch} {Q : Option AV → Mem → Prop}  (x2 : Int) (f : Mm) (h : OkI Q (FX3_bestGain_57_4_0  x2 f)) : Ev G l MX3_bestGain (Rm 4 0 0) (ZM G Q 0 0) 0 0 0 [some (vR 57), some (vR 4), some (vI x2), none, none, none] [] (SH, RF, f) := by
  unfold FX3_bestGain_57_4_0 at h
  refine ev_ldc (v := (-1000000)) dX3_bestGain_0 (r32c rfl) kc_X3_118 ?_
  refine ev_istore_n (i := 3) (L' := [some (vR 57), some (vR 4), some (vI x2), some (vI (-1000000)), none, none]) dX3_bestGain_2 rfl (by decide) rfl ?_
  refine ev_iconst dX3_bestGain_3 (r32c rfl) ?_
  refine ev_istore (L' := [some (vR 57), some (vR 4), some (vI x2), some (vI (-1000000)), some (vI 0), none]) dX3_bestGain_4 (by decide) rfl ?_
  exact SX3_bestGain_57_4_6  fu x2 (-1000000) 0 _ h
def FX3_bestGain_57_4 (x2 : Int) (f : Mm) : Option (Int × Mm) := FX3_bestGain_57_4_0 x2 f
set_option maxRecDepth 100000 in
theorem TX3_bestGain_57_4 {G : GT} {l : Launch} {Q : Option AV → Mem → Prop} (x2 : Int) (f : Mm) (h : OkI Q (FX3_bestGain_57_4 x2 f)) : Ret G l MX3_bestGain (4) 0 0 [vR 57, vR 4, vI x2] (SH, RF, f) Q := by
  refine ret_of (L := [some (vR 57), some (vR 4), some (vI x2), none, none, none]) (by decide) rfl (Nat.le_of_ble_eq_true rfl) ?_
  exact SX3_bestGain_57_4_0 x2 f h
theorem dX10_best_0 : decode cX10_best 0 = .ok (.aload_n 0, 1) := by decide +kernel
theorem dX10_best_1 : decode cX10_best 1 = .ok (.getfield 19, 3) := by decide +kernel
theorem dX10_best_4 : decode cX10_best 4 = .ok (.invokevirtual 140, 3) := by decide +kernel
theorem dX10_best_7 : decode cX10_best 7 = .ok (.ifCond .eq 18, 3) := by decide +kernel
theorem dX10_best_25 : decode cX10_best 25 = .ok (.ldc 196, 2) := by decide +kernel
theorem dX10_best_27 : decode cX10_best 27 = .ok (.ireturn, 1) := by decide +kernel
theorem dX10_best_10 : decode cX10_best 10 = .ok (.aload_n 0, 1) := by decide +kernel
theorem dX10_best_11 : decode cX10_best 11 = .ok (.invokevirtual 189, 3) := by decide +kernel
theorem dX10_best_14 : decode cX10_best 14 = .ok (.aload_n 0, 1) := by decide +kernel
theorem dX10_best_15 : decode cX10_best 15 = .ok (.getfield 19, 3) := by decide +kernel
theorem dX10_best_18 : decode cX10_best 18 = .ok (.iconst (-1), 1) := by decide +kernel
theorem dX10_best_19 : decode cX10_best 19 = .ok (.invokevirtual 193, 3) := by decide +kernel
theorem dX10_best_22 : decode cX10_best 22 = .ok (.goto 5, 3) := by decide +kernel
def FX10_best_0   (f : Mm) : Option (Int × Mm) := (b2 (FX0_stands_4 f) fun y1 f1 => (if y1 = 0 then some ((-1000000), f1) else ((FX10_weighed f1).bind fun f2 => (b2 (FX3_bestGain_57_4 (-1) f2) fun y3 f3 => some (y3, f3)))))
set_option maxHeartbeats 4000000 in
set_option maxRecDepth 100000 in
theorem SX10_best_0 {G : GT} {l : Launch} {Q : Option AV → Mem → Prop}   (f : Mm) (h : OkI Q (FX10_best_0   f)) : Ev G l MX10_best (Rm 6 0 0) (ZM G Q 0 0) 0 0 0 [some (vR 0)] [] (SH, RF, f) := by
  unfold FX10_best_0 at h
  refine ev_aload_n (i := 0) dX10_best_0 rfl rfl ?_
  refine ev_getR dX10_best_1 fl_X10_19 sh_0 (by decide) (by decide) rf_0_1 ?_
  refine ev_cVI (b := 4) (av := []) (S := []) (fun q => q) h dX10_best_4 (fun Q' q => TX0_stands_4 _ q) kvX0_stands ml_X10_140 sh_4 rfl (RRc (by decide) (by decide)) (Nat.le_of_ble_eq_true rfl) ⟨Nat.le_of_ble_eq_true rfl, Nat.le_of_ble_eq_true rfl⟩ (fun y1 f1 h => ?_)
  refine ev_if_eq (tgt := 25) dX10_best_7 (by decide) (fun c4 => ?_) (fun c4 => ?_)
  · rw [if_pos c4] at h
    refine ev_ldc (v := (-1000000)) dX10_best_25 (r32c rfl) kc_X10_196 ?_
    exact ev_iret rfl dX10_best_27 h
  · rw [if_neg c4] at h
    refine ev_aload_n (i := 0) dX10_best_10 rfl rfl ?_
    refine ev_cVC (b := 0) (av := []) (S := []) (fun q => q) h dX10_best_11 (fun Q' q => TX10_weighed _ q) kvX10_weighed ml_X10_189 sh_0 rfl (RRc (by decide) (by decide)) (Nat.le_of_ble_eq_true rfl) ⟨Nat.le_of_ble_eq_true rfl, Nat.le_of_ble_eq_true rfl⟩ (fun f2 h => ?_)
    refine ev_aload_n (i := 0) dX10_best_14 rfl rfl ?_
    refine ev_getR dX10_best_15 fl_X10_19 sh_0 (by decide) (by decide) rf_0_1 ?_
    refine ev_iconst dX10_best_18 (r32c rfl) ?_
    refine ev_cVI (b := 57) (av := [vR 4, vI (-1)]) (S := []) (fun q => q) h dX10_best_19 (fun Q' q => TX3_bestGain_57_4 (-1) _ q) kvX3_bestGain ml_X10_193 sh_57 rfl (RRc (by decide) (by decide)) (Nat.le_of_ble_eq_true rfl) ⟨Nat.le_of_ble_eq_true rfl, Nat.le_of_ble_eq_true rfl⟩ (fun y3 f3 h => ?_)
    refine ev_goto (tgt := 27) dX10_best_22 (by decide) ?_
    exact ev_iret rfl dX10_best_27 h
def FX10_best  (f : Mm) : Option (Int × Mm) := FX10_best_0  f
set_option maxRecDepth 100000 in
theorem TX10_best {G : GT} {l : Launch} {Q : Option AV → Mem → Prop}  (f : Mm) (h : OkI Q (FX10_best  f)) : Ret G l MX10_best (6) 0 0 [vR 0] (SH, RF, f) Q := by
  refine ret_of (L := [some (vR 0)]) (by decide) rfl (Nat.le_of_ble_eq_true rfl) ?_
  exact SX10_best_0  f h
theorem dX3_isBest_0 : decode cX3_isBest 0 = .ok (.aload_n 0, 1) := by decide +kernel
theorem dX3_isBest_1 : decode cX3_isBest 1 = .ok (.getfield 18, 3) := by decide +kernel
theorem dX3_isBest_4 : decode cX3_isBest 4 = .ok (.iload_n 2, 1) := by decide +kernel
theorem dX3_isBest_5 : decode cX3_isBest 5 = .ok (.iaload, 1) := by decide +kernel
theorem dX3_isBest_6 : decode cX3_isBest 6 = .ok (.ifCond .le 23, 3) := by decide +kernel
theorem dX3_isBest_29 : decode cX3_isBest 29 = .ok (.iconst 0, 1) := by decide +kernel
theorem dX3_isBest_30 : decode cX3_isBest 30 = .ok (.ireturn, 1) := by decide +kernel
theorem dX3_isBest_9 : decode cX3_isBest 9 = .ok (.aload_n 1, 1) := by decide +kernel
theorem dX3_isBest_10 : decode cX3_isBest 10 = .ok (.iload_n 2, 1) := by decide +kernel
theorem dX3_isBest_11 : decode cX3_isBest 11 = .ok (.invokevirtual 123, 3) := by decide +kernel
theorem dX3_isBest_14 : decode cX3_isBest 14 = .ok (.aload_n 0, 1) := by decide +kernel
theorem dX3_isBest_15 : decode cX3_isBest 15 = .ok (.getfield 21, 3) := by decide +kernel
theorem dX3_isBest_18 : decode cX3_isBest 18 = .ok (.iload_n 2, 1) := by decide +kernel
theorem dX3_isBest_19 : decode cX3_isBest 19 = .ok (.iaload, 1) := by decide +kernel
theorem dX3_isBest_20 : decode cX3_isBest 20 = .ok (.isub, 1) := by decide +kernel
theorem dX3_isBest_21 : decode cX3_isBest 21 = .ok (.iload_n 3, 1) := by decide +kernel
theorem dX3_isBest_22 : decode cX3_isBest 22 = .ok (.if_icmp .ne 7, 3) := by decide +kernel
theorem dX3_isBest_25 : decode cX3_isBest 25 = .ok (.iconst 1, 1) := by decide +kernel
theorem dX3_isBest_26 : decode cX3_isBest 26 = .ok (.goto 4, 3) := by decide +kernel
def FX3_isBest_57_4_0  (x2 : Int) (x3 : Int) (f : Mm) : Option (Int × Mm) := (if 0 ≤ x2 ∧ x2 < 64 then (if (f 60 x2.toNat) ≤ 0 then some (0, f) else (b2 (FX0_payOf_4 x2 f) fun y2 f2 => (if 0 ≤ x2 ∧ x2 < 64 then (if (w32 (y2 - (f2 61 x2.toNat))) = x3 then some (1, f2) else some (0, f2)) else none))) else none)
set_option maxHeartbeats 4000000 in
set_option maxRecDepth 100000 in
theorem SX3_isBest_57_4_0 {G : GT} {l : Launch} {Q : Option AV → Mem → Prop}  (x2 : Int) (x3 : Int) (f : Mm) (h : OkI Q (FX3_isBest_57_4_0  x2 x3 f)) : Ev G l MX3_isBest (Rm 4 0 0) (ZM G Q 0 0) 0 0 0 [some (vR 57), some (vR 4), some (vI x2), some (vI x3)] [] (SH, RF, f) := by
  unfold FX3_isBest_57_4_0 at h
  refine ev_aload_n (i := 0) dX3_isBest_0 rfl rfl ?_
  refine ev_getR dX3_isBest_1 fl_X3_18 sh_57 (by decide) (by decide) rf_57_5 ?_
  refine ev_iload_n (i := 2) dX3_isBest_4 rfl rfl ?_
  by_cases g1 : 0 ≤ x2 ∧ x2 < 64
  · rw [if_pos g1] at h
    refine ex_iald (x := (f 60 x2.toNat)) dX3_isBest_5 sh_60 g1.1 g1.2 rfl ?_
    refine ev_if_le (tgt := 29) dX3_isBest_6 (by decide) (fun c5 => ?_) (fun c5 => ?_)
    · rw [if_pos c5] at h
      refine ev_iconst dX3_isBest_29 (r32c rfl) ?_
      exact ev_zret rfl (by decide) dX3_isBest_30 h
    · rw [if_neg c5] at h
      refine ev_aload_n (i := 1) dX3_isBest_9 rfl rfl ?_
      refine ev_iload_n (i := 2) dX3_isBest_10 rfl rfl ?_
      refine ev_cVI (b := 4) (av := [vI x2]) (S := []) (fun q => q) h dX3_isBest_11 (fun Q' q => TX0_payOf_4 x2 _ q) kvX0_payOf ml_X3_123 sh_4 rfl (RRc (by decide) (by decide)) (Nat.le_of_ble_eq_true rfl) ⟨Nat.le_of_ble_eq_true rfl, Nat.le_of_ble_eq_true rfl⟩ (fun y2 f2 h => ?_)
      refine ev_aload_n (i := 0) dX3_isBest_14 rfl rfl ?_
      refine ev_getR dX3_isBest_15 fl_X3_21 sh_57 (by decide) (by decide) rf_57_6 ?_
      refine ev_iload_n (i := 2) dX3_isBest_18 rfl rfl ?_
      by_cases g3 : 0 ≤ x2 ∧ x2 < 64
      · rw [if_pos g3] at h
        refine ex_iald (x := (f2 61 x2.toNat)) dX3_isBest_19 sh_61 g3.1 g3.2 rfl ?_
        refine ev_isub dX3_isBest_20 ?_
        refine ev_iload_n (i := 3) dX3_isBest_21 rfl rfl ?_
        refine ev_icmp_ne (tgt := 29) dX3_isBest_22 (by decide) (fun c4 => ?_) (fun c4 => ?_)
        · rw [if_neg c4] at h
          refine ev_iconst dX3_isBest_29 (r32c rfl) ?_
          exact ev_zret rfl (by decide) dX3_isBest_30 h
        · rw [if_pos c4] at h
          refine ev_iconst dX3_isBest_25 (r32c rfl) ?_
          refine ev_goto (tgt := 30) dX3_isBest_26 (by decide) ?_
          exact ev_zret rfl (by decide) dX3_isBest_30 h
      · rw [if_neg g3] at h; exact h.elim
  · rw [if_neg g1] at h; exact h.elim
def FX3_isBest_57_4 (x2 : Int) (x3 : Int) (f : Mm) : Option (Int × Mm) := FX3_isBest_57_4_0 x2 x3 f
set_option maxRecDepth 100000 in
theorem TX3_isBest_57_4 {G : GT} {l : Launch} {Q : Option AV → Mem → Prop} (x2 : Int) (x3 : Int) (f : Mm) (h : OkI Q (FX3_isBest_57_4 x2 x3 f)) : Ret G l MX3_isBest (4) 0 0 [vR 57, vR 4, vI x2, vI x3] (SH, RF, f) Q := by
  refine ret_of (L := [some (vR 57), some (vR 4), some (vI x2), some (vI x3)]) (by decide) rfl (Nat.le_of_ble_eq_true rfl) ?_
  exact SX3_isBest_57_4_0 x2 x3 f h
theorem dX3_bestFirst_56 : decode cX3_bestFirst 56 = .ok (.iinc 4 1, 3) := by decide +kernel
theorem dX3_bestFirst_59 : decode cX3_bestFirst 59 = .ok (.goto (-47), 3) := by decide +kernel
theorem dX3_bestFirst_48 : decode cX3_bestFirst 48 = .ok (.aload_n 0, 1) := by decide +kernel
theorem dX3_bestFirst_49 : decode cX3_bestFirst 49 = .ok (.getfield 27, 3) := by decide +kernel
theorem dX3_bestFirst_52 : decode cX3_bestFirst 52 = .ok (.iload 4, 2) := by decide +kernel
theorem dX3_bestFirst_54 : decode cX3_bestFirst 54 = .ok (.iaload, 1) := by decide +kernel
theorem dX3_bestFirst_55 : decode cX3_bestFirst 55 = .ok (.istore_n 3, 1) := by decide +kernel
theorem dX3_bestFirst_12 : decode cX3_bestFirst 12 = .ok (.iload 4, 2) := by decide +kernel
theorem dX3_bestFirst_14 : decode cX3_bestFirst 14 = .ok (.aload_n 1, 1) := by decide +kernel
theorem dX3_bestFirst_15 : decode cX3_bestFirst 15 = .ok (.invokevirtual 119, 3) := by decide +kernel
theorem dX3_bestFirst_18 : decode cX3_bestFirst 18 = .ok (.if_icmp .gt 44, 3) := by decide +kernel
theorem dX3_bestFirst_62 : decode cX3_bestFirst 62 = .ok (.iload_n 3, 1) := by decide +kernel
theorem dX3_bestFirst_63 : decode cX3_bestFirst 63 = .ok (.ireturn, 1) := by decide +kernel
theorem dX3_bestFirst_21 : decode cX3_bestFirst 21 = .ok (.aload_n 0, 1) := by decide +kernel
theorem dX3_bestFirst_22 : decode cX3_bestFirst 22 = .ok (.aload_n 1, 1) := by decide +kernel
theorem dX3_bestFirst_23 : decode cX3_bestFirst 23 = .ok (.iload 4, 2) := by decide +kernel
theorem dX3_bestFirst_25 : decode cX3_bestFirst 25 = .ok (.iload_n 2, 1) := by decide +kernel
theorem dX3_bestFirst_26 : decode cX3_bestFirst 26 = .ok (.invokevirtual 130, 3) := by decide +kernel
theorem dX3_bestFirst_29 : decode cX3_bestFirst 29 = .ok (.ifCond .eq 27, 3) := by decide +kernel
theorem dX3_bestFirst_32 : decode cX3_bestFirst 32 = .ok (.iload_n 3, 1) := by decide +kernel
theorem dX3_bestFirst_33 : decode cX3_bestFirst 33 = .ok (.iconst (-1), 1) := by decide +kernel
theorem dX3_bestFirst_34 : decode cX3_bestFirst 34 = .ok (.if_icmp .eq 14, 3) := by decide +kernel
theorem dX3_bestFirst_37 : decode cX3_bestFirst 37 = .ok (.aload_n 0, 1) := by decide +kernel
theorem dX3_bestFirst_38 : decode cX3_bestFirst 38 = .ok (.getfield 27, 3) := by decide +kernel
theorem dX3_bestFirst_41 : decode cX3_bestFirst 41 = .ok (.iload 4, 2) := by decide +kernel
theorem dX3_bestFirst_43 : decode cX3_bestFirst 43 = .ok (.iaload, 1) := by decide +kernel
theorem dX3_bestFirst_44 : decode cX3_bestFirst 44 = .ok (.iload_n 3, 1) := by decide +kernel
theorem dX3_bestFirst_45 : decode cX3_bestFirst 45 = .ok (.if_icmp .ge 11, 3) := by decide +kernel
theorem dX3_bestFirst_0 : decode cX3_bestFirst 0 = .ok (.aload_n 0, 1) := by decide +kernel
theorem dX3_bestFirst_1 : decode cX3_bestFirst 1 = .ok (.aload_n 1, 1) := by decide +kernel
theorem dX3_bestFirst_2 : decode cX3_bestFirst 2 = .ok (.iconst (-1), 1) := by decide +kernel
theorem dX3_bestFirst_3 : decode cX3_bestFirst 3 = .ok (.invokevirtual 126, 3) := by decide +kernel
theorem dX3_bestFirst_6 : decode cX3_bestFirst 6 = .ok (.istore_n 2, 1) := by decide +kernel
theorem dX3_bestFirst_7 : decode cX3_bestFirst 7 = .ok (.iconst (-1), 1) := by decide +kernel
theorem dX3_bestFirst_8 : decode cX3_bestFirst 8 = .ok (.istore_n 3, 1) := by decide +kernel
theorem dX3_bestFirst_9 : decode cX3_bestFirst 9 = .ok (.iconst 0, 1) := by decide +kernel
theorem dX3_bestFirst_10 : decode cX3_bestFirst 10 = .ok (.istore 4, 2) := by decide +kernel
def FX3_bestFirst_57_4_56 (k12 : Int → Int → Int → Mm → Option (Int × Mm)) (x2 : Int) (x3 : Int) (x4 : Int) (f : Mm) : Option (Int × Mm) := k12 x2 x3 (w32 (x4 + 1)) f
set_option maxHeartbeats 4000000 in
set_option maxRecDepth 100000 in
theorem SX3_bestFirst_57_4_56 {G : GT} {l : Launch} {Q : Option AV → Mem → Prop} {k12 : Int → Int → Int → Mm → Option (Int × Mm)} (q12 : ∀ (x2 : Int) (x3 : Int) (x4 : Int) (f : Mm), OkI Q (k12 x2 x3 x4 f) → Ev G l MX3_bestFirst (Rm 5 0 0) (ZM G Q 0 0) 0 0 12 [some (vR 57), some (vR 4), some (vI x2), some (vI x3), some (vI x4)] [] (SH, RF, f)) (x2 : Int) (x3 : Int) (x4 : Int) (f : Mm) (h : OkI Q (FX3_bestFirst_57_4_56 k12 x2 x3 x4 f)) : Ev G l MX3_bestFirst (Rm 5 0 0) (ZM G Q 0 0) 0 0 56 [some (vR 57), some (vR 4), some (vI x2), some (vI x3), some (vI x4)] [] (SH, RF, f) := by
  unfold FX3_bestFirst_57_4_56 at h
  refine ev_iinc (L' := [some (vR 57), some (vR 4), some (vI x2), some (vI x3), some (vI (w32 (x4 + 1)))]) dX3_bestFirst_56 rfl (by decide) rfl ?_
  refine ev_goto (tgt := 12) dX3_bestFirst_59 (by decide) ?_
  exact q12 x2 x3 (w32 (x4 + 1)) _ h
def FX3_bestFirst_57_4_48 (k12 : Int → Int → Int → Mm → Option (Int × Mm)) (x2 : Int) (x4 : Int) (f : Mm) : Option (Int × Mm) := (if 0 ≤ x4 ∧ x4 < 64 then FX3_bestFirst_57_4_56 k12 x2 (f 63 x4.toNat) x4 f else none)
set_option maxHeartbeats 4000000 in
set_option maxRecDepth 100000 in
theorem SX3_bestFirst_57_4_48 {G : GT} {l : Launch} {Q : Option AV → Mem → Prop} {k12 : Int → Int → Int → Mm → Option (Int × Mm)} (q12 : ∀ (x2 : Int) (x3 : Int) (x4 : Int) (f : Mm), OkI Q (k12 x2 x3 x4 f) → Ev G l MX3_bestFirst (Rm 5 0 0) (ZM G Q 0 0) 0 0 12 [some (vR 57), some (vR 4), some (vI x2), some (vI x3), some (vI x4)] [] (SH, RF, f)) (x2 : Int) (x4 : Int) (f : Mm) (h : OkI Q (FX3_bestFirst_57_4_48 k12 x2 x4 f)) : Ev G l MX3_bestFirst (Rm 5 0 0) (ZM G Q 0 0) 0 0 48 [some (vR 57), some (vR 4), some (vI x2), none, some (vI x4)] [] (SH, RF, f) := by
  unfold FX3_bestFirst_57_4_48 at h
  refine ev_aload_n (i := 0) dX3_bestFirst_48 rfl rfl ?_
  refine ev_getR dX3_bestFirst_49 fl_X3_27 sh_57 (by decide) (by decide) rf_57_8 ?_
  refine ev_iload dX3_bestFirst_52 rfl ?_
  by_cases g1 : 0 ≤ x4 ∧ x4 < 64
  · rw [if_pos g1] at h
    refine ex_iald (x := (f 63 x4.toNat)) dX3_bestFirst_54 sh_63 g1.1 g1.2 rfl ?_
    refine ev_istore_n (i := 3) (L' := [some (vR 57), some (vR 4), some (vI x2), some (vI (f 63 x4.toNat)), some (vI x4)]) dX3_bestFirst_55 rfl (by decide) rfl ?_
    exact SX3_bestFirst_57_4_56 q12 x2 (f 63 x4.toNat) x4 _ h
  · rw [if_neg g1] at h; exact h.elim
def FX3_bestFirst_57_4_12  : Nat → Int → Int → Int → Mm → Option (Int × Mm)
  | 0, _, _, _, _ => none
  | n + 1, x2, x3, x4, f => (b2 (FX0_allCarts_4 f) fun y1 f1 => (if y1 < x4 then some (x3, f1) else (b2 (FX3_isBest_57_4 x4 x2 f1) fun y2 f2 => (if y2 = 0 then FX3_bestFirst_57_4_56 (FX3_bestFirst_57_4_12 n) x2 x3 x4 f2 else (if x3 = (-1) then FX3_bestFirst_57_4_48 (FX3_bestFirst_57_4_12 n) x2 x4 f2 else (if 0 ≤ x4 ∧ x4 < 64 then (if x3 ≤ (f2 63 x4.toNat) then FX3_bestFirst_57_4_56 (FX3_bestFirst_57_4_12 n) x2 x3 x4 f2 else FX3_bestFirst_57_4_48 (FX3_bestFirst_57_4_12 n) x2 x4 f2) else none))))))
set_option maxHeartbeats 4000000 in
set_option maxRecDepth 100000 in
theorem SX3_bestFirst_57_4_12 {G : GT} {l : Launch} {Q : Option AV → Mem → Prop}  : ∀ (n : Nat) (x2 : Int) (x3 : Int) (x4 : Int) (f : Mm), OkI Q (FX3_bestFirst_57_4_12  n x2 x3 x4 f) → Ev G l MX3_bestFirst (Rm 5 0 0) (ZM G Q 0 0) 0 0 12 [some (vR 57), some (vR 4), some (vI x2), some (vI x3), some (vI x4)] [] (SH, RF, f) := by
  intro n
  induction n with
  | zero => intro x2 x3 x4 f h; exact absurd h (by rw [FX3_bestFirst_57_4_12]; exact fun q => q)
  | succ n ih =>
    intro x2 x3 x4 f h
    rw [FX3_bestFirst_57_4_12] at h
    refine ev_iload dX3_bestFirst_12 rfl ?_
    refine ev_aload_n (i := 1) dX3_bestFirst_14 rfl rfl ?_
    refine ev_cVI (b := 4) (av := []) (S := [vI x4]) (fun q => q) h dX3_bestFirst_15 (fun Q' q => TX0_allCarts_4 _ q) kvX0_allCarts ml_X3_119 sh_4 rfl (RRc (by decide) (by decide)) (Nat.le_of_ble_eq_true rfl) ⟨Nat.le_of_ble_eq_true rfl, Nat.le_of_ble_eq_true rfl⟩ (fun y1 f1 h => ?_)
    refine ev_icmp_gt (tgt := 62) dX3_bestFirst_18 (by decide) (fun c7 => ?_) (fun c7 => ?_)
    · rw [if_pos c7] at h
      refine ev_iload_n (i := 3) dX3_bestFirst_62 rfl rfl ?_
      exact ev_iret rfl dX3_bestFirst_63 h
    · rw [if_neg c7] at h
      refine ev_aload_n (i := 0) dX3_bestFirst_21 rfl rfl ?_
      refine ev_aload_n (i := 1) dX3_bestFirst_22 rfl rfl ?_
      refine ev_iload dX3_bestFirst_23 rfl ?_
      refine ev_iload_n (i := 2) dX3_bestFirst_25 rfl rfl ?_
      refine ev_cVI (b := 57) (av := [vR 4, vI x4, vI x2]) (S := []) (fun q => q) h dX3_bestFirst_26 (fun Q' q => TX3_isBest_57_4 x4 x2 _ q) kvX3_isBest ml_X3_130 sh_57 rfl (RRc (by decide) (by decide)) (Nat.le_of_ble_eq_true rfl) ⟨Nat.le_of_ble_eq_true rfl, Nat.le_of_ble_eq_true rfl⟩ (fun y2 f2 h => ?_)
      refine ev_if_eq (tgt := 56) dX3_bestFirst_29 (by decide) (fun c6 => ?_) (fun c6 => ?_)
      · rw [if_pos c6] at h
        exact SX3_bestFirst_57_4_56 ih x2 x3 x4 _ h
      · rw [if_neg c6] at h
        refine ev_iload_n (i := 3) dX3_bestFirst_32 rfl rfl ?_
        refine ev_iconst dX3_bestFirst_33 (r32c rfl) ?_
        refine ev_icmp_eq (tgt := 48) dX3_bestFirst_34 (by decide) (fun c5 => ?_) (fun c5 => ?_)
        · rw [if_pos c5] at h
          refine ev_fg [true, true, true, false, true] rfl ?_
          exact SX3_bestFirst_57_4_48 ih x2 x4 _ h
        · rw [if_neg c5] at h
          refine ev_aload_n (i := 0) dX3_bestFirst_37 rfl rfl ?_
          refine ev_getR dX3_bestFirst_38 fl_X3_27 sh_57 (by decide) (by decide) rf_57_8 ?_
          refine ev_iload dX3_bestFirst_41 rfl ?_
          by_cases g3 : 0 ≤ x4 ∧ x4 < 64
          · rw [if_pos g3] at h
            refine ex_iald (x := (f2 63 x4.toNat)) dX3_bestFirst_43 sh_63 g3.1 g3.2 rfl ?_
            refine ev_iload_n (i := 3) dX3_bestFirst_44 rfl rfl ?_
            refine ev_icmp_ge (tgt := 56) dX3_bestFirst_45 (by decide) (fun c4 => ?_) (fun c4 => ?_)
            · rw [if_pos c4] at h
              exact SX3_bestFirst_57_4_56 ih x2 x3 x4 _ h
            · rw [if_neg c4] at h
              refine ev_fg [true, true, true, false, true] rfl ?_
              exact SX3_bestFirst_57_4_48 ih x2 x4 _ h
          · rw [if_neg g3] at h; exact h.elim
def FX3_bestFirst_57_4_0   (f : Mm) : Option (Int × Mm) := (b2 (FX3_bestGain_57_4 (-1) f) fun y1 f1 => FX3_bestFirst_57_4_12 fu y1 (-1) 0 f1)
set_option maxHeartbeats 4000000 in
set_option maxRecDepth 100000 in
theorem SX3_bestFirst_57_4_0 {G : GT} {l : Launch} {Q : Option AV → Mem → Prop}   (f : Mm) (h : OkI Q (FX3_bestFirst_57_4_0   f)) : Ev G l MX3_bestFirst (Rm 5 0 0) (ZM G Q 0 0) 0 0 0 [some (vR 57), some (vR 4), none, none, none] [] (SH, RF, f) := by
  unfold FX3_bestFirst_57_4_0 at h
  refine ev_aload_n (i := 0) dX3_bestFirst_0 rfl rfl ?_
  refine ev_aload_n (i := 1) dX3_bestFirst_1 rfl rfl ?_
  refine ev_iconst dX3_bestFirst_2 (r32c rfl) ?_
  refine ev_cVI (b := 57) (av := [vR 4, vI (-1)]) (S := []) (fun q => q) h dX3_bestFirst_3 (fun Q' q => TX3_bestGain_57_4 (-1) _ q) kvX3_bestGain ml_X3_126 sh_57 rfl (RRc (by decide) (by decide)) (Nat.le_of_ble_eq_true rfl) ⟨Nat.le_of_ble_eq_true rfl, Nat.le_of_ble_eq_true rfl⟩ (fun y1 f1 h => ?_)
  refine ev_istore_n (i := 2) (L' := [some (vR 57), some (vR 4), some (vI y1), none, none]) dX3_bestFirst_6 rfl (by decide) rfl ?_
  refine ev_iconst dX3_bestFirst_7 (r32c rfl) ?_
  refine ev_istore_n (i := 3) (L' := [some (vR 57), some (vR 4), some (vI y1), some (vI (-1)), none]) dX3_bestFirst_8 rfl (by decide) rfl ?_
  refine ev_iconst dX3_bestFirst_9 (r32c rfl) ?_
  refine ev_istore (L' := [some (vR 57), some (vR 4), some (vI y1), some (vI (-1)), some (vI 0)]) dX3_bestFirst_10 (by decide) rfl ?_
  exact SX3_bestFirst_57_4_12  fu y1 (-1) 0 _ h
def FX3_bestFirst_57_4  (f : Mm) : Option (Int × Mm) := FX3_bestFirst_57_4_0  f
set_option maxRecDepth 100000 in
theorem TX3_bestFirst_57_4 {G : GT} {l : Launch} {Q : Option AV → Mem → Prop}  (f : Mm) (h : OkI Q (FX3_bestFirst_57_4  f)) : Ret G l MX3_bestFirst (5) 0 0 [vR 57, vR 4] (SH, RF, f) Q := by
  refine ret_of (L := [some (vR 57), some (vR 4), none, none, none]) (by decide) rfl (Nat.le_of_ble_eq_true rfl) ?_
  exact SX3_bestFirst_57_4_0  f h
theorem dX3_deedOn_23 : decode cX3_deedOn 23 = .ok (.iload 4, 2) := by decide +kernel
theorem dX3_deedOn_25 : decode cX3_deedOn 25 = .ok (.iload_n 2, 1) := by decide +kernel
theorem dX3_deedOn_26 : decode cX3_deedOn 26 = .ok (.if_icmp .le 16, 3) := by decide +kernel
theorem dX3_deedOn_42 : decode cX3_deedOn 42 = .ok (.iload_n 3, 1) := by decide +kernel
theorem dX3_deedOn_43 : decode cX3_deedOn 43 = .ok (.aload_n 0, 1) := by decide +kernel
theorem dX3_deedOn_44 : decode cX3_deedOn 44 = .ok (.getfield 51, 3) := by decide +kernel
theorem dX3_deedOn_47 : decode cX3_deedOn 47 = .ok (.irem, 1) := by decide +kernel
theorem dX3_deedOn_48 : decode cX3_deedOn 48 = .ok (.iconst 1, 1) := by decide +kernel
theorem dX3_deedOn_49 : decode cX3_deedOn 49 = .ok (.isub, 1) := by decide +kernel
theorem dX3_deedOn_50 : decode cX3_deedOn 50 = .ok (.ireturn, 1) := by decide +kernel
theorem dX3_deedOn_29 : decode cX3_deedOn 29 = .ok (.iload_n 3, 1) := by decide +kernel
theorem dX3_deedOn_30 : decode cX3_deedOn 30 = .ok (.aload_n 0, 1) := by decide +kernel
theorem dX3_deedOn_31 : decode cX3_deedOn 31 = .ok (.getfield 51, 3) := by decide +kernel
theorem dX3_deedOn_34 : decode cX3_deedOn 34 = .ok (.idiv, 1) := by decide +kernel
theorem dX3_deedOn_35 : decode cX3_deedOn 35 = .ok (.istore_n 3, 1) := by decide +kernel
theorem dX3_deedOn_36 : decode cX3_deedOn 36 = .ok (.iinc 4 (-1), 3) := by decide +kernel
theorem dX3_deedOn_39 : decode cX3_deedOn 39 = .ok (.goto (-16), 3) := by decide +kernel
theorem dX3_deedOn_0 : decode cX3_deedOn 0 = .ok (.iload_n 1, 1) := by decide +kernel
theorem dX3_deedOn_1 : decode cX3_deedOn 1 = .ok (.ifCond .lt 10, 3) := by decide +kernel
theorem dX3_deedOn_11 : decode cX3_deedOn 11 = .ok (.iconst (-1), 1) := by decide +kernel
theorem dX3_deedOn_12 : decode cX3_deedOn 12 = .ok (.ireturn, 1) := by decide +kernel
theorem dX3_deedOn_4 : decode cX3_deedOn 4 = .ok (.aload_n 0, 1) := by decide +kernel
theorem dX3_deedOn_5 : decode cX3_deedOn 5 = .ok (.getfield 51, 3) := by decide +kernel
theorem dX3_deedOn_8 : decode cX3_deedOn 8 = .ok (.ifCond .gt 5, 3) := by decide +kernel
theorem dX3_deedOn_13 : decode cX3_deedOn 13 = .ok (.iload_n 1, 1) := by decide +kernel
theorem dX3_deedOn_14 : decode cX3_deedOn 14 = .ok (.istore_n 3, 1) := by decide +kernel
theorem dX3_deedOn_15 : decode cX3_deedOn 15 = .ok (.aload_n 0, 1) := by decide +kernel
theorem dX3_deedOn_16 : decode cX3_deedOn 16 = .ok (.getfield 47, 3) := by decide +kernel
theorem dX3_deedOn_19 : decode cX3_deedOn 19 = .ok (.iconst 1, 1) := by decide +kernel
theorem dX3_deedOn_20 : decode cX3_deedOn 20 = .ok (.isub, 1) := by decide +kernel
theorem dX3_deedOn_21 : decode cX3_deedOn 21 = .ok (.istore 4, 2) := by decide +kernel
def FX3_deedOn_23  : Nat → Int → Int → Int → Mm → Option (Int × Mm)
  | 0, _, _, _, _ => none
  | n + 1, x2, x3, x4, f => (if x4 ≤ x2 then (if (f 57 2) ≠ 0 then some ((w32 ((iRem x3 (f 57 2)) - 1)), f) else none) else (if (f 57 2) ≠ 0 then FX3_deedOn_23 n x2 (iDiv x3 (f 57 2)) (w32 (x4 + (-1))) f else none))
set_option maxHeartbeats 4000000 in
set_option maxRecDepth 100000 in
theorem SX3_deedOn_23 {G : GT} {l : Launch} {Q : Option AV → Mem → Prop}  : ∀ (n : Nat) (x2 : Int) (x3 : Int) (x4 : Int) (f : Mm), OkI Q (FX3_deedOn_23  n x2 x3 x4 f) → Ev G l MX3_deedOn (Rm 1 0 0) (ZM G Q 0 0) 0 0 23 [some (vR 57), none, some (vI x2), some (vI x3), some (vI x4)] [] (SH, RF, f) := by
  intro n
  induction n with
  | zero => intro x2 x3 x4 f h; exact absurd h (by rw [FX3_deedOn_23]; exact fun q => q)
  | succ n ih =>
    intro x2 x3 x4 f h
    rw [FX3_deedOn_23] at h
    refine ev_iload dX3_deedOn_23 rfl ?_
    refine ev_iload_n (i := 2) dX3_deedOn_25 rfl rfl ?_
    refine ev_icmp_le (tgt := 42) dX3_deedOn_26 (by decide) (fun c3 => ?_) (fun c3 => ?_)
    · rw [if_pos c3] at h
      refine ev_iload_n (i := 3) dX3_deedOn_42 rfl rfl ?_
      refine ev_aload_n (i := 0) dX3_deedOn_43 rfl rfl ?_
      refine ex_getI (x := (f 57 2)) dX3_deedOn_44 fl_X3_51 sh_57 (by decide) (by decide) rfl ?_
      by_cases g1 : (f 57 2) ≠ 0
      · rw [if_pos g1] at h
        refine ev_irem dX3_deedOn_47 g1 ?_
        refine ev_iconst dX3_deedOn_48 (r32c rfl) ?_
        refine ev_isub dX3_deedOn_49 ?_
        exact ev_iret rfl dX3_deedOn_50 h
      · rw [if_neg g1] at h; exact h.elim
    · rw [if_neg c3] at h
      refine ev_iload_n (i := 3) dX3_deedOn_29 rfl rfl ?_
      refine ev_aload_n (i := 0) dX3_deedOn_30 rfl rfl ?_
      refine ex_getI (x := (f 57 2)) dX3_deedOn_31 fl_X3_51 sh_57 (by decide) (by decide) rfl ?_
      by_cases g2 : (f 57 2) ≠ 0
      · rw [if_pos g2] at h
        refine ev_idiv dX3_deedOn_34 g2 ?_
        refine ev_istore_n (i := 3) (L' := [some (vR 57), none, some (vI x2), some (vI (iDiv x3 (f 57 2))), some (vI x4)]) dX3_deedOn_35 rfl (by decide) rfl ?_
        refine ev_iinc (L' := [some (vR 57), none, some (vI x2), some (vI (iDiv x3 (f 57 2))), some (vI (w32 (x4 + (-1))))]) dX3_deedOn_36 rfl (by decide) rfl ?_
        refine ev_goto (tgt := 23) dX3_deedOn_39 (by decide) ?_
        exact ih x2 (iDiv x3 (f 57 2)) (w32 (x4 + (-1))) _ h
      · rw [if_neg g2] at h; exact h.elim
def FX3_deedOn_0  (x1 : Int) (x2 : Int) (f : Mm) : Option (Int × Mm) := (if x1 < 0 then some ((-1), f) else (if 0 < (f 57 2) then FX3_deedOn_23 fu x2 x1 (w32 ((f 57 1) - 1)) f else some ((-1), f)))
set_option maxHeartbeats 4000000 in
set_option maxRecDepth 100000 in
theorem SX3_deedOn_0 {G : GT} {l : Launch} {Q : Option AV → Mem → Prop}  (x1 : Int) (x2 : Int) (f : Mm) (h : OkI Q (FX3_deedOn_0  x1 x2 f)) : Ev G l MX3_deedOn (Rm 1 0 0) (ZM G Q 0 0) 0 0 0 [some (vR 57), some (vI x1), some (vI x2), none, none] [] (SH, RF, f) := by
  unfold FX3_deedOn_0 at h
  refine ev_iload_n (i := 1) dX3_deedOn_0 rfl rfl ?_
  refine ev_if_lt (tgt := 11) dX3_deedOn_1 (by decide) (fun c2 => ?_) (fun c2 => ?_)
  · rw [if_pos c2] at h
    refine ev_iconst dX3_deedOn_11 (r32c rfl) ?_
    exact ev_iret rfl dX3_deedOn_12 h
  · rw [if_neg c2] at h
    refine ev_aload_n (i := 0) dX3_deedOn_4 rfl rfl ?_
    refine ex_getI (x := (f 57 2)) dX3_deedOn_5 fl_X3_51 sh_57 (by decide) (by decide) rfl ?_
    refine ev_if_gt (tgt := 13) dX3_deedOn_8 (by decide) (fun c1 => ?_) (fun c1 => ?_)
    · rw [if_pos c1] at h
      refine ev_iload_n (i := 1) dX3_deedOn_13 rfl rfl ?_
      refine ev_istore_n (i := 3) (L' := [some (vR 57), some (vI x1), some (vI x2), some (vI x1), none]) dX3_deedOn_14 rfl (by decide) rfl ?_
      refine ev_aload_n (i := 0) dX3_deedOn_15 rfl rfl ?_
      refine ex_getI (x := (f 57 1)) dX3_deedOn_16 fl_X3_47 sh_57 (by decide) (by decide) rfl ?_
      refine ev_iconst dX3_deedOn_19 (r32c rfl) ?_
      refine ev_isub dX3_deedOn_20 ?_
      refine ev_istore (L' := [some (vR 57), some (vI x1), some (vI x2), some (vI x1), some (vI (w32 ((f 57 1) - 1)))]) dX3_deedOn_21 (by decide) rfl ?_
      refine ev_fg [true, false, true, true, true] rfl ?_
      exact SX3_deedOn_23  fu x2 x1 (w32 ((f 57 1) - 1)) _ h
    · rw [if_neg c1] at h
      refine ev_iconst dX3_deedOn_11 (r32c rfl) ?_
      exact ev_iret rfl dX3_deedOn_12 h
def FX3_deedOn (x1 : Int) (x2 : Int) (f : Mm) : Option (Int × Mm) := FX3_deedOn_0 x1 x2 f
set_option maxRecDepth 100000 in
theorem TX3_deedOn {G : GT} {l : Launch} {Q : Option AV → Mem → Prop} (x1 : Int) (x2 : Int) (f : Mm) (h : OkI Q (FX3_deedOn x1 x2 f)) : Ret G l MX3_deedOn (1) 0 0 [vR 57, vI x1, vI x2] (SH, RF, f) Q := by
  refine ret_of (L := [some (vR 57), some (vI x1), some (vI x2), none, none]) (by decide) rfl (Nat.le_of_ble_eq_true rfl) ?_
  exact SX3_deedOn_0 x1 x2 f h
theorem dX10_plan_0 : decode cX10_plan 0 = .ok (.aload_n 0, 1) := by decide +kernel
theorem dX10_plan_1 : decode cX10_plan 1 = .ok (.getfield 19, 3) := by decide +kernel
theorem dX10_plan_4 : decode cX10_plan 4 = .ok (.iload_n 1, 1) := by decide +kernel
theorem dX10_plan_5 : decode cX10_plan 5 = .ok (.invokevirtual 126, 3) := by decide +kernel
theorem dX10_plan_8 : decode cX10_plan 8 = .ok (.ifCond .ne 6, 3) := by decide +kernel
theorem dX10_plan_14 : decode cX10_plan 14 = .ok (.aload_n 0, 1) := by decide +kernel
theorem dX10_plan_15 : decode cX10_plan 15 = .ok (.invokevirtual 189, 3) := by decide +kernel
theorem dX10_plan_18 : decode cX10_plan 18 = .ok (.astore_n 2, 1) := by decide +kernel
theorem dX10_plan_19 : decode cX10_plan 19 = .ok (.aload_n 2, 1) := by decide +kernel
theorem dX10_plan_20 : decode cX10_plan 20 = .ok (.aload_n 2, 1) := by decide +kernel
theorem dX10_plan_21 : decode cX10_plan 21 = .ok (.aload_n 0, 1) := by decide +kernel
theorem dX10_plan_22 : decode cX10_plan 22 = .ok (.getfield 19, 3) := by decide +kernel
theorem dX10_plan_25 : decode cX10_plan 25 = .ok (.invokevirtual 197, 3) := by decide +kernel
theorem dX10_plan_28 : decode cX10_plan 28 = .ok (.iload_n 1, 1) := by decide +kernel
theorem dX10_plan_29 : decode cX10_plan 29 = .ok (.invokevirtual 200, 3) := by decide +kernel
theorem dX10_plan_32 : decode cX10_plan 32 = .ok (.ireturn, 1) := by decide +kernel
theorem dX10_plan_11 : decode cX10_plan 11 = .ok (.bipush (-2), 2) := by decide +kernel
theorem dX10_plan_13 : decode cX10_plan 13 = .ok (.ireturn, 1) := by decide +kernel
def FX10_plan_0  (x1 : Int) (f : Mm) : Option (Int × Mm) := (b2 (FX0_hasDay_4 x1 f) fun y1 f1 => (if y1 = 0 then some ((-2), f1) else ((FX10_weighed f1).bind fun f2 => (b2 (FX3_bestFirst_57_4 f2) fun y3 f3 => (b2 (FX3_deedOn y3 x1 f3) fun y4 f4 => some (y4, f4))))))
set_option maxHeartbeats 4000000 in
set_option maxRecDepth 100000 in
theorem SX10_plan_0 {G : GT} {l : Launch} {Q : Option AV → Mem → Prop}  (x1 : Int) (f : Mm) (h : OkI Q (FX10_plan_0  x1 f)) : Ev G l MX10_plan (Rm 6 0 0) (ZM G Q 0 0) 0 0 0 [some (vR 0), some (vI x1), none] [] (SH, RF, f) := by
  unfold FX10_plan_0 at h
  refine ev_aload_n (i := 0) dX10_plan_0 rfl rfl ?_
  refine ev_getR dX10_plan_1 fl_X10_19 sh_0 (by decide) (by decide) rf_0_1 ?_
  refine ev_iload_n (i := 1) dX10_plan_4 rfl rfl ?_
  refine ev_cVI (b := 4) (av := [vI x1]) (S := []) (fun q => q) h dX10_plan_5 (fun Q' q => TX0_hasDay_4 x1 _ q) kvX0_hasDay ml_X10_126 sh_4 rfl (RRc (by decide) (by decide)) (Nat.le_of_ble_eq_true rfl) ⟨Nat.le_of_ble_eq_true rfl, Nat.le_of_ble_eq_true rfl⟩ (fun y1 f1 h => ?_)
  refine ev_if_ne (tgt := 14) dX10_plan_8 (by decide) (fun c5 => ?_) (fun c5 => ?_)
  · rw [if_neg c5] at h
    refine ev_aload_n (i := 0) dX10_plan_14 rfl rfl ?_
    refine ev_cVC (b := 0) (av := []) (S := []) (fun q => q) h dX10_plan_15 (fun Q' q => TX10_weighed _ q) kvX10_weighed ml_X10_189 sh_0 rfl (RRc (by decide) (by decide)) (Nat.le_of_ble_eq_true rfl) ⟨Nat.le_of_ble_eq_true rfl, Nat.le_of_ble_eq_true rfl⟩ (fun f2 h => ?_)
    refine ev_astore_n (i := 2) (L' := [some (vR 0), some (vI x1), some (vR 57)]) dX10_plan_18 rfl (by decide) rfl ?_
    refine ev_aload_n (i := 2) dX10_plan_19 rfl rfl ?_
    refine ev_aload_n (i := 2) dX10_plan_20 rfl rfl ?_
    refine ev_aload_n (i := 0) dX10_plan_21 rfl rfl ?_
    refine ev_getR dX10_plan_22 fl_X10_19 sh_0 (by decide) (by decide) rf_0_1 ?_
    refine ev_cVI (b := 57) (av := [vR 4]) (S := [vR 57]) (fun q => q) h dX10_plan_25 (fun Q' q => TX3_bestFirst_57_4 _ q) kvX3_bestFirst ml_X10_197 sh_57 rfl (RRc (by decide) (by decide)) (Nat.le_of_ble_eq_true rfl) ⟨Nat.le_of_ble_eq_true rfl, Nat.le_of_ble_eq_true rfl⟩ (fun y3 f3 h => ?_)
    refine ev_iload_n (i := 1) dX10_plan_28 rfl rfl ?_
    refine ev_cVI (b := 57) (av := [vI y3, vI x1]) (S := []) (fun q => q) h dX10_plan_29 (fun Q' q => TX3_deedOn y3 x1 _ q) kvX3_deedOn ml_X10_200 sh_57 rfl (RRc (by decide) (by decide)) (Nat.le_of_ble_eq_true rfl) ⟨Nat.le_of_ble_eq_true rfl, Nat.le_of_ble_eq_true rfl⟩ (fun y4 f4 h => ?_)
    exact ev_iret rfl dX10_plan_32 h
  · rw [if_pos c5] at h
    refine ev_bipush (v := (-2)) dX10_plan_11 (r32c rfl) (by decide) ?_
    exact ev_iret rfl dX10_plan_13 h
def FX10_plan (x1 : Int) (f : Mm) : Option (Int × Mm) := FX10_plan_0 x1 f
set_option maxRecDepth 100000 in
theorem TX10_plan {G : GT} {l : Launch} {Q : Option AV → Mem → Prop} (x1 : Int) (f : Mm) (h : OkI Q (FX10_plan x1 f)) : Ret G l MX10_plan (6) 0 0 [vR 0, vI x1] (SH, RF, f) Q := by
  refine ret_of (L := [some (vR 0), some (vI x1), none]) (by decide) rfl (Nat.le_of_ble_eq_true rfl) ?_
  exact SX10_plan_0 x1 f h
theorem dX3_bestWays_42 : decode cX3_bestWays 42 = .ok (.iinc 4 1, 3) := by decide +kernel
theorem dX3_bestWays_45 : decode cX3_bestWays 45 = .ok (.goto (-33), 3) := by decide +kernel
theorem dX3_bestWays_12 : decode cX3_bestWays 12 = .ok (.iload 4, 2) := by decide +kernel
theorem dX3_bestWays_14 : decode cX3_bestWays 14 = .ok (.aload_n 1, 1) := by decide +kernel
theorem dX3_bestWays_15 : decode cX3_bestWays 15 = .ok (.invokevirtual 119, 3) := by decide +kernel
theorem dX3_bestWays_18 : decode cX3_bestWays 18 = .ok (.if_icmp .gt 30, 3) := by decide +kernel
theorem dX3_bestWays_48 : decode cX3_bestWays 48 = .ok (.iload_n 3, 1) := by decide +kernel
theorem dX3_bestWays_49 : decode cX3_bestWays 49 = .ok (.ireturn, 1) := by decide +kernel
theorem dX3_bestWays_21 : decode cX3_bestWays 21 = .ok (.aload_n 0, 1) := by decide +kernel
theorem dX3_bestWays_22 : decode cX3_bestWays 22 = .ok (.aload_n 1, 1) := by decide +kernel
theorem dX3_bestWays_23 : decode cX3_bestWays 23 = .ok (.iload 4, 2) := by decide +kernel
theorem dX3_bestWays_25 : decode cX3_bestWays 25 = .ok (.iload_n 2, 1) := by decide +kernel
theorem dX3_bestWays_26 : decode cX3_bestWays 26 = .ok (.invokevirtual 130, 3) := by decide +kernel
theorem dX3_bestWays_29 : decode cX3_bestWays 29 = .ok (.ifCond .eq 13, 3) := by decide +kernel
theorem dX3_bestWays_32 : decode cX3_bestWays 32 = .ok (.iload_n 3, 1) := by decide +kernel
theorem dX3_bestWays_33 : decode cX3_bestWays 33 = .ok (.aload_n 0, 1) := by decide +kernel
theorem dX3_bestWays_34 : decode cX3_bestWays 34 = .ok (.getfield 24, 3) := by decide +kernel
theorem dX3_bestWays_37 : decode cX3_bestWays 37 = .ok (.iload 4, 2) := by decide +kernel
theorem dX3_bestWays_39 : decode cX3_bestWays 39 = .ok (.iaload, 1) := by decide +kernel
theorem dX3_bestWays_40 : decode cX3_bestWays 40 = .ok (.iadd, 1) := by decide +kernel
theorem dX3_bestWays_41 : decode cX3_bestWays 41 = .ok (.istore_n 3, 1) := by decide +kernel
theorem dX3_bestWays_0 : decode cX3_bestWays 0 = .ok (.aload_n 0, 1) := by decide +kernel
theorem dX3_bestWays_1 : decode cX3_bestWays 1 = .ok (.aload_n 1, 1) := by decide +kernel
theorem dX3_bestWays_2 : decode cX3_bestWays 2 = .ok (.iconst (-1), 1) := by decide +kernel
theorem dX3_bestWays_3 : decode cX3_bestWays 3 = .ok (.invokevirtual 126, 3) := by decide +kernel
theorem dX3_bestWays_6 : decode cX3_bestWays 6 = .ok (.istore_n 2, 1) := by decide +kernel
theorem dX3_bestWays_7 : decode cX3_bestWays 7 = .ok (.iconst 0, 1) := by decide +kernel
theorem dX3_bestWays_8 : decode cX3_bestWays 8 = .ok (.istore_n 3, 1) := by decide +kernel
theorem dX3_bestWays_9 : decode cX3_bestWays 9 = .ok (.iconst 0, 1) := by decide +kernel
theorem dX3_bestWays_10 : decode cX3_bestWays 10 = .ok (.istore 4, 2) := by decide +kernel
def FX3_bestWays_57_4_42 (k12 : Int → Int → Int → Mm → Option (Int × Mm)) (x2 : Int) (x3 : Int) (x4 : Int) (f : Mm) : Option (Int × Mm) := k12 x2 x3 (w32 (x4 + 1)) f
set_option maxHeartbeats 4000000 in
set_option maxRecDepth 100000 in
theorem SX3_bestWays_57_4_42 {G : GT} {l : Launch} {Q : Option AV → Mem → Prop} {k12 : Int → Int → Int → Mm → Option (Int × Mm)} (q12 : ∀ (x2 : Int) (x3 : Int) (x4 : Int) (f : Mm), OkI Q (k12 x2 x3 x4 f) → Ev G l MX3_bestWays (Rm 5 0 0) (ZM G Q 0 0) 0 0 12 [some (vR 57), some (vR 4), some (vI x2), some (vI x3), some (vI x4)] [] (SH, RF, f)) (x2 : Int) (x3 : Int) (x4 : Int) (f : Mm) (h : OkI Q (FX3_bestWays_57_4_42 k12 x2 x3 x4 f)) : Ev G l MX3_bestWays (Rm 5 0 0) (ZM G Q 0 0) 0 0 42 [some (vR 57), some (vR 4), some (vI x2), some (vI x3), some (vI x4)] [] (SH, RF, f) := by
  unfold FX3_bestWays_57_4_42 at h
  refine ev_iinc (L' := [some (vR 57), some (vR 4), some (vI x2), some (vI x3), some (vI (w32 (x4 + 1)))]) dX3_bestWays_42 rfl (by decide) rfl ?_
  refine ev_goto (tgt := 12) dX3_bestWays_45 (by decide) ?_
  exact q12 x2 x3 (w32 (x4 + 1)) _ h
def FX3_bestWays_57_4_12  : Nat → Int → Int → Int → Mm → Option (Int × Mm)
  | 0, _, _, _, _ => none
  | n + 1, x2, x3, x4, f => (b2 (FX0_allCarts_4 f) fun y1 f1 => (if y1 < x4 then some (x3, f1) else (b2 (FX3_isBest_57_4 x4 x2 f1) fun y2 f2 => (if y2 = 0 then FX3_bestWays_57_4_42 (FX3_bestWays_57_4_12 n) x2 x3 x4 f2 else (if 0 ≤ x4 ∧ x4 < 64 then FX3_bestWays_57_4_42 (FX3_bestWays_57_4_12 n) x2 (w32 (x3 + (f2 62 x4.toNat))) x4 f2 else none)))))
set_option maxHeartbeats 4000000 in
set_option maxRecDepth 100000 in
theorem SX3_bestWays_57_4_12 {G : GT} {l : Launch} {Q : Option AV → Mem → Prop}  : ∀ (n : Nat) (x2 : Int) (x3 : Int) (x4 : Int) (f : Mm), OkI Q (FX3_bestWays_57_4_12  n x2 x3 x4 f) → Ev G l MX3_bestWays (Rm 5 0 0) (ZM G Q 0 0) 0 0 12 [some (vR 57), some (vR 4), some (vI x2), some (vI x3), some (vI x4)] [] (SH, RF, f) := by
  intro n
  induction n with
  | zero => intro x2 x3 x4 f h; exact absurd h (by rw [FX3_bestWays_57_4_12]; exact fun q => q)
  | succ n ih =>
    intro x2 x3 x4 f h
    rw [FX3_bestWays_57_4_12] at h
    refine ev_iload dX3_bestWays_12 rfl ?_
    refine ev_aload_n (i := 1) dX3_bestWays_14 rfl rfl ?_
    refine ev_cVI (b := 4) (av := []) (S := [vI x4]) (fun q => q) h dX3_bestWays_15 (fun Q' q => TX0_allCarts_4 _ q) kvX0_allCarts ml_X3_119 sh_4 rfl (RRc (by decide) (by decide)) (Nat.le_of_ble_eq_true rfl) ⟨Nat.le_of_ble_eq_true rfl, Nat.le_of_ble_eq_true rfl⟩ (fun y1 f1 h => ?_)
    refine ev_icmp_gt (tgt := 48) dX3_bestWays_18 (by decide) (fun c5 => ?_) (fun c5 => ?_)
    · rw [if_pos c5] at h
      refine ev_iload_n (i := 3) dX3_bestWays_48 rfl rfl ?_
      exact ev_iret rfl dX3_bestWays_49 h
    · rw [if_neg c5] at h
      refine ev_aload_n (i := 0) dX3_bestWays_21 rfl rfl ?_
      refine ev_aload_n (i := 1) dX3_bestWays_22 rfl rfl ?_
      refine ev_iload dX3_bestWays_23 rfl ?_
      refine ev_iload_n (i := 2) dX3_bestWays_25 rfl rfl ?_
      refine ev_cVI (b := 57) (av := [vR 4, vI x4, vI x2]) (S := []) (fun q => q) h dX3_bestWays_26 (fun Q' q => TX3_isBest_57_4 x4 x2 _ q) kvX3_isBest ml_X3_130 sh_57 rfl (RRc (by decide) (by decide)) (Nat.le_of_ble_eq_true rfl) ⟨Nat.le_of_ble_eq_true rfl, Nat.le_of_ble_eq_true rfl⟩ (fun y2 f2 h => ?_)
      refine ev_if_eq (tgt := 42) dX3_bestWays_29 (by decide) (fun c4 => ?_) (fun c4 => ?_)
      · rw [if_pos c4] at h
        exact SX3_bestWays_57_4_42 ih x2 x3 x4 _ h
      · rw [if_neg c4] at h
        refine ev_iload_n (i := 3) dX3_bestWays_32 rfl rfl ?_
        refine ev_aload_n (i := 0) dX3_bestWays_33 rfl rfl ?_
        refine ev_getR dX3_bestWays_34 fl_X3_24 sh_57 (by decide) (by decide) rf_57_7 ?_
        refine ev_iload dX3_bestWays_37 rfl ?_
        by_cases g3 : 0 ≤ x4 ∧ x4 < 64
        · rw [if_pos g3] at h
          refine ex_iald (x := (f2 62 x4.toNat)) dX3_bestWays_39 sh_62 g3.1 g3.2 rfl ?_
          refine ev_iadd dX3_bestWays_40 ?_
          refine ev_istore_n (i := 3) (L' := [some (vR 57), some (vR 4), some (vI x2), some (vI (w32 (x3 + (f2 62 x4.toNat)))), some (vI x4)]) dX3_bestWays_41 rfl (by decide) rfl ?_
          exact SX3_bestWays_57_4_42 ih x2 (w32 (x3 + (f2 62 x4.toNat))) x4 _ h
        · rw [if_neg g3] at h; exact h.elim
def FX3_bestWays_57_4_0   (f : Mm) : Option (Int × Mm) := (b2 (FX3_bestGain_57_4 (-1) f) fun y1 f1 => FX3_bestWays_57_4_12 fu y1 0 0 f1)
set_option maxHeartbeats 4000000 in
set_option maxRecDepth 100000 in
theorem SX3_bestWays_57_4_0 {G : GT} {l : Launch} {Q : Option AV → Mem → Prop}   (f : Mm) (h : OkI Q (FX3_bestWays_57_4_0   f)) : Ev G l MX3_bestWays (Rm 5 0 0) (ZM G Q 0 0) 0 0 0 [some (vR 57), some (vR 4), none, none, none] [] (SH, RF, f) := by
  unfold FX3_bestWays_57_4_0 at h
  refine ev_aload_n (i := 0) dX3_bestWays_0 rfl rfl ?_
  refine ev_aload_n (i := 1) dX3_bestWays_1 rfl rfl ?_
  refine ev_iconst dX3_bestWays_2 (r32c rfl) ?_
  refine ev_cVI (b := 57) (av := [vR 4, vI (-1)]) (S := []) (fun q => q) h dX3_bestWays_3 (fun Q' q => TX3_bestGain_57_4 (-1) _ q) kvX3_bestGain ml_X3_126 sh_57 rfl (RRc (by decide) (by decide)) (Nat.le_of_ble_eq_true rfl) ⟨Nat.le_of_ble_eq_true rfl, Nat.le_of_ble_eq_true rfl⟩ (fun y1 f1 h => ?_)
  refine ev_istore_n (i := 2) (L' := [some (vR 57), some (vR 4), some (vI y1), none, none]) dX3_bestWays_6 rfl (by decide) rfl ?_
  refine ev_iconst dX3_bestWays_7 (r32c rfl) ?_
  refine ev_istore_n (i := 3) (L' := [some (vR 57), some (vR 4), some (vI y1), some (vI 0), none]) dX3_bestWays_8 rfl (by decide) rfl ?_
  refine ev_iconst dX3_bestWays_9 (r32c rfl) ?_
  refine ev_istore (L' := [some (vR 57), some (vR 4), some (vI y1), some (vI 0), some (vI 0)]) dX3_bestWays_10 (by decide) rfl ?_
  exact SX3_bestWays_57_4_12  fu y1 0 0 _ h
def FX3_bestWays_57_4  (f : Mm) : Option (Int × Mm) := FX3_bestWays_57_4_0  f
set_option maxRecDepth 100000 in
theorem TX3_bestWays_57_4 {G : GT} {l : Launch} {Q : Option AV → Mem → Prop}  (f : Mm) (h : OkI Q (FX3_bestWays_57_4  f)) : Ret G l MX3_bestWays (5) 0 0 [vR 57, vR 4] (SH, RF, f) Q := by
  refine ret_of (L := [some (vR 57), some (vR 4), none, none, none]) (by decide) rfl (Nat.le_of_ble_eq_true rfl) ?_
  exact SX3_bestWays_57_4_0  f h
theorem dX10_ways_0 : decode cX10_ways 0 = .ok (.aload_n 0, 1) := by decide +kernel
theorem dX10_ways_1 : decode cX10_ways 1 = .ok (.getfield 19, 3) := by decide +kernel
theorem dX10_ways_4 : decode cX10_ways 4 = .ok (.invokevirtual 140, 3) := by decide +kernel
theorem dX10_ways_7 : decode cX10_ways 7 = .ok (.ifCond .eq 17, 3) := by decide +kernel
theorem dX10_ways_24 : decode cX10_ways 24 = .ok (.bipush (-2), 2) := by decide +kernel
theorem dX10_ways_26 : decode cX10_ways 26 = .ok (.ireturn, 1) := by decide +kernel
theorem dX10_ways_10 : decode cX10_ways 10 = .ok (.aload_n 0, 1) := by decide +kernel
theorem dX10_ways_11 : decode cX10_ways 11 = .ok (.invokevirtual 189, 3) := by decide +kernel
theorem dX10_ways_14 : decode cX10_ways 14 = .ok (.aload_n 0, 1) := by decide +kernel
theorem dX10_ways_15 : decode cX10_ways 15 = .ok (.getfield 19, 3) := by decide +kernel
theorem dX10_ways_18 : decode cX10_ways 18 = .ok (.invokevirtual 204, 3) := by decide +kernel
theorem dX10_ways_21 : decode cX10_ways 21 = .ok (.goto 5, 3) := by decide +kernel
def FX10_ways_0   (f : Mm) : Option (Int × Mm) := (b2 (FX0_stands_4 f) fun y1 f1 => (if y1 = 0 then some ((-2), f1) else ((FX10_weighed f1).bind fun f2 => (b2 (FX3_bestWays_57_4 f2) fun y3 f3 => some (y3, f3)))))
set_option maxHeartbeats 4000000 in
set_option maxRecDepth 100000 in
theorem SX10_ways_0 {G : GT} {l : Launch} {Q : Option AV → Mem → Prop}   (f : Mm) (h : OkI Q (FX10_ways_0   f)) : Ev G l MX10_ways (Rm 6 0 0) (ZM G Q 0 0) 0 0 0 [some (vR 0)] [] (SH, RF, f) := by
  unfold FX10_ways_0 at h
  refine ev_aload_n (i := 0) dX10_ways_0 rfl rfl ?_
  refine ev_getR dX10_ways_1 fl_X10_19 sh_0 (by decide) (by decide) rf_0_1 ?_
  refine ev_cVI (b := 4) (av := []) (S := []) (fun q => q) h dX10_ways_4 (fun Q' q => TX0_stands_4 _ q) kvX0_stands ml_X10_140 sh_4 rfl (RRc (by decide) (by decide)) (Nat.le_of_ble_eq_true rfl) ⟨Nat.le_of_ble_eq_true rfl, Nat.le_of_ble_eq_true rfl⟩ (fun y1 f1 h => ?_)
  refine ev_if_eq (tgt := 24) dX10_ways_7 (by decide) (fun c4 => ?_) (fun c4 => ?_)
  · rw [if_pos c4] at h
    refine ev_bipush (v := (-2)) dX10_ways_24 (r32c rfl) (by decide) ?_
    exact ev_iret rfl dX10_ways_26 h
  · rw [if_neg c4] at h
    refine ev_aload_n (i := 0) dX10_ways_10 rfl rfl ?_
    refine ev_cVC (b := 0) (av := []) (S := []) (fun q => q) h dX10_ways_11 (fun Q' q => TX10_weighed _ q) kvX10_weighed ml_X10_189 sh_0 rfl (RRc (by decide) (by decide)) (Nat.le_of_ble_eq_true rfl) ⟨Nat.le_of_ble_eq_true rfl, Nat.le_of_ble_eq_true rfl⟩ (fun f2 h => ?_)
    refine ev_aload_n (i := 0) dX10_ways_14 rfl rfl ?_
    refine ev_getR dX10_ways_15 fl_X10_19 sh_0 (by decide) (by decide) rf_0_1 ?_
    refine ev_cVI (b := 57) (av := [vR 4]) (S := []) (fun q => q) h dX10_ways_18 (fun Q' q => TX3_bestWays_57_4 _ q) kvX3_bestWays ml_X10_204 sh_57 rfl (RRc (by decide) (by decide)) (Nat.le_of_ble_eq_true rfl) ⟨Nat.le_of_ble_eq_true rfl, Nat.le_of_ble_eq_true rfl⟩ (fun y3 f3 h => ?_)
    refine ev_goto (tgt := 26) dX10_ways_21 (by decide) ?_
    exact ev_iret rfl dX10_ways_26 h
def FX10_ways  (f : Mm) : Option (Int × Mm) := FX10_ways_0  f
set_option maxRecDepth 100000 in
theorem TX10_ways {G : GT} {l : Launch} {Q : Option AV → Mem → Prop}  (f : Mm) (h : OkI Q (FX10_ways  f)) : Ret G l MX10_ways (6) 0 0 [vR 0] (SH, RF, f) Q := by
  refine ret_of (L := [some (vR 0)]) (by decide) rfl (Nat.le_of_ble_eq_true rfl) ?_
  exact SX10_ways_0  f h
theorem dX10_peak_48 : decode cX10_peak 48 = .ok (.iinc 3 1, 3) := by decide +kernel
theorem dX10_peak_51 : decode cX10_peak 51 = .ok (.goto (-29), 3) := by decide +kernel
theorem dX10_peak_22 : decode cX10_peak 22 = .ok (.iload_n 3, 1) := by decide +kernel
theorem dX10_peak_23 : decode cX10_peak 23 = .ok (.aload_n 0, 1) := by decide +kernel
theorem dX10_peak_24 : decode cX10_peak 24 = .ok (.getfield 19, 3) := by decide +kernel
theorem dX10_peak_27 : decode cX10_peak 27 = .ok (.getfield 144, 3) := by decide +kernel
theorem dX10_peak_30 : decode cX10_peak 30 = .ok (.if_icmp .ge 24, 3) := by decide +kernel
theorem dX10_peak_54 : decode cX10_peak 54 = .ok (.iload_n 2, 1) := by decide +kernel
theorem dX10_peak_55 : decode cX10_peak 55 = .ok (.ireturn, 1) := by decide +kernel
theorem dX10_peak_33 : decode cX10_peak 33 = .ok (.aload_n 1, 1) := by decide +kernel
theorem dX10_peak_34 : decode cX10_peak 34 = .ok (.iload_n 3, 1) := by decide +kernel
theorem dX10_peak_35 : decode cX10_peak 35 = .ok (.invokevirtual 136, 3) := by decide +kernel
theorem dX10_peak_38 : decode cX10_peak 38 = .ok (.aload_n 1, 1) := by decide +kernel
theorem dX10_peak_39 : decode cX10_peak 39 = .ok (.iload_n 2, 1) := by decide +kernel
theorem dX10_peak_40 : decode cX10_peak 40 = .ok (.invokevirtual 136, 3) := by decide +kernel
theorem dX10_peak_43 : decode cX10_peak 43 = .ok (.if_icmp .le 5, 3) := by decide +kernel
theorem dX10_peak_46 : decode cX10_peak 46 = .ok (.iload_n 3, 1) := by decide +kernel
theorem dX10_peak_47 : decode cX10_peak 47 = .ok (.istore_n 2, 1) := by decide +kernel
theorem dX10_peak_0 : decode cX10_peak 0 = .ok (.aload_n 0, 1) := by decide +kernel
theorem dX10_peak_1 : decode cX10_peak 1 = .ok (.getfield 19, 3) := by decide +kernel
theorem dX10_peak_4 : decode cX10_peak 4 = .ok (.invokevirtual 140, 3) := by decide +kernel
theorem dX10_peak_7 : decode cX10_peak 7 = .ok (.ifCond .ne 6, 3) := by decide +kernel
theorem dX10_peak_13 : decode cX10_peak 13 = .ok (.aload_n 0, 1) := by decide +kernel
theorem dX10_peak_14 : decode cX10_peak 14 = .ok (.invokevirtual 129, 3) := by decide +kernel
theorem dX10_peak_17 : decode cX10_peak 17 = .ok (.astore_n 1, 1) := by decide +kernel
theorem dX10_peak_18 : decode cX10_peak 18 = .ok (.iconst 0, 1) := by decide +kernel
theorem dX10_peak_19 : decode cX10_peak 19 = .ok (.istore_n 2, 1) := by decide +kernel
theorem dX10_peak_20 : decode cX10_peak 20 = .ok (.iconst 1, 1) := by decide +kernel
theorem dX10_peak_21 : decode cX10_peak 21 = .ok (.istore_n 3, 1) := by decide +kernel
theorem dX10_peak_10 : decode cX10_peak 10 = .ok (.bipush (-2), 2) := by decide +kernel
theorem dX10_peak_12 : decode cX10_peak 12 = .ok (.ireturn, 1) := by decide +kernel
def FX10_peak_48 (k22 : Int → Int → Mm → Option (Int × Mm)) (x2 : Int) (x3 : Int) (f : Mm) : Option (Int × Mm) := k22 x2 (w32 (x3 + 1)) f
set_option maxHeartbeats 4000000 in
set_option maxRecDepth 100000 in
theorem SX10_peak_48 {G : GT} {l : Launch} {Q : Option AV → Mem → Prop} {k22 : Int → Int → Mm → Option (Int × Mm)} (q22 : ∀ (x2 : Int) (x3 : Int) (f : Mm), OkI Q (k22 x2 x3 f) → Ev G l MX10_peak (Rm 6 0 0) (ZM G Q 0 0) 0 0 22 [some (vR 0), some (vR 48), some (vI x2), some (vI x3)] [] (SH, RF, f)) (x2 : Int) (x3 : Int) (f : Mm) (h : OkI Q (FX10_peak_48 k22 x2 x3 f)) : Ev G l MX10_peak (Rm 6 0 0) (ZM G Q 0 0) 0 0 48 [some (vR 0), some (vR 48), some (vI x2), some (vI x3)] [] (SH, RF, f) := by
  unfold FX10_peak_48 at h
  refine ev_iinc (L' := [some (vR 0), some (vR 48), some (vI x2), some (vI (w32 (x3 + 1)))]) dX10_peak_48 rfl (by decide) rfl ?_
  refine ev_goto (tgt := 22) dX10_peak_51 (by decide) ?_
  exact q22 x2 (w32 (x3 + 1)) _ h
def FX10_peak_22  : Nat → Int → Int → Mm → Option (Int × Mm)
  | 0, _, _, _ => none
  | n + 1, x2, x3, f => (if (f 4 1) ≤ x3 then some (x2, f) else (b2 (FX1_widthOn x3 f) fun y1 f1 => (b2 (FX1_widthOn x2 f1) fun y2 f2 => (if y1 ≤ y2 then FX10_peak_48 (FX10_peak_22 n) x2 x3 f2 else FX10_peak_48 (FX10_peak_22 n) x3 x3 f2))))
set_option maxHeartbeats 4000000 in
set_option maxRecDepth 100000 in
theorem SX10_peak_22 {G : GT} {l : Launch} {Q : Option AV → Mem → Prop}  : ∀ (n : Nat) (x2 : Int) (x3 : Int) (f : Mm), OkI Q (FX10_peak_22  n x2 x3 f) → Ev G l MX10_peak (Rm 6 0 0) (ZM G Q 0 0) 0 0 22 [some (vR 0), some (vR 48), some (vI x2), some (vI x3)] [] (SH, RF, f) := by
  intro n
  induction n with
  | zero => intro x2 x3 f h; exact absurd h (by rw [FX10_peak_22]; exact fun q => q)
  | succ n ih =>
    intro x2 x3 f h
    rw [FX10_peak_22] at h
    refine ev_iload_n (i := 3) dX10_peak_22 rfl rfl ?_
    refine ev_aload_n (i := 0) dX10_peak_23 rfl rfl ?_
    refine ev_getR dX10_peak_24 fl_X10_19 sh_0 (by decide) (by decide) rf_0_1 ?_
    refine ex_getI (x := (f 4 1)) dX10_peak_27 fl_X10_144 sh_4 (by decide) (by decide) rfl ?_
    refine ev_icmp_ge (tgt := 54) dX10_peak_30 (by decide) (fun c4 => ?_) (fun c4 => ?_)
    · rw [if_pos c4] at h
      refine ev_iload_n (i := 2) dX10_peak_54 rfl rfl ?_
      exact ev_iret rfl dX10_peak_55 h
    · rw [if_neg c4] at h
      refine ev_aload_n (i := 1) dX10_peak_33 rfl rfl ?_
      refine ev_iload_n (i := 3) dX10_peak_34 rfl rfl ?_
      refine ev_cVI (b := 48) (av := [vI x3]) (S := []) (fun q => q) h dX10_peak_35 (fun Q' q => TX1_widthOn x3 _ q) kvX1_widthOn ml_X10_136 sh_48 rfl (RRc (by decide) (by decide)) (Nat.le_of_ble_eq_true rfl) ⟨Nat.le_of_ble_eq_true rfl, Nat.le_of_ble_eq_true rfl⟩ (fun y1 f1 h => ?_)
      refine ev_aload_n (i := 1) dX10_peak_38 rfl rfl ?_
      refine ev_iload_n (i := 2) dX10_peak_39 rfl rfl ?_
      refine ev_cVI (b := 48) (av := [vI x2]) (S := [vI y1]) (fun q => q) h dX10_peak_40 (fun Q' q => TX1_widthOn x2 _ q) kvX1_widthOn ml_X10_136 sh_48 rfl (RRc (by decide) (by decide)) (Nat.le_of_ble_eq_true rfl) ⟨Nat.le_of_ble_eq_true rfl, Nat.le_of_ble_eq_true rfl⟩ (fun y2 f2 h => ?_)
      refine ev_icmp_le (tgt := 48) dX10_peak_43 (by decide) (fun c3 => ?_) (fun c3 => ?_)
      · rw [if_pos c3] at h
        exact SX10_peak_48 ih x2 x3 _ h
      · rw [if_neg c3] at h
        refine ev_iload_n (i := 3) dX10_peak_46 rfl rfl ?_
        refine ev_istore_n (i := 2) (L' := [some (vR 0), some (vR 48), some (vI x3), some (vI x3)]) dX10_peak_47 rfl (by decide) rfl ?_
        exact SX10_peak_48 ih x3 x3 _ h
def FX10_peak_0   (f : Mm) : Option (Int × Mm) := (b2 (FX0_stands_4 f) fun y1 f1 => (if y1 = 0 then some ((-2), f1) else ((FX10_asNow f1).bind fun f2 => FX10_peak_22 fu 0 1 f2)))
set_option maxHeartbeats 4000000 in
set_option maxRecDepth 100000 in
theorem SX10_peak_0 {G : GT} {l : Launch} {Q : Option AV → Mem → Prop}   (f : Mm) (h : OkI Q (FX10_peak_0   f)) : Ev G l MX10_peak (Rm 6 0 0) (ZM G Q 0 0) 0 0 0 [some (vR 0), none, none, none] [] (SH, RF, f) := by
  unfold FX10_peak_0 at h
  refine ev_aload_n (i := 0) dX10_peak_0 rfl rfl ?_
  refine ev_getR dX10_peak_1 fl_X10_19 sh_0 (by decide) (by decide) rf_0_1 ?_
  refine ev_cVI (b := 4) (av := []) (S := []) (fun q => q) h dX10_peak_4 (fun Q' q => TX0_stands_4 _ q) kvX0_stands ml_X10_140 sh_4 rfl (RRc (by decide) (by decide)) (Nat.le_of_ble_eq_true rfl) ⟨Nat.le_of_ble_eq_true rfl, Nat.le_of_ble_eq_true rfl⟩ (fun y1 f1 h => ?_)
  refine ev_if_ne (tgt := 13) dX10_peak_7 (by decide) (fun c3 => ?_) (fun c3 => ?_)
  · rw [if_neg c3] at h
    refine ev_aload_n (i := 0) dX10_peak_13 rfl rfl ?_
    refine ev_cVC (b := 0) (av := []) (S := []) (fun q => q) h dX10_peak_14 (fun Q' q => TX10_asNow _ q) kvX10_asNow ml_X10_129 sh_0 rfl (RRc (by decide) (by decide)) (Nat.le_of_ble_eq_true rfl) ⟨Nat.le_of_ble_eq_true rfl, Nat.le_of_ble_eq_true rfl⟩ (fun f2 h => ?_)
    refine ev_astore_n (i := 1) (L' := [some (vR 0), some (vR 48), none, none]) dX10_peak_17 rfl (by decide) rfl ?_
    refine ev_iconst dX10_peak_18 (r32c rfl) ?_
    refine ev_istore_n (i := 2) (L' := [some (vR 0), some (vR 48), some (vI 0), none]) dX10_peak_19 rfl (by decide) rfl ?_
    refine ev_iconst dX10_peak_20 (r32c rfl) ?_
    refine ev_istore_n (i := 3) (L' := [some (vR 0), some (vR 48), some (vI 0), some (vI 1)]) dX10_peak_21 rfl (by decide) rfl ?_
    exact SX10_peak_22  fu 0 1 _ h
  · rw [if_pos c3] at h
    refine ev_bipush (v := (-2)) dX10_peak_10 (r32c rfl) (by decide) ?_
    exact ev_iret rfl dX10_peak_12 h
def FX10_peak  (f : Mm) : Option (Int × Mm) := FX10_peak_0  f
set_option maxRecDepth 100000 in
theorem TX10_peak {G : GT} {l : Launch} {Q : Option AV → Mem → Prop}  (f : Mm) (h : OkI Q (FX10_peak  f)) : Ret G l MX10_peak (6) 0 0 [vR 0] (SH, RF, f) Q := by
  refine ret_of (L := [some (vR 0), none, none, none]) (by decide) rfl (Nat.le_of_ble_eq_true rfl) ?_
  exact SX10_peak_0  f h
theorem dX10_lacks_82 : decode cX10_lacks 82 = .ok (.iconst 0, 1) := by decide +kernel
theorem dX10_lacks_83 : decode cX10_lacks 83 = .ok (.aload_n 3, 1) := by decide +kernel
theorem dX10_lacks_84 : decode cX10_lacks 84 = .ok (.iconst 1, 1) := by decide +kernel
theorem dX10_lacks_85 : decode cX10_lacks 85 = .ok (.iaload, 1) := by decide +kernel
theorem dX10_lacks_86 : decode cX10_lacks 86 = .ok (.iload 4, 2) := by decide +kernel
theorem dX10_lacks_88 : decode cX10_lacks 88 = .ok (.isub, 1) := by decide +kernel
theorem dX10_lacks_89 : decode cX10_lacks 89 = .ok (.invokestatic 207, 3) := by decide +kernel
theorem dX10_lacks_92 : decode cX10_lacks 92 = .ok (.ireturn, 1) := by decide +kernel
theorem dX10_lacks_76 : decode cX10_lacks 76 = .ok (.iinc 5 1, 3) := by decide +kernel
theorem dX10_lacks_79 : decode cX10_lacks 79 = .ok (.goto (-44), 3) := by decide +kernel
theorem dX10_lacks_35 : decode cX10_lacks 35 = .ok (.iload 5, 2) := by decide +kernel
theorem dX10_lacks_37 : decode cX10_lacks 37 = .ok (.aload_n 0, 1) := by decide +kernel
theorem dX10_lacks_38 : decode cX10_lacks 38 = .ok (.getfield 19, 3) := by decide +kernel
theorem dX10_lacks_41 : decode cX10_lacks 41 = .ok (.getfield 144, 3) := by decide +kernel
theorem dX10_lacks_44 : decode cX10_lacks 44 = .ok (.if_icmp .ge 38, 3) := by decide +kernel
theorem dX10_lacks_47 : decode cX10_lacks 47 = .ok (.iload 5, 2) := by decide +kernel
theorem dX10_lacks_49 : decode cX10_lacks 49 = .ok (.aload_n 3, 1) := by decide +kernel
theorem dX10_lacks_50 : decode cX10_lacks 50 = .ok (.iconst 2, 1) := by decide +kernel
theorem dX10_lacks_51 : decode cX10_lacks 51 = .ok (.iaload, 1) := by decide +kernel
theorem dX10_lacks_52 : decode cX10_lacks 52 = .ok (.if_icmp .lt 24, 3) := by decide +kernel
theorem dX10_lacks_55 : decode cX10_lacks 55 = .ok (.iload 5, 2) := by decide +kernel
theorem dX10_lacks_57 : decode cX10_lacks 57 = .ok (.aload_n 3, 1) := by decide +kernel
theorem dX10_lacks_58 : decode cX10_lacks 58 = .ok (.iconst 3, 1) := by decide +kernel
theorem dX10_lacks_59 : decode cX10_lacks 59 = .ok (.iaload, 1) := by decide +kernel
theorem dX10_lacks_60 : decode cX10_lacks 60 = .ok (.if_icmp .gt 16, 3) := by decide +kernel
theorem dX10_lacks_63 : decode cX10_lacks 63 = .ok (.iload 4, 2) := by decide +kernel
theorem dX10_lacks_65 : decode cX10_lacks 65 = .ok (.aload_n 2, 1) := by decide +kernel
theorem dX10_lacks_66 : decode cX10_lacks 66 = .ok (.iload 5, 2) := by decide +kernel
theorem dX10_lacks_68 : decode cX10_lacks 68 = .ok (.invokevirtual 136, 3) := by decide +kernel
theorem dX10_lacks_71 : decode cX10_lacks 71 = .ok (.invokestatic 207, 3) := by decide +kernel
theorem dX10_lacks_74 : decode cX10_lacks 74 = .ok (.istore 4, 2) := by decide +kernel
theorem dX10_lacks_0 : decode cX10_lacks 0 = .ok (.aload_n 0, 1) := by decide +kernel
theorem dX10_lacks_1 : decode cX10_lacks 1 = .ok (.getfield 19, 3) := by decide +kernel
theorem dX10_lacks_4 : decode cX10_lacks 4 = .ok (.iload_n 1, 1) := by decide +kernel
theorem dX10_lacks_5 : decode cX10_lacks 5 = .ok (.invokevirtual 117, 3) := by decide +kernel
theorem dX10_lacks_8 : decode cX10_lacks 8 = .ok (.ifCond .ne 6, 3) := by decide +kernel
theorem dX10_lacks_14 : decode cX10_lacks 14 = .ok (.aload_n 0, 1) := by decide +kernel
theorem dX10_lacks_15 : decode cX10_lacks 15 = .ok (.invokevirtual 129, 3) := by decide +kernel
theorem dX10_lacks_18 : decode cX10_lacks 18 = .ok (.astore_n 2, 1) := by decide +kernel
theorem dX10_lacks_19 : decode cX10_lacks 19 = .ok (.aload_n 0, 1) := by decide +kernel
theorem dX10_lacks_20 : decode cX10_lacks 20 = .ok (.getfield 19, 3) := by decide +kernel
theorem dX10_lacks_23 : decode cX10_lacks 23 = .ok (.getfield 120, 3) := by decide +kernel
theorem dX10_lacks_26 : decode cX10_lacks 26 = .ok (.iload_n 1, 1) := by decide +kernel
theorem dX10_lacks_27 : decode cX10_lacks 27 = .ok (.aaload, 1) := by decide +kernel
theorem dX10_lacks_28 : decode cX10_lacks 28 = .ok (.astore_n 3, 1) := by decide +kernel
theorem dX10_lacks_29 : decode cX10_lacks 29 = .ok (.iconst 0, 1) := by decide +kernel
theorem dX10_lacks_30 : decode cX10_lacks 30 = .ok (.istore 4, 2) := by decide +kernel
theorem dX10_lacks_32 : decode cX10_lacks 32 = .ok (.iconst 0, 1) := by decide +kernel
theorem dX10_lacks_33 : decode cX10_lacks 33 = .ok (.istore 5, 2) := by decide +kernel
theorem dX10_lacks_11 : decode cX10_lacks 11 = .ok (.bipush (-2), 2) := by decide +kernel
theorem dX10_lacks_13 : decode cX10_lacks 13 = .ok (.ireturn, 1) := by decide +kernel
def FX10_lacks_82  (a3 : Nat) (x4 : Int) (f : Mm) : Option (Int × Mm) := (if SH[a3]? = some (0, 5) then some ((jMax 0 (w32 ((f a3 1) - x4))), f) else none)
set_option maxHeartbeats 4000000 in
set_option maxRecDepth 100000 in
theorem SX10_lacks_82 {G : GT} {l : Launch} {Q : Option AV → Mem → Prop}  (a3 : Nat) (x4 : Int) (f : Mm) (h : OkI Q (FX10_lacks_82  a3 x4 f)) : Ev G l MX10_lacks (Rm 6 0 0) (ZM G Q 0 0) 0 0 82 [none, none, none, some (vR a3), some (vI x4), none] [] (SH, RF, f) := by
  unfold FX10_lacks_82 at h
  refine ev_iconst dX10_lacks_82 (r32c rfl) ?_
  refine ev_aload_n (i := 3) dX10_lacks_83 rfl rfl ?_
  refine ev_iconst dX10_lacks_84 (r32c rfl) ?_
  by_cases g1 : SH[a3]? = some (0, 5)
  · rw [if_pos g1] at h
    refine ex_iald (x := (f a3 1)) dX10_lacks_85 g1 (by decide) (by decide) rfl ?_
    refine ev_iload dX10_lacks_86 rfl ?_
    refine ev_isub dX10_lacks_88 ?_
    refine ev_mmax dX10_lacks_89 mlm_X10_207 (Nat.le_of_ble_eq_true rfl) (Nat.le_of_ble_eq_true rfl) (Nat.le_of_ble_eq_true rfl) (Nat.le_of_ble_eq_true rfl) ?_
    exact ev_iret rfl dX10_lacks_92 h
  · rw [if_neg g1] at h; exact h.elim
def FX10_lacks_76 (k35 : Nat → Int → Int → Mm → Option (Int × Mm)) (a3 : Nat) (x4 : Int) (x5 : Int) (f : Mm) : Option (Int × Mm) := k35 a3 x4 (w32 (x5 + 1)) f
set_option maxHeartbeats 4000000 in
set_option maxRecDepth 100000 in
theorem SX10_lacks_76 {G : GT} {l : Launch} {Q : Option AV → Mem → Prop} {k35 : Nat → Int → Int → Mm → Option (Int × Mm)} (q35 : ∀ (a3 : Nat) (x4 : Int) (x5 : Int) (f : Mm), OkI Q (k35 a3 x4 x5 f) → Ev G l MX10_lacks (Rm 6 0 0) (ZM G Q 0 0) 0 0 35 [some (vR 0), none, some (vR 48), some (vR a3), some (vI x4), some (vI x5)] [] (SH, RF, f)) (a3 : Nat) (x4 : Int) (x5 : Int) (f : Mm) (h : OkI Q (FX10_lacks_76 k35 a3 x4 x5 f)) : Ev G l MX10_lacks (Rm 6 0 0) (ZM G Q 0 0) 0 0 76 [some (vR 0), none, some (vR 48), some (vR a3), some (vI x4), some (vI x5)] [] (SH, RF, f) := by
  unfold FX10_lacks_76 at h
  refine ev_iinc (L' := [some (vR 0), none, some (vR 48), some (vR a3), some (vI x4), some (vI (w32 (x5 + 1)))]) dX10_lacks_76 rfl (by decide) rfl ?_
  refine ev_goto (tgt := 35) dX10_lacks_79 (by decide) ?_
  exact q35 a3 x4 (w32 (x5 + 1)) _ h
def FX10_lacks_35  : Nat → Nat → Int → Int → Mm → Option (Int × Mm)
  | 0, _, _, _, _ => none
  | n + 1, a3, x4, x5, f => (if (f 4 1) ≤ x5 then FX10_lacks_82 a3 x4 f else (if SH[a3]? = some (0, 5) then (if x5 < (f a3 2) then FX10_lacks_76 (FX10_lacks_35 n) a3 x4 x5 f else (if (f a3 3) < x5 then FX10_lacks_76 (FX10_lacks_35 n) a3 x4 x5 f else (b2 (FX1_widthOn x5 f) fun y2 f2 => FX10_lacks_76 (FX10_lacks_35 n) a3 (jMax x4 y2) x5 f2))) else none))
set_option maxHeartbeats 4000000 in
set_option maxRecDepth 100000 in
theorem SX10_lacks_35 {G : GT} {l : Launch} {Q : Option AV → Mem → Prop}  : ∀ (n : Nat) (a3 : Nat) (x4 : Int) (x5 : Int) (f : Mm), OkI Q (FX10_lacks_35  n a3 x4 x5 f) → Ev G l MX10_lacks (Rm 6 0 0) (ZM G Q 0 0) 0 0 35 [some (vR 0), none, some (vR 48), some (vR a3), some (vI x4), some (vI x5)] [] (SH, RF, f) := by
  intro n
  induction n with
  | zero => intro a3 x4 x5 f h; exact absurd h (by rw [FX10_lacks_35]; exact fun q => q)
  | succ n ih =>
    intro a3 x4 x5 f h
    rw [FX10_lacks_35] at h
    refine ev_iload dX10_lacks_35 rfl ?_
    refine ev_aload_n (i := 0) dX10_lacks_37 rfl rfl ?_
    refine ev_getR dX10_lacks_38 fl_X10_19 sh_0 (by decide) (by decide) rf_0_1 ?_
    refine ex_getI (x := (f 4 1)) dX10_lacks_41 fl_X10_144 sh_4 (by decide) (by decide) rfl ?_
    refine ev_icmp_ge (tgt := 82) dX10_lacks_44 (by decide) (fun c5 => ?_) (fun c5 => ?_)
    · rw [if_pos c5] at h
      refine ev_fg [false, true, false, true, true, false] rfl ?_
      exact SX10_lacks_82  a3 x4 _ h
    · rw [if_neg c5] at h
      refine ev_iload dX10_lacks_47 rfl ?_
      refine ev_aload_n (i := 3) dX10_lacks_49 rfl rfl ?_
      refine ev_iconst dX10_lacks_50 (r32c rfl) ?_
      by_cases g1 : SH[a3]? = some (0, 5)
      · rw [if_pos g1] at h
        refine ex_iald (x := (f a3 2)) dX10_lacks_51 g1 (by decide) (by decide) rfl ?_
        refine ev_icmp_lt (tgt := 76) dX10_lacks_52 (by decide) (fun c4 => ?_) (fun c4 => ?_)
        · rw [if_pos c4] at h
          exact SX10_lacks_76 ih a3 x4 x5 _ h
        · rw [if_neg c4] at h
          refine ev_iload dX10_lacks_55 rfl ?_
          refine ev_aload_n (i := 3) dX10_lacks_57 rfl rfl ?_
          refine ev_iconst dX10_lacks_58 (r32c rfl) ?_
          refine ex_iald (x := (f a3 3)) dX10_lacks_59 g1 (by decide) (by decide) rfl ?_
          refine ev_icmp_gt (tgt := 76) dX10_lacks_60 (by decide) (fun c3 => ?_) (fun c3 => ?_)
          · rw [if_pos c3] at h
            exact SX10_lacks_76 ih a3 x4 x5 _ h
          · rw [if_neg c3] at h
            refine ev_iload dX10_lacks_63 rfl ?_
            refine ev_aload_n (i := 2) dX10_lacks_65 rfl rfl ?_
            refine ev_iload dX10_lacks_66 rfl ?_
            refine ev_cVI (b := 48) (av := [vI x5]) (S := [vI x4]) (fun q => q) h dX10_lacks_68 (fun Q' q => TX1_widthOn x5 _ q) kvX1_widthOn ml_X10_136 sh_48 rfl (RRc (by decide) (by decide)) (Nat.le_of_ble_eq_true rfl) ⟨Nat.le_of_ble_eq_true rfl, Nat.le_of_ble_eq_true rfl⟩ (fun y2 f2 h => ?_)
            refine ev_mmax dX10_lacks_71 mlm_X10_207 (Nat.le_of_ble_eq_true rfl) (Nat.le_of_ble_eq_true rfl) (Nat.le_of_ble_eq_true rfl) (Nat.le_of_ble_eq_true rfl) ?_
            refine ev_istore (L' := [some (vR 0), none, some (vR 48), some (vR a3), some (vI (jMax x4 y2)), some (vI x5)]) dX10_lacks_74 (by decide) rfl ?_
            exact SX10_lacks_76 ih a3 (jMax x4 y2) x5 _ h
      · rw [if_neg g1] at h; exact h.elim
def FX10_lacks_0  (x1 : Int) (f : Mm) : Option (Int × Mm) := (b2 (FX0_hasCart_4 x1 f) fun y1 f1 => (if y1 = 0 then some ((-2), f1) else ((FX10_asNow f1).bind fun f2 => (if 0 ≤ x1 ∧ x1 < 6 then FX10_lacks_35 fu (12 + x1.toNat) 0 0 f2 else none))))
set_option maxHeartbeats 4000000 in
set_option maxRecDepth 100000 in
theorem SX10_lacks_0 {G : GT} {l : Launch} {Q : Option AV → Mem → Prop}  (x1 : Int) (f : Mm) (h : OkI Q (FX10_lacks_0  x1 f)) : Ev G l MX10_lacks (Rm 6 0 0) (ZM G Q 0 0) 0 0 0 [some (vR 0), some (vI x1), none, none, none, none] [] (SH, RF, f) := by
  unfold FX10_lacks_0 at h
  refine ev_aload_n (i := 0) dX10_lacks_0 rfl rfl ?_
  refine ev_getR dX10_lacks_1 fl_X10_19 sh_0 (by decide) (by decide) rf_0_1 ?_
  refine ev_iload_n (i := 1) dX10_lacks_4 rfl rfl ?_
  refine ev_cVI (b := 4) (av := [vI x1]) (S := []) (fun q => q) h dX10_lacks_5 (fun Q' q => TX0_hasCart_4 x1 _ q) kvX0_hasCart ml_X10_117 sh_4 rfl (RRc (by decide) (by decide)) (Nat.le_of_ble_eq_true rfl) ⟨Nat.le_of_ble_eq_true rfl, Nat.le_of_ble_eq_true rfl⟩ (fun y1 f1 h => ?_)
  refine ev_if_ne (tgt := 14) dX10_lacks_8 (by decide) (fun c4 => ?_) (fun c4 => ?_)
  · rw [if_neg c4] at h
    refine ev_aload_n (i := 0) dX10_lacks_14 rfl rfl ?_
    refine ev_cVC (b := 0) (av := []) (S := []) (fun q => q) h dX10_lacks_15 (fun Q' q => TX10_asNow _ q) kvX10_asNow ml_X10_129 sh_0 rfl (RRc (by decide) (by decide)) (Nat.le_of_ble_eq_true rfl) ⟨Nat.le_of_ble_eq_true rfl, Nat.le_of_ble_eq_true rfl⟩ (fun f2 h => ?_)
    refine ev_astore_n (i := 2) (L' := [some (vR 0), some (vI x1), some (vR 48), none, none, none]) dX10_lacks_18 rfl (by decide) rfl ?_
    refine ev_aload_n (i := 0) dX10_lacks_19 rfl rfl ?_
    refine ev_getR dX10_lacks_20 fl_X10_19 sh_0 (by decide) (by decide) rf_0_1 ?_
    refine ev_getR dX10_lacks_23 fl_X10_120 sh_4 (by decide) (by decide) rf_4_9 ?_
    refine ev_iload_n (i := 1) dX10_lacks_26 rfl rfl ?_
    by_cases g3 : 0 ≤ x1 ∧ x1 < 6
    · rw [if_pos g3] at h
      refine ev_aald (b := (12 + x1.toNat)) dX10_lacks_27 (Or.inl rfl) sh_11 g3.1 g3.2 (rfr_11 g3) ?_
      refine ev_astore_n (i := 3) (L' := [some (vR 0), some (vI x1), some (vR 48), some (vR (12 + x1.toNat)), none, none]) dX10_lacks_28 rfl (by decide) rfl ?_
      refine ev_iconst dX10_lacks_29 (r32c rfl) ?_
      refine ev_istore (L' := [some (vR 0), some (vI x1), some (vR 48), some (vR (12 + x1.toNat)), some (vI 0), none]) dX10_lacks_30 (by decide) rfl ?_
      refine ev_iconst dX10_lacks_32 (r32c rfl) ?_
      refine ev_istore (L' := [some (vR 0), some (vI x1), some (vR 48), some (vR (12 + x1.toNat)), some (vI 0), some (vI 0)]) dX10_lacks_33 (by decide) rfl ?_
      refine ev_fg [true, false, true, true, true, true] rfl ?_
      exact SX10_lacks_35  fu (12 + x1.toNat) 0 0 _ h
    · rw [if_neg g3] at h; exact h.elim
  · rw [if_pos c4] at h
    refine ev_bipush (v := (-2)) dX10_lacks_11 (r32c rfl) (by decide) ?_
    exact ev_iret rfl dX10_lacks_13 h
def FX10_lacks (x1 : Int) (f : Mm) : Option (Int × Mm) := FX10_lacks_0 x1 f
set_option maxRecDepth 100000 in
theorem TX10_lacks {G : GT} {l : Launch} {Q : Option AV → Mem → Prop} (x1 : Int) (f : Mm) (h : OkI Q (FX10_lacks x1 f)) : Ret G l MX10_lacks (6) 0 0 [vR 0, vI x1] (SH, RF, f) Q := by
  refine ret_of (L := [some (vR 0), some (vI x1), none, none, none, none]) (by decide) rfl (Nat.le_of_ble_eq_true rfl) ?_
  exact SX10_lacks_0 x1 f h
theorem dJ6_bitCount_0f7a4_0 : decode cJ6_bitCount_0f7a4 0 = .ok (.iload_n 0, 1) := by decide +kernel
theorem dJ6_bitCount_0f7a4_1 : decode cJ6_bitCount_0f7a4 1 = .ok (.iload_n 0, 1) := by decide +kernel
theorem dJ6_bitCount_0f7a4_2 : decode cJ6_bitCount_0f7a4 2 = .ok (.iconst 1, 1) := by decide +kernel
theorem dJ6_bitCount_0f7a4_3 : decode cJ6_bitCount_0f7a4 3 = .ok (.iushr, 1) := by decide +kernel
theorem dJ6_bitCount_0f7a4_4 : decode cJ6_bitCount_0f7a4 4 = .ok (.ldc_w 265, 3) := by decide +kernel
theorem dJ6_bitCount_0f7a4_7 : decode cJ6_bitCount_0f7a4 7 = .ok (.iand, 1) := by decide +kernel
theorem dJ6_bitCount_0f7a4_8 : decode cJ6_bitCount_0f7a4 8 = .ok (.isub, 1) := by decide +kernel
theorem dJ6_bitCount_0f7a4_9 : decode cJ6_bitCount_0f7a4 9 = .ok (.istore_n 0, 1) := by decide +kernel
theorem dJ6_bitCount_0f7a4_10 : decode cJ6_bitCount_0f7a4 10 = .ok (.iload_n 0, 1) := by decide +kernel
theorem dJ6_bitCount_0f7a4_11 : decode cJ6_bitCount_0f7a4 11 = .ok (.ldc_w 266, 3) := by decide +kernel
theorem dJ6_bitCount_0f7a4_14 : decode cJ6_bitCount_0f7a4 14 = .ok (.iand, 1) := by decide +kernel
theorem dJ6_bitCount_0f7a4_15 : decode cJ6_bitCount_0f7a4 15 = .ok (.iload_n 0, 1) := by decide +kernel
theorem dJ6_bitCount_0f7a4_16 : decode cJ6_bitCount_0f7a4 16 = .ok (.iconst 2, 1) := by decide +kernel
theorem dJ6_bitCount_0f7a4_17 : decode cJ6_bitCount_0f7a4 17 = .ok (.iushr, 1) := by decide +kernel
theorem dJ6_bitCount_0f7a4_18 : decode cJ6_bitCount_0f7a4 18 = .ok (.ldc_w 266, 3) := by decide +kernel
theorem dJ6_bitCount_0f7a4_21 : decode cJ6_bitCount_0f7a4 21 = .ok (.iand, 1) := by decide +kernel
theorem dJ6_bitCount_0f7a4_22 : decode cJ6_bitCount_0f7a4 22 = .ok (.iadd, 1) := by decide +kernel
theorem dJ6_bitCount_0f7a4_23 : decode cJ6_bitCount_0f7a4 23 = .ok (.istore_n 0, 1) := by decide +kernel
theorem dJ6_bitCount_0f7a4_24 : decode cJ6_bitCount_0f7a4 24 = .ok (.iload_n 0, 1) := by decide +kernel
theorem dJ6_bitCount_0f7a4_25 : decode cJ6_bitCount_0f7a4 25 = .ok (.iload_n 0, 1) := by decide +kernel
theorem dJ6_bitCount_0f7a4_26 : decode cJ6_bitCount_0f7a4 26 = .ok (.iconst 4, 1) := by decide +kernel
theorem dJ6_bitCount_0f7a4_27 : decode cJ6_bitCount_0f7a4 27 = .ok (.iushr, 1) := by decide +kernel
theorem dJ6_bitCount_0f7a4_28 : decode cJ6_bitCount_0f7a4 28 = .ok (.iadd, 1) := by decide +kernel
theorem dJ6_bitCount_0f7a4_29 : decode cJ6_bitCount_0f7a4 29 = .ok (.ldc_w 267, 3) := by decide +kernel
theorem dJ6_bitCount_0f7a4_32 : decode cJ6_bitCount_0f7a4 32 = .ok (.iand, 1) := by decide +kernel
theorem dJ6_bitCount_0f7a4_33 : decode cJ6_bitCount_0f7a4 33 = .ok (.istore_n 0, 1) := by decide +kernel
theorem dJ6_bitCount_0f7a4_34 : decode cJ6_bitCount_0f7a4 34 = .ok (.iload_n 0, 1) := by decide +kernel
theorem dJ6_bitCount_0f7a4_35 : decode cJ6_bitCount_0f7a4 35 = .ok (.iload_n 0, 1) := by decide +kernel
theorem dJ6_bitCount_0f7a4_36 : decode cJ6_bitCount_0f7a4 36 = .ok (.bipush 8, 2) := by decide +kernel
theorem dJ6_bitCount_0f7a4_38 : decode cJ6_bitCount_0f7a4 38 = .ok (.iushr, 1) := by decide +kernel
theorem dJ6_bitCount_0f7a4_39 : decode cJ6_bitCount_0f7a4 39 = .ok (.iadd, 1) := by decide +kernel
theorem dJ6_bitCount_0f7a4_40 : decode cJ6_bitCount_0f7a4 40 = .ok (.istore_n 0, 1) := by decide +kernel
theorem dJ6_bitCount_0f7a4_41 : decode cJ6_bitCount_0f7a4 41 = .ok (.iload_n 0, 1) := by decide +kernel
theorem dJ6_bitCount_0f7a4_42 : decode cJ6_bitCount_0f7a4 42 = .ok (.iload_n 0, 1) := by decide +kernel
theorem dJ6_bitCount_0f7a4_43 : decode cJ6_bitCount_0f7a4 43 = .ok (.bipush 16, 2) := by decide +kernel
theorem dJ6_bitCount_0f7a4_45 : decode cJ6_bitCount_0f7a4 45 = .ok (.iushr, 1) := by decide +kernel
theorem dJ6_bitCount_0f7a4_46 : decode cJ6_bitCount_0f7a4 46 = .ok (.iadd, 1) := by decide +kernel
theorem dJ6_bitCount_0f7a4_47 : decode cJ6_bitCount_0f7a4 47 = .ok (.istore_n 0, 1) := by decide +kernel
theorem dJ6_bitCount_0f7a4_48 : decode cJ6_bitCount_0f7a4 48 = .ok (.iload_n 0, 1) := by decide +kernel
theorem dJ6_bitCount_0f7a4_49 : decode cJ6_bitCount_0f7a4 49 = .ok (.bipush 63, 2) := by decide +kernel
theorem dJ6_bitCount_0f7a4_51 : decode cJ6_bitCount_0f7a4 51 = .ok (.iand, 1) := by decide +kernel
theorem dJ6_bitCount_0f7a4_52 : decode cJ6_bitCount_0f7a4 52 = .ok (.ireturn, 1) := by decide +kernel
def FJ6_bitCount_0f7a4_0  (x0 : Int) (f : Mm) : Option (Int × Mm) := some ((bAnd (w32 ((w32 ((bAnd (w32 ((w32 ((bAnd (w32 (x0 - (bAnd (bUshr x0 1) 1431655765))) 858993459) + (bAnd (bUshr (w32 (x0 - (bAnd (bUshr x0 1) 1431655765))) 2) 858993459))) + (bUshr (w32 ((bAnd (w32 (x0 - (bAnd (bUshr x0 1) 1431655765))) 858993459) + (bAnd (bUshr (w32 (x0 - (bAnd (bUshr x0 1) 1431655765))) 2) 858993459))) 4))) 252645135) + (bUshr (bAnd (w32 ((w32 ((bAnd (w32 (x0 - (bAnd (bUshr x0 1) 1431655765))) 858993459) + (bAnd (bUshr (w32 (x0 - (bAnd (bUshr x0 1) 1431655765))) 2) 858993459))) + (bUshr (w32 ((bAnd (w32 (x0 - (bAnd (bUshr x0 1) 1431655765))) 858993459) + (bAnd (bUshr (w32 (x0 - (bAnd (bUshr x0 1) 1431655765))) 2) 858993459))) 4))) 252645135) 8))) + (bUshr (w32 ((bAnd (w32 ((w32 ((bAnd (w32 (x0 - (bAnd (bUshr x0 1) 1431655765))) 858993459) + (bAnd (bUshr (w32 (x0 - (bAnd (bUshr x0 1) 1431655765))) 2) 858993459))) + (bUshr (w32 ((bAnd (w32 (x0 - (bAnd (bUshr x0 1) 1431655765))) 858993459) + (bAnd (bUshr (w32 (x0 - (bAnd (bUshr x0 1) 1431655765))) 2) 858993459))) 4))) 252645135) + (bUshr (bAnd (w32 ((w32 ((bAnd (w32 (x0 - (bAnd (bUshr x0 1) 1431655765))) 858993459) + (bAnd (bUshr (w32 (x0 - (bAnd (bUshr x0 1) 1431655765))) 2) 858993459))) + (bUshr (w32 ((bAnd (w32 (x0 - (bAnd (bUshr x0 1) 1431655765))) 858993459) + (bAnd (bUshr (w32 (x0 - (bAnd (bUshr x0 1) 1431655765))) 2) 858993459))) 4))) 252645135) 8))) 16))) 63), f)
set_option maxHeartbeats 4000000 in
set_option maxRecDepth 100000 in
theorem SJ6_bitCount_0f7a4_0 {G : GT} {l : Launch} {Q : Option AV → Mem → Prop}  (x0 : Int) (f : Mm) (h : OkI Q (FJ6_bitCount_0f7a4_0  x0 f)) : Ev G l MJ6_bitCount_0f7a4 (Rm 1 0 0) (ZM G Q 0 0) 0 0 0 [some (vI x0)] [] (SH, RF, f) := by
  unfold FJ6_bitCount_0f7a4_0 at h
  refine ev_iload_n (i := 0) dJ6_bitCount_0f7a4_0 rfl rfl ?_
  refine ev_iload_n (i := 0) dJ6_bitCount_0f7a4_1 rfl rfl ?_
  refine ev_iconst dJ6_bitCount_0f7a4_2 (r32c rfl) ?_
  refine ev_iushr dJ6_bitCount_0f7a4_3 ?_
  refine ev_ldcw (v := 1431655765) dJ6_bitCount_0f7a4_4 (r32c rfl) kc_J6_265 ?_
  refine ev_iand dJ6_bitCount_0f7a4_7 ?_
  refine ev_isub dJ6_bitCount_0f7a4_8 ?_
  refine ev_istore_n (i := 0) (L' := [some (vI (w32 (x0 - (bAnd (bUshr x0 1) 1431655765))))]) dJ6_bitCount_0f7a4_9 rfl (by decide) rfl ?_
  refine ev_iload_n (i := 0) dJ6_bitCount_0f7a4_10 rfl rfl ?_
  refine ev_ldcw (v := 858993459) dJ6_bitCount_0f7a4_11 (r32c rfl) kc_J6_266 ?_
  refine ev_iand dJ6_bitCount_0f7a4_14 ?_
  refine ev_iload_n (i := 0) dJ6_bitCount_0f7a4_15 rfl rfl ?_
  refine ev_iconst dJ6_bitCount_0f7a4_16 (r32c rfl) ?_
  refine ev_iushr dJ6_bitCount_0f7a4_17 ?_
  refine ev_ldcw (v := 858993459) dJ6_bitCount_0f7a4_18 (r32c rfl) kc_J6_266 ?_
  refine ev_iand dJ6_bitCount_0f7a4_21 ?_
  refine ev_iadd dJ6_bitCount_0f7a4_22 ?_
  refine ev_istore_n (i := 0) (L' := [some (vI (w32 ((bAnd (w32 (x0 - (bAnd (bUshr x0 1) 1431655765))) 858993459) + (bAnd (bUshr (w32 (x0 - (bAnd (bUshr x0 1) 1431655765))) 2) 858993459))))]) dJ6_bitCount_0f7a4_23 rfl (by decide) rfl ?_
  refine ev_iload_n (i := 0) dJ6_bitCount_0f7a4_24 rfl rfl ?_
  refine ev_iload_n (i := 0) dJ6_bitCount_0f7a4_25 rfl rfl ?_
  refine ev_iconst dJ6_bitCount_0f7a4_26 (r32c rfl) ?_
  refine ev_iushr dJ6_bitCount_0f7a4_27 ?_
  refine ev_iadd dJ6_bitCount_0f7a4_28 ?_
  refine ev_ldcw (v := 252645135) dJ6_bitCount_0f7a4_29 (r32c rfl) kc_J6_267 ?_
  refine ev_iand dJ6_bitCount_0f7a4_32 ?_
  refine ev_istore_n (i := 0) (L' := [some (vI (bAnd (w32 ((w32 ((bAnd (w32 (x0 - (bAnd (bUshr x0 1) 1431655765))) 858993459) + (bAnd (bUshr (w32 (x0 - (bAnd (bUshr x0 1) 1431655765))) 2) 858993459))) + (bUshr (w32 ((bAnd (w32 (x0 - (bAnd (bUshr x0 1) 1431655765))) 858993459) + (bAnd (bUshr (w32 (x0 - (bAnd (bUshr x0 1) 1431655765))) 2) 858993459))) 4))) 252645135))]) dJ6_bitCount_0f7a4_33 rfl (by decide) rfl ?_
  refine ev_iload_n (i := 0) dJ6_bitCount_0f7a4_34 rfl rfl ?_
  refine ev_iload_n (i := 0) dJ6_bitCount_0f7a4_35 rfl rfl ?_
  refine ev_bipush (v := 8) dJ6_bitCount_0f7a4_36 (r32c rfl) (by decide) ?_
  refine ev_iushr dJ6_bitCount_0f7a4_38 ?_
  refine ev_iadd dJ6_bitCount_0f7a4_39 ?_
  refine ev_istore_n (i := 0) (L' := [some (vI (w32 ((bAnd (w32 ((w32 ((bAnd (w32 (x0 - (bAnd (bUshr x0 1) 1431655765))) 858993459) + (bAnd (bUshr (w32 (x0 - (bAnd (bUshr x0 1) 1431655765))) 2) 858993459))) + (bUshr (w32 ((bAnd (w32 (x0 - (bAnd (bUshr x0 1) 1431655765))) 858993459) + (bAnd (bUshr (w32 (x0 - (bAnd (bUshr x0 1) 1431655765))) 2) 858993459))) 4))) 252645135) + (bUshr (bAnd (w32 ((w32 ((bAnd (w32 (x0 - (bAnd (bUshr x0 1) 1431655765))) 858993459) + (bAnd (bUshr (w32 (x0 - (bAnd (bUshr x0 1) 1431655765))) 2) 858993459))) + (bUshr (w32 ((bAnd (w32 (x0 - (bAnd (bUshr x0 1) 1431655765))) 858993459) + (bAnd (bUshr (w32 (x0 - (bAnd (bUshr x0 1) 1431655765))) 2) 858993459))) 4))) 252645135) 8))))]) dJ6_bitCount_0f7a4_40 rfl (by decide) rfl ?_
  refine ev_iload_n (i := 0) dJ6_bitCount_0f7a4_41 rfl rfl ?_
  refine ev_iload_n (i := 0) dJ6_bitCount_0f7a4_42 rfl rfl ?_
  refine ev_bipush (v := 16) dJ6_bitCount_0f7a4_43 (r32c rfl) (by decide) ?_
  refine ev_iushr dJ6_bitCount_0f7a4_45 ?_
  refine ev_iadd dJ6_bitCount_0f7a4_46 ?_
  refine ev_istore_n (i := 0) (L' := [some (vI (w32 ((w32 ((bAnd (w32 ((w32 ((bAnd (w32 (x0 - (bAnd (bUshr x0 1) 1431655765))) 858993459) + (bAnd (bUshr (w32 (x0 - (bAnd (bUshr x0 1) 1431655765))) 2) 858993459))) + (bUshr (w32 ((bAnd (w32 (x0 - (bAnd (bUshr x0 1) 1431655765))) 858993459) + (bAnd (bUshr (w32 (x0 - (bAnd (bUshr x0 1) 1431655765))) 2) 858993459))) 4))) 252645135) + (bUshr (bAnd (w32 ((w32 ((bAnd (w32 (x0 - (bAnd (bUshr x0 1) 1431655765))) 858993459) + (bAnd (bUshr (w32 (x0 - (bAnd (bUshr x0 1) 1431655765))) 2) 858993459))) + (bUshr (w32 ((bAnd (w32 (x0 - (bAnd (bUshr x0 1) 1431655765))) 858993459) + (bAnd (bUshr (w32 (x0 - (bAnd (bUshr x0 1) 1431655765))) 2) 858993459))) 4))) 252645135) 8))) + (bUshr (w32 ((bAnd (w32 ((w32 ((bAnd (w32 (x0 - (bAnd (bUshr x0 1) 1431655765))) 858993459) + (bAnd (bUshr (w32 (x0 - (bAnd (bUshr x0 1) 1431655765))) 2) 858993459))) + (bUshr (w32 ((bAnd (w32 (x0 - (bAnd (bUshr x0 1) 1431655765))) 858993459) + (bAnd (bUshr (w32 (x0 - (bAnd (bUshr x0 1) 1431655765))) 2) 858993459))) 4))) 252645135) + (bUshr (bAnd (w32 ((w32 ((bAnd (w32 (x0 - (bAnd (bUshr x0 1) 1431655765))) 858993459) + (bAnd (bUshr (w32 (x0 - (bAnd (bUshr x0 1) 1431655765))) 2) 858993459))) + (bUshr (w32 ((bAnd (w32 (x0 - (bAnd (bUshr x0 1) 1431655765))) 858993459) + (bAnd (bUshr (w32 (x0 - (bAnd (bUshr x0 1) 1431655765))) 2) 858993459))) 4))) 252645135) 8))) 16))))]) dJ6_bitCount_0f7a4_47 rfl (by decide) rfl ?_
  refine ev_iload_n (i := 0) dJ6_bitCount_0f7a4_48 rfl rfl ?_
  refine ev_bipush (v := 63) dJ6_bitCount_0f7a4_49 (r32c rfl) (by decide) ?_
  refine ev_iand dJ6_bitCount_0f7a4_51 ?_
  exact ev_iret rfl dJ6_bitCount_0f7a4_52 h
def FJ6_bitCount_0f7a4 (x0 : Int) (f : Mm) : Option (Int × Mm) := FJ6_bitCount_0f7a4_0 x0 f
set_option maxRecDepth 100000 in
theorem TJ6_bitCount_0f7a4 {G : GT} {l : Launch} {Q : Option AV → Mem → Prop} (x0 : Int) (f : Mm) (h : OkI Q (FJ6_bitCount_0f7a4 x0 f)) : Ret G l MJ6_bitCount_0f7a4 (1) 0 0 [vI x0] (SH, RF, f) Q := by
  refine ret_of (L := [some (vI x0)]) (by decide) rfl (Nat.le_of_ble_eq_true rfl) ?_
  exact SJ6_bitCount_0f7a4_0 x0 f h
theorem dX10_crowd_60 : decode cX10_crowd 60 = .ok (.iinc 4 1, 3) := by decide +kernel
theorem dX10_crowd_63 : decode cX10_crowd 63 = .ok (.goto (-38), 3) := by decide +kernel
theorem dX10_crowd_25 : decode cX10_crowd 25 = .ok (.iload 4, 2) := by decide +kernel
theorem dX10_crowd_27 : decode cX10_crowd 27 = .ok (.aload_n 0, 1) := by decide +kernel
theorem dX10_crowd_28 : decode cX10_crowd 28 = .ok (.getfield 19, 3) := by decide +kernel
theorem dX10_crowd_31 : decode cX10_crowd 31 = .ok (.getfield 144, 3) := by decide +kernel
theorem dX10_crowd_34 : decode cX10_crowd 34 = .ok (.if_icmp .ge 32, 3) := by decide +kernel
theorem dX10_crowd_66 : decode cX10_crowd 66 = .ok (.iload_n 2, 1) := by decide +kernel
theorem dX10_crowd_67 : decode cX10_crowd 67 = .ok (.ireturn, 1) := by decide +kernel
theorem dX10_crowd_37 : decode cX10_crowd 37 = .ok (.aload_n 1, 1) := by decide +kernel
theorem dX10_crowd_38 : decode cX10_crowd 38 = .ok (.iload 4, 2) := by decide +kernel
theorem dX10_crowd_40 : decode cX10_crowd 40 = .ok (.invokevirtual 151, 3) := by decide +kernel
theorem dX10_crowd_43 : decode cX10_crowd 43 = .ok (.invokestatic 212, 3) := by decide +kernel
theorem dX10_crowd_46 : decode cX10_crowd 46 = .ok (.istore 5, 2) := by decide +kernel
theorem dX10_crowd_48 : decode cX10_crowd 48 = .ok (.iload 5, 2) := by decide +kernel
theorem dX10_crowd_50 : decode cX10_crowd 50 = .ok (.iload_n 3, 1) := by decide +kernel
theorem dX10_crowd_51 : decode cX10_crowd 51 = .ok (.if_icmp .le 9, 3) := by decide +kernel
theorem dX10_crowd_54 : decode cX10_crowd 54 = .ok (.iload 5, 2) := by decide +kernel
theorem dX10_crowd_56 : decode cX10_crowd 56 = .ok (.istore_n 3, 1) := by decide +kernel
theorem dX10_crowd_57 : decode cX10_crowd 57 = .ok (.iload 4, 2) := by decide +kernel
theorem dX10_crowd_59 : decode cX10_crowd 59 = .ok (.istore_n 2, 1) := by decide +kernel
theorem dX10_crowd_0 : decode cX10_crowd 0 = .ok (.aload_n 0, 1) := by decide +kernel
theorem dX10_crowd_1 : decode cX10_crowd 1 = .ok (.getfield 19, 3) := by decide +kernel
theorem dX10_crowd_4 : decode cX10_crowd 4 = .ok (.invokevirtual 140, 3) := by decide +kernel
theorem dX10_crowd_7 : decode cX10_crowd 7 = .ok (.ifCond .ne 6, 3) := by decide +kernel
theorem dX10_crowd_13 : decode cX10_crowd 13 = .ok (.aload_n 0, 1) := by decide +kernel
theorem dX10_crowd_14 : decode cX10_crowd 14 = .ok (.invokevirtual 129, 3) := by decide +kernel
theorem dX10_crowd_17 : decode cX10_crowd 17 = .ok (.astore_n 1, 1) := by decide +kernel
theorem dX10_crowd_18 : decode cX10_crowd 18 = .ok (.iconst (-1), 1) := by decide +kernel
theorem dX10_crowd_19 : decode cX10_crowd 19 = .ok (.istore_n 2, 1) := by decide +kernel
theorem dX10_crowd_20 : decode cX10_crowd 20 = .ok (.iconst 0, 1) := by decide +kernel
theorem dX10_crowd_21 : decode cX10_crowd 21 = .ok (.istore_n 3, 1) := by decide +kernel
theorem dX10_crowd_22 : decode cX10_crowd 22 = .ok (.iconst 0, 1) := by decide +kernel
theorem dX10_crowd_23 : decode cX10_crowd 23 = .ok (.istore 4, 2) := by decide +kernel
theorem dX10_crowd_10 : decode cX10_crowd 10 = .ok (.bipush (-2), 2) := by decide +kernel
theorem dX10_crowd_12 : decode cX10_crowd 12 = .ok (.ireturn, 1) := by decide +kernel
def FX10_crowd_60 (k25 : Int → Int → Int → Mm → Option (Int × Mm)) (x2 : Int) (x3 : Int) (x4 : Int) (f : Mm) : Option (Int × Mm) := k25 x2 x3 (w32 (x4 + 1)) f
set_option maxHeartbeats 4000000 in
set_option maxRecDepth 100000 in
theorem SX10_crowd_60 {G : GT} {l : Launch} {Q : Option AV → Mem → Prop} {k25 : Int → Int → Int → Mm → Option (Int × Mm)} (q25 : ∀ (x2 : Int) (x3 : Int) (x4 : Int) (f : Mm), OkI Q (k25 x2 x3 x4 f) → Ev G l MX10_crowd (Rm 6 0 0) (ZM G Q 0 0) 0 0 25 [some (vR 0), some (vR 48), some (vI x2), some (vI x3), some (vI x4), none] [] (SH, RF, f)) (x2 : Int) (x3 : Int) (x4 : Int) (f : Mm) (h : OkI Q (FX10_crowd_60 k25 x2 x3 x4 f)) : Ev G l MX10_crowd (Rm 6 0 0) (ZM G Q 0 0) 0 0 60 [some (vR 0), some (vR 48), some (vI x2), some (vI x3), some (vI x4), none] [] (SH, RF, f) := by
  unfold FX10_crowd_60 at h
  refine ev_iinc (L' := [some (vR 0), some (vR 48), some (vI x2), some (vI x3), some (vI (w32 (x4 + 1))), none]) dX10_crowd_60 rfl (by decide) rfl ?_
  refine ev_goto (tgt := 25) dX10_crowd_63 (by decide) ?_
  exact q25 x2 x3 (w32 (x4 + 1)) _ h
def FX10_crowd_25  : Nat → Int → Int → Int → Mm → Option (Int × Mm)
  | 0, _, _, _, _ => none
  | n + 1, x2, x3, x4, f => (if (f 4 1) ≤ x4 then some (x2, f) else (b2 (FX1_passedOn x4 f) fun y1 f1 => (b2 (FJ6_bitCount_0f7a4 y1 f1) fun y2 f2 => (if y2 ≤ x3 then FX10_crowd_60 (FX10_crowd_25 n) x2 x3 x4 f2 else FX10_crowd_60 (FX10_crowd_25 n) x4 y2 x4 f2))))
set_option maxHeartbeats 4000000 in
set_option maxRecDepth 100000 in
theorem SX10_crowd_25 {G : GT} {l : Launch} {Q : Option AV → Mem → Prop}  : ∀ (n : Nat) (x2 : Int) (x3 : Int) (x4 : Int) (f : Mm), OkI Q (FX10_crowd_25  n x2 x3 x4 f) → Ev G l MX10_crowd (Rm 6 0 0) (ZM G Q 0 0) 0 0 25 [some (vR 0), some (vR 48), some (vI x2), some (vI x3), some (vI x4), none] [] (SH, RF, f) := by
  intro n
  induction n with
  | zero => intro x2 x3 x4 f h; exact absurd h (by rw [FX10_crowd_25]; exact fun q => q)
  | succ n ih =>
    intro x2 x3 x4 f h
    rw [FX10_crowd_25] at h
    refine ev_iload dX10_crowd_25 rfl ?_
    refine ev_aload_n (i := 0) dX10_crowd_27 rfl rfl ?_
    refine ev_getR dX10_crowd_28 fl_X10_19 sh_0 (by decide) (by decide) rf_0_1 ?_
    refine ex_getI (x := (f 4 1)) dX10_crowd_31 fl_X10_144 sh_4 (by decide) (by decide) rfl ?_
    refine ev_icmp_ge (tgt := 66) dX10_crowd_34 (by decide) (fun c4 => ?_) (fun c4 => ?_)
    · rw [if_pos c4] at h
      refine ev_iload_n (i := 2) dX10_crowd_66 rfl rfl ?_
      exact ev_iret rfl dX10_crowd_67 h
    · rw [if_neg c4] at h
      refine ev_aload_n (i := 1) dX10_crowd_37 rfl rfl ?_
      refine ev_iload dX10_crowd_38 rfl ?_
      refine ev_cVI (b := 48) (av := [vI x4]) (S := []) (fun q => q) h dX10_crowd_40 (fun Q' q => TX1_passedOn x4 _ q) kvX1_passedOn ml_X10_151 sh_48 rfl (RRc (by decide) (by decide)) (Nat.le_of_ble_eq_true rfl) ⟨Nat.le_of_ble_eq_true rfl, Nat.le_of_ble_eq_true rfl⟩ (fun y1 f1 h => ?_)
      refine ev_cSI (av := [vI y1]) (S := []) (fun q => q) h dX10_crowd_43 (fun Q' q => TJ6_bitCount_0f7a4 y1 _ q) ksJ6_bitCount_0f7a4 ml_X10_212 rfl (RRc (by decide) (by decide)) (Nat.le_of_ble_eq_true rfl) ⟨Nat.le_of_ble_eq_true rfl, Nat.le_of_ble_eq_true rfl⟩ (fun y2 f2 h => ?_)
      refine ev_istore (L' := [some (vR 0), some (vR 48), some (vI x2), some (vI x3), some (vI x4), some (vI y2)]) dX10_crowd_46 (by decide) rfl ?_
      refine ev_iload dX10_crowd_48 rfl ?_
      refine ev_iload_n (i := 3) dX10_crowd_50 rfl rfl ?_
      refine ev_icmp_le (tgt := 60) dX10_crowd_51 (by decide) (fun c3 => ?_) (fun c3 => ?_)
      · rw [if_pos c3] at h
        refine ev_fg [true, true, true, true, true, false] rfl ?_
        exact SX10_crowd_60 ih x2 x3 x4 _ h
      · rw [if_neg c3] at h
        refine ev_iload dX10_crowd_54 rfl ?_
        refine ev_istore_n (i := 3) (L' := [some (vR 0), some (vR 48), some (vI x2), some (vI y2), some (vI x4), some (vI y2)]) dX10_crowd_56 rfl (by decide) rfl ?_
        refine ev_iload dX10_crowd_57 rfl ?_
        refine ev_istore_n (i := 2) (L' := [some (vR 0), some (vR 48), some (vI x4), some (vI y2), some (vI x4), some (vI y2)]) dX10_crowd_59 rfl (by decide) rfl ?_
        refine ev_fg [true, true, true, true, true, false] rfl ?_
        exact SX10_crowd_60 ih x4 y2 x4 _ h
def FX10_crowd_0   (f : Mm) : Option (Int × Mm) := (b2 (FX0_stands_4 f) fun y1 f1 => (if y1 = 0 then some ((-2), f1) else ((FX10_asNow f1).bind fun f2 => FX10_crowd_25 fu (-1) 0 0 f2)))
set_option maxHeartbeats 4000000 in
set_option maxRecDepth 100000 in
theorem SX10_crowd_0 {G : GT} {l : Launch} {Q : Option AV → Mem → Prop}   (f : Mm) (h : OkI Q (FX10_crowd_0   f)) : Ev G l MX10_crowd (Rm 6 0 0) (ZM G Q 0 0) 0 0 0 [some (vR 0), none, none, none, none, none] [] (SH, RF, f) := by
  unfold FX10_crowd_0 at h
  refine ev_aload_n (i := 0) dX10_crowd_0 rfl rfl ?_
  refine ev_getR dX10_crowd_1 fl_X10_19 sh_0 (by decide) (by decide) rf_0_1 ?_
  refine ev_cVI (b := 4) (av := []) (S := []) (fun q => q) h dX10_crowd_4 (fun Q' q => TX0_stands_4 _ q) kvX0_stands ml_X10_140 sh_4 rfl (RRc (by decide) (by decide)) (Nat.le_of_ble_eq_true rfl) ⟨Nat.le_of_ble_eq_true rfl, Nat.le_of_ble_eq_true rfl⟩ (fun y1 f1 h => ?_)
  refine ev_if_ne (tgt := 13) dX10_crowd_7 (by decide) (fun c3 => ?_) (fun c3 => ?_)
  · rw [if_neg c3] at h
    refine ev_aload_n (i := 0) dX10_crowd_13 rfl rfl ?_
    refine ev_cVC (b := 0) (av := []) (S := []) (fun q => q) h dX10_crowd_14 (fun Q' q => TX10_asNow _ q) kvX10_asNow ml_X10_129 sh_0 rfl (RRc (by decide) (by decide)) (Nat.le_of_ble_eq_true rfl) ⟨Nat.le_of_ble_eq_true rfl, Nat.le_of_ble_eq_true rfl⟩ (fun f2 h => ?_)
    refine ev_astore_n (i := 1) (L' := [some (vR 0), some (vR 48), none, none, none, none]) dX10_crowd_17 rfl (by decide) rfl ?_
    refine ev_iconst dX10_crowd_18 (r32c rfl) ?_
    refine ev_istore_n (i := 2) (L' := [some (vR 0), some (vR 48), some (vI (-1)), none, none, none]) dX10_crowd_19 rfl (by decide) rfl ?_
    refine ev_iconst dX10_crowd_20 (r32c rfl) ?_
    refine ev_istore_n (i := 3) (L' := [some (vR 0), some (vR 48), some (vI (-1)), some (vI 0), none, none]) dX10_crowd_21 rfl (by decide) rfl ?_
    refine ev_iconst dX10_crowd_22 (r32c rfl) ?_
    refine ev_istore (L' := [some (vR 0), some (vR 48), some (vI (-1)), some (vI 0), some (vI 0), none]) dX10_crowd_23 (by decide) rfl ?_
    exact SX10_crowd_25  fu (-1) 0 0 _ h
  · rw [if_pos c3] at h
    refine ev_bipush (v := (-2)) dX10_crowd_10 (r32c rfl) (by decide) ?_
    exact ev_iret rfl dX10_crowd_12 h
def FX10_crowd  (f : Mm) : Option (Int × Mm) := FX10_crowd_0  f
set_option maxRecDepth 100000 in
theorem TX10_crowd {G : GT} {l : Launch} {Q : Option AV → Mem → Prop}  (f : Mm) (h : OkI Q (FX10_crowd  f)) : Ret G l MX10_crowd (6) 0 0 [vR 0] (SH, RF, f) Q := by
  refine ret_of (L := [some (vR 0), none, none, none, none, none]) (by decide) rfl (Nat.le_of_ble_eq_true rfl) ?_
  exact SX10_crowd_0  f h
theorem dX10_late_0 : decode cX10_late 0 = .ok (.aload_n 0, 1) := by decide +kernel
theorem dX10_late_1 : decode cX10_late 1 = .ok (.getfield 19, 3) := by decide +kernel
theorem dX10_late_4 : decode cX10_late 4 = .ok (.invokevirtual 140, 3) := by decide +kernel
theorem dX10_late_7 : decode cX10_late 7 = .ok (.ifCond .ne 6, 3) := by decide +kernel
theorem dX10_late_13 : decode cX10_late 13 = .ok (.aload_n 0, 1) := by decide +kernel
theorem dX10_late_14 : decode cX10_late 14 = .ok (.invokevirtual 129, 3) := by decide +kernel
theorem dX10_late_17 : decode cX10_late 17 = .ok (.astore_n 1, 1) := by decide +kernel
theorem dX10_late_18 : decode cX10_late 18 = .ok (.aload_n 1, 1) := by decide +kernel
theorem dX10_late_19 : decode cX10_late 19 = .ok (.aload_n 0, 1) := by decide +kernel
theorem dX10_late_20 : decode cX10_late 20 = .ok (.getfield 19, 3) := by decide +kernel
theorem dX10_late_23 : decode cX10_late 23 = .ok (.invokevirtual 172, 3) := by decide +kernel
theorem dX10_late_26 : decode cX10_late 26 = .ok (.aload_n 1, 1) := by decide +kernel
theorem dX10_late_27 : decode cX10_late 27 = .ok (.aload_n 0, 1) := by decide +kernel
theorem dX10_late_28 : decode cX10_late 28 = .ok (.getfield 19, 3) := by decide +kernel
theorem dX10_late_31 : decode cX10_late 31 = .ok (.invokevirtual 176, 3) := by decide +kernel
theorem dX10_late_34 : decode cX10_late 34 = .ok (.iconst (-1), 1) := by decide +kernel
theorem dX10_late_35 : decode cX10_late 35 = .ok (.ixor, 1) := by decide +kernel
theorem dX10_late_36 : decode cX10_late 36 = .ok (.iand, 1) := by decide +kernel
theorem dX10_late_37 : decode cX10_late 37 = .ok (.ireturn, 1) := by decide +kernel
theorem dX10_late_10 : decode cX10_late 10 = .ok (.bipush (-2), 2) := by decide +kernel
theorem dX10_late_12 : decode cX10_late 12 = .ok (.ireturn, 1) := by decide +kernel
def FX10_late_0   (f : Mm) : Option (Int × Mm) := (b2 (FX0_stands_4 f) fun y1 f1 => (if y1 = 0 then some ((-2), f1) else ((FX10_asNow f1).bind fun f2 => (b2 (FX1_passedBits_48_4 f2) fun y3 f3 => (b2 (FX1_keptBits_48_4 f3) fun y4 f4 => some ((bAnd y3 (bXor y4 (-1))), f4))))))
set_option maxHeartbeats 4000000 in
set_option maxRecDepth 100000 in
theorem SX10_late_0 {G : GT} {l : Launch} {Q : Option AV → Mem → Prop}   (f : Mm) (h : OkI Q (FX10_late_0   f)) : Ev G l MX10_late (Rm 6 0 0) (ZM G Q 0 0) 0 0 0 [some (vR 0), none] [] (SH, RF, f) := by
  unfold FX10_late_0 at h
  refine ev_aload_n (i := 0) dX10_late_0 rfl rfl ?_
  refine ev_getR dX10_late_1 fl_X10_19 sh_0 (by decide) (by decide) rf_0_1 ?_
  refine ev_cVI (b := 4) (av := []) (S := []) (fun q => q) h dX10_late_4 (fun Q' q => TX0_stands_4 _ q) kvX0_stands ml_X10_140 sh_4 rfl (RRc (by decide) (by decide)) (Nat.le_of_ble_eq_true rfl) ⟨Nat.le_of_ble_eq_true rfl, Nat.le_of_ble_eq_true rfl⟩ (fun y1 f1 h => ?_)
  refine ev_if_ne (tgt := 13) dX10_late_7 (by decide) (fun c5 => ?_) (fun c5 => ?_)
  · rw [if_neg c5] at h
    refine ev_aload_n (i := 0) dX10_late_13 rfl rfl ?_
    refine ev_cVC (b := 0) (av := []) (S := []) (fun q => q) h dX10_late_14 (fun Q' q => TX10_asNow _ q) kvX10_asNow ml_X10_129 sh_0 rfl (RRc (by decide) (by decide)) (Nat.le_of_ble_eq_true rfl) ⟨Nat.le_of_ble_eq_true rfl, Nat.le_of_ble_eq_true rfl⟩ (fun f2 h => ?_)
    refine ev_astore_n (i := 1) (L' := [some (vR 0), some (vR 48)]) dX10_late_17 rfl (by decide) rfl ?_
    refine ev_aload_n (i := 1) dX10_late_18 rfl rfl ?_
    refine ev_aload_n (i := 0) dX10_late_19 rfl rfl ?_
    refine ev_getR dX10_late_20 fl_X10_19 sh_0 (by decide) (by decide) rf_0_1 ?_
    refine ev_cVI (b := 48) (av := [vR 4]) (S := []) (fun q => q) h dX10_late_23 (fun Q' q => TX1_passedBits_48_4 _ q) kvX1_passedBits ml_X10_172 sh_48 rfl (RRc (by decide) (by decide)) (Nat.le_of_ble_eq_true rfl) ⟨Nat.le_of_ble_eq_true rfl, Nat.le_of_ble_eq_true rfl⟩ (fun y3 f3 h => ?_)
    refine ev_aload_n (i := 1) dX10_late_26 rfl rfl ?_
    refine ev_aload_n (i := 0) dX10_late_27 rfl rfl ?_
    refine ev_getR dX10_late_28 fl_X10_19 sh_0 (by decide) (by decide) rf_0_1 ?_
    refine ev_cVI (b := 48) (av := [vR 4]) (S := [vI y3]) (fun q => q) h dX10_late_31 (fun Q' q => TX1_keptBits_48_4 _ q) kvX1_keptBits ml_X10_176 sh_48 rfl (RRc (by decide) (by decide)) (Nat.le_of_ble_eq_true rfl) ⟨Nat.le_of_ble_eq_true rfl, Nat.le_of_ble_eq_true rfl⟩ (fun y4 f4 h => ?_)
    refine ev_iconst dX10_late_34 (r32c rfl) ?_
    refine ev_ixor dX10_late_35 ?_
    refine ev_iand dX10_late_36 ?_
    exact ev_iret rfl dX10_late_37 h
  · rw [if_pos c5] at h
    refine ev_bipush (v := (-2)) dX10_late_10 (r32c rfl) (by decide) ?_
    exact ev_iret rfl dX10_late_12 h
def FX10_late  (f : Mm) : Option (Int × Mm) := FX10_late_0  f
set_option maxRecDepth 100000 in
theorem TX10_late {G : GT} {l : Launch} {Q : Option AV → Mem → Prop}  (f : Mm) (h : OkI Q (FX10_late  f)) : Ret G l MX10_late (6) 0 0 [vR 0] (SH, RF, f) Q := by
  refine ret_of (L := [some (vR 0), none]) (by decide) rfl (Nat.le_of_ble_eq_true rfl) ?_
  exact SX10_late_0  f h
theorem dX10_delay_67 : decode cX10_delay 67 = .ok (.iinc 3 1, 3) := by decide +kernel
theorem dX10_delay_70 : decode cX10_delay 70 = .ok (.goto (-48), 3) := by decide +kernel
theorem dX10_delay_22 : decode cX10_delay 22 = .ok (.iload_n 3, 1) := by decide +kernel
theorem dX10_delay_23 : decode cX10_delay 23 = .ok (.aload_n 0, 1) := by decide +kernel
theorem dX10_delay_24 : decode cX10_delay 24 = .ok (.getfield 19, 3) := by decide +kernel
theorem dX10_delay_27 : decode cX10_delay 27 = .ok (.getfield 161, 3) := by decide +kernel
theorem dX10_delay_30 : decode cX10_delay 30 = .ok (.if_icmp .ge 43, 3) := by decide +kernel
theorem dX10_delay_73 : decode cX10_delay 73 = .ok (.iload_n 2, 1) := by decide +kernel
theorem dX10_delay_74 : decode cX10_delay 74 = .ok (.ireturn, 1) := by decide +kernel
theorem dX10_delay_33 : decode cX10_delay 33 = .ok (.aload_n 1, 1) := by decide +kernel
theorem dX10_delay_34 : decode cX10_delay 34 = .ok (.aload_n 0, 1) := by decide +kernel
theorem dX10_delay_35 : decode cX10_delay 35 = .ok (.getfield 19, 3) := by decide +kernel
theorem dX10_delay_38 : decode cX10_delay 38 = .ok (.iload_n 3, 1) := by decide +kernel
theorem dX10_delay_39 : decode cX10_delay 39 = .ok (.invokevirtual 147, 3) := by decide +kernel
theorem dX10_delay_42 : decode cX10_delay 42 = .ok (.istore 4, 2) := by decide +kernel
theorem dX10_delay_44 : decode cX10_delay 44 = .ok (.iload 4, 2) := by decide +kernel
theorem dX10_delay_46 : decode cX10_delay 46 = .ok (.iconst (-1), 1) := by decide +kernel
theorem dX10_delay_47 : decode cX10_delay 47 = .ok (.if_icmp .eq 20, 3) := by decide +kernel
theorem dX10_delay_50 : decode cX10_delay 50 = .ok (.iload_n 2, 1) := by decide +kernel
theorem dX10_delay_51 : decode cX10_delay 51 = .ok (.iload 4, 2) := by decide +kernel
theorem dX10_delay_53 : decode cX10_delay 53 = .ok (.aload_n 0, 1) := by decide +kernel
theorem dX10_delay_54 : decode cX10_delay 54 = .ok (.getfield 19, 3) := by decide +kernel
theorem dX10_delay_57 : decode cX10_delay 57 = .ok (.getfield 120, 3) := by decide +kernel
theorem dX10_delay_60 : decode cX10_delay 60 = .ok (.iload_n 3, 1) := by decide +kernel
theorem dX10_delay_61 : decode cX10_delay 61 = .ok (.aaload, 1) := by decide +kernel
theorem dX10_delay_62 : decode cX10_delay 62 = .ok (.iconst 2, 1) := by decide +kernel
theorem dX10_delay_63 : decode cX10_delay 63 = .ok (.iaload, 1) := by decide +kernel
theorem dX10_delay_64 : decode cX10_delay 64 = .ok (.isub, 1) := by decide +kernel
theorem dX10_delay_65 : decode cX10_delay 65 = .ok (.iadd, 1) := by decide +kernel
theorem dX10_delay_66 : decode cX10_delay 66 = .ok (.istore_n 2, 1) := by decide +kernel
theorem dX10_delay_0 : decode cX10_delay 0 = .ok (.aload_n 0, 1) := by decide +kernel
theorem dX10_delay_1 : decode cX10_delay 1 = .ok (.getfield 19, 3) := by decide +kernel
theorem dX10_delay_4 : decode cX10_delay 4 = .ok (.invokevirtual 140, 3) := by decide +kernel
theorem dX10_delay_7 : decode cX10_delay 7 = .ok (.ifCond .ne 6, 3) := by decide +kernel
theorem dX10_delay_13 : decode cX10_delay 13 = .ok (.aload_n 0, 1) := by decide +kernel
theorem dX10_delay_14 : decode cX10_delay 14 = .ok (.invokevirtual 129, 3) := by decide +kernel
theorem dX10_delay_17 : decode cX10_delay 17 = .ok (.astore_n 1, 1) := by decide +kernel
theorem dX10_delay_18 : decode cX10_delay 18 = .ok (.iconst 0, 1) := by decide +kernel
theorem dX10_delay_19 : decode cX10_delay 19 = .ok (.istore_n 2, 1) := by decide +kernel
theorem dX10_delay_20 : decode cX10_delay 20 = .ok (.iconst 0, 1) := by decide +kernel
theorem dX10_delay_21 : decode cX10_delay 21 = .ok (.istore_n 3, 1) := by decide +kernel
theorem dX10_delay_10 : decode cX10_delay 10 = .ok (.bipush (-2), 2) := by decide +kernel
theorem dX10_delay_12 : decode cX10_delay 12 = .ok (.ireturn, 1) := by decide +kernel
def FX10_delay_67 (k22 : Int → Int → Mm → Option (Int × Mm)) (x2 : Int) (x3 : Int) (f : Mm) : Option (Int × Mm) := k22 x2 (w32 (x3 + 1)) f
set_option maxHeartbeats 4000000 in
set_option maxRecDepth 100000 in
theorem SX10_delay_67 {G : GT} {l : Launch} {Q : Option AV → Mem → Prop} {k22 : Int → Int → Mm → Option (Int × Mm)} (q22 : ∀ (x2 : Int) (x3 : Int) (f : Mm), OkI Q (k22 x2 x3 f) → Ev G l MX10_delay (Rm 6 0 0) (ZM G Q 0 0) 0 0 22 [some (vR 0), some (vR 48), some (vI x2), some (vI x3), none] [] (SH, RF, f)) (x2 : Int) (x3 : Int) (f : Mm) (h : OkI Q (FX10_delay_67 k22 x2 x3 f)) : Ev G l MX10_delay (Rm 6 0 0) (ZM G Q 0 0) 0 0 67 [some (vR 0), some (vR 48), some (vI x2), some (vI x3), none] [] (SH, RF, f) := by
  unfold FX10_delay_67 at h
  refine ev_iinc (L' := [some (vR 0), some (vR 48), some (vI x2), some (vI (w32 (x3 + 1))), none]) dX10_delay_67 rfl (by decide) rfl ?_
  refine ev_goto (tgt := 22) dX10_delay_70 (by decide) ?_
  exact q22 x2 (w32 (x3 + 1)) _ h
def FX10_delay_22  : Nat → Int → Int → Mm → Option (Int × Mm)
  | 0, _, _, _ => none
  | n + 1, x2, x3, f => (if (f 4 5) ≤ x3 then some (x2, f) else (b2 (FX1_dayOf_48_4 x3 f) fun y1 f1 => (if y1 = (-1) then FX10_delay_67 (FX10_delay_22 n) x2 x3 f1 else (if 0 ≤ x3 ∧ x3 < 6 then FX10_delay_67 (FX10_delay_22 n) (w32 (x2 + (w32 (y1 - (f1 (12 + x3.toNat) 2))))) x3 f1 else none))))
set_option maxHeartbeats 4000000 in
set_option maxRecDepth 100000 in
theorem SX10_delay_22 {G : GT} {l : Launch} {Q : Option AV → Mem → Prop}  : ∀ (n : Nat) (x2 : Int) (x3 : Int) (f : Mm), OkI Q (FX10_delay_22  n x2 x3 f) → Ev G l MX10_delay (Rm 6 0 0) (ZM G Q 0 0) 0 0 22 [some (vR 0), some (vR 48), some (vI x2), some (vI x3), none] [] (SH, RF, f) := by
  intro n
  induction n with
  | zero => intro x2 x3 f h; exact absurd h (by rw [FX10_delay_22]; exact fun q => q)
  | succ n ih =>
    intro x2 x3 f h
    rw [FX10_delay_22] at h
    refine ev_iload_n (i := 3) dX10_delay_22 rfl rfl ?_
    refine ev_aload_n (i := 0) dX10_delay_23 rfl rfl ?_
    refine ev_getR dX10_delay_24 fl_X10_19 sh_0 (by decide) (by decide) rf_0_1 ?_
    refine ex_getI (x := (f 4 5)) dX10_delay_27 fl_X10_161 sh_4 (by decide) (by decide) rfl ?_
    refine ev_icmp_ge (tgt := 73) dX10_delay_30 (by decide) (fun c4 => ?_) (fun c4 => ?_)
    · rw [if_pos c4] at h
      refine ev_iload_n (i := 2) dX10_delay_73 rfl rfl ?_
      exact ev_iret rfl dX10_delay_74 h
    · rw [if_neg c4] at h
      refine ev_aload_n (i := 1) dX10_delay_33 rfl rfl ?_
      refine ev_aload_n (i := 0) dX10_delay_34 rfl rfl ?_
      refine ev_getR dX10_delay_35 fl_X10_19 sh_0 (by decide) (by decide) rf_0_1 ?_
      refine ev_iload_n (i := 3) dX10_delay_38 rfl rfl ?_
      refine ev_cVI (b := 48) (av := [vR 4, vI x3]) (S := []) (fun q => q) h dX10_delay_39 (fun Q' q => TX1_dayOf_48_4 x3 _ q) kvX1_dayOf ml_X10_147 sh_48 rfl (RRc (by decide) (by decide)) (Nat.le_of_ble_eq_true rfl) ⟨Nat.le_of_ble_eq_true rfl, Nat.le_of_ble_eq_true rfl⟩ (fun y1 f1 h => ?_)
      refine ev_istore (L' := [some (vR 0), some (vR 48), some (vI x2), some (vI x3), some (vI y1)]) dX10_delay_42 (by decide) rfl ?_
      refine ev_iload dX10_delay_44 rfl ?_
      refine ev_iconst dX10_delay_46 (r32c rfl) ?_
      refine ev_icmp_eq (tgt := 67) dX10_delay_47 (by decide) (fun c3 => ?_) (fun c3 => ?_)
      · rw [if_pos c3] at h
        refine ev_fg [true, true, true, true, false] rfl ?_
        exact SX10_delay_67 ih x2 x3 _ h
      · rw [if_neg c3] at h
        refine ev_iload_n (i := 2) dX10_delay_50 rfl rfl ?_
        refine ev_iload dX10_delay_51 rfl ?_
        refine ev_aload_n (i := 0) dX10_delay_53 rfl rfl ?_
        refine ev_getR dX10_delay_54 fl_X10_19 sh_0 (by decide) (by decide) rf_0_1 ?_
        refine ev_getR dX10_delay_57 fl_X10_120 sh_4 (by decide) (by decide) rf_4_9 ?_
        refine ev_iload_n (i := 3) dX10_delay_60 rfl rfl ?_
        by_cases g2 : 0 ≤ x3 ∧ x3 < 6
        · rw [if_pos g2] at h
          refine ev_aald (b := (12 + x3.toNat)) dX10_delay_61 (Or.inl rfl) sh_11 g2.1 g2.2 (rfr_11 g2) ?_
          refine ev_iconst dX10_delay_62 (r32c rfl) ?_
          refine ex_iald (x := (f1 (12 + x3.toNat) 2)) dX10_delay_63 (shr_11 g2) (by decide) (by decide) rfl ?_
          refine ev_isub dX10_delay_64 ?_
          refine ev_iadd dX10_delay_65 ?_
          refine ev_istore_n (i := 2) (L' := [some (vR 0), some (vR 48), some (vI (w32 (x2 + (w32 (y1 - (f1 (12 + x3.toNat) 2)))))), some (vI x3), some (vI y1)]) dX10_delay_66 rfl (by decide) rfl ?_
          refine ev_fg [true, true, true, true, false] rfl ?_
          exact SX10_delay_67 ih (w32 (x2 + (w32 (y1 - (f1 (12 + x3.toNat) 2))))) x3 _ h
        · rw [if_neg g2] at h; exact h.elim
def FX10_delay_0   (f : Mm) : Option (Int × Mm) := (b2 (FX0_stands_4 f) fun y1 f1 => (if y1 = 0 then some ((-2), f1) else ((FX10_asNow f1).bind fun f2 => FX10_delay_22 fu 0 0 f2)))
set_option maxHeartbeats 4000000 in
set_option maxRecDepth 100000 in
theorem SX10_delay_0 {G : GT} {l : Launch} {Q : Option AV → Mem → Prop}   (f : Mm) (h : OkI Q (FX10_delay_0   f)) : Ev G l MX10_delay (Rm 6 0 0) (ZM G Q 0 0) 0 0 0 [some (vR 0), none, none, none, none] [] (SH, RF, f) := by
  unfold FX10_delay_0 at h
  refine ev_aload_n (i := 0) dX10_delay_0 rfl rfl ?_
  refine ev_getR dX10_delay_1 fl_X10_19 sh_0 (by decide) (by decide) rf_0_1 ?_
  refine ev_cVI (b := 4) (av := []) (S := []) (fun q => q) h dX10_delay_4 (fun Q' q => TX0_stands_4 _ q) kvX0_stands ml_X10_140 sh_4 rfl (RRc (by decide) (by decide)) (Nat.le_of_ble_eq_true rfl) ⟨Nat.le_of_ble_eq_true rfl, Nat.le_of_ble_eq_true rfl⟩ (fun y1 f1 h => ?_)
  refine ev_if_ne (tgt := 13) dX10_delay_7 (by decide) (fun c3 => ?_) (fun c3 => ?_)
  · rw [if_neg c3] at h
    refine ev_aload_n (i := 0) dX10_delay_13 rfl rfl ?_
    refine ev_cVC (b := 0) (av := []) (S := []) (fun q => q) h dX10_delay_14 (fun Q' q => TX10_asNow _ q) kvX10_asNow ml_X10_129 sh_0 rfl (RRc (by decide) (by decide)) (Nat.le_of_ble_eq_true rfl) ⟨Nat.le_of_ble_eq_true rfl, Nat.le_of_ble_eq_true rfl⟩ (fun f2 h => ?_)
    refine ev_astore_n (i := 1) (L' := [some (vR 0), some (vR 48), none, none, none]) dX10_delay_17 rfl (by decide) rfl ?_
    refine ev_iconst dX10_delay_18 (r32c rfl) ?_
    refine ev_istore_n (i := 2) (L' := [some (vR 0), some (vR 48), some (vI 0), none, none]) dX10_delay_19 rfl (by decide) rfl ?_
    refine ev_iconst dX10_delay_20 (r32c rfl) ?_
    refine ev_istore_n (i := 3) (L' := [some (vR 0), some (vR 48), some (vI 0), some (vI 0), none]) dX10_delay_21 rfl (by decide) rfl ?_
    exact SX10_delay_22  fu 0 0 _ h
  · rw [if_pos c3] at h
    refine ev_bipush (v := (-2)) dX10_delay_10 (r32c rfl) (by decide) ?_
    exact ev_iret rfl dX10_delay_12 h
def FX10_delay  (f : Mm) : Option (Int × Mm) := FX10_delay_0  f
set_option maxRecDepth 100000 in
theorem TX10_delay {G : GT} {l : Launch} {Q : Option AV → Mem → Prop}  (f : Mm) (h : OkI Q (FX10_delay  f)) : Ret G l MX10_delay (6) 0 0 [vR 0] (SH, RF, f) Q := by
  refine ret_of (L := [some (vR 0), none, none, none, none]) (by decide) rfl (Nat.le_of_ble_eq_true rfl) ?_
  exact SX10_delay_0  f h
theorem dX10_toll_0 : decode cX10_toll 0 = .ok (.aload_n 0, 1) := by decide +kernel
theorem dX10_toll_1 : decode cX10_toll 1 = .ok (.getfield 19, 3) := by decide +kernel
theorem dX10_toll_4 : decode cX10_toll 4 = .ok (.iload_n 1, 1) := by decide +kernel
theorem dX10_toll_5 : decode cX10_toll 5 = .ok (.invokevirtual 126, 3) := by decide +kernel
theorem dX10_toll_8 : decode cX10_toll 8 = .ok (.ifCond .eq 21, 3) := by decide +kernel
theorem dX10_toll_29 : decode cX10_toll 29 = .ok (.bipush (-2), 2) := by decide +kernel
theorem dX10_toll_31 : decode cX10_toll 31 = .ok (.ireturn, 1) := by decide +kernel
theorem dX10_toll_11 : decode cX10_toll 11 = .ok (.aload_n 0, 1) := by decide +kernel
theorem dX10_toll_12 : decode cX10_toll 12 = .ok (.getfield 19, 3) := by decide +kernel
theorem dX10_toll_15 : decode cX10_toll 15 = .ok (.aload_n 0, 1) := by decide +kernel
theorem dX10_toll_16 : decode cX10_toll 16 = .ok (.invokevirtual 129, 3) := by decide +kernel
theorem dX10_toll_19 : decode cX10_toll 19 = .ok (.iload_n 1, 1) := by decide +kernel
theorem dX10_toll_20 : decode cX10_toll 20 = .ok (.invokevirtual 151, 3) := by decide +kernel
theorem dX10_toll_23 : decode cX10_toll 23 = .ok (.invokevirtual 179, 3) := by decide +kernel
theorem dX10_toll_26 : decode cX10_toll 26 = .ok (.goto 5, 3) := by decide +kernel
def FX10_toll_0  (x1 : Int) (f : Mm) : Option (Int × Mm) := (b2 (FX0_hasDay_4 x1 f) fun y1 f1 => (if y1 = 0 then some ((-2), f1) else ((FX10_asNow f1).bind fun f2 => (b2 (FX1_passedOn x1 f2) fun y3 f3 => (b2 (FX0_payOf_4 y3 f3) fun y4 f4 => some (y4, f4))))))
set_option maxHeartbeats 4000000 in
set_option maxRecDepth 100000 in
theorem SX10_toll_0 {G : GT} {l : Launch} {Q : Option AV → Mem → Prop}  (x1 : Int) (f : Mm) (h : OkI Q (FX10_toll_0  x1 f)) : Ev G l MX10_toll (Rm 6 0 0) (ZM G Q 0 0) 0 0 0 [some (vR 0), some (vI x1)] [] (SH, RF, f) := by
  unfold FX10_toll_0 at h
  refine ev_aload_n (i := 0) dX10_toll_0 rfl rfl ?_
  refine ev_getR dX10_toll_1 fl_X10_19 sh_0 (by decide) (by decide) rf_0_1 ?_
  refine ev_iload_n (i := 1) dX10_toll_4 rfl rfl ?_
  refine ev_cVI (b := 4) (av := [vI x1]) (S := []) (fun q => q) h dX10_toll_5 (fun Q' q => TX0_hasDay_4 x1 _ q) kvX0_hasDay ml_X10_126 sh_4 rfl (RRc (by decide) (by decide)) (Nat.le_of_ble_eq_true rfl) ⟨Nat.le_of_ble_eq_true rfl, Nat.le_of_ble_eq_true rfl⟩ (fun y1 f1 h => ?_)
  refine ev_if_eq (tgt := 29) dX10_toll_8 (by decide) (fun c5 => ?_) (fun c5 => ?_)
  · rw [if_pos c5] at h
    refine ev_bipush (v := (-2)) dX10_toll_29 (r32c rfl) (by decide) ?_
    exact ev_iret rfl dX10_toll_31 h
  · rw [if_neg c5] at h
    refine ev_aload_n (i := 0) dX10_toll_11 rfl rfl ?_
    refine ev_getR dX10_toll_12 fl_X10_19 sh_0 (by decide) (by decide) rf_0_1 ?_
    refine ev_aload_n (i := 0) dX10_toll_15 rfl rfl ?_
    refine ev_cVC (b := 0) (av := []) (S := [vR 4]) (fun q => q) h dX10_toll_16 (fun Q' q => TX10_asNow _ q) kvX10_asNow ml_X10_129 sh_0 rfl (RRc (by decide) (by decide)) (Nat.le_of_ble_eq_true rfl) ⟨Nat.le_of_ble_eq_true rfl, Nat.le_of_ble_eq_true rfl⟩ (fun f2 h => ?_)
    refine ev_iload_n (i := 1) dX10_toll_19 rfl rfl ?_
    refine ev_cVI (b := 48) (av := [vI x1]) (S := [vR 4]) (fun q => q) h dX10_toll_20 (fun Q' q => TX1_passedOn x1 _ q) kvX1_passedOn ml_X10_151 sh_48 rfl (RRc (by decide) (by decide)) (Nat.le_of_ble_eq_true rfl) ⟨Nat.le_of_ble_eq_true rfl, Nat.le_of_ble_eq_true rfl⟩ (fun y3 f3 h => ?_)
    refine ev_cVI (b := 4) (av := [vI y3]) (S := []) (fun q => q) h dX10_toll_23 (fun Q' q => TX0_payOf_4 y3 _ q) kvX0_payOf ml_X10_179 sh_4 rfl (RRc (by decide) (by decide)) (Nat.le_of_ble_eq_true rfl) ⟨Nat.le_of_ble_eq_true rfl, Nat.le_of_ble_eq_true rfl⟩ (fun y4 f4 h => ?_)
    refine ev_goto (tgt := 31) dX10_toll_26 (by decide) ?_
    exact ev_iret rfl dX10_toll_31 h
def FX10_toll (x1 : Int) (f : Mm) : Option (Int × Mm) := FX10_toll_0 x1 f
set_option maxRecDepth 100000 in
theorem TX10_toll {G : GT} {l : Launch} {Q : Option AV → Mem → Prop} (x1 : Int) (f : Mm) (h : OkI Q (FX10_toll x1 f)) : Ret G l MX10_toll (6) 0 0 [vR 0, vI x1] (SH, RF, f) Q := by
  refine ret_of (L := [some (vR 0), some (vI x1)]) (by decide) rfl (Nat.le_of_ble_eq_true rfl) ?_
  exact SX10_toll_0 x1 f h
theorem dX10_gap_0 : decode cX10_gap 0 = .ok (.aload_n 0, 1) := by decide +kernel
theorem dX10_gap_1 : decode cX10_gap 1 = .ok (.getfield 19, 3) := by decide +kernel
theorem dX10_gap_4 : decode cX10_gap 4 = .ok (.iload_n 1, 1) := by decide +kernel
theorem dX10_gap_5 : decode cX10_gap 5 = .ok (.invokevirtual 126, 3) := by decide +kernel
theorem dX10_gap_8 : decode cX10_gap 8 = .ok (.ifCond .ne 6, 3) := by decide +kernel
theorem dX10_gap_14 : decode cX10_gap 14 = .ok (.aload_n 0, 1) := by decide +kernel
theorem dX10_gap_15 : decode cX10_gap 15 = .ok (.invokevirtual 129, 3) := by decide +kernel
theorem dX10_gap_18 : decode cX10_gap 18 = .ok (.astore_n 2, 1) := by decide +kernel
theorem dX10_gap_19 : decode cX10_gap 19 = .ok (.aload_n 2, 1) := by decide +kernel
theorem dX10_gap_20 : decode cX10_gap 20 = .ok (.getfield 133, 3) := by decide +kernel
theorem dX10_gap_23 : decode cX10_gap 23 = .ok (.iconst 0, 1) := by decide +kernel
theorem dX10_gap_24 : decode cX10_gap 24 = .ok (.aaload, 1) := by decide +kernel
theorem dX10_gap_25 : decode cX10_gap 25 = .ok (.iload_n 1, 1) := by decide +kernel
theorem dX10_gap_26 : decode cX10_gap 26 = .ok (.iaload, 1) := by decide +kernel
theorem dX10_gap_27 : decode cX10_gap 27 = .ok (.aload_n 2, 1) := by decide +kernel
theorem dX10_gap_28 : decode cX10_gap 28 = .ok (.getfield 133, 3) := by decide +kernel
theorem dX10_gap_31 : decode cX10_gap 31 = .ok (.iconst 1, 1) := by decide +kernel
theorem dX10_gap_32 : decode cX10_gap 32 = .ok (.aaload, 1) := by decide +kernel
theorem dX10_gap_33 : decode cX10_gap 33 = .ok (.iload_n 1, 1) := by decide +kernel
theorem dX10_gap_34 : decode cX10_gap 34 = .ok (.iaload, 1) := by decide +kernel
theorem dX10_gap_35 : decode cX10_gap 35 = .ok (.isub, 1) := by decide +kernel
theorem dX10_gap_36 : decode cX10_gap 36 = .ok (.invokestatic 217, 3) := by decide +kernel
theorem dX10_gap_39 : decode cX10_gap 39 = .ok (.ireturn, 1) := by decide +kernel
theorem dX10_gap_11 : decode cX10_gap 11 = .ok (.bipush (-2), 2) := by decide +kernel
theorem dX10_gap_13 : decode cX10_gap 13 = .ok (.ireturn, 1) := by decide +kernel
def FX10_gap_0  (x1 : Int) (f : Mm) : Option (Int × Mm) := (b2 (FX0_hasDay_4 x1 f) fun y1 f1 => (if y1 = 0 then some ((-2), f1) else ((FX10_asNow f1).bind fun f2 => (if 0 ≤ x1 ∧ x1 < 6 then (if 0 ≤ x1 ∧ x1 < 6 then some ((jAbs (w32 ((f2 52 x1.toNat) - (f2 53 x1.toNat)))), f2) else none) else none))))
set_option maxHeartbeats 4000000 in
set_option maxRecDepth 100000 in
theorem SX10_gap_0 {G : GT} {l : Launch} {Q : Option AV → Mem → Prop}  (x1 : Int) (f : Mm) (h : OkI Q (FX10_gap_0  x1 f)) : Ev G l MX10_gap (Rm 6 0 0) (ZM G Q 0 0) 0 0 0 [some (vR 0), some (vI x1), none] [] (SH, RF, f) := by
  unfold FX10_gap_0 at h
  refine ev_aload_n (i := 0) dX10_gap_0 rfl rfl ?_
  refine ev_getR dX10_gap_1 fl_X10_19 sh_0 (by decide) (by decide) rf_0_1 ?_
  refine ev_iload_n (i := 1) dX10_gap_4 rfl rfl ?_
  refine ev_cVI (b := 4) (av := [vI x1]) (S := []) (fun q => q) h dX10_gap_5 (fun Q' q => TX0_hasDay_4 x1 _ q) kvX0_hasDay ml_X10_126 sh_4 rfl (RRc (by decide) (by decide)) (Nat.le_of_ble_eq_true rfl) ⟨Nat.le_of_ble_eq_true rfl, Nat.le_of_ble_eq_true rfl⟩ (fun y1 f1 h => ?_)
  refine ev_if_ne (tgt := 14) dX10_gap_8 (by decide) (fun c5 => ?_) (fun c5 => ?_)
  · rw [if_neg c5] at h
    refine ev_aload_n (i := 0) dX10_gap_14 rfl rfl ?_
    refine ev_cVC (b := 0) (av := []) (S := []) (fun q => q) h dX10_gap_15 (fun Q' q => TX10_asNow _ q) kvX10_asNow ml_X10_129 sh_0 rfl (RRc (by decide) (by decide)) (Nat.le_of_ble_eq_true rfl) ⟨Nat.le_of_ble_eq_true rfl, Nat.le_of_ble_eq_true rfl⟩ (fun f2 h => ?_)
    refine ev_astore_n (i := 2) (L' := [some (vR 0), some (vI x1), some (vR 48)]) dX10_gap_18 rfl (by decide) rfl ?_
    refine ev_aload_n (i := 2) dX10_gap_19 rfl rfl ?_
    refine ev_getR dX10_gap_20 fl_X10_133 sh_48 (by decide) (by decide) rf_48_6 ?_
    refine ev_iconst dX10_gap_23 (r32c rfl) ?_
    refine ev_aald (b := 52) dX10_gap_24 (Or.inl rfl) sh_51 (by decide) (by decide) (rfd_51 0 (by decide)) ?_
    refine ev_iload_n (i := 1) dX10_gap_25 rfl rfl ?_
    by_cases g3 : 0 ≤ x1 ∧ x1 < 6
    · rw [if_pos g3] at h
      refine ex_iald (x := (f2 52 x1.toNat)) dX10_gap_26 sh_52 g3.1 g3.2 rfl ?_
      refine ev_aload_n (i := 2) dX10_gap_27 rfl rfl ?_
      refine ev_getR dX10_gap_28 fl_X10_133 sh_48 (by decide) (by decide) rf_48_6 ?_
      refine ev_iconst dX10_gap_31 (r32c rfl) ?_
      refine ev_aald (b := 53) dX10_gap_32 (Or.inl rfl) sh_51 (by decide) (by decide) (rfd_51 1 (by decide)) ?_
      refine ev_iload_n (i := 1) dX10_gap_33 rfl rfl ?_
      by_cases g4 : 0 ≤ x1 ∧ x1 < 6
      · rw [if_pos g4] at h
        refine ex_iald (x := (f2 53 x1.toNat)) dX10_gap_34 sh_53 g4.1 g4.2 rfl ?_
        refine ev_isub dX10_gap_35 ?_
        refine ev_mabs dX10_gap_36 mlm_X10_217 (Nat.le_of_ble_eq_true rfl) (Nat.le_of_ble_eq_true rfl) (Nat.le_of_ble_eq_true rfl) (Nat.le_of_ble_eq_true rfl) ?_
        exact ev_iret rfl dX10_gap_39 h
      · rw [if_neg g4] at h; exact h.elim
    · rw [if_neg g3] at h; exact h.elim
  · rw [if_pos c5] at h
    refine ev_bipush (v := (-2)) dX10_gap_11 (r32c rfl) (by decide) ?_
    exact ev_iret rfl dX10_gap_13 h
def FX10_gap (x1 : Int) (f : Mm) : Option (Int × Mm) := FX10_gap_0 x1 f
set_option maxRecDepth 100000 in
theorem TX10_gap {G : GT} {l : Launch} {Q : Option AV → Mem → Prop} (x1 : Int) (f : Mm) (h : OkI Q (FX10_gap x1 f)) : Ret G l MX10_gap (6) 0 0 [vR 0, vI x1] (SH, RF, f) Q := by
  refine ret_of (L := [some (vR 0), some (vI x1), none]) (by decide) rfl (Nat.le_of_ble_eq_true rfl) ?_
  exact SX10_gap_0 x1 f h
theorem dX1_feelThrough_2 : decode cX1_feelThrough 2 = .ok (.iload_n 3, 1) := by decide +kernel
theorem dX1_feelThrough_3 : decode cX1_feelThrough 3 = .ok (.iload_n 2, 1) := by decide +kernel
theorem dX1_feelThrough_4 : decode cX1_feelThrough 4 = .ok (.if_icmp .gt 21, 3) := by decide +kernel
theorem dX1_feelThrough_25 : decode cX1_feelThrough 25 = .ok (.return_, 1) := by decide +kernel
theorem dX1_feelThrough_7 : decode cX1_feelThrough 7 = .ok (.iload_n 3, 1) := by decide +kernel
theorem dX1_feelThrough_8 : decode cX1_feelThrough 8 = .ok (.bipush 6, 2) := by decide +kernel
theorem dX1_feelThrough_10 : decode cX1_feelThrough 10 = .ok (.if_icmp .ge 15, 3) := by decide +kernel
theorem dX1_feelThrough_13 : decode cX1_feelThrough 13 = .ok (.aload_n 0, 1) := by decide +kernel
theorem dX1_feelThrough_14 : decode cX1_feelThrough 14 = .ok (.aload_n 1, 1) := by decide +kernel
theorem dX1_feelThrough_15 : decode cX1_feelThrough 15 = .ok (.iload_n 3, 1) := by decide +kernel
theorem dX1_feelThrough_16 : decode cX1_feelThrough 16 = .ok (.invokevirtual 54, 3) := by decide +kernel
theorem dX1_feelThrough_19 : decode cX1_feelThrough 19 = .ok (.iinc 3 1, 3) := by decide +kernel
theorem dX1_feelThrough_22 : decode cX1_feelThrough 22 = .ok (.goto (-20), 3) := by decide +kernel
theorem dX1_feelThrough_0 : decode cX1_feelThrough 0 = .ok (.iconst 0, 1) := by decide +kernel
theorem dX1_feelThrough_1 : decode cX1_feelThrough 1 = .ok (.istore_n 3, 1) := by decide +kernel
def FX1_feelThrough_48_4_2  : Nat → Int → Int → Mm → Option Mm
  | 0, _, _, _ => none
  | n + 1, x2, x3, f => (if x2 < x3 then some f else (if 6 ≤ x3 then some f else ((FX1_feelDay_48_4 x3 f).bind fun f1 => FX1_feelThrough_48_4_2 n x2 (w32 (x3 + 1)) f1)))
set_option maxHeartbeats 4000000 in
set_option maxRecDepth 100000 in
theorem SX1_feelThrough_48_4_2 {G : GT} {l : Launch} {Q : Option AV → Mem → Prop}  : ∀ (n : Nat) (x2 : Int) (x3 : Int) (f : Mm), OkV Q (FX1_feelThrough_48_4_2  n x2 x3 f) → Ev G l MX1_feelThrough (Rm 4 0 0) (ZM G Q 0 0) 0 0 2 [some (vR 48), some (vR 4), some (vI x2), some (vI x3)] [] (SH, RF, f) := by
  intro n
  induction n with
  | zero => intro x2 x3 f h; exact absurd h (by rw [FX1_feelThrough_48_4_2]; exact fun q => q)
  | succ n ih =>
    intro x2 x3 f h
    rw [FX1_feelThrough_48_4_2] at h
    refine ev_iload_n (i := 3) dX1_feelThrough_2 rfl rfl ?_
    refine ev_iload_n (i := 2) dX1_feelThrough_3 rfl rfl ?_
    refine ev_icmp_gt (tgt := 25) dX1_feelThrough_4 (by decide) (fun c3 => ?_) (fun c3 => ?_)
    · rw [if_pos c3] at h
      exact ev_vret rfl dX1_feelThrough_25 h
    · rw [if_neg c3] at h
      refine ev_iload_n (i := 3) dX1_feelThrough_7 rfl rfl ?_
      refine ev_bipush (v := 6) dX1_feelThrough_8 (r32c rfl) (by decide) ?_
      refine ev_icmp_ge (tgt := 25) dX1_feelThrough_10 (by decide) (fun c2 => ?_) (fun c2 => ?_)
      · rw [if_pos c2] at h
        exact ev_vret rfl dX1_feelThrough_25 h
      · rw [if_neg c2] at h
        refine ev_aload_n (i := 0) dX1_feelThrough_13 rfl rfl ?_
        refine ev_aload_n (i := 1) dX1_feelThrough_14 rfl rfl ?_
        refine ev_iload_n (i := 3) dX1_feelThrough_15 rfl rfl ?_
        refine ev_cVV (b := 48) (av := [vR 4, vI x3]) (S := []) (fun q => q) h dX1_feelThrough_16 (fun Q' q => TX1_feelDay_48_4 x3 _ q) kvX1_feelDay ml_X1_54 sh_48 rfl (RRc (by decide) (by decide)) (Nat.le_of_ble_eq_true rfl) ⟨Nat.le_of_ble_eq_true rfl, Nat.le_of_ble_eq_true rfl⟩ (fun f1 h => ?_)
        refine ev_iinc (L' := [some (vR 48), some (vR 4), some (vI x2), some (vI (w32 (x3 + 1)))]) dX1_feelThrough_19 rfl (by decide) rfl ?_
        refine ev_goto (tgt := 2) dX1_feelThrough_22 (by decide) ?_
        exact ih x2 (w32 (x3 + 1)) _ h
def FX1_feelThrough_48_4_0  (x2 : Int) (f : Mm) : Option Mm := FX1_feelThrough_48_4_2 fu x2 0 f
set_option maxHeartbeats 4000000 in
set_option maxRecDepth 100000 in
theorem SX1_feelThrough_48_4_0 {G : GT} {l : Launch} {Q : Option AV → Mem → Prop}  (x2 : Int) (f : Mm) (h : OkV Q (FX1_feelThrough_48_4_0  x2 f)) : Ev G l MX1_feelThrough (Rm 4 0 0) (ZM G Q 0 0) 0 0 0 [some (vR 48), some (vR 4), some (vI x2), none] [] (SH, RF, f) := by
  unfold FX1_feelThrough_48_4_0 at h
  refine ev_iconst dX1_feelThrough_0 (r32c rfl) ?_
  refine ev_istore_n (i := 3) (L' := [some (vR 48), some (vR 4), some (vI x2), some (vI 0)]) dX1_feelThrough_1 rfl (by decide) rfl ?_
  exact SX1_feelThrough_48_4_2  fu x2 0 _ h
def FX1_feelThrough_48_4 (x2 : Int) (f : Mm) : Option Mm := FX1_feelThrough_48_4_0 x2 f
set_option maxRecDepth 100000 in
theorem TX1_feelThrough_48_4 {G : GT} {l : Launch} {Q : Option AV → Mem → Prop} (x2 : Int) (f : Mm) (h : OkV Q (FX1_feelThrough_48_4 x2 f)) : Ret G l MX1_feelThrough (4) 0 0 [vR 48, vR 4, vI x2] (SH, RF, f) Q := by
  refine ret_of (L := [some (vR 48), some (vR 4), some (vI x2), none]) (by decide) rfl (Nat.le_of_ble_eq_true rfl) ?_
  exact SX1_feelThrough_48_4_0 x2 f h
theorem dX10_kind_87 : decode cX10_kind 87 = .ok (.iinc 4 1, 3) := by decide +kernel
theorem dX10_kind_90 : decode cX10_kind 90 = .ok (.goto (-62), 3) := by decide +kernel
theorem dX10_kind_28 : decode cX10_kind 28 = .ok (.iload 4, 2) := by decide +kernel
theorem dX10_kind_30 : decode cX10_kind 30 = .ok (.aload_n 0, 1) := by decide +kernel
theorem dX10_kind_31 : decode cX10_kind 31 = .ok (.getfield 19, 3) := by decide +kernel
theorem dX10_kind_34 : decode cX10_kind 34 = .ok (.getfield 220, 3) := by decide +kernel
theorem dX10_kind_37 : decode cX10_kind 37 = .ok (.if_icmp .ge 56, 3) := by decide +kernel
theorem dX10_kind_93 : decode cX10_kind 93 = .ok (.iload_n 2, 1) := by decide +kernel
theorem dX10_kind_94 : decode cX10_kind 94 = .ok (.ireturn, 1) := by decide +kernel
theorem dX10_kind_40 : decode cX10_kind 40 = .ok (.aload_n 0, 1) := by decide +kernel
theorem dX10_kind_41 : decode cX10_kind 41 = .ok (.getfield 44, 3) := by decide +kernel
theorem dX10_kind_44 : decode cX10_kind 44 = .ok (.getfield 223, 3) := by decide +kernel
theorem dX10_kind_47 : decode cX10_kind 47 = .ok (.iload_n 1, 1) := by decide +kernel
theorem dX10_kind_48 : decode cX10_kind 48 = .ok (.iload 4, 2) := by decide +kernel
theorem dX10_kind_50 : decode cX10_kind 50 = .ok (.iastore, 1) := by decide +kernel
theorem dX10_kind_51 : decode cX10_kind 51 = .ok (.aload_n 0, 1) := by decide +kernel
theorem dX10_kind_52 : decode cX10_kind 52 = .ok (.getfield 44, 3) := by decide +kernel
theorem dX10_kind_55 : decode cX10_kind 55 = .ok (.aload_n 0, 1) := by decide +kernel
theorem dX10_kind_56 : decode cX10_kind 56 = .ok (.getfield 19, 3) := by decide +kernel
theorem dX10_kind_59 : decode cX10_kind 59 = .ok (.iload_n 1, 1) := by decide +kernel
theorem dX10_kind_60 : decode cX10_kind 60 = .ok (.invokevirtual 226, 3) := by decide +kernel
theorem dX10_kind_63 : decode cX10_kind 63 = .ok (.aload_n 0, 1) := by decide +kernel
theorem dX10_kind_64 : decode cX10_kind 64 = .ok (.getfield 44, 3) := by decide +kernel
theorem dX10_kind_67 : decode cX10_kind 67 = .ok (.iload_n 1, 1) := by decide +kernel
theorem dX10_kind_68 : decode cX10_kind 68 = .ok (.invokevirtual 136, 3) := by decide +kernel
theorem dX10_kind_71 : decode cX10_kind 71 = .ok (.iload_n 3, 1) := by decide +kernel
theorem dX10_kind_72 : decode cX10_kind 72 = .ok (.if_icmp .le 15, 3) := by decide +kernel
theorem dX10_kind_75 : decode cX10_kind 75 = .ok (.aload_n 0, 1) := by decide +kernel
theorem dX10_kind_76 : decode cX10_kind 76 = .ok (.getfield 44, 3) := by decide +kernel
theorem dX10_kind_79 : decode cX10_kind 79 = .ok (.iload_n 1, 1) := by decide +kernel
theorem dX10_kind_80 : decode cX10_kind 80 = .ok (.invokevirtual 136, 3) := by decide +kernel
theorem dX10_kind_83 : decode cX10_kind 83 = .ok (.istore_n 3, 1) := by decide +kernel
theorem dX10_kind_84 : decode cX10_kind 84 = .ok (.iload 4, 2) := by decide +kernel
theorem dX10_kind_86 : decode cX10_kind 86 = .ok (.istore_n 2, 1) := by decide +kernel
theorem dX10_kind_0 : decode cX10_kind 0 = .ok (.aload_n 0, 1) := by decide +kernel
theorem dX10_kind_1 : decode cX10_kind 1 = .ok (.getfield 19, 3) := by decide +kernel
theorem dX10_kind_4 : decode cX10_kind 4 = .ok (.iload_n 1, 1) := by decide +kernel
theorem dX10_kind_5 : decode cX10_kind 5 = .ok (.invokevirtual 126, 3) := by decide +kernel
theorem dX10_kind_8 : decode cX10_kind 8 = .ok (.ifCond .ne 6, 3) := by decide +kernel
theorem dX10_kind_14 : decode cX10_kind 14 = .ok (.iconst (-1), 1) := by decide +kernel
theorem dX10_kind_15 : decode cX10_kind 15 = .ok (.istore_n 2, 1) := by decide +kernel
theorem dX10_kind_16 : decode cX10_kind 16 = .ok (.aload_n 0, 1) := by decide +kernel
theorem dX10_kind_17 : decode cX10_kind 17 = .ok (.invokevirtual 129, 3) := by decide +kernel
theorem dX10_kind_20 : decode cX10_kind 20 = .ok (.iload_n 1, 1) := by decide +kernel
theorem dX10_kind_21 : decode cX10_kind 21 = .ok (.invokevirtual 136, 3) := by decide +kernel
theorem dX10_kind_24 : decode cX10_kind 24 = .ok (.istore_n 3, 1) := by decide +kernel
theorem dX10_kind_25 : decode cX10_kind 25 = .ok (.iconst 0, 1) := by decide +kernel
theorem dX10_kind_26 : decode cX10_kind 26 = .ok (.istore 4, 2) := by decide +kernel
theorem dX10_kind_11 : decode cX10_kind 11 = .ok (.bipush (-2), 2) := by decide +kernel
theorem dX10_kind_13 : decode cX10_kind 13 = .ok (.ireturn, 1) := by decide +kernel
def FX10_kind_87 (k28 : Int → Int → Int → Int → Mm → Option (Int × Mm)) (x1 : Int) (x2 : Int) (x3 : Int) (x4 : Int) (f : Mm) : Option (Int × Mm) := k28 x1 x2 x3 (w32 (x4 + 1)) f
set_option maxHeartbeats 4000000 in
set_option maxRecDepth 100000 in
theorem SX10_kind_87 {G : GT} {l : Launch} {Q : Option AV → Mem → Prop} {k28 : Int → Int → Int → Int → Mm → Option (Int × Mm)} (q28 : ∀ (x1 : Int) (x2 : Int) (x3 : Int) (x4 : Int) (f : Mm), OkI Q (k28 x1 x2 x3 x4 f) → Ev G l MX10_kind (Rm 6 0 0) (ZM G Q 0 0) 0 0 28 [some (vR 0), some (vI x1), some (vI x2), some (vI x3), some (vI x4)] [] (SH, RF, f)) (x1 : Int) (x2 : Int) (x3 : Int) (x4 : Int) (f : Mm) (h : OkI Q (FX10_kind_87 k28 x1 x2 x3 x4 f)) : Ev G l MX10_kind (Rm 6 0 0) (ZM G Q 0 0) 0 0 87 [some (vR 0), some (vI x1), some (vI x2), some (vI x3), some (vI x4)] [] (SH, RF, f) := by
  unfold FX10_kind_87 at h
  refine ev_iinc (L' := [some (vR 0), some (vI x1), some (vI x2), some (vI x3), some (vI (w32 (x4 + 1)))]) dX10_kind_87 rfl (by decide) rfl ?_
  refine ev_goto (tgt := 28) dX10_kind_90 (by decide) ?_
  exact q28 x1 x2 x3 (w32 (x4 + 1)) _ h
def FX10_kind_28  : Nat → Int → Int → Int → Int → Mm → Option (Int × Mm)
  | 0, _, _, _, _, _ => none
  | n + 1, x1, x2, x3, x4, f => (if (f 4 4) ≤ x4 then some (x2, f) else (if 0 ≤ x1 ∧ x1 < 6 then ((FX1_feelThrough_48_4 x1 (up f 49 x1.toNat x4)).bind fun f2 => (b2 (FX1_widthOn x1 f2) fun y3 f3 => (if y3 ≤ x3 then FX10_kind_87 (FX10_kind_28 n) x1 x2 x3 x4 f3 else (b2 (FX1_widthOn x1 f3) fun y4 f4 => FX10_kind_87 (FX10_kind_28 n) x1 x4 y4 x4 f4)))) else none))
set_option maxHeartbeats 4000000 in
set_option maxRecDepth 100000 in
theorem SX10_kind_28 {G : GT} {l : Launch} {Q : Option AV → Mem → Prop}  : ∀ (n : Nat) (x1 : Int) (x2 : Int) (x3 : Int) (x4 : Int) (f : Mm), OkI Q (FX10_kind_28  n x1 x2 x3 x4 f) → Ev G l MX10_kind (Rm 6 0 0) (ZM G Q 0 0) 0 0 28 [some (vR 0), some (vI x1), some (vI x2), some (vI x3), some (vI x4)] [] (SH, RF, f) := by
  intro n
  induction n with
  | zero => intro x1 x2 x3 x4 f h; exact absurd h (by rw [FX10_kind_28]; exact fun q => q)
  | succ n ih =>
    intro x1 x2 x3 x4 f h
    rw [FX10_kind_28] at h
    refine ev_iload dX10_kind_28 rfl ?_
    refine ev_aload_n (i := 0) dX10_kind_30 rfl rfl ?_
    refine ev_getR dX10_kind_31 fl_X10_19 sh_0 (by decide) (by decide) rf_0_1 ?_
    refine ex_getI (x := (f 4 4)) dX10_kind_34 fl_X10_220 sh_4 (by decide) (by decide) rfl ?_
    refine ev_icmp_ge (tgt := 93) dX10_kind_37 (by decide) (fun c6 => ?_) (fun c6 => ?_)
    · rw [if_pos c6] at h
      refine ev_iload_n (i := 2) dX10_kind_93 rfl rfl ?_
      exact ev_iret rfl dX10_kind_94 h
    · rw [if_neg c6] at h
      refine ev_aload_n (i := 0) dX10_kind_40 rfl rfl ?_
      refine ev_getR dX10_kind_41 fl_X10_44 sh_0 (by decide) (by decide) rf_0_6 ?_
      refine ev_getR dX10_kind_44 fl_X10_223 sh_48 (by decide) (by decide) rf_48_0 ?_
      refine ev_iload_n (i := 1) dX10_kind_47 rfl rfl ?_
      refine ev_iload dX10_kind_48 rfl ?_
      by_cases g1 : 0 ≤ x1 ∧ x1 < 6
      · rw [if_pos g1] at h
        refine ex_iast (j := x1.toNat) dX10_kind_50 sh_49 g1.1 g1.2 rfl ?_
        refine ev_aload_n (i := 0) dX10_kind_51 rfl rfl ?_
        refine ev_getR dX10_kind_52 fl_X10_44 sh_0 (by decide) (by decide) rf_0_6 ?_
        refine ev_aload_n (i := 0) dX10_kind_55 rfl rfl ?_
        refine ev_getR dX10_kind_56 fl_X10_19 sh_0 (by decide) (by decide) rf_0_1 ?_
        refine ev_iload_n (i := 1) dX10_kind_59 rfl rfl ?_
        refine ev_cVV (b := 48) (av := [vR 4, vI x1]) (S := []) (fun q => q) h dX10_kind_60 (fun Q' q => TX1_feelThrough_48_4 x1 _ q) kvX1_feelThrough ml_X10_226 sh_48 rfl (RRc (by decide) (by decide)) (Nat.le_of_ble_eq_true rfl) ⟨Nat.le_of_ble_eq_true rfl, Nat.le_of_ble_eq_true rfl⟩ (fun f2 h => ?_)
        refine ev_aload_n (i := 0) dX10_kind_63 rfl rfl ?_
        refine ev_getR dX10_kind_64 fl_X10_44 sh_0 (by decide) (by decide) rf_0_6 ?_
        refine ev_iload_n (i := 1) dX10_kind_67 rfl rfl ?_
        refine ev_cVI (b := 48) (av := [vI x1]) (S := []) (fun q => q) h dX10_kind_68 (fun Q' q => TX1_widthOn x1 _ q) kvX1_widthOn ml_X10_136 sh_48 rfl (RRc (by decide) (by decide)) (Nat.le_of_ble_eq_true rfl) ⟨Nat.le_of_ble_eq_true rfl, Nat.le_of_ble_eq_true rfl⟩ (fun y3 f3 h => ?_)
        refine ev_iload_n (i := 3) dX10_kind_71 rfl rfl ?_
        refine ev_icmp_le (tgt := 87) dX10_kind_72 (by decide) (fun c5 => ?_) (fun c5 => ?_)
        · rw [if_pos c5] at h
          exact SX10_kind_87 ih x1 x2 x3 x4 _ h
        · rw [if_neg c5] at h
          refine ev_aload_n (i := 0) dX10_kind_75 rfl rfl ?_
          refine ev_getR dX10_kind_76 fl_X10_44 sh_0 (by decide) (by decide) rf_0_6 ?_
          refine ev_iload_n (i := 1) dX10_kind_79 rfl rfl ?_
          refine ev_cVI (b := 48) (av := [vI x1]) (S := []) (fun q => q) h dX10_kind_80 (fun Q' q => TX1_widthOn x1 _ q) kvX1_widthOn ml_X10_136 sh_48 rfl (RRc (by decide) (by decide)) (Nat.le_of_ble_eq_true rfl) ⟨Nat.le_of_ble_eq_true rfl, Nat.le_of_ble_eq_true rfl⟩ (fun y4 f4 h => ?_)
          refine ev_istore_n (i := 3) (L' := [some (vR 0), some (vI x1), some (vI x2), some (vI y4), some (vI x4)]) dX10_kind_83 rfl (by decide) rfl ?_
          refine ev_iload dX10_kind_84 rfl ?_
          refine ev_istore_n (i := 2) (L' := [some (vR 0), some (vI x1), some (vI x4), some (vI y4), some (vI x4)]) dX10_kind_86 rfl (by decide) rfl ?_
          exact SX10_kind_87 ih x1 x4 y4 x4 _ h
      · rw [if_neg g1] at h; exact h.elim
def FX10_kind_0  (x1 : Int) (f : Mm) : Option (Int × Mm) := (b2 (FX0_hasDay_4 x1 f) fun y1 f1 => (if y1 = 0 then some ((-2), f1) else ((FX10_asNow f1).bind fun f2 => (b2 (FX1_widthOn x1 f2) fun y3 f3 => FX10_kind_28 fu x1 (-1) y3 0 f3))))
set_option maxHeartbeats 4000000 in
set_option maxRecDepth 100000 in
theorem SX10_kind_0 {G : GT} {l : Launch} {Q : Option AV → Mem → Prop}  (x1 : Int) (f : Mm) (h : OkI Q (FX10_kind_0  x1 f)) : Ev G l MX10_kind (Rm 6 0 0) (ZM G Q 0 0) 0 0 0 [some (vR 0), some (vI x1), none, none, none] [] (SH, RF, f) := by
  unfold FX10_kind_0 at h
  refine ev_aload_n (i := 0) dX10_kind_0 rfl rfl ?_
  refine ev_getR dX10_kind_1 fl_X10_19 sh_0 (by decide) (by decide) rf_0_1 ?_
  refine ev_iload_n (i := 1) dX10_kind_4 rfl rfl ?_
  refine ev_cVI (b := 4) (av := [vI x1]) (S := []) (fun q => q) h dX10_kind_5 (fun Q' q => TX0_hasDay_4 x1 _ q) kvX0_hasDay ml_X10_126 sh_4 rfl (RRc (by decide) (by decide)) (Nat.le_of_ble_eq_true rfl) ⟨Nat.le_of_ble_eq_true rfl, Nat.le_of_ble_eq_true rfl⟩ (fun y1 f1 h => ?_)
  refine ev_if_ne (tgt := 14) dX10_kind_8 (by decide) (fun c4 => ?_) (fun c4 => ?_)
  · rw [if_neg c4] at h
    refine ev_iconst dX10_kind_14 (r32c rfl) ?_
    refine ev_istore_n (i := 2) (L' := [some (vR 0), some (vI x1), some (vI (-1)), none, none]) dX10_kind_15 rfl (by decide) rfl ?_
    refine ev_aload_n (i := 0) dX10_kind_16 rfl rfl ?_
    refine ev_cVC (b := 0) (av := []) (S := []) (fun q => q) h dX10_kind_17 (fun Q' q => TX10_asNow _ q) kvX10_asNow ml_X10_129 sh_0 rfl (RRc (by decide) (by decide)) (Nat.le_of_ble_eq_true rfl) ⟨Nat.le_of_ble_eq_true rfl, Nat.le_of_ble_eq_true rfl⟩ (fun f2 h => ?_)
    refine ev_iload_n (i := 1) dX10_kind_20 rfl rfl ?_
    refine ev_cVI (b := 48) (av := [vI x1]) (S := []) (fun q => q) h dX10_kind_21 (fun Q' q => TX1_widthOn x1 _ q) kvX1_widthOn ml_X10_136 sh_48 rfl (RRc (by decide) (by decide)) (Nat.le_of_ble_eq_true rfl) ⟨Nat.le_of_ble_eq_true rfl, Nat.le_of_ble_eq_true rfl⟩ (fun y3 f3 h => ?_)
    refine ev_istore_n (i := 3) (L' := [some (vR 0), some (vI x1), some (vI (-1)), some (vI y3), none]) dX10_kind_24 rfl (by decide) rfl ?_
    refine ev_iconst dX10_kind_25 (r32c rfl) ?_
    refine ev_istore (L' := [some (vR 0), some (vI x1), some (vI (-1)), some (vI y3), some (vI 0)]) dX10_kind_26 (by decide) rfl ?_
    exact SX10_kind_28  fu x1 (-1) y3 0 _ h
  · rw [if_pos c4] at h
    refine ev_bipush (v := (-2)) dX10_kind_11 (r32c rfl) (by decide) ?_
    exact ev_iret rfl dX10_kind_13 h
def FX10_kind (x1 : Int) (f : Mm) : Option (Int × Mm) := FX10_kind_0 x1 f
set_option maxRecDepth 100000 in
theorem TX10_kind {G : GT} {l : Launch} {Q : Option AV → Mem → Prop} (x1 : Int) (f : Mm) (h : OkI Q (FX10_kind x1 f)) : Ret G l MX10_kind (6) 0 0 [vR 0, vI x1] (SH, RF, f) Q := by
  refine ret_of (L := [some (vR 0), some (vI x1), none, none, none]) (by decide) rfl (Nat.le_of_ble_eq_true rfl) ?_
  exact SX10_kind_0 x1 f h

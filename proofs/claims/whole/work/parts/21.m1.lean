theorem dX11_cartLine_0 : decode cX11_cartLine 0 = .ok (.iconst 5, 1) := by decide +kernel
theorem dX11_cartLine_1 : decode cX11_cartLine 1 = .ok (.bipush 24, 2) := by decide +kernel
theorem dX11_cartLine_3 : decode cX11_cartLine 3 = .ok (.aload_n 0, 1) := by decide +kernel
theorem dX11_cartLine_4 : decode cX11_cartLine 4 = .ok (.bipush 6, 2) := by decide +kernel
theorem dX11_cartLine_6 : decode cX11_cartLine 6 = .ok (.invokevirtual 184, 3) := by decide +kernel
theorem dX11_cartLine_9 : decode cX11_cartLine 9 = .ok (.iadd, 1) := by decide +kernel
theorem dX11_cartLine_10 : decode cX11_cartLine 10 = .ok (.imul, 1) := by decide +kernel
theorem dX11_cartLine_11 : decode cX11_cartLine 11 = .ok (.istore_n 1, 1) := by decide +kernel
theorem dX11_cartLine_12 : decode cX11_cartLine 12 = .ok (.aload_n 0, 1) := by decide +kernel
theorem dX11_cartLine_13 : decode cX11_cartLine 13 = .ok (.getfield 40, 3) := by decide +kernel
theorem dX11_cartLine_16 : decode cX11_cartLine 16 = .ok (.iload_n 1, 1) := by decide +kernel
theorem dX11_cartLine_17 : decode cX11_cartLine 17 = .ok (.aload_n 0, 1) := by decide +kernel
theorem dX11_cartLine_18 : decode cX11_cartLine 18 = .ok (.ldc2_w 203, 3) := by decide +kernel
theorem dX11_cartLine_21 : decode cX11_cartLine 21 = .ok (.iconst 0, 1) := by decide +kernel
theorem dX11_cartLine_22 : decode cX11_cartLine 22 = .ok (.iconst 1, 1) := by decide +kernel
theorem dX11_cartLine_23 : decode cX11_cartLine 23 = .ok (.invokevirtual 190, 3) := by decide +kernel
theorem dX11_cartLine_26 : decode cX11_cartLine 26 = .ok (.iastore, 1) := by decide +kernel
theorem dX11_cartLine_27 : decode cX11_cartLine 27 = .ok (.aload_n 0, 1) := by decide +kernel
theorem dX11_cartLine_28 : decode cX11_cartLine 28 = .ok (.getfield 40, 3) := by decide +kernel
theorem dX11_cartLine_31 : decode cX11_cartLine 31 = .ok (.iload_n 1, 1) := by decide +kernel
theorem dX11_cartLine_32 : decode cX11_cartLine 32 = .ok (.iconst 1, 1) := by decide +kernel
theorem dX11_cartLine_33 : decode cX11_cartLine 33 = .ok (.iadd, 1) := by decide +kernel
theorem dX11_cartLine_34 : decode cX11_cartLine 34 = .ok (.aload_n 0, 1) := by decide +kernel
theorem dX11_cartLine_35 : decode cX11_cartLine 35 = .ok (.ldc2_w 205, 3) := by decide +kernel
theorem dX11_cartLine_38 : decode cX11_cartLine 38 = .ok (.iconst 1, 1) := by decide +kernel
theorem dX11_cartLine_39 : decode cX11_cartLine 39 = .ok (.bipush 40, 2) := by decide +kernel
theorem dX11_cartLine_41 : decode cX11_cartLine 41 = .ok (.invokevirtual 190, 3) := by decide +kernel
theorem dX11_cartLine_44 : decode cX11_cartLine 44 = .ok (.iastore, 1) := by decide +kernel
theorem dX11_cartLine_45 : decode cX11_cartLine 45 = .ok (.aload_n 0, 1) := by decide +kernel
theorem dX11_cartLine_46 : decode cX11_cartLine 46 = .ok (.getfield 40, 3) := by decide +kernel
theorem dX11_cartLine_49 : decode cX11_cartLine 49 = .ok (.iload_n 1, 1) := by decide +kernel
theorem dX11_cartLine_50 : decode cX11_cartLine 50 = .ok (.iconst 2, 1) := by decide +kernel
theorem dX11_cartLine_51 : decode cX11_cartLine 51 = .ok (.iadd, 1) := by decide +kernel
theorem dX11_cartLine_52 : decode cX11_cartLine 52 = .ok (.aload_n 0, 1) := by decide +kernel
theorem dX11_cartLine_53 : decode cX11_cartLine 53 = .ok (.ldc2_w 207, 3) := by decide +kernel
theorem dX11_cartLine_56 : decode cX11_cartLine 56 = .ok (.iconst 0, 1) := by decide +kernel
theorem dX11_cartLine_57 : decode cX11_cartLine 57 = .ok (.bipush 9, 2) := by decide +kernel
theorem dX11_cartLine_59 : decode cX11_cartLine 59 = .ok (.invokevirtual 190, 3) := by decide +kernel
theorem dX11_cartLine_62 : decode cX11_cartLine 62 = .ok (.iastore, 1) := by decide +kernel
theorem dX11_cartLine_63 : decode cX11_cartLine 63 = .ok (.aload_n 0, 1) := by decide +kernel
theorem dX11_cartLine_64 : decode cX11_cartLine 64 = .ok (.getfield 40, 3) := by decide +kernel
theorem dX11_cartLine_67 : decode cX11_cartLine 67 = .ok (.iload_n 1, 1) := by decide +kernel
theorem dX11_cartLine_68 : decode cX11_cartLine 68 = .ok (.iconst 3, 1) := by decide +kernel
theorem dX11_cartLine_69 : decode cX11_cartLine 69 = .ok (.iadd, 1) := by decide +kernel
theorem dX11_cartLine_70 : decode cX11_cartLine 70 = .ok (.aload_n 0, 1) := by decide +kernel
theorem dX11_cartLine_71 : decode cX11_cartLine 71 = .ok (.ldc2_w 209, 3) := by decide +kernel
theorem dX11_cartLine_74 : decode cX11_cartLine 74 = .ok (.iconst 0, 1) := by decide +kernel
theorem dX11_cartLine_75 : decode cX11_cartLine 75 = .ok (.bipush 9, 2) := by decide +kernel
theorem dX11_cartLine_77 : decode cX11_cartLine 77 = .ok (.invokevirtual 190, 3) := by decide +kernel
theorem dX11_cartLine_80 : decode cX11_cartLine 80 = .ok (.iastore, 1) := by decide +kernel
theorem dX11_cartLine_81 : decode cX11_cartLine 81 = .ok (.aload_n 0, 1) := by decide +kernel
theorem dX11_cartLine_82 : decode cX11_cartLine 82 = .ok (.getfield 40, 3) := by decide +kernel
theorem dX11_cartLine_85 : decode cX11_cartLine 85 = .ok (.iload_n 1, 1) := by decide +kernel
theorem dX11_cartLine_86 : decode cX11_cartLine 86 = .ok (.iconst 4, 1) := by decide +kernel
theorem dX11_cartLine_87 : decode cX11_cartLine 87 = .ok (.iadd, 1) := by decide +kernel
theorem dX11_cartLine_88 : decode cX11_cartLine 88 = .ok (.aload_n 0, 1) := by decide +kernel
theorem dX11_cartLine_89 : decode cX11_cartLine 89 = .ok (.ldc2_w 211, 3) := by decide +kernel
theorem dX11_cartLine_92 : decode cX11_cartLine 92 = .ok (.iconst 0, 1) := by decide +kernel
theorem dX11_cartLine_93 : decode cX11_cartLine 93 = .ok (.sipush 999, 3) := by decide +kernel
theorem dX11_cartLine_96 : decode cX11_cartLine 96 = .ok (.invokevirtual 190, 3) := by decide +kernel
theorem dX11_cartLine_99 : decode cX11_cartLine 99 = .ok (.iastore, 1) := by decide +kernel
theorem dX11_cartLine_100 : decode cX11_cartLine 100 = .ok (.aload_n 0, 1) := by decide +kernel
theorem dX11_cartLine_101 : decode cX11_cartLine 101 = .ok (.bipush 6, 2) := by decide +kernel
theorem dX11_cartLine_103 : decode cX11_cartLine 103 = .ok (.aload_n 0, 1) := by decide +kernel
theorem dX11_cartLine_104 : decode cX11_cartLine 104 = .ok (.bipush 6, 2) := by decide +kernel
theorem dX11_cartLine_106 : decode cX11_cartLine 106 = .ok (.invokevirtual 184, 3) := by decide +kernel
theorem dX11_cartLine_109 : decode cX11_cartLine 109 = .ok (.iconst 1, 1) := by decide +kernel
theorem dX11_cartLine_110 : decode cX11_cartLine 110 = .ok (.iadd, 1) := by decide +kernel
theorem dX11_cartLine_111 : decode cX11_cartLine 111 = .ok (.invokevirtual 199, 3) := by decide +kernel
theorem dX11_cartLine_114 : decode cX11_cartLine 114 = .ok (.return_, 1) := by decide +kernel
def FX11_cartLine_0   (f : Mm) : Option Mm := (b2 (FX11_hasRead 6 f) fun y1 f1 => (b2 (FX11_number_ 419 0 1 f1) fun y2 f2 => (if 0 ≤ (w32 (5 * (w32 (24 + y1)))) ∧ (w32 (5 * (w32 (24 + y1)))) < 150 then (b2 (FX11_number_ 459383 1 40 (up f2 159 (w32 (5 * (w32 (24 + y1)))).toNat y2)) fun y4 f4 => (if 0 ≤ (w32 ((w32 (5 * (w32 (24 + y1)))) + 1)) ∧ (w32 ((w32 (5 * (w32 (24 + y1)))) + 1)) < 150 then (b2 (FX11_number_ 131638 0 9 (up f4 159 (w32 ((w32 (5 * (w32 (24 + y1)))) + 1)).toNat y4)) fun y6 f6 => (if 0 ≤ (w32 ((w32 (5 * (w32 (24 + y1)))) + 2)) ∧ (w32 ((w32 (5 * (w32 (24 + y1)))) + 2)) < 150 then (b2 (FX11_number_ 3488 0 9 (up f6 159 (w32 ((w32 (5 * (w32 (24 + y1)))) + 2)).toNat y6)) fun y8 f8 => (if 0 ≤ (w32 ((w32 (5 * (w32 (24 + y1)))) + 3)) ∧ (w32 ((w32 (5 * (w32 (24 + y1)))) + 3)) < 150 then (b2 (FX11_number_ 316351 0 999 (up f8 159 (w32 ((w32 (5 * (w32 (24 + y1)))) + 3)).toNat y8)) fun y10 f10 => (if 0 ≤ (w32 ((w32 (5 * (w32 (24 + y1)))) + 4)) ∧ (w32 ((w32 (5 * (w32 (24 + y1)))) + 4)) < 150 then (b2 (FX11_hasRead 6 (up f10 159 (w32 ((w32 (5 * (w32 (24 + y1)))) + 4)).toNat y10)) fun y12 f12 => ((FX11_tells 6 (w32 (y12 + 1)) f12).bind fun f13 => some f13)) else none)) else none)) else none)) else none)) else none)))
set_option maxHeartbeats 4000000 in
set_option maxRecDepth 100000 in
theorem SX11_cartLine_0 {G : GT} {l : Launch} {Q : Option AV → Mem → Prop}   (f : Mm) (h : OkV Q (FX11_cartLine_0   f)) : Ev G l MX11_cartLine (Rm 6 0 0) (ZM G Q 0 0) 0 0 0 [some (vR 150), none] [] (SH, RF, f) := by
  unfold FX11_cartLine_0 at h
  refine ev_iconst dX11_cartLine_0 (r32c rfl) ?_
  refine ev_bipush (v := 24) dX11_cartLine_1 (r32c rfl) (by decide) ?_
  refine ev_aload_n (i := 0) dX11_cartLine_3 rfl rfl ?_
  refine ev_bipush (v := 6) dX11_cartLine_4 (r32c rfl) (by decide) ?_
  refine ev_cVI (b := 150) (av := [vI 6]) (S := [vI 24, vI 5]) (fun q => q) h dX11_cartLine_6 (fun Q' q => TX11_hasRead 6 _ q) kvX11_hasRead ml_X11_184 sh_150 rfl (RRc (by decide) (by decide)) (Nat.le_of_ble_eq_true rfl) ⟨Nat.le_of_ble_eq_true rfl, Nat.le_of_ble_eq_true rfl⟩ (fun y1 f1 h => ?_)
  refine ev_iadd dX11_cartLine_9 ?_
  refine ev_imul dX11_cartLine_10 ?_
  refine ev_istore_n (i := 1) (L' := [some (vR 150), some (vI (w32 (5 * (w32 (24 + y1)))))]) dX11_cartLine_11 rfl (by decide) rfl ?_
  refine ev_aload_n (i := 0) dX11_cartLine_12 rfl rfl ?_
  refine ev_getR dX11_cartLine_13 fl_X11_40 sh_150 (by decide) (by decide) rf_150_19 ?_
  refine ev_iload_n (i := 1) dX11_cartLine_16 rfl rfl ?_
  refine ev_aload_n (i := 0) dX11_cartLine_17 rfl rfl ?_
  refine ev_ldc2 (v := 419) dX11_cartLine_18 (r64c rfl) kc_X11_203 ?_
  refine ev_iconst dX11_cartLine_21 (r32c rfl) ?_
  refine ev_iconst dX11_cartLine_22 (r32c rfl) ?_
  refine ev_cVI (b := 150) (av := [vJ 419, vI 0, vI 1]) (S := [vI (w32 (5 * (w32 (24 + y1)))), vR 159]) (fun q => q) h dX11_cartLine_23 (fun Q' q => TX11_number_ 419 0 1 _ q) kvX11_number_ ml_X11_190 sh_150 rfl (RRc (by decide) (by decide)) (Nat.le_of_ble_eq_true rfl) ⟨Nat.le_of_ble_eq_true rfl, Nat.le_of_ble_eq_true rfl⟩ (fun y2 f2 h => ?_)
  by_cases g3 : 0 ≤ (w32 (5 * (w32 (24 + y1)))) ∧ (w32 (5 * (w32 (24 + y1)))) < 150
  · rw [if_pos g3] at h
    refine ex_iast (j := (w32 (5 * (w32 (24 + y1)))).toNat) dX11_cartLine_26 sh_159 g3.1 g3.2 rfl ?_
    refine ev_aload_n (i := 0) dX11_cartLine_27 rfl rfl ?_
    refine ev_getR dX11_cartLine_28 fl_X11_40 sh_150 (by decide) (by decide) rf_150_19 ?_
    refine ev_iload_n (i := 1) dX11_cartLine_31 rfl rfl ?_
    refine ev_iconst dX11_cartLine_32 (r32c rfl) ?_
    refine ev_iadd dX11_cartLine_33 ?_
    refine ev_aload_n (i := 0) dX11_cartLine_34 rfl rfl ?_
    refine ev_ldc2 (v := 459383) dX11_cartLine_35 (r64c rfl) kc_X11_205 ?_
    refine ev_iconst dX11_cartLine_38 (r32c rfl) ?_
    refine ev_bipush (v := 40) dX11_cartLine_39 (r32c rfl) (by decide) ?_
    refine ev_cVI (b := 150) (av := [vJ 459383, vI 1, vI 40]) (S := [vI (w32 ((w32 (5 * (w32 (24 + y1)))) + 1)), vR 159]) (fun q => q) h dX11_cartLine_41 (fun Q' q => TX11_number_ 459383 1 40 _ q) kvX11_number_ ml_X11_190 sh_150 rfl (RRc (by decide) (by decide)) (Nat.le_of_ble_eq_true rfl) ⟨Nat.le_of_ble_eq_true rfl, Nat.le_of_ble_eq_true rfl⟩ (fun y4 f4 h => ?_)
    by_cases g5 : 0 ≤ (w32 ((w32 (5 * (w32 (24 + y1)))) + 1)) ∧ (w32 ((w32 (5 * (w32 (24 + y1)))) + 1)) < 150
    · rw [if_pos g5] at h
      refine ex_iast (j := (w32 ((w32 (5 * (w32 (24 + y1)))) + 1)).toNat) dX11_cartLine_44 sh_159 g5.1 g5.2 rfl ?_
      refine ev_aload_n (i := 0) dX11_cartLine_45 rfl rfl ?_
      refine ev_getR dX11_cartLine_46 fl_X11_40 sh_150 (by decide) (by decide) rf_150_19 ?_
      refine ev_iload_n (i := 1) dX11_cartLine_49 rfl rfl ?_
      refine ev_iconst dX11_cartLine_50 (r32c rfl) ?_
      refine ev_iadd dX11_cartLine_51 ?_
      refine ev_aload_n (i := 0) dX11_cartLine_52 rfl rfl ?_
      refine ev_ldc2 (v := 131638) dX11_cartLine_53 (r64c rfl) kc_X11_207 ?_
      refine ev_iconst dX11_cartLine_56 (r32c rfl) ?_
      refine ev_bipush (v := 9) dX11_cartLine_57 (r32c rfl) (by decide) ?_
      refine ev_cVI (b := 150) (av := [vJ 131638, vI 0, vI 9]) (S := [vI (w32 ((w32 (5 * (w32 (24 + y1)))) + 2)), vR 159]) (fun q => q) h dX11_cartLine_59 (fun Q' q => TX11_number_ 131638 0 9 _ q) kvX11_number_ ml_X11_190 sh_150 rfl (RRc (by decide) (by decide)) (Nat.le_of_ble_eq_true rfl) ⟨Nat.le_of_ble_eq_true rfl, Nat.le_of_ble_eq_true rfl⟩ (fun y6 f6 h => ?_)
      by_cases g7 : 0 ≤ (w32 ((w32 (5 * (w32 (24 + y1)))) + 2)) ∧ (w32 ((w32 (5 * (w32 (24 + y1)))) + 2)) < 150
      · rw [if_pos g7] at h
        refine ex_iast (j := (w32 ((w32 (5 * (w32 (24 + y1)))) + 2)).toNat) dX11_cartLine_62 sh_159 g7.1 g7.2 rfl ?_
        refine ev_aload_n (i := 0) dX11_cartLine_63 rfl rfl ?_
        refine ev_getR dX11_cartLine_64 fl_X11_40 sh_150 (by decide) (by decide) rf_150_19 ?_
        refine ev_iload_n (i := 1) dX11_cartLine_67 rfl rfl ?_
        refine ev_iconst dX11_cartLine_68 (r32c rfl) ?_
        refine ev_iadd dX11_cartLine_69 ?_
        refine ev_aload_n (i := 0) dX11_cartLine_70 rfl rfl ?_
        refine ev_ldc2 (v := 3488) dX11_cartLine_71 (r64c rfl) kc_X11_209 ?_
        refine ev_iconst dX11_cartLine_74 (r32c rfl) ?_
        refine ev_bipush (v := 9) dX11_cartLine_75 (r32c rfl) (by decide) ?_
        refine ev_cVI (b := 150) (av := [vJ 3488, vI 0, vI 9]) (S := [vI (w32 ((w32 (5 * (w32 (24 + y1)))) + 3)), vR 159]) (fun q => q) h dX11_cartLine_77 (fun Q' q => TX11_number_ 3488 0 9 _ q) kvX11_number_ ml_X11_190 sh_150 rfl (RRc (by decide) (by decide)) (Nat.le_of_ble_eq_true rfl) ⟨Nat.le_of_ble_eq_true rfl, Nat.le_of_ble_eq_true rfl⟩ (fun y8 f8 h => ?_)
        by_cases g9 : 0 ≤ (w32 ((w32 (5 * (w32 (24 + y1)))) + 3)) ∧ (w32 ((w32 (5 * (w32 (24 + y1)))) + 3)) < 150
        · rw [if_pos g9] at h
          refine ex_iast (j := (w32 ((w32 (5 * (w32 (24 + y1)))) + 3)).toNat) dX11_cartLine_80 sh_159 g9.1 g9.2 rfl ?_
          refine ev_aload_n (i := 0) dX11_cartLine_81 rfl rfl ?_
          refine ev_getR dX11_cartLine_82 fl_X11_40 sh_150 (by decide) (by decide) rf_150_19 ?_
          refine ev_iload_n (i := 1) dX11_cartLine_85 rfl rfl ?_
          refine ev_iconst dX11_cartLine_86 (r32c rfl) ?_
          refine ev_iadd dX11_cartLine_87 ?_
          refine ev_aload_n (i := 0) dX11_cartLine_88 rfl rfl ?_
          refine ev_ldc2 (v := 316351) dX11_cartLine_89 (r64c rfl) kc_X11_211 ?_
          refine ev_iconst dX11_cartLine_92 (r32c rfl) ?_
          refine ev_sipush (v := 999) dX11_cartLine_93 (r32c rfl) (by decide) ?_
          refine ev_cVI (b := 150) (av := [vJ 316351, vI 0, vI 999]) (S := [vI (w32 ((w32 (5 * (w32 (24 + y1)))) + 4)), vR 159]) (fun q => q) h dX11_cartLine_96 (fun Q' q => TX11_number_ 316351 0 999 _ q) kvX11_number_ ml_X11_190 sh_150 rfl (RRc (by decide) (by decide)) (Nat.le_of_ble_eq_true rfl) ⟨Nat.le_of_ble_eq_true rfl, Nat.le_of_ble_eq_true rfl⟩ (fun y10 f10 h => ?_)
          by_cases g11 : 0 ≤ (w32 ((w32 (5 * (w32 (24 + y1)))) + 4)) ∧ (w32 ((w32 (5 * (w32 (24 + y1)))) + 4)) < 150
          · rw [if_pos g11] at h
            refine ex_iast (j := (w32 ((w32 (5 * (w32 (24 + y1)))) + 4)).toNat) dX11_cartLine_99 sh_159 g11.1 g11.2 rfl ?_
            refine ev_aload_n (i := 0) dX11_cartLine_100 rfl rfl ?_
            refine ev_bipush (v := 6) dX11_cartLine_101 (r32c rfl) (by decide) ?_
            refine ev_aload_n (i := 0) dX11_cartLine_103 rfl rfl ?_
            refine ev_bipush (v := 6) dX11_cartLine_104 (r32c rfl) (by decide) ?_
            refine ev_cVI (b := 150) (av := [vI 6]) (S := [vI 6, vR 150]) (fun q => q) h dX11_cartLine_106 (fun Q' q => TX11_hasRead 6 _ q) kvX11_hasRead ml_X11_184 sh_150 rfl (RRc (by decide) (by decide)) (Nat.le_of_ble_eq_true rfl) ⟨Nat.le_of_ble_eq_true rfl, Nat.le_of_ble_eq_true rfl⟩ (fun y12 f12 h => ?_)
            refine ev_iconst dX11_cartLine_109 (r32c rfl) ?_
            refine ev_iadd dX11_cartLine_110 ?_
            refine ev_cVV (b := 150) (av := [vI 6, vI (w32 (y12 + 1))]) (S := []) (fun q => q) h dX11_cartLine_111 (fun Q' q => TX11_tells 6 (w32 (y12 + 1)) _ q) kvX11_tells ml_X11_199 sh_150 rfl (RRc (by decide) (by decide)) (Nat.le_of_ble_eq_true rfl) ⟨Nat.le_of_ble_eq_true rfl, Nat.le_of_ble_eq_true rfl⟩ (fun f13 h => ?_)
            exact ev_vret rfl dX11_cartLine_114 h
          · rw [if_neg g11] at h; exact h.elim
        · rw [if_neg g9] at h; exact h.elim
      · rw [if_neg g7] at h; exact h.elim
    · rw [if_neg g5] at h; exact h.elim
  · rw [if_neg g3] at h; exact h.elim
def FX11_cartLine  (f : Mm) : Option Mm := FX11_cartLine_0  f
set_option maxRecDepth 100000 in
theorem TX11_cartLine {G : GT} {l : Launch} {Q : Option AV → Mem → Prop}  (f : Mm) (h : OkV Q (FX11_cartLine  f)) : Ret G l MX11_cartLine (6) 0 0 [vR 150] (SH, RF, f) Q := by
  refine ret_of (L := [some (vR 150), none]) (by decide) rfl (Nat.le_of_ble_eq_true rfl) ?_
  exact SX11_cartLine_0  f h
theorem dX11_isRoom_33 : decode cX11_isRoom 33 = .ok (.iload_n 1, 1) := by decide +kernel
theorem dX11_isRoom_34 : decode cX11_isRoom 34 = .ok (.ifCond .eq 14, 3) := by decide +kernel
theorem dX11_isRoom_48 : decode cX11_isRoom 48 = .ok (.iconst 0, 1) := by decide +kernel
theorem dX11_isRoom_49 : decode cX11_isRoom 49 = .ok (.ireturn, 1) := by decide +kernel
theorem dX11_isRoom_37 : decode cX11_isRoom 37 = .ok (.aload_n 0, 1) := by decide +kernel
theorem dX11_isRoom_38 : decode cX11_isRoom 38 = .ok (.getfield 150, 3) := by decide +kernel
theorem dX11_isRoom_41 : decode cX11_isRoom 41 = .ok (.ifCond .ne 7, 3) := by decide +kernel
theorem dX11_isRoom_44 : decode cX11_isRoom 44 = .ok (.iconst 1, 1) := by decide +kernel
theorem dX11_isRoom_45 : decode cX11_isRoom 45 = .ok (.goto 4, 3) := by decide +kernel
theorem dX11_isRoom_18 : decode cX11_isRoom 18 = .ok (.iload_n 1, 1) := by decide +kernel
theorem dX11_isRoom_19 : decode cX11_isRoom 19 = .ok (.ifCond .eq 14, 3) := by decide +kernel
theorem dX11_isRoom_22 : decode cX11_isRoom 22 = .ok (.aload_n 0, 1) := by decide +kernel
theorem dX11_isRoom_23 : decode cX11_isRoom 23 = .ok (.getfield 150, 3) := by decide +kernel
theorem dX11_isRoom_26 : decode cX11_isRoom 26 = .ok (.ifCond .ne 7, 3) := by decide +kernel
theorem dX11_isRoom_29 : decode cX11_isRoom 29 = .ok (.aload_n 0, 1) := by decide +kernel
theorem dX11_isRoom_30 : decode cX11_isRoom 30 = .ok (.invokevirtual 160, 3) := by decide +kernel
theorem dX11_isRoom_0 : decode cX11_isRoom 0 = .ok (.iload_n 1, 1) := by decide +kernel
theorem dX11_isRoom_1 : decode cX11_isRoom 1 = .ok (.ifCond .eq 17, 3) := by decide +kernel
theorem dX11_isRoom_4 : decode cX11_isRoom 4 = .ok (.aload_n 0, 1) := by decide +kernel
theorem dX11_isRoom_5 : decode cX11_isRoom 5 = .ok (.iload_n 2, 1) := by decide +kernel
theorem dX11_isRoom_6 : decode cX11_isRoom 6 = .ok (.invokevirtual 184, 3) := by decide +kernel
theorem dX11_isRoom_9 : decode cX11_isRoom 9 = .ok (.iload_n 3, 1) := by decide +kernel
theorem dX11_isRoom_10 : decode cX11_isRoom 10 = .ok (.if_icmp .ne 8, 3) := by decide +kernel
theorem dX11_isRoom_13 : decode cX11_isRoom 13 = .ok (.aload_n 0, 1) := by decide +kernel
theorem dX11_isRoom_14 : decode cX11_isRoom 14 = .ok (.iconst 3, 1) := by decide +kernel
theorem dX11_isRoom_15 : decode cX11_isRoom 15 = .ok (.invokevirtual 166, 3) := by decide +kernel
def FX11_isRoom_33  (x1 : Int) (f : Mm) : Option (Int × Mm) := (if x1 = 0 then some (0, f) else (if (f 150 12) = 0 then some (1, f) else some (0, f)))
set_option maxHeartbeats 4000000 in
set_option maxRecDepth 100000 in
theorem SX11_isRoom_33 {G : GT} {l : Launch} {Q : Option AV → Mem → Prop}  (x1 : Int) (f : Mm) (h : OkI Q (FX11_isRoom_33  x1 f)) : Ev G l MX11_isRoom (Rm 3 0 0) (ZM G Q 0 0) 0 0 33 [some (vR 150), some (vI x1), none, none] [] (SH, RF, f) := by
  unfold FX11_isRoom_33 at h
  refine ev_iload_n (i := 1) dX11_isRoom_33 rfl rfl ?_
  refine ev_if_eq (tgt := 48) dX11_isRoom_34 (by decide) (fun c2 => ?_) (fun c2 => ?_)
  · rw [if_pos c2] at h
    refine ev_iconst dX11_isRoom_48 (r32c rfl) ?_
    exact ev_zret rfl (by decide) dX11_isRoom_49 h
  · rw [if_neg c2] at h
    refine ev_aload_n (i := 0) dX11_isRoom_37 rfl rfl ?_
    refine ex_getI (x := (f 150 12)) dX11_isRoom_38 fl_X11_150 sh_150 (by decide) (by decide) rfl ?_
    refine ev_if_ne (tgt := 48) dX11_isRoom_41 (by decide) (fun c1 => ?_) (fun c1 => ?_)
    · rw [if_neg c1] at h
      refine ev_iconst dX11_isRoom_48 (r32c rfl) ?_
      exact ev_zret rfl (by decide) dX11_isRoom_49 h
    · rw [if_pos c1] at h
      refine ev_iconst dX11_isRoom_44 (r32c rfl) ?_
      refine ev_goto (tgt := 49) dX11_isRoom_45 (by decide) ?_
      exact ev_zret rfl (by decide) dX11_isRoom_49 h
def FX11_isRoom_18  (x1 : Int) (f : Mm) : Option (Int × Mm) := (if x1 = 0 then FX11_isRoom_33 x1 f else (if (f 150 12) = 0 then ((FX11_next f).bind fun f1 => FX11_isRoom_33 x1 f1) else FX11_isRoom_33 x1 f))
set_option maxHeartbeats 4000000 in
set_option maxRecDepth 100000 in
theorem SX11_isRoom_18 {G : GT} {l : Launch} {Q : Option AV → Mem → Prop}  (x1 : Int) (f : Mm) (h : OkI Q (FX11_isRoom_18  x1 f)) : Ev G l MX11_isRoom (Rm 3 0 0) (ZM G Q 0 0) 0 0 18 [some (vR 150), some (vI x1), none, none] [] (SH, RF, f) := by
  unfold FX11_isRoom_18 at h
  refine ev_iload_n (i := 1) dX11_isRoom_18 rfl rfl ?_
  refine ev_if_eq (tgt := 33) dX11_isRoom_19 (by decide) (fun c3 => ?_) (fun c3 => ?_)
  · rw [if_pos c3] at h
    exact SX11_isRoom_33  x1 _ h
  · rw [if_neg c3] at h
    refine ev_aload_n (i := 0) dX11_isRoom_22 rfl rfl ?_
    refine ex_getI (x := (f 150 12)) dX11_isRoom_23 fl_X11_150 sh_150 (by decide) (by decide) rfl ?_
    refine ev_if_ne (tgt := 33) dX11_isRoom_26 (by decide) (fun c2 => ?_) (fun c2 => ?_)
    · rw [if_neg c2] at h
      exact SX11_isRoom_33  x1 _ h
    · rw [if_pos c2] at h
      refine ev_aload_n (i := 0) dX11_isRoom_29 rfl rfl ?_
      refine ev_cVV (b := 150) (av := []) (S := []) (fun q => q) h dX11_isRoom_30 (fun Q' q => TX11_next _ q) kvX11_next ml_X11_160 sh_150 rfl (RRc (by decide) (by decide)) (Nat.le_of_ble_eq_true rfl) ⟨Nat.le_of_ble_eq_true rfl, Nat.le_of_ble_eq_true rfl⟩ (fun f1 h => ?_)
      exact SX11_isRoom_33  x1 _ h
def FX11_isRoom_0  (x1 : Int) (x2 : Int) (x3 : Int) (f : Mm) : Option (Int × Mm) := (if x1 = 0 then FX11_isRoom_18 x1 f else (b2 (FX11_hasRead x2 f) fun y1 f1 => (if y1 = x3 then ((FX11_fails 3 f1).bind fun f2 => FX11_isRoom_18 x1 f2) else FX11_isRoom_18 x1 f1)))
set_option maxHeartbeats 4000000 in
set_option maxRecDepth 100000 in
theorem SX11_isRoom_0 {G : GT} {l : Launch} {Q : Option AV → Mem → Prop}  (x1 : Int) (x2 : Int) (x3 : Int) (f : Mm) (h : OkI Q (FX11_isRoom_0  x1 x2 x3 f)) : Ev G l MX11_isRoom (Rm 3 0 0) (ZM G Q 0 0) 0 0 0 [some (vR 150), some (vI x1), some (vI x2), some (vI x3)] [] (SH, RF, f) := by
  unfold FX11_isRoom_0 at h
  refine ev_iload_n (i := 1) dX11_isRoom_0 rfl rfl ?_
  refine ev_if_eq (tgt := 18) dX11_isRoom_1 (by decide) (fun c4 => ?_) (fun c4 => ?_)
  · rw [if_pos c4] at h
    refine ev_fg [true, true, false, false] rfl ?_
    exact SX11_isRoom_18  x1 _ h
  · rw [if_neg c4] at h
    refine ev_aload_n (i := 0) dX11_isRoom_4 rfl rfl ?_
    refine ev_iload_n (i := 2) dX11_isRoom_5 rfl rfl ?_
    refine ev_cVI (b := 150) (av := [vI x2]) (S := []) (fun q => q) h dX11_isRoom_6 (fun Q' q => TX11_hasRead x2 _ q) kvX11_hasRead ml_X11_184 sh_150 rfl (RRc (by decide) (by decide)) (Nat.le_of_ble_eq_true rfl) ⟨Nat.le_of_ble_eq_true rfl, Nat.le_of_ble_eq_true rfl⟩ (fun y1 f1 h => ?_)
    refine ev_iload_n (i := 3) dX11_isRoom_9 rfl rfl ?_
    refine ev_icmp_ne (tgt := 18) dX11_isRoom_10 (by decide) (fun c3 => ?_) (fun c3 => ?_)
    · rw [if_neg c3] at h
      refine ev_fg [true, true, false, false] rfl ?_
      exact SX11_isRoom_18  x1 _ h
    · rw [if_pos c3] at h
      refine ev_aload_n (i := 0) dX11_isRoom_13 rfl rfl ?_
      refine ev_iconst dX11_isRoom_14 (r32c rfl) ?_
      refine ev_cVV (b := 150) (av := [vI 3]) (S := []) (fun q => q) h dX11_isRoom_15 (fun Q' q => TX11_fails 3 _ q) kvX11_fails ml_X11_166 sh_150 rfl (RRc (by decide) (by decide)) (Nat.le_of_ble_eq_true rfl) ⟨Nat.le_of_ble_eq_true rfl, Nat.le_of_ble_eq_true rfl⟩ (fun f2 h => ?_)
      refine ev_fg [true, true, false, false] rfl ?_
      exact SX11_isRoom_18  x1 _ h
def FX11_isRoom (x1 : Int) (x2 : Int) (x3 : Int) (f : Mm) : Option (Int × Mm) := FX11_isRoom_0 x1 x2 x3 f
set_option maxRecDepth 100000 in
theorem TX11_isRoom {G : GT} {l : Launch} {Q : Option AV → Mem → Prop} (x1 : Int) (x2 : Int) (x3 : Int) (f : Mm) (h : OkI Q (FX11_isRoom x1 x2 x3 f)) : Ret G l MX11_isRoom (3) 0 0 [vR 150, vI x1, vI x2, vI x3] (SH, RF, f) Q := by
  refine ret_of (L := [some (vR 150), some (vI x1), some (vI x2), some (vI x3)]) (by decide) rfl (Nat.le_of_ble_eq_true rfl) ?_
  exact SX11_isRoom_0 x1 x2 x3 f h
theorem dX11_lineHere_55 : decode cX11_lineHere 55 = .ok (.aload_n 0, 1) := by decide +kernel
theorem dX11_lineHere_56 : decode cX11_lineHere 56 = .ok (.getfield 150, 3) := by decide +kernel
theorem dX11_lineHere_59 : decode cX11_lineHere 59 = .ok (.ifCond .ne 8, 3) := by decide +kernel
theorem dX11_lineHere_67 : decode cX11_lineHere 67 = .ok (.return_, 1) := by decide +kernel
theorem dX11_lineHere_62 : decode cX11_lineHere 62 = .ok (.aload_n 0, 1) := by decide +kernel
theorem dX11_lineHere_63 : decode cX11_lineHere 63 = .ok (.iconst 1, 1) := by decide +kernel
theorem dX11_lineHere_64 : decode cX11_lineHere 64 = .ok (.invokevirtual 166, 3) := by decide +kernel
theorem dX11_lineHere_0 : decode cX11_lineHere 0 = .ok (.aload_n 0, 1) := by decide +kernel
theorem dX11_lineHere_1 : decode cX11_lineHere 1 = .ok (.aload_n 0, 1) := by decide +kernel
theorem dX11_lineHere_2 : decode cX11_lineHere 2 = .ok (.ldc2_w 213, 3) := by decide +kernel
theorem dX11_lineHere_5 : decode cX11_lineHere 5 = .ok (.invokevirtual 156, 3) := by decide +kernel
theorem dX11_lineHere_8 : decode cX11_lineHere 8 = .ok (.iconst 5, 1) := by decide +kernel
theorem dX11_lineHere_9 : decode cX11_lineHere 9 = .ok (.iconst 4, 1) := by decide +kernel
theorem dX11_lineHere_10 : decode cX11_lineHere 10 = .ok (.invokevirtual 215, 3) := by decide +kernel
theorem dX11_lineHere_13 : decode cX11_lineHere 13 = .ok (.ifCond .eq 10, 3) := by decide +kernel
theorem dX11_lineHere_23 : decode cX11_lineHere 23 = .ok (.aload_n 0, 1) := by decide +kernel
theorem dX11_lineHere_24 : decode cX11_lineHere 24 = .ok (.getfield 150, 3) := by decide +kernel
theorem dX11_lineHere_27 : decode cX11_lineHere 27 = .ok (.ifCond .ne 28, 3) := by decide +kernel
theorem dX11_lineHere_30 : decode cX11_lineHere 30 = .ok (.aload_n 0, 1) := by decide +kernel
theorem dX11_lineHere_31 : decode cX11_lineHere 31 = .ok (.aload_n 0, 1) := by decide +kernel
theorem dX11_lineHere_32 : decode cX11_lineHere 32 = .ok (.ldc2_w 222, 3) := by decide +kernel
theorem dX11_lineHere_35 : decode cX11_lineHere 35 = .ok (.invokevirtual 156, 3) := by decide +kernel
theorem dX11_lineHere_38 : decode cX11_lineHere 38 = .ok (.bipush 6, 2) := by decide +kernel
theorem dX11_lineHere_40 : decode cX11_lineHere 40 = .ok (.bipush 6, 2) := by decide +kernel
theorem dX11_lineHere_42 : decode cX11_lineHere 42 = .ok (.invokevirtual 215, 3) := by decide +kernel
theorem dX11_lineHere_45 : decode cX11_lineHere 45 = .ok (.ifCond .eq 10, 3) := by decide +kernel
theorem dX11_lineHere_48 : decode cX11_lineHere 48 = .ok (.aload_n 0, 1) := by decide +kernel
theorem dX11_lineHere_49 : decode cX11_lineHere 49 = .ok (.invokevirtual 224, 3) := by decide +kernel
theorem dX11_lineHere_52 : decode cX11_lineHere 52 = .ok (.goto 15, 3) := by decide +kernel
theorem dX11_lineHere_16 : decode cX11_lineHere 16 = .ok (.aload_n 0, 1) := by decide +kernel
theorem dX11_lineHere_17 : decode cX11_lineHere 17 = .ok (.invokevirtual 219, 3) := by decide +kernel
theorem dX11_lineHere_20 : decode cX11_lineHere 20 = .ok (.goto 47, 3) := by decide +kernel
def FX11_lineHere_55   (f : Mm) : Option Mm := (if (f 150 12) = 0 then ((FX11_fails 1 f).bind fun f1 => some f1) else some f)
set_option maxHeartbeats 4000000 in
set_option maxRecDepth 100000 in
theorem SX11_lineHere_55 {G : GT} {l : Launch} {Q : Option AV → Mem → Prop}   (f : Mm) (h : OkV Q (FX11_lineHere_55   f)) : Ev G l MX11_lineHere (Rm 7 0 0) (ZM G Q 0 0) 0 0 55 [some (vR 150)] [] (SH, RF, f) := by
  unfold FX11_lineHere_55 at h
  refine ev_aload_n (i := 0) dX11_lineHere_55 rfl rfl ?_
  refine ex_getI (x := (f 150 12)) dX11_lineHere_56 fl_X11_150 sh_150 (by decide) (by decide) rfl ?_
  refine ev_if_ne (tgt := 67) dX11_lineHere_59 (by decide) (fun c2 => ?_) (fun c2 => ?_)
  · rw [if_neg c2] at h
    exact ev_vret rfl dX11_lineHere_67 h
  · rw [if_pos c2] at h
    refine ev_aload_n (i := 0) dX11_lineHere_62 rfl rfl ?_
    refine ev_iconst dX11_lineHere_63 (r32c rfl) ?_
    refine ev_cVV (b := 150) (av := [vI 1]) (S := []) (fun q => q) h dX11_lineHere_64 (fun Q' q => TX11_fails 1 _ q) kvX11_fails ml_X11_166 sh_150 rfl (RRc (by decide) (by decide)) (Nat.le_of_ble_eq_true rfl) ⟨Nat.le_of_ble_eq_true rfl, Nat.le_of_ble_eq_true rfl⟩ (fun f1 h => ?_)
    exact ev_vret rfl dX11_lineHere_67 h
def FX11_lineHere_0   (f : Mm) : Option Mm := (b2 (FX11_is 82516 f) fun y1 f1 => (b2 (FX11_isRoom y1 5 4 f1) fun y2 f2 => (if y2 = 0 then (if (f2 150 12) = 0 then (b2 (FX11_is 60284 f2) fun y3 f3 => (b2 (FX11_isRoom y3 6 6 f3) fun y4 f4 => (if y4 = 0 then FX11_lineHere_55 f4 else ((FX11_cartLine f4).bind fun f5 => some f5)))) else FX11_lineHere_55 f2) else ((FX11_deedLine f2).bind fun f8 => some f8))))
set_option maxHeartbeats 4000000 in
set_option maxRecDepth 100000 in
theorem SX11_lineHere_0 {G : GT} {l : Launch} {Q : Option AV → Mem → Prop}   (f : Mm) (h : OkV Q (FX11_lineHere_0   f)) : Ev G l MX11_lineHere (Rm 7 0 0) (ZM G Q 0 0) 0 0 0 [some (vR 150)] [] (SH, RF, f) := by
  unfold FX11_lineHere_0 at h
  refine ev_aload_n (i := 0) dX11_lineHere_0 rfl rfl ?_
  refine ev_aload_n (i := 0) dX11_lineHere_1 rfl rfl ?_
  refine ev_ldc2 (v := 82516) dX11_lineHere_2 (r64c rfl) kc_X11_213 ?_
  refine ev_cVI (b := 150) (av := [vJ 82516]) (S := [vR 150]) (fun q => q) h dX11_lineHere_5 (fun Q' q => TX11_is 82516 _ q) kvX11_is ml_X11_156 sh_150 rfl (RRc (by decide) (by decide)) (Nat.le_of_ble_eq_true rfl) ⟨Nat.le_of_ble_eq_true rfl, Nat.le_of_ble_eq_true rfl⟩ (fun y1 f1 h => ?_)
  refine ev_iconst dX11_lineHere_8 (r32c rfl) ?_
  refine ev_iconst dX11_lineHere_9 (r32c rfl) ?_
  refine ev_cVI (b := 150) (av := [vI y1, vI 5, vI 4]) (S := []) (fun q => q) h dX11_lineHere_10 (fun Q' q => TX11_isRoom y1 5 4 _ q) kvX11_isRoom ml_X11_215 sh_150 rfl (RRc (by decide) (by decide)) (Nat.le_of_ble_eq_true rfl) ⟨Nat.le_of_ble_eq_true rfl, Nat.le_of_ble_eq_true rfl⟩ (fun y2 f2 h => ?_)
  refine ev_if_eq (tgt := 23) dX11_lineHere_13 (by decide) (fun c9 => ?_) (fun c9 => ?_)
  · rw [if_pos c9] at h
    refine ev_aload_n (i := 0) dX11_lineHere_23 rfl rfl ?_
    refine ex_getI (x := (f2 150 12)) dX11_lineHere_24 fl_X11_150 sh_150 (by decide) (by decide) rfl ?_
    refine ev_if_ne (tgt := 55) dX11_lineHere_27 (by decide) (fun c7 => ?_) (fun c7 => ?_)
    · rw [if_neg c7] at h
      exact SX11_lineHere_55   _ h
    · rw [if_pos c7] at h
      refine ev_aload_n (i := 0) dX11_lineHere_30 rfl rfl ?_
      refine ev_aload_n (i := 0) dX11_lineHere_31 rfl rfl ?_
      refine ev_ldc2 (v := 60284) dX11_lineHere_32 (r64c rfl) kc_X11_222 ?_
      refine ev_cVI (b := 150) (av := [vJ 60284]) (S := [vR 150]) (fun q => q) h dX11_lineHere_35 (fun Q' q => TX11_is 60284 _ q) kvX11_is ml_X11_156 sh_150 rfl (RRc (by decide) (by decide)) (Nat.le_of_ble_eq_true rfl) ⟨Nat.le_of_ble_eq_true rfl, Nat.le_of_ble_eq_true rfl⟩ (fun y3 f3 h => ?_)
      refine ev_bipush (v := 6) dX11_lineHere_38 (r32c rfl) (by decide) ?_
      refine ev_bipush (v := 6) dX11_lineHere_40 (r32c rfl) (by decide) ?_
      refine ev_cVI (b := 150) (av := [vI y3, vI 6, vI 6]) (S := []) (fun q => q) h dX11_lineHere_42 (fun Q' q => TX11_isRoom y3 6 6 _ q) kvX11_isRoom ml_X11_215 sh_150 rfl (RRc (by decide) (by decide)) (Nat.le_of_ble_eq_true rfl) ⟨Nat.le_of_ble_eq_true rfl, Nat.le_of_ble_eq_true rfl⟩ (fun y4 f4 h => ?_)
      refine ev_if_eq (tgt := 55) dX11_lineHere_45 (by decide) (fun c6 => ?_) (fun c6 => ?_)
      · rw [if_pos c6] at h
        exact SX11_lineHere_55   _ h
      · rw [if_neg c6] at h
        refine ev_aload_n (i := 0) dX11_lineHere_48 rfl rfl ?_
        refine ev_cVV (b := 150) (av := []) (S := []) (fun q => q) h dX11_lineHere_49 (fun Q' q => TX11_cartLine _ q) kvX11_cartLine ml_X11_224 sh_150 rfl (RRc (by decide) (by decide)) (Nat.le_of_ble_eq_true rfl) ⟨Nat.le_of_ble_eq_true rfl, Nat.le_of_ble_eq_true rfl⟩ (fun f5 h => ?_)
        refine ev_goto (tgt := 67) dX11_lineHere_52 (by decide) ?_
        exact ev_vret rfl dX11_lineHere_67 h
  · rw [if_neg c9] at h
    refine ev_aload_n (i := 0) dX11_lineHere_16 rfl rfl ?_
    refine ev_cVV (b := 150) (av := []) (S := []) (fun q => q) h dX11_lineHere_17 (fun Q' q => TX11_deedLine _ q) kvX11_deedLine ml_X11_219 sh_150 rfl (RRc (by decide) (by decide)) (Nat.le_of_ble_eq_true rfl) ⟨Nat.le_of_ble_eq_true rfl, Nat.le_of_ble_eq_true rfl⟩ (fun f8 h => ?_)
    refine ev_goto (tgt := 67) dX11_lineHere_20 (by decide) ?_
    exact ev_vret rfl dX11_lineHere_67 h
def FX11_lineHere  (f : Mm) : Option Mm := FX11_lineHere_0  f
set_option maxRecDepth 100000 in
theorem TX11_lineHere {G : GT} {l : Launch} {Q : Option AV → Mem → Prop}  (f : Mm) (h : OkV Q (FX11_lineHere  f)) : Ret G l MX11_lineHere (7) 0 0 [vR 150] (SH, RF, f) Q := by
  refine ret_of (L := [some (vR 150)]) (by decide) rfl (Nat.le_of_ble_eq_true rfl) ?_
  exact SX11_lineHere_0  f h
theorem dX11_clears_9 : decode cX11_clears 9 = .ok (.iload_n 1, 1) := by decide +kernel
theorem dX11_clears_10 : decode cX11_clears 10 = .ok (.bipush 8, 2) := by decide +kernel
theorem dX11_clears_12 : decode cX11_clears 12 = .ok (.if_icmp .ge 15, 3) := by decide +kernel
theorem dX11_clears_27 : decode cX11_clears 27 = .ok (.return_, 1) := by decide +kernel
theorem dX11_clears_15 : decode cX11_clears 15 = .ok (.aload_n 0, 1) := by decide +kernel
theorem dX11_clears_16 : decode cX11_clears 16 = .ok (.iload_n 1, 1) := by decide +kernel
theorem dX11_clears_17 : decode cX11_clears 17 = .ok (.iconst 0, 1) := by decide +kernel
theorem dX11_clears_18 : decode cX11_clears 18 = .ok (.invokevirtual 199, 3) := by decide +kernel
theorem dX11_clears_21 : decode cX11_clears 21 = .ok (.iinc 1 1, 3) := by decide +kernel
theorem dX11_clears_24 : decode cX11_clears 24 = .ok (.goto (-15), 3) := by decide +kernel
theorem dX11_clears_0 : decode cX11_clears 0 = .ok (.aload_n 0, 1) := by decide +kernel
theorem dX11_clears_1 : decode cX11_clears 1 = .ok (.getfield 31, 3) := by decide +kernel
theorem dX11_clears_4 : decode cX11_clears 4 = .ok (.iconst 4, 1) := by decide +kernel
theorem dX11_clears_5 : decode cX11_clears 5 = .ok (.iconst 0, 1) := by decide +kernel
theorem dX11_clears_6 : decode cX11_clears 6 = .ok (.iastore, 1) := by decide +kernel
theorem dX11_clears_7 : decode cX11_clears 7 = .ok (.iconst 0, 1) := by decide +kernel
theorem dX11_clears_8 : decode cX11_clears 8 = .ok (.istore_n 1, 1) := by decide +kernel
def FX11_clears_9  : Nat → Int → Mm → Option Mm
  | 0, _, _ => none
  | n + 1, x1, f => (if 8 ≤ x1 then some f else ((FX11_tells x1 0 f).bind fun f1 => FX11_clears_9 n (w32 (x1 + 1)) f1))
set_option maxHeartbeats 4000000 in
set_option maxRecDepth 100000 in
theorem SX11_clears_9 {G : GT} {l : Launch} {Q : Option AV → Mem → Prop}  : ∀ (n : Nat) (x1 : Int) (f : Mm), OkV Q (FX11_clears_9  n x1 f) → Ev G l MX11_clears (Rm 2 0 0) (ZM G Q 0 0) 0 0 9 [some (vR 150), some (vI x1)] [] (SH, RF, f) := by
  intro n
  induction n with
  | zero => intro x1 f h; exact absurd h (by rw [FX11_clears_9]; exact fun q => q)
  | succ n ih =>
    intro x1 f h
    rw [FX11_clears_9] at h
    refine ev_iload_n (i := 1) dX11_clears_9 rfl rfl ?_
    refine ev_bipush (v := 8) dX11_clears_10 (r32c rfl) (by decide) ?_
    refine ev_icmp_ge (tgt := 27) dX11_clears_12 (by decide) (fun c2 => ?_) (fun c2 => ?_)
    · rw [if_pos c2] at h
      exact ev_vret rfl dX11_clears_27 h
    · rw [if_neg c2] at h
      refine ev_aload_n (i := 0) dX11_clears_15 rfl rfl ?_
      refine ev_iload_n (i := 1) dX11_clears_16 rfl rfl ?_
      refine ev_iconst dX11_clears_17 (r32c rfl) ?_
      refine ev_cVV (b := 150) (av := [vI x1, vI 0]) (S := []) (fun q => q) h dX11_clears_18 (fun Q' q => TX11_tells x1 0 _ q) kvX11_tells ml_X11_199 sh_150 rfl (RRc (by decide) (by decide)) (Nat.le_of_ble_eq_true rfl) ⟨Nat.le_of_ble_eq_true rfl, Nat.le_of_ble_eq_true rfl⟩ (fun f1 h => ?_)
      refine ev_iinc (L' := [some (vR 150), some (vI (w32 (x1 + 1)))]) dX11_clears_21 rfl (by decide) rfl ?_
      refine ev_goto (tgt := 9) dX11_clears_24 (by decide) ?_
      exact ih (w32 (x1 + 1)) _ h
def FX11_clears_0   (f : Mm) : Option Mm := FX11_clears_9 fu 0 (up f 156 4 0)
set_option maxHeartbeats 4000000 in
set_option maxRecDepth 100000 in
theorem SX11_clears_0 {G : GT} {l : Launch} {Q : Option AV → Mem → Prop}   (f : Mm) (h : OkV Q (FX11_clears_0   f)) : Ev G l MX11_clears (Rm 2 0 0) (ZM G Q 0 0) 0 0 0 [some (vR 150), none] [] (SH, RF, f) := by
  unfold FX11_clears_0 at h
  refine ev_aload_n (i := 0) dX11_clears_0 rfl rfl ?_
  refine ev_getR dX11_clears_1 fl_X11_31 sh_150 (by decide) (by decide) rf_150_16 ?_
  refine ev_iconst dX11_clears_4 (r32c rfl) ?_
  refine ev_iconst dX11_clears_5 (r32c rfl) ?_
  refine ex_iast (j := 4) dX11_clears_6 sh_156 (by decide) (by decide) rfl ?_
  refine ev_iconst dX11_clears_7 (r32c rfl) ?_
  refine ev_istore_n (i := 1) (L' := [some (vR 150), some (vI 0)]) dX11_clears_8 rfl (by decide) rfl ?_
  exact SX11_clears_9  fu 0 _ h
def FX11_clears  (f : Mm) : Option Mm := FX11_clears_0  f
set_option maxRecDepth 100000 in
theorem TX11_clears {G : GT} {l : Launch} {Q : Option AV → Mem → Prop}  (f : Mm) (h : OkV Q (FX11_clears  f)) : Ret G l MX11_clears (2) 0 0 [vR 150] (SH, RF, f) Q := by
  refine ret_of (L := [some (vR 150), none]) (by decide) rfl (Nat.le_of_ble_eq_true rfl) ?_
  exact SX11_clears_0  f h
theorem dX11_bridgeLine_0 : decode cX11_bridgeLine 0 = .ok (.aload_n 0, 1) := by decide +kernel
theorem dX11_bridgeLine_1 : decode cX11_bridgeLine 1 = .ok (.ldc2_w 227, 3) := by decide +kernel
theorem dX11_bridgeLine_4 : decode cX11_bridgeLine 4 = .ok (.invokevirtual 169, 3) := by decide +kernel
theorem dX11_bridgeLine_7 : decode cX11_bridgeLine 7 = .ok (.aload_n 0, 1) := by decide +kernel
theorem dX11_bridgeLine_8 : decode cX11_bridgeLine 8 = .ok (.iconst 0, 1) := by decide +kernel
theorem dX11_bridgeLine_9 : decode cX11_bridgeLine 9 = .ok (.aload_n 0, 1) := by decide +kernel
theorem dX11_bridgeLine_10 : decode cX11_bridgeLine 10 = .ok (.ldc2_w 229, 3) := by decide +kernel
theorem dX11_bridgeLine_13 : decode cX11_bridgeLine 13 = .ok (.iconst 1, 1) := by decide +kernel
theorem dX11_bridgeLine_14 : decode cX11_bridgeLine 14 = .ok (.bipush 6, 2) := by decide +kernel
theorem dX11_bridgeLine_16 : decode cX11_bridgeLine 16 = .ok (.invokevirtual 190, 3) := by decide +kernel
theorem dX11_bridgeLine_19 : decode cX11_bridgeLine 19 = .ok (.invokevirtual 199, 3) := by decide +kernel
theorem dX11_bridgeLine_22 : decode cX11_bridgeLine 22 = .ok (.aload_n 0, 1) := by decide +kernel
theorem dX11_bridgeLine_23 : decode cX11_bridgeLine 23 = .ok (.iconst 1, 1) := by decide +kernel
theorem dX11_bridgeLine_24 : decode cX11_bridgeLine 24 = .ok (.aload_n 0, 1) := by decide +kernel
theorem dX11_bridgeLine_25 : decode cX11_bridgeLine 25 = .ok (.ldc2_w 231, 3) := by decide +kernel
theorem dX11_bridgeLine_28 : decode cX11_bridgeLine 28 = .ok (.iconst 0, 1) := by decide +kernel
theorem dX11_bridgeLine_29 : decode cX11_bridgeLine 29 = .ok (.bipush 60, 2) := by decide +kernel
theorem dX11_bridgeLine_31 : decode cX11_bridgeLine 31 = .ok (.invokevirtual 190, 3) := by decide +kernel
theorem dX11_bridgeLine_34 : decode cX11_bridgeLine 34 = .ok (.invokevirtual 199, 3) := by decide +kernel
theorem dX11_bridgeLine_37 : decode cX11_bridgeLine 37 = .ok (.aload_n 0, 1) := by decide +kernel
theorem dX11_bridgeLine_38 : decode cX11_bridgeLine 38 = .ok (.iconst 2, 1) := by decide +kernel
theorem dX11_bridgeLine_39 : decode cX11_bridgeLine 39 = .ok (.aload_n 0, 1) := by decide +kernel
theorem dX11_bridgeLine_40 : decode cX11_bridgeLine 40 = .ok (.ldc2_w 231, 3) := by decide +kernel
theorem dX11_bridgeLine_43 : decode cX11_bridgeLine 43 = .ok (.iconst 0, 1) := by decide +kernel
theorem dX11_bridgeLine_44 : decode cX11_bridgeLine 44 = .ok (.bipush 60, 2) := by decide +kernel
theorem dX11_bridgeLine_46 : decode cX11_bridgeLine 46 = .ok (.invokevirtual 190, 3) := by decide +kernel
theorem dX11_bridgeLine_49 : decode cX11_bridgeLine 49 = .ok (.invokevirtual 199, 3) := by decide +kernel
theorem dX11_bridgeLine_52 : decode cX11_bridgeLine 52 = .ok (.aload_n 0, 1) := by decide +kernel
theorem dX11_bridgeLine_53 : decode cX11_bridgeLine 53 = .ok (.iconst 3, 1) := by decide +kernel
theorem dX11_bridgeLine_54 : decode cX11_bridgeLine 54 = .ok (.aload_n 0, 1) := by decide +kernel
theorem dX11_bridgeLine_55 : decode cX11_bridgeLine 55 = .ok (.ldc2_w 233, 3) := by decide +kernel
theorem dX11_bridgeLine_58 : decode cX11_bridgeLine 58 = .ok (.iconst 0, 1) := by decide +kernel
theorem dX11_bridgeLine_59 : decode cX11_bridgeLine 59 = .ok (.bipush 9, 2) := by decide +kernel
theorem dX11_bridgeLine_61 : decode cX11_bridgeLine 61 = .ok (.invokevirtual 190, 3) := by decide +kernel
theorem dX11_bridgeLine_64 : decode cX11_bridgeLine 64 = .ok (.invokevirtual 199, 3) := by decide +kernel
theorem dX11_bridgeLine_67 : decode cX11_bridgeLine 67 = .ok (.aload_n 0, 1) := by decide +kernel
theorem dX11_bridgeLine_68 : decode cX11_bridgeLine 68 = .ok (.iconst 4, 1) := by decide +kernel
theorem dX11_bridgeLine_69 : decode cX11_bridgeLine 69 = .ok (.aload_n 0, 1) := by decide +kernel
theorem dX11_bridgeLine_70 : decode cX11_bridgeLine 70 = .ok (.ldc2_w 235, 3) := by decide +kernel
theorem dX11_bridgeLine_73 : decode cX11_bridgeLine 73 = .ok (.iconst 0, 1) := by decide +kernel
theorem dX11_bridgeLine_74 : decode cX11_bridgeLine 74 = .ok (.bipush 10, 2) := by decide +kernel
theorem dX11_bridgeLine_76 : decode cX11_bridgeLine 76 = .ok (.invokevirtual 190, 3) := by decide +kernel
theorem dX11_bridgeLine_79 : decode cX11_bridgeLine 79 = .ok (.invokevirtual 199, 3) := by decide +kernel
theorem dX11_bridgeLine_82 : decode cX11_bridgeLine 82 = .ok (.return_, 1) := by decide +kernel
def FX11_bridgeLine_0   (f : Mm) : Option Mm := ((FX11_asks 38444009 f).bind fun f1 => (b2 (FX11_number_ 80155 1 6 f1) fun y2 f2 => ((FX11_tells 0 y2 f2).bind fun f3 => (b2 (FX11_number_ 3291049 0 60 f3) fun y4 f4 => ((FX11_tells 1 y4 f4).bind fun f5 => (b2 (FX11_number_ 3291049 0 60 f5) fun y6 f6 => ((FX11_tells 2 y6 f6).bind fun f7 => (b2 (FX11_number_ 1900846 0 9 f7) fun y8 f8 => ((FX11_tells 3 y8 f8).bind fun f9 => (b2 (FX11_number_ 298288 0 10 f9) fun y10 f10 => ((FX11_tells 4 y10 f10).bind fun f11 => some f11)))))))))))
set_option maxHeartbeats 4000000 in
set_option maxRecDepth 100000 in
theorem SX11_bridgeLine_0 {G : GT} {l : Launch} {Q : Option AV → Mem → Prop}   (f : Mm) (h : OkV Q (FX11_bridgeLine_0   f)) : Ev G l MX11_bridgeLine (Rm 6 0 0) (ZM G Q 0 0) 0 0 0 [some (vR 150)] [] (SH, RF, f) := by
  unfold FX11_bridgeLine_0 at h
  refine ev_aload_n (i := 0) dX11_bridgeLine_0 rfl rfl ?_
  refine ev_ldc2 (v := 38444009) dX11_bridgeLine_1 (r64c rfl) kc_X11_227 ?_
  refine ev_cVV (b := 150) (av := [vJ 38444009]) (S := []) (fun q => q) h dX11_bridgeLine_4 (fun Q' q => TX11_asks 38444009 _ q) kvX11_asks ml_X11_169 sh_150 rfl (RRc (by decide) (by decide)) (Nat.le_of_ble_eq_true rfl) ⟨Nat.le_of_ble_eq_true rfl, Nat.le_of_ble_eq_true rfl⟩ (fun f1 h => ?_)
  refine ev_aload_n (i := 0) dX11_bridgeLine_7 rfl rfl ?_
  refine ev_iconst dX11_bridgeLine_8 (r32c rfl) ?_
  refine ev_aload_n (i := 0) dX11_bridgeLine_9 rfl rfl ?_
  refine ev_ldc2 (v := 80155) dX11_bridgeLine_10 (r64c rfl) kc_X11_229 ?_
  refine ev_iconst dX11_bridgeLine_13 (r32c rfl) ?_
  refine ev_bipush (v := 6) dX11_bridgeLine_14 (r32c rfl) (by decide) ?_
  refine ev_cVI (b := 150) (av := [vJ 80155, vI 1, vI 6]) (S := [vI 0, vR 150]) (fun q => q) h dX11_bridgeLine_16 (fun Q' q => TX11_number_ 80155 1 6 _ q) kvX11_number_ ml_X11_190 sh_150 rfl (RRc (by decide) (by decide)) (Nat.le_of_ble_eq_true rfl) ⟨Nat.le_of_ble_eq_true rfl, Nat.le_of_ble_eq_true rfl⟩ (fun y2 f2 h => ?_)
  refine ev_cVV (b := 150) (av := [vI 0, vI y2]) (S := []) (fun q => q) h dX11_bridgeLine_19 (fun Q' q => TX11_tells 0 y2 _ q) kvX11_tells ml_X11_199 sh_150 rfl (RRc (by decide) (by decide)) (Nat.le_of_ble_eq_true rfl) ⟨Nat.le_of_ble_eq_true rfl, Nat.le_of_ble_eq_true rfl⟩ (fun f3 h => ?_)
  refine ev_aload_n (i := 0) dX11_bridgeLine_22 rfl rfl ?_
  refine ev_iconst dX11_bridgeLine_23 (r32c rfl) ?_
  refine ev_aload_n (i := 0) dX11_bridgeLine_24 rfl rfl ?_
  refine ev_ldc2 (v := 3291049) dX11_bridgeLine_25 (r64c rfl) kc_X11_231 ?_
  refine ev_iconst dX11_bridgeLine_28 (r32c rfl) ?_
  refine ev_bipush (v := 60) dX11_bridgeLine_29 (r32c rfl) (by decide) ?_
  refine ev_cVI (b := 150) (av := [vJ 3291049, vI 0, vI 60]) (S := [vI 1, vR 150]) (fun q => q) h dX11_bridgeLine_31 (fun Q' q => TX11_number_ 3291049 0 60 _ q) kvX11_number_ ml_X11_190 sh_150 rfl (RRc (by decide) (by decide)) (Nat.le_of_ble_eq_true rfl) ⟨Nat.le_of_ble_eq_true rfl, Nat.le_of_ble_eq_true rfl⟩ (fun y4 f4 h => ?_)
  refine ev_cVV (b := 150) (av := [vI 1, vI y4]) (S := []) (fun q => q) h dX11_bridgeLine_34 (fun Q' q => TX11_tells 1 y4 _ q) kvX11_tells ml_X11_199 sh_150 rfl (RRc (by decide) (by decide)) (Nat.le_of_ble_eq_true rfl) ⟨Nat.le_of_ble_eq_true rfl, Nat.le_of_ble_eq_true rfl⟩ (fun f5 h => ?_)
  refine ev_aload_n (i := 0) dX11_bridgeLine_37 rfl rfl ?_
  refine ev_iconst dX11_bridgeLine_38 (r32c rfl) ?_
  refine ev_aload_n (i := 0) dX11_bridgeLine_39 rfl rfl ?_
  refine ev_ldc2 (v := 3291049) dX11_bridgeLine_40 (r64c rfl) kc_X11_231 ?_
  refine ev_iconst dX11_bridgeLine_43 (r32c rfl) ?_
  refine ev_bipush (v := 60) dX11_bridgeLine_44 (r32c rfl) (by decide) ?_
  refine ev_cVI (b := 150) (av := [vJ 3291049, vI 0, vI 60]) (S := [vI 2, vR 150]) (fun q => q) h dX11_bridgeLine_46 (fun Q' q => TX11_number_ 3291049 0 60 _ q) kvX11_number_ ml_X11_190 sh_150 rfl (RRc (by decide) (by decide)) (Nat.le_of_ble_eq_true rfl) ⟨Nat.le_of_ble_eq_true rfl, Nat.le_of_ble_eq_true rfl⟩ (fun y6 f6 h => ?_)
  refine ev_cVV (b := 150) (av := [vI 2, vI y6]) (S := []) (fun q => q) h dX11_bridgeLine_49 (fun Q' q => TX11_tells 2 y6 _ q) kvX11_tells ml_X11_199 sh_150 rfl (RRc (by decide) (by decide)) (Nat.le_of_ble_eq_true rfl) ⟨Nat.le_of_ble_eq_true rfl, Nat.le_of_ble_eq_true rfl⟩ (fun f7 h => ?_)
  refine ev_aload_n (i := 0) dX11_bridgeLine_52 rfl rfl ?_
  refine ev_iconst dX11_bridgeLine_53 (r32c rfl) ?_
  refine ev_aload_n (i := 0) dX11_bridgeLine_54 rfl rfl ?_
  refine ev_ldc2 (v := 1900846) dX11_bridgeLine_55 (r64c rfl) kc_X11_233 ?_
  refine ev_iconst dX11_bridgeLine_58 (r32c rfl) ?_
  refine ev_bipush (v := 9) dX11_bridgeLine_59 (r32c rfl) (by decide) ?_
  refine ev_cVI (b := 150) (av := [vJ 1900846, vI 0, vI 9]) (S := [vI 3, vR 150]) (fun q => q) h dX11_bridgeLine_61 (fun Q' q => TX11_number_ 1900846 0 9 _ q) kvX11_number_ ml_X11_190 sh_150 rfl (RRc (by decide) (by decide)) (Nat.le_of_ble_eq_true rfl) ⟨Nat.le_of_ble_eq_true rfl, Nat.le_of_ble_eq_true rfl⟩ (fun y8 f8 h => ?_)
  refine ev_cVV (b := 150) (av := [vI 3, vI y8]) (S := []) (fun q => q) h dX11_bridgeLine_64 (fun Q' q => TX11_tells 3 y8 _ q) kvX11_tells ml_X11_199 sh_150 rfl (RRc (by decide) (by decide)) (Nat.le_of_ble_eq_true rfl) ⟨Nat.le_of_ble_eq_true rfl, Nat.le_of_ble_eq_true rfl⟩ (fun f9 h => ?_)
  refine ev_aload_n (i := 0) dX11_bridgeLine_67 rfl rfl ?_
  refine ev_iconst dX11_bridgeLine_68 (r32c rfl) ?_
  refine ev_aload_n (i := 0) dX11_bridgeLine_69 rfl rfl ?_
  refine ev_ldc2 (v := 298288) dX11_bridgeLine_70 (r64c rfl) kc_X11_235 ?_
  refine ev_iconst dX11_bridgeLine_73 (r32c rfl) ?_
  refine ev_bipush (v := 10) dX11_bridgeLine_74 (r32c rfl) (by decide) ?_
  refine ev_cVI (b := 150) (av := [vJ 298288, vI 0, vI 10]) (S := [vI 4, vR 150]) (fun q => q) h dX11_bridgeLine_76 (fun Q' q => TX11_number_ 298288 0 10 _ q) kvX11_number_ ml_X11_190 sh_150 rfl (RRc (by decide) (by decide)) (Nat.le_of_ble_eq_true rfl) ⟨Nat.le_of_ble_eq_true rfl, Nat.le_of_ble_eq_true rfl⟩ (fun y10 f10 h => ?_)
  refine ev_cVV (b := 150) (av := [vI 4, vI y10]) (S := []) (fun q => q) h dX11_bridgeLine_79 (fun Q' q => TX11_tells 4 y10 _ q) kvX11_tells ml_X11_199 sh_150 rfl (RRc (by decide) (by decide)) (Nat.le_of_ble_eq_true rfl) ⟨Nat.le_of_ble_eq_true rfl, Nat.le_of_ble_eq_true rfl⟩ (fun f11 h => ?_)
  exact ev_vret rfl dX11_bridgeLine_82 h
def FX11_bridgeLine  (f : Mm) : Option Mm := FX11_bridgeLine_0  f
set_option maxRecDepth 100000 in
theorem TX11_bridgeLine {G : GT} {l : Launch} {Q : Option AV → Mem → Prop}  (f : Mm) (h : OkV Q (FX11_bridgeLine  f)) : Ret G l MX11_bridgeLine (6) 0 0 [vR 150] (SH, RF, f) Q := by
  refine ret_of (L := [some (vR 150)]) (by decide) rfl (Nat.le_of_ble_eq_true rfl) ?_
  exact SX11_bridgeLine_0  f h
theorem dX11_copyRow_3 : decode cX11_copyRow 3 = .ok (.iload 4, 2) := by decide +kernel
theorem dX11_copyRow_5 : decode cX11_copyRow 5 = .ok (.iload_n 1, 1) := by decide +kernel
theorem dX11_copyRow_6 : decode cX11_copyRow 6 = .ok (.if_icmp .ge 25, 3) := by decide +kernel
theorem dX11_copyRow_31 : decode cX11_copyRow 31 = .ok (.return_, 1) := by decide +kernel
theorem dX11_copyRow_9 : decode cX11_copyRow 9 = .ok (.aload_n 0, 1) := by decide +kernel
theorem dX11_copyRow_10 : decode cX11_copyRow 10 = .ok (.iload_n 1, 1) := by decide +kernel
theorem dX11_copyRow_11 : decode cX11_copyRow 11 = .ok (.iload_n 3, 1) := by decide +kernel
theorem dX11_copyRow_12 : decode cX11_copyRow 12 = .ok (.imul, 1) := by decide +kernel
theorem dX11_copyRow_13 : decode cX11_copyRow 13 = .ok (.iload 4, 2) := by decide +kernel
theorem dX11_copyRow_15 : decode cX11_copyRow 15 = .ok (.iadd, 1) := by decide +kernel
theorem dX11_copyRow_16 : decode cX11_copyRow 16 = .ok (.aload_n 0, 1) := by decide +kernel
theorem dX11_copyRow_17 : decode cX11_copyRow 17 = .ok (.iload_n 1, 1) := by decide +kernel
theorem dX11_copyRow_18 : decode cX11_copyRow 18 = .ok (.iload_n 2, 1) := by decide +kernel
theorem dX11_copyRow_19 : decode cX11_copyRow 19 = .ok (.imul, 1) := by decide +kernel
theorem dX11_copyRow_20 : decode cX11_copyRow 20 = .ok (.iload 4, 2) := by decide +kernel
theorem dX11_copyRow_22 : decode cX11_copyRow 22 = .ok (.iadd, 1) := by decide +kernel
theorem dX11_copyRow_23 : decode cX11_copyRow 23 = .ok (.iaload, 1) := by decide +kernel
theorem dX11_copyRow_24 : decode cX11_copyRow 24 = .ok (.iastore, 1) := by decide +kernel
theorem dX11_copyRow_25 : decode cX11_copyRow 25 = .ok (.iinc 4 1, 3) := by decide +kernel
theorem dX11_copyRow_28 : decode cX11_copyRow 28 = .ok (.goto (-25), 3) := by decide +kernel
theorem dX11_copyRow_0 : decode cX11_copyRow 0 = .ok (.iconst 0, 1) := by decide +kernel
theorem dX11_copyRow_1 : decode cX11_copyRow 1 = .ok (.istore 4, 2) := by decide +kernel
def FX11_copyRow_156_3  : Nat → Int → Int → Int → Int → Mm → Option Mm
  | 0, _, _, _, _, _ => none
  | n + 1, x1, x2, x3, x4, f => (if x1 ≤ x4 then some f else (if 0 ≤ (w32 ((w32 (x1 * x2)) + x4)) ∧ (w32 ((w32 (x1 * x2)) + x4)) < 5 then (if 0 ≤ (w32 ((w32 (x1 * x3)) + x4)) ∧ (w32 ((w32 (x1 * x3)) + x4)) < 5 then FX11_copyRow_156_3 n x1 x2 x3 (w32 (x4 + 1)) (up f 156 (w32 ((w32 (x1 * x3)) + x4)).toNat (f 156 (w32 ((w32 (x1 * x2)) + x4)).toNat)) else none) else none))
set_option maxHeartbeats 4000000 in
set_option maxRecDepth 100000 in
theorem SX11_copyRow_156_3 {G : GT} {l : Launch} {Q : Option AV → Mem → Prop}  : ∀ (n : Nat) (x1 : Int) (x2 : Int) (x3 : Int) (x4 : Int) (f : Mm), OkV Q (FX11_copyRow_156_3  n x1 x2 x3 x4 f) → Ev G l MX11_copyRow (Rm 1 0 0) (ZM G Q 0 0) 0 0 3 [some (vR 156), some (vI x1), some (vI x2), some (vI x3), some (vI x4)] [] (SH, RF, f) := by
  intro n
  induction n with
  | zero => intro x1 x2 x3 x4 f h; exact absurd h (by rw [FX11_copyRow_156_3]; exact fun q => q)
  | succ n ih =>
    intro x1 x2 x3 x4 f h
    rw [FX11_copyRow_156_3] at h
    refine ev_iload dX11_copyRow_3 rfl ?_
    refine ev_iload_n (i := 1) dX11_copyRow_5 rfl rfl ?_
    refine ev_icmp_ge (tgt := 31) dX11_copyRow_6 (by decide) (fun c3 => ?_) (fun c3 => ?_)
    · rw [if_pos c3] at h
      exact ev_vret rfl dX11_copyRow_31 h
    · rw [if_neg c3] at h
      refine ev_aload_n (i := 0) dX11_copyRow_9 rfl rfl ?_
      refine ev_iload_n (i := 1) dX11_copyRow_10 rfl rfl ?_
      refine ev_iload_n (i := 3) dX11_copyRow_11 rfl rfl ?_
      refine ev_imul dX11_copyRow_12 ?_
      refine ev_iload dX11_copyRow_13 rfl ?_
      refine ev_iadd dX11_copyRow_15 ?_
      refine ev_aload_n (i := 0) dX11_copyRow_16 rfl rfl ?_
      refine ev_iload_n (i := 1) dX11_copyRow_17 rfl rfl ?_
      refine ev_iload_n (i := 2) dX11_copyRow_18 rfl rfl ?_
      refine ev_imul dX11_copyRow_19 ?_
      refine ev_iload dX11_copyRow_20 rfl ?_
      refine ev_iadd dX11_copyRow_22 ?_
      by_cases g1 : 0 ≤ (w32 ((w32 (x1 * x2)) + x4)) ∧ (w32 ((w32 (x1 * x2)) + x4)) < 5
      · rw [if_pos g1] at h
        refine ex_iald (x := (f 156 (w32 ((w32 (x1 * x2)) + x4)).toNat)) dX11_copyRow_23 sh_156 g1.1 g1.2 rfl ?_
        by_cases g2 : 0 ≤ (w32 ((w32 (x1 * x3)) + x4)) ∧ (w32 ((w32 (x1 * x3)) + x4)) < 5
        · rw [if_pos g2] at h
          refine ex_iast (j := (w32 ((w32 (x1 * x3)) + x4)).toNat) dX11_copyRow_24 sh_156 g2.1 g2.2 rfl ?_
          refine ev_iinc (L' := [some (vR 156), some (vI x1), some (vI x2), some (vI x3), some (vI (w32 (x4 + 1)))]) dX11_copyRow_25 rfl (by decide) rfl ?_
          refine ev_goto (tgt := 3) dX11_copyRow_28 (by decide) ?_
          exact ih x1 x2 x3 (w32 (x4 + 1)) _ h
        · rw [if_neg g2] at h; exact h.elim
      · rw [if_neg g1] at h; exact h.elim
def FX11_copyRow_156_0  (x1 : Int) (x2 : Int) (x3 : Int) (f : Mm) : Option Mm := FX11_copyRow_156_3 fu x1 x2 x3 0 f
set_option maxHeartbeats 4000000 in
set_option maxRecDepth 100000 in
theorem SX11_copyRow_156_0 {G : GT} {l : Launch} {Q : Option AV → Mem → Prop}  (x1 : Int) (x2 : Int) (x3 : Int) (f : Mm) (h : OkV Q (FX11_copyRow_156_0  x1 x2 x3 f)) : Ev G l MX11_copyRow (Rm 1 0 0) (ZM G Q 0 0) 0 0 0 [some (vR 156), some (vI x1), some (vI x2), some (vI x3), none] [] (SH, RF, f) := by
  unfold FX11_copyRow_156_0 at h
  refine ev_iconst dX11_copyRow_0 (r32c rfl) ?_
  refine ev_istore (L' := [some (vR 156), some (vI x1), some (vI x2), some (vI x3), some (vI 0)]) dX11_copyRow_1 (by decide) rfl ?_
  exact SX11_copyRow_156_3  fu x1 x2 x3 0 _ h
def FX11_copyRow_156 (x1 : Int) (x2 : Int) (x3 : Int) (f : Mm) : Option Mm := FX11_copyRow_156_0 x1 x2 x3 f
set_option maxRecDepth 100000 in
theorem TX11_copyRow_156 {G : GT} {l : Launch} {Q : Option AV → Mem → Prop} (x1 : Int) (x2 : Int) (x3 : Int) (f : Mm) (h : OkV Q (FX11_copyRow_156 x1 x2 x3 f)) : Ret G l MX11_copyRow (1) 0 0 [vR 156, vI x1, vI x2, vI x3] (SH, RF, f) Q := by
  refine ret_of (L := [some (vR 156), some (vI x1), some (vI x2), some (vI x3), none]) (by decide) rfl (Nat.le_of_ble_eq_true rfl) ?_
  exact SX11_copyRow_156_0 x1 x2 x3 f h
def FX11_copyRow_157_3  : Nat → Int → Int → Int → Int → Mm → Option Mm
  | 0, _, _, _, _, _ => none
  | n + 1, x1, x2, x3, x4, f => (if x1 ≤ x4 then some f else (if 0 ≤ (w32 ((w32 (x1 * x2)) + x4)) ∧ (w32 ((w32 (x1 * x2)) + x4)) < 40 then (if 0 ≤ (w32 ((w32 (x1 * x3)) + x4)) ∧ (w32 ((w32 (x1 * x3)) + x4)) < 40 then FX11_copyRow_157_3 n x1 x2 x3 (w32 (x4 + 1)) (up f 157 (w32 ((w32 (x1 * x3)) + x4)).toNat (f 157 (w32 ((w32 (x1 * x2)) + x4)).toNat)) else none) else none))
set_option maxHeartbeats 4000000 in
set_option maxRecDepth 100000 in
theorem SX11_copyRow_157_3 {G : GT} {l : Launch} {Q : Option AV → Mem → Prop}  : ∀ (n : Nat) (x1 : Int) (x2 : Int) (x3 : Int) (x4 : Int) (f : Mm), OkV Q (FX11_copyRow_157_3  n x1 x2 x3 x4 f) → Ev G l MX11_copyRow (Rm 1 0 0) (ZM G Q 0 0) 0 0 3 [some (vR 157), some (vI x1), some (vI x2), some (vI x3), some (vI x4)] [] (SH, RF, f) := by
  intro n
  induction n with
  | zero => intro x1 x2 x3 x4 f h; exact absurd h (by rw [FX11_copyRow_157_3]; exact fun q => q)
  | succ n ih =>
    intro x1 x2 x3 x4 f h
    rw [FX11_copyRow_157_3] at h
    refine ev_iload dX11_copyRow_3 rfl ?_
    refine ev_iload_n (i := 1) dX11_copyRow_5 rfl rfl ?_
    refine ev_icmp_ge (tgt := 31) dX11_copyRow_6 (by decide) (fun c3 => ?_) (fun c3 => ?_)
    · rw [if_pos c3] at h
      exact ev_vret rfl dX11_copyRow_31 h
    · rw [if_neg c3] at h
      refine ev_aload_n (i := 0) dX11_copyRow_9 rfl rfl ?_
      refine ev_iload_n (i := 1) dX11_copyRow_10 rfl rfl ?_
      refine ev_iload_n (i := 3) dX11_copyRow_11 rfl rfl ?_
      refine ev_imul dX11_copyRow_12 ?_
      refine ev_iload dX11_copyRow_13 rfl ?_
      refine ev_iadd dX11_copyRow_15 ?_
      refine ev_aload_n (i := 0) dX11_copyRow_16 rfl rfl ?_
      refine ev_iload_n (i := 1) dX11_copyRow_17 rfl rfl ?_
      refine ev_iload_n (i := 2) dX11_copyRow_18 rfl rfl ?_
      refine ev_imul dX11_copyRow_19 ?_
      refine ev_iload dX11_copyRow_20 rfl ?_
      refine ev_iadd dX11_copyRow_22 ?_
      by_cases g1 : 0 ≤ (w32 ((w32 (x1 * x2)) + x4)) ∧ (w32 ((w32 (x1 * x2)) + x4)) < 40
      · rw [if_pos g1] at h
        refine ex_iald (x := (f 157 (w32 ((w32 (x1 * x2)) + x4)).toNat)) dX11_copyRow_23 sh_157 g1.1 g1.2 rfl ?_
        by_cases g2 : 0 ≤ (w32 ((w32 (x1 * x3)) + x4)) ∧ (w32 ((w32 (x1 * x3)) + x4)) < 40
        · rw [if_pos g2] at h
          refine ex_iast (j := (w32 ((w32 (x1 * x3)) + x4)).toNat) dX11_copyRow_24 sh_157 g2.1 g2.2 rfl ?_
          refine ev_iinc (L' := [some (vR 157), some (vI x1), some (vI x2), some (vI x3), some (vI (w32 (x4 + 1)))]) dX11_copyRow_25 rfl (by decide) rfl ?_
          refine ev_goto (tgt := 3) dX11_copyRow_28 (by decide) ?_
          exact ih x1 x2 x3 (w32 (x4 + 1)) _ h
        · rw [if_neg g2] at h; exact h.elim
      · rw [if_neg g1] at h; exact h.elim
def FX11_copyRow_157_0  (x1 : Int) (x2 : Int) (x3 : Int) (f : Mm) : Option Mm := FX11_copyRow_157_3 fu x1 x2 x3 0 f
set_option maxHeartbeats 4000000 in
set_option maxRecDepth 100000 in
theorem SX11_copyRow_157_0 {G : GT} {l : Launch} {Q : Option AV → Mem → Prop}  (x1 : Int) (x2 : Int) (x3 : Int) (f : Mm) (h : OkV Q (FX11_copyRow_157_0  x1 x2 x3 f)) : Ev G l MX11_copyRow (Rm 1 0 0) (ZM G Q 0 0) 0 0 0 [some (vR 157), some (vI x1), some (vI x2), some (vI x3), none] [] (SH, RF, f) := by
  unfold FX11_copyRow_157_0 at h
  refine ev_iconst dX11_copyRow_0 (r32c rfl) ?_
  refine ev_istore (L' := [some (vR 157), some (vI x1), some (vI x2), some (vI x3), some (vI 0)]) dX11_copyRow_1 (by decide) rfl ?_
  exact SX11_copyRow_157_3  fu x1 x2 x3 0 _ h
def FX11_copyRow_157 (x1 : Int) (x2 : Int) (x3 : Int) (f : Mm) : Option Mm := FX11_copyRow_157_0 x1 x2 x3 f
set_option maxRecDepth 100000 in
theorem TX11_copyRow_157 {G : GT} {l : Launch} {Q : Option AV → Mem → Prop} (x1 : Int) (x2 : Int) (x3 : Int) (f : Mm) (h : OkV Q (FX11_copyRow_157 x1 x2 x3 f)) : Ret G l MX11_copyRow (1) 0 0 [vR 157, vI x1, vI x2, vI x3] (SH, RF, f) Q := by
  refine ret_of (L := [some (vR 157), some (vI x1), some (vI x2), some (vI x3), none]) (by decide) rfl (Nat.le_of_ble_eq_true rfl) ?_
  exact SX11_copyRow_157_0 x1 x2 x3 f h
def FX11_copyRow_158_3  : Nat → Int → Int → Int → Int → Mm → Option Mm
  | 0, _, _, _, _, _ => none
  | n + 1, x1, x2, x3, x4, f => (if x1 ≤ x4 then some f else (if 0 ≤ (w32 ((w32 (x1 * x2)) + x4)) ∧ (w32 ((w32 (x1 * x2)) + x4)) < 80 then (if 0 ≤ (w32 ((w32 (x1 * x3)) + x4)) ∧ (w32 ((w32 (x1 * x3)) + x4)) < 80 then FX11_copyRow_158_3 n x1 x2 x3 (w32 (x4 + 1)) (up f 158 (w32 ((w32 (x1 * x3)) + x4)).toNat (f 158 (w32 ((w32 (x1 * x2)) + x4)).toNat)) else none) else none))
set_option maxHeartbeats 4000000 in
set_option maxRecDepth 100000 in
theorem SX11_copyRow_158_3 {G : GT} {l : Launch} {Q : Option AV → Mem → Prop}  : ∀ (n : Nat) (x1 : Int) (x2 : Int) (x3 : Int) (x4 : Int) (f : Mm), OkV Q (FX11_copyRow_158_3  n x1 x2 x3 x4 f) → Ev G l MX11_copyRow (Rm 1 0 0) (ZM G Q 0 0) 0 0 3 [some (vR 158), some (vI x1), some (vI x2), some (vI x3), some (vI x4)] [] (SH, RF, f) := by
  intro n
  induction n with
  | zero => intro x1 x2 x3 x4 f h; exact absurd h (by rw [FX11_copyRow_158_3]; exact fun q => q)
  | succ n ih =>
    intro x1 x2 x3 x4 f h
    rw [FX11_copyRow_158_3] at h
    refine ev_iload dX11_copyRow_3 rfl ?_
    refine ev_iload_n (i := 1) dX11_copyRow_5 rfl rfl ?_
    refine ev_icmp_ge (tgt := 31) dX11_copyRow_6 (by decide) (fun c3 => ?_) (fun c3 => ?_)
    · rw [if_pos c3] at h
      exact ev_vret rfl dX11_copyRow_31 h
    · rw [if_neg c3] at h
      refine ev_aload_n (i := 0) dX11_copyRow_9 rfl rfl ?_
      refine ev_iload_n (i := 1) dX11_copyRow_10 rfl rfl ?_
      refine ev_iload_n (i := 3) dX11_copyRow_11 rfl rfl ?_
      refine ev_imul dX11_copyRow_12 ?_
      refine ev_iload dX11_copyRow_13 rfl ?_
      refine ev_iadd dX11_copyRow_15 ?_
      refine ev_aload_n (i := 0) dX11_copyRow_16 rfl rfl ?_
      refine ev_iload_n (i := 1) dX11_copyRow_17 rfl rfl ?_
      refine ev_iload_n (i := 2) dX11_copyRow_18 rfl rfl ?_
      refine ev_imul dX11_copyRow_19 ?_
      refine ev_iload dX11_copyRow_20 rfl ?_
      refine ev_iadd dX11_copyRow_22 ?_
      by_cases g1 : 0 ≤ (w32 ((w32 (x1 * x2)) + x4)) ∧ (w32 ((w32 (x1 * x2)) + x4)) < 80
      · rw [if_pos g1] at h
        refine ex_iald (x := (f 158 (w32 ((w32 (x1 * x2)) + x4)).toNat)) dX11_copyRow_23 sh_158 g1.1 g1.2 rfl ?_
        by_cases g2 : 0 ≤ (w32 ((w32 (x1 * x3)) + x4)) ∧ (w32 ((w32 (x1 * x3)) + x4)) < 80
        · rw [if_pos g2] at h
          refine ex_iast (j := (w32 ((w32 (x1 * x3)) + x4)).toNat) dX11_copyRow_24 sh_158 g2.1 g2.2 rfl ?_
          refine ev_iinc (L' := [some (vR 158), some (vI x1), some (vI x2), some (vI x3), some (vI (w32 (x4 + 1)))]) dX11_copyRow_25 rfl (by decide) rfl ?_
          refine ev_goto (tgt := 3) dX11_copyRow_28 (by decide) ?_
          exact ih x1 x2 x3 (w32 (x4 + 1)) _ h
        · rw [if_neg g2] at h; exact h.elim
      · rw [if_neg g1] at h; exact h.elim
def FX11_copyRow_158_0  (x1 : Int) (x2 : Int) (x3 : Int) (f : Mm) : Option Mm := FX11_copyRow_158_3 fu x1 x2 x3 0 f
set_option maxHeartbeats 4000000 in
set_option maxRecDepth 100000 in
theorem SX11_copyRow_158_0 {G : GT} {l : Launch} {Q : Option AV → Mem → Prop}  (x1 : Int) (x2 : Int) (x3 : Int) (f : Mm) (h : OkV Q (FX11_copyRow_158_0  x1 x2 x3 f)) : Ev G l MX11_copyRow (Rm 1 0 0) (ZM G Q 0 0) 0 0 0 [some (vR 158), some (vI x1), some (vI x2), some (vI x3), none] [] (SH, RF, f) := by
  unfold FX11_copyRow_158_0 at h
  refine ev_iconst dX11_copyRow_0 (r32c rfl) ?_
  refine ev_istore (L' := [some (vR 158), some (vI x1), some (vI x2), some (vI x3), some (vI 0)]) dX11_copyRow_1 (by decide) rfl ?_
  exact SX11_copyRow_158_3  fu x1 x2 x3 0 _ h
def FX11_copyRow_158 (x1 : Int) (x2 : Int) (x3 : Int) (f : Mm) : Option Mm := FX11_copyRow_158_0 x1 x2 x3 f
set_option maxRecDepth 100000 in
theorem TX11_copyRow_158 {G : GT} {l : Launch} {Q : Option AV → Mem → Prop} (x1 : Int) (x2 : Int) (x3 : Int) (f : Mm) (h : OkV Q (FX11_copyRow_158 x1 x2 x3 f)) : Ret G l MX11_copyRow (1) 0 0 [vR 158, vI x1, vI x2, vI x3] (SH, RF, f) Q := by
  refine ret_of (L := [some (vR 158), some (vI x1), some (vI x2), some (vI x3), none]) (by decide) rfl (Nat.le_of_ble_eq_true rfl) ?_
  exact SX11_copyRow_158_0 x1 x2 x3 f h
def FX11_copyRow_159_3  : Nat → Int → Int → Int → Int → Mm → Option Mm
  | 0, _, _, _, _, _ => none
  | n + 1, x1, x2, x3, x4, f => (if x1 ≤ x4 then some f else (if 0 ≤ (w32 ((w32 (x1 * x2)) + x4)) ∧ (w32 ((w32 (x1 * x2)) + x4)) < 150 then (if 0 ≤ (w32 ((w32 (x1 * x3)) + x4)) ∧ (w32 ((w32 (x1 * x3)) + x4)) < 150 then FX11_copyRow_159_3 n x1 x2 x3 (w32 (x4 + 1)) (up f 159 (w32 ((w32 (x1 * x3)) + x4)).toNat (f 159 (w32 ((w32 (x1 * x2)) + x4)).toNat)) else none) else none))
set_option maxHeartbeats 4000000 in
set_option maxRecDepth 100000 in
theorem SX11_copyRow_159_3 {G : GT} {l : Launch} {Q : Option AV → Mem → Prop}  : ∀ (n : Nat) (x1 : Int) (x2 : Int) (x3 : Int) (x4 : Int) (f : Mm), OkV Q (FX11_copyRow_159_3  n x1 x2 x3 x4 f) → Ev G l MX11_copyRow (Rm 1 0 0) (ZM G Q 0 0) 0 0 3 [some (vR 159), some (vI x1), some (vI x2), some (vI x3), some (vI x4)] [] (SH, RF, f) := by
  intro n
  induction n with
  | zero => intro x1 x2 x3 x4 f h; exact absurd h (by rw [FX11_copyRow_159_3]; exact fun q => q)
  | succ n ih =>
    intro x1 x2 x3 x4 f h
    rw [FX11_copyRow_159_3] at h
    refine ev_iload dX11_copyRow_3 rfl ?_
    refine ev_iload_n (i := 1) dX11_copyRow_5 rfl rfl ?_
    refine ev_icmp_ge (tgt := 31) dX11_copyRow_6 (by decide) (fun c3 => ?_) (fun c3 => ?_)
    · rw [if_pos c3] at h
      exact ev_vret rfl dX11_copyRow_31 h
    · rw [if_neg c3] at h
      refine ev_aload_n (i := 0) dX11_copyRow_9 rfl rfl ?_
      refine ev_iload_n (i := 1) dX11_copyRow_10 rfl rfl ?_
      refine ev_iload_n (i := 3) dX11_copyRow_11 rfl rfl ?_
      refine ev_imul dX11_copyRow_12 ?_
      refine ev_iload dX11_copyRow_13 rfl ?_
      refine ev_iadd dX11_copyRow_15 ?_
      refine ev_aload_n (i := 0) dX11_copyRow_16 rfl rfl ?_
      refine ev_iload_n (i := 1) dX11_copyRow_17 rfl rfl ?_
      refine ev_iload_n (i := 2) dX11_copyRow_18 rfl rfl ?_
      refine ev_imul dX11_copyRow_19 ?_
      refine ev_iload dX11_copyRow_20 rfl ?_
      refine ev_iadd dX11_copyRow_22 ?_
      by_cases g1 : 0 ≤ (w32 ((w32 (x1 * x2)) + x4)) ∧ (w32 ((w32 (x1 * x2)) + x4)) < 150
      · rw [if_pos g1] at h
        refine ex_iald (x := (f 159 (w32 ((w32 (x1 * x2)) + x4)).toNat)) dX11_copyRow_23 sh_159 g1.1 g1.2 rfl ?_
        by_cases g2 : 0 ≤ (w32 ((w32 (x1 * x3)) + x4)) ∧ (w32 ((w32 (x1 * x3)) + x4)) < 150
        · rw [if_pos g2] at h
          refine ex_iast (j := (w32 ((w32 (x1 * x3)) + x4)).toNat) dX11_copyRow_24 sh_159 g2.1 g2.2 rfl ?_
          refine ev_iinc (L' := [some (vR 159), some (vI x1), some (vI x2), some (vI x3), some (vI (w32 (x4 + 1)))]) dX11_copyRow_25 rfl (by decide) rfl ?_
          refine ev_goto (tgt := 3) dX11_copyRow_28 (by decide) ?_
          exact ih x1 x2 x3 (w32 (x4 + 1)) _ h
        · rw [if_neg g2] at h; exact h.elim
      · rw [if_neg g1] at h; exact h.elim
def FX11_copyRow_159_0  (x1 : Int) (x2 : Int) (x3 : Int) (f : Mm) : Option Mm := FX11_copyRow_159_3 fu x1 x2 x3 0 f
set_option maxHeartbeats 4000000 in
set_option maxRecDepth 100000 in
theorem SX11_copyRow_159_0 {G : GT} {l : Launch} {Q : Option AV → Mem → Prop}  (x1 : Int) (x2 : Int) (x3 : Int) (f : Mm) (h : OkV Q (FX11_copyRow_159_0  x1 x2 x3 f)) : Ev G l MX11_copyRow (Rm 1 0 0) (ZM G Q 0 0) 0 0 0 [some (vR 159), some (vI x1), some (vI x2), some (vI x3), none] [] (SH, RF, f) := by
  unfold FX11_copyRow_159_0 at h
  refine ev_iconst dX11_copyRow_0 (r32c rfl) ?_
  refine ev_istore (L' := [some (vR 159), some (vI x1), some (vI x2), some (vI x3), some (vI 0)]) dX11_copyRow_1 (by decide) rfl ?_
  exact SX11_copyRow_159_3  fu x1 x2 x3 0 _ h
def FX11_copyRow_159 (x1 : Int) (x2 : Int) (x3 : Int) (f : Mm) : Option Mm := FX11_copyRow_159_0 x1 x2 x3 f
set_option maxRecDepth 100000 in
theorem TX11_copyRow_159 {G : GT} {l : Launch} {Q : Option AV → Mem → Prop} (x1 : Int) (x2 : Int) (x3 : Int) (f : Mm) (h : OkV Q (FX11_copyRow_159 x1 x2 x3 f)) : Ret G l MX11_copyRow (1) 0 0 [vR 159, vI x1, vI x2, vI x3] (SH, RF, f) Q := by
  refine ret_of (L := [some (vR 159), some (vI x1), some (vI x2), some (vI x3), none]) (by decide) rfl (Nat.le_of_ble_eq_true rfl) ?_
  exact SX11_copyRow_159_0 x1 x2 x3 f h
def FX11_copyRow_160_3  : Nat → Int → Int → Int → Int → Mm → Option Mm
  | 0, _, _, _, _, _ => none
  | n + 1, x1, x2, x3, x4, f => (if x1 ≤ x4 then some f else (if 0 ≤ (w32 ((w32 (x1 * x2)) + x4)) ∧ (w32 ((w32 (x1 * x2)) + x4)) < 400 then (if 0 ≤ (w32 ((w32 (x1 * x3)) + x4)) ∧ (w32 ((w32 (x1 * x3)) + x4)) < 400 then FX11_copyRow_160_3 n x1 x2 x3 (w32 (x4 + 1)) (up f 160 (w32 ((w32 (x1 * x3)) + x4)).toNat (f 160 (w32 ((w32 (x1 * x2)) + x4)).toNat)) else none) else none))
set_option maxHeartbeats 4000000 in
set_option maxRecDepth 100000 in
theorem SX11_copyRow_160_3 {G : GT} {l : Launch} {Q : Option AV → Mem → Prop}  : ∀ (n : Nat) (x1 : Int) (x2 : Int) (x3 : Int) (x4 : Int) (f : Mm), OkV Q (FX11_copyRow_160_3  n x1 x2 x3 x4 f) → Ev G l MX11_copyRow (Rm 1 0 0) (ZM G Q 0 0) 0 0 3 [some (vR 160), some (vI x1), some (vI x2), some (vI x3), some (vI x4)] [] (SH, RF, f) := by
  intro n
  induction n with
  | zero => intro x1 x2 x3 x4 f h; exact absurd h (by rw [FX11_copyRow_160_3]; exact fun q => q)
  | succ n ih =>
    intro x1 x2 x3 x4 f h
    rw [FX11_copyRow_160_3] at h
    refine ev_iload dX11_copyRow_3 rfl ?_
    refine ev_iload_n (i := 1) dX11_copyRow_5 rfl rfl ?_
    refine ev_icmp_ge (tgt := 31) dX11_copyRow_6 (by decide) (fun c3 => ?_) (fun c3 => ?_)
    · rw [if_pos c3] at h
      exact ev_vret rfl dX11_copyRow_31 h
    · rw [if_neg c3] at h
      refine ev_aload_n (i := 0) dX11_copyRow_9 rfl rfl ?_
      refine ev_iload_n (i := 1) dX11_copyRow_10 rfl rfl ?_
      refine ev_iload_n (i := 3) dX11_copyRow_11 rfl rfl ?_
      refine ev_imul dX11_copyRow_12 ?_
      refine ev_iload dX11_copyRow_13 rfl ?_
      refine ev_iadd dX11_copyRow_15 ?_
      refine ev_aload_n (i := 0) dX11_copyRow_16 rfl rfl ?_
      refine ev_iload_n (i := 1) dX11_copyRow_17 rfl rfl ?_
      refine ev_iload_n (i := 2) dX11_copyRow_18 rfl rfl ?_
      refine ev_imul dX11_copyRow_19 ?_
      refine ev_iload dX11_copyRow_20 rfl ?_
      refine ev_iadd dX11_copyRow_22 ?_
      by_cases g1 : 0 ≤ (w32 ((w32 (x1 * x2)) + x4)) ∧ (w32 ((w32 (x1 * x2)) + x4)) < 400
      · rw [if_pos g1] at h
        refine ex_iald (x := (f 160 (w32 ((w32 (x1 * x2)) + x4)).toNat)) dX11_copyRow_23 sh_160 g1.1 g1.2 rfl ?_
        by_cases g2 : 0 ≤ (w32 ((w32 (x1 * x3)) + x4)) ∧ (w32 ((w32 (x1 * x3)) + x4)) < 400
        · rw [if_pos g2] at h
          refine ex_iast (j := (w32 ((w32 (x1 * x3)) + x4)).toNat) dX11_copyRow_24 sh_160 g2.1 g2.2 rfl ?_
          refine ev_iinc (L' := [some (vR 160), some (vI x1), some (vI x2), some (vI x3), some (vI (w32 (x4 + 1)))]) dX11_copyRow_25 rfl (by decide) rfl ?_
          refine ev_goto (tgt := 3) dX11_copyRow_28 (by decide) ?_
          exact ih x1 x2 x3 (w32 (x4 + 1)) _ h
        · rw [if_neg g2] at h; exact h.elim
      · rw [if_neg g1] at h; exact h.elim
def FX11_copyRow_160_0  (x1 : Int) (x2 : Int) (x3 : Int) (f : Mm) : Option Mm := FX11_copyRow_160_3 fu x1 x2 x3 0 f
set_option maxHeartbeats 4000000 in
set_option maxRecDepth 100000 in
theorem SX11_copyRow_160_0 {G : GT} {l : Launch} {Q : Option AV → Mem → Prop}  (x1 : Int) (x2 : Int) (x3 : Int) (f : Mm) (h : OkV Q (FX11_copyRow_160_0  x1 x2 x3 f)) : Ev G l MX11_copyRow (Rm 1 0 0) (ZM G Q 0 0) 0 0 0 [some (vR 160), some (vI x1), some (vI x2), some (vI x3), none] [] (SH, RF, f) := by
  unfold FX11_copyRow_160_0 at h
  refine ev_iconst dX11_copyRow_0 (r32c rfl) ?_
  refine ev_istore (L' := [some (vR 160), some (vI x1), some (vI x2), some (vI x3), some (vI 0)]) dX11_copyRow_1 (by decide) rfl ?_
  exact SX11_copyRow_160_3  fu x1 x2 x3 0 _ h
def FX11_copyRow_160 (x1 : Int) (x2 : Int) (x3 : Int) (f : Mm) : Option Mm := FX11_copyRow_160_0 x1 x2 x3 f
set_option maxRecDepth 100000 in
theorem TX11_copyRow_160 {G : GT} {l : Launch} {Q : Option AV → Mem → Prop} (x1 : Int) (x2 : Int) (x3 : Int) (f : Mm) (h : OkV Q (FX11_copyRow_160 x1 x2 x3 f)) : Ret G l MX11_copyRow (1) 0 0 [vR 160, vI x1, vI x2, vI x3] (SH, RF, f) Q := by
  refine ret_of (L := [some (vR 160), some (vI x1), some (vI x2), some (vI x3), none]) (by decide) rfl (Nat.le_of_ble_eq_true rfl) ?_
  exact SX11_copyRow_160_0 x1 x2 x3 f h
theorem dX11_copyBridge_0 : decode cX11_copyBridge 0 = .ok (.aload_n 0, 1) := by decide +kernel
theorem dX11_copyBridge_1 : decode cX11_copyBridge 1 = .ok (.getfield 31, 3) := by decide +kernel
theorem dX11_copyBridge_4 : decode cX11_copyBridge 4 = .ok (.iconst 1, 1) := by decide +kernel
theorem dX11_copyBridge_5 : decode cX11_copyBridge 5 = .ok (.iload_n 1, 1) := by decide +kernel
theorem dX11_copyBridge_6 : decode cX11_copyBridge 6 = .ok (.iload_n 2, 1) := by decide +kernel
theorem dX11_copyBridge_7 : decode cX11_copyBridge 7 = .ok (.invokestatic 262, 3) := by decide +kernel
theorem dX11_copyBridge_10 : decode cX11_copyBridge 10 = .ok (.aload_n 0, 1) := by decide +kernel
theorem dX11_copyBridge_11 : decode cX11_copyBridge 11 = .ok (.getfield 34, 3) := by decide +kernel
theorem dX11_copyBridge_14 : decode cX11_copyBridge 14 = .ok (.bipush 8, 2) := by decide +kernel
theorem dX11_copyBridge_16 : decode cX11_copyBridge 16 = .ok (.iload_n 1, 1) := by decide +kernel
theorem dX11_copyBridge_17 : decode cX11_copyBridge 17 = .ok (.iload_n 2, 1) := by decide +kernel
theorem dX11_copyBridge_18 : decode cX11_copyBridge 18 = .ok (.invokestatic 262, 3) := by decide +kernel
theorem dX11_copyBridge_21 : decode cX11_copyBridge 21 = .ok (.aload_n 0, 1) := by decide +kernel
theorem dX11_copyBridge_22 : decode cX11_copyBridge 22 = .ok (.getfield 37, 3) := by decide +kernel
theorem dX11_copyBridge_25 : decode cX11_copyBridge 25 = .ok (.bipush 16, 2) := by decide +kernel
theorem dX11_copyBridge_27 : decode cX11_copyBridge 27 = .ok (.iload_n 1, 1) := by decide +kernel
theorem dX11_copyBridge_28 : decode cX11_copyBridge 28 = .ok (.iload_n 2, 1) := by decide +kernel
theorem dX11_copyBridge_29 : decode cX11_copyBridge 29 = .ok (.invokestatic 262, 3) := by decide +kernel
theorem dX11_copyBridge_32 : decode cX11_copyBridge 32 = .ok (.aload_n 0, 1) := by decide +kernel
theorem dX11_copyBridge_33 : decode cX11_copyBridge 33 = .ok (.getfield 40, 3) := by decide +kernel
theorem dX11_copyBridge_36 : decode cX11_copyBridge 36 = .ok (.bipush 30, 2) := by decide +kernel
theorem dX11_copyBridge_38 : decode cX11_copyBridge 38 = .ok (.iload_n 1, 1) := by decide +kernel
theorem dX11_copyBridge_39 : decode cX11_copyBridge 39 = .ok (.iload_n 2, 1) := by decide +kernel
theorem dX11_copyBridge_40 : decode cX11_copyBridge 40 = .ok (.invokestatic 262, 3) := by decide +kernel
theorem dX11_copyBridge_43 : decode cX11_copyBridge 43 = .ok (.aload_n 0, 1) := by decide +kernel
theorem dX11_copyBridge_44 : decode cX11_copyBridge 44 = .ok (.getfield 43, 3) := by decide +kernel
theorem dX11_copyBridge_47 : decode cX11_copyBridge 47 = .ok (.bipush 80, 2) := by decide +kernel
theorem dX11_copyBridge_49 : decode cX11_copyBridge 49 = .ok (.iload_n 1, 1) := by decide +kernel
theorem dX11_copyBridge_50 : decode cX11_copyBridge 50 = .ok (.iload_n 2, 1) := by decide +kernel
theorem dX11_copyBridge_51 : decode cX11_copyBridge 51 = .ok (.invokestatic 262, 3) := by decide +kernel
theorem dX11_copyBridge_54 : decode cX11_copyBridge 54 = .ok (.return_, 1) := by decide +kernel
def FX11_copyBridge_0  (x1 : Int) (x2 : Int) (f : Mm) : Option Mm := ((FX11_copyRow_156 1 x1 x2 f).bind fun f1 => ((FX11_copyRow_157 8 x1 x2 f1).bind fun f2 => ((FX11_copyRow_158 16 x1 x2 f2).bind fun f3 => ((FX11_copyRow_159 30 x1 x2 f3).bind fun f4 => ((FX11_copyRow_160 80 x1 x2 f4).bind fun f5 => some f5)))))
set_option maxHeartbeats 4000000 in
set_option maxRecDepth 100000 in
theorem SX11_copyBridge_0 {G : GT} {l : Launch} {Q : Option AV → Mem → Prop}  (x1 : Int) (x2 : Int) (f : Mm) (h : OkV Q (FX11_copyBridge_0  x1 x2 f)) : Ev G l MX11_copyBridge (Rm 2 0 0) (ZM G Q 0 0) 0 0 0 [some (vR 150), some (vI x1), some (vI x2)] [] (SH, RF, f) := by
  unfold FX11_copyBridge_0 at h
  refine ev_aload_n (i := 0) dX11_copyBridge_0 rfl rfl ?_
  refine ev_getR dX11_copyBridge_1 fl_X11_31 sh_150 (by decide) (by decide) rf_150_16 ?_
  refine ev_iconst dX11_copyBridge_4 (r32c rfl) ?_
  refine ev_iload_n (i := 1) dX11_copyBridge_5 rfl rfl ?_
  refine ev_iload_n (i := 2) dX11_copyBridge_6 rfl rfl ?_
  refine ev_cSV (av := [vR 156, vI 1, vI x1, vI x2]) (S := []) (fun q => q) h dX11_copyBridge_7 (fun Q' q => TX11_copyRow_156 1 x1 x2 _ q) ksX11_copyRow ml_X11_262 rfl (RRc (by decide) (by decide)) (Nat.le_of_ble_eq_true rfl) ⟨Nat.le_of_ble_eq_true rfl, Nat.le_of_ble_eq_true rfl⟩ (fun f1 h => ?_)
  refine ev_aload_n (i := 0) dX11_copyBridge_10 rfl rfl ?_
  refine ev_getR dX11_copyBridge_11 fl_X11_34 sh_150 (by decide) (by decide) rf_150_17 ?_
  refine ev_bipush (v := 8) dX11_copyBridge_14 (r32c rfl) (by decide) ?_
  refine ev_iload_n (i := 1) dX11_copyBridge_16 rfl rfl ?_
  refine ev_iload_n (i := 2) dX11_copyBridge_17 rfl rfl ?_
  refine ev_cSV (av := [vR 157, vI 8, vI x1, vI x2]) (S := []) (fun q => q) h dX11_copyBridge_18 (fun Q' q => TX11_copyRow_157 8 x1 x2 _ q) ksX11_copyRow ml_X11_262 rfl (RRc (by decide) (by decide)) (Nat.le_of_ble_eq_true rfl) ⟨Nat.le_of_ble_eq_true rfl, Nat.le_of_ble_eq_true rfl⟩ (fun f2 h => ?_)
  refine ev_aload_n (i := 0) dX11_copyBridge_21 rfl rfl ?_
  refine ev_getR dX11_copyBridge_22 fl_X11_37 sh_150 (by decide) (by decide) rf_150_18 ?_
  refine ev_bipush (v := 16) dX11_copyBridge_25 (r32c rfl) (by decide) ?_
  refine ev_iload_n (i := 1) dX11_copyBridge_27 rfl rfl ?_
  refine ev_iload_n (i := 2) dX11_copyBridge_28 rfl rfl ?_
  refine ev_cSV (av := [vR 158, vI 16, vI x1, vI x2]) (S := []) (fun q => q) h dX11_copyBridge_29 (fun Q' q => TX11_copyRow_158 16 x1 x2 _ q) ksX11_copyRow ml_X11_262 rfl (RRc (by decide) (by decide)) (Nat.le_of_ble_eq_true rfl) ⟨Nat.le_of_ble_eq_true rfl, Nat.le_of_ble_eq_true rfl⟩ (fun f3 h => ?_)
  refine ev_aload_n (i := 0) dX11_copyBridge_32 rfl rfl ?_
  refine ev_getR dX11_copyBridge_33 fl_X11_40 sh_150 (by decide) (by decide) rf_150_19 ?_
  refine ev_bipush (v := 30) dX11_copyBridge_36 (r32c rfl) (by decide) ?_
  refine ev_iload_n (i := 1) dX11_copyBridge_38 rfl rfl ?_
  refine ev_iload_n (i := 2) dX11_copyBridge_39 rfl rfl ?_
  refine ev_cSV (av := [vR 159, vI 30, vI x1, vI x2]) (S := []) (fun q => q) h dX11_copyBridge_40 (fun Q' q => TX11_copyRow_159 30 x1 x2 _ q) ksX11_copyRow ml_X11_262 rfl (RRc (by decide) (by decide)) (Nat.le_of_ble_eq_true rfl) ⟨Nat.le_of_ble_eq_true rfl, Nat.le_of_ble_eq_true rfl⟩ (fun f4 h => ?_)
  refine ev_aload_n (i := 0) dX11_copyBridge_43 rfl rfl ?_
  refine ev_getR dX11_copyBridge_44 fl_X11_43 sh_150 (by decide) (by decide) rf_150_20 ?_
  refine ev_bipush (v := 80) dX11_copyBridge_47 (r32c rfl) (by decide) ?_
  refine ev_iload_n (i := 1) dX11_copyBridge_49 rfl rfl ?_
  refine ev_iload_n (i := 2) dX11_copyBridge_50 rfl rfl ?_
  refine ev_cSV (av := [vR 160, vI 80, vI x1, vI x2]) (S := []) (fun q => q) h dX11_copyBridge_51 (fun Q' q => TX11_copyRow_160 80 x1 x2 _ q) ksX11_copyRow ml_X11_262 rfl (RRc (by decide) (by decide)) (Nat.le_of_ble_eq_true rfl) ⟨Nat.le_of_ble_eq_true rfl, Nat.le_of_ble_eq_true rfl⟩ (fun f5 h => ?_)
  exact ev_vret rfl dX11_copyBridge_54 h
def FX11_copyBridge (x1 : Int) (x2 : Int) (f : Mm) : Option Mm := FX11_copyBridge_0 x1 x2 f
set_option maxRecDepth 100000 in
theorem TX11_copyBridge {G : GT} {l : Launch} {Q : Option AV → Mem → Prop} (x1 : Int) (x2 : Int) (f : Mm) (h : OkV Q (FX11_copyBridge x1 x2 f)) : Ret G l MX11_copyBridge (2) 0 0 [vR 150, vI x1, vI x2] (SH, RF, f) Q := by
  refine ret_of (L := [some (vR 150), some (vI x1), some (vI x2)]) (by decide) rfl (Nat.le_of_ble_eq_true rfl) ?_
  exact SX11_copyBridge_0 x1 x2 f h
theorem dX11_bridge_71 : decode cX11_bridge 71 = .ok (.aload_n 0, 1) := by decide +kernel
theorem dX11_bridge_72 : decode cX11_bridge 72 = .ok (.invokevirtual 256, 3) := by decide +kernel
theorem dX11_bridge_75 : decode cX11_bridge 75 = .ok (.aload_n 0, 1) := by decide +kernel
theorem dX11_bridge_76 : decode cX11_bridge 76 = .ok (.getfield 150, 3) := by decide +kernel
theorem dX11_bridge_79 : decode cX11_bridge 79 = .ok (.ifCond .eq 6, 3) := by decide +kernel
theorem dX11_bridge_85 : decode cX11_bridge 85 = .ok (.aload_n 0, 1) := by decide +kernel
theorem dX11_bridge_86 : decode cX11_bridge 86 = .ok (.iconst 4, 1) := by decide +kernel
theorem dX11_bridge_87 : decode cX11_bridge 87 = .ok (.iconst 0, 1) := by decide +kernel
theorem dX11_bridge_88 : decode cX11_bridge 88 = .ok (.invokevirtual 259, 3) := by decide +kernel
theorem dX11_bridge_91 : decode cX11_bridge 91 = .ok (.aload_n 0, 1) := by decide +kernel
theorem dX11_bridge_92 : decode cX11_bridge 92 = .ok (.getfield 31, 3) := by decide +kernel
theorem dX11_bridge_95 : decode cX11_bridge 95 = .ok (.iconst 0, 1) := by decide +kernel
theorem dX11_bridge_96 : decode cX11_bridge 96 = .ok (.iaload, 1) := by decide +kernel
theorem dX11_bridge_97 : decode cX11_bridge 97 = .ok (.ireturn, 1) := by decide +kernel
theorem dX11_bridge_82 : decode cX11_bridge 82 = .ok (.bipush (-4), 2) := by decide +kernel
theorem dX11_bridge_84 : decode cX11_bridge 84 = .ok (.ireturn, 1) := by decide +kernel
theorem dX11_bridge_58 : decode cX11_bridge 58 = .ok (.aload_n 0, 1) := by decide +kernel
theorem dX11_bridge_59 : decode cX11_bridge 59 = .ok (.getfield 31, 3) := by decide +kernel
theorem dX11_bridge_62 : decode cX11_bridge 62 = .ok (.iconst 4, 1) := by decide +kernel
theorem dX11_bridge_63 : decode cX11_bridge 63 = .ok (.dup2, 1) := by decide +kernel
theorem dX11_bridge_64 : decode cX11_bridge 64 = .ok (.iaload, 1) := by decide +kernel
theorem dX11_bridge_65 : decode cX11_bridge 65 = .ok (.iconst 1, 1) := by decide +kernel
theorem dX11_bridge_66 : decode cX11_bridge 66 = .ok (.iadd, 1) := by decide +kernel
theorem dX11_bridge_67 : decode cX11_bridge 67 = .ok (.iastore, 1) := by decide +kernel
theorem dX11_bridge_68 : decode cX11_bridge 68 = .ok (.goto (-55), 3) := by decide +kernel
theorem dX11_bridge_47 : decode cX11_bridge 47 = .ok (.aload_n 0, 1) := by decide +kernel
theorem dX11_bridge_48 : decode cX11_bridge 48 = .ok (.invokevirtual 243, 3) := by decide +kernel
theorem dX11_bridge_51 : decode cX11_bridge 51 = .ok (.ifCond .eq 7, 3) := by decide +kernel
theorem dX11_bridge_54 : decode cX11_bridge 54 = .ok (.aload_n 0, 1) := by decide +kernel
theorem dX11_bridge_55 : decode cX11_bridge 55 = .ok (.invokevirtual 253, 3) := by decide +kernel
theorem dX11_bridge_13 : decode cX11_bridge 13 = .ok (.aload_n 0, 1) := by decide +kernel
theorem dX11_bridge_14 : decode cX11_bridge 14 = .ok (.invokevirtual 243, 3) := by decide +kernel
theorem dX11_bridge_17 : decode cX11_bridge 17 = .ok (.ifCond .eq 54, 3) := by decide +kernel
theorem dX11_bridge_20 : decode cX11_bridge 20 = .ok (.aload_n 0, 1) := by decide +kernel
theorem dX11_bridge_21 : decode cX11_bridge 21 = .ok (.getfield 139, 3) := by decide +kernel
theorem dX11_bridge_24 : decode cX11_bridge 24 = .ok (.ifCond .eq 47, 3) := by decide +kernel
theorem dX11_bridge_27 : decode cX11_bridge 27 = .ok (.aload_n 0, 1) := by decide +kernel
theorem dX11_bridge_28 : decode cX11_bridge 28 = .ok (.getfield 31, 3) := by decide +kernel
theorem dX11_bridge_31 : decode cX11_bridge 31 = .ok (.iconst 4, 1) := by decide +kernel
theorem dX11_bridge_32 : decode cX11_bridge 32 = .ok (.iaload, 1) := by decide +kernel
theorem dX11_bridge_33 : decode cX11_bridge 33 = .ok (.ifCond .ne 10, 3) := by decide +kernel
theorem dX11_bridge_43 : decode cX11_bridge 43 = .ok (.aload_n 0, 1) := by decide +kernel
theorem dX11_bridge_44 : decode cX11_bridge 44 = .ok (.invokevirtual 250, 3) := by decide +kernel
theorem dX11_bridge_36 : decode cX11_bridge 36 = .ok (.aload_n 0, 1) := by decide +kernel
theorem dX11_bridge_37 : decode cX11_bridge 37 = .ok (.invokevirtual 247, 3) := by decide +kernel
theorem dX11_bridge_40 : decode cX11_bridge 40 = .ok (.goto 7, 3) := by decide +kernel
theorem dX11_bridge_0 : decode cX11_bridge 0 = .ok (.aload_n 0, 1) := by decide +kernel
theorem dX11_bridge_1 : decode cX11_bridge 1 = .ok (.iconst 0, 1) := by decide +kernel
theorem dX11_bridge_2 : decode cX11_bridge 2 = .ok (.putfield 98, 3) := by decide +kernel
theorem dX11_bridge_5 : decode cX11_bridge 5 = .ok (.aload_n 0, 1) := by decide +kernel
theorem dX11_bridge_6 : decode cX11_bridge 6 = .ok (.invokevirtual 237, 3) := by decide +kernel
theorem dX11_bridge_9 : decode cX11_bridge 9 = .ok (.aload_n 0, 1) := by decide +kernel
theorem dX11_bridge_10 : decode cX11_bridge 10 = .ok (.invokevirtual 240, 3) := by decide +kernel
def FX11_bridge_71   (f : Mm) : Option (Int × Mm) := ((FX11_isOver f).bind fun f1 => (if (f1 150 12) = 0 then ((FX11_copyBridge 4 0 f1).bind fun f2 => some ((f2 156 0), f2)) else some ((-4), f1)))
set_option maxHeartbeats 4000000 in
set_option maxRecDepth 100000 in
theorem SX11_bridge_71 {G : GT} {l : Launch} {Q : Option AV → Mem → Prop}   (f : Mm) (h : OkI Q (FX11_bridge_71   f)) : Ev G l MX11_bridge (Rm 8 0 0) (ZM G Q 0 0) 0 0 71 [some (vR 150)] [] (SH, RF, f) := by
  unfold FX11_bridge_71 at h
  refine ev_aload_n (i := 0) dX11_bridge_71 rfl rfl ?_
  refine ev_cVV (b := 150) (av := []) (S := []) (fun q => q) h dX11_bridge_72 (fun Q' q => TX11_isOver _ q) kvX11_isOver ml_X11_256 sh_150 rfl (RRc (by decide) (by decide)) (Nat.le_of_ble_eq_true rfl) ⟨Nat.le_of_ble_eq_true rfl, Nat.le_of_ble_eq_true rfl⟩ (fun f1 h => ?_)
  refine ev_aload_n (i := 0) dX11_bridge_75 rfl rfl ?_
  refine ex_getI (x := (f1 150 12)) dX11_bridge_76 fl_X11_150 sh_150 (by decide) (by decide) rfl ?_
  refine ev_if_eq (tgt := 85) dX11_bridge_79 (by decide) (fun c3 => ?_) (fun c3 => ?_)
  · rw [if_pos c3] at h
    refine ev_aload_n (i := 0) dX11_bridge_85 rfl rfl ?_
    refine ev_iconst dX11_bridge_86 (r32c rfl) ?_
    refine ev_iconst dX11_bridge_87 (r32c rfl) ?_
    refine ev_cVV (b := 150) (av := [vI 4, vI 0]) (S := []) (fun q => q) h dX11_bridge_88 (fun Q' q => TX11_copyBridge 4 0 _ q) kvX11_copyBridge ml_X11_259 sh_150 rfl (RRc (by decide) (by decide)) (Nat.le_of_ble_eq_true rfl) ⟨Nat.le_of_ble_eq_true rfl, Nat.le_of_ble_eq_true rfl⟩ (fun f2 h => ?_)
    refine ev_aload_n (i := 0) dX11_bridge_91 rfl rfl ?_
    refine ev_getR dX11_bridge_92 fl_X11_31 sh_150 (by decide) (by decide) rf_150_16 ?_
    refine ev_iconst dX11_bridge_95 (r32c rfl) ?_
    refine ex_iald (x := (f2 156 0)) dX11_bridge_96 sh_156 (by decide) (by decide) rfl ?_
    exact ev_iret rfl dX11_bridge_97 h
  · rw [if_neg c3] at h
    refine ev_bipush (v := (-4)) dX11_bridge_82 (r32c rfl) (by decide) ?_
    exact ev_iret rfl dX11_bridge_84 h
def FX11_bridge_58 (k13 : Mm → Option (Int × Mm))  (f : Mm) : Option (Int × Mm) := k13 (up f 156 4 (w32 ((f 156 4) + 1)))
set_option maxHeartbeats 4000000 in
set_option maxRecDepth 100000 in
theorem SX11_bridge_58 {G : GT} {l : Launch} {Q : Option AV → Mem → Prop} {k13 : Mm → Option (Int × Mm)} (q13 : ∀  (f : Mm), OkI Q (k13  f) → Ev G l MX11_bridge (Rm 8 0 0) (ZM G Q 0 0) 0 0 13 [some (vR 150)] [] (SH, RF, f))  (f : Mm) (h : OkI Q (FX11_bridge_58 k13  f)) : Ev G l MX11_bridge (Rm 8 0 0) (ZM G Q 0 0) 0 0 58 [some (vR 150)] [] (SH, RF, f) := by
  unfold FX11_bridge_58 at h
  refine ev_aload_n (i := 0) dX11_bridge_58 rfl rfl ?_
  refine ev_getR dX11_bridge_59 fl_X11_31 sh_150 (by decide) (by decide) rf_150_16 ?_
  refine ev_iconst dX11_bridge_62 (r32c rfl) ?_
  refine ev_dup2IR dX11_bridge_63 ?_
  refine ex_iald (x := (f 156 4)) dX11_bridge_64 sh_156 (by decide) (by decide) rfl ?_
  refine ev_iconst dX11_bridge_65 (r32c rfl) ?_
  refine ev_iadd dX11_bridge_66 ?_
  refine ex_iast (j := 4) dX11_bridge_67 sh_156 (by decide) (by decide) rfl ?_
  refine ev_goto (tgt := 13) dX11_bridge_68 (by decide) ?_
  exact q13  _ h
def FX11_bridge_47 (k13 : Mm → Option (Int × Mm))  (f : Mm) : Option (Int × Mm) := (b2 (FX11_isGood f) fun y1 f1 => (if y1 = 0 then FX11_bridge_58 k13 f1 else ((FX11_ends f1).bind fun f2 => FX11_bridge_58 k13 f2)))
set_option maxHeartbeats 4000000 in
set_option maxRecDepth 100000 in
theorem SX11_bridge_47 {G : GT} {l : Launch} {Q : Option AV → Mem → Prop} {k13 : Mm → Option (Int × Mm)} (q13 : ∀  (f : Mm), OkI Q (k13  f) → Ev G l MX11_bridge (Rm 8 0 0) (ZM G Q 0 0) 0 0 13 [some (vR 150)] [] (SH, RF, f))  (f : Mm) (h : OkI Q (FX11_bridge_47 k13  f)) : Ev G l MX11_bridge (Rm 8 0 0) (ZM G Q 0 0) 0 0 47 [some (vR 150)] [] (SH, RF, f) := by
  unfold FX11_bridge_47 at h
  refine ev_aload_n (i := 0) dX11_bridge_47 rfl rfl ?_
  refine ev_cVI (b := 150) (av := []) (S := []) (fun q => q) h dX11_bridge_48 (fun Q' q => TX11_isGood _ q) kvX11_isGood ml_X11_243 sh_150 rfl (RRc (by decide) (by decide)) (Nat.le_of_ble_eq_true rfl) ⟨Nat.le_of_ble_eq_true rfl, Nat.le_of_ble_eq_true rfl⟩ (fun y1 f1 h => ?_)
  refine ev_if_eq (tgt := 58) dX11_bridge_51 (by decide) (fun c3 => ?_) (fun c3 => ?_)
  · rw [if_pos c3] at h
    exact SX11_bridge_58 q13  _ h
  · rw [if_neg c3] at h
    refine ev_aload_n (i := 0) dX11_bridge_54 rfl rfl ?_
    refine ev_cVV (b := 150) (av := []) (S := []) (fun q => q) h dX11_bridge_55 (fun Q' q => TX11_ends _ q) kvX11_ends ml_X11_253 sh_150 rfl (RRc (by decide) (by decide)) (Nat.le_of_ble_eq_true rfl) ⟨Nat.le_of_ble_eq_true rfl, Nat.le_of_ble_eq_true rfl⟩ (fun f2 h => ?_)
    exact SX11_bridge_58 q13  _ h
def FX11_bridge_13  : Nat → Mm → Option (Int × Mm)
  | 0, _ => none
  | n + 1, f => (b2 (FX11_isGood f) fun y1 f1 => (if y1 = 0 then FX11_bridge_71 f1 else (if (f1 150 8) = 0 then FX11_bridge_71 f1 else (if (f1 156 4) = 0 then ((FX11_bridgeLine f1).bind fun f3 => FX11_bridge_47 (FX11_bridge_13 n) f3) else ((FX11_lineHere f1).bind fun f2 => FX11_bridge_47 (FX11_bridge_13 n) f2)))))
set_option maxHeartbeats 4000000 in
set_option maxRecDepth 100000 in
theorem SX11_bridge_13 {G : GT} {l : Launch} {Q : Option AV → Mem → Prop}  : ∀ (n : Nat)  (f : Mm), OkI Q (FX11_bridge_13  n  f) → Ev G l MX11_bridge (Rm 8 0 0) (ZM G Q 0 0) 0 0 13 [some (vR 150)] [] (SH, RF, f) := by
  intro n
  induction n with
  | zero => intro  f h; exact absurd h (by rw [FX11_bridge_13]; exact fun q => q)
  | succ n ih =>
    intro  f h
    rw [FX11_bridge_13] at h
    refine ev_aload_n (i := 0) dX11_bridge_13 rfl rfl ?_
    refine ev_cVI (b := 150) (av := []) (S := []) (fun q => q) h dX11_bridge_14 (fun Q' q => TX11_isGood _ q) kvX11_isGood ml_X11_243 sh_150 rfl (RRc (by decide) (by decide)) (Nat.le_of_ble_eq_true rfl) ⟨Nat.le_of_ble_eq_true rfl, Nat.le_of_ble_eq_true rfl⟩ (fun y1 f1 h => ?_)
    refine ev_if_eq (tgt := 71) dX11_bridge_17 (by decide) (fun c6 => ?_) (fun c6 => ?_)
    · rw [if_pos c6] at h
      exact SX11_bridge_71   _ h
    · rw [if_neg c6] at h
      refine ev_aload_n (i := 0) dX11_bridge_20 rfl rfl ?_
      refine ex_getI (x := (f1 150 8)) dX11_bridge_21 fl_X11_139 sh_150 (by decide) (by decide) rfl ?_
      refine ev_if_eq (tgt := 71) dX11_bridge_24 (by decide) (fun c5 => ?_) (fun c5 => ?_)
      · rw [if_pos c5] at h
        exact SX11_bridge_71   _ h
      · rw [if_neg c5] at h
        refine ev_aload_n (i := 0) dX11_bridge_27 rfl rfl ?_
        refine ev_getR dX11_bridge_28 fl_X11_31 sh_150 (by decide) (by decide) rf_150_16 ?_
        refine ev_iconst dX11_bridge_31 (r32c rfl) ?_
        refine ex_iald (x := (f1 156 4)) dX11_bridge_32 sh_156 (by decide) (by decide) rfl ?_
        refine ev_if_ne (tgt := 43) dX11_bridge_33 (by decide) (fun c4 => ?_) (fun c4 => ?_)
        · rw [if_neg c4] at h
          refine ev_aload_n (i := 0) dX11_bridge_43 rfl rfl ?_
          refine ev_cVV (b := 150) (av := []) (S := []) (fun q => q) h dX11_bridge_44 (fun Q' q => TX11_lineHere _ q) kvX11_lineHere ml_X11_250 sh_150 rfl (RRc (by decide) (by decide)) (Nat.le_of_ble_eq_true rfl) ⟨Nat.le_of_ble_eq_true rfl, Nat.le_of_ble_eq_true rfl⟩ (fun f2 h => ?_)
          exact SX11_bridge_47 ih  _ h
        · rw [if_pos c4] at h
          refine ev_aload_n (i := 0) dX11_bridge_36 rfl rfl ?_
          refine ev_cVV (b := 150) (av := []) (S := []) (fun q => q) h dX11_bridge_37 (fun Q' q => TX11_bridgeLine _ q) kvX11_bridgeLine ml_X11_247 sh_150 rfl (RRc (by decide) (by decide)) (Nat.le_of_ble_eq_true rfl) ⟨Nat.le_of_ble_eq_true rfl, Nat.le_of_ble_eq_true rfl⟩ (fun f3 h => ?_)
          refine ev_goto (tgt := 47) dX11_bridge_40 (by decide) ?_
          exact SX11_bridge_47 ih  _ h
def FX11_bridge_0   (f : Mm) : Option (Int × Mm) := ((FX11_clears (up f 150 0 0)).bind fun f1 => ((FX11_begins f1).bind fun f2 => FX11_bridge_13 fu f2))
set_option maxHeartbeats 4000000 in
set_option maxRecDepth 100000 in
theorem SX11_bridge_0 {G : GT} {l : Launch} {Q : Option AV → Mem → Prop}   (f : Mm) (h : OkI Q (FX11_bridge_0   f)) : Ev G l MX11_bridge (Rm 8 0 0) (ZM G Q 0 0) 0 0 0 [some (vR 150)] [] (SH, RF, f) := by
  unfold FX11_bridge_0 at h
  refine ev_aload_n (i := 0) dX11_bridge_0 rfl rfl ?_
  refine ev_iconst dX11_bridge_1 (r32c rfl) ?_
  refine ev_putI dX11_bridge_2 fl_X11_98 sh_150 (by decide) (by decide) ?_
  refine ev_aload_n (i := 0) dX11_bridge_5 rfl rfl ?_
  refine ev_cVV (b := 150) (av := []) (S := []) (fun q => q) h dX11_bridge_6 (fun Q' q => TX11_clears _ q) kvX11_clears ml_X11_237 sh_150 rfl (RRc (by decide) (by decide)) (Nat.le_of_ble_eq_true rfl) ⟨Nat.le_of_ble_eq_true rfl, Nat.le_of_ble_eq_true rfl⟩ (fun f1 h => ?_)
  refine ev_aload_n (i := 0) dX11_bridge_9 rfl rfl ?_
  refine ev_cVV (b := 150) (av := []) (S := []) (fun q => q) h dX11_bridge_10 (fun Q' q => TX11_begins _ q) kvX11_begins ml_X11_240 sh_150 rfl (RRc (by decide) (by decide)) (Nat.le_of_ble_eq_true rfl) ⟨Nat.le_of_ble_eq_true rfl, Nat.le_of_ble_eq_true rfl⟩ (fun f2 h => ?_)
  exact SX11_bridge_13  fu  _ h
def FX11_bridge  (f : Mm) : Option (Int × Mm) := FX11_bridge_0  f
set_option maxRecDepth 100000 in
theorem TX11_bridge {G : GT} {l : Launch} {Q : Option AV → Mem → Prop}  (f : Mm) (h : OkI Q (FX11_bridge  f)) : Ret G l MX11_bridge (8) 0 0 [vR 150] (SH, RF, f) Q := by
  refine ret_of (L := [some (vR 150)]) (by decide) rfl (Nat.le_of_ble_eq_true rfl) ?_
  exact SX11_bridge_0  f h
theorem dX11_isBridge_0 : decode cX11_isBridge 0 = .ok (.aload_n 0, 1) := by decide +kernel
theorem dX11_isBridge_1 : decode cX11_isBridge 1 = .ok (.getfield 31, 3) := by decide +kernel
theorem dX11_isBridge_4 : decode cX11_isBridge 4 = .ok (.iconst 0, 1) := by decide +kernel
theorem dX11_isBridge_5 : decode cX11_isBridge 5 = .ok (.iaload, 1) := by decide +kernel
theorem dX11_isBridge_6 : decode cX11_isBridge 6 = .ok (.ifCond .le 7, 3) := by decide +kernel
theorem dX11_isBridge_13 : decode cX11_isBridge 13 = .ok (.iconst 0, 1) := by decide +kernel
theorem dX11_isBridge_14 : decode cX11_isBridge 14 = .ok (.ireturn, 1) := by decide +kernel
theorem dX11_isBridge_9 : decode cX11_isBridge 9 = .ok (.iconst 1, 1) := by decide +kernel
theorem dX11_isBridge_10 : decode cX11_isBridge 10 = .ok (.goto 4, 3) := by decide +kernel
def FX11_isBridge_0   (f : Mm) : Option (Int × Mm) := (if (f 156 0) ≤ 0 then some (0, f) else some (1, f))
set_option maxHeartbeats 4000000 in
set_option maxRecDepth 100000 in
theorem SX11_isBridge_0 {G : GT} {l : Launch} {Q : Option AV → Mem → Prop}   (f : Mm) (h : OkI Q (FX11_isBridge_0   f)) : Ev G l MX11_isBridge (Rm 1 0 0) (ZM G Q 0 0) 0 0 0 [some (vR 150)] [] (SH, RF, f) := by
  unfold FX11_isBridge_0 at h
  refine ev_aload_n (i := 0) dX11_isBridge_0 rfl rfl ?_
  refine ev_getR dX11_isBridge_1 fl_X11_31 sh_150 (by decide) (by decide) rf_150_16 ?_
  refine ev_iconst dX11_isBridge_4 (r32c rfl) ?_
  refine ex_iald (x := (f 156 0)) dX11_isBridge_5 sh_156 (by decide) (by decide) rfl ?_
  refine ev_if_le (tgt := 13) dX11_isBridge_6 (by decide) (fun c1 => ?_) (fun c1 => ?_)
  · rw [if_pos c1] at h
    refine ev_iconst dX11_isBridge_13 (r32c rfl) ?_
    exact ev_zret rfl (by decide) dX11_isBridge_14 h
  · rw [if_neg c1] at h
    refine ev_iconst dX11_isBridge_9 (r32c rfl) ?_
    refine ev_goto (tgt := 14) dX11_isBridge_10 (by decide) ?_
    exact ev_zret rfl (by decide) dX11_isBridge_14 h
def FX11_isBridge  (f : Mm) : Option (Int × Mm) := FX11_isBridge_0  f
set_option maxRecDepth 100000 in
theorem TX11_isBridge {G : GT} {l : Launch} {Q : Option AV → Mem → Prop}  (f : Mm) (h : OkI Q (FX11_isBridge  f)) : Ret G l MX11_isBridge (1) 0 0 [vR 150] (SH, RF, f) Q := by
  refine ret_of (L := [some (vR 150)]) (by decide) rfl (Nat.le_of_ble_eq_true rfl) ?_
  exact SX11_isBridge_0  f h
theorem dX11_days_0 : decode cX11_days 0 = .ok (.aload_n 0, 1) := by decide +kernel
theorem dX11_days_1 : decode cX11_days 1 = .ok (.getfield 34, 3) := by decide +kernel
theorem dX11_days_4 : decode cX11_days 4 = .ok (.iconst 0, 1) := by decide +kernel
theorem dX11_days_5 : decode cX11_days 5 = .ok (.iaload, 1) := by decide +kernel
theorem dX11_days_6 : decode cX11_days 6 = .ok (.ireturn, 1) := by decide +kernel
def FX11_days_0   (f : Mm) : Option (Int × Mm) := some ((f 157 0), f)
set_option maxHeartbeats 4000000 in
set_option maxRecDepth 100000 in
theorem SX11_days_0 {G : GT} {l : Launch} {Q : Option AV → Mem → Prop}   (f : Mm) (h : OkI Q (FX11_days_0   f)) : Ev G l MX11_days (Rm 1 0 0) (ZM G Q 0 0) 0 0 0 [some (vR 150)] [] (SH, RF, f) := by
  unfold FX11_days_0 at h
  refine ev_aload_n (i := 0) dX11_days_0 rfl rfl ?_
  refine ev_getR dX11_days_1 fl_X11_34 sh_150 (by decide) (by decide) rf_150_17 ?_
  refine ev_iconst dX11_days_4 (r32c rfl) ?_
  refine ex_iald (x := (f 157 0)) dX11_days_5 sh_157 (by decide) (by decide) rfl ?_
  exact ev_iret rfl dX11_days_6 h
def FX11_days  (f : Mm) : Option (Int × Mm) := FX11_days_0  f
set_option maxRecDepth 100000 in
theorem TX11_days {G : GT} {l : Launch} {Q : Option AV → Mem → Prop}  (f : Mm) (h : OkI Q (FX11_days  f)) : Ret G l MX11_days (1) 0 0 [vR 150] (SH, RF, f) Q := by
  refine ret_of (L := [some (vR 150)]) (by decide) rfl (Nat.le_of_ble_eq_true rfl) ?_
  exact SX11_days_0  f h
theorem dX11_carts_0 : decode cX11_carts 0 = .ok (.aload_n 0, 1) := by decide +kernel
theorem dX11_carts_1 : decode cX11_carts 1 = .ok (.getfield 34, 3) := by decide +kernel
theorem dX11_carts_4 : decode cX11_carts 4 = .ok (.bipush 6, 2) := by decide +kernel
theorem dX11_carts_6 : decode cX11_carts 6 = .ok (.iaload, 1) := by decide +kernel
theorem dX11_carts_7 : decode cX11_carts 7 = .ok (.ireturn, 1) := by decide +kernel
def FX11_carts_0   (f : Mm) : Option (Int × Mm) := some ((f 157 6), f)
set_option maxHeartbeats 4000000 in
set_option maxRecDepth 100000 in
theorem SX11_carts_0 {G : GT} {l : Launch} {Q : Option AV → Mem → Prop}   (f : Mm) (h : OkI Q (FX11_carts_0   f)) : Ev G l MX11_carts (Rm 1 0 0) (ZM G Q 0 0) 0 0 0 [some (vR 150)] [] (SH, RF, f) := by
  unfold FX11_carts_0 at h
  refine ev_aload_n (i := 0) dX11_carts_0 rfl rfl ?_
  refine ev_getR dX11_carts_1 fl_X11_34 sh_150 (by decide) (by decide) rf_150_17 ?_
  refine ev_bipush (v := 6) dX11_carts_4 (r32c rfl) (by decide) ?_
  refine ex_iald (x := (f 157 6)) dX11_carts_6 sh_157 (by decide) (by decide) rfl ?_
  exact ev_iret rfl dX11_carts_7 h
def FX11_carts  (f : Mm) : Option (Int × Mm) := FX11_carts_0  f
set_option maxRecDepth 100000 in
theorem TX11_carts {G : GT} {l : Launch} {Q : Option AV → Mem → Prop}  (f : Mm) (h : OkI Q (FX11_carts  f)) : Ret G l MX11_carts (1) 0 0 [vR 150] (SH, RF, f) Q := by
  refine ret_of (L := [some (vR 150)]) (by decide) rfl (Nat.le_of_ble_eq_true rfl) ?_
  exact SX11_carts_0  f h
theorem dX11_isDay_0 : decode cX11_isDay 0 = .ok (.lload_n 1, 1) := by decide +kernel
theorem dX11_isDay_1 : decode cX11_isDay 1 = .ok (.lconst 0, 1) := by decide +kernel
theorem dX11_isDay_2 : decode cX11_isDay 2 = .ok (.aload_n 0, 1) := by decide +kernel
theorem dX11_isDay_3 : decode cX11_isDay 3 = .ok (.invokevirtual 266, 3) := by decide +kernel
theorem dX11_isDay_6 : decode cX11_isDay 6 = .ok (.i2l, 1) := by decide +kernel
theorem dX11_isDay_7 : decode cX11_isDay 7 = .ok (.lconst 1, 1) := by decide +kernel
theorem dX11_isDay_8 : decode cX11_isDay 8 = .ok (.lsub, 1) := by decide +kernel
theorem dX11_isDay_9 : decode cX11_isDay 9 = .ok (.invokestatic 103, 3) := by decide +kernel
theorem dX11_isDay_12 : decode cX11_isDay 12 = .ok (.ireturn, 1) := by decide +kernel
def FX11_isDay_0  (x1 : Int) (f : Mm) : Option (Int × Mm) := (b2 (FX11_days f) fun y1 f1 => (b2 (FX11_in x1 0 (w64 (y1 - 1)) f1) fun y2 f2 => (if y2 = 0 ∨ y2 = 1 then some (y2, f2) else none)))
set_option maxHeartbeats 4000000 in
set_option maxRecDepth 100000 in
theorem SX11_isDay_0 {G : GT} {l : Launch} {Q : Option AV → Mem → Prop}  (x1 : Int) (f : Mm) (h : OkI Q (FX11_isDay_0  x1 f)) : Ev G l MX11_isDay (Rm 2 0 0) (ZM G Q 0 0) 0 0 0 [some (vR 150), some (vJ x1), none] [] (SH, RF, f) := by
  unfold FX11_isDay_0 at h
  refine ev_lload_n (i := 1) dX11_isDay_0 rfl rfl ?_
  refine ev_lconst (v := 0) dX11_isDay_1 (r64c rfl) (by decide) ?_
  refine ev_aload_n (i := 0) dX11_isDay_2 rfl rfl ?_
  refine ev_cVI (b := 150) (av := []) (S := [vJ 0, vJ x1]) (fun q => q) h dX11_isDay_3 (fun Q' q => TX11_days _ q) kvX11_days ml_X11_266 sh_150 rfl (RRc (by decide) (by decide)) (Nat.le_of_ble_eq_true rfl) ⟨Nat.le_of_ble_eq_true rfl, Nat.le_of_ble_eq_true rfl⟩ (fun y1 f1 h => ?_)
  refine ev_i2l dX11_isDay_6 ?_
  refine ev_lconst (v := 1) dX11_isDay_7 (r64c rfl) (by decide) ?_
  refine ev_lsub dX11_isDay_8 ?_
  refine ev_cSI (av := [vJ x1, vJ 0, vJ (w64 (y1 - 1))]) (S := []) (fun q => q) h dX11_isDay_9 (fun Q' q => TX11_in x1 0 (w64 (y1 - 1)) _ q) ksX11_in ml_X11_103 rfl (RRc (by decide) (by decide)) (Nat.le_of_ble_eq_true rfl) ⟨Nat.le_of_ble_eq_true rfl, Nat.le_of_ble_eq_true rfl⟩ (fun y2 f2 h => ?_)
  by_cases g3 : y2 = 0 ∨ y2 = 1
  · rw [if_pos g3] at h
    exact ev_zret rfl g3 dX11_isDay_12 h
  · rw [if_neg g3] at h; exact h.elim
def FX11_isDay (x1 : Int) (f : Mm) : Option (Int × Mm) := FX11_isDay_0 x1 f
set_option maxRecDepth 100000 in
theorem TX11_isDay {G : GT} {l : Launch} {Q : Option AV → Mem → Prop} (x1 : Int) (f : Mm) (h : OkI Q (FX11_isDay x1 f)) : Ret G l MX11_isDay (2) 0 0 [vR 150, vJ x1] (SH, RF, f) Q := by
  refine ret_of (L := [some (vR 150), some (vJ x1), none]) (by decide) rfl (Nat.le_of_ble_eq_true rfl) ?_
  exact SX11_isDay_0 x1 f h
theorem dX11_isDeed_0 : decode cX11_isDeed 0 = .ok (.iload_n 1, 1) := by decide +kernel
theorem dX11_isDeed_1 : decode cX11_isDeed 1 = .ok (.i2l, 1) := by decide +kernel
theorem dX11_isDeed_2 : decode cX11_isDeed 2 = .ok (.lconst 0, 1) := by decide +kernel
theorem dX11_isDeed_3 : decode cX11_isDeed 3 = .ok (.aload_n 0, 1) := by decide +kernel
theorem dX11_isDeed_4 : decode cX11_isDeed 4 = .ok (.getfield 34, 3) := by decide +kernel
theorem dX11_isDeed_7 : decode cX11_isDeed 7 = .ok (.iconst 5, 1) := by decide +kernel
theorem dX11_isDeed_8 : decode cX11_isDeed 8 = .ok (.iaload, 1) := by decide +kernel
theorem dX11_isDeed_9 : decode cX11_isDeed 9 = .ok (.iconst 1, 1) := by decide +kernel
theorem dX11_isDeed_10 : decode cX11_isDeed 10 = .ok (.isub, 1) := by decide +kernel
theorem dX11_isDeed_11 : decode cX11_isDeed 11 = .ok (.i2l, 1) := by decide +kernel
theorem dX11_isDeed_12 : decode cX11_isDeed 12 = .ok (.invokestatic 103, 3) := by decide +kernel
theorem dX11_isDeed_15 : decode cX11_isDeed 15 = .ok (.ireturn, 1) := by decide +kernel
def FX11_isDeed_0  (x1 : Int) (f : Mm) : Option (Int × Mm) := (b2 (FX11_in x1 0 (w32 ((f 157 5) - 1)) f) fun y1 f1 => (if y1 = 0 ∨ y1 = 1 then some (y1, f1) else none))
set_option maxHeartbeats 4000000 in
set_option maxRecDepth 100000 in
theorem SX11_isDeed_0 {G : GT} {l : Launch} {Q : Option AV → Mem → Prop}  (x1 : Int) (f : Mm) (h : OkI Q (FX11_isDeed_0  x1 f)) : Ev G l MX11_isDeed (Rm 2 0 0) (ZM G Q 0 0) 0 0 0 [some (vR 150), some (vI x1)] [] (SH, RF, f) := by
  unfold FX11_isDeed_0 at h
  refine ev_iload_n (i := 1) dX11_isDeed_0 rfl rfl ?_
  refine ev_i2l dX11_isDeed_1 ?_
  refine ev_lconst (v := 0) dX11_isDeed_2 (r64c rfl) (by decide) ?_
  refine ev_aload_n (i := 0) dX11_isDeed_3 rfl rfl ?_
  refine ev_getR dX11_isDeed_4 fl_X11_34 sh_150 (by decide) (by decide) rf_150_17 ?_
  refine ev_iconst dX11_isDeed_7 (r32c rfl) ?_
  refine ex_iald (x := (f 157 5)) dX11_isDeed_8 sh_157 (by decide) (by decide) rfl ?_
  refine ev_iconst dX11_isDeed_9 (r32c rfl) ?_
  refine ev_isub dX11_isDeed_10 ?_
  refine ev_i2l dX11_isDeed_11 ?_
  refine ev_cSI (av := [vJ x1, vJ 0, vJ (w32 ((f 157 5) - 1))]) (S := []) (fun q => q) h dX11_isDeed_12 (fun Q' q => TX11_in x1 0 (w32 ((f 157 5) - 1)) _ q) ksX11_in ml_X11_103 rfl (RRc (by decide) (by decide)) (Nat.le_of_ble_eq_true rfl) ⟨Nat.le_of_ble_eq_true rfl, Nat.le_of_ble_eq_true rfl⟩ (fun y1 f1 h => ?_)
  by_cases g2 : y1 = 0 ∨ y1 = 1
  · rw [if_pos g2] at h
    exact ev_zret rfl g2 dX11_isDeed_15 h
  · rw [if_neg g2] at h; exact h.elim
def FX11_isDeed (x1 : Int) (f : Mm) : Option (Int × Mm) := FX11_isDeed_0 x1 f
set_option maxRecDepth 100000 in
theorem TX11_isDeed {G : GT} {l : Launch} {Q : Option AV → Mem → Prop} (x1 : Int) (f : Mm) (h : OkI Q (FX11_isDeed x1 f)) : Ret G l MX11_isDeed (2) 0 0 [vR 150, vI x1] (SH, RF, f) Q := by
  refine ret_of (L := [some (vR 150), some (vI x1)]) (by decide) rfl (Nat.le_of_ble_eq_true rfl) ?_
  exact SX11_isDeed_0 x1 f h
theorem dX11_isCart_0 : decode cX11_isCart 0 = .ok (.iload_n 1, 1) := by decide +kernel
theorem dX11_isCart_1 : decode cX11_isCart 1 = .ok (.i2l, 1) := by decide +kernel
theorem dX11_isCart_2 : decode cX11_isCart 2 = .ok (.lconst 0, 1) := by decide +kernel
theorem dX11_isCart_3 : decode cX11_isCart 3 = .ok (.aload_n 0, 1) := by decide +kernel
theorem dX11_isCart_4 : decode cX11_isCart 4 = .ok (.invokevirtual 269, 3) := by decide +kernel
theorem dX11_isCart_7 : decode cX11_isCart 7 = .ok (.iconst 1, 1) := by decide +kernel
theorem dX11_isCart_8 : decode cX11_isCart 8 = .ok (.isub, 1) := by decide +kernel
theorem dX11_isCart_9 : decode cX11_isCart 9 = .ok (.i2l, 1) := by decide +kernel
theorem dX11_isCart_10 : decode cX11_isCart 10 = .ok (.invokestatic 103, 3) := by decide +kernel
theorem dX11_isCart_13 : decode cX11_isCart 13 = .ok (.ireturn, 1) := by decide +kernel
def FX11_isCart_0  (x1 : Int) (f : Mm) : Option (Int × Mm) := (b2 (FX11_carts f) fun y1 f1 => (b2 (FX11_in x1 0 (w32 (y1 - 1)) f1) fun y2 f2 => (if y2 = 0 ∨ y2 = 1 then some (y2, f2) else none)))
set_option maxHeartbeats 4000000 in
set_option maxRecDepth 100000 in
theorem SX11_isCart_0 {G : GT} {l : Launch} {Q : Option AV → Mem → Prop}  (x1 : Int) (f : Mm) (h : OkI Q (FX11_isCart_0  x1 f)) : Ev G l MX11_isCart (Rm 2 0 0) (ZM G Q 0 0) 0 0 0 [some (vR 150), some (vI x1)] [] (SH, RF, f) := by
  unfold FX11_isCart_0 at h
  refine ev_iload_n (i := 1) dX11_isCart_0 rfl rfl ?_
  refine ev_i2l dX11_isCart_1 ?_
  refine ev_lconst (v := 0) dX11_isCart_2 (r64c rfl) (by decide) ?_
  refine ev_aload_n (i := 0) dX11_isCart_3 rfl rfl ?_
  refine ev_cVI (b := 150) (av := []) (S := [vJ 0, vJ x1]) (fun q => q) h dX11_isCart_4 (fun Q' q => TX11_carts _ q) kvX11_carts ml_X11_269 sh_150 rfl (RRc (by decide) (by decide)) (Nat.le_of_ble_eq_true rfl) ⟨Nat.le_of_ble_eq_true rfl, Nat.le_of_ble_eq_true rfl⟩ (fun y1 f1 h => ?_)
  refine ev_iconst dX11_isCart_7 (r32c rfl) ?_
  refine ev_isub dX11_isCart_8 ?_
  refine ev_i2l dX11_isCart_9 ?_
  refine ev_cSI (av := [vJ x1, vJ 0, vJ (w32 (y1 - 1))]) (S := []) (fun q => q) h dX11_isCart_10 (fun Q' q => TX11_in x1 0 (w32 (y1 - 1)) _ q) ksX11_in ml_X11_103 rfl (RRc (by decide) (by decide)) (Nat.le_of_ble_eq_true rfl) ⟨Nat.le_of_ble_eq_true rfl, Nat.le_of_ble_eq_true rfl⟩ (fun y2 f2 h => ?_)
  by_cases g3 : y2 = 0 ∨ y2 = 1
  · rw [if_pos g3] at h
    exact ev_zret rfl g3 dX11_isCart_13 h
  · rw [if_neg g3] at h; exact h.elim
def FX11_isCart (x1 : Int) (f : Mm) : Option (Int × Mm) := FX11_isCart_0 x1 f
set_option maxRecDepth 100000 in
theorem TX11_isCart {G : GT} {l : Launch} {Q : Option AV → Mem → Prop} (x1 : Int) (f : Mm) (h : OkI Q (FX11_isCart x1 f)) : Ret G l MX11_isCart (2) 0 0 [vR 150, vI x1] (SH, RF, f) Q := by
  refine ret_of (L := [some (vR 150), some (vI x1)]) (by decide) rfl (Nat.le_of_ble_eq_true rfl) ?_
  exact SX11_isCart_0 x1 f h
theorem dX11_isWidth_0 : decode cX11_isWidth 0 = .ok (.aload_n 0, 1) := by decide +kernel
theorem dX11_isWidth_1 : decode cX11_isWidth 1 = .ok (.invokevirtual 272, 3) := by decide +kernel
theorem dX11_isWidth_4 : decode cX11_isWidth 4 = .ok (.ifCond .eq 19, 3) := by decide +kernel
theorem dX11_isWidth_23 : decode cX11_isWidth 23 = .ok (.iconst 0, 1) := by decide +kernel
theorem dX11_isWidth_24 : decode cX11_isWidth 24 = .ok (.ireturn, 1) := by decide +kernel
theorem dX11_isWidth_7 : decode cX11_isWidth 7 = .ok (.iload_n 1, 1) := by decide +kernel
theorem dX11_isWidth_8 : decode cX11_isWidth 8 = .ok (.i2l, 1) := by decide +kernel
theorem dX11_isWidth_9 : decode cX11_isWidth 9 = .ok (.lconst 0, 1) := by decide +kernel
theorem dX11_isWidth_10 : decode cX11_isWidth 10 = .ok (.ldc2_w 275, 3) := by decide +kernel
theorem dX11_isWidth_13 : decode cX11_isWidth 13 = .ok (.invokestatic 103, 3) := by decide +kernel
theorem dX11_isWidth_16 : decode cX11_isWidth 16 = .ok (.ifCond .eq 7, 3) := by decide +kernel
theorem dX11_isWidth_19 : decode cX11_isWidth 19 = .ok (.iconst 1, 1) := by decide +kernel
theorem dX11_isWidth_20 : decode cX11_isWidth 20 = .ok (.goto 4, 3) := by decide +kernel
def FX11_isWidth_0  (x1 : Int) (f : Mm) : Option (Int × Mm) := (b2 (FX11_isBridge f) fun y1 f1 => (if y1 = 0 then some (0, f1) else (b2 (FX11_in x1 0 60 f1) fun y2 f2 => (if y2 = 0 then some (0, f2) else some (1, f2)))))
set_option maxHeartbeats 4000000 in
set_option maxRecDepth 100000 in
theorem SX11_isWidth_0 {G : GT} {l : Launch} {Q : Option AV → Mem → Prop}  (x1 : Int) (f : Mm) (h : OkI Q (FX11_isWidth_0  x1 f)) : Ev G l MX11_isWidth (Rm 2 0 0) (ZM G Q 0 0) 0 0 0 [some (vR 150), some (vI x1)] [] (SH, RF, f) := by
  unfold FX11_isWidth_0 at h
  refine ev_aload_n (i := 0) dX11_isWidth_0 rfl rfl ?_
  refine ev_cVI (b := 150) (av := []) (S := []) (fun q => q) h dX11_isWidth_1 (fun Q' q => TX11_isBridge _ q) kvX11_isBridge ml_X11_272 sh_150 rfl (RRc (by decide) (by decide)) (Nat.le_of_ble_eq_true rfl) ⟨Nat.le_of_ble_eq_true rfl, Nat.le_of_ble_eq_true rfl⟩ (fun y1 f1 h => ?_)
  refine ev_if_eq (tgt := 23) dX11_isWidth_4 (by decide) (fun c4 => ?_) (fun c4 => ?_)
  · rw [if_pos c4] at h
    refine ev_iconst dX11_isWidth_23 (r32c rfl) ?_
    exact ev_zret rfl (by decide) dX11_isWidth_24 h
  · rw [if_neg c4] at h
    refine ev_iload_n (i := 1) dX11_isWidth_7 rfl rfl ?_
    refine ev_i2l dX11_isWidth_8 ?_
    refine ev_lconst (v := 0) dX11_isWidth_9 (r64c rfl) (by decide) ?_
    refine ev_ldc2 (v := 60) dX11_isWidth_10 (r64c rfl) kc_X11_275 ?_
    refine ev_cSI (av := [vJ x1, vJ 0, vJ 60]) (S := []) (fun q => q) h dX11_isWidth_13 (fun Q' q => TX11_in x1 0 60 _ q) ksX11_in ml_X11_103 rfl (RRc (by decide) (by decide)) (Nat.le_of_ble_eq_true rfl) ⟨Nat.le_of_ble_eq_true rfl, Nat.le_of_ble_eq_true rfl⟩ (fun y2 f2 h => ?_)
    refine ev_if_eq (tgt := 23) dX11_isWidth_16 (by decide) (fun c3 => ?_) (fun c3 => ?_)
    · rw [if_pos c3] at h
      refine ev_iconst dX11_isWidth_23 (r32c rfl) ?_
      exact ev_zret rfl (by decide) dX11_isWidth_24 h
    · rw [if_neg c3] at h
      refine ev_iconst dX11_isWidth_19 (r32c rfl) ?_
      refine ev_goto (tgt := 24) dX11_isWidth_20 (by decide) ?_
      exact ev_zret rfl (by decide) dX11_isWidth_24 h
def FX11_isWidth (x1 : Int) (f : Mm) : Option (Int × Mm) := FX11_isWidth_0 x1 f
set_option maxRecDepth 100000 in
theorem TX11_isWidth {G : GT} {l : Launch} {Q : Option AV → Mem → Prop} (x1 : Int) (f : Mm) (h : OkI Q (FX11_isWidth x1 f)) : Ret G l MX11_isWidth (2) 0 0 [vR 150, vI x1] (SH, RF, f) Q := by
  refine ret_of (L := [some (vR 150), some (vI x1)]) (by decide) rfl (Nat.le_of_ble_eq_true rfl) ?_
  exact SX11_isWidth_0 x1 f h
theorem dX11_lays_28 : decode cX11_lays 28 = .ok (.iload_n 1, 1) := by decide +kernel
theorem dX11_lays_29 : decode cX11_lays 29 = .ok (.aload_n 0, 1) := by decide +kernel
theorem dX11_lays_30 : decode cX11_lays 30 = .ok (.getfield 34, 3) := by decide +kernel
theorem dX11_lays_33 : decode cX11_lays 33 = .ok (.bipush 7, 2) := by decide +kernel
theorem dX11_lays_35 : decode cX11_lays 35 = .ok (.iaload, 1) := by decide +kernel
theorem dX11_lays_36 : decode cX11_lays 36 = .ok (.if_icmp .ge 32, 3) := by decide +kernel
theorem dX11_lays_68 : decode cX11_lays 68 = .ok (.return_, 1) := by decide +kernel
theorem dX11_lays_39 : decode cX11_lays 39 = .ok (.aload_n 0, 1) := by decide +kernel
theorem dX11_lays_40 : decode cX11_lays 40 = .ok (.getfield 50, 3) := by decide +kernel
theorem dX11_lays_43 : decode cX11_lays 43 = .ok (.aload_n 0, 1) := by decide +kernel
theorem dX11_lays_44 : decode cX11_lays 44 = .ok (.getfield 43, 3) := by decide +kernel
theorem dX11_lays_47 : decode cX11_lays 47 = .ok (.iconst 2, 1) := by decide +kernel
theorem dX11_lays_48 : decode cX11_lays 48 = .ok (.iload_n 1, 1) := by decide +kernel
theorem dX11_lays_49 : decode cX11_lays 49 = .ok (.imul, 1) := by decide +kernel
theorem dX11_lays_50 : decode cX11_lays 50 = .ok (.iaload, 1) := by decide +kernel
theorem dX11_lays_51 : decode cX11_lays 51 = .ok (.aload_n 0, 1) := by decide +kernel
theorem dX11_lays_52 : decode cX11_lays 52 = .ok (.getfield 43, 3) := by decide +kernel
theorem dX11_lays_55 : decode cX11_lays 55 = .ok (.iconst 2, 1) := by decide +kernel
theorem dX11_lays_56 : decode cX11_lays 56 = .ok (.iload_n 1, 1) := by decide +kernel
theorem dX11_lays_57 : decode cX11_lays 57 = .ok (.imul, 1) := by decide +kernel
theorem dX11_lays_58 : decode cX11_lays 58 = .ok (.iconst 1, 1) := by decide +kernel
theorem dX11_lays_59 : decode cX11_lays 59 = .ok (.iadd, 1) := by decide +kernel
theorem dX11_lays_60 : decode cX11_lays 60 = .ok (.iaload, 1) := by decide +kernel
theorem dX11_lays_61 : decode cX11_lays 61 = .ok (.iastore, 1) := by decide +kernel
theorem dX11_lays_62 : decode cX11_lays 62 = .ok (.iinc 1 1, 3) := by decide +kernel
theorem dX11_lays_65 : decode cX11_lays 65 = .ok (.goto (-37), 3) := by decide +kernel
theorem dX11_lays_26 : decode cX11_lays 26 = .ok (.iconst 0, 1) := by decide +kernel
theorem dX11_lays_27 : decode cX11_lays 27 = .ok (.istore_n 1, 1) := by decide +kernel
theorem dX11_lays_7 : decode cX11_lays 7 = .ok (.iload_n 1, 1) := by decide +kernel
theorem dX11_lays_8 : decode cX11_lays 8 = .ok (.bipush 6, 2) := by decide +kernel
theorem dX11_lays_10 : decode cX11_lays 10 = .ok (.if_icmp .ge 16, 3) := by decide +kernel
theorem dX11_lays_13 : decode cX11_lays 13 = .ok (.aload_n 0, 1) := by decide +kernel
theorem dX11_lays_14 : decode cX11_lays 14 = .ok (.getfield 50, 3) := by decide +kernel
theorem dX11_lays_17 : decode cX11_lays 17 = .ok (.iload_n 1, 1) := by decide +kernel
theorem dX11_lays_18 : decode cX11_lays 18 = .ok (.iconst (-1), 1) := by decide +kernel
theorem dX11_lays_19 : decode cX11_lays 19 = .ok (.iastore, 1) := by decide +kernel
theorem dX11_lays_20 : decode cX11_lays 20 = .ok (.iinc 1 1, 3) := by decide +kernel
theorem dX11_lays_23 : decode cX11_lays 23 = .ok (.goto (-16), 3) := by decide +kernel
theorem dX11_lays_0 : decode cX11_lays 0 = .ok (.aload_n 0, 1) := by decide +kernel
theorem dX11_lays_1 : decode cX11_lays 1 = .ok (.iconst (-1), 1) := by decide +kernel
theorem dX11_lays_2 : decode cX11_lays 2 = .ok (.putfield 277, 3) := by decide +kernel
theorem dX11_lays_5 : decode cX11_lays 5 = .ok (.iconst 0, 1) := by decide +kernel
theorem dX11_lays_6 : decode cX11_lays 6 = .ok (.istore_n 1, 1) := by decide +kernel
def FX11_lays_28  : Nat → Int → Mm → Option Mm
  | 0, _, _ => none
  | n + 1, x1, f => (if (f 157 7) ≤ x1 then some f else (if 0 ≤ (w32 (2 * x1)) ∧ (w32 (2 * x1)) < 400 then (if 0 ≤ (w32 ((w32 (2 * x1)) + 1)) ∧ (w32 ((w32 (2 * x1)) + 1)) < 400 then (if 0 ≤ (f 160 (w32 (2 * x1)).toNat) ∧ (f 160 (w32 (2 * x1)).toNat) < 6 then FX11_lays_28 n (w32 (x1 + 1)) (up f 162 (f 160 (w32 (2 * x1)).toNat).toNat (f 160 (w32 ((w32 (2 * x1)) + 1)).toNat)) else none) else none) else none))
set_option maxHeartbeats 4000000 in
set_option maxRecDepth 100000 in
theorem SX11_lays_28 {G : GT} {l : Launch} {Q : Option AV → Mem → Prop}  : ∀ (n : Nat) (x1 : Int) (f : Mm), OkV Q (FX11_lays_28  n x1 f) → Ev G l MX11_lays (Rm 1 0 0) (ZM G Q 0 0) 0 0 28 [some (vR 150), some (vI x1)] [] (SH, RF, f) := by
  intro n
  induction n with
  | zero => intro x1 f h; exact absurd h (by rw [FX11_lays_28]; exact fun q => q)
  | succ n ih =>
    intro x1 f h
    rw [FX11_lays_28] at h
    refine ev_iload_n (i := 1) dX11_lays_28 rfl rfl ?_
    refine ev_aload_n (i := 0) dX11_lays_29 rfl rfl ?_
    refine ev_getR dX11_lays_30 fl_X11_34 sh_150 (by decide) (by decide) rf_150_17 ?_
    refine ev_bipush (v := 7) dX11_lays_33 (r32c rfl) (by decide) ?_
    refine ex_iald (x := (f 157 7)) dX11_lays_35 sh_157 (by decide) (by decide) rfl ?_
    refine ev_icmp_ge (tgt := 68) dX11_lays_36 (by decide) (fun c4 => ?_) (fun c4 => ?_)
    · rw [if_pos c4] at h
      exact ev_vret rfl dX11_lays_68 h
    · rw [if_neg c4] at h
      refine ev_aload_n (i := 0) dX11_lays_39 rfl rfl ?_
      refine ev_getR dX11_lays_40 fl_X11_50 sh_150 (by decide) (by decide) rf_150_22 ?_
      refine ev_aload_n (i := 0) dX11_lays_43 rfl rfl ?_
      refine ev_getR dX11_lays_44 fl_X11_43 sh_150 (by decide) (by decide) rf_150_20 ?_
      refine ev_iconst dX11_lays_47 (r32c rfl) ?_
      refine ev_iload_n (i := 1) dX11_lays_48 rfl rfl ?_
      refine ev_imul dX11_lays_49 ?_
      by_cases g1 : 0 ≤ (w32 (2 * x1)) ∧ (w32 (2 * x1)) < 400
      · rw [if_pos g1] at h
        refine ex_iald (x := (f 160 (w32 (2 * x1)).toNat)) dX11_lays_50 sh_160 g1.1 g1.2 rfl ?_
        refine ev_aload_n (i := 0) dX11_lays_51 rfl rfl ?_
        refine ev_getR dX11_lays_52 fl_X11_43 sh_150 (by decide) (by decide) rf_150_20 ?_
        refine ev_iconst dX11_lays_55 (r32c rfl) ?_
        refine ev_iload_n (i := 1) dX11_lays_56 rfl rfl ?_
        refine ev_imul dX11_lays_57 ?_
        refine ev_iconst dX11_lays_58 (r32c rfl) ?_
        refine ev_iadd dX11_lays_59 ?_
        by_cases g2 : 0 ≤ (w32 ((w32 (2 * x1)) + 1)) ∧ (w32 ((w32 (2 * x1)) + 1)) < 400
        · rw [if_pos g2] at h
          refine ex_iald (x := (f 160 (w32 ((w32 (2 * x1)) + 1)).toNat)) dX11_lays_60 sh_160 g2.1 g2.2 rfl ?_
          by_cases g3 : 0 ≤ (f 160 (w32 (2 * x1)).toNat) ∧ (f 160 (w32 (2 * x1)).toNat) < 6
          · rw [if_pos g3] at h
            refine ex_iast (j := (f 160 (w32 (2 * x1)).toNat).toNat) dX11_lays_61 sh_162 g3.1 g3.2 rfl ?_
            refine ev_iinc (L' := [some (vR 150), some (vI (w32 (x1 + 1)))]) dX11_lays_62 rfl (by decide) rfl ?_
            refine ev_goto (tgt := 28) dX11_lays_65 (by decide) ?_
            exact ih (w32 (x1 + 1)) _ h
          · rw [if_neg g3] at h; exact h.elim
        · rw [if_neg g2] at h; exact h.elim
      · rw [if_neg g1] at h; exact h.elim
def FX11_lays_26   (f : Mm) : Option Mm := FX11_lays_28 fu 0 f
set_option maxHeartbeats 4000000 in
set_option maxRecDepth 100000 in
theorem SX11_lays_26 {G : GT} {l : Launch} {Q : Option AV → Mem → Prop}   (f : Mm) (h : OkV Q (FX11_lays_26   f)) : Ev G l MX11_lays (Rm 1 0 0) (ZM G Q 0 0) 0 0 26 [some (vR 150), none] [] (SH, RF, f) := by
  unfold FX11_lays_26 at h
  refine ev_iconst dX11_lays_26 (r32c rfl) ?_
  refine ev_istore_n (i := 1) (L' := [some (vR 150), some (vI 0)]) dX11_lays_27 rfl (by decide) rfl ?_
  exact SX11_lays_28  fu 0 _ h
def FX11_lays_7  : Nat → Int → Mm → Option Mm
  | 0, _, _ => none
  | n + 1, x1, f => (if 6 ≤ x1 then FX11_lays_26 f else (if 0 ≤ x1 ∧ x1 < 6 then FX11_lays_7 n (w32 (x1 + 1)) (up f 162 x1.toNat (-1)) else none))
set_option maxHeartbeats 4000000 in
set_option maxRecDepth 100000 in
theorem SX11_lays_7 {G : GT} {l : Launch} {Q : Option AV → Mem → Prop}  : ∀ (n : Nat) (x1 : Int) (f : Mm), OkV Q (FX11_lays_7  n x1 f) → Ev G l MX11_lays (Rm 1 0 0) (ZM G Q 0 0) 0 0 7 [some (vR 150), some (vI x1)] [] (SH, RF, f) := by
  intro n
  induction n with
  | zero => intro x1 f h; exact absurd h (by rw [FX11_lays_7]; exact fun q => q)
  | succ n ih =>
    intro x1 f h
    rw [FX11_lays_7] at h
    refine ev_iload_n (i := 1) dX11_lays_7 rfl rfl ?_
    refine ev_bipush (v := 6) dX11_lays_8 (r32c rfl) (by decide) ?_
    refine ev_icmp_ge (tgt := 26) dX11_lays_10 (by decide) (fun c2 => ?_) (fun c2 => ?_)
    · rw [if_pos c2] at h
      refine ev_fg [true, false] rfl ?_
      exact SX11_lays_26   _ h
    · rw [if_neg c2] at h
      refine ev_aload_n (i := 0) dX11_lays_13 rfl rfl ?_
      refine ev_getR dX11_lays_14 fl_X11_50 sh_150 (by decide) (by decide) rf_150_22 ?_
      refine ev_iload_n (i := 1) dX11_lays_17 rfl rfl ?_
      refine ev_iconst dX11_lays_18 (r32c rfl) ?_
      by_cases g1 : 0 ≤ x1 ∧ x1 < 6
      · rw [if_pos g1] at h
        refine ex_iast (j := x1.toNat) dX11_lays_19 sh_162 g1.1 g1.2 rfl ?_
        refine ev_iinc (L' := [some (vR 150), some (vI (w32 (x1 + 1)))]) dX11_lays_20 rfl (by decide) rfl ?_
        refine ev_goto (tgt := 7) dX11_lays_23 (by decide) ?_
        exact ih (w32 (x1 + 1)) _ h
      · rw [if_neg g1] at h; exact h.elim
def FX11_lays_0   (f : Mm) : Option Mm := FX11_lays_7 fu 0 (up f 150 23 (-1))
set_option maxHeartbeats 4000000 in
set_option maxRecDepth 100000 in
theorem SX11_lays_0 {G : GT} {l : Launch} {Q : Option AV → Mem → Prop}   (f : Mm) (h : OkV Q (FX11_lays_0   f)) : Ev G l MX11_lays (Rm 1 0 0) (ZM G Q 0 0) 0 0 0 [some (vR 150), none] [] (SH, RF, f) := by
  unfold FX11_lays_0 at h
  refine ev_aload_n (i := 0) dX11_lays_0 rfl rfl ?_
  refine ev_iconst dX11_lays_1 (r32c rfl) ?_
  refine ev_putI dX11_lays_2 fl_X11_277 sh_150 (by decide) (by decide) ?_
  refine ev_iconst dX11_lays_5 (r32c rfl) ?_
  refine ev_istore_n (i := 1) (L' := [some (vR 150), some (vI 0)]) dX11_lays_6 rfl (by decide) rfl ?_
  exact SX11_lays_7  fu 0 _ h
def FX11_lays  (f : Mm) : Option Mm := FX11_lays_0  f
set_option maxRecDepth 100000 in
theorem TX11_lays {G : GT} {l : Launch} {Q : Option AV → Mem → Prop}  (f : Mm) (h : OkV Q (FX11_lays  f)) : Ret G l MX11_lays (1) 0 0 [vR 150] (SH, RF, f) Q := by
  refine ret_of (L := [some (vR 150), none]) (by decide) rfl (Nat.le_of_ble_eq_true rfl) ?_
  exact SX11_lays_0  f h
theorem dX11_held_0 : decode cX11_held 0 = .ok (.iload_n 0, 1) := by decide +kernel
theorem dX11_held_1 : decode cX11_held 1 = .ok (.ifCond .ge 7, 3) := by decide +kernel
theorem dX11_held_8 : decode cX11_held 8 = .ok (.iload_n 0, 1) := by decide +kernel
theorem dX11_held_9 : decode cX11_held 9 = .ok (.bipush 60, 2) := by decide +kernel
theorem dX11_held_11 : decode cX11_held 11 = .ok (.if_icmp .le 8, 3) := by decide +kernel
theorem dX11_held_19 : decode cX11_held 19 = .ok (.iload_n 0, 1) := by decide +kernel
theorem dX11_held_20 : decode cX11_held 20 = .ok (.ireturn, 1) := by decide +kernel
theorem dX11_held_14 : decode cX11_held 14 = .ok (.bipush 60, 2) := by decide +kernel
theorem dX11_held_16 : decode cX11_held 16 = .ok (.goto 4, 3) := by decide +kernel
theorem dX11_held_4 : decode cX11_held 4 = .ok (.iconst 0, 1) := by decide +kernel
theorem dX11_held_5 : decode cX11_held 5 = .ok (.goto 15, 3) := by decide +kernel
def FX11_held_0  (x0 : Int) (f : Mm) : Option (Int × Mm) := (if 0 ≤ x0 then (if x0 ≤ 60 then some (x0, f) else some (60, f)) else some (0, f))
set_option maxHeartbeats 4000000 in
set_option maxRecDepth 100000 in
theorem SX11_held_0 {G : GT} {l : Launch} {Q : Option AV → Mem → Prop}  (x0 : Int) (f : Mm) (h : OkI Q (FX11_held_0  x0 f)) : Ev G l MX11_held (Rm 1 0 0) (ZM G Q 0 0) 0 0 0 [some (vI x0)] [] (SH, RF, f) := by
  unfold FX11_held_0 at h
  refine ev_iload_n (i := 0) dX11_held_0 rfl rfl ?_
  refine ev_if_ge (tgt := 8) dX11_held_1 (by decide) (fun c2 => ?_) (fun c2 => ?_)
  · rw [if_pos c2] at h
    refine ev_iload_n (i := 0) dX11_held_8 rfl rfl ?_
    refine ev_bipush (v := 60) dX11_held_9 (r32c rfl) (by decide) ?_
    refine ev_icmp_le (tgt := 19) dX11_held_11 (by decide) (fun c1 => ?_) (fun c1 => ?_)
    · rw [if_pos c1] at h
      refine ev_iload_n (i := 0) dX11_held_19 rfl rfl ?_
      exact ev_iret rfl dX11_held_20 h
    · rw [if_neg c1] at h
      refine ev_bipush (v := 60) dX11_held_14 (r32c rfl) (by decide) ?_
      refine ev_goto (tgt := 20) dX11_held_16 (by decide) ?_
      exact ev_iret rfl dX11_held_20 h
  · rw [if_neg c2] at h
    refine ev_iconst dX11_held_4 (r32c rfl) ?_
    refine ev_goto (tgt := 20) dX11_held_5 (by decide) ?_
    exact ev_iret rfl dX11_held_20 h
def FX11_held (x0 : Int) (f : Mm) : Option (Int × Mm) := FX11_held_0 x0 f
set_option maxRecDepth 100000 in
theorem TX11_held {G : GT} {l : Launch} {Q : Option AV → Mem → Prop} (x0 : Int) (f : Mm) (h : OkI Q (FX11_held x0 f)) : Ret G l MX11_held (1) 0 0 [vI x0] (SH, RF, f) Q := by
  refine ret_of (L := [some (vI x0)]) (by decide) rfl (Nat.le_of_ble_eq_true rfl) ?_
  exact SX11_held_0 x0 f h
theorem dX11_feelsOf_48 : decode cX11_feelsOf 48 = .ok (.iastore, 1) := by decide +kernel
theorem dX11_feelsOf_49 : decode cX11_feelsOf 49 = .ok (.iinc 2 1, 3) := by decide +kernel
theorem dX11_feelsOf_52 : decode cX11_feelsOf 52 = .ok (.goto (-50), 3) := by decide +kernel
theorem dX11_feelsOf_2 : decode cX11_feelsOf 2 = .ok (.iload_n 2, 1) := by decide +kernel
theorem dX11_feelsOf_3 : decode cX11_feelsOf 3 = .ok (.iconst 2, 1) := by decide +kernel
theorem dX11_feelsOf_4 : decode cX11_feelsOf 4 = .ok (.if_icmp .ge 51, 3) := by decide +kernel
theorem dX11_feelsOf_55 : decode cX11_feelsOf 55 = .ok (.return_, 1) := by decide +kernel
theorem dX11_feelsOf_7 : decode cX11_feelsOf 7 = .ok (.aload_n 0, 1) := by decide +kernel
theorem dX11_feelsOf_8 : decode cX11_feelsOf 8 = .ok (.getfield 59, 3) := by decide +kernel
theorem dX11_feelsOf_11 : decode cX11_feelsOf 11 = .ok (.iload_n 2, 1) := by decide +kernel
theorem dX11_feelsOf_12 : decode cX11_feelsOf 12 = .ok (.iload_n 1, 1) := by decide +kernel
theorem dX11_feelsOf_13 : decode cX11_feelsOf 13 = .ok (.iconst (-1), 1) := by decide +kernel
theorem dX11_feelsOf_14 : decode cX11_feelsOf 14 = .ok (.if_icmp .ne 12, 3) := by decide +kernel
theorem dX11_feelsOf_26 : decode cX11_feelsOf 26 = .ok (.aload_n 0, 1) := by decide +kernel
theorem dX11_feelsOf_27 : decode cX11_feelsOf 27 = .ok (.getfield 59, 3) := by decide +kernel
theorem dX11_feelsOf_30 : decode cX11_feelsOf 30 = .ok (.iload_n 2, 1) := by decide +kernel
theorem dX11_feelsOf_31 : decode cX11_feelsOf 31 = .ok (.iaload, 1) := by decide +kernel
theorem dX11_feelsOf_32 : decode cX11_feelsOf 32 = .ok (.aload_n 0, 1) := by decide +kernel
theorem dX11_feelsOf_33 : decode cX11_feelsOf 33 = .ok (.getfield 37, 3) := by decide +kernel
theorem dX11_feelsOf_36 : decode cX11_feelsOf 36 = .ok (.iconst 4, 1) := by decide +kernel
theorem dX11_feelsOf_37 : decode cX11_feelsOf 37 = .ok (.iload_n 1, 1) := by decide +kernel
theorem dX11_feelsOf_38 : decode cX11_feelsOf 38 = .ok (.imul, 1) := by decide +kernel
theorem dX11_feelsOf_39 : decode cX11_feelsOf 39 = .ok (.iconst 2, 1) := by decide +kernel
theorem dX11_feelsOf_40 : decode cX11_feelsOf 40 = .ok (.iadd, 1) := by decide +kernel
theorem dX11_feelsOf_41 : decode cX11_feelsOf 41 = .ok (.iload_n 2, 1) := by decide +kernel
theorem dX11_feelsOf_42 : decode cX11_feelsOf 42 = .ok (.iadd, 1) := by decide +kernel
theorem dX11_feelsOf_43 : decode cX11_feelsOf 43 = .ok (.iaload, 1) := by decide +kernel
theorem dX11_feelsOf_44 : decode cX11_feelsOf 44 = .ok (.iadd, 1) := by decide +kernel
theorem dX11_feelsOf_45 : decode cX11_feelsOf 45 = .ok (.invokestatic 280, 3) := by decide +kernel
theorem dX11_feelsOf_17 : decode cX11_feelsOf 17 = .ok (.aload_n 0, 1) := by decide +kernel
theorem dX11_feelsOf_18 : decode cX11_feelsOf 18 = .ok (.getfield 59, 3) := by decide +kernel
theorem dX11_feelsOf_21 : decode cX11_feelsOf 21 = .ok (.iload_n 2, 1) := by decide +kernel
theorem dX11_feelsOf_22 : decode cX11_feelsOf 22 = .ok (.iaload, 1) := by decide +kernel
theorem dX11_feelsOf_23 : decode cX11_feelsOf 23 = .ok (.goto 25, 3) := by decide +kernel
theorem dX11_feelsOf_0 : decode cX11_feelsOf 0 = .ok (.iconst 0, 1) := by decide +kernel
theorem dX11_feelsOf_1 : decode cX11_feelsOf 1 = .ok (.istore_n 2, 1) := by decide +kernel
def FX11_feelsOf_48 (k2 : Int → Int → Mm → Option Mm) (x1 : Int) (x2 : Int) (s1 : Int) (s2 : Int) (f : Mm) : Option Mm := (if 0 ≤ s1 ∧ s1 < 2 then k2 x1 (w32 (x2 + 1)) (up f 165 s1.toNat s2) else none)
set_option maxHeartbeats 4000000 in
set_option maxRecDepth 100000 in
theorem SX11_feelsOf_48 {G : GT} {l : Launch} {Q : Option AV → Mem → Prop} {k2 : Int → Int → Mm → Option Mm} (q2 : ∀ (x1 : Int) (x2 : Int) (f : Mm), OkV Q (k2 x1 x2 f) → Ev G l MX11_feelsOf (Rm 2 0 0) (ZM G Q 0 0) 0 0 2 [some (vR 150), some (vI x1), some (vI x2)] [] (SH, RF, f)) (x1 : Int) (x2 : Int) (s1 : Int) (s2 : Int) (f : Mm) (h : OkV Q (FX11_feelsOf_48 k2 x1 x2 s1 s2 f)) : Ev G l MX11_feelsOf (Rm 2 0 0) (ZM G Q 0 0) 0 0 48 [some (vR 150), some (vI x1), some (vI x2)] [vI s2, vI s1, vR 165] (SH, RF, f) := by
  unfold FX11_feelsOf_48 at h
  by_cases g1 : 0 ≤ s1 ∧ s1 < 2
  · rw [if_pos g1] at h
    refine ex_iast (j := s1.toNat) dX11_feelsOf_48 sh_165 g1.1 g1.2 rfl ?_
    refine ev_iinc (L' := [some (vR 150), some (vI x1), some (vI (w32 (x2 + 1)))]) dX11_feelsOf_49 rfl (by decide) rfl ?_
    refine ev_goto (tgt := 2) dX11_feelsOf_52 (by decide) ?_
    exact q2 x1 (w32 (x2 + 1)) _ h
  · rw [if_neg g1] at h; exact h.elim
def FX11_feelsOf_2  : Nat → Int → Int → Mm → Option Mm
  | 0, _, _, _ => none
  | n + 1, x1, x2, f => (if 2 ≤ x2 then some f else (if x1 = (-1) then (if 0 ≤ x2 ∧ x2 < 2 then FX11_feelsOf_48 (FX11_feelsOf_2 n) x1 x2 x2 (f 165 x2.toNat) f else none) else (if 0 ≤ x2 ∧ x2 < 2 then (if 0 ≤ (w32 ((w32 ((w32 (4 * x1)) + 2)) + x2)) ∧ (w32 ((w32 ((w32 (4 * x1)) + 2)) + x2)) < 80 then (b2 (FX11_held (w32 ((f 165 x2.toNat) + (f 158 (w32 ((w32 ((w32 (4 * x1)) + 2)) + x2)).toNat))) f) fun y3 f3 => FX11_feelsOf_48 (FX11_feelsOf_2 n) x1 x2 x2 y3 f3) else none) else none)))
set_option maxHeartbeats 4000000 in
set_option maxRecDepth 100000 in
theorem SX11_feelsOf_2 {G : GT} {l : Launch} {Q : Option AV → Mem → Prop}  : ∀ (n : Nat) (x1 : Int) (x2 : Int) (f : Mm), OkV Q (FX11_feelsOf_2  n x1 x2 f) → Ev G l MX11_feelsOf (Rm 2 0 0) (ZM G Q 0 0) 0 0 2 [some (vR 150), some (vI x1), some (vI x2)] [] (SH, RF, f) := by
  intro n
  induction n with
  | zero => intro x1 x2 f h; exact absurd h (by rw [FX11_feelsOf_2]; exact fun q => q)
  | succ n ih =>
    intro x1 x2 f h
    rw [FX11_feelsOf_2] at h
    refine ev_iload_n (i := 2) dX11_feelsOf_2 rfl rfl ?_
    refine ev_iconst dX11_feelsOf_3 (r32c rfl) ?_
    refine ev_icmp_ge (tgt := 55) dX11_feelsOf_4 (by decide) (fun c6 => ?_) (fun c6 => ?_)
    · rw [if_pos c6] at h
      exact ev_vret rfl dX11_feelsOf_55 h
    · rw [if_neg c6] at h
      refine ev_aload_n (i := 0) dX11_feelsOf_7 rfl rfl ?_
      refine ev_getR dX11_feelsOf_8 fl_X11_59 sh_150 (by decide) (by decide) rf_150_27 ?_
      refine ev_iload_n (i := 2) dX11_feelsOf_11 rfl rfl ?_
      refine ev_iload_n (i := 1) dX11_feelsOf_12 rfl rfl ?_
      refine ev_iconst dX11_feelsOf_13 (r32c rfl) ?_
      refine ev_icmp_ne (tgt := 26) dX11_feelsOf_14 (by decide) (fun c5 => ?_) (fun c5 => ?_)
      · rw [if_neg c5] at h
        refine ev_aload_n (i := 0) dX11_feelsOf_26 rfl rfl ?_
        refine ev_getR dX11_feelsOf_27 fl_X11_59 sh_150 (by decide) (by decide) rf_150_27 ?_
        refine ev_iload_n (i := 2) dX11_feelsOf_30 rfl rfl ?_
        by_cases g1 : 0 ≤ x2 ∧ x2 < 2
        · rw [if_pos g1] at h
          refine ex_iald (x := (f 165 x2.toNat)) dX11_feelsOf_31 sh_165 g1.1 g1.2 rfl ?_
          refine ev_aload_n (i := 0) dX11_feelsOf_32 rfl rfl ?_
          refine ev_getR dX11_feelsOf_33 fl_X11_37 sh_150 (by decide) (by decide) rf_150_18 ?_
          refine ev_iconst dX11_feelsOf_36 (r32c rfl) ?_
          refine ev_iload_n (i := 1) dX11_feelsOf_37 rfl rfl ?_
          refine ev_imul dX11_feelsOf_38 ?_
          refine ev_iconst dX11_feelsOf_39 (r32c rfl) ?_
          refine ev_iadd dX11_feelsOf_40 ?_
          refine ev_iload_n (i := 2) dX11_feelsOf_41 rfl rfl ?_
          refine ev_iadd dX11_feelsOf_42 ?_
          by_cases g2 : 0 ≤ (w32 ((w32 ((w32 (4 * x1)) + 2)) + x2)) ∧ (w32 ((w32 ((w32 (4 * x1)) + 2)) + x2)) < 80
          · rw [if_pos g2] at h
            refine ex_iald (x := (f 158 (w32 ((w32 ((w32 (4 * x1)) + 2)) + x2)).toNat)) dX11_feelsOf_43 sh_158 g2.1 g2.2 rfl ?_
            refine ev_iadd dX11_feelsOf_44 ?_
            refine ev_cSI (av := [vI (w32 ((f 165 x2.toNat) + (f 158 (w32 ((w32 ((w32 (4 * x1)) + 2)) + x2)).toNat)))]) (S := [vI x2, vR 165]) (fun q => q) h dX11_feelsOf_45 (fun Q' q => TX11_held (w32 ((f 165 x2.toNat) + (f 158 (w32 ((w32 ((w32 (4 * x1)) + 2)) + x2)).toNat))) _ q) ksX11_held ml_X11_280 rfl (RRc (by decide) (by decide)) (Nat.le_of_ble_eq_true rfl) ⟨Nat.le_of_ble_eq_true rfl, Nat.le_of_ble_eq_true rfl⟩ (fun y3 f3 h => ?_)
            exact SX11_feelsOf_48 ih x1 x2 x2 y3 _ h
          · rw [if_neg g2] at h; exact h.elim
        · rw [if_neg g1] at h; exact h.elim
      · rw [if_pos c5] at h
        refine ev_aload_n (i := 0) dX11_feelsOf_17 rfl rfl ?_
        refine ev_getR dX11_feelsOf_18 fl_X11_59 sh_150 (by decide) (by decide) rf_150_27 ?_
        refine ev_iload_n (i := 2) dX11_feelsOf_21 rfl rfl ?_
        by_cases g4 : 0 ≤ x2 ∧ x2 < 2
        · rw [if_pos g4] at h
          refine ex_iald (x := (f 165 x2.toNat)) dX11_feelsOf_22 sh_165 g4.1 g4.2 rfl ?_
          refine ev_goto (tgt := 48) dX11_feelsOf_23 (by decide) ?_
          exact SX11_feelsOf_48 ih x1 x2 x2 (f 165 x2.toNat) _ h
        · rw [if_neg g4] at h; exact h.elim
def FX11_feelsOf_0  (x1 : Int) (f : Mm) : Option Mm := FX11_feelsOf_2 fu x1 0 f
set_option maxHeartbeats 4000000 in
set_option maxRecDepth 100000 in
theorem SX11_feelsOf_0 {G : GT} {l : Launch} {Q : Option AV → Mem → Prop}  (x1 : Int) (f : Mm) (h : OkV Q (FX11_feelsOf_0  x1 f)) : Ev G l MX11_feelsOf (Rm 2 0 0) (ZM G Q 0 0) 0 0 0 [some (vR 150), some (vI x1), none] [] (SH, RF, f) := by
  unfold FX11_feelsOf_0 at h
  refine ev_iconst dX11_feelsOf_0 (r32c rfl) ?_
  refine ev_istore_n (i := 2) (L' := [some (vR 150), some (vI x1), some (vI 0)]) dX11_feelsOf_1 rfl (by decide) rfl ?_
  exact SX11_feelsOf_2  fu x1 0 _ h
def FX11_feelsOf (x1 : Int) (f : Mm) : Option Mm := FX11_feelsOf_0 x1 f
set_option maxRecDepth 100000 in
theorem TX11_feelsOf {G : GT} {l : Launch} {Q : Option AV → Mem → Prop} (x1 : Int) (f : Mm) (h : OkV Q (FX11_feelsOf x1 f)) : Ret G l MX11_feelsOf (2) 0 0 [vR 150, vI x1] (SH, RF, f) Q := by
  refine ret_of (L := [some (vR 150), some (vI x1), none]) (by decide) rfl (Nat.le_of_ble_eq_true rfl) ?_
  exact SX11_feelsOf_0 x1 f h
theorem dX11_isBit_0 : decode cX11_isBit 0 = .ok (.iload_n 0, 1) := by decide +kernel
theorem dX11_isBit_1 : decode cX11_isBit 1 = .ok (.iload_n 1, 1) := by decide +kernel
theorem dX11_isBit_2 : decode cX11_isBit 2 = .ok (.ishr, 1) := by decide +kernel
theorem dX11_isBit_3 : decode cX11_isBit 3 = .ok (.iconst 1, 1) := by decide +kernel
theorem dX11_isBit_4 : decode cX11_isBit 4 = .ok (.iand, 1) := by decide +kernel
theorem dX11_isBit_5 : decode cX11_isBit 5 = .ok (.iconst 1, 1) := by decide +kernel
theorem dX11_isBit_6 : decode cX11_isBit 6 = .ok (.if_icmp .ne 7, 3) := by decide +kernel
theorem dX11_isBit_13 : decode cX11_isBit 13 = .ok (.iconst 0, 1) := by decide +kernel
theorem dX11_isBit_14 : decode cX11_isBit 14 = .ok (.ireturn, 1) := by decide +kernel
theorem dX11_isBit_9 : decode cX11_isBit 9 = .ok (.iconst 1, 1) := by decide +kernel
theorem dX11_isBit_10 : decode cX11_isBit 10 = .ok (.goto 4, 3) := by decide +kernel
def FX11_isBit_0  (x0 : Int) (x1 : Int) (f : Mm) : Option (Int × Mm) := (if (bAnd (bShr x0 x1) 1) = 1 then some (1, f) else some (0, f))
set_option maxHeartbeats 4000000 in
set_option maxRecDepth 100000 in
theorem SX11_isBit_0 {G : GT} {l : Launch} {Q : Option AV → Mem → Prop}  (x0 : Int) (x1 : Int) (f : Mm) (h : OkI Q (FX11_isBit_0  x0 x1 f)) : Ev G l MX11_isBit (Rm 1 0 0) (ZM G Q 0 0) 0 0 0 [some (vI x0), some (vI x1)] [] (SH, RF, f) := by
  unfold FX11_isBit_0 at h
  refine ev_iload_n (i := 0) dX11_isBit_0 rfl rfl ?_
  refine ev_iload_n (i := 1) dX11_isBit_1 rfl rfl ?_
  refine ev_ishr dX11_isBit_2 ?_
  refine ev_iconst dX11_isBit_3 (r32c rfl) ?_
  refine ev_iand dX11_isBit_4 ?_
  refine ev_iconst dX11_isBit_5 (r32c rfl) ?_
  refine ev_icmp_ne (tgt := 13) dX11_isBit_6 (by decide) (fun c1 => ?_) (fun c1 => ?_)
  · rw [if_neg c1] at h
    refine ev_iconst dX11_isBit_13 (r32c rfl) ?_
    exact ev_zret rfl (by decide) dX11_isBit_14 h
  · rw [if_pos c1] at h
    refine ev_iconst dX11_isBit_9 (r32c rfl) ?_
    refine ev_goto (tgt := 14) dX11_isBit_10 (by decide) ?_
    exact ev_zret rfl (by decide) dX11_isBit_14 h
def FX11_isBit (x0 : Int) (x1 : Int) (f : Mm) : Option (Int × Mm) := FX11_isBit_0 x0 x1 f
set_option maxRecDepth 100000 in
theorem TX11_isBit {G : GT} {l : Launch} {Q : Option AV → Mem → Prop} (x0 : Int) (x1 : Int) (f : Mm) (h : OkI Q (FX11_isBit x0 x1 f)) : Ret G l MX11_isBit (1) 0 0 [vI x0, vI x1] (SH, RF, f) Q := by
  refine ret_of (L := [some (vI x0), some (vI x1)]) (by decide) rfl (Nat.le_of_ble_eq_true rfl) ?_
  exact SX11_isBit_0 x0 x1 f h
theorem dX11_goes_193 : decode cX11_goes 193 = .ok (.iinc 3 1, 3) := by decide +kernel
theorem dX11_goes_196 : decode cX11_goes 196 = .ok (.goto (-167), 3) := by decide +kernel
theorem dX11_goes_162 : decode cX11_goes 162 = .ok (.iload 4, 2) := by decide +kernel
theorem dX11_goes_164 : decode cX11_goes 164 = .ok (.iconst 2, 1) := by decide +kernel
theorem dX11_goes_165 : decode cX11_goes 165 = .ok (.if_icmp .ge 28, 3) := by decide +kernel
theorem dX11_goes_168 : decode cX11_goes 168 = .ok (.aload_n 0, 1) := by decide +kernel
theorem dX11_goes_169 : decode cX11_goes 169 = .ok (.getfield 59, 3) := by decide +kernel
theorem dX11_goes_172 : decode cX11_goes 172 = .ok (.iload 4, 2) := by decide +kernel
theorem dX11_goes_174 : decode cX11_goes 174 = .ok (.aload_n 0, 1) := by decide +kernel
theorem dX11_goes_175 : decode cX11_goes 175 = .ok (.getfield 59, 3) := by decide +kernel
theorem dX11_goes_178 : decode cX11_goes 178 = .ok (.iload 4, 2) := by decide +kernel
theorem dX11_goes_180 : decode cX11_goes 180 = .ok (.iaload, 1) := by decide +kernel
theorem dX11_goes_181 : decode cX11_goes 181 = .ok (.iload_n 2, 1) := by decide +kernel
theorem dX11_goes_182 : decode cX11_goes 182 = .ok (.isub, 1) := by decide +kernel
theorem dX11_goes_183 : decode cX11_goes 183 = .ok (.invokestatic 280, 3) := by decide +kernel
theorem dX11_goes_186 : decode cX11_goes 186 = .ok (.iastore, 1) := by decide +kernel
theorem dX11_goes_187 : decode cX11_goes 187 = .ok (.iinc 4 1, 3) := by decide +kernel
theorem dX11_goes_190 : decode cX11_goes 190 = .ok (.goto (-28), 3) := by decide +kernel
theorem dX11_goes_158 : decode cX11_goes 158 = .ok (.iastore, 1) := by decide +kernel
theorem dX11_goes_159 : decode cX11_goes 159 = .ok (.iconst 0, 1) := by decide +kernel
theorem dX11_goes_160 : decode cX11_goes 160 = .ok (.istore 4, 2) := by decide +kernel
theorem dX11_goes_123 : decode cX11_goes 123 = .ok (.aload_n 0, 1) := by decide +kernel
theorem dX11_goes_124 : decode cX11_goes 124 = .ok (.getfield 56, 3) := by decide +kernel
theorem dX11_goes_127 : decode cX11_goes 127 = .ok (.iload_n 3, 1) := by decide +kernel
theorem dX11_goes_128 : decode cX11_goes 128 = .ok (.aload_n 0, 1) := by decide +kernel
theorem dX11_goes_129 : decode cX11_goes 129 = .ok (.getfield 59, 3) := by decide +kernel
theorem dX11_goes_132 : decode cX11_goes 132 = .ok (.iconst 0, 1) := by decide +kernel
theorem dX11_goes_133 : decode cX11_goes 133 = .ok (.iaload, 1) := by decide +kernel
theorem dX11_goes_134 : decode cX11_goes 134 = .ok (.aload_n 0, 1) := by decide +kernel
theorem dX11_goes_135 : decode cX11_goes 135 = .ok (.getfield 59, 3) := by decide +kernel
theorem dX11_goes_138 : decode cX11_goes 138 = .ok (.iconst 1, 1) := by decide +kernel
theorem dX11_goes_139 : decode cX11_goes 139 = .ok (.iaload, 1) := by decide +kernel
theorem dX11_goes_140 : decode cX11_goes 140 = .ok (.if_icmp .ge 12, 3) := by decide +kernel
theorem dX11_goes_152 : decode cX11_goes 152 = .ok (.aload_n 0, 1) := by decide +kernel
theorem dX11_goes_153 : decode cX11_goes 153 = .ok (.getfield 59, 3) := by decide +kernel
theorem dX11_goes_156 : decode cX11_goes 156 = .ok (.iconst 1, 1) := by decide +kernel
theorem dX11_goes_157 : decode cX11_goes 157 = .ok (.iaload, 1) := by decide +kernel
theorem dX11_goes_143 : decode cX11_goes 143 = .ok (.aload_n 0, 1) := by decide +kernel
theorem dX11_goes_144 : decode cX11_goes 144 = .ok (.getfield 59, 3) := by decide +kernel
theorem dX11_goes_147 : decode cX11_goes 147 = .ok (.iconst 0, 1) := by decide +kernel
theorem dX11_goes_148 : decode cX11_goes 148 = .ok (.iaload, 1) := by decide +kernel
theorem dX11_goes_149 : decode cX11_goes 149 = .ok (.goto 9, 3) := by decide +kernel
theorem dX11_goes_99 : decode cX11_goes 99 = .ok (.aload_n 0, 1) := by decide +kernel
theorem dX11_goes_100 : decode cX11_goes 100 = .ok (.getfield 53, 3) := by decide +kernel
theorem dX11_goes_103 : decode cX11_goes 103 = .ok (.iconst 2, 1) := by decide +kernel
theorem dX11_goes_104 : decode cX11_goes 104 = .ok (.iload_n 3, 1) := by decide +kernel
theorem dX11_goes_105 : decode cX11_goes 105 = .ok (.imul, 1) := by decide +kernel
theorem dX11_goes_106 : decode cX11_goes 106 = .ok (.iload 4, 2) := by decide +kernel
theorem dX11_goes_108 : decode cX11_goes 108 = .ok (.iadd, 1) := by decide +kernel
theorem dX11_goes_109 : decode cX11_goes 109 = .ok (.aload_n 0, 1) := by decide +kernel
theorem dX11_goes_110 : decode cX11_goes 110 = .ok (.getfield 59, 3) := by decide +kernel
theorem dX11_goes_113 : decode cX11_goes 113 = .ok (.iload 4, 2) := by decide +kernel
theorem dX11_goes_115 : decode cX11_goes 115 = .ok (.iaload, 1) := by decide +kernel
theorem dX11_goes_116 : decode cX11_goes 116 = .ok (.iastore, 1) := by decide +kernel
theorem dX11_goes_117 : decode cX11_goes 117 = .ok (.iinc 4 1, 3) := by decide +kernel
theorem dX11_goes_120 : decode cX11_goes 120 = .ok (.goto (-54), 3) := by decide +kernel
theorem dX11_goes_66 : decode cX11_goes 66 = .ok (.iload 4, 2) := by decide +kernel
theorem dX11_goes_68 : decode cX11_goes 68 = .ok (.iconst 2, 1) := by decide +kernel
theorem dX11_goes_69 : decode cX11_goes 69 = .ok (.if_icmp .ge 54, 3) := by decide +kernel
theorem dX11_goes_72 : decode cX11_goes 72 = .ok (.iload_n 1, 1) := by decide +kernel
theorem dX11_goes_73 : decode cX11_goes 73 = .ok (.iload_n 3, 1) := by decide +kernel
theorem dX11_goes_74 : decode cX11_goes 74 = .ok (.invokestatic 289, 3) := by decide +kernel
theorem dX11_goes_77 : decode cX11_goes 77 = .ok (.ifCond .eq 22, 3) := by decide +kernel
theorem dX11_goes_80 : decode cX11_goes 80 = .ok (.aload_n 0, 1) := by decide +kernel
theorem dX11_goes_81 : decode cX11_goes 81 = .ok (.getfield 59, 3) := by decide +kernel
theorem dX11_goes_84 : decode cX11_goes 84 = .ok (.iload 4, 2) := by decide +kernel
theorem dX11_goes_86 : decode cX11_goes 86 = .ok (.aload_n 0, 1) := by decide +kernel
theorem dX11_goes_87 : decode cX11_goes 87 = .ok (.getfield 59, 3) := by decide +kernel
theorem dX11_goes_90 : decode cX11_goes 90 = .ok (.iload 4, 2) := by decide +kernel
theorem dX11_goes_92 : decode cX11_goes 92 = .ok (.iaload, 1) := by decide +kernel
theorem dX11_goes_93 : decode cX11_goes 93 = .ok (.iconst 5, 1) := by decide +kernel
theorem dX11_goes_94 : decode cX11_goes 94 = .ok (.isub, 1) := by decide +kernel
theorem dX11_goes_95 : decode cX11_goes 95 = .ok (.invokestatic 280, 3) := by decide +kernel
theorem dX11_goes_98 : decode cX11_goes 98 = .ok (.iastore, 1) := by decide +kernel
theorem dX11_goes_63 : decode cX11_goes 63 = .ok (.iconst 0, 1) := by decide +kernel
theorem dX11_goes_64 : decode cX11_goes 64 = .ok (.istore 4, 2) := by decide +kernel
theorem dX11_goes_29 : decode cX11_goes 29 = .ok (.iload_n 3, 1) := by decide +kernel
theorem dX11_goes_30 : decode cX11_goes 30 = .ok (.aload_n 0, 1) := by decide +kernel
theorem dX11_goes_31 : decode cX11_goes 31 = .ok (.invokevirtual 266, 3) := by decide +kernel
theorem dX11_goes_34 : decode cX11_goes 34 = .ok (.if_icmp .ge 165, 3) := by decide +kernel
theorem dX11_goes_199 : decode cX11_goes 199 = .ok (.return_, 1) := by decide +kernel
theorem dX11_goes_37 : decode cX11_goes 37 = .ok (.aload_n 0, 1) := by decide +kernel
theorem dX11_goes_38 : decode cX11_goes 38 = .ok (.aload_n 0, 1) := by decide +kernel
theorem dX11_goes_39 : decode cX11_goes 39 = .ok (.getfield 50, 3) := by decide +kernel
theorem dX11_goes_42 : decode cX11_goes 42 = .ok (.iload_n 3, 1) := by decide +kernel
theorem dX11_goes_43 : decode cX11_goes 43 = .ok (.iaload, 1) := by decide +kernel
theorem dX11_goes_44 : decode cX11_goes 44 = .ok (.invokevirtual 283, 3) := by decide +kernel
theorem dX11_goes_47 : decode cX11_goes 47 = .ok (.iload_n 3, 1) := by decide +kernel
theorem dX11_goes_48 : decode cX11_goes 48 = .ok (.aload_n 0, 1) := by decide +kernel
theorem dX11_goes_49 : decode cX11_goes 49 = .ok (.getfield 277, 3) := by decide +kernel
theorem dX11_goes_52 : decode cX11_goes 52 = .ok (.if_icmp .ne 11, 3) := by decide +kernel
theorem dX11_goes_55 : decode cX11_goes 55 = .ok (.aload_n 0, 1) := by decide +kernel
theorem dX11_goes_56 : decode cX11_goes 56 = .ok (.aload_n 0, 1) := by decide +kernel
theorem dX11_goes_57 : decode cX11_goes 57 = .ok (.getfield 286, 3) := by decide +kernel
theorem dX11_goes_60 : decode cX11_goes 60 = .ok (.invokevirtual 283, 3) := by decide +kernel
theorem dX11_goes_27 : decode cX11_goes 27 = .ok (.iconst 0, 1) := by decide +kernel
theorem dX11_goes_28 : decode cX11_goes 28 = .ok (.istore_n 3, 1) := by decide +kernel
theorem dX11_goes_2 : decode cX11_goes 2 = .ok (.iload_n 3, 1) := by decide +kernel
theorem dX11_goes_3 : decode cX11_goes 3 = .ok (.iconst 2, 1) := by decide +kernel
theorem dX11_goes_4 : decode cX11_goes 4 = .ok (.if_icmp .ge 23, 3) := by decide +kernel
theorem dX11_goes_7 : decode cX11_goes 7 = .ok (.aload_n 0, 1) := by decide +kernel
theorem dX11_goes_8 : decode cX11_goes 8 = .ok (.getfield 59, 3) := by decide +kernel
theorem dX11_goes_11 : decode cX11_goes 11 = .ok (.iload_n 3, 1) := by decide +kernel
theorem dX11_goes_12 : decode cX11_goes 12 = .ok (.aload_n 0, 1) := by decide +kernel
theorem dX11_goes_13 : decode cX11_goes 13 = .ok (.getfield 34, 3) := by decide +kernel
theorem dX11_goes_16 : decode cX11_goes 16 = .ok (.iconst 1, 1) := by decide +kernel
theorem dX11_goes_17 : decode cX11_goes 17 = .ok (.iload_n 3, 1) := by decide +kernel
theorem dX11_goes_18 : decode cX11_goes 18 = .ok (.iadd, 1) := by decide +kernel
theorem dX11_goes_19 : decode cX11_goes 19 = .ok (.iaload, 1) := by decide +kernel
theorem dX11_goes_20 : decode cX11_goes 20 = .ok (.iastore, 1) := by decide +kernel
theorem dX11_goes_21 : decode cX11_goes 21 = .ok (.iinc 3 1, 3) := by decide +kernel
theorem dX11_goes_24 : decode cX11_goes 24 = .ok (.goto (-22), 3) := by decide +kernel
theorem dX11_goes_0 : decode cX11_goes 0 = .ok (.iconst 0, 1) := by decide +kernel
theorem dX11_goes_1 : decode cX11_goes 1 = .ok (.istore_n 3, 1) := by decide +kernel
def FX11_goes_193 (k29 : Int → Int → Int → Mm → Option Mm) (x1 : Int) (x2 : Int) (x3 : Int) (f : Mm) : Option Mm := k29 x1 x2 (w32 (x3 + 1)) f
set_option maxHeartbeats 4000000 in
set_option maxRecDepth 100000 in
theorem SX11_goes_193 {G : GT} {l : Launch} {Q : Option AV → Mem → Prop} {k29 : Int → Int → Int → Mm → Option Mm} (q29 : ∀ (x1 : Int) (x2 : Int) (x3 : Int) (f : Mm), OkV Q (k29 x1 x2 x3 f) → Ev G l MX11_goes (Rm 3 0 0) (ZM G Q 0 0) 0 0 29 [some (vR 150), some (vI x1), some (vI x2), some (vI x3), none] [] (SH, RF, f)) (x1 : Int) (x2 : Int) (x3 : Int) (f : Mm) (h : OkV Q (FX11_goes_193 k29 x1 x2 x3 f)) : Ev G l MX11_goes (Rm 3 0 0) (ZM G Q 0 0) 0 0 193 [some (vR 150), some (vI x1), some (vI x2), some (vI x3), none] [] (SH, RF, f) := by
  unfold FX11_goes_193 at h
  refine ev_iinc (L' := [some (vR 150), some (vI x1), some (vI x2), some (vI (w32 (x3 + 1))), none]) dX11_goes_193 rfl (by decide) rfl ?_
  refine ev_goto (tgt := 29) dX11_goes_196 (by decide) ?_
  exact q29 x1 x2 (w32 (x3 + 1)) _ h
def FX11_goes_162 (k29 : Int → Int → Int → Mm → Option Mm) : Nat → Int → Int → Int → Int → Mm → Option Mm
  | 0, _, _, _, _, _ => none
  | n + 1, x1, x2, x3, x4, f => (if 2 ≤ x4 then FX11_goes_193 k29 x1 x2 x3 f else (if 0 ≤ x4 ∧ x4 < 2 then (b2 (FX11_held (w32 ((f 165 x4.toNat) - x2)) f) fun y2 f2 => (if 0 ≤ x4 ∧ x4 < 2 then FX11_goes_162 k29 n x1 x2 x3 (w32 (x4 + 1)) (up f2 165 x4.toNat y2) else none)) else none))
set_option maxHeartbeats 4000000 in
set_option maxRecDepth 100000 in
theorem SX11_goes_162 {G : GT} {l : Launch} {Q : Option AV → Mem → Prop} {k29 : Int → Int → Int → Mm → Option Mm} (q29 : ∀ (x1 : Int) (x2 : Int) (x3 : Int) (f : Mm), OkV Q (k29 x1 x2 x3 f) → Ev G l MX11_goes (Rm 3 0 0) (ZM G Q 0 0) 0 0 29 [some (vR 150), some (vI x1), some (vI x2), some (vI x3), none] [] (SH, RF, f)) : ∀ (n : Nat) (x1 : Int) (x2 : Int) (x3 : Int) (x4 : Int) (f : Mm), OkV Q (FX11_goes_162 k29 n x1 x2 x3 x4 f) → Ev G l MX11_goes (Rm 3 0 0) (ZM G Q 0 0) 0 0 162 [some (vR 150), some (vI x1), some (vI x2), some (vI x3), some (vI x4)] [] (SH, RF, f) := by
  intro n
  induction n with
  | zero => intro x1 x2 x3 x4 f h; exact absurd h (by rw [FX11_goes_162]; exact fun q => q)
  | succ n ih =>
    intro x1 x2 x3 x4 f h
    rw [FX11_goes_162] at h
    refine ev_iload dX11_goes_162 rfl ?_
    refine ev_iconst dX11_goes_164 (r32c rfl) ?_
    refine ev_icmp_ge (tgt := 193) dX11_goes_165 (by decide) (fun c4 => ?_) (fun c4 => ?_)
    · rw [if_pos c4] at h
      refine ev_fg [true, true, true, true, false] rfl ?_
      exact SX11_goes_193 q29 x1 x2 x3 _ h
    · rw [if_neg c4] at h
      refine ev_aload_n (i := 0) dX11_goes_168 rfl rfl ?_
      refine ev_getR dX11_goes_169 fl_X11_59 sh_150 (by decide) (by decide) rf_150_27 ?_
      refine ev_iload dX11_goes_172 rfl ?_
      refine ev_aload_n (i := 0) dX11_goes_174 rfl rfl ?_
      refine ev_getR dX11_goes_175 fl_X11_59 sh_150 (by decide) (by decide) rf_150_27 ?_
      refine ev_iload dX11_goes_178 rfl ?_
      by_cases g1 : 0 ≤ x4 ∧ x4 < 2
      · rw [if_pos g1] at h
        refine ex_iald (x := (f 165 x4.toNat)) dX11_goes_180 sh_165 g1.1 g1.2 rfl ?_
        refine ev_iload_n (i := 2) dX11_goes_181 rfl rfl ?_
        refine ev_isub dX11_goes_182 ?_
        refine ev_cSI (av := [vI (w32 ((f 165 x4.toNat) - x2))]) (S := [vI x4, vR 165]) (fun q => q) h dX11_goes_183 (fun Q' q => TX11_held (w32 ((f 165 x4.toNat) - x2)) _ q) ksX11_held ml_X11_280 rfl (RRc (by decide) (by decide)) (Nat.le_of_ble_eq_true rfl) ⟨Nat.le_of_ble_eq_true rfl, Nat.le_of_ble_eq_true rfl⟩ (fun y2 f2 h => ?_)
        by_cases g3 : 0 ≤ x4 ∧ x4 < 2
        · rw [if_pos g3] at h
          refine ex_iast (j := x4.toNat) dX11_goes_186 sh_165 g3.1 g3.2 rfl ?_
          refine ev_iinc (L' := [some (vR 150), some (vI x1), some (vI x2), some (vI x3), some (vI (w32 (x4 + 1)))]) dX11_goes_187 rfl (by decide) rfl ?_
          refine ev_goto (tgt := 162) dX11_goes_190 (by decide) ?_
          exact ih x1 x2 x3 (w32 (x4 + 1)) _ h
        · rw [if_neg g3] at h; exact h.elim
      · rw [if_neg g1] at h; exact h.elim
def FX11_goes_158 (k29 : Int → Int → Int → Mm → Option Mm) (x1 : Int) (x2 : Int) (x3 : Int) (s1 : Int) (s2 : Int) (f : Mm) : Option Mm := (if 0 ≤ s1 ∧ s1 < 6 then FX11_goes_162 k29 fu x1 x2 x3 0 (up f 164 s1.toNat s2) else none)
set_option maxHeartbeats 4000000 in
set_option maxRecDepth 100000 in
theorem SX11_goes_158 {G : GT} {l : Launch} {Q : Option AV → Mem → Prop} {k29 : Int → Int → Int → Mm → Option Mm} (q29 : ∀ (x1 : Int) (x2 : Int) (x3 : Int) (f : Mm), OkV Q (k29 x1 x2 x3 f) → Ev G l MX11_goes (Rm 3 0 0) (ZM G Q 0 0) 0 0 29 [some (vR 150), some (vI x1), some (vI x2), some (vI x3), none] [] (SH, RF, f)) (x1 : Int) (x2 : Int) (x3 : Int) (s1 : Int) (s2 : Int) (f : Mm) (h : OkV Q (FX11_goes_158 k29 x1 x2 x3 s1 s2 f)) : Ev G l MX11_goes (Rm 3 0 0) (ZM G Q 0 0) 0 0 158 [some (vR 150), some (vI x1), some (vI x2), some (vI x3), none] [vI s2, vI s1, vR 164] (SH, RF, f) := by
  unfold FX11_goes_158 at h
  by_cases g1 : 0 ≤ s1 ∧ s1 < 6
  · rw [if_pos g1] at h
    refine ex_iast (j := s1.toNat) dX11_goes_158 sh_164 g1.1 g1.2 rfl ?_
    refine ev_iconst dX11_goes_159 (r32c rfl) ?_
    refine ev_istore (L' := [some (vR 150), some (vI x1), some (vI x2), some (vI x3), some (vI 0)]) dX11_goes_160 (by decide) rfl ?_
    exact SX11_goes_162 q29 fu x1 x2 x3 0 _ h
  · rw [if_neg g1] at h; exact h.elim
def FX11_goes_123 (k29 : Int → Int → Int → Mm → Option Mm) (x1 : Int) (x2 : Int) (x3 : Int) (f : Mm) : Option Mm := (if (f 165 1) ≤ (f 165 0) then FX11_goes_158 k29 x1 x2 x3 x3 (f 165 1) f else FX11_goes_158 k29 x1 x2 x3 x3 (f 165 0) f)
set_option maxHeartbeats 4000000 in
set_option maxRecDepth 100000 in
theorem SX11_goes_123 {G : GT} {l : Launch} {Q : Option AV → Mem → Prop} {k29 : Int → Int → Int → Mm → Option Mm} (q29 : ∀ (x1 : Int) (x2 : Int) (x3 : Int) (f : Mm), OkV Q (k29 x1 x2 x3 f) → Ev G l MX11_goes (Rm 3 0 0) (ZM G Q 0 0) 0 0 29 [some (vR 150), some (vI x1), some (vI x2), some (vI x3), none] [] (SH, RF, f)) (x1 : Int) (x2 : Int) (x3 : Int) (f : Mm) (h : OkV Q (FX11_goes_123 k29 x1 x2 x3 f)) : Ev G l MX11_goes (Rm 3 0 0) (ZM G Q 0 0) 0 0 123 [some (vR 150), some (vI x1), some (vI x2), some (vI x3), none] [] (SH, RF, f) := by
  unfold FX11_goes_123 at h
  refine ev_aload_n (i := 0) dX11_goes_123 rfl rfl ?_
  refine ev_getR dX11_goes_124 fl_X11_56 sh_150 (by decide) (by decide) rf_150_26 ?_
  refine ev_iload_n (i := 3) dX11_goes_127 rfl rfl ?_
  refine ev_aload_n (i := 0) dX11_goes_128 rfl rfl ?_
  refine ev_getR dX11_goes_129 fl_X11_59 sh_150 (by decide) (by decide) rf_150_27 ?_
  refine ev_iconst dX11_goes_132 (r32c rfl) ?_
  refine ex_iald (x := (f 165 0)) dX11_goes_133 sh_165 (by decide) (by decide) rfl ?_
  refine ev_aload_n (i := 0) dX11_goes_134 rfl rfl ?_
  refine ev_getR dX11_goes_135 fl_X11_59 sh_150 (by decide) (by decide) rf_150_27 ?_
  refine ev_iconst dX11_goes_138 (r32c rfl) ?_
  refine ex_iald (x := (f 165 1)) dX11_goes_139 sh_165 (by decide) (by decide) rfl ?_
  refine ev_icmp_ge (tgt := 152) dX11_goes_140 (by decide) (fun c1 => ?_) (fun c1 => ?_)
  · rw [if_pos c1] at h
    refine ev_aload_n (i := 0) dX11_goes_152 rfl rfl ?_
    refine ev_getR dX11_goes_153 fl_X11_59 sh_150 (by decide) (by decide) rf_150_27 ?_
    refine ev_iconst dX11_goes_156 (r32c rfl) ?_
    refine ex_iald (x := (f 165 1)) dX11_goes_157 sh_165 (by decide) (by decide) rfl ?_
    exact SX11_goes_158 q29 x1 x2 x3 x3 (f 165 1) _ h
  · rw [if_neg c1] at h
    refine ev_aload_n (i := 0) dX11_goes_143 rfl rfl ?_
    refine ev_getR dX11_goes_144 fl_X11_59 sh_150 (by decide) (by decide) rf_150_27 ?_
    refine ev_iconst dX11_goes_147 (r32c rfl) ?_
    refine ex_iald (x := (f 165 0)) dX11_goes_148 sh_165 (by decide) (by decide) rfl ?_
    refine ev_goto (tgt := 158) dX11_goes_149 (by decide) ?_
    exact SX11_goes_158 q29 x1 x2 x3 x3 (f 165 0) _ h
def FX11_goes_99 (k29 : Int → Int → Int → Mm → Option Mm) (k66 : Int → Int → Int → Int → Mm → Option Mm) (x1 : Int) (x2 : Int) (x3 : Int) (x4 : Int) (f : Mm) : Option Mm := (if 0 ≤ x4 ∧ x4 < 2 then (if 0 ≤ (w32 ((w32 (2 * x3)) + x4)) ∧ (w32 ((w32 (2 * x3)) + x4)) < 12 then k66 x1 x2 x3 (w32 (x4 + 1)) (up f 163 (w32 ((w32 (2 * x3)) + x4)).toNat (f 165 x4.toNat)) else none) else none)
set_option maxHeartbeats 4000000 in
set_option maxRecDepth 100000 in
theorem SX11_goes_99 {G : GT} {l : Launch} {Q : Option AV → Mem → Prop} {k29 : Int → Int → Int → Mm → Option Mm} {k66 : Int → Int → Int → Int → Mm → Option Mm} (q29 : ∀ (x1 : Int) (x2 : Int) (x3 : Int) (f : Mm), OkV Q (k29 x1 x2 x3 f) → Ev G l MX11_goes (Rm 3 0 0) (ZM G Q 0 0) 0 0 29 [some (vR 150), some (vI x1), some (vI x2), some (vI x3), none] [] (SH, RF, f)) (q66 : ∀ (x1 : Int) (x2 : Int) (x3 : Int) (x4 : Int) (f : Mm), OkV Q (k66 x1 x2 x3 x4 f) → Ev G l MX11_goes (Rm 3 0 0) (ZM G Q 0 0) 0 0 66 [some (vR 150), some (vI x1), some (vI x2), some (vI x3), some (vI x4)] [] (SH, RF, f)) (x1 : Int) (x2 : Int) (x3 : Int) (x4 : Int) (f : Mm) (h : OkV Q (FX11_goes_99 k29 k66 x1 x2 x3 x4 f)) : Ev G l MX11_goes (Rm 3 0 0) (ZM G Q 0 0) 0 0 99 [some (vR 150), some (vI x1), some (vI x2), some (vI x3), some (vI x4)] [] (SH, RF, f) := by
  unfold FX11_goes_99 at h
  refine ev_aload_n (i := 0) dX11_goes_99 rfl rfl ?_
  refine ev_getR dX11_goes_100 fl_X11_53 sh_150 (by decide) (by decide) rf_150_25 ?_
  refine ev_iconst dX11_goes_103 (r32c rfl) ?_
  refine ev_iload_n (i := 3) dX11_goes_104 rfl rfl ?_
  refine ev_imul dX11_goes_105 ?_
  refine ev_iload dX11_goes_106 rfl ?_
  refine ev_iadd dX11_goes_108 ?_
  refine ev_aload_n (i := 0) dX11_goes_109 rfl rfl ?_
  refine ev_getR dX11_goes_110 fl_X11_59 sh_150 (by decide) (by decide) rf_150_27 ?_
  refine ev_iload dX11_goes_113 rfl ?_
  by_cases g1 : 0 ≤ x4 ∧ x4 < 2
  · rw [if_pos g1] at h
    refine ex_iald (x := (f 165 x4.toNat)) dX11_goes_115 sh_165 g1.1 g1.2 rfl ?_
    by_cases g2 : 0 ≤ (w32 ((w32 (2 * x3)) + x4)) ∧ (w32 ((w32 (2 * x3)) + x4)) < 12
    · rw [if_pos g2] at h
      refine ex_iast (j := (w32 ((w32 (2 * x3)) + x4)).toNat) dX11_goes_116 sh_163 g2.1 g2.2 rfl ?_
      refine ev_iinc (L' := [some (vR 150), some (vI x1), some (vI x2), some (vI x3), some (vI (w32 (x4 + 1)))]) dX11_goes_117 rfl (by decide) rfl ?_
      refine ev_goto (tgt := 66) dX11_goes_120 (by decide) ?_
      exact q66 x1 x2 x3 (w32 (x4 + 1)) _ h
    · rw [if_neg g2] at h; exact h.elim
  · rw [if_neg g1] at h; exact h.elim
def FX11_goes_66 (k29 : Int → Int → Int → Mm → Option Mm) : Nat → Int → Int → Int → Int → Mm → Option Mm
  | 0, _, _, _, _, _ => none
  | n + 1, x1, x2, x3, x4, f => (if 2 ≤ x4 then FX11_goes_123 k29 x1 x2 x3 f else (b2 (FX11_isBit x1 x3 f) fun y1 f1 => (if y1 = 0 then FX11_goes_99 k29 (FX11_goes_66 k29 n) x1 x2 x3 x4 f1 else (if 0 ≤ x4 ∧ x4 < 2 then (b2 (FX11_held (w32 ((f1 165 x4.toNat) - 5)) f1) fun y3 f3 => (if 0 ≤ x4 ∧ x4 < 2 then FX11_goes_99 k29 (FX11_goes_66 k29 n) x1 x2 x3 x4 (up f3 165 x4.toNat y3) else none)) else none))))
set_option maxHeartbeats 4000000 in
set_option maxRecDepth 100000 in
theorem SX11_goes_66 {G : GT} {l : Launch} {Q : Option AV → Mem → Prop} {k29 : Int → Int → Int → Mm → Option Mm} (q29 : ∀ (x1 : Int) (x2 : Int) (x3 : Int) (f : Mm), OkV Q (k29 x1 x2 x3 f) → Ev G l MX11_goes (Rm 3 0 0) (ZM G Q 0 0) 0 0 29 [some (vR 150), some (vI x1), some (vI x2), some (vI x3), none] [] (SH, RF, f)) : ∀ (n : Nat) (x1 : Int) (x2 : Int) (x3 : Int) (x4 : Int) (f : Mm), OkV Q (FX11_goes_66 k29 n x1 x2 x3 x4 f) → Ev G l MX11_goes (Rm 3 0 0) (ZM G Q 0 0) 0 0 66 [some (vR 150), some (vI x1), some (vI x2), some (vI x3), some (vI x4)] [] (SH, RF, f) := by
  intro n
  induction n with
  | zero => intro x1 x2 x3 x4 f h; exact absurd h (by rw [FX11_goes_66]; exact fun q => q)
  | succ n ih =>
    intro x1 x2 x3 x4 f h
    rw [FX11_goes_66] at h
    refine ev_iload dX11_goes_66 rfl ?_
    refine ev_iconst dX11_goes_68 (r32c rfl) ?_
    refine ev_icmp_ge (tgt := 123) dX11_goes_69 (by decide) (fun c6 => ?_) (fun c6 => ?_)
    · rw [if_pos c6] at h
      refine ev_fg [true, true, true, true, false] rfl ?_
      exact SX11_goes_123 q29 x1 x2 x3 _ h
    · rw [if_neg c6] at h
      refine ev_iload_n (i := 1) dX11_goes_72 rfl rfl ?_
      refine ev_iload_n (i := 3) dX11_goes_73 rfl rfl ?_
      refine ev_cSI (av := [vI x1, vI x3]) (S := []) (fun q => q) h dX11_goes_74 (fun Q' q => TX11_isBit x1 x3 _ q) ksX11_isBit ml_X11_289 rfl (RRc (by decide) (by decide)) (Nat.le_of_ble_eq_true rfl) ⟨Nat.le_of_ble_eq_true rfl, Nat.le_of_ble_eq_true rfl⟩ (fun y1 f1 h => ?_)
      refine ev_if_eq (tgt := 99) dX11_goes_77 (by decide) (fun c5 => ?_) (fun c5 => ?_)
      · rw [if_pos c5] at h
        exact SX11_goes_99 q29 ih x1 x2 x3 x4 _ h
      · rw [if_neg c5] at h
        refine ev_aload_n (i := 0) dX11_goes_80 rfl rfl ?_
        refine ev_getR dX11_goes_81 fl_X11_59 sh_150 (by decide) (by decide) rf_150_27 ?_
        refine ev_iload dX11_goes_84 rfl ?_
        refine ev_aload_n (i := 0) dX11_goes_86 rfl rfl ?_
        refine ev_getR dX11_goes_87 fl_X11_59 sh_150 (by decide) (by decide) rf_150_27 ?_
        refine ev_iload dX11_goes_90 rfl ?_
        by_cases g2 : 0 ≤ x4 ∧ x4 < 2
        · rw [if_pos g2] at h
          refine ex_iald (x := (f1 165 x4.toNat)) dX11_goes_92 sh_165 g2.1 g2.2 rfl ?_
          refine ev_iconst dX11_goes_93 (r32c rfl) ?_
          refine ev_isub dX11_goes_94 ?_
          refine ev_cSI (av := [vI (w32 ((f1 165 x4.toNat) - 5))]) (S := [vI x4, vR 165]) (fun q => q) h dX11_goes_95 (fun Q' q => TX11_held (w32 ((f1 165 x4.toNat) - 5)) _ q) ksX11_held ml_X11_280 rfl (RRc (by decide) (by decide)) (Nat.le_of_ble_eq_true rfl) ⟨Nat.le_of_ble_eq_true rfl, Nat.le_of_ble_eq_true rfl⟩ (fun y3 f3 h => ?_)
          by_cases g4 : 0 ≤ x4 ∧ x4 < 2
          · rw [if_pos g4] at h
            refine ex_iast (j := x4.toNat) dX11_goes_98 sh_165 g4.1 g4.2 rfl ?_
            exact SX11_goes_99 q29 ih x1 x2 x3 x4 _ h
          · rw [if_neg g4] at h; exact h.elim
        · rw [if_neg g2] at h; exact h.elim
def FX11_goes_63 (k29 : Int → Int → Int → Mm → Option Mm) (x1 : Int) (x2 : Int) (x3 : Int) (f : Mm) : Option Mm := FX11_goes_66 k29 fu x1 x2 x3 0 f
set_option maxHeartbeats 4000000 in
set_option maxRecDepth 100000 in
theorem SX11_goes_63 {G : GT} {l : Launch} {Q : Option AV → Mem → Prop} {k29 : Int → Int → Int → Mm → Option Mm} (q29 : ∀ (x1 : Int) (x2 : Int) (x3 : Int) (f : Mm), OkV Q (k29 x1 x2 x3 f) → Ev G l MX11_goes (Rm 3 0 0) (ZM G Q 0 0) 0 0 29 [some (vR 150), some (vI x1), some (vI x2), some (vI x3), none] [] (SH, RF, f)) (x1 : Int) (x2 : Int) (x3 : Int) (f : Mm) (h : OkV Q (FX11_goes_63 k29 x1 x2 x3 f)) : Ev G l MX11_goes (Rm 3 0 0) (ZM G Q 0 0) 0 0 63 [some (vR 150), some (vI x1), some (vI x2), some (vI x3), none] [] (SH, RF, f) := by
  unfold FX11_goes_63 at h
  refine ev_iconst dX11_goes_63 (r32c rfl) ?_
  refine ev_istore (L' := [some (vR 150), some (vI x1), some (vI x2), some (vI x3), some (vI 0)]) dX11_goes_64 (by decide) rfl ?_
  exact SX11_goes_66 q29 fu x1 x2 x3 0 _ h
def FX11_goes_29  : Nat → Int → Int → Int → Mm → Option Mm
  | 0, _, _, _, _ => none
  | n + 1, x1, x2, x3, f => (b2 (FX11_days f) fun y1 f1 => (if y1 ≤ x3 then some f1 else (if 0 ≤ x3 ∧ x3 < 6 then ((FX11_feelsOf (f1 162 x3.toNat) f1).bind fun f3 => (if x3 = (f3 150 23) then ((FX11_feelsOf (f3 150 24) f3).bind fun f4 => FX11_goes_63 (FX11_goes_29 n) x1 x2 x3 f4) else FX11_goes_63 (FX11_goes_29 n) x1 x2 x3 f3)) else none)))
set_option maxHeartbeats 4000000 in
set_option maxRecDepth 100000 in
theorem SX11_goes_29 {G : GT} {l : Launch} {Q : Option AV → Mem → Prop}  : ∀ (n : Nat) (x1 : Int) (x2 : Int) (x3 : Int) (f : Mm), OkV Q (FX11_goes_29  n x1 x2 x3 f) → Ev G l MX11_goes (Rm 3 0 0) (ZM G Q 0 0) 0 0 29 [some (vR 150), some (vI x1), some (vI x2), some (vI x3), none] [] (SH, RF, f) := by
  intro n
  induction n with
  | zero => intro x1 x2 x3 f h; exact absurd h (by rw [FX11_goes_29]; exact fun q => q)
  | succ n ih =>
    intro x1 x2 x3 f h
    rw [FX11_goes_29] at h
    refine ev_iload_n (i := 3) dX11_goes_29 rfl rfl ?_
    refine ev_aload_n (i := 0) dX11_goes_30 rfl rfl ?_
    refine ev_cVI (b := 150) (av := []) (S := [vI x3]) (fun q => q) h dX11_goes_31 (fun Q' q => TX11_days _ q) kvX11_days ml_X11_266 sh_150 rfl (RRc (by decide) (by decide)) (Nat.le_of_ble_eq_true rfl) ⟨Nat.le_of_ble_eq_true rfl, Nat.le_of_ble_eq_true rfl⟩ (fun y1 f1 h => ?_)
    refine ev_icmp_ge (tgt := 199) dX11_goes_34 (by decide) (fun c6 => ?_) (fun c6 => ?_)
    · rw [if_pos c6] at h
      exact ev_vret rfl dX11_goes_199 h
    · rw [if_neg c6] at h
      refine ev_aload_n (i := 0) dX11_goes_37 rfl rfl ?_
      refine ev_aload_n (i := 0) dX11_goes_38 rfl rfl ?_
      refine ev_getR dX11_goes_39 fl_X11_50 sh_150 (by decide) (by decide) rf_150_22 ?_
      refine ev_iload_n (i := 3) dX11_goes_42 rfl rfl ?_
      by_cases g2 : 0 ≤ x3 ∧ x3 < 6
      · rw [if_pos g2] at h
        refine ex_iald (x := (f1 162 x3.toNat)) dX11_goes_43 sh_162 g2.1 g2.2 rfl ?_
        refine ev_cVV (b := 150) (av := [vI (f1 162 x3.toNat)]) (S := []) (fun q => q) h dX11_goes_44 (fun Q' q => TX11_feelsOf (f1 162 x3.toNat) _ q) kvX11_feelsOf ml_X11_283 sh_150 rfl (RRc (by decide) (by decide)) (Nat.le_of_ble_eq_true rfl) ⟨Nat.le_of_ble_eq_true rfl, Nat.le_of_ble_eq_true rfl⟩ (fun f3 h => ?_)
        refine ev_iload_n (i := 3) dX11_goes_47 rfl rfl ?_
        refine ev_aload_n (i := 0) dX11_goes_48 rfl rfl ?_
        refine ex_getI (x := (f3 150 23)) dX11_goes_49 fl_X11_277 sh_150 (by decide) (by decide) rfl ?_
        refine ev_icmp_ne (tgt := 63) dX11_goes_52 (by decide) (fun c5 => ?_) (fun c5 => ?_)
        · rw [if_neg c5] at h
          exact SX11_goes_63 ih x1 x2 x3 _ h
        · rw [if_pos c5] at h
          refine ev_aload_n (i := 0) dX11_goes_55 rfl rfl ?_
          refine ev_aload_n (i := 0) dX11_goes_56 rfl rfl ?_
          refine ex_getI (x := (f3 150 24)) dX11_goes_57 fl_X11_286 sh_150 (by decide) (by decide) rfl ?_
          refine ev_cVV (b := 150) (av := [vI (f3 150 24)]) (S := []) (fun q => q) h dX11_goes_60 (fun Q' q => TX11_feelsOf (f3 150 24) _ q) kvX11_feelsOf ml_X11_283 sh_150 rfl (RRc (by decide) (by decide)) (Nat.le_of_ble_eq_true rfl) ⟨Nat.le_of_ble_eq_true rfl, Nat.le_of_ble_eq_true rfl⟩ (fun f4 h => ?_)
          exact SX11_goes_63 ih x1 x2 x3 _ h
      · rw [if_neg g2] at h; exact h.elim
def FX11_goes_27  (x1 : Int) (x2 : Int) (f : Mm) : Option Mm := FX11_goes_29 fu x1 x2 0 f
set_option maxHeartbeats 4000000 in
set_option maxRecDepth 100000 in
theorem SX11_goes_27 {G : GT} {l : Launch} {Q : Option AV → Mem → Prop}  (x1 : Int) (x2 : Int) (f : Mm) (h : OkV Q (FX11_goes_27  x1 x2 f)) : Ev G l MX11_goes (Rm 3 0 0) (ZM G Q 0 0) 0 0 27 [some (vR 150), some (vI x1), some (vI x2), none, none] [] (SH, RF, f) := by
  unfold FX11_goes_27 at h
  refine ev_iconst dX11_goes_27 (r32c rfl) ?_
  refine ev_istore_n (i := 3) (L' := [some (vR 150), some (vI x1), some (vI x2), some (vI 0), none]) dX11_goes_28 rfl (by decide) rfl ?_
  exact SX11_goes_29  fu x1 x2 0 _ h
def FX11_goes_2  : Nat → Int → Int → Int → Mm → Option Mm
  | 0, _, _, _, _ => none
  | n + 1, x1, x2, x3, f => (if 2 ≤ x3 then FX11_goes_27 x1 x2 f else (if 0 ≤ (w32 (1 + x3)) ∧ (w32 (1 + x3)) < 40 then (if 0 ≤ x3 ∧ x3 < 2 then FX11_goes_2 n x1 x2 (w32 (x3 + 1)) (up f 165 x3.toNat (f 157 (w32 (1 + x3)).toNat)) else none) else none))
set_option maxHeartbeats 4000000 in
set_option maxRecDepth 100000 in
theorem SX11_goes_2 {G : GT} {l : Launch} {Q : Option AV → Mem → Prop}  : ∀ (n : Nat) (x1 : Int) (x2 : Int) (x3 : Int) (f : Mm), OkV Q (FX11_goes_2  n x1 x2 x3 f) → Ev G l MX11_goes (Rm 3 0 0) (ZM G Q 0 0) 0 0 2 [some (vR 150), some (vI x1), some (vI x2), some (vI x3), none] [] (SH, RF, f) := by
  intro n
  induction n with
  | zero => intro x1 x2 x3 f h; exact absurd h (by rw [FX11_goes_2]; exact fun q => q)
  | succ n ih =>
    intro x1 x2 x3 f h
    rw [FX11_goes_2] at h
    refine ev_iload_n (i := 3) dX11_goes_2 rfl rfl ?_
    refine ev_iconst dX11_goes_3 (r32c rfl) ?_
    refine ev_icmp_ge (tgt := 27) dX11_goes_4 (by decide) (fun c3 => ?_) (fun c3 => ?_)
    · rw [if_pos c3] at h
      refine ev_fg [true, true, true, false, true] rfl ?_
      exact SX11_goes_27  x1 x2 _ h
    · rw [if_neg c3] at h
      refine ev_aload_n (i := 0) dX11_goes_7 rfl rfl ?_
      refine ev_getR dX11_goes_8 fl_X11_59 sh_150 (by decide) (by decide) rf_150_27 ?_
      refine ev_iload_n (i := 3) dX11_goes_11 rfl rfl ?_
      refine ev_aload_n (i := 0) dX11_goes_12 rfl rfl ?_
      refine ev_getR dX11_goes_13 fl_X11_34 sh_150 (by decide) (by decide) rf_150_17 ?_
      refine ev_iconst dX11_goes_16 (r32c rfl) ?_
      refine ev_iload_n (i := 3) dX11_goes_17 rfl rfl ?_
      refine ev_iadd dX11_goes_18 ?_
      by_cases g1 : 0 ≤ (w32 (1 + x3)) ∧ (w32 (1 + x3)) < 40
      · rw [if_pos g1] at h
        refine ex_iald (x := (f 157 (w32 (1 + x3)).toNat)) dX11_goes_19 sh_157 g1.1 g1.2 rfl ?_
        by_cases g2 : 0 ≤ x3 ∧ x3 < 2
        · rw [if_pos g2] at h
          refine ex_iast (j := x3.toNat) dX11_goes_20 sh_165 g2.1 g2.2 rfl ?_
          refine ev_iinc (L' := [some (vR 150), some (vI x1), some (vI x2), some (vI (w32 (x3 + 1))), none]) dX11_goes_21 rfl (by decide) rfl ?_
          refine ev_goto (tgt := 2) dX11_goes_24 (by decide) ?_
          exact ih x1 x2 (w32 (x3 + 1)) _ h
        · rw [if_neg g2] at h; exact h.elim
      · rw [if_neg g1] at h; exact h.elim
def FX11_goes_0  (x1 : Int) (x2 : Int) (f : Mm) : Option Mm := FX11_goes_2 fu x1 x2 0 f
set_option maxHeartbeats 4000000 in
set_option maxRecDepth 100000 in
theorem SX11_goes_0 {G : GT} {l : Launch} {Q : Option AV → Mem → Prop}  (x1 : Int) (x2 : Int) (f : Mm) (h : OkV Q (FX11_goes_0  x1 x2 f)) : Ev G l MX11_goes (Rm 3 0 0) (ZM G Q 0 0) 0 0 0 [some (vR 150), some (vI x1), some (vI x2), none, none] [] (SH, RF, f) := by
  unfold FX11_goes_0 at h
  refine ev_iconst dX11_goes_0 (r32c rfl) ?_
  refine ev_istore_n (i := 3) (L' := [some (vR 150), some (vI x1), some (vI x2), some (vI 0), none]) dX11_goes_1 rfl (by decide) rfl ?_
  exact SX11_goes_2  fu x1 x2 0 _ h
def FX11_goes (x1 : Int) (x2 : Int) (f : Mm) : Option Mm := FX11_goes_0 x1 x2 f
set_option maxRecDepth 100000 in
theorem TX11_goes {G : GT} {l : Launch} {Q : Option AV → Mem → Prop} (x1 : Int) (x2 : Int) (f : Mm) (h : OkV Q (FX11_goes x1 x2 f)) : Ret G l MX11_goes (3) 0 0 [vR 150, vI x1, vI x2] (SH, RF, f) Q := by
  refine ret_of (L := [some (vR 150), some (vI x1), some (vI x2), none, none]) (by decide) rfl (Nat.le_of_ble_eq_true rfl) ?_
  exact SX11_goes_0 x1 x2 f h
theorem dX11_goes__0 : decode cX11_goes_ 0 = .ok (.aload_n 0, 1) := by decide +kernel
theorem dX11_goes__1 : decode cX11_goes_ 1 = .ok (.iconst 0, 1) := by decide +kernel
theorem dX11_goes__2 : decode cX11_goes_ 2 = .ok (.aload_n 0, 1) := by decide +kernel
theorem dX11_goes__3 : decode cX11_goes_ 3 = .ok (.getfield 34, 3) := by decide +kernel
theorem dX11_goes__6 : decode cX11_goes_ 6 = .ok (.iconst 3, 1) := by decide +kernel
theorem dX11_goes__7 : decode cX11_goes_ 7 = .ok (.iaload, 1) := by decide +kernel
theorem dX11_goes__8 : decode cX11_goes_ 8 = .ok (.invokevirtual 293, 3) := by decide +kernel
theorem dX11_goes__11 : decode cX11_goes_ 11 = .ok (.return_, 1) := by decide +kernel
def FX11_goes__0   (f : Mm) : Option Mm := ((FX11_goes 0 (f 157 3) f).bind fun f1 => some f1)
set_option maxHeartbeats 4000000 in
set_option maxRecDepth 100000 in
theorem SX11_goes__0 {G : GT} {l : Launch} {Q : Option AV → Mem → Prop}   (f : Mm) (h : OkV Q (FX11_goes__0   f)) : Ev G l MX11_goes_ (Rm 4 0 0) (ZM G Q 0 0) 0 0 0 [some (vR 150)] [] (SH, RF, f) := by
  unfold FX11_goes__0 at h
  refine ev_aload_n (i := 0) dX11_goes__0 rfl rfl ?_
  refine ev_iconst dX11_goes__1 (r32c rfl) ?_
  refine ev_aload_n (i := 0) dX11_goes__2 rfl rfl ?_
  refine ev_getR dX11_goes__3 fl_X11_34 sh_150 (by decide) (by decide) rf_150_17 ?_
  refine ev_iconst dX11_goes__6 (r32c rfl) ?_
  refine ex_iald (x := (f 157 3)) dX11_goes__7 sh_157 (by decide) (by decide) rfl ?_
  refine ev_cVV (b := 150) (av := [vI 0, vI (f 157 3)]) (S := []) (fun q => q) h dX11_goes__8 (fun Q' q => TX11_goes 0 (f 157 3) _ q) kvX11_goes ml_X11_293 sh_150 rfl (RRc (by decide) (by decide)) (Nat.le_of_ble_eq_true rfl) ⟨Nat.le_of_ble_eq_true rfl, Nat.le_of_ble_eq_true rfl⟩ (fun f1 h => ?_)
  exact ev_vret rfl dX11_goes__11 h
def FX11_goes_  (f : Mm) : Option Mm := FX11_goes__0  f
set_option maxRecDepth 100000 in
theorem TX11_goes_ {G : GT} {l : Launch} {Q : Option AV → Mem → Prop}  (f : Mm) (h : OkV Q (FX11_goes_  f)) : Ret G l MX11_goes_ (4) 0 0 [vR 150] (SH, RF, f) Q := by
  refine ret_of (L := [some (vR 150)]) (by decide) rfl (Nat.le_of_ble_eq_true rfl) ?_
  exact SX11_goes__0  f h
theorem dX11_laysNow_0 : decode cX11_laysNow 0 = .ok (.aload_n 0, 1) := by decide +kernel
theorem dX11_laysNow_1 : decode cX11_laysNow 1 = .ok (.invokevirtual 296, 3) := by decide +kernel
theorem dX11_laysNow_4 : decode cX11_laysNow 4 = .ok (.aload_n 0, 1) := by decide +kernel
theorem dX11_laysNow_5 : decode cX11_laysNow 5 = .ok (.invokevirtual 299, 3) := by decide +kernel
theorem dX11_laysNow_8 : decode cX11_laysNow 8 = .ok (.return_, 1) := by decide +kernel
def FX11_laysNow_0   (f : Mm) : Option Mm := ((FX11_lays f).bind fun f1 => ((FX11_goes_ f1).bind fun f2 => some f2))
set_option maxHeartbeats 4000000 in
set_option maxRecDepth 100000 in
theorem SX11_laysNow_0 {G : GT} {l : Launch} {Q : Option AV → Mem → Prop}   (f : Mm) (h : OkV Q (FX11_laysNow_0   f)) : Ev G l MX11_laysNow (Rm 5 0 0) (ZM G Q 0 0) 0 0 0 [some (vR 150)] [] (SH, RF, f) := by
  unfold FX11_laysNow_0 at h
  refine ev_aload_n (i := 0) dX11_laysNow_0 rfl rfl ?_
  refine ev_cVV (b := 150) (av := []) (S := []) (fun q => q) h dX11_laysNow_1 (fun Q' q => TX11_lays _ q) kvX11_lays ml_X11_296 sh_150 rfl (RRc (by decide) (by decide)) (Nat.le_of_ble_eq_true rfl) ⟨Nat.le_of_ble_eq_true rfl, Nat.le_of_ble_eq_true rfl⟩ (fun f1 h => ?_)
  refine ev_aload_n (i := 0) dX11_laysNow_4 rfl rfl ?_
  refine ev_cVV (b := 150) (av := []) (S := []) (fun q => q) h dX11_laysNow_5 (fun Q' q => TX11_goes_ _ q) kvX11_goes_ ml_X11_299 sh_150 rfl (RRc (by decide) (by decide)) (Nat.le_of_ble_eq_true rfl) ⟨Nat.le_of_ble_eq_true rfl, Nat.le_of_ble_eq_true rfl⟩ (fun f2 h => ?_)
  exact ev_vret rfl dX11_laysNow_8 h
def FX11_laysNow  (f : Mm) : Option Mm := FX11_laysNow_0  f
set_option maxRecDepth 100000 in
theorem TX11_laysNow {G : GT} {l : Launch} {Q : Option AV → Mem → Prop}  (f : Mm) (h : OkV Q (FX11_laysNow  f)) : Ret G l MX11_laysNow (5) 0 0 [vR 150] (SH, RF, f) Q := by
  refine ret_of (L := [some (vR 150)]) (by decide) rfl (Nat.le_of_ble_eq_true rfl) ?_
  exact SX11_laysNow_0  f h
theorem dX11_byNumbers_2 : decode cX11_byNumbers 2 = .ok (.iload_n 1, 1) := by decide +kernel
theorem dX11_byNumbers_3 : decode cX11_byNumbers 3 = .ok (.bipush 6, 2) := by decide +kernel
theorem dX11_byNumbers_5 : decode cX11_byNumbers 5 = .ok (.if_icmp .ge 16, 3) := by decide +kernel
theorem dX11_byNumbers_21 : decode cX11_byNumbers 21 = .ok (.return_, 1) := by decide +kernel
theorem dX11_byNumbers_8 : decode cX11_byNumbers 8 = .ok (.aload_n 0, 1) := by decide +kernel
theorem dX11_byNumbers_9 : decode cX11_byNumbers 9 = .ok (.getfield 62, 3) := by decide +kernel
theorem dX11_byNumbers_12 : decode cX11_byNumbers 12 = .ok (.iload_n 1, 1) := by decide +kernel
theorem dX11_byNumbers_13 : decode cX11_byNumbers 13 = .ok (.iload_n 1, 1) := by decide +kernel
theorem dX11_byNumbers_14 : decode cX11_byNumbers 14 = .ok (.iastore, 1) := by decide +kernel
theorem dX11_byNumbers_15 : decode cX11_byNumbers 15 = .ok (.iinc 1 1, 3) := by decide +kernel
theorem dX11_byNumbers_18 : decode cX11_byNumbers 18 = .ok (.goto (-16), 3) := by decide +kernel
theorem dX11_byNumbers_0 : decode cX11_byNumbers 0 = .ok (.iconst 0, 1) := by decide +kernel
theorem dX11_byNumbers_1 : decode cX11_byNumbers 1 = .ok (.istore_n 1, 1) := by decide +kernel
def FX11_byNumbers_2  : Nat → Int → Mm → Option Mm
  | 0, _, _ => none
  | n + 1, x1, f => (if 6 ≤ x1 then some f else (if 0 ≤ x1 ∧ x1 < 6 then FX11_byNumbers_2 n (w32 (x1 + 1)) (up f 166 x1.toNat x1) else none))
set_option maxHeartbeats 4000000 in
set_option maxRecDepth 100000 in
theorem SX11_byNumbers_2 {G : GT} {l : Launch} {Q : Option AV → Mem → Prop}  : ∀ (n : Nat) (x1 : Int) (f : Mm), OkV Q (FX11_byNumbers_2  n x1 f) → Ev G l MX11_byNumbers (Rm 1 0 0) (ZM G Q 0 0) 0 0 2 [some (vR 150), some (vI x1)] [] (SH, RF, f) := by
  intro n
  induction n with
  | zero => intro x1 f h; exact absurd h (by rw [FX11_byNumbers_2]; exact fun q => q)
  | succ n ih =>
    intro x1 f h
    rw [FX11_byNumbers_2] at h
    refine ev_iload_n (i := 1) dX11_byNumbers_2 rfl rfl ?_
    refine ev_bipush (v := 6) dX11_byNumbers_3 (r32c rfl) (by decide) ?_
    refine ev_icmp_ge (tgt := 21) dX11_byNumbers_5 (by decide) (fun c2 => ?_) (fun c2 => ?_)
    · rw [if_pos c2] at h
      exact ev_vret rfl dX11_byNumbers_21 h
    · rw [if_neg c2] at h
      refine ev_aload_n (i := 0) dX11_byNumbers_8 rfl rfl ?_
      refine ev_getR dX11_byNumbers_9 fl_X11_62 sh_150 (by decide) (by decide) rf_150_28 ?_
      refine ev_iload_n (i := 1) dX11_byNumbers_12 rfl rfl ?_
      refine ev_iload_n (i := 1) dX11_byNumbers_13 rfl rfl ?_
      by_cases g1 : 0 ≤ x1 ∧ x1 < 6
      · rw [if_pos g1] at h
        refine ex_iast (j := x1.toNat) dX11_byNumbers_14 sh_166 g1.1 g1.2 rfl ?_
        refine ev_iinc (L' := [some (vR 150), some (vI (w32 (x1 + 1)))]) dX11_byNumbers_15 rfl (by decide) rfl ?_
        refine ev_goto (tgt := 2) dX11_byNumbers_18 (by decide) ?_
        exact ih (w32 (x1 + 1)) _ h
      · rw [if_neg g1] at h; exact h.elim
def FX11_byNumbers_0   (f : Mm) : Option Mm := FX11_byNumbers_2 fu 0 f
set_option maxHeartbeats 4000000 in
set_option maxRecDepth 100000 in
theorem SX11_byNumbers_0 {G : GT} {l : Launch} {Q : Option AV → Mem → Prop}   (f : Mm) (h : OkV Q (FX11_byNumbers_0   f)) : Ev G l MX11_byNumbers (Rm 1 0 0) (ZM G Q 0 0) 0 0 0 [some (vR 150), none] [] (SH, RF, f) := by
  unfold FX11_byNumbers_0 at h
  refine ev_iconst dX11_byNumbers_0 (r32c rfl) ?_
  refine ev_istore_n (i := 1) (L' := [some (vR 150), some (vI 0)]) dX11_byNumbers_1 rfl (by decide) rfl ?_
  exact SX11_byNumbers_2  fu 0 _ h
def FX11_byNumbers  (f : Mm) : Option Mm := FX11_byNumbers_0  f
set_option maxRecDepth 100000 in
theorem TX11_byNumbers {G : GT} {l : Launch} {Q : Option AV → Mem → Prop}  (f : Mm) (h : OkV Q (FX11_byNumbers  f)) : Ret G l MX11_byNumbers (1) 0 0 [vR 150] (SH, RF, f) Q := by
  refine ret_of (L := [some (vR 150), none]) (by decide) rfl (Nat.le_of_ble_eq_true rfl) ?_
  exact SX11_byNumbers_0  f h
theorem dX11_passes_128 : decode cX11_passes 128 = .ok (.aload_n 0, 1) := by decide +kernel
theorem dX11_passes_129 : decode cX11_passes 129 = .ok (.getfield 68, 3) := by decide +kernel
theorem dX11_passes_132 : decode cX11_passes 132 = .ok (.iload_n 1, 1) := by decide +kernel
theorem dX11_passes_133 : decode cX11_passes 133 = .ok (.iload_n 2, 1) := by decide +kernel
theorem dX11_passes_134 : decode cX11_passes 134 = .ok (.iastore, 1) := by decide +kernel
theorem dX11_passes_135 : decode cX11_passes 135 = .ok (.iinc 1 1, 3) := by decide +kernel
theorem dX11_passes_138 : decode cX11_passes 138 = .ok (.goto (-115), 3) := by decide +kernel
theorem dX11_passes_122 : decode cX11_passes 122 = .ok (.iinc 3 1, 3) := by decide +kernel
theorem dX11_passes_125 : decode cX11_passes 125 = .ok (.goto (-85), 3) := by decide +kernel
theorem dX11_passes_40 : decode cX11_passes 40 = .ok (.iload_n 3, 1) := by decide +kernel
theorem dX11_passes_41 : decode cX11_passes 41 = .ok (.aload_n 0, 1) := by decide +kernel
theorem dX11_passes_42 : decode cX11_passes 42 = .ok (.invokevirtual 269, 3) := by decide +kernel
theorem dX11_passes_45 : decode cX11_passes 45 = .ok (.if_icmp .ge 83, 3) := by decide +kernel
theorem dX11_passes_48 : decode cX11_passes 48 = .ok (.aload_n 0, 1) := by decide +kernel
theorem dX11_passes_49 : decode cX11_passes 49 = .ok (.getfield 62, 3) := by decide +kernel
theorem dX11_passes_52 : decode cX11_passes 52 = .ok (.iload_n 3, 1) := by decide +kernel
theorem dX11_passes_53 : decode cX11_passes 53 = .ok (.iaload, 1) := by decide +kernel
theorem dX11_passes_54 : decode cX11_passes 54 = .ok (.istore 4, 2) := by decide +kernel
theorem dX11_passes_56 : decode cX11_passes 56 = .ok (.aload_n 0, 1) := by decide +kernel
theorem dX11_passes_57 : decode cX11_passes 57 = .ok (.getfield 65, 3) := by decide +kernel
theorem dX11_passes_60 : decode cX11_passes 60 = .ok (.iload 4, 2) := by decide +kernel
theorem dX11_passes_62 : decode cX11_passes 62 = .ok (.iaload, 1) := by decide +kernel
theorem dX11_passes_63 : decode cX11_passes 63 = .ok (.iconst (-1), 1) := by decide +kernel
theorem dX11_passes_64 : decode cX11_passes 64 = .ok (.if_icmp .ne 58, 3) := by decide +kernel
theorem dX11_passes_67 : decode cX11_passes 67 = .ok (.aload_n 0, 1) := by decide +kernel
theorem dX11_passes_68 : decode cX11_passes 68 = .ok (.getfield 40, 3) := by decide +kernel
theorem dX11_passes_71 : decode cX11_passes 71 = .ok (.iconst 5, 1) := by decide +kernel
theorem dX11_passes_72 : decode cX11_passes 72 = .ok (.iload 4, 2) := by decide +kernel
theorem dX11_passes_74 : decode cX11_passes 74 = .ok (.imul, 1) := by decide +kernel
theorem dX11_passes_75 : decode cX11_passes 75 = .ok (.iconst 2, 1) := by decide +kernel
theorem dX11_passes_76 : decode cX11_passes 76 = .ok (.iadd, 1) := by decide +kernel
theorem dX11_passes_77 : decode cX11_passes 77 = .ok (.iaload, 1) := by decide +kernel
theorem dX11_passes_78 : decode cX11_passes 78 = .ok (.iload_n 1, 1) := by decide +kernel
theorem dX11_passes_79 : decode cX11_passes 79 = .ok (.if_icmp .gt 43, 3) := by decide +kernel
theorem dX11_passes_82 : decode cX11_passes 82 = .ok (.aload_n 0, 1) := by decide +kernel
theorem dX11_passes_83 : decode cX11_passes 83 = .ok (.getfield 40, 3) := by decide +kernel
theorem dX11_passes_86 : decode cX11_passes 86 = .ok (.iconst 5, 1) := by decide +kernel
theorem dX11_passes_87 : decode cX11_passes 87 = .ok (.iload 4, 2) := by decide +kernel
theorem dX11_passes_89 : decode cX11_passes 89 = .ok (.imul, 1) := by decide +kernel
theorem dX11_passes_90 : decode cX11_passes 90 = .ok (.iconst 1, 1) := by decide +kernel
theorem dX11_passes_91 : decode cX11_passes 91 = .ok (.iadd, 1) := by decide +kernel
theorem dX11_passes_92 : decode cX11_passes 92 = .ok (.iaload, 1) := by decide +kernel
theorem dX11_passes_93 : decode cX11_passes 93 = .ok (.iload_n 2, 1) := by decide +kernel
theorem dX11_passes_94 : decode cX11_passes 94 = .ok (.if_icmp .le 6, 3) := by decide +kernel
theorem dX11_passes_100 : decode cX11_passes 100 = .ok (.aload_n 0, 1) := by decide +kernel
theorem dX11_passes_101 : decode cX11_passes 101 = .ok (.getfield 65, 3) := by decide +kernel
theorem dX11_passes_104 : decode cX11_passes 104 = .ok (.iload 4, 2) := by decide +kernel
theorem dX11_passes_106 : decode cX11_passes 106 = .ok (.iload_n 1, 1) := by decide +kernel
theorem dX11_passes_107 : decode cX11_passes 107 = .ok (.iastore, 1) := by decide +kernel
theorem dX11_passes_108 : decode cX11_passes 108 = .ok (.iload_n 2, 1) := by decide +kernel
theorem dX11_passes_109 : decode cX11_passes 109 = .ok (.aload_n 0, 1) := by decide +kernel
theorem dX11_passes_110 : decode cX11_passes 110 = .ok (.getfield 40, 3) := by decide +kernel
theorem dX11_passes_113 : decode cX11_passes 113 = .ok (.iconst 5, 1) := by decide +kernel
theorem dX11_passes_114 : decode cX11_passes 114 = .ok (.iload 4, 2) := by decide +kernel
theorem dX11_passes_116 : decode cX11_passes 116 = .ok (.imul, 1) := by decide +kernel
theorem dX11_passes_117 : decode cX11_passes 117 = .ok (.iconst 1, 1) := by decide +kernel
theorem dX11_passes_118 : decode cX11_passes 118 = .ok (.iadd, 1) := by decide +kernel
theorem dX11_passes_119 : decode cX11_passes 119 = .ok (.iaload, 1) := by decide +kernel
theorem dX11_passes_120 : decode cX11_passes 120 = .ok (.isub, 1) := by decide +kernel
theorem dX11_passes_121 : decode cX11_passes 121 = .ok (.istore_n 2, 1) := by decide +kernel
theorem dX11_passes_97 : decode cX11_passes 97 = .ok (.goto 25, 3) := by decide +kernel
theorem dX11_passes_23 : decode cX11_passes 23 = .ok (.iload_n 1, 1) := by decide +kernel
theorem dX11_passes_24 : decode cX11_passes 24 = .ok (.aload_n 0, 1) := by decide +kernel
theorem dX11_passes_25 : decode cX11_passes 25 = .ok (.invokevirtual 266, 3) := by decide +kernel
theorem dX11_passes_28 : decode cX11_passes 28 = .ok (.if_icmp .ge 113, 3) := by decide +kernel
theorem dX11_passes_141 : decode cX11_passes 141 = .ok (.return_, 1) := by decide +kernel
theorem dX11_passes_31 : decode cX11_passes 31 = .ok (.aload_n 0, 1) := by decide +kernel
theorem dX11_passes_32 : decode cX11_passes 32 = .ok (.getfield 56, 3) := by decide +kernel
theorem dX11_passes_35 : decode cX11_passes 35 = .ok (.iload_n 1, 1) := by decide +kernel
theorem dX11_passes_36 : decode cX11_passes 36 = .ok (.iaload, 1) := by decide +kernel
theorem dX11_passes_37 : decode cX11_passes 37 = .ok (.istore_n 2, 1) := by decide +kernel
theorem dX11_passes_38 : decode cX11_passes 38 = .ok (.iconst 0, 1) := by decide +kernel
theorem dX11_passes_39 : decode cX11_passes 39 = .ok (.istore_n 3, 1) := by decide +kernel
theorem dX11_passes_21 : decode cX11_passes 21 = .ok (.iconst 0, 1) := by decide +kernel
theorem dX11_passes_22 : decode cX11_passes 22 = .ok (.istore_n 1, 1) := by decide +kernel
theorem dX11_passes_2 : decode cX11_passes 2 = .ok (.iload_n 1, 1) := by decide +kernel
theorem dX11_passes_3 : decode cX11_passes 3 = .ok (.bipush 6, 2) := by decide +kernel
theorem dX11_passes_5 : decode cX11_passes 5 = .ok (.if_icmp .ge 16, 3) := by decide +kernel
theorem dX11_passes_8 : decode cX11_passes 8 = .ok (.aload_n 0, 1) := by decide +kernel
theorem dX11_passes_9 : decode cX11_passes 9 = .ok (.getfield 65, 3) := by decide +kernel
theorem dX11_passes_12 : decode cX11_passes 12 = .ok (.iload_n 1, 1) := by decide +kernel
theorem dX11_passes_13 : decode cX11_passes 13 = .ok (.iconst (-1), 1) := by decide +kernel
theorem dX11_passes_14 : decode cX11_passes 14 = .ok (.iastore, 1) := by decide +kernel
theorem dX11_passes_15 : decode cX11_passes 15 = .ok (.iinc 1 1, 3) := by decide +kernel
theorem dX11_passes_18 : decode cX11_passes 18 = .ok (.goto (-16), 3) := by decide +kernel
theorem dX11_passes_0 : decode cX11_passes 0 = .ok (.iconst 0, 1) := by decide +kernel
theorem dX11_passes_1 : decode cX11_passes 1 = .ok (.istore_n 1, 1) := by decide +kernel
def FX11_passes_128 (k23 : Int → Mm → Option Mm) (x1 : Int) (x2 : Int) (f : Mm) : Option Mm := (if 0 ≤ x1 ∧ x1 < 6 then k23 (w32 (x1 + 1)) (up f 168 x1.toNat x2) else none)
set_option maxHeartbeats 4000000 in
set_option maxRecDepth 100000 in
theorem SX11_passes_128 {G : GT} {l : Launch} {Q : Option AV → Mem → Prop} {k23 : Int → Mm → Option Mm} (q23 : ∀ (x1 : Int) (f : Mm), OkV Q (k23 x1 f) → Ev G l MX11_passes (Rm 2 0 0) (ZM G Q 0 0) 0 0 23 [some (vR 150), some (vI x1), none, none, none] [] (SH, RF, f)) (x1 : Int) (x2 : Int) (f : Mm) (h : OkV Q (FX11_passes_128 k23 x1 x2 f)) : Ev G l MX11_passes (Rm 2 0 0) (ZM G Q 0 0) 0 0 128 [some (vR 150), some (vI x1), some (vI x2), none, none] [] (SH, RF, f) := by
  unfold FX11_passes_128 at h
  refine ev_aload_n (i := 0) dX11_passes_128 rfl rfl ?_
  refine ev_getR dX11_passes_129 fl_X11_68 sh_150 (by decide) (by decide) rf_150_30 ?_
  refine ev_iload_n (i := 1) dX11_passes_132 rfl rfl ?_
  refine ev_iload_n (i := 2) dX11_passes_133 rfl rfl ?_
  by_cases g1 : 0 ≤ x1 ∧ x1 < 6
  · rw [if_pos g1] at h
    refine ex_iast (j := x1.toNat) dX11_passes_134 sh_168 g1.1 g1.2 rfl ?_
    refine ev_iinc (L' := [some (vR 150), some (vI (w32 (x1 + 1))), some (vI x2), none, none]) dX11_passes_135 rfl (by decide) rfl ?_
    refine ev_goto (tgt := 23) dX11_passes_138 (by decide) ?_
    refine ev_fg [true, true, false, true, true] rfl ?_
    exact q23 (w32 (x1 + 1)) _ h
  · rw [if_neg g1] at h; exact h.elim
def FX11_passes_122 (k23 : Int → Mm → Option Mm) (k40 : Int → Int → Int → Mm → Option Mm) (x1 : Int) (x2 : Int) (x3 : Int) (f : Mm) : Option Mm := k40 x1 x2 (w32 (x3 + 1)) f
set_option maxHeartbeats 4000000 in
set_option maxRecDepth 100000 in
theorem SX11_passes_122 {G : GT} {l : Launch} {Q : Option AV → Mem → Prop} {k23 : Int → Mm → Option Mm} {k40 : Int → Int → Int → Mm → Option Mm} (q23 : ∀ (x1 : Int) (f : Mm), OkV Q (k23 x1 f) → Ev G l MX11_passes (Rm 2 0 0) (ZM G Q 0 0) 0 0 23 [some (vR 150), some (vI x1), none, none, none] [] (SH, RF, f)) (q40 : ∀ (x1 : Int) (x2 : Int) (x3 : Int) (f : Mm), OkV Q (k40 x1 x2 x3 f) → Ev G l MX11_passes (Rm 2 0 0) (ZM G Q 0 0) 0 0 40 [some (vR 150), some (vI x1), some (vI x2), some (vI x3), none] [] (SH, RF, f)) (x1 : Int) (x2 : Int) (x3 : Int) (f : Mm) (h : OkV Q (FX11_passes_122 k23 k40 x1 x2 x3 f)) : Ev G l MX11_passes (Rm 2 0 0) (ZM G Q 0 0) 0 0 122 [some (vR 150), some (vI x1), some (vI x2), some (vI x3), none] [] (SH, RF, f) := by
  unfold FX11_passes_122 at h
  refine ev_iinc (L' := [some (vR 150), some (vI x1), some (vI x2), some (vI (w32 (x3 + 1))), none]) dX11_passes_122 rfl (by decide) rfl ?_
  refine ev_goto (tgt := 40) dX11_passes_125 (by decide) ?_
  exact q40 x1 x2 (w32 (x3 + 1)) _ h
def FX11_passes_40 (k23 : Int → Mm → Option Mm) : Nat → Int → Int → Int → Mm → Option Mm
  | 0, _, _, _, _ => none
  | n + 1, x1, x2, x3, f => (b2 (FX11_carts f) fun y1 f1 => (if y1 ≤ x3 then FX11_passes_128 k23 x1 x2 f1 else (if 0 ≤ x3 ∧ x3 < 6 then (if 0 ≤ (f1 166 x3.toNat) ∧ (f1 166 x3.toNat) < 6 then (if (f1 167 (f1 166 x3.toNat).toNat) = (-1) then (if 0 ≤ (w32 ((w32 (5 * (f1 166 x3.toNat))) + 2)) ∧ (w32 ((w32 (5 * (f1 166 x3.toNat))) + 2)) < 150 then (if x1 < (f1 159 (w32 ((w32 (5 * (f1 166 x3.toNat))) + 2)).toNat) then FX11_passes_122 k23 (FX11_passes_40 k23 n) x1 x2 x3 f1 else (if 0 ≤ (w32 ((w32 (5 * (f1 166 x3.toNat))) + 1)) ∧ (w32 ((w32 (5 * (f1 166 x3.toNat))) + 1)) < 150 then (if (f1 159 (w32 ((w32 (5 * (f1 166 x3.toNat))) + 1)).toNat) ≤ x2 then (if 0 ≤ (f1 166 x3.toNat) ∧ (f1 166 x3.toNat) < 6 then (if 0 ≤ (w32 ((w32 (5 * (f1 166 x3.toNat))) + 1)) ∧ (w32 ((w32 (5 * (f1 166 x3.toNat))) + 1)) < 150 then FX11_passes_122 k23 (FX11_passes_40 k23 n) x1 (w32 (x2 - (f1 159 (w32 ((w32 (5 * (f1 166 x3.toNat))) + 1)).toNat))) x3 (up f1 167 (f1 166 x3.toNat).toNat x1) else none) else none) else FX11_passes_122 k23 (FX11_passes_40 k23 n) x1 x2 x3 f1) else none)) else none) else FX11_passes_122 k23 (FX11_passes_40 k23 n) x1 x2 x3 f1) else none) else none)))
set_option maxHeartbeats 4000000 in
set_option maxRecDepth 100000 in
theorem SX11_passes_40 {G : GT} {l : Launch} {Q : Option AV → Mem → Prop} {k23 : Int → Mm → Option Mm} (q23 : ∀ (x1 : Int) (f : Mm), OkV Q (k23 x1 f) → Ev G l MX11_passes (Rm 2 0 0) (ZM G Q 0 0) 0 0 23 [some (vR 150), some (vI x1), none, none, none] [] (SH, RF, f)) : ∀ (n : Nat) (x1 : Int) (x2 : Int) (x3 : Int) (f : Mm), OkV Q (FX11_passes_40 k23 n x1 x2 x3 f) → Ev G l MX11_passes (Rm 2 0 0) (ZM G Q 0 0) 0 0 40 [some (vR 150), some (vI x1), some (vI x2), some (vI x3), none] [] (SH, RF, f) := by
  intro n
  induction n with
  | zero => intro x1 x2 x3 f h; exact absurd h (by rw [FX11_passes_40]; exact fun q => q)
  | succ n ih =>
    intro x1 x2 x3 f h
    rw [FX11_passes_40] at h
    refine ev_iload_n (i := 3) dX11_passes_40 rfl rfl ?_
    refine ev_aload_n (i := 0) dX11_passes_41 rfl rfl ?_
    refine ev_cVI (b := 150) (av := []) (S := [vI x3]) (fun q => q) h dX11_passes_42 (fun Q' q => TX11_carts _ q) kvX11_carts ml_X11_269 sh_150 rfl (RRc (by decide) (by decide)) (Nat.le_of_ble_eq_true rfl) ⟨Nat.le_of_ble_eq_true rfl, Nat.le_of_ble_eq_true rfl⟩ (fun y1 f1 h => ?_)
    refine ev_icmp_ge (tgt := 128) dX11_passes_45 (by decide) (fun c11 => ?_) (fun c11 => ?_)
    · rw [if_pos c11] at h
      refine ev_fg [true, true, true, false, true] rfl ?_
      exact SX11_passes_128 q23 x1 x2 _ h
    · rw [if_neg c11] at h
      refine ev_aload_n (i := 0) dX11_passes_48 rfl rfl ?_
      refine ev_getR dX11_passes_49 fl_X11_62 sh_150 (by decide) (by decide) rf_150_28 ?_
      refine ev_iload_n (i := 3) dX11_passes_52 rfl rfl ?_
      by_cases g2 : 0 ≤ x3 ∧ x3 < 6
      · rw [if_pos g2] at h
        refine ex_iald (x := (f1 166 x3.toNat)) dX11_passes_53 sh_166 g2.1 g2.2 rfl ?_
        refine ev_istore (L' := [some (vR 150), some (vI x1), some (vI x2), some (vI x3), some (vI (f1 166 x3.toNat))]) dX11_passes_54 (by decide) rfl ?_
        refine ev_aload_n (i := 0) dX11_passes_56 rfl rfl ?_
        refine ev_getR dX11_passes_57 fl_X11_65 sh_150 (by decide) (by decide) rf_150_29 ?_
        refine ev_iload dX11_passes_60 rfl ?_
        by_cases g3 : 0 ≤ (f1 166 x3.toNat) ∧ (f1 166 x3.toNat) < 6
        · rw [if_pos g3] at h
          refine ex_iald (x := (f1 167 (f1 166 x3.toNat).toNat)) dX11_passes_62 sh_167 g3.1 g3.2 rfl ?_
          refine ev_iconst dX11_passes_63 (r32c rfl) ?_
          refine ev_icmp_ne (tgt := 122) dX11_passes_64 (by decide) (fun c10 => ?_) (fun c10 => ?_)
          · rw [if_neg c10] at h
            refine ev_fg [true, true, true, true, false] rfl ?_
            exact SX11_passes_122 q23 ih x1 x2 x3 _ h
          · rw [if_pos c10] at h
            refine ev_aload_n (i := 0) dX11_passes_67 rfl rfl ?_
            refine ev_getR dX11_passes_68 fl_X11_40 sh_150 (by decide) (by decide) rf_150_19 ?_
            refine ev_iconst dX11_passes_71 (r32c rfl) ?_
            refine ev_iload dX11_passes_72 rfl ?_
            refine ev_imul dX11_passes_74 ?_
            refine ev_iconst dX11_passes_75 (r32c rfl) ?_
            refine ev_iadd dX11_passes_76 ?_
            by_cases g4 : 0 ≤ (w32 ((w32 (5 * (f1 166 x3.toNat))) + 2)) ∧ (w32 ((w32 (5 * (f1 166 x3.toNat))) + 2)) < 150
            · rw [if_pos g4] at h
              refine ex_iald (x := (f1 159 (w32 ((w32 (5 * (f1 166 x3.toNat))) + 2)).toNat)) dX11_passes_77 sh_159 g4.1 g4.2 rfl ?_
              refine ev_iload_n (i := 1) dX11_passes_78 rfl rfl ?_
              refine ev_icmp_gt (tgt := 122) dX11_passes_79 (by decide) (fun c9 => ?_) (fun c9 => ?_)
              · rw [if_pos c9] at h
                refine ev_fg [true, true, true, true, false] rfl ?_
                exact SX11_passes_122 q23 ih x1 x2 x3 _ h
              · rw [if_neg c9] at h
                refine ev_aload_n (i := 0) dX11_passes_82 rfl rfl ?_
                refine ev_getR dX11_passes_83 fl_X11_40 sh_150 (by decide) (by decide) rf_150_19 ?_
                refine ev_iconst dX11_passes_86 (r32c rfl) ?_
                refine ev_iload dX11_passes_87 rfl ?_
                refine ev_imul dX11_passes_89 ?_
                refine ev_iconst dX11_passes_90 (r32c rfl) ?_
                refine ev_iadd dX11_passes_91 ?_
                by_cases g5 : 0 ≤ (w32 ((w32 (5 * (f1 166 x3.toNat))) + 1)) ∧ (w32 ((w32 (5 * (f1 166 x3.toNat))) + 1)) < 150
                · rw [if_pos g5] at h
                  refine ex_iald (x := (f1 159 (w32 ((w32 (5 * (f1 166 x3.toNat))) + 1)).toNat)) dX11_passes_92 sh_159 g5.1 g5.2 rfl ?_
                  refine ev_iload_n (i := 2) dX11_passes_93 rfl rfl ?_
                  refine ev_icmp_le (tgt := 100) dX11_passes_94 (by decide) (fun c8 => ?_) (fun c8 => ?_)
                  · rw [if_pos c8] at h
                    refine ev_aload_n (i := 0) dX11_passes_100 rfl rfl ?_
                    refine ev_getR dX11_passes_101 fl_X11_65 sh_150 (by decide) (by decide) rf_150_29 ?_
                    refine ev_iload dX11_passes_104 rfl ?_
                    refine ev_iload_n (i := 1) dX11_passes_106 rfl rfl ?_
                    by_cases g6 : 0 ≤ (f1 166 x3.toNat) ∧ (f1 166 x3.toNat) < 6
                    · rw [if_pos g6] at h
                      refine ex_iast (j := (f1 166 x3.toNat).toNat) dX11_passes_107 sh_167 g6.1 g6.2 rfl ?_
                      refine ev_iload_n (i := 2) dX11_passes_108 rfl rfl ?_
                      refine ev_aload_n (i := 0) dX11_passes_109 rfl rfl ?_
                      refine ev_getR dX11_passes_110 fl_X11_40 sh_150 (by decide) (by decide) rf_150_19 ?_
                      refine ev_iconst dX11_passes_113 (r32c rfl) ?_
                      refine ev_iload dX11_passes_114 rfl ?_
                      refine ev_imul dX11_passes_116 ?_
                      refine ev_iconst dX11_passes_117 (r32c rfl) ?_
                      refine ev_iadd dX11_passes_118 ?_
                      by_cases g7 : 0 ≤ (w32 ((w32 (5 * (f1 166 x3.toNat))) + 1)) ∧ (w32 ((w32 (5 * (f1 166 x3.toNat))) + 1)) < 150
                      · rw [if_pos g7] at h
                        refine ex_iald (x := (f1 159 (w32 ((w32 (5 * (f1 166 x3.toNat))) + 1)).toNat)) dX11_passes_119 sh_159 g7.1 g7.2 rfl ?_
                        refine ev_isub dX11_passes_120 ?_
                        refine ev_istore_n (i := 2) (L' := [some (vR 150), some (vI x1), some (vI (w32 (x2 - (f1 159 (w32 ((w32 (5 * (f1 166 x3.toNat))) + 1)).toNat)))), some (vI x3), some (vI (f1 166 x3.toNat))]) dX11_passes_121 rfl (by decide) rfl ?_
                        refine ev_fg [true, true, true, true, false] rfl ?_
                        exact SX11_passes_122 q23 ih x1 (w32 (x2 - (f1 159 (w32 ((w32 (5 * (f1 166 x3.toNat))) + 1)).toNat))) x3 _ h
                      · rw [if_neg g7] at h; exact h.elim
                    · rw [if_neg g6] at h; exact h.elim
                  · rw [if_neg c8] at h
                    refine ev_goto (tgt := 122) dX11_passes_97 (by decide) ?_
                    refine ev_fg [true, true, true, true, false] rfl ?_
                    exact SX11_passes_122 q23 ih x1 x2 x3 _ h
                · rw [if_neg g5] at h; exact h.elim
            · rw [if_neg g4] at h; exact h.elim
        · rw [if_neg g3] at h; exact h.elim
      · rw [if_neg g2] at h; exact h.elim
def FX11_passes_23  : Nat → Int → Mm → Option Mm
  | 0, _, _ => none
  | n + 1, x1, f => (b2 (FX11_days f) fun y1 f1 => (if y1 ≤ x1 then some f1 else (if 0 ≤ x1 ∧ x1 < 6 then FX11_passes_40 (FX11_passes_23 n) fu x1 (f1 164 x1.toNat) 0 f1 else none)))
set_option maxHeartbeats 4000000 in
set_option maxRecDepth 100000 in
theorem SX11_passes_23 {G : GT} {l : Launch} {Q : Option AV → Mem → Prop}  : ∀ (n : Nat) (x1 : Int) (f : Mm), OkV Q (FX11_passes_23  n x1 f) → Ev G l MX11_passes (Rm 2 0 0) (ZM G Q 0 0) 0 0 23 [some (vR 150), some (vI x1), none, none, none] [] (SH, RF, f) := by
  intro n
  induction n with
  | zero => intro x1 f h; exact absurd h (by rw [FX11_passes_23]; exact fun q => q)
  | succ n ih =>
    intro x1 f h
    rw [FX11_passes_23] at h
    refine ev_iload_n (i := 1) dX11_passes_23 rfl rfl ?_
    refine ev_aload_n (i := 0) dX11_passes_24 rfl rfl ?_
    refine ev_cVI (b := 150) (av := []) (S := [vI x1]) (fun q => q) h dX11_passes_25 (fun Q' q => TX11_days _ q) kvX11_days ml_X11_266 sh_150 rfl (RRc (by decide) (by decide)) (Nat.le_of_ble_eq_true rfl) ⟨Nat.le_of_ble_eq_true rfl, Nat.le_of_ble_eq_true rfl⟩ (fun y1 f1 h => ?_)
    refine ev_icmp_ge (tgt := 141) dX11_passes_28 (by decide) (fun c3 => ?_) (fun c3 => ?_)
    · rw [if_pos c3] at h
      exact ev_vret rfl dX11_passes_141 h
    · rw [if_neg c3] at h
      refine ev_aload_n (i := 0) dX11_passes_31 rfl rfl ?_
      refine ev_getR dX11_passes_32 fl_X11_56 sh_150 (by decide) (by decide) rf_150_26 ?_
      refine ev_iload_n (i := 1) dX11_passes_35 rfl rfl ?_
      by_cases g2 : 0 ≤ x1 ∧ x1 < 6
      · rw [if_pos g2] at h
        refine ex_iald (x := (f1 164 x1.toNat)) dX11_passes_36 sh_164 g2.1 g2.2 rfl ?_
        refine ev_istore_n (i := 2) (L' := [some (vR 150), some (vI x1), some (vI (f1 164 x1.toNat)), none, none]) dX11_passes_37 rfl (by decide) rfl ?_
        refine ev_iconst dX11_passes_38 (r32c rfl) ?_
        refine ev_istore_n (i := 3) (L' := [some (vR 150), some (vI x1), some (vI (f1 164 x1.toNat)), some (vI 0), none]) dX11_passes_39 rfl (by decide) rfl ?_
        exact SX11_passes_40 ih fu x1 (f1 164 x1.toNat) 0 _ h
      · rw [if_neg g2] at h; exact h.elim
def FX11_passes_21   (f : Mm) : Option Mm := FX11_passes_23 fu 0 f
set_option maxHeartbeats 4000000 in
set_option maxRecDepth 100000 in
theorem SX11_passes_21 {G : GT} {l : Launch} {Q : Option AV → Mem → Prop}   (f : Mm) (h : OkV Q (FX11_passes_21   f)) : Ev G l MX11_passes (Rm 2 0 0) (ZM G Q 0 0) 0 0 21 [some (vR 150), none, none, none, none] [] (SH, RF, f) := by
  unfold FX11_passes_21 at h
  refine ev_iconst dX11_passes_21 (r32c rfl) ?_
  refine ev_istore_n (i := 1) (L' := [some (vR 150), some (vI 0), none, none, none]) dX11_passes_22 rfl (by decide) rfl ?_
  exact SX11_passes_23  fu 0 _ h
def FX11_passes_2  : Nat → Int → Mm → Option Mm
  | 0, _, _ => none
  | n + 1, x1, f => (if 6 ≤ x1 then FX11_passes_21 f else (if 0 ≤ x1 ∧ x1 < 6 then FX11_passes_2 n (w32 (x1 + 1)) (up f 167 x1.toNat (-1)) else none))
set_option maxHeartbeats 4000000 in
set_option maxRecDepth 100000 in
theorem SX11_passes_2 {G : GT} {l : Launch} {Q : Option AV → Mem → Prop}  : ∀ (n : Nat) (x1 : Int) (f : Mm), OkV Q (FX11_passes_2  n x1 f) → Ev G l MX11_passes (Rm 2 0 0) (ZM G Q 0 0) 0 0 2 [some (vR 150), some (vI x1), none, none, none] [] (SH, RF, f) := by
  intro n
  induction n with
  | zero => intro x1 f h; exact absurd h (by rw [FX11_passes_2]; exact fun q => q)
  | succ n ih =>
    intro x1 f h
    rw [FX11_passes_2] at h
    refine ev_iload_n (i := 1) dX11_passes_2 rfl rfl ?_
    refine ev_bipush (v := 6) dX11_passes_3 (r32c rfl) (by decide) ?_
    refine ev_icmp_ge (tgt := 21) dX11_passes_5 (by decide) (fun c2 => ?_) (fun c2 => ?_)
    · rw [if_pos c2] at h
      refine ev_fg [true, false, true, true, true] rfl ?_
      exact SX11_passes_21   _ h
    · rw [if_neg c2] at h
      refine ev_aload_n (i := 0) dX11_passes_8 rfl rfl ?_
      refine ev_getR dX11_passes_9 fl_X11_65 sh_150 (by decide) (by decide) rf_150_29 ?_
      refine ev_iload_n (i := 1) dX11_passes_12 rfl rfl ?_
      refine ev_iconst dX11_passes_13 (r32c rfl) ?_
      by_cases g1 : 0 ≤ x1 ∧ x1 < 6
      · rw [if_pos g1] at h
        refine ex_iast (j := x1.toNat) dX11_passes_14 sh_167 g1.1 g1.2 rfl ?_
        refine ev_iinc (L' := [some (vR 150), some (vI (w32 (x1 + 1))), none, none, none]) dX11_passes_15 rfl (by decide) rfl ?_
        refine ev_goto (tgt := 2) dX11_passes_18 (by decide) ?_
        exact ih (w32 (x1 + 1)) _ h
      · rw [if_neg g1] at h; exact h.elim
def FX11_passes_0   (f : Mm) : Option Mm := FX11_passes_2 fu 0 f
set_option maxHeartbeats 4000000 in
set_option maxRecDepth 100000 in
theorem SX11_passes_0 {G : GT} {l : Launch} {Q : Option AV → Mem → Prop}   (f : Mm) (h : OkV Q (FX11_passes_0   f)) : Ev G l MX11_passes (Rm 2 0 0) (ZM G Q 0 0) 0 0 0 [some (vR 150), none, none, none, none] [] (SH, RF, f) := by
  unfold FX11_passes_0 at h
  refine ev_iconst dX11_passes_0 (r32c rfl) ?_
  refine ev_istore_n (i := 1) (L' := [some (vR 150), some (vI 0), none, none, none]) dX11_passes_1 rfl (by decide) rfl ?_
  exact SX11_passes_2  fu 0 _ h
def FX11_passes  (f : Mm) : Option Mm := FX11_passes_0  f
set_option maxRecDepth 100000 in
theorem TX11_passes {G : GT} {l : Launch} {Q : Option AV → Mem → Prop}  (f : Mm) (h : OkV Q (FX11_passes  f)) : Ret G l MX11_passes (2) 0 0 [vR 150] (SH, RF, f) Q := by
  refine ret_of (L := [some (vR 150), none, none, none, none]) (by decide) rfl (Nat.le_of_ble_eq_true rfl) ?_
  exact SX11_passes_0  f h

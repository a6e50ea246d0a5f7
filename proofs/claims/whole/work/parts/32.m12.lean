theorem dX9_tryPairs_125 : decode cX9_tryPairs 125 = .ok (.aload_n 0, 1) := by decide +kernel
theorem dX9_tryPairs_126 : decode cX9_tryPairs 126 = .ok (.aload_n 1, 1) := by decide +kernel
theorem dX9_tryPairs_127 : decode cX9_tryPairs 127 = .ok (.invokevirtual 34, 3) := by decide +kernel
theorem dX9_tryPairs_130 : decode cX9_tryPairs 130 = .ok (.return_, 1) := by decide +kernel
theorem dX9_tryPairs_119 : decode cX9_tryPairs 119 = .ok (.iinc 4 1, 3) := by decide +kernel
theorem dX9_tryPairs_122 : decode cX9_tryPairs 122 = .ok (.goto (-119), 3) := by decide +kernel
theorem dX9_tryPairs_113 : decode cX9_tryPairs 113 = .ok (.iinc 5 1, 3) := by decide +kernel
theorem dX9_tryPairs_116 : decode cX9_tryPairs 116 = .ok (.goto (-101), 3) := by decide +kernel
theorem dX9_tryPairs_15 : decode cX9_tryPairs 15 = .ok (.iload 5, 2) := by decide +kernel
theorem dX9_tryPairs_17 : decode cX9_tryPairs 17 = .ok (.aload_n 1, 1) := by decide +kernel
theorem dX9_tryPairs_18 : decode cX9_tryPairs 18 = .ok (.getfield 16, 3) := by decide +kernel
theorem dX9_tryPairs_21 : decode cX9_tryPairs 21 = .ok (.if_icmp .gt 98, 3) := by decide +kernel
theorem dX9_tryPairs_24 : decode cX9_tryPairs 24 = .ok (.aload_n 1, 1) := by decide +kernel
theorem dX9_tryPairs_25 : decode cX9_tryPairs 25 = .ok (.iconst 0, 1) := by decide +kernel
theorem dX9_tryPairs_26 : decode cX9_tryPairs 26 = .ok (.iload 4, 2) := by decide +kernel
theorem dX9_tryPairs_28 : decode cX9_tryPairs 28 = .ok (.iconst 1, 1) := by decide +kernel
theorem dX9_tryPairs_29 : decode cX9_tryPairs 29 = .ok (.isub, 1) := by decide +kernel
theorem dX9_tryPairs_30 : decode cX9_tryPairs 30 = .ok (.invokevirtual 22, 3) := by decide +kernel
theorem dX9_tryPairs_33 : decode cX9_tryPairs 33 = .ok (.ifCond .eq 80, 3) := by decide +kernel
theorem dX9_tryPairs_36 : decode cX9_tryPairs 36 = .ok (.aload_n 1, 1) := by decide +kernel
theorem dX9_tryPairs_37 : decode cX9_tryPairs 37 = .ok (.iconst 1, 1) := by decide +kernel
theorem dX9_tryPairs_38 : decode cX9_tryPairs 38 = .ok (.iload 5, 2) := by decide +kernel
theorem dX9_tryPairs_40 : decode cX9_tryPairs 40 = .ok (.iconst 1, 1) := by decide +kernel
theorem dX9_tryPairs_41 : decode cX9_tryPairs 41 = .ok (.isub, 1) := by decide +kernel
theorem dX9_tryPairs_42 : decode cX9_tryPairs 42 = .ok (.invokevirtual 22, 3) := by decide +kernel
theorem dX9_tryPairs_45 : decode cX9_tryPairs 45 = .ok (.ifCond .eq 68, 3) := by decide +kernel
theorem dX9_tryPairs_48 : decode cX9_tryPairs 48 = .ok (.aload_n 0, 1) := by decide +kernel
theorem dX9_tryPairs_49 : decode cX9_tryPairs 49 = .ok (.aload_n 1, 1) := by decide +kernel
theorem dX9_tryPairs_50 : decode cX9_tryPairs 50 = .ok (.aload_n 2, 1) := by decide +kernel
theorem dX9_tryPairs_51 : decode cX9_tryPairs 51 = .ok (.iload_n 3, 1) := by decide +kernel
theorem dX9_tryPairs_52 : decode cX9_tryPairs 52 = .ok (.iload 4, 2) := by decide +kernel
theorem dX9_tryPairs_54 : decode cX9_tryPairs 54 = .ok (.iconst 1, 1) := by decide +kernel
theorem dX9_tryPairs_55 : decode cX9_tryPairs 55 = .ok (.isub, 1) := by decide +kernel
theorem dX9_tryPairs_56 : decode cX9_tryPairs 56 = .ok (.iload 5, 2) := by decide +kernel
theorem dX9_tryPairs_58 : decode cX9_tryPairs 58 = .ok (.iconst 1, 1) := by decide +kernel
theorem dX9_tryPairs_59 : decode cX9_tryPairs 59 = .ok (.isub, 1) := by decide +kernel
theorem dX9_tryPairs_60 : decode cX9_tryPairs 60 = .ok (.invokevirtual 26, 3) := by decide +kernel
theorem dX9_tryPairs_63 : decode cX9_tryPairs 63 = .ok (.aload_n 0, 1) := by decide +kernel
theorem dX9_tryPairs_64 : decode cX9_tryPairs 64 = .ok (.getfield 13, 3) := by decide +kernel
theorem dX9_tryPairs_67 : decode cX9_tryPairs 67 = .ok (.iconst 0, 1) := by decide +kernel
theorem dX9_tryPairs_68 : decode cX9_tryPairs 68 = .ok (.aaload, 1) := by decide +kernel
theorem dX9_tryPairs_69 : decode cX9_tryPairs 69 = .ok (.iload 4, 2) := by decide +kernel
theorem dX9_tryPairs_71 : decode cX9_tryPairs 71 = .ok (.iconst 5, 1) := by decide +kernel
theorem dX9_tryPairs_72 : decode cX9_tryPairs 72 = .ok (.imul, 1) := by decide +kernel
theorem dX9_tryPairs_73 : decode cX9_tryPairs 73 = .ok (.iload 5, 2) := by decide +kernel
theorem dX9_tryPairs_75 : decode cX9_tryPairs 75 = .ok (.iadd, 1) := by decide +kernel
theorem dX9_tryPairs_76 : decode cX9_tryPairs 76 = .ok (.aload_n 0, 1) := by decide +kernel
theorem dX9_tryPairs_77 : decode cX9_tryPairs 77 = .ok (.aload_n 1, 1) := by decide +kernel
theorem dX9_tryPairs_78 : decode cX9_tryPairs 78 = .ok (.aload_n 2, 1) := by decide +kernel
theorem dX9_tryPairs_79 : decode cX9_tryPairs 79 = .ok (.iconst 0, 1) := by decide +kernel
theorem dX9_tryPairs_80 : decode cX9_tryPairs 80 = .ok (.iload 4, 2) := by decide +kernel
theorem dX9_tryPairs_82 : decode cX9_tryPairs 82 = .ok (.iconst 1, 1) := by decide +kernel
theorem dX9_tryPairs_83 : decode cX9_tryPairs 83 = .ok (.isub, 1) := by decide +kernel
theorem dX9_tryPairs_84 : decode cX9_tryPairs 84 = .ok (.invokevirtual 30, 3) := by decide +kernel
theorem dX9_tryPairs_87 : decode cX9_tryPairs 87 = .ok (.iastore, 1) := by decide +kernel
theorem dX9_tryPairs_88 : decode cX9_tryPairs 88 = .ok (.aload_n 0, 1) := by decide +kernel
theorem dX9_tryPairs_89 : decode cX9_tryPairs 89 = .ok (.getfield 13, 3) := by decide +kernel
theorem dX9_tryPairs_92 : decode cX9_tryPairs 92 = .ok (.iconst 1, 1) := by decide +kernel
theorem dX9_tryPairs_93 : decode cX9_tryPairs 93 = .ok (.aaload, 1) := by decide +kernel
theorem dX9_tryPairs_94 : decode cX9_tryPairs 94 = .ok (.iload 4, 2) := by decide +kernel
theorem dX9_tryPairs_96 : decode cX9_tryPairs 96 = .ok (.iconst 5, 1) := by decide +kernel
theorem dX9_tryPairs_97 : decode cX9_tryPairs 97 = .ok (.imul, 1) := by decide +kernel
theorem dX9_tryPairs_98 : decode cX9_tryPairs 98 = .ok (.iload 5, 2) := by decide +kernel
theorem dX9_tryPairs_100 : decode cX9_tryPairs 100 = .ok (.iadd, 1) := by decide +kernel
theorem dX9_tryPairs_101 : decode cX9_tryPairs 101 = .ok (.aload_n 0, 1) := by decide +kernel
theorem dX9_tryPairs_102 : decode cX9_tryPairs 102 = .ok (.aload_n 1, 1) := by decide +kernel
theorem dX9_tryPairs_103 : decode cX9_tryPairs 103 = .ok (.aload_n 2, 1) := by decide +kernel
theorem dX9_tryPairs_104 : decode cX9_tryPairs 104 = .ok (.iconst 1, 1) := by decide +kernel
theorem dX9_tryPairs_105 : decode cX9_tryPairs 105 = .ok (.iload 5, 2) := by decide +kernel
theorem dX9_tryPairs_107 : decode cX9_tryPairs 107 = .ok (.iconst 1, 1) := by decide +kernel
theorem dX9_tryPairs_108 : decode cX9_tryPairs 108 = .ok (.isub, 1) := by decide +kernel
theorem dX9_tryPairs_109 : decode cX9_tryPairs 109 = .ok (.invokevirtual 30, 3) := by decide +kernel
theorem dX9_tryPairs_112 : decode cX9_tryPairs 112 = .ok (.iastore, 1) := by decide +kernel
theorem dX9_tryPairs_3 : decode cX9_tryPairs 3 = .ok (.iload 4, 2) := by decide +kernel
theorem dX9_tryPairs_5 : decode cX9_tryPairs 5 = .ok (.aload_n 1, 1) := by decide +kernel
theorem dX9_tryPairs_6 : decode cX9_tryPairs 6 = .ok (.getfield 16, 3) := by decide +kernel
theorem dX9_tryPairs_9 : decode cX9_tryPairs 9 = .ok (.if_icmp .gt 116, 3) := by decide +kernel
theorem dX9_tryPairs_12 : decode cX9_tryPairs 12 = .ok (.iconst 0, 1) := by decide +kernel
theorem dX9_tryPairs_13 : decode cX9_tryPairs 13 = .ok (.istore 5, 2) := by decide +kernel
theorem dX9_tryPairs_0 : decode cX9_tryPairs 0 = .ok (.iconst 0, 1) := by decide +kernel
theorem dX9_tryPairs_1 : decode cX9_tryPairs 1 = .ok (.istore 4, 2) := by decide +kernel
def FX9_tryPairs_95_4_48_125   (f : Mm) : Option Mm := ((FX9_countRests_95_4 f).bind fun f1 => some f1)
set_option maxHeartbeats 4000000 in
set_option maxRecDepth 100000 in
theorem SX9_tryPairs_95_4_48_125 {G : GT} {l : Launch} {Q : Option AV → Mem → Prop}   (f : Mm) (h : OkV Q (FX9_tryPairs_95_4_48_125   f)) : Ev G l MX9_tryPairs (Rm 6 0 0) (ZM G Q 0 0) 0 0 125 [some (vR 95), some (vR 4), none, none, none, none] [] (SH, RF, f) := by
  unfold FX9_tryPairs_95_4_48_125 at h
  refine ev_aload_n (i := 0) dX9_tryPairs_125 rfl rfl ?_
  refine ev_aload_n (i := 1) dX9_tryPairs_126 rfl rfl ?_
  refine ev_cVV (b := 95) (av := [vR 4]) (S := []) (fun q => q) h dX9_tryPairs_127 (fun Q' q => TX9_countRests_95_4 _ q) kvX9_countRests ml_X9_34 sh_95 rfl (RRc (by decide) (by decide)) (Nat.le_of_ble_eq_true rfl) ⟨Nat.le_of_ble_eq_true rfl, Nat.le_of_ble_eq_true rfl⟩ (fun f1 h => ?_)
  exact ev_vret rfl dX9_tryPairs_130 h
def FX9_tryPairs_95_4_48_119 (k3 : Int → Int → Mm → Option Mm) (x3 : Int) (x4 : Int) (f : Mm) : Option Mm := k3 x3 (w32 (x4 + 1)) f
set_option maxHeartbeats 4000000 in
set_option maxRecDepth 100000 in
theorem SX9_tryPairs_95_4_48_119 {G : GT} {l : Launch} {Q : Option AV → Mem → Prop} {k3 : Int → Int → Mm → Option Mm} (q3 : ∀ (x3 : Int) (x4 : Int) (f : Mm), OkV Q (k3 x3 x4 f) → Ev G l MX9_tryPairs (Rm 6 0 0) (ZM G Q 0 0) 0 0 3 [some (vR 95), some (vR 4), some (vR 48), some (vI x3), some (vI x4), none] [] (SH, RF, f)) (x3 : Int) (x4 : Int) (f : Mm) (h : OkV Q (FX9_tryPairs_95_4_48_119 k3 x3 x4 f)) : Ev G l MX9_tryPairs (Rm 6 0 0) (ZM G Q 0 0) 0 0 119 [some (vR 95), some (vR 4), some (vR 48), some (vI x3), some (vI x4), none] [] (SH, RF, f) := by
  unfold FX9_tryPairs_95_4_48_119 at h
  refine ev_iinc (L' := [some (vR 95), some (vR 4), some (vR 48), some (vI x3), some (vI (w32 (x4 + 1))), none]) dX9_tryPairs_119 rfl (by decide) rfl ?_
  refine ev_goto (tgt := 3) dX9_tryPairs_122 (by decide) ?_
  exact q3 x3 (w32 (x4 + 1)) _ h
def FX9_tryPairs_95_4_48_113 (k3 : Int → Int → Mm → Option Mm) (k15 : Int → Int → Int → Mm → Option Mm) (x3 : Int) (x4 : Int) (x5 : Int) (f : Mm) : Option Mm := k15 x3 x4 (w32 (x5 + 1)) f
set_option maxHeartbeats 4000000 in
set_option maxRecDepth 100000 in
theorem SX9_tryPairs_95_4_48_113 {G : GT} {l : Launch} {Q : Option AV → Mem → Prop} {k3 : Int → Int → Mm → Option Mm} {k15 : Int → Int → Int → Mm → Option Mm} (q3 : ∀ (x3 : Int) (x4 : Int) (f : Mm), OkV Q (k3 x3 x4 f) → Ev G l MX9_tryPairs (Rm 6 0 0) (ZM G Q 0 0) 0 0 3 [some (vR 95), some (vR 4), some (vR 48), some (vI x3), some (vI x4), none] [] (SH, RF, f)) (q15 : ∀ (x3 : Int) (x4 : Int) (x5 : Int) (f : Mm), OkV Q (k15 x3 x4 x5 f) → Ev G l MX9_tryPairs (Rm 6 0 0) (ZM G Q 0 0) 0 0 15 [some (vR 95), some (vR 4), some (vR 48), some (vI x3), some (vI x4), some (vI x5)] [] (SH, RF, f)) (x3 : Int) (x4 : Int) (x5 : Int) (f : Mm) (h : OkV Q (FX9_tryPairs_95_4_48_113 k3 k15 x3 x4 x5 f)) : Ev G l MX9_tryPairs (Rm 6 0 0) (ZM G Q 0 0) 0 0 113 [some (vR 95), some (vR 4), some (vR 48), some (vI x3), some (vI x4), some (vI x5)] [] (SH, RF, f) := by
  unfold FX9_tryPairs_95_4_48_113 at h
  refine ev_iinc (L' := [some (vR 95), some (vR 4), some (vR 48), some (vI x3), some (vI x4), some (vI (w32 (x5 + 1)))]) dX9_tryPairs_113 rfl (by decide) rfl ?_
  refine ev_goto (tgt := 15) dX9_tryPairs_116 (by decide) ?_
  exact q15 x3 x4 (w32 (x5 + 1)) _ h
def FX9_tryPairs_95_4_48_15 (k3 : Int → Int → Mm → Option Mm) : Nat → Int → Int → Int → Mm → Option Mm
  | 0, _, _, _, _ => none
  | n + 1, x3, x4, x5, f => (if (f 4 4) < x5 then FX9_tryPairs_95_4_48_119 k3 x3 x4 f else (b2 (FX0_mayChoose_4 0 (w32 (x4 - 1)) f) fun y1 f1 => (if y1 = 0 then FX9_tryPairs_95_4_48_113 k3 (FX9_tryPairs_95_4_48_15 k3 n) x3 x4 x5 f1 else (b2 (FX0_mayChoose_4 1 (w32 (x5 - 1)) f1) fun y2 f2 => (if y2 = 0 then FX9_tryPairs_95_4_48_113 k3 (FX9_tryPairs_95_4_48_15 k3 n) x3 x4 x5 f2 else ((FX9_agree_95_4_48 x3 (w32 (x4 - 1)) (w32 (x5 - 1)) f2).bind fun f3 => (b2 (FX9_gainOf_95_4_48 0 (w32 (x4 - 1)) f3) fun y4 f4 => (if 0 ≤ (w32 ((w32 (x4 * 5)) + x5)) ∧ (w32 ((w32 (x4 * 5)) + x5)) < 25 then (b2 (FX9_gainOf_95_4_48 1 (w32 (x5 - 1)) (up f4 97 (w32 ((w32 (x4 * 5)) + x5)).toNat y4)) fun y6 f6 => (if 0 ≤ (w32 ((w32 (x4 * 5)) + x5)) ∧ (w32 ((w32 (x4 * 5)) + x5)) < 25 then FX9_tryPairs_95_4_48_113 k3 (FX9_tryPairs_95_4_48_15 k3 n) x3 x4 x5 (up f6 98 (w32 ((w32 (x4 * 5)) + x5)).toNat y6) else none)) else none))))))))
set_option maxHeartbeats 4000000 in
set_option maxRecDepth 100000 in
theorem SX9_tryPairs_95_4_48_15 {G : GT} {l : Launch} {Q : Option AV → Mem → Prop} {k3 : Int → Int → Mm → Option Mm} (q3 : ∀ (x3 : Int) (x4 : Int) (f : Mm), OkV Q (k3 x3 x4 f) → Ev G l MX9_tryPairs (Rm 6 0 0) (ZM G Q 0 0) 0 0 3 [some (vR 95), some (vR 4), some (vR 48), some (vI x3), some (vI x4), none] [] (SH, RF, f)) : ∀ (n : Nat) (x3 : Int) (x4 : Int) (x5 : Int) (f : Mm), OkV Q (FX9_tryPairs_95_4_48_15 k3 n x3 x4 x5 f) → Ev G l MX9_tryPairs (Rm 6 0 0) (ZM G Q 0 0) 0 0 15 [some (vR 95), some (vR 4), some (vR 48), some (vI x3), some (vI x4), some (vI x5)] [] (SH, RF, f) := by
  intro n
  induction n with
  | zero => intro x3 x4 x5 f h; exact absurd h (by rw [FX9_tryPairs_95_4_48_15]; exact fun q => q)
  | succ n ih =>
    intro x3 x4 x5 f h
    rw [FX9_tryPairs_95_4_48_15] at h
    refine ev_iload dX9_tryPairs_15 rfl ?_
    refine ev_aload_n (i := 1) dX9_tryPairs_17 rfl rfl ?_
    refine ex_getI (x := (f 4 4)) dX9_tryPairs_18 fl_X9_16 sh_4 (by decide) (by decide) rfl ?_
    refine ev_icmp_gt (tgt := 119) dX9_tryPairs_21 (by decide) (fun c10 => ?_) (fun c10 => ?_)
    · rw [if_pos c10] at h
      refine ev_fg [true, true, true, true, true, false] rfl ?_
      exact SX9_tryPairs_95_4_48_119 q3 x3 x4 _ h
    · rw [if_neg c10] at h
      refine ev_aload_n (i := 1) dX9_tryPairs_24 rfl rfl ?_
      refine ev_iconst dX9_tryPairs_25 (r32c rfl) ?_
      refine ev_iload dX9_tryPairs_26 rfl ?_
      refine ev_iconst dX9_tryPairs_28 (r32c rfl) ?_
      refine ev_isub dX9_tryPairs_29 ?_
      refine ev_cVI (b := 4) (av := [vI 0, vI (w32 (x4 - 1))]) (S := []) (fun q => q) h dX9_tryPairs_30 (fun Q' q => TX0_mayChoose_4 0 (w32 (x4 - 1)) _ q) kvX0_mayChoose ml_X9_22 sh_4 rfl (RRc (by decide) (by decide)) (Nat.le_of_ble_eq_true rfl) ⟨Nat.le_of_ble_eq_true rfl, Nat.le_of_ble_eq_true rfl⟩ (fun y1 f1 h => ?_)
      refine ev_if_eq (tgt := 113) dX9_tryPairs_33 (by decide) (fun c9 => ?_) (fun c9 => ?_)
      · rw [if_pos c9] at h
        exact SX9_tryPairs_95_4_48_113 q3 ih x3 x4 x5 _ h
      · rw [if_neg c9] at h
        refine ev_aload_n (i := 1) dX9_tryPairs_36 rfl rfl ?_
        refine ev_iconst dX9_tryPairs_37 (r32c rfl) ?_
        refine ev_iload dX9_tryPairs_38 rfl ?_
        refine ev_iconst dX9_tryPairs_40 (r32c rfl) ?_
        refine ev_isub dX9_tryPairs_41 ?_
        refine ev_cVI (b := 4) (av := [vI 1, vI (w32 (x5 - 1))]) (S := []) (fun q => q) h dX9_tryPairs_42 (fun Q' q => TX0_mayChoose_4 1 (w32 (x5 - 1)) _ q) kvX0_mayChoose ml_X9_22 sh_4 rfl (RRc (by decide) (by decide)) (Nat.le_of_ble_eq_true rfl) ⟨Nat.le_of_ble_eq_true rfl, Nat.le_of_ble_eq_true rfl⟩ (fun y2 f2 h => ?_)
        refine ev_if_eq (tgt := 113) dX9_tryPairs_45 (by decide) (fun c8 => ?_) (fun c8 => ?_)
        · rw [if_pos c8] at h
          exact SX9_tryPairs_95_4_48_113 q3 ih x3 x4 x5 _ h
        · rw [if_neg c8] at h
          refine ev_aload_n (i := 0) dX9_tryPairs_48 rfl rfl ?_
          refine ev_aload_n (i := 1) dX9_tryPairs_49 rfl rfl ?_
          refine ev_aload_n (i := 2) dX9_tryPairs_50 rfl rfl ?_
          refine ev_iload_n (i := 3) dX9_tryPairs_51 rfl rfl ?_
          refine ev_iload dX9_tryPairs_52 rfl ?_
          refine ev_iconst dX9_tryPairs_54 (r32c rfl) ?_
          refine ev_isub dX9_tryPairs_55 ?_
          refine ev_iload dX9_tryPairs_56 rfl ?_
          refine ev_iconst dX9_tryPairs_58 (r32c rfl) ?_
          refine ev_isub dX9_tryPairs_59 ?_
          refine ev_cVV (b := 95) (av := [vR 4, vR 48, vI x3, vI (w32 (x4 - 1)), vI (w32 (x5 - 1))]) (S := []) (fun q => q) h dX9_tryPairs_60 (fun Q' q => TX9_agree_95_4_48 x3 (w32 (x4 - 1)) (w32 (x5 - 1)) _ q) kvX9_agree ml_X9_26 sh_95 rfl (RRc (by decide) (by decide)) (Nat.le_of_ble_eq_true rfl) ⟨Nat.le_of_ble_eq_true rfl, Nat.le_of_ble_eq_true rfl⟩ (fun f3 h => ?_)
          refine ev_aload_n (i := 0) dX9_tryPairs_63 rfl rfl ?_
          refine ev_getR dX9_tryPairs_64 fl_X9_13 sh_95 (by decide) (by decide) rf_95_2 ?_
          refine ev_iconst dX9_tryPairs_67 (r32c rfl) ?_
          refine ev_aald (b := 97) dX9_tryPairs_68 (Or.inl rfl) sh_96 (by decide) (by decide) (rfd_96 0 (by decide)) ?_
          refine ev_iload dX9_tryPairs_69 rfl ?_
          refine ev_iconst dX9_tryPairs_71 (r32c rfl) ?_
          refine ev_imul dX9_tryPairs_72 ?_
          refine ev_iload dX9_tryPairs_73 rfl ?_
          refine ev_iadd dX9_tryPairs_75 ?_
          refine ev_aload_n (i := 0) dX9_tryPairs_76 rfl rfl ?_
          refine ev_aload_n (i := 1) dX9_tryPairs_77 rfl rfl ?_
          refine ev_aload_n (i := 2) dX9_tryPairs_78 rfl rfl ?_
          refine ev_iconst dX9_tryPairs_79 (r32c rfl) ?_
          refine ev_iload dX9_tryPairs_80 rfl ?_
          refine ev_iconst dX9_tryPairs_82 (r32c rfl) ?_
          refine ev_isub dX9_tryPairs_83 ?_
          refine ev_cVI (b := 95) (av := [vR 4, vR 48, vI 0, vI (w32 (x4 - 1))]) (S := [vI (w32 ((w32 (x4 * 5)) + x5)), vR 97]) (fun q => q) h dX9_tryPairs_84 (fun Q' q => TX9_gainOf_95_4_48 0 (w32 (x4 - 1)) _ q) kvX9_gainOf ml_X9_30 sh_95 rfl (RRc (by decide) (by decide)) (Nat.le_of_ble_eq_true rfl) ⟨Nat.le_of_ble_eq_true rfl, Nat.le_of_ble_eq_true rfl⟩ (fun y4 f4 h => ?_)
          by_cases g5 : 0 ≤ (w32 ((w32 (x4 * 5)) + x5)) ∧ (w32 ((w32 (x4 * 5)) + x5)) < 25
          · rw [if_pos g5] at h
            refine ex_iast (j := (w32 ((w32 (x4 * 5)) + x5)).toNat) dX9_tryPairs_87 sh_97 g5.1 g5.2 rfl ?_
            refine ev_aload_n (i := 0) dX9_tryPairs_88 rfl rfl ?_
            refine ev_getR dX9_tryPairs_89 fl_X9_13 sh_95 (by decide) (by decide) rf_95_2 ?_
            refine ev_iconst dX9_tryPairs_92 (r32c rfl) ?_
            refine ev_aald (b := 98) dX9_tryPairs_93 (Or.inl rfl) sh_96 (by decide) (by decide) (rfd_96 1 (by decide)) ?_
            refine ev_iload dX9_tryPairs_94 rfl ?_
            refine ev_iconst dX9_tryPairs_96 (r32c rfl) ?_
            refine ev_imul dX9_tryPairs_97 ?_
            refine ev_iload dX9_tryPairs_98 rfl ?_
            refine ev_iadd dX9_tryPairs_100 ?_
            refine ev_aload_n (i := 0) dX9_tryPairs_101 rfl rfl ?_
            refine ev_aload_n (i := 1) dX9_tryPairs_102 rfl rfl ?_
            refine ev_aload_n (i := 2) dX9_tryPairs_103 rfl rfl ?_
            refine ev_iconst dX9_tryPairs_104 (r32c rfl) ?_
            refine ev_iload dX9_tryPairs_105 rfl ?_
            refine ev_iconst dX9_tryPairs_107 (r32c rfl) ?_
            refine ev_isub dX9_tryPairs_108 ?_
            refine ev_cVI (b := 95) (av := [vR 4, vR 48, vI 1, vI (w32 (x5 - 1))]) (S := [vI (w32 ((w32 (x4 * 5)) + x5)), vR 98]) (fun q => q) h dX9_tryPairs_109 (fun Q' q => TX9_gainOf_95_4_48 1 (w32 (x5 - 1)) _ q) kvX9_gainOf ml_X9_30 sh_95 rfl (RRc (by decide) (by decide)) (Nat.le_of_ble_eq_true rfl) ⟨Nat.le_of_ble_eq_true rfl, Nat.le_of_ble_eq_true rfl⟩ (fun y6 f6 h => ?_)
            by_cases g7 : 0 ≤ (w32 ((w32 (x4 * 5)) + x5)) ∧ (w32 ((w32 (x4 * 5)) + x5)) < 25
            · rw [if_pos g7] at h
              refine ex_iast (j := (w32 ((w32 (x4 * 5)) + x5)).toNat) dX9_tryPairs_112 sh_98 g7.1 g7.2 rfl ?_
              exact SX9_tryPairs_95_4_48_113 q3 ih x3 x4 x5 _ h
            · rw [if_neg g7] at h; exact h.elim
          · rw [if_neg g5] at h; exact h.elim
def FX9_tryPairs_95_4_48_3  : Nat → Int → Int → Mm → Option Mm
  | 0, _, _, _ => none
  | n + 1, x3, x4, f => (if (f 4 4) < x4 then FX9_tryPairs_95_4_48_125 f else FX9_tryPairs_95_4_48_15 (FX9_tryPairs_95_4_48_3 n) fu x3 x4 0 f)
set_option maxHeartbeats 4000000 in
set_option maxRecDepth 100000 in
theorem SX9_tryPairs_95_4_48_3 {G : GT} {l : Launch} {Q : Option AV → Mem → Prop}  : ∀ (n : Nat) (x3 : Int) (x4 : Int) (f : Mm), OkV Q (FX9_tryPairs_95_4_48_3  n x3 x4 f) → Ev G l MX9_tryPairs (Rm 6 0 0) (ZM G Q 0 0) 0 0 3 [some (vR 95), some (vR 4), some (vR 48), some (vI x3), some (vI x4), none] [] (SH, RF, f) := by
  intro n
  induction n with
  | zero => intro x3 x4 f h; exact absurd h (by rw [FX9_tryPairs_95_4_48_3]; exact fun q => q)
  | succ n ih =>
    intro x3 x4 f h
    rw [FX9_tryPairs_95_4_48_3] at h
    refine ev_iload dX9_tryPairs_3 rfl ?_
    refine ev_aload_n (i := 1) dX9_tryPairs_5 rfl rfl ?_
    refine ex_getI (x := (f 4 4)) dX9_tryPairs_6 fl_X9_16 sh_4 (by decide) (by decide) rfl ?_
    refine ev_icmp_gt (tgt := 125) dX9_tryPairs_9 (by decide) (fun c1 => ?_) (fun c1 => ?_)
    · rw [if_pos c1] at h
      refine ev_fg [true, true, false, false, false, true] rfl ?_
      exact SX9_tryPairs_95_4_48_125   _ h
    · rw [if_neg c1] at h
      refine ev_iconst dX9_tryPairs_12 (r32c rfl) ?_
      refine ev_istore (L' := [some (vR 95), some (vR 4), some (vR 48), some (vI x3), some (vI x4), some (vI 0)]) dX9_tryPairs_13 (by decide) rfl ?_
      exact SX9_tryPairs_95_4_48_15 ih fu x3 x4 0 _ h
def FX9_tryPairs_95_4_48_0  (x3 : Int) (f : Mm) : Option Mm := FX9_tryPairs_95_4_48_3 fu x3 0 f
set_option maxHeartbeats 4000000 in
set_option maxRecDepth 100000 in
theorem SX9_tryPairs_95_4_48_0 {G : GT} {l : Launch} {Q : Option AV → Mem → Prop}  (x3 : Int) (f : Mm) (h : OkV Q (FX9_tryPairs_95_4_48_0  x3 f)) : Ev G l MX9_tryPairs (Rm 6 0 0) (ZM G Q 0 0) 0 0 0 [some (vR 95), some (vR 4), some (vR 48), some (vI x3), none, none] [] (SH, RF, f) := by
  unfold FX9_tryPairs_95_4_48_0 at h
  refine ev_iconst dX9_tryPairs_0 (r32c rfl) ?_
  refine ev_istore (L' := [some (vR 95), some (vR 4), some (vR 48), some (vI x3), some (vI 0), none]) dX9_tryPairs_1 (by decide) rfl ?_
  exact SX9_tryPairs_95_4_48_3  fu x3 0 _ h
def FX9_tryPairs_95_4_48 (x3 : Int) (f : Mm) : Option Mm := FX9_tryPairs_95_4_48_0 x3 f
set_option maxRecDepth 100000 in
theorem TX9_tryPairs_95_4_48 {G : GT} {l : Launch} {Q : Option AV → Mem → Prop} (x3 : Int) (f : Mm) (h : OkV Q (FX9_tryPairs_95_4_48 x3 f)) : Ret G l MX9_tryPairs (6) 0 0 [vR 95, vR 4, vR 48, vI x3] (SH, RF, f) Q := by
  refine ret_of (L := [some (vR 95), some (vR 4), some (vR 48), some (vI x3), none, none]) (by decide) rfl (Nat.le_of_ble_eq_true rfl) ?_
  exact SX9_tryPairs_95_4_48_0 x3 f h
theorem dX10_rests_0 : decode cX10_rests 0 = .ok (.aload_n 0, 1) := by decide +kernel
theorem dX10_rests_1 : decode cX10_rests 1 = .ok (.getfield 19, 3) := by decide +kernel
theorem dX10_rests_4 : decode cX10_rests 4 = .ok (.iload_n 1, 1) := by decide +kernel
theorem dX10_rests_5 : decode cX10_rests 5 = .ok (.invokevirtual 126, 3) := by decide +kernel
theorem dX10_rests_8 : decode cX10_rests 8 = .ok (.ifCond .ne 6, 3) := by decide +kernel
theorem dX10_rests_14 : decode cX10_rests 14 = .ok (.aload_n 0, 1) := by decide +kernel
theorem dX10_rests_15 : decode cX10_rests 15 = .ok (.getfield 72, 3) := by decide +kernel
theorem dX10_rests_18 : decode cX10_rests 18 = .ok (.aload_n 0, 1) := by decide +kernel
theorem dX10_rests_19 : decode cX10_rests 19 = .ok (.getfield 19, 3) := by decide +kernel
theorem dX10_rests_22 : decode cX10_rests 22 = .ok (.aload_n 0, 1) := by decide +kernel
theorem dX10_rests_23 : decode cX10_rests 23 = .ok (.getfield 44, 3) := by decide +kernel
theorem dX10_rests_26 : decode cX10_rests 26 = .ok (.iload_n 1, 1) := by decide +kernel
theorem dX10_rests_27 : decode cX10_rests 27 = .ok (.invokevirtual 313, 3) := by decide +kernel
theorem dX10_rests_30 : decode cX10_rests 30 = .ok (.aload_n 0, 1) := by decide +kernel
theorem dX10_rests_31 : decode cX10_rests 31 = .ok (.getfield 72, 3) := by decide +kernel
theorem dX10_rests_34 : decode cX10_rests 34 = .ok (.getfield 317, 3) := by decide +kernel
theorem dX10_rests_37 : decode cX10_rests 37 = .ok (.ireturn, 1) := by decide +kernel
theorem dX10_rests_11 : decode cX10_rests 11 = .ok (.bipush (-2), 2) := by decide +kernel
theorem dX10_rests_13 : decode cX10_rests 13 = .ok (.ireturn, 1) := by decide +kernel
def FX10_rests_0  (x1 : Int) (f : Mm) : Option (Int × Mm) := (b2 (FX0_hasDay_4 x1 f) fun y1 f1 => (if y1 = 0 then some ((-2), f1) else ((FX9_tryPairs_95_4_48 x1 f1).bind fun f2 => some ((f2 95 0), f2))))
set_option maxHeartbeats 4000000 in
set_option maxRecDepth 100000 in
theorem SX10_rests_0 {G : GT} {l : Launch} {Q : Option AV → Mem → Prop}  (x1 : Int) (f : Mm) (h : OkI Q (FX10_rests_0  x1 f)) : Ev G l MX10_rests (Rm 7 0 0) (ZM G Q 0 0) 0 0 0 [some (vR 0), some (vI x1)] [] (SH, RF, f) := by
  unfold FX10_rests_0 at h
  refine ev_aload_n (i := 0) dX10_rests_0 rfl rfl ?_
  refine ev_getR dX10_rests_1 fl_X10_19 sh_0 (by decide) (by decide) rf_0_1 ?_
  refine ev_iload_n (i := 1) dX10_rests_4 rfl rfl ?_
  refine ev_cVI (b := 4) (av := [vI x1]) (S := []) (fun q => q) h dX10_rests_5 (fun Q' q => TX0_hasDay_4 x1 _ q) kvX0_hasDay ml_X10_126 sh_4 rfl (RRc (by decide) (by decide)) (Nat.le_of_ble_eq_true rfl) ⟨Nat.le_of_ble_eq_true rfl, Nat.le_of_ble_eq_true rfl⟩ (fun y1 f1 h => ?_)
  refine ev_if_ne (tgt := 14) dX10_rests_8 (by decide) (fun c3 => ?_) (fun c3 => ?_)
  · rw [if_neg c3] at h
    refine ev_aload_n (i := 0) dX10_rests_14 rfl rfl ?_
    refine ev_getR dX10_rests_15 fl_X10_72 sh_0 (by decide) (by decide) rf_0_10 ?_
    refine ev_aload_n (i := 0) dX10_rests_18 rfl rfl ?_
    refine ev_getR dX10_rests_19 fl_X10_19 sh_0 (by decide) (by decide) rf_0_1 ?_
    refine ev_aload_n (i := 0) dX10_rests_22 rfl rfl ?_
    refine ev_getR dX10_rests_23 fl_X10_44 sh_0 (by decide) (by decide) rf_0_6 ?_
    refine ev_iload_n (i := 1) dX10_rests_26 rfl rfl ?_
    refine ev_cVV (b := 95) (av := [vR 4, vR 48, vI x1]) (S := []) (fun q => q) h dX10_rests_27 (fun Q' q => TX9_tryPairs_95_4_48 x1 _ q) kvX9_tryPairs ml_X10_313 sh_95 rfl (RRc (by decide) (by decide)) (Nat.le_of_ble_eq_true rfl) ⟨Nat.le_of_ble_eq_true rfl, Nat.le_of_ble_eq_true rfl⟩ (fun f2 h => ?_)
    refine ev_aload_n (i := 0) dX10_rests_30 rfl rfl ?_
    refine ev_getR dX10_rests_31 fl_X10_72 sh_0 (by decide) (by decide) rf_0_10 ?_
    refine ex_getI (x := (f2 95 0)) dX10_rests_34 fl_X10_317 sh_95 (by decide) (by decide) rfl ?_
    exact ev_iret rfl dX10_rests_37 h
  · rw [if_pos c3] at h
    refine ev_bipush (v := (-2)) dX10_rests_11 (r32c rfl) (by decide) ?_
    exact ev_iret rfl dX10_rests_13 h
def FX10_rests (x1 : Int) (f : Mm) : Option (Int × Mm) := FX10_rests_0 x1 f
set_option maxRecDepth 100000 in
theorem TX10_rests {G : GT} {l : Launch} {Q : Option AV → Mem → Prop} (x1 : Int) (f : Mm) (h : OkI Q (FX10_rests x1 f)) : Ret G l MX10_rests (7) 0 0 [vR 0, vI x1] (SH, RF, f) Q := by
  refine ret_of (L := [some (vR 0), some (vI x1)]) (by decide) rfl (Nat.le_of_ble_eq_true rfl) ?_
  exact SX10_rests_0 x1 f h
theorem dX10_rest_0 : decode cX10_rest 0 = .ok (.aload_n 0, 1) := by decide +kernel
theorem dX10_rest_1 : decode cX10_rest 1 = .ok (.getfield 19, 3) := by decide +kernel
theorem dX10_rest_4 : decode cX10_rest 4 = .ok (.iload_n 1, 1) := by decide +kernel
theorem dX10_rest_5 : decode cX10_rest 5 = .ok (.invokevirtual 126, 3) := by decide +kernel
theorem dX10_rest_8 : decode cX10_rest 8 = .ok (.ifCond .ne 6, 3) := by decide +kernel
theorem dX10_rest_14 : decode cX10_rest 14 = .ok (.aload_n 0, 1) := by decide +kernel
theorem dX10_rest_15 : decode cX10_rest 15 = .ok (.getfield 72, 3) := by decide +kernel
theorem dX10_rest_18 : decode cX10_rest 18 = .ok (.aload_n 0, 1) := by decide +kernel
theorem dX10_rest_19 : decode cX10_rest 19 = .ok (.getfield 19, 3) := by decide +kernel
theorem dX10_rest_22 : decode cX10_rest 22 = .ok (.aload_n 0, 1) := by decide +kernel
theorem dX10_rest_23 : decode cX10_rest 23 = .ok (.getfield 44, 3) := by decide +kernel
theorem dX10_rest_26 : decode cX10_rest 26 = .ok (.iload_n 1, 1) := by decide +kernel
theorem dX10_rest_27 : decode cX10_rest 27 = .ok (.invokevirtual 313, 3) := by decide +kernel
theorem dX10_rest_30 : decode cX10_rest 30 = .ok (.aload_n 0, 1) := by decide +kernel
theorem dX10_rest_31 : decode cX10_rest 31 = .ok (.getfield 72, 3) := by decide +kernel
theorem dX10_rest_34 : decode cX10_rest 34 = .ok (.getfield 318, 3) := by decide +kernel
theorem dX10_rest_37 : decode cX10_rest 37 = .ok (.ireturn, 1) := by decide +kernel
theorem dX10_rest_11 : decode cX10_rest 11 = .ok (.bipush (-2), 2) := by decide +kernel
theorem dX10_rest_13 : decode cX10_rest 13 = .ok (.ireturn, 1) := by decide +kernel
def FX10_rest_0  (x1 : Int) (f : Mm) : Option (Int × Mm) := (b2 (FX0_hasDay_4 x1 f) fun y1 f1 => (if y1 = 0 then some ((-2), f1) else ((FX9_tryPairs_95_4_48 x1 f1).bind fun f2 => some ((f2 95 1), f2))))
set_option maxHeartbeats 4000000 in
set_option maxRecDepth 100000 in
theorem SX10_rest_0 {G : GT} {l : Launch} {Q : Option AV → Mem → Prop}  (x1 : Int) (f : Mm) (h : OkI Q (FX10_rest_0  x1 f)) : Ev G l MX10_rest (Rm 7 0 0) (ZM G Q 0 0) 0 0 0 [some (vR 0), some (vI x1)] [] (SH, RF, f) := by
  unfold FX10_rest_0 at h
  refine ev_aload_n (i := 0) dX10_rest_0 rfl rfl ?_
  refine ev_getR dX10_rest_1 fl_X10_19 sh_0 (by decide) (by decide) rf_0_1 ?_
  refine ev_iload_n (i := 1) dX10_rest_4 rfl rfl ?_
  refine ev_cVI (b := 4) (av := [vI x1]) (S := []) (fun q => q) h dX10_rest_5 (fun Q' q => TX0_hasDay_4 x1 _ q) kvX0_hasDay ml_X10_126 sh_4 rfl (RRc (by decide) (by decide)) (Nat.le_of_ble_eq_true rfl) ⟨Nat.le_of_ble_eq_true rfl, Nat.le_of_ble_eq_true rfl⟩ (fun y1 f1 h => ?_)
  refine ev_if_ne (tgt := 14) dX10_rest_8 (by decide) (fun c3 => ?_) (fun c3 => ?_)
  · rw [if_neg c3] at h
    refine ev_aload_n (i := 0) dX10_rest_14 rfl rfl ?_
    refine ev_getR dX10_rest_15 fl_X10_72 sh_0 (by decide) (by decide) rf_0_10 ?_
    refine ev_aload_n (i := 0) dX10_rest_18 rfl rfl ?_
    refine ev_getR dX10_rest_19 fl_X10_19 sh_0 (by decide) (by decide) rf_0_1 ?_
    refine ev_aload_n (i := 0) dX10_rest_22 rfl rfl ?_
    refine ev_getR dX10_rest_23 fl_X10_44 sh_0 (by decide) (by decide) rf_0_6 ?_
    refine ev_iload_n (i := 1) dX10_rest_26 rfl rfl ?_
    refine ev_cVV (b := 95) (av := [vR 4, vR 48, vI x1]) (S := []) (fun q => q) h dX10_rest_27 (fun Q' q => TX9_tryPairs_95_4_48 x1 _ q) kvX9_tryPairs ml_X10_313 sh_95 rfl (RRc (by decide) (by decide)) (Nat.le_of_ble_eq_true rfl) ⟨Nat.le_of_ble_eq_true rfl, Nat.le_of_ble_eq_true rfl⟩ (fun f2 h => ?_)
    refine ev_aload_n (i := 0) dX10_rest_30 rfl rfl ?_
    refine ev_getR dX10_rest_31 fl_X10_72 sh_0 (by decide) (by decide) rf_0_10 ?_
    refine ex_getI (x := (f2 95 1)) dX10_rest_34 fl_X10_318 sh_95 (by decide) (by decide) rfl ?_
    exact ev_iret rfl dX10_rest_37 h
  · rw [if_pos c3] at h
    refine ev_bipush (v := (-2)) dX10_rest_11 (r32c rfl) (by decide) ?_
    exact ev_iret rfl dX10_rest_13 h
def FX10_rest (x1 : Int) (f : Mm) : Option (Int × Mm) := FX10_rest_0 x1 f
set_option maxRecDepth 100000 in
theorem TX10_rest {G : GT} {l : Launch} {Q : Option AV → Mem → Prop} (x1 : Int) (f : Mm) (h : OkI Q (FX10_rest x1 f)) : Ret G l MX10_rest (7) 0 0 [vR 0, vI x1] (SH, RF, f) Q := by
  refine ret_of (L := [some (vR 0), some (vI x1)]) (by decide) rfl (Nat.le_of_ble_eq_true rfl) ?_
  exact SX10_rest_0 x1 f h
theorem dX10_has_90 : decode cX10_has 90 = .ok (.invokevirtual 327, 3) := by decide +kernel
theorem dX10_has_93 : decode cX10_has 93 = .ok (.ireturn, 1) := by decide +kernel
theorem dX10_has_0 : decode cX10_has 0 = .ok (.iload_n 1, 1) := by decide +kernel
theorem dX10_has_1 : decode cX10_has 1 = .ok (.invokestatic 123, 3) := by decide +kernel
theorem dX10_has_4 : decode cX10_has 4 = .ok (.ifCond .eq 15, 3) := by decide +kernel
theorem dX10_has_19 : decode cX10_has 19 = .ok (.ldc 196, 2) := by decide +kernel
theorem dX10_has_21 : decode cX10_has 21 = .ok (.ireturn, 1) := by decide +kernel
theorem dX10_has_7 : decode cX10_has 7 = .ok (.aload_n 0, 1) := by decide +kernel
theorem dX10_has_8 : decode cX10_has 8 = .ok (.getfield 19, 3) := by decide +kernel
theorem dX10_has_11 : decode cX10_has 11 = .ok (.iload 4, 2) := by decide +kernel
theorem dX10_has_13 : decode cX10_has 13 = .ok (.invokevirtual 126, 3) := by decide +kernel
theorem dX10_has_16 : decode cX10_has 16 = .ok (.ifCond .ne 6, 3) := by decide +kernel
theorem dX10_has_22 : decode cX10_has 22 = .ok (.aload_n 0, 1) := by decide +kernel
theorem dX10_has_23 : decode cX10_has 23 = .ok (.getfield 19, 3) := by decide +kernel
theorem dX10_has_26 : decode cX10_has 26 = .ok (.iconst 0, 1) := by decide +kernel
theorem dX10_has_27 : decode cX10_has 27 = .ok (.iload_n 2, 1) := by decide +kernel
theorem dX10_has_28 : decode cX10_has 28 = .ok (.invokevirtual 320, 3) := by decide +kernel
theorem dX10_has_31 : decode cX10_has 31 = .ok (.ifCond .eq 15, 3) := by decide +kernel
theorem dX10_has_46 : decode cX10_has 46 = .ok (.ldc 196, 2) := by decide +kernel
theorem dX10_has_48 : decode cX10_has 48 = .ok (.ireturn, 1) := by decide +kernel
theorem dX10_has_34 : decode cX10_has 34 = .ok (.aload_n 0, 1) := by decide +kernel
theorem dX10_has_35 : decode cX10_has 35 = .ok (.getfield 19, 3) := by decide +kernel
theorem dX10_has_38 : decode cX10_has 38 = .ok (.iconst 1, 1) := by decide +kernel
theorem dX10_has_39 : decode cX10_has 39 = .ok (.iload_n 3, 1) := by decide +kernel
theorem dX10_has_40 : decode cX10_has 40 = .ok (.invokevirtual 320, 3) := by decide +kernel
theorem dX10_has_43 : decode cX10_has 43 = .ok (.ifCond .ne 6, 3) := by decide +kernel
theorem dX10_has_49 : decode cX10_has 49 = .ok (.aload_n 0, 1) := by decide +kernel
theorem dX10_has_50 : decode cX10_has 50 = .ok (.getfield 72, 3) := by decide +kernel
theorem dX10_has_53 : decode cX10_has 53 = .ok (.aload_n 0, 1) := by decide +kernel
theorem dX10_has_54 : decode cX10_has 54 = .ok (.getfield 19, 3) := by decide +kernel
theorem dX10_has_57 : decode cX10_has 57 = .ok (.aload_n 0, 1) := by decide +kernel
theorem dX10_has_58 : decode cX10_has 58 = .ok (.getfield 44, 3) := by decide +kernel
theorem dX10_has_61 : decode cX10_has 61 = .ok (.iload 4, 2) := by decide +kernel
theorem dX10_has_63 : decode cX10_has 63 = .ok (.iload_n 2, 1) := by decide +kernel
theorem dX10_has_64 : decode cX10_has 64 = .ok (.iload_n 3, 1) := by decide +kernel
theorem dX10_has_65 : decode cX10_has 65 = .ok (.invokevirtual 323, 3) := by decide +kernel
theorem dX10_has_68 : decode cX10_has 68 = .ok (.aload_n 0, 1) := by decide +kernel
theorem dX10_has_69 : decode cX10_has 69 = .ok (.getfield 72, 3) := by decide +kernel
theorem dX10_has_72 : decode cX10_has 72 = .ok (.aload_n 0, 1) := by decide +kernel
theorem dX10_has_73 : decode cX10_has 73 = .ok (.getfield 19, 3) := by decide +kernel
theorem dX10_has_76 : decode cX10_has 76 = .ok (.aload_n 0, 1) := by decide +kernel
theorem dX10_has_77 : decode cX10_has 77 = .ok (.getfield 44, 3) := by decide +kernel
theorem dX10_has_80 : decode cX10_has 80 = .ok (.iload_n 1, 1) := by decide +kernel
theorem dX10_has_81 : decode cX10_has 81 = .ok (.iload_n 1, 1) := by decide +kernel
theorem dX10_has_82 : decode cX10_has 82 = .ok (.ifCond .ne 7, 3) := by decide +kernel
theorem dX10_has_89 : decode cX10_has 89 = .ok (.iload_n 3, 1) := by decide +kernel
theorem dX10_has_85 : decode cX10_has 85 = .ok (.iload_n 2, 1) := by decide +kernel
theorem dX10_has_86 : decode cX10_has 86 = .ok (.goto 4, 3) := by decide +kernel
def FX10_has_90  (s3 : Int) (s4 : Int) (f : Mm) : Option (Int × Mm) := (b2 (FX9_gainOf_95_4_48 s3 s4 f) fun y1 f1 => some (y1, f1))
set_option maxHeartbeats 4000000 in
set_option maxRecDepth 100000 in
theorem SX10_has_90 {G : GT} {l : Launch} {Q : Option AV → Mem → Prop}  (s3 : Int) (s4 : Int) (f : Mm) (h : OkI Q (FX10_has_90  s3 s4 f)) : Ev G l MX10_has (Rm 6 0 0) (ZM G Q 0 0) 0 0 90 [none, none, none, none, none] [vI s4, vI s3, vR 48, vR 4, vR 95] (SH, RF, f) := by
  unfold FX10_has_90 at h
  refine ev_cVI (b := 95) (av := [vR 4, vR 48, vI s3, vI s4]) (S := []) (fun q => q) h dX10_has_90 (fun Q' q => TX9_gainOf_95_4_48 s3 s4 _ q) kvX9_gainOf ml_X10_327 sh_95 rfl (RRc (by decide) (by decide)) (Nat.le_of_ble_eq_true rfl) ⟨Nat.le_of_ble_eq_true rfl, Nat.le_of_ble_eq_true rfl⟩ (fun y1 f1 h => ?_)
  exact ev_iret rfl dX10_has_93 h
def FX10_has_0  (x1 : Int) (x2 : Int) (x3 : Int) (x4 : Int) (f : Mm) : Option (Int × Mm) := (b2 (FX10_isSide x1 f) fun y1 f1 => (if y1 = 0 then some ((-1000000), f1) else (b2 (FX0_hasDay_4 x4 f1) fun y2 f2 => (if y2 = 0 then some ((-1000000), f2) else (b2 (FX0_mayChoose_4 0 x2 f2) fun y3 f3 => (if y3 = 0 then some ((-1000000), f3) else (b2 (FX0_mayChoose_4 1 x3 f3) fun y4 f4 => (if y4 = 0 then some ((-1000000), f4) else ((FX9_agree_95_4_48 x4 x2 x3 f4).bind fun f5 => (if x1 = 0 then FX10_has_90 x1 x2 f5 else FX10_has_90 x1 x3 f5))))))))))
set_option maxHeartbeats 4000000 in
set_option maxRecDepth 100000 in
theorem SX10_has_0 {G : GT} {l : Launch} {Q : Option AV → Mem → Prop}  (x1 : Int) (x2 : Int) (x3 : Int) (x4 : Int) (f : Mm) (h : OkI Q (FX10_has_0  x1 x2 x3 x4 f)) : Ev G l MX10_has (Rm 6 0 0) (ZM G Q 0 0) 0 0 0 [some (vR 0), some (vI x1), some (vI x2), some (vI x3), some (vI x4)] [] (SH, RF, f) := by
  unfold FX10_has_0 at h
  refine ev_iload_n (i := 1) dX10_has_0 rfl rfl ?_
  refine ev_cSI (av := [vI x1]) (S := []) (fun q => q) h dX10_has_1 (fun Q' q => TX10_isSide x1 _ q) ksX10_isSide ml_X10_123 rfl (RRc (by decide) (by decide)) (Nat.le_of_ble_eq_true rfl) ⟨Nat.le_of_ble_eq_true rfl, Nat.le_of_ble_eq_true rfl⟩ (fun y1 f1 h => ?_)
  refine ev_if_eq (tgt := 19) dX10_has_4 (by decide) (fun c10 => ?_) (fun c10 => ?_)
  · rw [if_pos c10] at h
    refine ev_ldc (v := (-1000000)) dX10_has_19 (r32c rfl) kc_X10_196 ?_
    exact ev_iret rfl dX10_has_21 h
  · rw [if_neg c10] at h
    refine ev_aload_n (i := 0) dX10_has_7 rfl rfl ?_
    refine ev_getR dX10_has_8 fl_X10_19 sh_0 (by decide) (by decide) rf_0_1 ?_
    refine ev_iload dX10_has_11 rfl ?_
    refine ev_cVI (b := 4) (av := [vI x4]) (S := []) (fun q => q) h dX10_has_13 (fun Q' q => TX0_hasDay_4 x4 _ q) kvX0_hasDay ml_X10_126 sh_4 rfl (RRc (by decide) (by decide)) (Nat.le_of_ble_eq_true rfl) ⟨Nat.le_of_ble_eq_true rfl, Nat.le_of_ble_eq_true rfl⟩ (fun y2 f2 h => ?_)
    refine ev_if_ne (tgt := 22) dX10_has_16 (by decide) (fun c9 => ?_) (fun c9 => ?_)
    · rw [if_neg c9] at h
      refine ev_aload_n (i := 0) dX10_has_22 rfl rfl ?_
      refine ev_getR dX10_has_23 fl_X10_19 sh_0 (by decide) (by decide) rf_0_1 ?_
      refine ev_iconst dX10_has_26 (r32c rfl) ?_
      refine ev_iload_n (i := 2) dX10_has_27 rfl rfl ?_
      refine ev_cVI (b := 4) (av := [vI 0, vI x2]) (S := []) (fun q => q) h dX10_has_28 (fun Q' q => TX0_mayChoose_4 0 x2 _ q) kvX0_mayChoose ml_X10_320 sh_4 rfl (RRc (by decide) (by decide)) (Nat.le_of_ble_eq_true rfl) ⟨Nat.le_of_ble_eq_true rfl, Nat.le_of_ble_eq_true rfl⟩ (fun y3 f3 h => ?_)
      refine ev_if_eq (tgt := 46) dX10_has_31 (by decide) (fun c8 => ?_) (fun c8 => ?_)
      · rw [if_pos c8] at h
        refine ev_ldc (v := (-1000000)) dX10_has_46 (r32c rfl) kc_X10_196 ?_
        exact ev_iret rfl dX10_has_48 h
      · rw [if_neg c8] at h
        refine ev_aload_n (i := 0) dX10_has_34 rfl rfl ?_
        refine ev_getR dX10_has_35 fl_X10_19 sh_0 (by decide) (by decide) rf_0_1 ?_
        refine ev_iconst dX10_has_38 (r32c rfl) ?_
        refine ev_iload_n (i := 3) dX10_has_39 rfl rfl ?_
        refine ev_cVI (b := 4) (av := [vI 1, vI x3]) (S := []) (fun q => q) h dX10_has_40 (fun Q' q => TX0_mayChoose_4 1 x3 _ q) kvX0_mayChoose ml_X10_320 sh_4 rfl (RRc (by decide) (by decide)) (Nat.le_of_ble_eq_true rfl) ⟨Nat.le_of_ble_eq_true rfl, Nat.le_of_ble_eq_true rfl⟩ (fun y4 f4 h => ?_)
        refine ev_if_ne (tgt := 49) dX10_has_43 (by decide) (fun c7 => ?_) (fun c7 => ?_)
        · rw [if_neg c7] at h
          refine ev_aload_n (i := 0) dX10_has_49 rfl rfl ?_
          refine ev_getR dX10_has_50 fl_X10_72 sh_0 (by decide) (by decide) rf_0_10 ?_
          refine ev_aload_n (i := 0) dX10_has_53 rfl rfl ?_
          refine ev_getR dX10_has_54 fl_X10_19 sh_0 (by decide) (by decide) rf_0_1 ?_
          refine ev_aload_n (i := 0) dX10_has_57 rfl rfl ?_
          refine ev_getR dX10_has_58 fl_X10_44 sh_0 (by decide) (by decide) rf_0_6 ?_
          refine ev_iload dX10_has_61 rfl ?_
          refine ev_iload_n (i := 2) dX10_has_63 rfl rfl ?_
          refine ev_iload_n (i := 3) dX10_has_64 rfl rfl ?_
          refine ev_cVV (b := 95) (av := [vR 4, vR 48, vI x4, vI x2, vI x3]) (S := []) (fun q => q) h dX10_has_65 (fun Q' q => TX9_agree_95_4_48 x4 x2 x3 _ q) kvX9_agree ml_X10_323 sh_95 rfl (RRc (by decide) (by decide)) (Nat.le_of_ble_eq_true rfl) ⟨Nat.le_of_ble_eq_true rfl, Nat.le_of_ble_eq_true rfl⟩ (fun f5 h => ?_)
          refine ev_aload_n (i := 0) dX10_has_68 rfl rfl ?_
          refine ev_getR dX10_has_69 fl_X10_72 sh_0 (by decide) (by decide) rf_0_10 ?_
          refine ev_aload_n (i := 0) dX10_has_72 rfl rfl ?_
          refine ev_getR dX10_has_73 fl_X10_19 sh_0 (by decide) (by decide) rf_0_1 ?_
          refine ev_aload_n (i := 0) dX10_has_76 rfl rfl ?_
          refine ev_getR dX10_has_77 fl_X10_44 sh_0 (by decide) (by decide) rf_0_6 ?_
          refine ev_iload_n (i := 1) dX10_has_80 rfl rfl ?_
          refine ev_iload_n (i := 1) dX10_has_81 rfl rfl ?_
          refine ev_if_ne (tgt := 89) dX10_has_82 (by decide) (fun c6 => ?_) (fun c6 => ?_)
          · rw [if_neg c6] at h
            refine ev_iload_n (i := 3) dX10_has_89 rfl rfl ?_
            refine ev_fg [false, false, false, false, false] rfl ?_
            exact SX10_has_90  x1 x3 _ h
          · rw [if_pos c6] at h
            refine ev_iload_n (i := 2) dX10_has_85 rfl rfl ?_
            refine ev_goto (tgt := 90) dX10_has_86 (by decide) ?_
            refine ev_fg [false, false, false, false, false] rfl ?_
            exact SX10_has_90  x1 x2 _ h
        · rw [if_pos c7] at h
          refine ev_ldc (v := (-1000000)) dX10_has_46 (r32c rfl) kc_X10_196 ?_
          exact ev_iret rfl dX10_has_48 h
    · rw [if_pos c9] at h
      refine ev_ldc (v := (-1000000)) dX10_has_19 (r32c rfl) kc_X10_196 ?_
      exact ev_iret rfl dX10_has_21 h
def FX10_has (x1 : Int) (x2 : Int) (x3 : Int) (x4 : Int) (f : Mm) : Option (Int × Mm) := FX10_has_0 x1 x2 x3 x4 f
set_option maxRecDepth 100000 in
theorem TX10_has {G : GT} {l : Launch} {Q : Option AV → Mem → Prop} (x1 : Int) (x2 : Int) (x3 : Int) (x4 : Int) (f : Mm) (h : OkI Q (FX10_has x1 x2 x3 x4 f)) : Ret G l MX10_has (6) 0 0 [vR 0, vI x1, vI x2, vI x3, vI x4] (SH, RF, f) Q := by
  refine ret_of (L := [some (vR 0), some (vI x1), some (vI x2), some (vI x3), some (vI x4)]) (by decide) rfl (Nat.le_of_ble_eq_true rfl) ?_
  exact SX10_has_0 x1 x2 x3 x4 f h
theorem dX10_sharesWrong_39 : decode cX10_sharesWrong 39 = .ok (.iload 4, 2) := by decide +kernel
theorem dX10_sharesWrong_41 : decode cX10_sharesWrong 41 = .ok (.iload_n 3, 1) := by decide +kernel
theorem dX10_sharesWrong_42 : decode cX10_sharesWrong 42 = .ok (.if_icmp .ge 42, 3) := by decide +kernel
theorem dX10_sharesWrong_84 : decode cX10_sharesWrong 84 = .ok (.iconst 0, 1) := by decide +kernel
theorem dX10_sharesWrong_85 : decode cX10_sharesWrong 85 = .ok (.ireturn, 1) := by decide +kernel
theorem dX10_sharesWrong_45 : decode cX10_sharesWrong 45 = .ok (.aload_n 0, 1) := by decide +kernel
theorem dX10_sharesWrong_46 : decode cX10_sharesWrong 46 = .ok (.getfield 37, 3) := by decide +kernel
theorem dX10_sharesWrong_49 : decode cX10_sharesWrong 49 = .ok (.getfield 402, 3) := by decide +kernel
theorem dX10_sharesWrong_52 : decode cX10_sharesWrong 52 = .ok (.iload_n 1, 1) := by decide +kernel
theorem dX10_sharesWrong_53 : decode cX10_sharesWrong 53 = .ok (.aaload, 1) := by decide +kernel
theorem dX10_sharesWrong_54 : decode cX10_sharesWrong 54 = .ok (.iload 4, 2) := by decide +kernel
theorem dX10_sharesWrong_56 : decode cX10_sharesWrong 56 = .ok (.laload, 1) := by decide +kernel
theorem dX10_sharesWrong_57 : decode cX10_sharesWrong 57 = .ok (.lstore 5, 2) := by decide +kernel
theorem dX10_sharesWrong_59 : decode cX10_sharesWrong 59 = .ok (.lload 5, 2) := by decide +kernel
theorem dX10_sharesWrong_61 : decode cX10_sharesWrong 61 = .ok (.lconst 0, 1) := by decide +kernel
theorem dX10_sharesWrong_62 : decode cX10_sharesWrong 62 = .ok (.lcmp, 1) := by decide +kernel
theorem dX10_sharesWrong_63 : decode cX10_sharesWrong 63 = .ok (.ifCond .lt 12, 3) := by decide +kernel
theorem dX10_sharesWrong_75 : decode cX10_sharesWrong 75 = .ok (.bipush (-2), 2) := by decide +kernel
theorem dX10_sharesWrong_77 : decode cX10_sharesWrong 77 = .ok (.ireturn, 1) := by decide +kernel
theorem dX10_sharesWrong_66 : decode cX10_sharesWrong 66 = .ok (.lload 5, 2) := by decide +kernel
theorem dX10_sharesWrong_68 : decode cX10_sharesWrong 68 = .ok (.ldc2_w 444, 3) := by decide +kernel
theorem dX10_sharesWrong_71 : decode cX10_sharesWrong 71 = .ok (.lcmp, 1) := by decide +kernel
theorem dX10_sharesWrong_72 : decode cX10_sharesWrong 72 = .ok (.ifCond .le 6, 3) := by decide +kernel
theorem dX10_sharesWrong_78 : decode cX10_sharesWrong 78 = .ok (.iinc 4 1, 3) := by decide +kernel
theorem dX10_sharesWrong_81 : decode cX10_sharesWrong 81 = .ok (.goto (-42), 3) := by decide +kernel
theorem dX10_sharesWrong_0 : decode cX10_sharesWrong 0 = .ok (.aload_n 0, 1) := by decide +kernel
theorem dX10_sharesWrong_1 : decode cX10_sharesWrong 1 = .ok (.iload_n 1, 1) := by decide +kernel
theorem dX10_sharesWrong_2 : decode cX10_sharesWrong 2 = .ok (.invokevirtual 439, 3) := by decide +kernel
theorem dX10_sharesWrong_5 : decode cX10_sharesWrong 5 = .ok (.istore_n 2, 1) := by decide +kernel
theorem dX10_sharesWrong_6 : decode cX10_sharesWrong 6 = .ok (.iload_n 2, 1) := by decide +kernel
theorem dX10_sharesWrong_7 : decode cX10_sharesWrong 7 = .ok (.ifCond .eq 5, 3) := by decide +kernel
theorem dX10_sharesWrong_12 : decode cX10_sharesWrong 12 = .ok (.aload_n 0, 1) := by decide +kernel
theorem dX10_sharesWrong_13 : decode cX10_sharesWrong 13 = .ok (.getfield 37, 3) := by decide +kernel
theorem dX10_sharesWrong_16 : decode cX10_sharesWrong 16 = .ok (.getfield 399, 3) := by decide +kernel
theorem dX10_sharesWrong_19 : decode cX10_sharesWrong 19 = .ok (.iload_n 1, 1) := by decide +kernel
theorem dX10_sharesWrong_20 : decode cX10_sharesWrong 20 = .ok (.iaload, 1) := by decide +kernel
theorem dX10_sharesWrong_21 : decode cX10_sharesWrong 21 = .ok (.istore_n 3, 1) := by decide +kernel
theorem dX10_sharesWrong_22 : decode cX10_sharesWrong 22 = .ok (.iload_n 3, 1) := by decide +kernel
theorem dX10_sharesWrong_23 : decode cX10_sharesWrong 23 = .ok (.aload_n 0, 1) := by decide +kernel
theorem dX10_sharesWrong_24 : decode cX10_sharesWrong 24 = .ok (.getfield 19, 3) := by decide +kernel
theorem dX10_sharesWrong_27 : decode cX10_sharesWrong 27 = .ok (.getfield 161, 3) := by decide +kernel
theorem dX10_sharesWrong_30 : decode cX10_sharesWrong 30 = .ok (.if_icmp .eq 6, 3) := by decide +kernel
theorem dX10_sharesWrong_36 : decode cX10_sharesWrong 36 = .ok (.iconst 0, 1) := by decide +kernel
theorem dX10_sharesWrong_37 : decode cX10_sharesWrong 37 = .ok (.istore 4, 2) := by decide +kernel
theorem dX10_sharesWrong_33 : decode cX10_sharesWrong 33 = .ok (.bipush (-2), 2) := by decide +kernel
theorem dX10_sharesWrong_35 : decode cX10_sharesWrong 35 = .ok (.ireturn, 1) := by decide +kernel
theorem dX10_sharesWrong_10 : decode cX10_sharesWrong 10 = .ok (.iload_n 2, 1) := by decide +kernel
theorem dX10_sharesWrong_11 : decode cX10_sharesWrong 11 = .ok (.ireturn, 1) := by decide +kernel
def FX10_sharesWrong_39  : Nat → Int → Int → Int → Mm → Option (Int × Mm)
  | 0, _, _, _, _ => none
  | n + 1, x1, x3, x4, f => (if x3 ≤ x4 then some (0, f) else (if 0 ≤ x1 ∧ x1 < 4 then (if 0 ≤ x4 ∧ x4 < 60 then (if (cmp3 (f (42 + x1.toNat) x4.toNat) 0) < 0 then some ((-2), f) else (if (cmp3 (f (42 + x1.toNat) x4.toNat) 999) ≤ 0 then FX10_sharesWrong_39 n x1 x3 (w32 (x4 + 1)) f else some ((-2), f))) else none) else none))
set_option maxHeartbeats 4000000 in
set_option maxRecDepth 100000 in
theorem SX10_sharesWrong_39 {G : GT} {l : Launch} {Q : Option AV → Mem → Prop}  : ∀ (n : Nat) (x1 : Int) (x3 : Int) (x4 : Int) (f : Mm), OkI Q (FX10_sharesWrong_39  n x1 x3 x4 f) → Ev G l MX10_sharesWrong (Rm 3 0 0) (ZM G Q 0 0) 0 0 39 [some (vR 0), some (vI x1), none, some (vI x3), some (vI x4), none, none] [] (SH, RF, f) := by
  intro n
  induction n with
  | zero => intro x1 x3 x4 f h; exact absurd h (by rw [FX10_sharesWrong_39]; exact fun q => q)
  | succ n ih =>
    intro x1 x3 x4 f h
    rw [FX10_sharesWrong_39] at h
    refine ev_iload dX10_sharesWrong_39 rfl ?_
    refine ev_iload_n (i := 3) dX10_sharesWrong_41 rfl rfl ?_
    refine ev_icmp_ge (tgt := 84) dX10_sharesWrong_42 (by decide) (fun c5 => ?_) (fun c5 => ?_)
    · rw [if_pos c5] at h
      refine ev_iconst dX10_sharesWrong_84 (r32c rfl) ?_
      exact ev_iret rfl dX10_sharesWrong_85 h
    · rw [if_neg c5] at h
      refine ev_aload_n (i := 0) dX10_sharesWrong_45 rfl rfl ?_
      refine ev_getR dX10_sharesWrong_46 fl_X10_37 sh_0 (by decide) (by decide) rf_0_5 ?_
      refine ev_getR dX10_sharesWrong_49 fl_X10_402 sh_40 (by decide) (by decide) rf_40_0 ?_
      refine ev_iload_n (i := 1) dX10_sharesWrong_52 rfl rfl ?_
      by_cases g1 : 0 ≤ x1 ∧ x1 < 4
      · rw [if_pos g1] at h
        refine ev_aald (b := (42 + x1.toNat)) dX10_sharesWrong_53 (Or.inr (Or.inl rfl)) sh_41 g1.1 g1.2 (rfr_41 g1) ?_
        refine ev_iload dX10_sharesWrong_54 rfl ?_
        by_cases g2 : 0 ≤ x4 ∧ x4 < 60
        · rw [if_pos g2] at h
          refine ex_lald (x := (f (42 + x1.toNat) x4.toNat)) dX10_sharesWrong_56 (shr_41 g1) g2.1 g2.2 rfl ?_
          refine ev_lstore (L' := [some (vR 0), some (vI x1), none, some (vI x3), some (vI x4), some (vJ (f (42 + x1.toNat) x4.toNat)), none]) dX10_sharesWrong_57 (by decide) rfl ?_
          refine ev_lload dX10_sharesWrong_59 rfl ?_
          refine ev_lconst (v := 0) dX10_sharesWrong_61 (r64c rfl) (by decide) ?_
          refine ev_lcmp dX10_sharesWrong_62 ?_
          refine ev_if_lt (tgt := 75) dX10_sharesWrong_63 (by decide) (fun c4 => ?_) (fun c4 => ?_)
          · rw [if_pos c4] at h
            refine ev_bipush (v := (-2)) dX10_sharesWrong_75 (r32c rfl) (by decide) ?_
            exact ev_iret rfl dX10_sharesWrong_77 h
          · rw [if_neg c4] at h
            refine ev_lload dX10_sharesWrong_66 rfl ?_
            refine ev_ldc2 (v := 999) dX10_sharesWrong_68 (r64c rfl) kc_X10_444 ?_
            refine ev_lcmp dX10_sharesWrong_71 ?_
            refine ev_if_le (tgt := 78) dX10_sharesWrong_72 (by decide) (fun c3 => ?_) (fun c3 => ?_)
            · rw [if_pos c3] at h
              refine ev_iinc (L' := [some (vR 0), some (vI x1), none, some (vI x3), some (vI (w32 (x4 + 1))), some (vJ (f (42 + x1.toNat) x4.toNat)), none]) dX10_sharesWrong_78 rfl (by decide) rfl ?_
              refine ev_goto (tgt := 39) dX10_sharesWrong_81 (by decide) ?_
              refine ev_fg [true, true, true, true, true, false, true] rfl ?_
              exact ih x1 x3 (w32 (x4 + 1)) _ h
            · rw [if_neg c3] at h
              refine ev_bipush (v := (-2)) dX10_sharesWrong_75 (r32c rfl) (by decide) ?_
              exact ev_iret rfl dX10_sharesWrong_77 h
        · rw [if_neg g2] at h; exact h.elim
      · rw [if_neg g1] at h; exact h.elim
def FX10_sharesWrong_0  (x1 : Int) (f : Mm) : Option (Int × Mm) := (b2 (FX10_slotWrong x1 f) fun y1 f1 => (if y1 = 0 then (if 0 ≤ x1 ∧ x1 < 4 then (if (f1 46 x1.toNat) = (f1 4 5) then FX10_sharesWrong_39 fu x1 (f1 46 x1.toNat) 0 f1 else some ((-2), f1)) else none) else some (y1, f1)))
set_option maxHeartbeats 4000000 in
set_option maxRecDepth 100000 in
theorem SX10_sharesWrong_0 {G : GT} {l : Launch} {Q : Option AV → Mem → Prop}  (x1 : Int) (f : Mm) (h : OkI Q (FX10_sharesWrong_0  x1 f)) : Ev G l MX10_sharesWrong (Rm 3 0 0) (ZM G Q 0 0) 0 0 0 [some (vR 0), some (vI x1), none, none, none, none, none] [] (SH, RF, f) := by
  unfold FX10_sharesWrong_0 at h
  refine ev_aload_n (i := 0) dX10_sharesWrong_0 rfl rfl ?_
  refine ev_iload_n (i := 1) dX10_sharesWrong_1 rfl rfl ?_
  refine ev_cVI (b := 0) (av := [vI x1]) (S := []) (fun q => q) h dX10_sharesWrong_2 (fun Q' q => TX10_slotWrong x1 _ q) kvX10_slotWrong ml_X10_439 sh_0 rfl (RRc (by decide) (by decide)) (Nat.le_of_ble_eq_true rfl) ⟨Nat.le_of_ble_eq_true rfl, Nat.le_of_ble_eq_true rfl⟩ (fun y1 f1 h => ?_)
  refine ev_istore_n (i := 2) (L' := [some (vR 0), some (vI x1), some (vI y1), none, none, none, none]) dX10_sharesWrong_5 rfl (by decide) rfl ?_
  refine ev_iload_n (i := 2) dX10_sharesWrong_6 rfl rfl ?_
  refine ev_if_eq (tgt := 12) dX10_sharesWrong_7 (by decide) (fun c4 => ?_) (fun c4 => ?_)
  · rw [if_pos c4] at h
    refine ev_aload_n (i := 0) dX10_sharesWrong_12 rfl rfl ?_
    refine ev_getR dX10_sharesWrong_13 fl_X10_37 sh_0 (by decide) (by decide) rf_0_5 ?_
    refine ev_getR dX10_sharesWrong_16 fl_X10_399 sh_40 (by decide) (by decide) rf_40_1 ?_
    refine ev_iload_n (i := 1) dX10_sharesWrong_19 rfl rfl ?_
    by_cases g2 : 0 ≤ x1 ∧ x1 < 4
    · rw [if_pos g2] at h
      refine ex_iald (x := (f1 46 x1.toNat)) dX10_sharesWrong_20 sh_46 g2.1 g2.2 rfl ?_
      refine ev_istore_n (i := 3) (L' := [some (vR 0), some (vI x1), some (vI y1), some (vI (f1 46 x1.toNat)), none, none, none]) dX10_sharesWrong_21 rfl (by decide) rfl ?_
      refine ev_iload_n (i := 3) dX10_sharesWrong_22 rfl rfl ?_
      refine ev_aload_n (i := 0) dX10_sharesWrong_23 rfl rfl ?_
      refine ev_getR dX10_sharesWrong_24 fl_X10_19 sh_0 (by decide) (by decide) rf_0_1 ?_
      refine ex_getI (x := (f1 4 5)) dX10_sharesWrong_27 fl_X10_161 sh_4 (by decide) (by decide) rfl ?_
      refine ev_icmp_eq (tgt := 36) dX10_sharesWrong_30 (by decide) (fun c3 => ?_) (fun c3 => ?_)
      · rw [if_pos c3] at h
        refine ev_iconst dX10_sharesWrong_36 (r32c rfl) ?_
        refine ev_istore (L' := [some (vR 0), some (vI x1), some (vI y1), some (vI (f1 46 x1.toNat)), some (vI 0), none, none]) dX10_sharesWrong_37 (by decide) rfl ?_
        refine ev_fg [true, true, false, true, true, true, true] rfl ?_
        exact SX10_sharesWrong_39  fu x1 (f1 46 x1.toNat) 0 _ h
      · rw [if_neg c3] at h
        refine ev_bipush (v := (-2)) dX10_sharesWrong_33 (r32c rfl) (by decide) ?_
        exact ev_iret rfl dX10_sharesWrong_35 h
    · rw [if_neg g2] at h; exact h.elim
  · rw [if_neg c4] at h
    refine ev_iload_n (i := 2) dX10_sharesWrong_10 rfl rfl ?_
    exact ev_iret rfl dX10_sharesWrong_11 h
def FX10_sharesWrong (x1 : Int) (f : Mm) : Option (Int × Mm) := FX10_sharesWrong_0 x1 f
set_option maxRecDepth 100000 in
theorem TX10_sharesWrong {G : GT} {l : Launch} {Q : Option AV → Mem → Prop} (x1 : Int) (f : Mm) (h : OkI Q (FX10_sharesWrong x1 f)) : Ret G l MX10_sharesWrong (3) 0 0 [vR 0, vI x1] (SH, RF, f) Q := by
  refine ret_of (L := [some (vR 0), some (vI x1), none, none, none, none, none]) (by decide) rfl (Nat.le_of_ble_eq_true rfl) ?_
  exact SX10_sharesWrong_0 x1 f h
theorem dX6_sharesOf_37 : decode cX6_sharesOf 37 = .ok (.iinc 5 1, 3) := by decide +kernel
theorem dX6_sharesOf_40 : decode cX6_sharesOf 40 = .ok (.goto (-35), 3) := by decide +kernel
theorem dX6_sharesOf_5 : decode cX6_sharesOf 5 = .ok (.iload 5, 2) := by decide +kernel
theorem dX6_sharesOf_7 : decode cX6_sharesOf 7 = .ok (.aload_n 0, 1) := by decide +kernel
theorem dX6_sharesOf_8 : decode cX6_sharesOf 8 = .ok (.getfield 16, 3) := by decide +kernel
theorem dX6_sharesOf_11 : decode cX6_sharesOf 11 = .ok (.iload_n 1, 1) := by decide +kernel
theorem dX6_sharesOf_12 : decode cX6_sharesOf 12 = .ok (.iaload, 1) := by decide +kernel
theorem dX6_sharesOf_13 : decode cX6_sharesOf 13 = .ok (.if_icmp .ge 30, 3) := by decide +kernel
theorem dX6_sharesOf_43 : decode cX6_sharesOf 43 = .ok (.lload_n 3, 1) := by decide +kernel
theorem dX6_sharesOf_44 : decode cX6_sharesOf 44 = .ok (.lreturn, 1) := by decide +kernel
theorem dX6_sharesOf_16 : decode cX6_sharesOf 16 = .ok (.iload_n 2, 1) := by decide +kernel
theorem dX6_sharesOf_17 : decode cX6_sharesOf 17 = .ok (.iload 5, 2) := by decide +kernel
theorem dX6_sharesOf_19 : decode cX6_sharesOf 19 = .ok (.invokestatic 27, 3) := by decide +kernel
theorem dX6_sharesOf_22 : decode cX6_sharesOf 22 = .ok (.ifCond .eq 15, 3) := by decide +kernel
theorem dX6_sharesOf_25 : decode cX6_sharesOf 25 = .ok (.lload_n 3, 1) := by decide +kernel
theorem dX6_sharesOf_26 : decode cX6_sharesOf 26 = .ok (.aload_n 0, 1) := by decide +kernel
theorem dX6_sharesOf_27 : decode cX6_sharesOf 27 = .ok (.getfield 11, 3) := by decide +kernel
theorem dX6_sharesOf_30 : decode cX6_sharesOf 30 = .ok (.iload_n 1, 1) := by decide +kernel
theorem dX6_sharesOf_31 : decode cX6_sharesOf 31 = .ok (.aaload, 1) := by decide +kernel
theorem dX6_sharesOf_32 : decode cX6_sharesOf 32 = .ok (.iload 5, 2) := by decide +kernel
theorem dX6_sharesOf_34 : decode cX6_sharesOf 34 = .ok (.laload, 1) := by decide +kernel
theorem dX6_sharesOf_35 : decode cX6_sharesOf 35 = .ok (.ladd, 1) := by decide +kernel
theorem dX6_sharesOf_36 : decode cX6_sharesOf 36 = .ok (.lstore_n 3, 1) := by decide +kernel
theorem dX6_sharesOf_0 : decode cX6_sharesOf 0 = .ok (.lconst 0, 1) := by decide +kernel
theorem dX6_sharesOf_1 : decode cX6_sharesOf 1 = .ok (.lstore_n 3, 1) := by decide +kernel
theorem dX6_sharesOf_2 : decode cX6_sharesOf 2 = .ok (.iconst 0, 1) := by decide +kernel
theorem dX6_sharesOf_3 : decode cX6_sharesOf 3 = .ok (.istore 5, 2) := by decide +kernel
def FX6_sharesOf_37 (k5 : Int → Int → Int → Int → Mm → Option (Int × Mm)) (x1 : Int) (x2 : Int) (x3 : Int) (x5 : Int) (f : Mm) : Option (Int × Mm) := k5 x1 x2 x3 (w32 (x5 + 1)) f
set_option maxHeartbeats 4000000 in
set_option maxRecDepth 100000 in
theorem SX6_sharesOf_37 {G : GT} {l : Launch} {Q : Option AV → Mem → Prop} {k5 : Int → Int → Int → Int → Mm → Option (Int × Mm)} (q5 : ∀ (x1 : Int) (x2 : Int) (x3 : Int) (x5 : Int) (f : Mm), OkJ Q (k5 x1 x2 x3 x5 f) → Ev G l MX6_sharesOf (Rm 2 0 0) (ZM G Q 0 0) 0 0 5 [some (vR 40), some (vI x1), some (vI x2), some (vJ x3), none, some (vI x5)] [] (SH, RF, f)) (x1 : Int) (x2 : Int) (x3 : Int) (x5 : Int) (f : Mm) (h : OkJ Q (FX6_sharesOf_37 k5 x1 x2 x3 x5 f)) : Ev G l MX6_sharesOf (Rm 2 0 0) (ZM G Q 0 0) 0 0 37 [some (vR 40), some (vI x1), some (vI x2), some (vJ x3), none, some (vI x5)] [] (SH, RF, f) := by
  unfold FX6_sharesOf_37 at h
  refine ev_iinc (L' := [some (vR 40), some (vI x1), some (vI x2), some (vJ x3), none, some (vI (w32 (x5 + 1)))]) dX6_sharesOf_37 rfl (by decide) rfl ?_
  refine ev_goto (tgt := 5) dX6_sharesOf_40 (by decide) ?_
  exact q5 x1 x2 x3 (w32 (x5 + 1)) _ h
def FX6_sharesOf_5  : Nat → Int → Int → Int → Int → Mm → Option (Int × Mm)
  | 0, _, _, _, _, _ => none
  | n + 1, x1, x2, x3, x5, f => (if 0 ≤ x1 ∧ x1 < 4 then (if (f 46 x1.toNat) ≤ x5 then some (x3, f) else (b2 (FX10_holds x2 x5 f) fun y2 f2 => (if y2 = 0 then FX6_sharesOf_37 (FX6_sharesOf_5 n) x1 x2 x3 x5 f2 else (if 0 ≤ x1 ∧ x1 < 4 then (if 0 ≤ x5 ∧ x5 < 60 then FX6_sharesOf_37 (FX6_sharesOf_5 n) x1 x2 (w64 (x3 + (f2 (42 + x1.toNat) x5.toNat))) x5 f2 else none) else none)))) else none)
set_option maxHeartbeats 4000000 in
set_option maxRecDepth 100000 in
theorem SX6_sharesOf_5 {G : GT} {l : Launch} {Q : Option AV → Mem → Prop}  : ∀ (n : Nat) (x1 : Int) (x2 : Int) (x3 : Int) (x5 : Int) (f : Mm), OkJ Q (FX6_sharesOf_5  n x1 x2 x3 x5 f) → Ev G l MX6_sharesOf (Rm 2 0 0) (ZM G Q 0 0) 0 0 5 [some (vR 40), some (vI x1), some (vI x2), some (vJ x3), none, some (vI x5)] [] (SH, RF, f) := by
  intro n
  induction n with
  | zero => intro x1 x2 x3 x5 f h; exact absurd h (by rw [FX6_sharesOf_5]; exact fun q => q)
  | succ n ih =>
    intro x1 x2 x3 x5 f h
    rw [FX6_sharesOf_5] at h
    refine ev_iload dX6_sharesOf_5 rfl ?_
    refine ev_aload_n (i := 0) dX6_sharesOf_7 rfl rfl ?_
    refine ev_getR dX6_sharesOf_8 fl_X6_16 sh_40 (by decide) (by decide) rf_40_1 ?_
    refine ev_iload_n (i := 1) dX6_sharesOf_11 rfl rfl ?_
    by_cases g1 : 0 ≤ x1 ∧ x1 < 4
    · rw [if_pos g1] at h
      refine ex_iald (x := (f 46 x1.toNat)) dX6_sharesOf_12 sh_46 g1.1 g1.2 rfl ?_
      refine ev_icmp_ge (tgt := 43) dX6_sharesOf_13 (by decide) (fun c6 => ?_) (fun c6 => ?_)
      · rw [if_pos c6] at h
        refine ev_lload_n (i := 3) dX6_sharesOf_43 rfl rfl ?_
        exact ev_lret rfl dX6_sharesOf_44 h
      · rw [if_neg c6] at h
        refine ev_iload_n (i := 2) dX6_sharesOf_16 rfl rfl ?_
        refine ev_iload dX6_sharesOf_17 rfl ?_
        refine ev_cNI (av := [vI x2, vI x5]) (S := []) (fun q => q) h dX6_sharesOf_19 (fun Q' q => TX10_holds x2 x5 _ q) ksX10_holds nw_X6_27 rfl (RRc (by decide) (by decide)) (Nat.le_of_ble_eq_true rfl) ⟨Nat.le_of_ble_eq_true rfl, Nat.le_of_ble_eq_true rfl⟩ (fun y2 f2 h => ?_)
        refine ev_if_eq (tgt := 37) dX6_sharesOf_22 (by decide) (fun c5 => ?_) (fun c5 => ?_)
        · rw [if_pos c5] at h
          exact SX6_sharesOf_37 ih x1 x2 x3 x5 _ h
        · rw [if_neg c5] at h
          refine ev_lload_n (i := 3) dX6_sharesOf_25 rfl rfl ?_
          refine ev_aload_n (i := 0) dX6_sharesOf_26 rfl rfl ?_
          refine ev_getR dX6_sharesOf_27 fl_X6_11 sh_40 (by decide) (by decide) rf_40_0 ?_
          refine ev_iload_n (i := 1) dX6_sharesOf_30 rfl rfl ?_
          by_cases g3 : 0 ≤ x1 ∧ x1 < 4
          · rw [if_pos g3] at h
            refine ev_aald (b := (42 + x1.toNat)) dX6_sharesOf_31 (Or.inr (Or.inl rfl)) sh_41 g3.1 g3.2 (rfr_41 g3) ?_
            refine ev_iload dX6_sharesOf_32 rfl ?_
            by_cases g4 : 0 ≤ x5 ∧ x5 < 60
            · rw [if_pos g4] at h
              refine ex_lald (x := (f2 (42 + x1.toNat) x5.toNat)) dX6_sharesOf_34 (shr_41 g3) g4.1 g4.2 rfl ?_
              refine ev_ladd dX6_sharesOf_35 ?_
              refine ev_lstore_n (i := 3) (L' := [some (vR 40), some (vI x1), some (vI x2), some (vJ (w64 (x3 + (f2 (42 + x1.toNat) x5.toNat)))), none, some (vI x5)]) dX6_sharesOf_36 rfl (by decide) rfl ?_
              exact SX6_sharesOf_37 ih x1 x2 (w64 (x3 + (f2 (42 + x1.toNat) x5.toNat))) x5 _ h
            · rw [if_neg g4] at h; exact h.elim
          · rw [if_neg g3] at h; exact h.elim
    · rw [if_neg g1] at h; exact h.elim
def FX6_sharesOf_0  (x1 : Int) (x2 : Int) (f : Mm) : Option (Int × Mm) := FX6_sharesOf_5 fu x1 x2 0 0 f
set_option maxHeartbeats 4000000 in
set_option maxRecDepth 100000 in
theorem SX6_sharesOf_0 {G : GT} {l : Launch} {Q : Option AV → Mem → Prop}  (x1 : Int) (x2 : Int) (f : Mm) (h : OkJ Q (FX6_sharesOf_0  x1 x2 f)) : Ev G l MX6_sharesOf (Rm 2 0 0) (ZM G Q 0 0) 0 0 0 [some (vR 40), some (vI x1), some (vI x2), none, none, none] [] (SH, RF, f) := by
  unfold FX6_sharesOf_0 at h
  refine ev_lconst (v := 0) dX6_sharesOf_0 (r64c rfl) (by decide) ?_
  refine ev_lstore_n (i := 3) (L' := [some (vR 40), some (vI x1), some (vI x2), some (vJ 0), none, none]) dX6_sharesOf_1 rfl (by decide) rfl ?_
  refine ev_iconst dX6_sharesOf_2 (r32c rfl) ?_
  refine ev_istore (L' := [some (vR 40), some (vI x1), some (vI x2), some (vJ 0), none, some (vI 0)]) dX6_sharesOf_3 (by decide) rfl ?_
  exact SX6_sharesOf_5  fu x1 x2 0 0 _ h
def FX6_sharesOf (x1 : Int) (x2 : Int) (f : Mm) : Option (Int × Mm) := FX6_sharesOf_0 x1 x2 f
set_option maxRecDepth 100000 in
theorem TX6_sharesOf {G : GT} {l : Launch} {Q : Option AV → Mem → Prop} (x1 : Int) (x2 : Int) (f : Mm) (h : OkJ Q (FX6_sharesOf x1 x2 f)) : Ret G l MX6_sharesOf (2) 0 0 [vR 40, vI x1, vI x2] (SH, RF, f) Q := by
  refine ret_of (L := [some (vR 40), some (vI x1), some (vI x2), none, none, none]) (by decide) rfl (Nat.le_of_ble_eq_true rfl) ?_
  exact SX6_sharesOf_0 x1 x2 f h
theorem dX10_leavingSet_44 : decode cX10_leavingSet 44 = .ok (.iinc 3 1, 3) := by decide +kernel
theorem dX10_leavingSet_47 : decode cX10_leavingSet 47 = .ok (.goto (-45), 3) := by decide +kernel
theorem dX10_leavingSet_2 : decode cX10_leavingSet 2 = .ok (.iload_n 3, 1) := by decide +kernel
theorem dX10_leavingSet_3 : decode cX10_leavingSet 3 = .ok (.aload_n 0, 1) := by decide +kernel
theorem dX10_leavingSet_4 : decode cX10_leavingSet 4 = .ok (.getfield 19, 3) := by decide +kernel
theorem dX10_leavingSet_7 : decode cX10_leavingSet 7 = .ok (.invokevirtual 168, 3) := by decide +kernel
theorem dX10_leavingSet_10 : decode cX10_leavingSet 10 = .ok (.if_icmp .gt 40, 3) := by decide +kernel
theorem dX10_leavingSet_50 : decode cX10_leavingSet 50 = .ok (.iconst (-1), 1) := by decide +kernel
theorem dX10_leavingSet_51 : decode cX10_leavingSet 51 = .ok (.ireturn, 1) := by decide +kernel
theorem dX10_leavingSet_13 : decode cX10_leavingSet 13 = .ok (.aload_n 1, 1) := by decide +kernel
theorem dX10_leavingSet_14 : decode cX10_leavingSet 14 = .ok (.iload_n 3, 1) := by decide +kernel
theorem dX10_leavingSet_15 : decode cX10_leavingSet 15 = .ok (.invokevirtual 236, 3) := by decide +kernel
theorem dX10_leavingSet_18 : decode cX10_leavingSet 18 = .ok (.istore 4, 2) := by decide +kernel
theorem dX10_leavingSet_20 : decode cX10_leavingSet 20 = .ok (.iload 4, 2) := by decide +kernel
theorem dX10_leavingSet_22 : decode cX10_leavingSet 22 = .ok (.iconst (-1), 1) := by decide +kernel
theorem dX10_leavingSet_23 : decode cX10_leavingSet 23 = .ok (.if_icmp .eq 21, 3) := by decide +kernel
theorem dX10_leavingSet_26 : decode cX10_leavingSet 26 = .ok (.aload_n 0, 1) := by decide +kernel
theorem dX10_leavingSet_27 : decode cX10_leavingSet 27 = .ok (.getfield 37, 3) := by decide +kernel
theorem dX10_leavingSet_30 : decode cX10_leavingSet 30 = .ok (.iload_n 2, 1) := by decide +kernel
theorem dX10_leavingSet_31 : decode cX10_leavingSet 31 = .ok (.iload_n 3, 1) := by decide +kernel
theorem dX10_leavingSet_32 : decode cX10_leavingSet 32 = .ok (.invokevirtual 334, 3) := by decide +kernel
theorem dX10_leavingSet_35 : decode cX10_leavingSet 35 = .ok (.iload 4, 2) := by decide +kernel
theorem dX10_leavingSet_37 : decode cX10_leavingSet 37 = .ok (.i2l, 1) := by decide +kernel
theorem dX10_leavingSet_38 : decode cX10_leavingSet 38 = .ok (.lcmp, 1) := by decide +kernel
theorem dX10_leavingSet_39 : decode cX10_leavingSet 39 = .ok (.ifCond .le 5, 3) := by decide +kernel
theorem dX10_leavingSet_42 : decode cX10_leavingSet 42 = .ok (.iload_n 3, 1) := by decide +kernel
theorem dX10_leavingSet_43 : decode cX10_leavingSet 43 = .ok (.ireturn, 1) := by decide +kernel
theorem dX10_leavingSet_0 : decode cX10_leavingSet 0 = .ok (.iconst 0, 1) := by decide +kernel
theorem dX10_leavingSet_1 : decode cX10_leavingSet 1 = .ok (.istore_n 3, 1) := by decide +kernel
def FX10_leavingSet_0_57_44 (k2 : Int → Int → Mm → Option (Int × Mm)) (x2 : Int) (x3 : Int) (f : Mm) : Option (Int × Mm) := k2 x2 (w32 (x3 + 1)) f
set_option maxHeartbeats 4000000 in
set_option maxRecDepth 100000 in
theorem SX10_leavingSet_0_57_44 {G : GT} {l : Launch} {Q : Option AV → Mem → Prop} {k2 : Int → Int → Mm → Option (Int × Mm)} (q2 : ∀ (x2 : Int) (x3 : Int) (f : Mm), OkI Q (k2 x2 x3 f) → Ev G l MX10_leavingSet (Rm 3 0 0) (ZM G Q 0 0) 0 0 2 [some (vR 0), some (vR 57), some (vI x2), some (vI x3), none] [] (SH, RF, f)) (x2 : Int) (x3 : Int) (f : Mm) (h : OkI Q (FX10_leavingSet_0_57_44 k2 x2 x3 f)) : Ev G l MX10_leavingSet (Rm 3 0 0) (ZM G Q 0 0) 0 0 44 [some (vR 0), some (vR 57), some (vI x2), some (vI x3), none] [] (SH, RF, f) := by
  unfold FX10_leavingSet_0_57_44 at h
  refine ev_iinc (L' := [some (vR 0), some (vR 57), some (vI x2), some (vI (w32 (x3 + 1))), none]) dX10_leavingSet_44 rfl (by decide) rfl ?_
  refine ev_goto (tgt := 2) dX10_leavingSet_47 (by decide) ?_
  exact q2 x2 (w32 (x3 + 1)) _ h
def FX10_leavingSet_0_57_2  : Nat → Int → Int → Mm → Option (Int × Mm)
  | 0, _, _, _ => none
  | n + 1, x2, x3, f => (b2 (FX0_allCarts_4 f) fun y1 f1 => (if y1 < x3 then some ((-1), f1) else (b2 (FX3_cheapCost x3 f1) fun y2 f2 => (if y2 = (-1) then FX10_leavingSet_0_57_44 (FX10_leavingSet_0_57_2 n) x2 x3 f2 else (b2 (FX6_sharesOf x2 x3 f2) fun y3 f3 => (if (cmp3 y3 y2) ≤ 0 then FX10_leavingSet_0_57_44 (FX10_leavingSet_0_57_2 n) x2 x3 f3 else some (x3, f3)))))))
set_option maxHeartbeats 4000000 in
set_option maxRecDepth 100000 in
theorem SX10_leavingSet_0_57_2 {G : GT} {l : Launch} {Q : Option AV → Mem → Prop}  : ∀ (n : Nat) (x2 : Int) (x3 : Int) (f : Mm), OkI Q (FX10_leavingSet_0_57_2  n x2 x3 f) → Ev G l MX10_leavingSet (Rm 3 0 0) (ZM G Q 0 0) 0 0 2 [some (vR 0), some (vR 57), some (vI x2), some (vI x3), none] [] (SH, RF, f) := by
  intro n
  induction n with
  | zero => intro x2 x3 f h; exact absurd h (by rw [FX10_leavingSet_0_57_2]; exact fun q => q)
  | succ n ih =>
    intro x2 x3 f h
    rw [FX10_leavingSet_0_57_2] at h
    refine ev_iload_n (i := 3) dX10_leavingSet_2 rfl rfl ?_
    refine ev_aload_n (i := 0) dX10_leavingSet_3 rfl rfl ?_
    refine ev_getR dX10_leavingSet_4 fl_X10_19 sh_0 (by decide) (by decide) rf_0_1 ?_
    refine ev_cVI (b := 4) (av := []) (S := [vI x3]) (fun q => q) h dX10_leavingSet_7 (fun Q' q => TX0_allCarts_4 _ q) kvX0_allCarts ml_X10_168 sh_4 rfl (RRc (by decide) (by decide)) (Nat.le_of_ble_eq_true rfl) ⟨Nat.le_of_ble_eq_true rfl, Nat.le_of_ble_eq_true rfl⟩ (fun y1 f1 h => ?_)
    refine ev_icmp_gt (tgt := 50) dX10_leavingSet_10 (by decide) (fun c6 => ?_) (fun c6 => ?_)
    · rw [if_pos c6] at h
      refine ev_iconst dX10_leavingSet_50 (r32c rfl) ?_
      exact ev_iret rfl dX10_leavingSet_51 h
    · rw [if_neg c6] at h
      refine ev_aload_n (i := 1) dX10_leavingSet_13 rfl rfl ?_
      refine ev_iload_n (i := 3) dX10_leavingSet_14 rfl rfl ?_
      refine ev_cVI (b := 57) (av := [vI x3]) (S := []) (fun q => q) h dX10_leavingSet_15 (fun Q' q => TX3_cheapCost x3 _ q) kvX3_cheapCost ml_X10_236 sh_57 rfl (RRc (by decide) (by decide)) (Nat.le_of_ble_eq_true rfl) ⟨Nat.le_of_ble_eq_true rfl, Nat.le_of_ble_eq_true rfl⟩ (fun y2 f2 h => ?_)
      refine ev_istore (L' := [some (vR 0), some (vR 57), some (vI x2), some (vI x3), some (vI y2)]) dX10_leavingSet_18 (by decide) rfl ?_
      refine ev_iload dX10_leavingSet_20 rfl ?_
      refine ev_iconst dX10_leavingSet_22 (r32c rfl) ?_
      refine ev_icmp_eq (tgt := 44) dX10_leavingSet_23 (by decide) (fun c5 => ?_) (fun c5 => ?_)
      · rw [if_pos c5] at h
        refine ev_fg [true, true, true, true, false] rfl ?_
        exact SX10_leavingSet_0_57_44 ih x2 x3 _ h
      · rw [if_neg c5] at h
        refine ev_aload_n (i := 0) dX10_leavingSet_26 rfl rfl ?_
        refine ev_getR dX10_leavingSet_27 fl_X10_37 sh_0 (by decide) (by decide) rf_0_5 ?_
        refine ev_iload_n (i := 2) dX10_leavingSet_30 rfl rfl ?_
        refine ev_iload_n (i := 3) dX10_leavingSet_31 rfl rfl ?_
        refine ev_cVJ (b := 40) (av := [vI x2, vI x3]) (S := []) (fun q => q) h dX10_leavingSet_32 (fun Q' q => TX6_sharesOf x2 x3 _ q) kvX6_sharesOf ml_X10_334 sh_40 rfl (RRc (by decide) (by decide)) (Nat.le_of_ble_eq_true rfl) ⟨Nat.le_of_ble_eq_true rfl, Nat.le_of_ble_eq_true rfl⟩ (fun y3 f3 h => ?_)
        refine ev_iload dX10_leavingSet_35 rfl ?_
        refine ev_i2l dX10_leavingSet_37 ?_
        refine ev_lcmp dX10_leavingSet_38 ?_
        refine ev_if_le (tgt := 44) dX10_leavingSet_39 (by decide) (fun c4 => ?_) (fun c4 => ?_)
        · rw [if_pos c4] at h
          refine ev_fg [true, true, true, true, false] rfl ?_
          exact SX10_leavingSet_0_57_44 ih x2 x3 _ h
        · rw [if_neg c4] at h
          refine ev_iload_n (i := 3) dX10_leavingSet_42 rfl rfl ?_
          exact ev_iret rfl dX10_leavingSet_43 h
def FX10_leavingSet_0_57_0  (x2 : Int) (f : Mm) : Option (Int × Mm) := FX10_leavingSet_0_57_2 fu x2 0 f
set_option maxHeartbeats 4000000 in
set_option maxRecDepth 100000 in
theorem SX10_leavingSet_0_57_0 {G : GT} {l : Launch} {Q : Option AV → Mem → Prop}  (x2 : Int) (f : Mm) (h : OkI Q (FX10_leavingSet_0_57_0  x2 f)) : Ev G l MX10_leavingSet (Rm 3 0 0) (ZM G Q 0 0) 0 0 0 [some (vR 0), some (vR 57), some (vI x2), none, none] [] (SH, RF, f) := by
  unfold FX10_leavingSet_0_57_0 at h
  refine ev_iconst dX10_leavingSet_0 (r32c rfl) ?_
  refine ev_istore_n (i := 3) (L' := [some (vR 0), some (vR 57), some (vI x2), some (vI 0), none]) dX10_leavingSet_1 rfl (by decide) rfl ?_
  exact SX10_leavingSet_0_57_2  fu x2 0 _ h
def FX10_leavingSet_0_57 (x2 : Int) (f : Mm) : Option (Int × Mm) := FX10_leavingSet_0_57_0 x2 f
set_option maxRecDepth 100000 in
theorem TX10_leavingSet_0_57 {G : GT} {l : Launch} {Q : Option AV → Mem → Prop} (x2 : Int) (f : Mm) (h : OkI Q (FX10_leavingSet_0_57 x2 f)) : Ret G l MX10_leavingSet (3) 0 0 [vR 0, vR 57, vI x2] (SH, RF, f) Q := by
  refine ret_of (L := [some (vR 0), some (vR 57), some (vI x2), none, none]) (by decide) rfl (Nat.le_of_ble_eq_true rfl) ?_
  exact SX10_leavingSet_0_57_0 x2 f h
theorem dX10_fair_52 : decode cX10_fair 52 = .ok (.istore 5, 2) := by decide +kernel
theorem dX10_fair_54 : decode cX10_fair 54 = .ok (.iload 5, 2) := by decide +kernel
theorem dX10_fair_56 : decode cX10_fair 56 = .ok (.ifCond .eq 17, 3) := by decide +kernel
theorem dX10_fair_73 : decode cX10_fair 73 = .ok (.iconst 0, 1) := by decide +kernel
theorem dX10_fair_74 : decode cX10_fair 74 = .ok (.ireturn, 1) := by decide +kernel
theorem dX10_fair_59 : decode cX10_fair 59 = .ok (.aload_n 0, 1) := by decide +kernel
theorem dX10_fair_60 : decode cX10_fair 60 = .ok (.aload_n 3, 1) := by decide +kernel
theorem dX10_fair_61 : decode cX10_fair 61 = .ok (.iload_n 1, 1) := by decide +kernel
theorem dX10_fair_62 : decode cX10_fair 62 = .ok (.invokevirtual 338, 3) := by decide +kernel
theorem dX10_fair_65 : decode cX10_fair 65 = .ok (.iconst (-1), 1) := by decide +kernel
theorem dX10_fair_66 : decode cX10_fair 66 = .ok (.if_icmp .ne 7, 3) := by decide +kernel
theorem dX10_fair_69 : decode cX10_fair 69 = .ok (.iconst 1, 1) := by decide +kernel
theorem dX10_fair_70 : decode cX10_fair 70 = .ok (.goto 4, 3) := by decide +kernel
theorem dX10_fair_0 : decode cX10_fair 0 = .ok (.aload_n 0, 1) := by decide +kernel
theorem dX10_fair_1 : decode cX10_fair 1 = .ok (.iload_n 1, 1) := by decide +kernel
theorem dX10_fair_2 : decode cX10_fair 2 = .ok (.invokevirtual 331, 3) := by decide +kernel
theorem dX10_fair_5 : decode cX10_fair 5 = .ok (.istore_n 2, 1) := by decide +kernel
theorem dX10_fair_6 : decode cX10_fair 6 = .ok (.iload_n 2, 1) := by decide +kernel
theorem dX10_fair_7 : decode cX10_fair 7 = .ok (.ifCond .eq 5, 3) := by decide +kernel
theorem dX10_fair_12 : decode cX10_fair 12 = .ok (.aload_n 0, 1) := by decide +kernel
theorem dX10_fair_13 : decode cX10_fair 13 = .ok (.invokevirtual 189, 3) := by decide +kernel
theorem dX10_fair_16 : decode cX10_fair 16 = .ok (.astore_n 3, 1) := by decide +kernel
theorem dX10_fair_17 : decode cX10_fair 17 = .ok (.aload_n 0, 1) := by decide +kernel
theorem dX10_fair_18 : decode cX10_fair 18 = .ok (.getfield 19, 3) := by decide +kernel
theorem dX10_fair_21 : decode cX10_fair 21 = .ok (.invokevirtual 168, 3) := by decide +kernel
theorem dX10_fair_24 : decode cX10_fair 24 = .ok (.istore 4, 2) := by decide +kernel
theorem dX10_fair_26 : decode cX10_fair 26 = .ok (.aload_n 0, 1) := by decide +kernel
theorem dX10_fair_27 : decode cX10_fair 27 = .ok (.getfield 37, 3) := by decide +kernel
theorem dX10_fair_30 : decode cX10_fair 30 = .ok (.iload_n 1, 1) := by decide +kernel
theorem dX10_fair_31 : decode cX10_fair 31 = .ok (.iload 4, 2) := by decide +kernel
theorem dX10_fair_33 : decode cX10_fair 33 = .ok (.invokevirtual 334, 3) := by decide +kernel
theorem dX10_fair_36 : decode cX10_fair 36 = .ok (.aload_n 3, 1) := by decide +kernel
theorem dX10_fair_37 : decode cX10_fair 37 = .ok (.iload 4, 2) := by decide +kernel
theorem dX10_fair_39 : decode cX10_fair 39 = .ok (.invokevirtual 236, 3) := by decide +kernel
theorem dX10_fair_42 : decode cX10_fair 42 = .ok (.i2l, 1) := by decide +kernel
theorem dX10_fair_43 : decode cX10_fair 43 = .ok (.lcmp, 1) := by decide +kernel
theorem dX10_fair_44 : decode cX10_fair 44 = .ok (.ifCond .ne 7, 3) := by decide +kernel
theorem dX10_fair_51 : decode cX10_fair 51 = .ok (.iconst 0, 1) := by decide +kernel
theorem dX10_fair_47 : decode cX10_fair 47 = .ok (.iconst 1, 1) := by decide +kernel
theorem dX10_fair_48 : decode cX10_fair 48 = .ok (.goto 4, 3) := by decide +kernel
theorem dX10_fair_10 : decode cX10_fair 10 = .ok (.iload_n 2, 1) := by decide +kernel
theorem dX10_fair_11 : decode cX10_fair 11 = .ok (.ireturn, 1) := by decide +kernel
def FX10_fair_52  (x1 : Int) (s0 : Int) (f : Mm) : Option (Int × Mm) := (if s0 = 0 then some (0, f) else (b2 (FX10_leavingSet_0_57 x1 f) fun y1 f1 => (if y1 = (-1) then some (1, f1) else some (0, f1))))
set_option maxHeartbeats 4000000 in
set_option maxRecDepth 100000 in
theorem SX10_fair_52 {G : GT} {l : Launch} {Q : Option AV → Mem → Prop}  (x1 : Int) (s0 : Int) (f : Mm) (h : OkI Q (FX10_fair_52  x1 s0 f)) : Ev G l MX10_fair (Rm 6 0 0) (ZM G Q 0 0) 0 0 52 [some (vR 0), some (vI x1), none, some (vR 57), none, none] [vI s0] (SH, RF, f) := by
  unfold FX10_fair_52 at h
  refine ev_istore (L' := [some (vR 0), some (vI x1), none, some (vR 57), none, some (vI s0)]) dX10_fair_52 (by decide) rfl ?_
  refine ev_iload dX10_fair_54 rfl ?_
  refine ev_if_eq (tgt := 73) dX10_fair_56 (by decide) (fun c3 => ?_) (fun c3 => ?_)
  · rw [if_pos c3] at h
    refine ev_iconst dX10_fair_73 (r32c rfl) ?_
    exact ev_iret rfl dX10_fair_74 h
  · rw [if_neg c3] at h
    refine ev_aload_n (i := 0) dX10_fair_59 rfl rfl ?_
    refine ev_aload_n (i := 3) dX10_fair_60 rfl rfl ?_
    refine ev_iload_n (i := 1) dX10_fair_61 rfl rfl ?_
    refine ev_cVI (b := 0) (av := [vR 57, vI x1]) (S := []) (fun q => q) h dX10_fair_62 (fun Q' q => TX10_leavingSet_0_57 x1 _ q) kvX10_leavingSet ml_X10_338 sh_0 rfl (RRc (by decide) (by decide)) (Nat.le_of_ble_eq_true rfl) ⟨Nat.le_of_ble_eq_true rfl, Nat.le_of_ble_eq_true rfl⟩ (fun y1 f1 h => ?_)
    refine ev_iconst dX10_fair_65 (r32c rfl) ?_
    refine ev_icmp_ne (tgt := 73) dX10_fair_66 (by decide) (fun c2 => ?_) (fun c2 => ?_)
    · rw [if_neg c2] at h
      refine ev_iconst dX10_fair_73 (r32c rfl) ?_
      exact ev_iret rfl dX10_fair_74 h
    · rw [if_pos c2] at h
      refine ev_iconst dX10_fair_69 (r32c rfl) ?_
      refine ev_goto (tgt := 74) dX10_fair_70 (by decide) ?_
      exact ev_iret rfl dX10_fair_74 h
def FX10_fair_0  (x1 : Int) (f : Mm) : Option (Int × Mm) := (b2 (FX10_sharesWrong x1 f) fun y1 f1 => (if y1 = 0 then ((FX10_weighed f1).bind fun f2 => (b2 (FX0_allCarts_4 f2) fun y3 f3 => (b2 (FX6_sharesOf x1 y3 f3) fun y4 f4 => (b2 (FX3_cheapCost y3 f4) fun y5 f5 => (if (cmp3 y4 y5) = 0 then FX10_fair_52 x1 1 f5 else FX10_fair_52 x1 0 f5))))) else some (y1, f1)))
set_option maxHeartbeats 4000000 in
set_option maxRecDepth 100000 in
theorem SX10_fair_0 {G : GT} {l : Launch} {Q : Option AV → Mem → Prop}  (x1 : Int) (f : Mm) (h : OkI Q (FX10_fair_0  x1 f)) : Ev G l MX10_fair (Rm 6 0 0) (ZM G Q 0 0) 0 0 0 [some (vR 0), some (vI x1), none, none, none, none] [] (SH, RF, f) := by
  unfold FX10_fair_0 at h
  refine ev_aload_n (i := 0) dX10_fair_0 rfl rfl ?_
  refine ev_iload_n (i := 1) dX10_fair_1 rfl rfl ?_
  refine ev_cVI (b := 0) (av := [vI x1]) (S := []) (fun q => q) h dX10_fair_2 (fun Q' q => TX10_sharesWrong x1 _ q) kvX10_sharesWrong ml_X10_331 sh_0 rfl (RRc (by decide) (by decide)) (Nat.le_of_ble_eq_true rfl) ⟨Nat.le_of_ble_eq_true rfl, Nat.le_of_ble_eq_true rfl⟩ (fun y1 f1 h => ?_)
  refine ev_istore_n (i := 2) (L' := [some (vR 0), some (vI x1), some (vI y1), none, none, none]) dX10_fair_5 rfl (by decide) rfl ?_
  refine ev_iload_n (i := 2) dX10_fair_6 rfl rfl ?_
  refine ev_if_eq (tgt := 12) dX10_fair_7 (by decide) (fun c7 => ?_) (fun c7 => ?_)
  · rw [if_pos c7] at h
    refine ev_aload_n (i := 0) dX10_fair_12 rfl rfl ?_
    refine ev_cVC (b := 0) (av := []) (S := []) (fun q => q) h dX10_fair_13 (fun Q' q => TX10_weighed _ q) kvX10_weighed ml_X10_189 sh_0 rfl (RRc (by decide) (by decide)) (Nat.le_of_ble_eq_true rfl) ⟨Nat.le_of_ble_eq_true rfl, Nat.le_of_ble_eq_true rfl⟩ (fun f2 h => ?_)
    refine ev_astore_n (i := 3) (L' := [some (vR 0), some (vI x1), some (vI y1), some (vR 57), none, none]) dX10_fair_16 rfl (by decide) rfl ?_
    refine ev_aload_n (i := 0) dX10_fair_17 rfl rfl ?_
    refine ev_getR dX10_fair_18 fl_X10_19 sh_0 (by decide) (by decide) rf_0_1 ?_
    refine ev_cVI (b := 4) (av := []) (S := []) (fun q => q) h dX10_fair_21 (fun Q' q => TX0_allCarts_4 _ q) kvX0_allCarts ml_X10_168 sh_4 rfl (RRc (by decide) (by decide)) (Nat.le_of_ble_eq_true rfl) ⟨Nat.le_of_ble_eq_true rfl, Nat.le_of_ble_eq_true rfl⟩ (fun y3 f3 h => ?_)
    refine ev_istore (L' := [some (vR 0), some (vI x1), some (vI y1), some (vR 57), some (vI y3), none]) dX10_fair_24 (by decide) rfl ?_
    refine ev_aload_n (i := 0) dX10_fair_26 rfl rfl ?_
    refine ev_getR dX10_fair_27 fl_X10_37 sh_0 (by decide) (by decide) rf_0_5 ?_
    refine ev_iload_n (i := 1) dX10_fair_30 rfl rfl ?_
    refine ev_iload dX10_fair_31 rfl ?_
    refine ev_cVJ (b := 40) (av := [vI x1, vI y3]) (S := []) (fun q => q) h dX10_fair_33 (fun Q' q => TX6_sharesOf x1 y3 _ q) kvX6_sharesOf ml_X10_334 sh_40 rfl (RRc (by decide) (by decide)) (Nat.le_of_ble_eq_true rfl) ⟨Nat.le_of_ble_eq_true rfl, Nat.le_of_ble_eq_true rfl⟩ (fun y4 f4 h => ?_)
    refine ev_aload_n (i := 3) dX10_fair_36 rfl rfl ?_
    refine ev_iload dX10_fair_37 rfl ?_
    refine ev_cVI (b := 57) (av := [vI y3]) (S := [vJ y4]) (fun q => q) h dX10_fair_39 (fun Q' q => TX3_cheapCost y3 _ q) kvX3_cheapCost ml_X10_236 sh_57 rfl (RRc (by decide) (by decide)) (Nat.le_of_ble_eq_true rfl) ⟨Nat.le_of_ble_eq_true rfl, Nat.le_of_ble_eq_true rfl⟩ (fun y5 f5 h => ?_)
    refine ev_i2l dX10_fair_42 ?_
    refine ev_lcmp dX10_fair_43 ?_
    refine ev_if_ne (tgt := 51) dX10_fair_44 (by decide) (fun c6 => ?_) (fun c6 => ?_)
    · rw [if_neg c6] at h
      refine ev_iconst dX10_fair_51 (r32c rfl) ?_
      refine ev_fg [true, true, false, true, false, true] rfl ?_
      exact SX10_fair_52  x1 0 _ h
    · rw [if_pos c6] at h
      refine ev_iconst dX10_fair_47 (r32c rfl) ?_
      refine ev_goto (tgt := 52) dX10_fair_48 (by decide) ?_
      refine ev_fg [true, true, false, true, false, true] rfl ?_
      exact SX10_fair_52  x1 1 _ h
  · rw [if_neg c7] at h
    refine ev_iload_n (i := 2) dX10_fair_10 rfl rfl ?_
    exact ev_iret rfl dX10_fair_11 h
def FX10_fair (x1 : Int) (f : Mm) : Option (Int × Mm) := FX10_fair_0 x1 f
set_option maxRecDepth 100000 in
theorem TX10_fair {G : GT} {l : Launch} {Q : Option AV → Mem → Prop} (x1 : Int) (f : Mm) (h : OkI Q (FX10_fair x1 f)) : Ret G l MX10_fair (6) 0 0 [vR 0, vI x1] (SH, RF, f) Q := by
  refine ret_of (L := [some (vR 0), some (vI x1), none, none, none, none]) (by decide) rfl (Nat.le_of_ble_eq_true rfl) ?_
  exact SX10_fair_0 x1 f h
theorem dX10_leave_0 : decode cX10_leave 0 = .ok (.aload_n 0, 1) := by decide +kernel
theorem dX10_leave_1 : decode cX10_leave 1 = .ok (.iload_n 1, 1) := by decide +kernel
theorem dX10_leave_2 : decode cX10_leave 2 = .ok (.invokevirtual 331, 3) := by decide +kernel
theorem dX10_leave_5 : decode cX10_leave 5 = .ok (.istore_n 2, 1) := by decide +kernel
theorem dX10_leave_6 : decode cX10_leave 6 = .ok (.iload_n 2, 1) := by decide +kernel
theorem dX10_leave_7 : decode cX10_leave 7 = .ok (.ifCond .eq 7, 3) := by decide +kernel
theorem dX10_leave_14 : decode cX10_leave 14 = .ok (.aload_n 0, 1) := by decide +kernel
theorem dX10_leave_15 : decode cX10_leave 15 = .ok (.aload_n 0, 1) := by decide +kernel
theorem dX10_leave_16 : decode cX10_leave 16 = .ok (.invokevirtual 189, 3) := by decide +kernel
theorem dX10_leave_19 : decode cX10_leave 19 = .ok (.iload_n 1, 1) := by decide +kernel
theorem dX10_leave_20 : decode cX10_leave 20 = .ok (.invokevirtual 338, 3) := by decide +kernel
theorem dX10_leave_23 : decode cX10_leave 23 = .ok (.ireturn, 1) := by decide +kernel
theorem dX10_leave_10 : decode cX10_leave 10 = .ok (.iload_n 2, 1) := by decide +kernel
theorem dX10_leave_11 : decode cX10_leave 11 = .ok (.goto 12, 3) := by decide +kernel
def FX10_leave_0  (x1 : Int) (f : Mm) : Option (Int × Mm) := (b2 (FX10_sharesWrong x1 f) fun y1 f1 => (if y1 = 0 then ((FX10_weighed f1).bind fun f2 => (b2 (FX10_leavingSet_0_57 x1 f2) fun y3 f3 => some (y3, f3))) else some (y1, f1)))
set_option maxHeartbeats 4000000 in
set_option maxRecDepth 100000 in
theorem SX10_leave_0 {G : GT} {l : Launch} {Q : Option AV → Mem → Prop}  (x1 : Int) (f : Mm) (h : OkI Q (FX10_leave_0  x1 f)) : Ev G l MX10_leave (Rm 6 0 0) (ZM G Q 0 0) 0 0 0 [some (vR 0), some (vI x1), none] [] (SH, RF, f) := by
  unfold FX10_leave_0 at h
  refine ev_aload_n (i := 0) dX10_leave_0 rfl rfl ?_
  refine ev_iload_n (i := 1) dX10_leave_1 rfl rfl ?_
  refine ev_cVI (b := 0) (av := [vI x1]) (S := []) (fun q => q) h dX10_leave_2 (fun Q' q => TX10_sharesWrong x1 _ q) kvX10_sharesWrong ml_X10_331 sh_0 rfl (RRc (by decide) (by decide)) (Nat.le_of_ble_eq_true rfl) ⟨Nat.le_of_ble_eq_true rfl, Nat.le_of_ble_eq_true rfl⟩ (fun y1 f1 h => ?_)
  refine ev_istore_n (i := 2) (L' := [some (vR 0), some (vI x1), some (vI y1)]) dX10_leave_5 rfl (by decide) rfl ?_
  refine ev_iload_n (i := 2) dX10_leave_6 rfl rfl ?_
  refine ev_if_eq (tgt := 14) dX10_leave_7 (by decide) (fun c4 => ?_) (fun c4 => ?_)
  · rw [if_pos c4] at h
    refine ev_aload_n (i := 0) dX10_leave_14 rfl rfl ?_
    refine ev_aload_n (i := 0) dX10_leave_15 rfl rfl ?_
    refine ev_cVC (b := 0) (av := []) (S := [vR 0]) (fun q => q) h dX10_leave_16 (fun Q' q => TX10_weighed _ q) kvX10_weighed ml_X10_189 sh_0 rfl (RRc (by decide) (by decide)) (Nat.le_of_ble_eq_true rfl) ⟨Nat.le_of_ble_eq_true rfl, Nat.le_of_ble_eq_true rfl⟩ (fun f2 h => ?_)
    refine ev_iload_n (i := 1) dX10_leave_19 rfl rfl ?_
    refine ev_cVI (b := 0) (av := [vR 57, vI x1]) (S := []) (fun q => q) h dX10_leave_20 (fun Q' q => TX10_leavingSet_0_57 x1 _ q) kvX10_leavingSet ml_X10_338 sh_0 rfl (RRc (by decide) (by decide)) (Nat.le_of_ble_eq_true rfl) ⟨Nat.le_of_ble_eq_true rfl, Nat.le_of_ble_eq_true rfl⟩ (fun y3 f3 h => ?_)
    exact ev_iret rfl dX10_leave_23 h
  · rw [if_neg c4] at h
    refine ev_iload_n (i := 2) dX10_leave_10 rfl rfl ?_
    refine ev_goto (tgt := 23) dX10_leave_11 (by decide) ?_
    exact ev_iret rfl dX10_leave_23 h
def FX10_leave (x1 : Int) (f : Mm) : Option (Int × Mm) := FX10_leave_0 x1 f
set_option maxRecDepth 100000 in
theorem TX10_leave {G : GT} {l : Launch} {Q : Option AV → Mem → Prop} (x1 : Int) (f : Mm) (h : OkI Q (FX10_leave x1 f)) : Ret G l MX10_leave (6) 0 0 [vR 0, vI x1] (SH, RF, f) Q := by
  refine ret_of (L := [some (vR 0), some (vI x1), none]) (by decide) rfl (Nat.le_of_ble_eq_true rfl) ?_
  exact SX10_leave_0 x1 f h
theorem dX8_weightOfBits_35 : decode cX8_weightOfBits 35 = .ok (.imul, 1) := by decide +kernel
theorem dX8_weightOfBits_36 : decode cX8_weightOfBits 36 = .ok (.istore_n 3, 1) := by decide +kernel
theorem dX8_weightOfBits_37 : decode cX8_weightOfBits 37 = .ok (.iinc 4 1, 3) := by decide +kernel
theorem dX8_weightOfBits_40 : decode cX8_weightOfBits 40 = .ok (.goto (-35), 3) := by decide +kernel
theorem dX8_weightOfBits_5 : decode cX8_weightOfBits 5 = .ok (.iload 4, 2) := by decide +kernel
theorem dX8_weightOfBits_7 : decode cX8_weightOfBits 7 = .ok (.iload_n 2, 1) := by decide +kernel
theorem dX8_weightOfBits_8 : decode cX8_weightOfBits 8 = .ok (.if_icmp .gt 35, 3) := by decide +kernel
theorem dX8_weightOfBits_43 : decode cX8_weightOfBits 43 = .ok (.iload_n 3, 1) := by decide +kernel
theorem dX8_weightOfBits_44 : decode cX8_weightOfBits 44 = .ok (.ireturn, 1) := by decide +kernel
theorem dX8_weightOfBits_11 : decode cX8_weightOfBits 11 = .ok (.iload_n 3, 1) := by decide +kernel
theorem dX8_weightOfBits_12 : decode cX8_weightOfBits 12 = .ok (.iload_n 1, 1) := by decide +kernel
theorem dX8_weightOfBits_13 : decode cX8_weightOfBits 13 = .ok (.iload 4, 2) := by decide +kernel
theorem dX8_weightOfBits_15 : decode cX8_weightOfBits 15 = .ok (.invokestatic 33, 3) := by decide +kernel
theorem dX8_weightOfBits_18 : decode cX8_weightOfBits 18 = .ok (.ifCond .eq 10, 3) := by decide +kernel
theorem dX8_weightOfBits_28 : decode cX8_weightOfBits 28 = .ok (.bipush 10, 2) := by decide +kernel
theorem dX8_weightOfBits_30 : decode cX8_weightOfBits 30 = .ok (.aload_n 0, 1) := by decide +kernel
theorem dX8_weightOfBits_31 : decode cX8_weightOfBits 31 = .ok (.getfield 37, 3) := by decide +kernel
theorem dX8_weightOfBits_34 : decode cX8_weightOfBits 34 = .ok (.isub, 1) := by decide +kernel
theorem dX8_weightOfBits_21 : decode cX8_weightOfBits 21 = .ok (.aload_n 0, 1) := by decide +kernel
theorem dX8_weightOfBits_22 : decode cX8_weightOfBits 22 = .ok (.getfield 37, 3) := by decide +kernel
theorem dX8_weightOfBits_25 : decode cX8_weightOfBits 25 = .ok (.goto 10, 3) := by decide +kernel
theorem dX8_weightOfBits_0 : decode cX8_weightOfBits 0 = .ok (.iconst 1, 1) := by decide +kernel
theorem dX8_weightOfBits_1 : decode cX8_weightOfBits 1 = .ok (.istore_n 3, 1) := by decide +kernel
theorem dX8_weightOfBits_2 : decode cX8_weightOfBits 2 = .ok (.iconst 0, 1) := by decide +kernel
theorem dX8_weightOfBits_3 : decode cX8_weightOfBits 3 = .ok (.istore 4, 2) := by decide +kernel
def FX8_weightOfBits_4_35 (k5 : Int → Int → Int → Int → Mm → Option (Int × Mm)) (x1 : Int) (x2 : Int) (x4 : Int) (s0 : Int) (s1 : Int) (f : Mm) : Option (Int × Mm) := k5 x1 x2 (w32 (s0 * s1)) (w32 (x4 + 1)) f
set_option maxHeartbeats 4000000 in
set_option maxRecDepth 100000 in
theorem SX8_weightOfBits_4_35 {G : GT} {l : Launch} {Q : Option AV → Mem → Prop} {k5 : Int → Int → Int → Int → Mm → Option (Int × Mm)} (q5 : ∀ (x1 : Int) (x2 : Int) (x3 : Int) (x4 : Int) (f : Mm), OkI Q (k5 x1 x2 x3 x4 f) → Ev G l MX8_weightOfBits (Rm 2 0 0) (ZM G Q 0 0) 0 0 5 [some (vR 4), some (vI x1), some (vI x2), some (vI x3), some (vI x4)] [] (SH, RF, f)) (x1 : Int) (x2 : Int) (x4 : Int) (s0 : Int) (s1 : Int) (f : Mm) (h : OkI Q (FX8_weightOfBits_4_35 k5 x1 x2 x4 s0 s1 f)) : Ev G l MX8_weightOfBits (Rm 2 0 0) (ZM G Q 0 0) 0 0 35 [some (vR 4), some (vI x1), some (vI x2), none, some (vI x4)] [vI s1, vI s0] (SH, RF, f) := by
  unfold FX8_weightOfBits_4_35 at h
  refine ev_imul dX8_weightOfBits_35 ?_
  refine ev_istore_n (i := 3) (L' := [some (vR 4), some (vI x1), some (vI x2), some (vI (w32 (s0 * s1))), some (vI x4)]) dX8_weightOfBits_36 rfl (by decide) rfl ?_
  refine ev_iinc (L' := [some (vR 4), some (vI x1), some (vI x2), some (vI (w32 (s0 * s1))), some (vI (w32 (x4 + 1)))]) dX8_weightOfBits_37 rfl (by decide) rfl ?_
  refine ev_goto (tgt := 5) dX8_weightOfBits_40 (by decide) ?_
  exact q5 x1 x2 (w32 (s0 * s1)) (w32 (x4 + 1)) _ h
def FX8_weightOfBits_4_5  : Nat → Int → Int → Int → Int → Mm → Option (Int × Mm)
  | 0, _, _, _, _, _ => none
  | n + 1, x1, x2, x3, x4, f => (if x2 < x4 then some (x3, f) else (b2 (FX10_holds x1 x4 f) fun y1 f1 => (if y1 = 0 then FX8_weightOfBits_4_35 (FX8_weightOfBits_4_5 n) x1 x2 x4 x3 (w32 (10 - (f1 4 3))) f1 else FX8_weightOfBits_4_35 (FX8_weightOfBits_4_5 n) x1 x2 x4 x3 (f1 4 3) f1)))
set_option maxHeartbeats 4000000 in
set_option maxRecDepth 100000 in
theorem SX8_weightOfBits_4_5 {G : GT} {l : Launch} {Q : Option AV → Mem → Prop}  : ∀ (n : Nat) (x1 : Int) (x2 : Int) (x3 : Int) (x4 : Int) (f : Mm), OkI Q (FX8_weightOfBits_4_5  n x1 x2 x3 x4 f) → Ev G l MX8_weightOfBits (Rm 2 0 0) (ZM G Q 0 0) 0 0 5 [some (vR 4), some (vI x1), some (vI x2), some (vI x3), some (vI x4)] [] (SH, RF, f) := by
  intro n
  induction n with
  | zero => intro x1 x2 x3 x4 f h; exact absurd h (by rw [FX8_weightOfBits_4_5]; exact fun q => q)
  | succ n ih =>
    intro x1 x2 x3 x4 f h
    rw [FX8_weightOfBits_4_5] at h
    refine ev_iload dX8_weightOfBits_5 rfl ?_
    refine ev_iload_n (i := 2) dX8_weightOfBits_7 rfl rfl ?_
    refine ev_icmp_gt (tgt := 43) dX8_weightOfBits_8 (by decide) (fun c3 => ?_) (fun c3 => ?_)
    · rw [if_pos c3] at h
      refine ev_iload_n (i := 3) dX8_weightOfBits_43 rfl rfl ?_
      exact ev_iret rfl dX8_weightOfBits_44 h
    · rw [if_neg c3] at h
      refine ev_iload_n (i := 3) dX8_weightOfBits_11 rfl rfl ?_
      refine ev_iload_n (i := 1) dX8_weightOfBits_12 rfl rfl ?_
      refine ev_iload dX8_weightOfBits_13 rfl ?_
      refine ev_cNI (av := [vI x1, vI x4]) (S := [vI x3]) (fun q => q) h dX8_weightOfBits_15 (fun Q' q => TX10_holds x1 x4 _ q) ksX10_holds nw_X8_33 rfl (RRc (by decide) (by decide)) (Nat.le_of_ble_eq_true rfl) ⟨Nat.le_of_ble_eq_true rfl, Nat.le_of_ble_eq_true rfl⟩ (fun y1 f1 h => ?_)
      refine ev_if_eq (tgt := 28) dX8_weightOfBits_18 (by decide) (fun c2 => ?_) (fun c2 => ?_)
      · rw [if_pos c2] at h
        refine ev_bipush (v := 10) dX8_weightOfBits_28 (r32c rfl) (by decide) ?_
        refine ev_aload_n (i := 0) dX8_weightOfBits_30 rfl rfl ?_
        refine ex_getI (x := (f1 4 3)) dX8_weightOfBits_31 fl_X8_37 sh_4 (by decide) (by decide) rfl ?_
        refine ev_isub dX8_weightOfBits_34 ?_
        refine ev_fg [true, true, true, false, true] rfl ?_
        exact SX8_weightOfBits_4_35 ih x1 x2 x4 x3 (w32 (10 - (f1 4 3))) _ h
      · rw [if_neg c2] at h
        refine ev_aload_n (i := 0) dX8_weightOfBits_21 rfl rfl ?_
        refine ex_getI (x := (f1 4 3)) dX8_weightOfBits_22 fl_X8_37 sh_4 (by decide) (by decide) rfl ?_
        refine ev_goto (tgt := 35) dX8_weightOfBits_25 (by decide) ?_
        refine ev_fg [true, true, true, false, true] rfl ?_
        exact SX8_weightOfBits_4_35 ih x1 x2 x4 x3 (f1 4 3) _ h
def FX8_weightOfBits_4_0  (x1 : Int) (x2 : Int) (f : Mm) : Option (Int × Mm) := FX8_weightOfBits_4_5 fu x1 x2 1 0 f
set_option maxHeartbeats 4000000 in
set_option maxRecDepth 100000 in
theorem SX8_weightOfBits_4_0 {G : GT} {l : Launch} {Q : Option AV → Mem → Prop}  (x1 : Int) (x2 : Int) (f : Mm) (h : OkI Q (FX8_weightOfBits_4_0  x1 x2 f)) : Ev G l MX8_weightOfBits (Rm 2 0 0) (ZM G Q 0 0) 0 0 0 [some (vR 4), some (vI x1), some (vI x2), none, none] [] (SH, RF, f) := by
  unfold FX8_weightOfBits_4_0 at h
  refine ev_iconst dX8_weightOfBits_0 (r32c rfl) ?_
  refine ev_istore_n (i := 3) (L' := [some (vR 4), some (vI x1), some (vI x2), some (vI 1), none]) dX8_weightOfBits_1 rfl (by decide) rfl ?_
  refine ev_iconst dX8_weightOfBits_2 (r32c rfl) ?_
  refine ev_istore (L' := [some (vR 4), some (vI x1), some (vI x2), some (vI 1), some (vI 0)]) dX8_weightOfBits_3 (by decide) rfl ?_
  exact SX8_weightOfBits_4_5  fu x1 x2 1 0 _ h
def FX8_weightOfBits_4 (x1 : Int) (x2 : Int) (f : Mm) : Option (Int × Mm) := FX8_weightOfBits_4_0 x1 x2 f
set_option maxRecDepth 100000 in
theorem TX8_weightOfBits_4 {G : GT} {l : Launch} {Q : Option AV → Mem → Prop} (x1 : Int) (x2 : Int) (f : Mm) (h : OkI Q (FX8_weightOfBits_4 x1 x2 f)) : Ret G l MX8_weightOfBits (2) 0 0 [vR 4, vI x1, vI x2] (SH, RF, f) Q := by
  refine ret_of (L := [some (vR 4), some (vI x1), some (vI x2), none, none]) (by decide) rfl (Nat.le_of_ble_eq_true rfl) ?_
  exact SX8_weightOfBits_4_0 x1 x2 f h
theorem dX8_weightOf_54 : decode cX8_weightOf 54 = .ok (.iinc 5 1, 3) := by decide +kernel
theorem dX8_weightOf_57 : decode cX8_weightOf 57 = .ok (.goto (-46), 3) := by decide +kernel
theorem dX8_weightOf_11 : decode cX8_weightOf 11 = .ok (.iload 5, 2) := by decide +kernel
theorem dX8_weightOf_13 : decode cX8_weightOf 13 = .ok (.iconst 1, 1) := by decide +kernel
theorem dX8_weightOf_14 : decode cX8_weightOf 14 = .ok (.iload_n 2, 1) := by decide +kernel
theorem dX8_weightOf_15 : decode cX8_weightOf 15 = .ok (.iconst 1, 1) := by decide +kernel
theorem dX8_weightOf_16 : decode cX8_weightOf 16 = .ok (.iadd, 1) := by decide +kernel
theorem dX8_weightOf_17 : decode cX8_weightOf 17 = .ok (.ishl, 1) := by decide +kernel
theorem dX8_weightOf_18 : decode cX8_weightOf 18 = .ok (.if_icmp .ge 42, 3) := by decide +kernel
theorem dX8_weightOf_60 : decode cX8_weightOf 60 = .ok (.iload 4, 2) := by decide +kernel
theorem dX8_weightOf_62 : decode cX8_weightOf 62 = .ok (.ireturn, 1) := by decide +kernel
theorem dX8_weightOf_21 : decode cX8_weightOf 21 = .ok (.aload_n 1, 1) := by decide +kernel
theorem dX8_weightOf_22 : decode cX8_weightOf 22 = .ok (.iload 5, 2) := by decide +kernel
theorem dX8_weightOf_24 : decode cX8_weightOf 24 = .ok (.putfield 15, 3) := by decide +kernel
theorem dX8_weightOf_27 : decode cX8_weightOf 27 = .ok (.aload_n 1, 1) := by decide +kernel
theorem dX8_weightOf_28 : decode cX8_weightOf 28 = .ok (.aload_n 0, 1) := by decide +kernel
theorem dX8_weightOf_29 : decode cX8_weightOf 29 = .ok (.iload_n 2, 1) := by decide +kernel
theorem dX8_weightOf_30 : decode cX8_weightOf 30 = .ok (.invokevirtual 19, 3) := by decide +kernel
theorem dX8_weightOf_33 : decode cX8_weightOf 33 = .ok (.aload_n 1, 1) := by decide +kernel
theorem dX8_weightOf_34 : decode cX8_weightOf 34 = .ok (.iload_n 2, 1) := by decide +kernel
theorem dX8_weightOf_35 : decode cX8_weightOf 35 = .ok (.invokevirtual 23, 3) := by decide +kernel
theorem dX8_weightOf_38 : decode cX8_weightOf 38 = .ok (.iload_n 3, 1) := by decide +kernel
theorem dX8_weightOf_39 : decode cX8_weightOf 39 = .ok (.if_icmp .lt 15, 3) := by decide +kernel
theorem dX8_weightOf_42 : decode cX8_weightOf 42 = .ok (.iload 4, 2) := by decide +kernel
theorem dX8_weightOf_44 : decode cX8_weightOf 44 = .ok (.aload_n 0, 1) := by decide +kernel
theorem dX8_weightOf_45 : decode cX8_weightOf 45 = .ok (.iload 5, 2) := by decide +kernel
theorem dX8_weightOf_47 : decode cX8_weightOf 47 = .ok (.iload_n 2, 1) := by decide +kernel
theorem dX8_weightOf_48 : decode cX8_weightOf 48 = .ok (.invokestatic 27, 3) := by decide +kernel
theorem dX8_weightOf_51 : decode cX8_weightOf 51 = .ok (.iadd, 1) := by decide +kernel
theorem dX8_weightOf_52 : decode cX8_weightOf 52 = .ok (.istore 4, 2) := by decide +kernel
theorem dX8_weightOf_0 : decode cX8_weightOf 0 = .ok (.aload_n 1, 1) := by decide +kernel
theorem dX8_weightOf_1 : decode cX8_weightOf 1 = .ok (.aload_n 0, 1) := by decide +kernel
theorem dX8_weightOf_2 : decode cX8_weightOf 2 = .ok (.invokevirtual 9, 3) := by decide +kernel
theorem dX8_weightOf_5 : decode cX8_weightOf 5 = .ok (.iconst 0, 1) := by decide +kernel
theorem dX8_weightOf_6 : decode cX8_weightOf 6 = .ok (.istore 4, 2) := by decide +kernel
theorem dX8_weightOf_8 : decode cX8_weightOf 8 = .ok (.iconst 0, 1) := by decide +kernel
theorem dX8_weightOf_9 : decode cX8_weightOf 9 = .ok (.istore 5, 2) := by decide +kernel
def FX8_weightOf_4_48_54 (k11 : Int → Int → Int → Int → Mm → Option (Int × Mm)) (x2 : Int) (x3 : Int) (x4 : Int) (x5 : Int) (f : Mm) : Option (Int × Mm) := k11 x2 x3 x4 (w32 (x5 + 1)) f
set_option maxHeartbeats 4000000 in
set_option maxRecDepth 100000 in
theorem SX8_weightOf_4_48_54 {G : GT} {l : Launch} {Q : Option AV → Mem → Prop} {k11 : Int → Int → Int → Int → Mm → Option (Int × Mm)} (q11 : ∀ (x2 : Int) (x3 : Int) (x4 : Int) (x5 : Int) (f : Mm), OkI Q (k11 x2 x3 x4 x5 f) → Ev G l MX8_weightOf (Rm 5 0 0) (ZM G Q 0 0) 0 0 11 [some (vR 4), some (vR 48), some (vI x2), some (vI x3), some (vI x4), some (vI x5)] [] (SH, RF, f)) (x2 : Int) (x3 : Int) (x4 : Int) (x5 : Int) (f : Mm) (h : OkI Q (FX8_weightOf_4_48_54 k11 x2 x3 x4 x5 f)) : Ev G l MX8_weightOf (Rm 5 0 0) (ZM G Q 0 0) 0 0 54 [some (vR 4), some (vR 48), some (vI x2), some (vI x3), some (vI x4), some (vI x5)] [] (SH, RF, f) := by
  unfold FX8_weightOf_4_48_54 at h
  refine ev_iinc (L' := [some (vR 4), some (vR 48), some (vI x2), some (vI x3), some (vI x4), some (vI (w32 (x5 + 1)))]) dX8_weightOf_54 rfl (by decide) rfl ?_
  refine ev_goto (tgt := 11) dX8_weightOf_57 (by decide) ?_
  exact q11 x2 x3 x4 (w32 (x5 + 1)) _ h
def FX8_weightOf_4_48_11  : Nat → Int → Int → Int → Int → Mm → Option (Int × Mm)
  | 0, _, _, _, _, _ => none
  | n + 1, x2, x3, x4, x5, f => (if (bShl 1 (w32 (x2 + 1))) ≤ x5 then some (x4, f) else ((FX1_feelThrough_48_4 x2 (up f 48 5 x5)).bind fun f1 => (b2 (FX1_widthOn x2 f1) fun y2 f2 => (if y2 < x3 then FX8_weightOf_4_48_54 (FX8_weightOf_4_48_11 n) x2 x3 x4 x5 f2 else (b2 (FX8_weightOfBits_4 x5 x2 f2) fun y3 f3 => FX8_weightOf_4_48_54 (FX8_weightOf_4_48_11 n) x2 x3 (w32 (x4 + y3)) x5 f3)))))
set_option maxHeartbeats 4000000 in
set_option maxRecDepth 100000 in
theorem SX8_weightOf_4_48_11 {G : GT} {l : Launch} {Q : Option AV → Mem → Prop}  : ∀ (n : Nat) (x2 : Int) (x3 : Int) (x4 : Int) (x5 : Int) (f : Mm), OkI Q (FX8_weightOf_4_48_11  n x2 x3 x4 x5 f) → Ev G l MX8_weightOf (Rm 5 0 0) (ZM G Q 0 0) 0 0 11 [some (vR 4), some (vR 48), some (vI x2), some (vI x3), some (vI x4), some (vI x5)] [] (SH, RF, f) := by
  intro n
  induction n with
  | zero => intro x2 x3 x4 x5 f h; exact absurd h (by rw [FX8_weightOf_4_48_11]; exact fun q => q)
  | succ n ih =>
    intro x2 x3 x4 x5 f h
    rw [FX8_weightOf_4_48_11] at h
    refine ev_iload dX8_weightOf_11 rfl ?_
    refine ev_iconst dX8_weightOf_13 (r32c rfl) ?_
    refine ev_iload_n (i := 2) dX8_weightOf_14 rfl rfl ?_
    refine ev_iconst dX8_weightOf_15 (r32c rfl) ?_
    refine ev_iadd dX8_weightOf_16 ?_
    refine ev_ishl dX8_weightOf_17 ?_
    refine ev_icmp_ge (tgt := 60) dX8_weightOf_18 (by decide) (fun c5 => ?_) (fun c5 => ?_)
    · rw [if_pos c5] at h
      refine ev_iload dX8_weightOf_60 rfl ?_
      exact ev_iret rfl dX8_weightOf_62 h
    · rw [if_neg c5] at h
      refine ev_aload_n (i := 1) dX8_weightOf_21 rfl rfl ?_
      refine ev_iload dX8_weightOf_22 rfl ?_
      refine ev_putI dX8_weightOf_24 fl_X8_15 sh_48 (by decide) (by decide) ?_
      refine ev_aload_n (i := 1) dX8_weightOf_27 rfl rfl ?_
      refine ev_aload_n (i := 0) dX8_weightOf_28 rfl rfl ?_
      refine ev_iload_n (i := 2) dX8_weightOf_29 rfl rfl ?_
      refine ev_cVV (b := 48) (av := [vR 4, vI x2]) (S := []) (fun q => q) h dX8_weightOf_30 (fun Q' q => TX1_feelThrough_48_4 x2 _ q) kvX1_feelThrough ml_X8_19 sh_48 rfl (RRc (by decide) (by decide)) (Nat.le_of_ble_eq_true rfl) ⟨Nat.le_of_ble_eq_true rfl, Nat.le_of_ble_eq_true rfl⟩ (fun f1 h => ?_)
      refine ev_aload_n (i := 1) dX8_weightOf_33 rfl rfl ?_
      refine ev_iload_n (i := 2) dX8_weightOf_34 rfl rfl ?_
      refine ev_cVI (b := 48) (av := [vI x2]) (S := []) (fun q => q) h dX8_weightOf_35 (fun Q' q => TX1_widthOn x2 _ q) kvX1_widthOn ml_X8_23 sh_48 rfl (RRc (by decide) (by decide)) (Nat.le_of_ble_eq_true rfl) ⟨Nat.le_of_ble_eq_true rfl, Nat.le_of_ble_eq_true rfl⟩ (fun y2 f2 h => ?_)
      refine ev_iload_n (i := 3) dX8_weightOf_38 rfl rfl ?_
      refine ev_icmp_lt (tgt := 54) dX8_weightOf_39 (by decide) (fun c4 => ?_) (fun c4 => ?_)
      · rw [if_pos c4] at h
        exact SX8_weightOf_4_48_54 ih x2 x3 x4 x5 _ h
      · rw [if_neg c4] at h
        refine ev_iload dX8_weightOf_42 rfl ?_
        refine ev_aload_n (i := 0) dX8_weightOf_44 rfl rfl ?_
        refine ev_iload dX8_weightOf_45 rfl ?_
        refine ev_iload_n (i := 2) dX8_weightOf_47 rfl rfl ?_
        refine ev_cSI (av := [vR 4, vI x5, vI x2]) (S := [vI x4]) (fun q => q) h dX8_weightOf_48 (fun Q' q => TX8_weightOfBits_4 x5 x2 _ q) ksX8_weightOfBits ml_X8_27 rfl (RRc (by decide) (by decide)) (Nat.le_of_ble_eq_true rfl) ⟨Nat.le_of_ble_eq_true rfl, Nat.le_of_ble_eq_true rfl⟩ (fun y3 f3 h => ?_)
        refine ev_iadd dX8_weightOf_51 ?_
        refine ev_istore (L' := [some (vR 4), some (vR 48), some (vI x2), some (vI x3), some (vI (w32 (x4 + y3))), some (vI x5)]) dX8_weightOf_52 (by decide) rfl ?_
        exact SX8_weightOf_4_48_54 ih x2 x3 (w32 (x4 + y3)) x5 _ h
def FX8_weightOf_4_48_0  (x2 : Int) (x3 : Int) (f : Mm) : Option (Int × Mm) := ((FX1_asDone_48_4 f).bind fun f1 => FX8_weightOf_4_48_11 fu x2 x3 0 0 f1)
set_option maxHeartbeats 4000000 in
set_option maxRecDepth 100000 in
theorem SX8_weightOf_4_48_0 {G : GT} {l : Launch} {Q : Option AV → Mem → Prop}  (x2 : Int) (x3 : Int) (f : Mm) (h : OkI Q (FX8_weightOf_4_48_0  x2 x3 f)) : Ev G l MX8_weightOf (Rm 5 0 0) (ZM G Q 0 0) 0 0 0 [some (vR 4), some (vR 48), some (vI x2), some (vI x3), none, none] [] (SH, RF, f) := by
  unfold FX8_weightOf_4_48_0 at h
  refine ev_aload_n (i := 1) dX8_weightOf_0 rfl rfl ?_
  refine ev_aload_n (i := 0) dX8_weightOf_1 rfl rfl ?_
  refine ev_cVV (b := 48) (av := [vR 4]) (S := []) (fun q => q) h dX8_weightOf_2 (fun Q' q => TX1_asDone_48_4 _ q) kvX1_asDone ml_X8_9 sh_48 rfl (RRc (by decide) (by decide)) (Nat.le_of_ble_eq_true rfl) ⟨Nat.le_of_ble_eq_true rfl, Nat.le_of_ble_eq_true rfl⟩ (fun f1 h => ?_)
  refine ev_iconst dX8_weightOf_5 (r32c rfl) ?_
  refine ev_istore (L' := [some (vR 4), some (vR 48), some (vI x2), some (vI x3), some (vI 0), none]) dX8_weightOf_6 (by decide) rfl ?_
  refine ev_iconst dX8_weightOf_8 (r32c rfl) ?_
  refine ev_istore (L' := [some (vR 4), some (vR 48), some (vI x2), some (vI x3), some (vI 0), some (vI 0)]) dX8_weightOf_9 (by decide) rfl ?_
  exact SX8_weightOf_4_48_11  fu x2 x3 0 0 _ h
def FX8_weightOf_4_48 (x2 : Int) (x3 : Int) (f : Mm) : Option (Int × Mm) := FX8_weightOf_4_48_0 x2 x3 f
set_option maxRecDepth 100000 in
theorem TX8_weightOf_4_48 {G : GT} {l : Launch} {Q : Option AV → Mem → Prop} (x2 : Int) (x3 : Int) (f : Mm) (h : OkI Q (FX8_weightOf_4_48 x2 x3 f)) : Ret G l MX8_weightOf (5) 0 0 [vR 4, vR 48, vI x2, vI x3] (SH, RF, f) Q := by
  refine ret_of (L := [some (vR 4), some (vR 48), some (vI x2), some (vI x3), none, none]) (by decide) rfl (Nat.le_of_ble_eq_true rfl) ?_
  exact SX8_weightOf_4_48_0 x2 x3 f h
theorem dX10_tenTo_4 : decode cX10_tenTo 4 = .ok (.iload_n 2, 1) := by decide +kernel
theorem dX10_tenTo_5 : decode cX10_tenTo 5 = .ok (.iload_n 0, 1) := by decide +kernel
theorem dX10_tenTo_6 : decode cX10_tenTo 6 = .ok (.if_icmp .ge 20, 3) := by decide +kernel
theorem dX10_tenTo_26 : decode cX10_tenTo 26 = .ok (.iload_n 1, 1) := by decide +kernel
theorem dX10_tenTo_27 : decode cX10_tenTo 27 = .ok (.ireturn, 1) := by decide +kernel
theorem dX10_tenTo_9 : decode cX10_tenTo 9 = .ok (.iload_n 2, 1) := by decide +kernel
theorem dX10_tenTo_10 : decode cX10_tenTo 10 = .ok (.bipush 6, 2) := by decide +kernel
theorem dX10_tenTo_12 : decode cX10_tenTo 12 = .ok (.if_icmp .ge 14, 3) := by decide +kernel
theorem dX10_tenTo_15 : decode cX10_tenTo 15 = .ok (.iload_n 1, 1) := by decide +kernel
theorem dX10_tenTo_16 : decode cX10_tenTo 16 = .ok (.bipush 10, 2) := by decide +kernel
theorem dX10_tenTo_18 : decode cX10_tenTo 18 = .ok (.imul, 1) := by decide +kernel
theorem dX10_tenTo_19 : decode cX10_tenTo 19 = .ok (.istore_n 1, 1) := by decide +kernel
theorem dX10_tenTo_20 : decode cX10_tenTo 20 = .ok (.iinc 2 1, 3) := by decide +kernel
theorem dX10_tenTo_23 : decode cX10_tenTo 23 = .ok (.goto (-19), 3) := by decide +kernel
theorem dX10_tenTo_0 : decode cX10_tenTo 0 = .ok (.iconst 1, 1) := by decide +kernel
theorem dX10_tenTo_1 : decode cX10_tenTo 1 = .ok (.istore_n 1, 1) := by decide +kernel
theorem dX10_tenTo_2 : decode cX10_tenTo 2 = .ok (.iconst 0, 1) := by decide +kernel
theorem dX10_tenTo_3 : decode cX10_tenTo 3 = .ok (.istore_n 2, 1) := by decide +kernel
def FX10_tenTo_4  : Nat → Int → Int → Int → Mm → Option (Int × Mm)
  | 0, _, _, _, _ => none
  | n + 1, x0, x1, x2, f => (if x0 ≤ x2 then some (x1, f) else (if 6 ≤ x2 then some (x1, f) else FX10_tenTo_4 n x0 (w32 (x1 * 10)) (w32 (x2 + 1)) f))
set_option maxHeartbeats 4000000 in
set_option maxRecDepth 100000 in
theorem SX10_tenTo_4 {G : GT} {l : Launch} {Q : Option AV → Mem → Prop}  : ∀ (n : Nat) (x0 : Int) (x1 : Int) (x2 : Int) (f : Mm), OkI Q (FX10_tenTo_4  n x0 x1 x2 f) → Ev G l MX10_tenTo (Rm 1 0 0) (ZM G Q 0 0) 0 0 4 [some (vI x0), some (vI x1), some (vI x2)] [] (SH, RF, f) := by
  intro n
  induction n with
  | zero => intro x0 x1 x2 f h; exact absurd h (by rw [FX10_tenTo_4]; exact fun q => q)
  | succ n ih =>
    intro x0 x1 x2 f h
    rw [FX10_tenTo_4] at h
    refine ev_iload_n (i := 2) dX10_tenTo_4 rfl rfl ?_
    refine ev_iload_n (i := 0) dX10_tenTo_5 rfl rfl ?_
    refine ev_icmp_ge (tgt := 26) dX10_tenTo_6 (by decide) (fun c2 => ?_) (fun c2 => ?_)
    · rw [if_pos c2] at h
      refine ev_iload_n (i := 1) dX10_tenTo_26 rfl rfl ?_
      exact ev_iret rfl dX10_tenTo_27 h
    · rw [if_neg c2] at h
      refine ev_iload_n (i := 2) dX10_tenTo_9 rfl rfl ?_
      refine ev_bipush (v := 6) dX10_tenTo_10 (r32c rfl) (by decide) ?_
      refine ev_icmp_ge (tgt := 26) dX10_tenTo_12 (by decide) (fun c1 => ?_) (fun c1 => ?_)
      · rw [if_pos c1] at h
        refine ev_iload_n (i := 1) dX10_tenTo_26 rfl rfl ?_
        exact ev_iret rfl dX10_tenTo_27 h
      · rw [if_neg c1] at h
        refine ev_iload_n (i := 1) dX10_tenTo_15 rfl rfl ?_
        refine ev_bipush (v := 10) dX10_tenTo_16 (r32c rfl) (by decide) ?_
        refine ev_imul dX10_tenTo_18 ?_
        refine ev_istore_n (i := 1) (L' := [some (vI x0), some (vI (w32 (x1 * 10))), some (vI x2)]) dX10_tenTo_19 rfl (by decide) rfl ?_
        refine ev_iinc (L' := [some (vI x0), some (vI (w32 (x1 * 10))), some (vI (w32 (x2 + 1)))]) dX10_tenTo_20 rfl (by decide) rfl ?_
        refine ev_goto (tgt := 4) dX10_tenTo_23 (by decide) ?_
        exact ih x0 (w32 (x1 * 10)) (w32 (x2 + 1)) _ h
def FX10_tenTo_0  (x0 : Int) (f : Mm) : Option (Int × Mm) := FX10_tenTo_4 fu x0 1 0 f
set_option maxHeartbeats 4000000 in
set_option maxRecDepth 100000 in
theorem SX10_tenTo_0 {G : GT} {l : Launch} {Q : Option AV → Mem → Prop}  (x0 : Int) (f : Mm) (h : OkI Q (FX10_tenTo_0  x0 f)) : Ev G l MX10_tenTo (Rm 1 0 0) (ZM G Q 0 0) 0 0 0 [some (vI x0), none, none] [] (SH, RF, f) := by
  unfold FX10_tenTo_0 at h
  refine ev_iconst dX10_tenTo_0 (r32c rfl) ?_
  refine ev_istore_n (i := 1) (L' := [some (vI x0), some (vI 1), none]) dX10_tenTo_1 rfl (by decide) rfl ?_
  refine ev_iconst dX10_tenTo_2 (r32c rfl) ?_
  refine ev_istore_n (i := 2) (L' := [some (vI x0), some (vI 1), some (vI 0)]) dX10_tenTo_3 rfl (by decide) rfl ?_
  exact SX10_tenTo_4  fu x0 1 0 _ h
def FX10_tenTo (x0 : Int) (f : Mm) : Option (Int × Mm) := FX10_tenTo_0 x0 f
set_option maxRecDepth 100000 in
theorem TX10_tenTo {G : GT} {l : Launch} {Q : Option AV → Mem → Prop} (x0 : Int) (f : Mm) (h : OkI Q (FX10_tenTo x0 f)) : Ret G l MX10_tenTo (1) 0 0 [vI x0] (SH, RF, f) Q := by
  refine ret_of (L := [some (vI x0), none, none]) (by decide) rfl (Nat.le_of_ble_eq_true rfl) ?_
  exact SX10_tenTo_0 x0 f h
theorem dX10_commonDivisor_7 : decode cX10_commonDivisor 7 = .ok (.iload 4, 2) := by decide +kernel
theorem dX10_commonDivisor_9 : decode cX10_commonDivisor 9 = .ok (.bipush 64, 2) := by decide +kernel
theorem dX10_commonDivisor_11 : decode cX10_commonDivisor 11 = .ok (.if_icmp .ge 23, 3) := by decide +kernel
theorem dX10_commonDivisor_34 : decode cX10_commonDivisor 34 = .ok (.iload_n 2, 1) := by decide +kernel
theorem dX10_commonDivisor_35 : decode cX10_commonDivisor 35 = .ok (.ireturn, 1) := by decide +kernel
theorem dX10_commonDivisor_14 : decode cX10_commonDivisor 14 = .ok (.iload_n 3, 1) := by decide +kernel
theorem dX10_commonDivisor_15 : decode cX10_commonDivisor 15 = .ok (.ifCond .eq 19, 3) := by decide +kernel
theorem dX10_commonDivisor_18 : decode cX10_commonDivisor 18 = .ok (.iload_n 2, 1) := by decide +kernel
theorem dX10_commonDivisor_19 : decode cX10_commonDivisor 19 = .ok (.iload_n 3, 1) := by decide +kernel
theorem dX10_commonDivisor_20 : decode cX10_commonDivisor 20 = .ok (.irem, 1) := by decide +kernel
theorem dX10_commonDivisor_21 : decode cX10_commonDivisor 21 = .ok (.istore 5, 2) := by decide +kernel
theorem dX10_commonDivisor_23 : decode cX10_commonDivisor 23 = .ok (.iload_n 3, 1) := by decide +kernel
theorem dX10_commonDivisor_24 : decode cX10_commonDivisor 24 = .ok (.istore_n 2, 1) := by decide +kernel
theorem dX10_commonDivisor_25 : decode cX10_commonDivisor 25 = .ok (.iload 5, 2) := by decide +kernel
theorem dX10_commonDivisor_27 : decode cX10_commonDivisor 27 = .ok (.istore_n 3, 1) := by decide +kernel
theorem dX10_commonDivisor_28 : decode cX10_commonDivisor 28 = .ok (.iinc 4 1, 3) := by decide +kernel
theorem dX10_commonDivisor_31 : decode cX10_commonDivisor 31 = .ok (.goto (-24), 3) := by decide +kernel
theorem dX10_commonDivisor_0 : decode cX10_commonDivisor 0 = .ok (.iload_n 0, 1) := by decide +kernel
theorem dX10_commonDivisor_1 : decode cX10_commonDivisor 1 = .ok (.istore_n 2, 1) := by decide +kernel
theorem dX10_commonDivisor_2 : decode cX10_commonDivisor 2 = .ok (.iload_n 1, 1) := by decide +kernel
theorem dX10_commonDivisor_3 : decode cX10_commonDivisor 3 = .ok (.istore_n 3, 1) := by decide +kernel
theorem dX10_commonDivisor_4 : decode cX10_commonDivisor 4 = .ok (.iconst 0, 1) := by decide +kernel
theorem dX10_commonDivisor_5 : decode cX10_commonDivisor 5 = .ok (.istore 4, 2) := by decide +kernel
def FX10_commonDivisor_7  : Nat → Int → Int → Int → Mm → Option (Int × Mm)
  | 0, _, _, _, _ => none
  | n + 1, x2, x3, x4, f => (if 64 ≤ x4 then some (x2, f) else (if x3 = 0 then some (x2, f) else (if x3 ≠ 0 then FX10_commonDivisor_7 n x3 (iRem x2 x3) (w32 (x4 + 1)) f else none)))
set_option maxHeartbeats 4000000 in
set_option maxRecDepth 100000 in
theorem SX10_commonDivisor_7 {G : GT} {l : Launch} {Q : Option AV → Mem → Prop}  : ∀ (n : Nat) (x2 : Int) (x3 : Int) (x4 : Int) (f : Mm), OkI Q (FX10_commonDivisor_7  n x2 x3 x4 f) → Ev G l MX10_commonDivisor (Rm 1 0 0) (ZM G Q 0 0) 0 0 7 [none, none, some (vI x2), some (vI x3), some (vI x4), none] [] (SH, RF, f) := by
  intro n
  induction n with
  | zero => intro x2 x3 x4 f h; exact absurd h (by rw [FX10_commonDivisor_7]; exact fun q => q)
  | succ n ih =>
    intro x2 x3 x4 f h
    rw [FX10_commonDivisor_7] at h
    refine ev_iload dX10_commonDivisor_7 rfl ?_
    refine ev_bipush (v := 64) dX10_commonDivisor_9 (r32c rfl) (by decide) ?_
    refine ev_icmp_ge (tgt := 34) dX10_commonDivisor_11 (by decide) (fun c3 => ?_) (fun c3 => ?_)
    · rw [if_pos c3] at h
      refine ev_iload_n (i := 2) dX10_commonDivisor_34 rfl rfl ?_
      exact ev_iret rfl dX10_commonDivisor_35 h
    · rw [if_neg c3] at h
      refine ev_iload_n (i := 3) dX10_commonDivisor_14 rfl rfl ?_
      refine ev_if_eq (tgt := 34) dX10_commonDivisor_15 (by decide) (fun c2 => ?_) (fun c2 => ?_)
      · rw [if_pos c2] at h
        refine ev_iload_n (i := 2) dX10_commonDivisor_34 rfl rfl ?_
        exact ev_iret rfl dX10_commonDivisor_35 h
      · rw [if_neg c2] at h
        refine ev_iload_n (i := 2) dX10_commonDivisor_18 rfl rfl ?_
        refine ev_iload_n (i := 3) dX10_commonDivisor_19 rfl rfl ?_
        by_cases g1 : x3 ≠ 0
        · rw [if_pos g1] at h
          refine ev_irem dX10_commonDivisor_20 g1 ?_
          refine ev_istore (L' := [none, none, some (vI x2), some (vI x3), some (vI x4), some (vI (iRem x2 x3))]) dX10_commonDivisor_21 (by decide) rfl ?_
          refine ev_iload_n (i := 3) dX10_commonDivisor_23 rfl rfl ?_
          refine ev_istore_n (i := 2) (L' := [none, none, some (vI x3), some (vI x3), some (vI x4), some (vI (iRem x2 x3))]) dX10_commonDivisor_24 rfl (by decide) rfl ?_
          refine ev_iload dX10_commonDivisor_25 rfl ?_
          refine ev_istore_n (i := 3) (L' := [none, none, some (vI x3), some (vI (iRem x2 x3)), some (vI x4), some (vI (iRem x2 x3))]) dX10_commonDivisor_27 rfl (by decide) rfl ?_
          refine ev_iinc (L' := [none, none, some (vI x3), some (vI (iRem x2 x3)), some (vI (w32 (x4 + 1))), some (vI (iRem x2 x3))]) dX10_commonDivisor_28 rfl (by decide) rfl ?_
          refine ev_goto (tgt := 7) dX10_commonDivisor_31 (by decide) ?_
          refine ev_fg [true, true, true, true, true, false] rfl ?_
          exact ih x3 (iRem x2 x3) (w32 (x4 + 1)) _ h
        · rw [if_neg g1] at h; exact h.elim
def FX10_commonDivisor_0  (x0 : Int) (x1 : Int) (f : Mm) : Option (Int × Mm) := FX10_commonDivisor_7 fu x0 x1 0 f
set_option maxHeartbeats 4000000 in
set_option maxRecDepth 100000 in
theorem SX10_commonDivisor_0 {G : GT} {l : Launch} {Q : Option AV → Mem → Prop}  (x0 : Int) (x1 : Int) (f : Mm) (h : OkI Q (FX10_commonDivisor_0  x0 x1 f)) : Ev G l MX10_commonDivisor (Rm 1 0 0) (ZM G Q 0 0) 0 0 0 [some (vI x0), some (vI x1), none, none, none, none] [] (SH, RF, f) := by
  unfold FX10_commonDivisor_0 at h
  refine ev_iload_n (i := 0) dX10_commonDivisor_0 rfl rfl ?_
  refine ev_istore_n (i := 2) (L' := [some (vI x0), some (vI x1), some (vI x0), none, none, none]) dX10_commonDivisor_1 rfl (by decide) rfl ?_
  refine ev_iload_n (i := 1) dX10_commonDivisor_2 rfl rfl ?_
  refine ev_istore_n (i := 3) (L' := [some (vI x0), some (vI x1), some (vI x0), some (vI x1), none, none]) dX10_commonDivisor_3 rfl (by decide) rfl ?_
  refine ev_iconst dX10_commonDivisor_4 (r32c rfl) ?_
  refine ev_istore (L' := [some (vI x0), some (vI x1), some (vI x0), some (vI x1), some (vI 0), none]) dX10_commonDivisor_5 (by decide) rfl ?_
  refine ev_fg [false, false, true, true, true, true] rfl ?_
  exact SX10_commonDivisor_7  fu x0 x1 0 _ h
def FX10_commonDivisor (x0 : Int) (x1 : Int) (f : Mm) : Option (Int × Mm) := FX10_commonDivisor_0 x0 x1 f
set_option maxRecDepth 100000 in
theorem TX10_commonDivisor {G : GT} {l : Launch} {Q : Option AV → Mem → Prop} (x0 : Int) (x1 : Int) (f : Mm) (h : OkI Q (FX10_commonDivisor x0 x1 f)) : Ret G l MX10_commonDivisor (1) 0 0 [vI x0, vI x1] (SH, RF, f) Q := by
  refine ret_of (L := [some (vI x0), some (vI x1), none, none, none, none]) (by decide) rfl (Nat.le_of_ble_eq_true rfl) ?_
  exact SX10_commonDivisor_0 x0 x1 f h
theorem dX10_chance_0 : decode cX10_chance 0 = .ok (.aload_n 0, 1) := by decide +kernel
theorem dX10_chance_1 : decode cX10_chance 1 = .ok (.getfield 19, 3) := by decide +kernel
theorem dX10_chance_4 : decode cX10_chance 4 = .ok (.iload_n 1, 1) := by decide +kernel
theorem dX10_chance_5 : decode cX10_chance 5 = .ok (.invokevirtual 126, 3) := by decide +kernel
theorem dX10_chance_8 : decode cX10_chance 8 = .ok (.ifCond .eq 19, 3) := by decide +kernel
theorem dX10_chance_27 : decode cX10_chance 27 = .ok (.ldc2_w 342, 3) := by decide +kernel
theorem dX10_chance_30 : decode cX10_chance 30 = .ok (.lreturn, 1) := by decide +kernel
theorem dX10_chance_11 : decode cX10_chance 11 = .ok (.iload_n 2, 1) := by decide +kernel
theorem dX10_chance_12 : decode cX10_chance 12 = .ok (.invokestatic 251, 3) := by decide +kernel
theorem dX10_chance_15 : decode cX10_chance 15 = .ok (.ifCond .eq 12, 3) := by decide +kernel
theorem dX10_chance_18 : decode cX10_chance 18 = .ok (.iload_n 3, 1) := by decide +kernel
theorem dX10_chance_19 : decode cX10_chance 19 = .ok (.ifCond .lt 8, 3) := by decide +kernel
theorem dX10_chance_22 : decode cX10_chance 22 = .ok (.iload_n 3, 1) := by decide +kernel
theorem dX10_chance_23 : decode cX10_chance 23 = .ok (.iconst 1, 1) := by decide +kernel
theorem dX10_chance_24 : decode cX10_chance 24 = .ok (.if_icmp .le 7, 3) := by decide +kernel
theorem dX10_chance_31 : decode cX10_chance 31 = .ok (.aload_n 0, 1) := by decide +kernel
theorem dX10_chance_32 : decode cX10_chance 32 = .ok (.getfield 19, 3) := by decide +kernel
theorem dX10_chance_35 : decode cX10_chance 35 = .ok (.aload_n 0, 1) := by decide +kernel
theorem dX10_chance_36 : decode cX10_chance 36 = .ok (.getfield 44, 3) := by decide +kernel
theorem dX10_chance_39 : decode cX10_chance 39 = .ok (.iload_n 1, 1) := by decide +kernel
theorem dX10_chance_40 : decode cX10_chance 40 = .ok (.iload_n 2, 1) := by decide +kernel
theorem dX10_chance_41 : decode cX10_chance 41 = .ok (.invokestatic 344, 3) := by decide +kernel
theorem dX10_chance_44 : decode cX10_chance 44 = .ok (.istore 4, 2) := by decide +kernel
theorem dX10_chance_46 : decode cX10_chance 46 = .ok (.iload_n 1, 1) := by decide +kernel
theorem dX10_chance_47 : decode cX10_chance 47 = .ok (.iconst 1, 1) := by decide +kernel
theorem dX10_chance_48 : decode cX10_chance 48 = .ok (.iadd, 1) := by decide +kernel
theorem dX10_chance_49 : decode cX10_chance 49 = .ok (.invokestatic 349, 3) := by decide +kernel
theorem dX10_chance_52 : decode cX10_chance 52 = .ok (.istore 5, 2) := by decide +kernel
theorem dX10_chance_54 : decode cX10_chance 54 = .ok (.iload 4, 2) := by decide +kernel
theorem dX10_chance_56 : decode cX10_chance 56 = .ok (.iload 5, 2) := by decide +kernel
theorem dX10_chance_58 : decode cX10_chance 58 = .ok (.invokestatic 352, 3) := by decide +kernel
theorem dX10_chance_61 : decode cX10_chance 61 = .ok (.istore 6, 2) := by decide +kernel
theorem dX10_chance_63 : decode cX10_chance 63 = .ok (.iload 6, 2) := by decide +kernel
theorem dX10_chance_65 : decode cX10_chance 65 = .ok (.ifCond .ne 7, 3) := by decide +kernel
theorem dX10_chance_72 : decode cX10_chance 72 = .ok (.iload_n 3, 1) := by decide +kernel
theorem dX10_chance_73 : decode cX10_chance 73 = .ok (.ifCond .ne 12, 3) := by decide +kernel
theorem dX10_chance_85 : decode cX10_chance 85 = .ok (.iload 5, 2) := by decide +kernel
theorem dX10_chance_87 : decode cX10_chance 87 = .ok (.iload 6, 2) := by decide +kernel
theorem dX10_chance_89 : decode cX10_chance 89 = .ok (.idiv, 1) := by decide +kernel
theorem dX10_chance_90 : decode cX10_chance 90 = .ok (.i2l, 1) := by decide +kernel
theorem dX10_chance_91 : decode cX10_chance 91 = .ok (.lreturn, 1) := by decide +kernel
theorem dX10_chance_76 : decode cX10_chance 76 = .ok (.iload 4, 2) := by decide +kernel
theorem dX10_chance_78 : decode cX10_chance 78 = .ok (.iload 6, 2) := by decide +kernel
theorem dX10_chance_80 : decode cX10_chance 80 = .ok (.idiv, 1) := by decide +kernel
theorem dX10_chance_81 : decode cX10_chance 81 = .ok (.i2l, 1) := by decide +kernel
theorem dX10_chance_82 : decode cX10_chance 82 = .ok (.goto 9, 3) := by decide +kernel
theorem dX10_chance_68 : decode cX10_chance 68 = .ok (.ldc2_w 342, 3) := by decide +kernel
theorem dX10_chance_71 : decode cX10_chance 71 = .ok (.lreturn, 1) := by decide +kernel
def FX10_chance_0  (x1 : Int) (x2 : Int) (x3 : Int) (f : Mm) : Option (Int × Mm) := (b2 (FX0_hasDay_4 x1 f) fun y1 f1 => (if y1 = 0 then some ((-2), f1) else (b2 (FX10_isFeeling x2 f1) fun y2 f2 => (if y2 = 0 then some ((-2), f2) else (if x3 < 0 then some ((-2), f2) else (if x3 ≤ 1 then (b2 (FX8_weightOf_4_48 x1 x2 f2) fun y3 f3 => (b2 (FX10_tenTo (w32 (x1 + 1)) f3) fun y4 f4 => (b2 (FX10_commonDivisor y3 y4 f4) fun y5 f5 => (if y5 = 0 then some ((-2), f5) else (if x3 = 0 then (if y5 ≠ 0 then some ((iDiv y3 y5), f5) else none) else (if y5 ≠ 0 then some ((iDiv y4 y5), f5) else none)))))) else some ((-2), f2)))))))
set_option maxHeartbeats 4000000 in
set_option maxRecDepth 100000 in
theorem SX10_chance_0 {G : GT} {l : Launch} {Q : Option AV → Mem → Prop}  (x1 : Int) (x2 : Int) (x3 : Int) (f : Mm) (h : OkJ Q (FX10_chance_0  x1 x2 x3 f)) : Ev G l MX10_chance (Rm 6 0 0) (ZM G Q 0 0) 0 0 0 [some (vR 0), some (vI x1), some (vI x2), some (vI x3), none, none, none] [] (SH, RF, f) := by
  unfold FX10_chance_0 at h
  refine ev_aload_n (i := 0) dX10_chance_0 rfl rfl ?_
  refine ev_getR dX10_chance_1 fl_X10_19 sh_0 (by decide) (by decide) rf_0_1 ?_
  refine ev_iload_n (i := 1) dX10_chance_4 rfl rfl ?_
  refine ev_cVI (b := 4) (av := [vI x1]) (S := []) (fun q => q) h dX10_chance_5 (fun Q' q => TX0_hasDay_4 x1 _ q) kvX0_hasDay ml_X10_126 sh_4 rfl (RRc (by decide) (by decide)) (Nat.le_of_ble_eq_true rfl) ⟨Nat.le_of_ble_eq_true rfl, Nat.le_of_ble_eq_true rfl⟩ (fun y1 f1 h => ?_)
  refine ev_if_eq (tgt := 27) dX10_chance_8 (by decide) (fun c13 => ?_) (fun c13 => ?_)
  · rw [if_pos c13] at h
    refine ev_ldc2 (v := (-2)) dX10_chance_27 (r64c rfl) kc_X10_342 ?_
    exact ev_lret rfl dX10_chance_30 h
  · rw [if_neg c13] at h
    refine ev_iload_n (i := 2) dX10_chance_11 rfl rfl ?_
    refine ev_cSI (av := [vI x2]) (S := []) (fun q => q) h dX10_chance_12 (fun Q' q => TX10_isFeeling x2 _ q) ksX10_isFeeling ml_X10_251 rfl (RRc (by decide) (by decide)) (Nat.le_of_ble_eq_true rfl) ⟨Nat.le_of_ble_eq_true rfl, Nat.le_of_ble_eq_true rfl⟩ (fun y2 f2 h => ?_)
    refine ev_if_eq (tgt := 27) dX10_chance_15 (by decide) (fun c12 => ?_) (fun c12 => ?_)
    · rw [if_pos c12] at h
      refine ev_ldc2 (v := (-2)) dX10_chance_27 (r64c rfl) kc_X10_342 ?_
      exact ev_lret rfl dX10_chance_30 h
    · rw [if_neg c12] at h
      refine ev_iload_n (i := 3) dX10_chance_18 rfl rfl ?_
      refine ev_if_lt (tgt := 27) dX10_chance_19 (by decide) (fun c11 => ?_) (fun c11 => ?_)
      · rw [if_pos c11] at h
        refine ev_ldc2 (v := (-2)) dX10_chance_27 (r64c rfl) kc_X10_342 ?_
        exact ev_lret rfl dX10_chance_30 h
      · rw [if_neg c11] at h
        refine ev_iload_n (i := 3) dX10_chance_22 rfl rfl ?_
        refine ev_iconst dX10_chance_23 (r32c rfl) ?_
        refine ev_icmp_le (tgt := 31) dX10_chance_24 (by decide) (fun c10 => ?_) (fun c10 => ?_)
        · rw [if_pos c10] at h
          refine ev_aload_n (i := 0) dX10_chance_31 rfl rfl ?_
          refine ev_getR dX10_chance_32 fl_X10_19 sh_0 (by decide) (by decide) rf_0_1 ?_
          refine ev_aload_n (i := 0) dX10_chance_35 rfl rfl ?_
          refine ev_getR dX10_chance_36 fl_X10_44 sh_0 (by decide) (by decide) rf_0_6 ?_
          refine ev_iload_n (i := 1) dX10_chance_39 rfl rfl ?_
          refine ev_iload_n (i := 2) dX10_chance_40 rfl rfl ?_
          refine ev_cSI (av := [vR 4, vR 48, vI x1, vI x2]) (S := []) (fun q => q) h dX10_chance_41 (fun Q' q => TX8_weightOf_4_48 x1 x2 _ q) ksX8_weightOf ml_X10_344 rfl (RRc (by decide) (by decide)) (Nat.le_of_ble_eq_true rfl) ⟨Nat.le_of_ble_eq_true rfl, Nat.le_of_ble_eq_true rfl⟩ (fun y3 f3 h => ?_)
          refine ev_istore (L' := [some (vR 0), some (vI x1), some (vI x2), some (vI x3), some (vI y3), none, none]) dX10_chance_44 (by decide) rfl ?_
          refine ev_iload_n (i := 1) dX10_chance_46 rfl rfl ?_
          refine ev_iconst dX10_chance_47 (r32c rfl) ?_
          refine ev_iadd dX10_chance_48 ?_
          refine ev_cSI (av := [vI (w32 (x1 + 1))]) (S := []) (fun q => q) h dX10_chance_49 (fun Q' q => TX10_tenTo (w32 (x1 + 1)) _ q) ksX10_tenTo ml_X10_349 rfl (RRc (by decide) (by decide)) (Nat.le_of_ble_eq_true rfl) ⟨Nat.le_of_ble_eq_true rfl, Nat.le_of_ble_eq_true rfl⟩ (fun y4 f4 h => ?_)
          refine ev_istore (L' := [some (vR 0), some (vI x1), some (vI x2), some (vI x3), some (vI y3), some (vI y4), none]) dX10_chance_52 (by decide) rfl ?_
          refine ev_iload dX10_chance_54 rfl ?_
          refine ev_iload dX10_chance_56 rfl ?_
          refine ev_cSI (av := [vI y3, vI y4]) (S := []) (fun q => q) h dX10_chance_58 (fun Q' q => TX10_commonDivisor y3 y4 _ q) ksX10_commonDivisor ml_X10_352 rfl (RRc (by decide) (by decide)) (Nat.le_of_ble_eq_true rfl) ⟨Nat.le_of_ble_eq_true rfl, Nat.le_of_ble_eq_true rfl⟩ (fun y5 f5 h => ?_)
          refine ev_istore (L' := [some (vR 0), some (vI x1), some (vI x2), some (vI x3), some (vI y3), some (vI y4), some (vI y5)]) dX10_chance_61 (by decide) rfl ?_
          refine ev_iload dX10_chance_63 rfl ?_
          refine ev_if_ne (tgt := 72) dX10_chance_65 (by decide) (fun c9 => ?_) (fun c9 => ?_)
          · rw [if_neg c9] at h
            refine ev_iload_n (i := 3) dX10_chance_72 rfl rfl ?_
            refine ev_if_ne (tgt := 85) dX10_chance_73 (by decide) (fun c8 => ?_) (fun c8 => ?_)
            · rw [if_neg c8] at h
              refine ev_iload dX10_chance_85 rfl ?_
              refine ev_iload dX10_chance_87 rfl ?_
              by_cases g6 : y5 ≠ 0
              · rw [if_pos g6] at h
                refine ev_idiv dX10_chance_89 g6 ?_
                refine ev_i2l dX10_chance_90 ?_
                exact ev_lret rfl dX10_chance_91 h
              · rw [if_neg g6] at h; exact h.elim
            · rw [if_pos c8] at h
              refine ev_iload dX10_chance_76 rfl ?_
              refine ev_iload dX10_chance_78 rfl ?_
              by_cases g7 : y5 ≠ 0
              · rw [if_pos g7] at h
                refine ev_idiv dX10_chance_80 g7 ?_
                refine ev_i2l dX10_chance_81 ?_
                refine ev_goto (tgt := 91) dX10_chance_82 (by decide) ?_
                exact ev_lret rfl dX10_chance_91 h
              · rw [if_neg g7] at h; exact h.elim
          · rw [if_pos c9] at h
            refine ev_ldc2 (v := (-2)) dX10_chance_68 (r64c rfl) kc_X10_342 ?_
            exact ev_lret rfl dX10_chance_71 h
        · rw [if_neg c10] at h
          refine ev_ldc2 (v := (-2)) dX10_chance_27 (r64c rfl) kc_X10_342 ?_
          exact ev_lret rfl dX10_chance_30 h
def FX10_chance (x1 : Int) (x2 : Int) (x3 : Int) (f : Mm) : Option (Int × Mm) := FX10_chance_0 x1 x2 x3 f
set_option maxRecDepth 100000 in
theorem TX10_chance {G : GT} {l : Launch} {Q : Option AV → Mem → Prop} (x1 : Int) (x2 : Int) (x3 : Int) (f : Mm) (h : OkJ Q (FX10_chance x1 x2 x3 f)) : Ret G l MX10_chance (6) 0 0 [vR 0, vI x1, vI x2, vI x3] (SH, RF, f) Q := by
  refine ret_of (L := [some (vR 0), some (vI x1), some (vI x2), some (vI x3), none, none, none]) (by decide) rfl (Nat.le_of_ble_eq_true rfl) ?_
  exact SX10_chance_0 x1 x2 x3 f h
theorem dX10_when_83 : decode cX10_when 83 = .ok (.iinc 4 1, 3) := by decide +kernel
theorem dX10_when_86 : decode cX10_when 86 = .ok (.goto (-59), 3) := by decide +kernel
theorem dX10_when_27 : decode cX10_when 27 = .ok (.iload 4, 2) := by decide +kernel
theorem dX10_when_29 : decode cX10_when 29 = .ok (.aload_n 0, 1) := by decide +kernel
theorem dX10_when_30 : decode cX10_when 30 = .ok (.getfield 19, 3) := by decide +kernel
theorem dX10_when_33 : decode cX10_when 33 = .ok (.getfield 144, 3) := by decide +kernel
theorem dX10_when_36 : decode cX10_when 36 = .ok (.if_icmp .ge 53, 3) := by decide +kernel
theorem dX10_when_89 : decode cX10_when 89 = .ok (.iload_n 2, 1) := by decide +kernel
theorem dX10_when_90 : decode cX10_when 90 = .ok (.ireturn, 1) := by decide +kernel
theorem dX10_when_39 : decode cX10_when 39 = .ok (.aload_n 0, 1) := by decide +kernel
theorem dX10_when_40 : decode cX10_when 40 = .ok (.getfield 19, 3) := by decide +kernel
theorem dX10_when_43 : decode cX10_when 43 = .ok (.aload_n 0, 1) := by decide +kernel
theorem dX10_when_44 : decode cX10_when 44 = .ok (.getfield 44, 3) := by decide +kernel
theorem dX10_when_47 : decode cX10_when 47 = .ok (.iload 4, 2) := by decide +kernel
theorem dX10_when_49 : decode cX10_when 49 = .ok (.iload_n 1, 1) := by decide +kernel
theorem dX10_when_50 : decode cX10_when 50 = .ok (.invokestatic 344, 3) := by decide +kernel
theorem dX10_when_53 : decode cX10_when 53 = .ok (.aload_n 0, 1) := by decide +kernel
theorem dX10_when_54 : decode cX10_when 54 = .ok (.getfield 19, 3) := by decide +kernel
theorem dX10_when_57 : decode cX10_when 57 = .ok (.getfield 144, 3) := by decide +kernel
theorem dX10_when_60 : decode cX10_when 60 = .ok (.iconst 1, 1) := by decide +kernel
theorem dX10_when_61 : decode cX10_when 61 = .ok (.isub, 1) := by decide +kernel
theorem dX10_when_62 : decode cX10_when 62 = .ok (.iload 4, 2) := by decide +kernel
theorem dX10_when_64 : decode cX10_when 64 = .ok (.isub, 1) := by decide +kernel
theorem dX10_when_65 : decode cX10_when 65 = .ok (.invokestatic 349, 3) := by decide +kernel
theorem dX10_when_68 : decode cX10_when 68 = .ok (.imul, 1) := by decide +kernel
theorem dX10_when_69 : decode cX10_when 69 = .ok (.istore 5, 2) := by decide +kernel
theorem dX10_when_71 : decode cX10_when 71 = .ok (.iload 5, 2) := by decide +kernel
theorem dX10_when_73 : decode cX10_when 73 = .ok (.iload_n 3, 1) := by decide +kernel
theorem dX10_when_74 : decode cX10_when 74 = .ok (.if_icmp .le 9, 3) := by decide +kernel
theorem dX10_when_77 : decode cX10_when 77 = .ok (.iload 5, 2) := by decide +kernel
theorem dX10_when_79 : decode cX10_when 79 = .ok (.istore_n 3, 1) := by decide +kernel
theorem dX10_when_80 : decode cX10_when 80 = .ok (.iload 4, 2) := by decide +kernel
theorem dX10_when_82 : decode cX10_when 82 = .ok (.istore_n 2, 1) := by decide +kernel
theorem dX10_when_0 : decode cX10_when 0 = .ok (.aload_n 0, 1) := by decide +kernel
theorem dX10_when_1 : decode cX10_when 1 = .ok (.getfield 19, 3) := by decide +kernel
theorem dX10_when_4 : decode cX10_when 4 = .ok (.invokevirtual 140, 3) := by decide +kernel
theorem dX10_when_7 : decode cX10_when 7 = .ok (.ifCond .eq 10, 3) := by decide +kernel
theorem dX10_when_17 : decode cX10_when 17 = .ok (.bipush (-2), 2) := by decide +kernel
theorem dX10_when_19 : decode cX10_when 19 = .ok (.ireturn, 1) := by decide +kernel
theorem dX10_when_10 : decode cX10_when 10 = .ok (.iload_n 1, 1) := by decide +kernel
theorem dX10_when_11 : decode cX10_when 11 = .ok (.invokestatic 251, 3) := by decide +kernel
theorem dX10_when_14 : decode cX10_when 14 = .ok (.ifCond .ne 6, 3) := by decide +kernel
theorem dX10_when_20 : decode cX10_when 20 = .ok (.iconst (-1), 1) := by decide +kernel
theorem dX10_when_21 : decode cX10_when 21 = .ok (.istore_n 2, 1) := by decide +kernel
theorem dX10_when_22 : decode cX10_when 22 = .ok (.iconst 0, 1) := by decide +kernel
theorem dX10_when_23 : decode cX10_when 23 = .ok (.istore_n 3, 1) := by decide +kernel
theorem dX10_when_24 : decode cX10_when 24 = .ok (.iconst 0, 1) := by decide +kernel
theorem dX10_when_25 : decode cX10_when 25 = .ok (.istore 4, 2) := by decide +kernel
def FX10_when_83 (k27 : Int → Int → Int → Int → Mm → Option (Int × Mm)) (x1 : Int) (x2 : Int) (x3 : Int) (x4 : Int) (f : Mm) : Option (Int × Mm) := k27 x1 x2 x3 (w32 (x4 + 1)) f
set_option maxHeartbeats 4000000 in
set_option maxRecDepth 100000 in
theorem SX10_when_83 {G : GT} {l : Launch} {Q : Option AV → Mem → Prop} {k27 : Int → Int → Int → Int → Mm → Option (Int × Mm)} (q27 : ∀ (x1 : Int) (x2 : Int) (x3 : Int) (x4 : Int) (f : Mm), OkI Q (k27 x1 x2 x3 x4 f) → Ev G l MX10_when (Rm 6 0 0) (ZM G Q 0 0) 0 0 27 [some (vR 0), some (vI x1), some (vI x2), some (vI x3), some (vI x4), none] [] (SH, RF, f)) (x1 : Int) (x2 : Int) (x3 : Int) (x4 : Int) (f : Mm) (h : OkI Q (FX10_when_83 k27 x1 x2 x3 x4 f)) : Ev G l MX10_when (Rm 6 0 0) (ZM G Q 0 0) 0 0 83 [some (vR 0), some (vI x1), some (vI x2), some (vI x3), some (vI x4), none] [] (SH, RF, f) := by
  unfold FX10_when_83 at h
  refine ev_iinc (L' := [some (vR 0), some (vI x1), some (vI x2), some (vI x3), some (vI (w32 (x4 + 1))), none]) dX10_when_83 rfl (by decide) rfl ?_
  refine ev_goto (tgt := 27) dX10_when_86 (by decide) ?_
  exact q27 x1 x2 x3 (w32 (x4 + 1)) _ h
def FX10_when_27  : Nat → Int → Int → Int → Int → Mm → Option (Int × Mm)
  | 0, _, _, _, _, _ => none
  | n + 1, x1, x2, x3, x4, f => (if (f 4 1) ≤ x4 then some (x2, f) else (b2 (FX8_weightOf_4_48 x4 x1 f) fun y1 f1 => (b2 (FX10_tenTo (w32 ((w32 ((f1 4 1) - 1)) - x4)) f1) fun y2 f2 => (if (w32 (y1 * y2)) ≤ x3 then FX10_when_83 (FX10_when_27 n) x1 x2 x3 x4 f2 else FX10_when_83 (FX10_when_27 n) x1 x4 (w32 (y1 * y2)) x4 f2))))
set_option maxHeartbeats 4000000 in
set_option maxRecDepth 100000 in
theorem SX10_when_27 {G : GT} {l : Launch} {Q : Option AV → Mem → Prop}  : ∀ (n : Nat) (x1 : Int) (x2 : Int) (x3 : Int) (x4 : Int) (f : Mm), OkI Q (FX10_when_27  n x1 x2 x3 x4 f) → Ev G l MX10_when (Rm 6 0 0) (ZM G Q 0 0) 0 0 27 [some (vR 0), some (vI x1), some (vI x2), some (vI x3), some (vI x4), none] [] (SH, RF, f) := by
  intro n
  induction n with
  | zero => intro x1 x2 x3 x4 f h; exact absurd h (by rw [FX10_when_27]; exact fun q => q)
  | succ n ih =>
    intro x1 x2 x3 x4 f h
    rw [FX10_when_27] at h
    refine ev_iload dX10_when_27 rfl ?_
    refine ev_aload_n (i := 0) dX10_when_29 rfl rfl ?_
    refine ev_getR dX10_when_30 fl_X10_19 sh_0 (by decide) (by decide) rf_0_1 ?_
    refine ex_getI (x := (f 4 1)) dX10_when_33 fl_X10_144 sh_4 (by decide) (by decide) rfl ?_
    refine ev_icmp_ge (tgt := 89) dX10_when_36 (by decide) (fun c4 => ?_) (fun c4 => ?_)
    · rw [if_pos c4] at h
      refine ev_iload_n (i := 2) dX10_when_89 rfl rfl ?_
      exact ev_iret rfl dX10_when_90 h
    · rw [if_neg c4] at h
      refine ev_aload_n (i := 0) dX10_when_39 rfl rfl ?_
      refine ev_getR dX10_when_40 fl_X10_19 sh_0 (by decide) (by decide) rf_0_1 ?_
      refine ev_aload_n (i := 0) dX10_when_43 rfl rfl ?_
      refine ev_getR dX10_when_44 fl_X10_44 sh_0 (by decide) (by decide) rf_0_6 ?_
      refine ev_iload dX10_when_47 rfl ?_
      refine ev_iload_n (i := 1) dX10_when_49 rfl rfl ?_
      refine ev_cSI (av := [vR 4, vR 48, vI x4, vI x1]) (S := []) (fun q => q) h dX10_when_50 (fun Q' q => TX8_weightOf_4_48 x4 x1 _ q) ksX8_weightOf ml_X10_344 rfl (RRc (by decide) (by decide)) (Nat.le_of_ble_eq_true rfl) ⟨Nat.le_of_ble_eq_true rfl, Nat.le_of_ble_eq_true rfl⟩ (fun y1 f1 h => ?_)
      refine ev_aload_n (i := 0) dX10_when_53 rfl rfl ?_
      refine ev_getR dX10_when_54 fl_X10_19 sh_0 (by decide) (by decide) rf_0_1 ?_
      refine ex_getI (x := (f1 4 1)) dX10_when_57 fl_X10_144 sh_4 (by decide) (by decide) rfl ?_
      refine ev_iconst dX10_when_60 (r32c rfl) ?_
      refine ev_isub dX10_when_61 ?_
      refine ev_iload dX10_when_62 rfl ?_
      refine ev_isub dX10_when_64 ?_
      refine ev_cSI (av := [vI (w32 ((w32 ((f1 4 1) - 1)) - x4))]) (S := [vI y1]) (fun q => q) h dX10_when_65 (fun Q' q => TX10_tenTo (w32 ((w32 ((f1 4 1) - 1)) - x4)) _ q) ksX10_tenTo ml_X10_349 rfl (RRc (by decide) (by decide)) (Nat.le_of_ble_eq_true rfl) ⟨Nat.le_of_ble_eq_true rfl, Nat.le_of_ble_eq_true rfl⟩ (fun y2 f2 h => ?_)
      refine ev_imul dX10_when_68 ?_
      refine ev_istore (L' := [some (vR 0), some (vI x1), some (vI x2), some (vI x3), some (vI x4), some (vI (w32 (y1 * y2)))]) dX10_when_69 (by decide) rfl ?_
      refine ev_iload dX10_when_71 rfl ?_
      refine ev_iload_n (i := 3) dX10_when_73 rfl rfl ?_
      refine ev_icmp_le (tgt := 83) dX10_when_74 (by decide) (fun c3 => ?_) (fun c3 => ?_)
      · rw [if_pos c3] at h
        refine ev_fg [true, true, true, true, true, false] rfl ?_
        exact SX10_when_83 ih x1 x2 x3 x4 _ h
      · rw [if_neg c3] at h
        refine ev_iload dX10_when_77 rfl ?_
        refine ev_istore_n (i := 3) (L' := [some (vR 0), some (vI x1), some (vI x2), some (vI (w32 (y1 * y2))), some (vI x4), some (vI (w32 (y1 * y2)))]) dX10_when_79 rfl (by decide) rfl ?_
        refine ev_iload dX10_when_80 rfl ?_
        refine ev_istore_n (i := 2) (L' := [some (vR 0), some (vI x1), some (vI x4), some (vI (w32 (y1 * y2))), some (vI x4), some (vI (w32 (y1 * y2)))]) dX10_when_82 rfl (by decide) rfl ?_
        refine ev_fg [true, true, true, true, true, false] rfl ?_
        exact SX10_when_83 ih x1 x4 (w32 (y1 * y2)) x4 _ h
def FX10_when_0  (x1 : Int) (f : Mm) : Option (Int × Mm) := (b2 (FX0_stands_4 f) fun y1 f1 => (if y1 = 0 then some ((-2), f1) else (b2 (FX10_isFeeling x1 f1) fun y2 f2 => (if y2 = 0 then some ((-2), f2) else FX10_when_27 fu x1 (-1) 0 0 f2))))
set_option maxHeartbeats 4000000 in
set_option maxRecDepth 100000 in
theorem SX10_when_0 {G : GT} {l : Launch} {Q : Option AV → Mem → Prop}  (x1 : Int) (f : Mm) (h : OkI Q (FX10_when_0  x1 f)) : Ev G l MX10_when (Rm 6 0 0) (ZM G Q 0 0) 0 0 0 [some (vR 0), some (vI x1), none, none, none, none] [] (SH, RF, f) := by
  unfold FX10_when_0 at h
  refine ev_aload_n (i := 0) dX10_when_0 rfl rfl ?_
  refine ev_getR dX10_when_1 fl_X10_19 sh_0 (by decide) (by decide) rf_0_1 ?_
  refine ev_cVI (b := 4) (av := []) (S := []) (fun q => q) h dX10_when_4 (fun Q' q => TX0_stands_4 _ q) kvX0_stands ml_X10_140 sh_4 rfl (RRc (by decide) (by decide)) (Nat.le_of_ble_eq_true rfl) ⟨Nat.le_of_ble_eq_true rfl, Nat.le_of_ble_eq_true rfl⟩ (fun y1 f1 h => ?_)
  refine ev_if_eq (tgt := 17) dX10_when_7 (by decide) (fun c4 => ?_) (fun c4 => ?_)
  · rw [if_pos c4] at h
    refine ev_bipush (v := (-2)) dX10_when_17 (r32c rfl) (by decide) ?_
    exact ev_iret rfl dX10_when_19 h
  · rw [if_neg c4] at h
    refine ev_iload_n (i := 1) dX10_when_10 rfl rfl ?_
    refine ev_cSI (av := [vI x1]) (S := []) (fun q => q) h dX10_when_11 (fun Q' q => TX10_isFeeling x1 _ q) ksX10_isFeeling ml_X10_251 rfl (RRc (by decide) (by decide)) (Nat.le_of_ble_eq_true rfl) ⟨Nat.le_of_ble_eq_true rfl, Nat.le_of_ble_eq_true rfl⟩ (fun y2 f2 h => ?_)
    refine ev_if_ne (tgt := 20) dX10_when_14 (by decide) (fun c3 => ?_) (fun c3 => ?_)
    · rw [if_neg c3] at h
      refine ev_iconst dX10_when_20 (r32c rfl) ?_
      refine ev_istore_n (i := 2) (L' := [some (vR 0), some (vI x1), some (vI (-1)), none, none, none]) dX10_when_21 rfl (by decide) rfl ?_
      refine ev_iconst dX10_when_22 (r32c rfl) ?_
      refine ev_istore_n (i := 3) (L' := [some (vR 0), some (vI x1), some (vI (-1)), some (vI 0), none, none]) dX10_when_23 rfl (by decide) rfl ?_
      refine ev_iconst dX10_when_24 (r32c rfl) ?_
      refine ev_istore (L' := [some (vR 0), some (vI x1), some (vI (-1)), some (vI 0), some (vI 0), none]) dX10_when_25 (by decide) rfl ?_
      exact SX10_when_27  fu x1 (-1) 0 0 _ h
    · rw [if_pos c3] at h
      refine ev_bipush (v := (-2)) dX10_when_17 (r32c rfl) (by decide) ?_
      exact ev_iret rfl dX10_when_19 h
def FX10_when (x1 : Int) (f : Mm) : Option (Int × Mm) := FX10_when_0 x1 f
set_option maxRecDepth 100000 in
theorem TX10_when {G : GT} {l : Launch} {Q : Option AV → Mem → Prop} (x1 : Int) (f : Mm) (h : OkI Q (FX10_when x1 f)) : Ret G l MX10_when (6) 0 0 [vR 0, vI x1] (SH, RF, f) Q := by
  refine ret_of (L := [some (vR 0), some (vI x1), none, none, none, none]) (by decide) rfl (Nat.le_of_ble_eq_true rfl) ?_
  exact SX10_when_0 x1 f h
theorem dX10_isSeed_0 : decode cX10_isSeed 0 = .ok (.iload_n 0, 1) := by decide +kernel
theorem dX10_isSeed_1 : decode cX10_isSeed 1 = .ok (.ifCond .lt 14, 3) := by decide +kernel
theorem dX10_isSeed_15 : decode cX10_isSeed 15 = .ok (.iconst 0, 1) := by decide +kernel
theorem dX10_isSeed_16 : decode cX10_isSeed 16 = .ok (.ireturn, 1) := by decide +kernel
theorem dX10_isSeed_4 : decode cX10_isSeed 4 = .ok (.iload_n 0, 1) := by decide +kernel
theorem dX10_isSeed_5 : decode cX10_isSeed 5 = .ok (.ldc_w 446, 3) := by decide +kernel
theorem dX10_isSeed_8 : decode cX10_isSeed 8 = .ok (.if_icmp .gt 7, 3) := by decide +kernel
theorem dX10_isSeed_11 : decode cX10_isSeed 11 = .ok (.iconst 1, 1) := by decide +kernel
theorem dX10_isSeed_12 : decode cX10_isSeed 12 = .ok (.goto 4, 3) := by decide +kernel
def FX10_isSeed_0  (x0 : Int) (f : Mm) : Option (Int × Mm) := (if x0 < 0 then some (0, f) else (if 2000000000 < x0 then some (0, f) else some (1, f)))
set_option maxHeartbeats 4000000 in
set_option maxRecDepth 100000 in
theorem SX10_isSeed_0 {G : GT} {l : Launch} {Q : Option AV → Mem → Prop}  (x0 : Int) (f : Mm) (h : OkI Q (FX10_isSeed_0  x0 f)) : Ev G l MX10_isSeed (Rm 1 0 0) (ZM G Q 0 0) 0 0 0 [some (vI x0)] [] (SH, RF, f) := by
  unfold FX10_isSeed_0 at h
  refine ev_iload_n (i := 0) dX10_isSeed_0 rfl rfl ?_
  refine ev_if_lt (tgt := 15) dX10_isSeed_1 (by decide) (fun c2 => ?_) (fun c2 => ?_)
  · rw [if_pos c2] at h
    refine ev_iconst dX10_isSeed_15 (r32c rfl) ?_
    exact ev_zret rfl (by decide) dX10_isSeed_16 h
  · rw [if_neg c2] at h
    refine ev_iload_n (i := 0) dX10_isSeed_4 rfl rfl ?_
    refine ev_ldcw (v := 2000000000) dX10_isSeed_5 (r32c rfl) kc_X10_446 ?_
    refine ev_icmp_gt (tgt := 15) dX10_isSeed_8 (by decide) (fun c1 => ?_) (fun c1 => ?_)
    · rw [if_pos c1] at h
      refine ev_iconst dX10_isSeed_15 (r32c rfl) ?_
      exact ev_zret rfl (by decide) dX10_isSeed_16 h
    · rw [if_neg c1] at h
      refine ev_iconst dX10_isSeed_11 (r32c rfl) ?_
      refine ev_goto (tgt := 16) dX10_isSeed_12 (by decide) ?_
      exact ev_zret rfl (by decide) dX10_isSeed_16 h
def FX10_isSeed (x0 : Int) (f : Mm) : Option (Int × Mm) := FX10_isSeed_0 x0 f
set_option maxRecDepth 100000 in
theorem TX10_isSeed {G : GT} {l : Launch} {Q : Option AV → Mem → Prop} (x0 : Int) (f : Mm) (h : OkI Q (FX10_isSeed x0 f)) : Ret G l MX10_isSeed (1) 0 0 [vI x0] (SH, RF, f) Q := by
  refine ret_of (L := [some (vI x0)]) (by decide) rfl (Nat.le_of_ble_eq_true rfl) ?_
  exact SX10_isSeed_0 x0 f h
theorem dX8_drawDays_74 : decode cX8_drawDays 74 = .ok (.aload_n 1, 1) := by decide +kernel
theorem dX8_drawDays_75 : decode cX8_drawDays 75 = .ok (.aload_n 0, 1) := by decide +kernel
theorem dX8_drawDays_76 : decode cX8_drawDays 76 = .ok (.invokevirtual 55, 3) := by decide +kernel
theorem dX8_drawDays_79 : decode cX8_drawDays 79 = .ok (.return_, 1) := by decide +kernel
theorem dX8_drawDays_68 : decode cX8_drawDays 68 = .ok (.iinc 6 1, 3) := by decide +kernel
theorem dX8_drawDays_71 : decode cX8_drawDays 71 = .ok (.goto (-60), 3) := by decide +kernel
theorem dX8_drawDays_11 : decode cX8_drawDays 11 = .ok (.iload 6, 2) := by decide +kernel
theorem dX8_drawDays_13 : decode cX8_drawDays 13 = .ok (.aload_n 0, 1) := by decide +kernel
theorem dX8_drawDays_14 : decode cX8_drawDays 14 = .ok (.getfield 42, 3) := by decide +kernel
theorem dX8_drawDays_17 : decode cX8_drawDays 17 = .ok (.if_icmp .ge 57, 3) := by decide +kernel
theorem dX8_drawDays_20 : decode cX8_drawDays 20 = .ok (.ldc2_w 45, 3) := by decide +kernel
theorem dX8_drawDays_23 : decode cX8_drawDays 23 = .ok (.lload 4, 2) := by decide +kernel
theorem dX8_drawDays_25 : decode cX8_drawDays 25 = .ok (.lmul, 1) := by decide +kernel
theorem dX8_drawDays_26 : decode cX8_drawDays 26 = .ok (.ldc2_w 47, 3) := by decide +kernel
theorem dX8_drawDays_29 : decode cX8_drawDays 29 = .ok (.ladd, 1) := by decide +kernel
theorem dX8_drawDays_30 : decode cX8_drawDays 30 = .ok (.ldc2_w 49, 3) := by decide +kernel
theorem dX8_drawDays_33 : decode cX8_drawDays 33 = .ok (.lrem, 1) := by decide +kernel
theorem dX8_drawDays_34 : decode cX8_drawDays 34 = .ok (.lstore 4, 2) := by decide +kernel
theorem dX8_drawDays_36 : decode cX8_drawDays 36 = .ok (.lload 4, 2) := by decide +kernel
theorem dX8_drawDays_38 : decode cX8_drawDays 38 = .ok (.ldc2_w 51, 3) := by decide +kernel
theorem dX8_drawDays_41 : decode cX8_drawDays 41 = .ok (.ldiv, 1) := by decide +kernel
theorem dX8_drawDays_42 : decode cX8_drawDays 42 = .ok (.ldc2_w 53, 3) := by decide +kernel
theorem dX8_drawDays_45 : decode cX8_drawDays 45 = .ok (.lrem, 1) := by decide +kernel
theorem dX8_drawDays_46 : decode cX8_drawDays 46 = .ok (.aload_n 0, 1) := by decide +kernel
theorem dX8_drawDays_47 : decode cX8_drawDays 47 = .ok (.getfield 37, 3) := by decide +kernel
theorem dX8_drawDays_50 : decode cX8_drawDays 50 = .ok (.i2l, 1) := by decide +kernel
theorem dX8_drawDays_51 : decode cX8_drawDays 51 = .ok (.lcmp, 1) := by decide +kernel
theorem dX8_drawDays_52 : decode cX8_drawDays 52 = .ok (.ifCond .ge 16, 3) := by decide +kernel
theorem dX8_drawDays_55 : decode cX8_drawDays 55 = .ok (.aload_n 1, 1) := by decide +kernel
theorem dX8_drawDays_56 : decode cX8_drawDays 56 = .ok (.dup, 1) := by decide +kernel
theorem dX8_drawDays_57 : decode cX8_drawDays 57 = .ok (.getfield 15, 3) := by decide +kernel
theorem dX8_drawDays_60 : decode cX8_drawDays 60 = .ok (.iconst 1, 1) := by decide +kernel
theorem dX8_drawDays_61 : decode cX8_drawDays 61 = .ok (.iload 6, 2) := by decide +kernel
theorem dX8_drawDays_63 : decode cX8_drawDays 63 = .ok (.ishl, 1) := by decide +kernel
theorem dX8_drawDays_64 : decode cX8_drawDays 64 = .ok (.ior, 1) := by decide +kernel
theorem dX8_drawDays_65 : decode cX8_drawDays 65 = .ok (.putfield 15, 3) := by decide +kernel
theorem dX8_drawDays_0 : decode cX8_drawDays 0 = .ok (.aload_n 1, 1) := by decide +kernel
theorem dX8_drawDays_1 : decode cX8_drawDays 1 = .ok (.aload_n 0, 1) := by decide +kernel
theorem dX8_drawDays_2 : decode cX8_drawDays 2 = .ok (.invokevirtual 9, 3) := by decide +kernel
theorem dX8_drawDays_5 : decode cX8_drawDays 5 = .ok (.lload_n 2, 1) := by decide +kernel
theorem dX8_drawDays_6 : decode cX8_drawDays 6 = .ok (.lstore 4, 2) := by decide +kernel
theorem dX8_drawDays_8 : decode cX8_drawDays 8 = .ok (.iconst 0, 1) := by decide +kernel
theorem dX8_drawDays_9 : decode cX8_drawDays 9 = .ok (.istore 6, 2) := by decide +kernel
def FX8_drawDays_4_48_74   (f : Mm) : Option Mm := ((FX1_walk_48_4 f).bind fun f1 => some f1)
set_option maxHeartbeats 4000000 in
set_option maxRecDepth 100000 in
theorem SX8_drawDays_4_48_74 {G : GT} {l : Launch} {Q : Option AV → Mem → Prop}   (f : Mm) (h : OkV Q (FX8_drawDays_4_48_74   f)) : Ev G l MX8_drawDays (Rm 5 0 0) (ZM G Q 0 0) 0 0 74 [some (vR 4), some (vR 48), none, none, none, none, none] [] (SH, RF, f) := by
  unfold FX8_drawDays_4_48_74 at h
  refine ev_aload_n (i := 1) dX8_drawDays_74 rfl rfl ?_
  refine ev_aload_n (i := 0) dX8_drawDays_75 rfl rfl ?_
  refine ev_cVV (b := 48) (av := [vR 4]) (S := []) (fun q => q) h dX8_drawDays_76 (fun Q' q => TX1_walk_48_4 _ q) kvX1_walk ml_X8_55 sh_48 rfl (RRc (by decide) (by decide)) (Nat.le_of_ble_eq_true rfl) ⟨Nat.le_of_ble_eq_true rfl, Nat.le_of_ble_eq_true rfl⟩ (fun f1 h => ?_)
  exact ev_vret rfl dX8_drawDays_79 h
def FX8_drawDays_4_48_68 (k11 : Int → Int → Mm → Option Mm) (x4 : Int) (x6 : Int) (f : Mm) : Option Mm := k11 x4 (w32 (x6 + 1)) f
set_option maxHeartbeats 4000000 in
set_option maxRecDepth 100000 in
theorem SX8_drawDays_4_48_68 {G : GT} {l : Launch} {Q : Option AV → Mem → Prop} {k11 : Int → Int → Mm → Option Mm} (q11 : ∀ (x4 : Int) (x6 : Int) (f : Mm), OkV Q (k11 x4 x6 f) → Ev G l MX8_drawDays (Rm 5 0 0) (ZM G Q 0 0) 0 0 11 [some (vR 4), some (vR 48), none, none, some (vJ x4), none, some (vI x6)] [] (SH, RF, f)) (x4 : Int) (x6 : Int) (f : Mm) (h : OkV Q (FX8_drawDays_4_48_68 k11 x4 x6 f)) : Ev G l MX8_drawDays (Rm 5 0 0) (ZM G Q 0 0) 0 0 68 [some (vR 4), some (vR 48), none, none, some (vJ x4), none, some (vI x6)] [] (SH, RF, f) := by
  unfold FX8_drawDays_4_48_68 at h
  refine ev_iinc (L' := [some (vR 4), some (vR 48), none, none, some (vJ x4), none, some (vI (w32 (x6 + 1)))]) dX8_drawDays_68 rfl (by decide) rfl ?_
  refine ev_goto (tgt := 11) dX8_drawDays_71 (by decide) ?_
  exact q11 x4 (w32 (x6 + 1)) _ h
def FX8_drawDays_4_48_11  : Nat → Int → Int → Mm → Option Mm
  | 0, _, _, _ => none
  | n + 1, x4, x6, f => (if (f 4 1) ≤ x6 then FX8_drawDays_4_48_74 f else (if 0 ≤ (cmp3 (lRem (lDiv (lRem (w64 ((w64 (1103515245 * x4)) + 12345)) 2147483648) 65536) 10) (f 4 3)) then FX8_drawDays_4_48_68 (FX8_drawDays_4_48_11 n) (lRem (w64 ((w64 (1103515245 * x4)) + 12345)) 2147483648) x6 f else FX8_drawDays_4_48_68 (FX8_drawDays_4_48_11 n) (lRem (w64 ((w64 (1103515245 * x4)) + 12345)) 2147483648) x6 (up f 48 5 (bOr (f 48 5) (bShl 1 x6)))))
set_option maxHeartbeats 4000000 in
set_option maxRecDepth 100000 in
theorem SX8_drawDays_4_48_11 {G : GT} {l : Launch} {Q : Option AV → Mem → Prop}  : ∀ (n : Nat) (x4 : Int) (x6 : Int) (f : Mm), OkV Q (FX8_drawDays_4_48_11  n x4 x6 f) → Ev G l MX8_drawDays (Rm 5 0 0) (ZM G Q 0 0) 0 0 11 [some (vR 4), some (vR 48), none, none, some (vJ x4), none, some (vI x6)] [] (SH, RF, f) := by
  intro n
  induction n with
  | zero => intro x4 x6 f h; exact absurd h (by rw [FX8_drawDays_4_48_11]; exact fun q => q)
  | succ n ih =>
    intro x4 x6 f h
    rw [FX8_drawDays_4_48_11] at h
    refine ev_iload dX8_drawDays_11 rfl ?_
    refine ev_aload_n (i := 0) dX8_drawDays_13 rfl rfl ?_
    refine ex_getI (x := (f 4 1)) dX8_drawDays_14 fl_X8_42 sh_4 (by decide) (by decide) rfl ?_
    refine ev_icmp_ge (tgt := 74) dX8_drawDays_17 (by decide) (fun c2 => ?_) (fun c2 => ?_)
    · rw [if_pos c2] at h
      refine ev_fg [true, true, true, true, false, true, false] rfl ?_
      exact SX8_drawDays_4_48_74   _ h
    · rw [if_neg c2] at h
      refine ev_ldc2 (v := 1103515245) dX8_drawDays_20 (r64c rfl) kc_X8_45 ?_
      refine ev_lload dX8_drawDays_23 rfl ?_
      refine ev_lmul dX8_drawDays_25 ?_
      refine ev_ldc2 (v := 12345) dX8_drawDays_26 (r64c rfl) kc_X8_47 ?_
      refine ev_ladd dX8_drawDays_29 ?_
      refine ev_ldc2 (v := 2147483648) dX8_drawDays_30 (r64c rfl) kc_X8_49 ?_
      refine ev_lrem dX8_drawDays_33 (by decide) ?_
      refine ev_lstore (L' := [some (vR 4), some (vR 48), none, none, some (vJ (lRem (w64 ((w64 (1103515245 * x4)) + 12345)) 2147483648)), none, some (vI x6)]) dX8_drawDays_34 (by decide) rfl ?_
      refine ev_lload dX8_drawDays_36 rfl ?_
      refine ev_ldc2 (v := 65536) dX8_drawDays_38 (r64c rfl) kc_X8_51 ?_
      refine ev_ldiv dX8_drawDays_41 (by decide) ?_
      refine ev_ldc2 (v := 10) dX8_drawDays_42 (r64c rfl) kc_X8_53 ?_
      refine ev_lrem dX8_drawDays_45 (by decide) ?_
      refine ev_aload_n (i := 0) dX8_drawDays_46 rfl rfl ?_
      refine ex_getI (x := (f 4 3)) dX8_drawDays_47 fl_X8_37 sh_4 (by decide) (by decide) rfl ?_
      refine ev_i2l dX8_drawDays_50 ?_
      refine ev_lcmp dX8_drawDays_51 ?_
      refine ev_if_ge (tgt := 68) dX8_drawDays_52 (by decide) (fun c1 => ?_) (fun c1 => ?_)
      · rw [if_pos c1] at h
        exact SX8_drawDays_4_48_68 ih (lRem (w64 ((w64 (1103515245 * x4)) + 12345)) 2147483648) x6 _ h
      · rw [if_neg c1] at h
        refine ev_aload_n (i := 1) dX8_drawDays_55 rfl rfl ?_
        refine ev_dupR dX8_drawDays_56 ?_
        refine ex_getI (x := (f 48 5)) dX8_drawDays_57 fl_X8_15 sh_48 (by decide) (by decide) rfl ?_
        refine ev_iconst dX8_drawDays_60 (r32c rfl) ?_
        refine ev_iload dX8_drawDays_61 rfl ?_
        refine ev_ishl dX8_drawDays_63 ?_
        refine ev_ior dX8_drawDays_64 ?_
        refine ev_putI dX8_drawDays_65 fl_X8_15 sh_48 (by decide) (by decide) ?_
        exact SX8_drawDays_4_48_68 ih (lRem (w64 ((w64 (1103515245 * x4)) + 12345)) 2147483648) x6 _ h
def FX8_drawDays_4_48_0  (x2 : Int) (f : Mm) : Option Mm := ((FX1_asDone_48_4 f).bind fun f1 => FX8_drawDays_4_48_11 fu x2 0 f1)
set_option maxHeartbeats 4000000 in
set_option maxRecDepth 100000 in
theorem SX8_drawDays_4_48_0 {G : GT} {l : Launch} {Q : Option AV → Mem → Prop}  (x2 : Int) (f : Mm) (h : OkV Q (FX8_drawDays_4_48_0  x2 f)) : Ev G l MX8_drawDays (Rm 5 0 0) (ZM G Q 0 0) 0 0 0 [some (vR 4), some (vR 48), some (vJ x2), none, none, none, none] [] (SH, RF, f) := by
  unfold FX8_drawDays_4_48_0 at h
  refine ev_aload_n (i := 1) dX8_drawDays_0 rfl rfl ?_
  refine ev_aload_n (i := 0) dX8_drawDays_1 rfl rfl ?_
  refine ev_cVV (b := 48) (av := [vR 4]) (S := []) (fun q => q) h dX8_drawDays_2 (fun Q' q => TX1_asDone_48_4 _ q) kvX1_asDone ml_X8_9 sh_48 rfl (RRc (by decide) (by decide)) (Nat.le_of_ble_eq_true rfl) ⟨Nat.le_of_ble_eq_true rfl, Nat.le_of_ble_eq_true rfl⟩ (fun f1 h => ?_)
  refine ev_lload_n (i := 2) dX8_drawDays_5 rfl rfl ?_
  refine ev_lstore (L' := [some (vR 4), some (vR 48), some (vJ x2), none, some (vJ x2), none, none]) dX8_drawDays_6 (by decide) rfl ?_
  refine ev_iconst dX8_drawDays_8 (r32c rfl) ?_
  refine ev_istore (L' := [some (vR 4), some (vR 48), some (vJ x2), none, some (vJ x2), none, some (vI 0)]) dX8_drawDays_9 (by decide) rfl ?_
  refine ev_fg [true, true, false, true, true, true, true] rfl ?_
  exact SX8_drawDays_4_48_11  fu x2 0 _ h
def FX8_drawDays_4_48 (x2 : Int) (f : Mm) : Option Mm := FX8_drawDays_4_48_0 x2 f
set_option maxRecDepth 100000 in
theorem TX8_drawDays_4_48 {G : GT} {l : Launch} {Q : Option AV → Mem → Prop} (x2 : Int) (f : Mm) (h : OkV Q (FX8_drawDays_4_48 x2 f)) : Ret G l MX8_drawDays (5) 0 0 [vR 4, vR 48, vJ x2] (SH, RF, f) Q := by
  refine ret_of (L := [some (vR 4), some (vR 48), some (vJ x2), none, none, none, none]) (by decide) rfl (Nat.le_of_ble_eq_true rfl) ?_
  exact SX8_drawDays_4_48_0 x2 f h
theorem dX10_drawn_0 : decode cX10_drawn 0 = .ok (.aload_n 0, 1) := by decide +kernel
theorem dX10_drawn_1 : decode cX10_drawn 1 = .ok (.getfield 19, 3) := by decide +kernel
theorem dX10_drawn_4 : decode cX10_drawn 4 = .ok (.invokevirtual 140, 3) := by decide +kernel
theorem dX10_drawn_7 : decode cX10_drawn 7 = .ok (.ifCond .eq 19, 3) := by decide +kernel
theorem dX10_drawn_26 : decode cX10_drawn 26 = .ok (.bipush (-2), 2) := by decide +kernel
theorem dX10_drawn_28 : decode cX10_drawn 28 = .ok (.ireturn, 1) := by decide +kernel
theorem dX10_drawn_10 : decode cX10_drawn 10 = .ok (.iload_n 1, 1) := by decide +kernel
theorem dX10_drawn_11 : decode cX10_drawn 11 = .ok (.invokestatic 355, 3) := by decide +kernel
theorem dX10_drawn_14 : decode cX10_drawn 14 = .ok (.ifCond .eq 12, 3) := by decide +kernel
theorem dX10_drawn_17 : decode cX10_drawn 17 = .ok (.iload_n 2, 1) := by decide +kernel
theorem dX10_drawn_18 : decode cX10_drawn 18 = .ok (.ifCond .lt 8, 3) := by decide +kernel
theorem dX10_drawn_21 : decode cX10_drawn 21 = .ok (.iload_n 2, 1) := by decide +kernel
theorem dX10_drawn_22 : decode cX10_drawn 22 = .ok (.iconst 2, 1) := by decide +kernel
theorem dX10_drawn_23 : decode cX10_drawn 23 = .ok (.if_icmp .le 6, 3) := by decide +kernel
theorem dX10_drawn_29 : decode cX10_drawn 29 = .ok (.aload_n 0, 1) := by decide +kernel
theorem dX10_drawn_30 : decode cX10_drawn 30 = .ok (.getfield 19, 3) := by decide +kernel
theorem dX10_drawn_33 : decode cX10_drawn 33 = .ok (.aload_n 0, 1) := by decide +kernel
theorem dX10_drawn_34 : decode cX10_drawn 34 = .ok (.getfield 44, 3) := by decide +kernel
theorem dX10_drawn_37 : decode cX10_drawn 37 = .ok (.iload_n 1, 1) := by decide +kernel
theorem dX10_drawn_38 : decode cX10_drawn 38 = .ok (.i2l, 1) := by decide +kernel
theorem dX10_drawn_39 : decode cX10_drawn 39 = .ok (.invokestatic 358, 3) := by decide +kernel
theorem dX10_drawn_42 : decode cX10_drawn 42 = .ok (.iload_n 2, 1) := by decide +kernel
theorem dX10_drawn_43 : decode cX10_drawn 43 = .ok (.ifCond .ne 11, 3) := by decide +kernel
theorem dX10_drawn_54 : decode cX10_drawn 54 = .ok (.iload_n 2, 1) := by decide +kernel
theorem dX10_drawn_55 : decode cX10_drawn 55 = .ok (.iconst 1, 1) := by decide +kernel
theorem dX10_drawn_56 : decode cX10_drawn 56 = .ok (.if_icmp .ne 22, 3) := by decide +kernel
theorem dX10_drawn_78 : decode cX10_drawn 78 = .ok (.aload_n 0, 1) := by decide +kernel
theorem dX10_drawn_79 : decode cX10_drawn 79 = .ok (.getfield 44, 3) := by decide +kernel
theorem dX10_drawn_82 : decode cX10_drawn 82 = .ok (.aload_n 0, 1) := by decide +kernel
theorem dX10_drawn_83 : decode cX10_drawn 83 = .ok (.getfield 19, 3) := by decide +kernel
theorem dX10_drawn_86 : decode cX10_drawn 86 = .ok (.invokevirtual 172, 3) := by decide +kernel
theorem dX10_drawn_89 : decode cX10_drawn 89 = .ok (.ireturn, 1) := by decide +kernel
theorem dX10_drawn_59 : decode cX10_drawn 59 = .ok (.aload_n 0, 1) := by decide +kernel
theorem dX10_drawn_60 : decode cX10_drawn 60 = .ok (.getfield 44, 3) := by decide +kernel
theorem dX10_drawn_63 : decode cX10_drawn 63 = .ok (.aload_n 0, 1) := by decide +kernel
theorem dX10_drawn_64 : decode cX10_drawn 64 = .ok (.getfield 19, 3) := by decide +kernel
theorem dX10_drawn_67 : decode cX10_drawn 67 = .ok (.getfield 144, 3) := by decide +kernel
theorem dX10_drawn_70 : decode cX10_drawn 70 = .ok (.iconst 1, 1) := by decide +kernel
theorem dX10_drawn_71 : decode cX10_drawn 71 = .ok (.isub, 1) := by decide +kernel
theorem dX10_drawn_72 : decode cX10_drawn 72 = .ok (.invokevirtual 136, 3) := by decide +kernel
theorem dX10_drawn_75 : decode cX10_drawn 75 = .ok (.goto 14, 3) := by decide +kernel
theorem dX10_drawn_46 : decode cX10_drawn 46 = .ok (.aload_n 0, 1) := by decide +kernel
theorem dX10_drawn_47 : decode cX10_drawn 47 = .ok (.getfield 44, 3) := by decide +kernel
theorem dX10_drawn_50 : decode cX10_drawn 50 = .ok (.getfield 362, 3) := by decide +kernel
theorem dX10_drawn_53 : decode cX10_drawn 53 = .ok (.ireturn, 1) := by decide +kernel
def FX10_drawn_0  (x1 : Int) (x2 : Int) (f : Mm) : Option (Int × Mm) := (b2 (FX0_stands_4 f) fun y1 f1 => (if y1 = 0 then some ((-2), f1) else (b2 (FX10_isSeed x1 f1) fun y2 f2 => (if y2 = 0 then some ((-2), f2) else (if x2 < 0 then some ((-2), f2) else (if x2 ≤ 2 then ((FX8_drawDays_4_48 x1 f2).bind fun f3 => (if x2 = 0 then some ((f3 48 5), f3) else (if x2 = 1 then (b2 (FX1_widthOn (w32 ((f3 4 1) - 1)) f3) fun y5 f5 => some (y5, f5)) else (b2 (FX1_passedBits_48_4 f3) fun y4 f4 => some (y4, f4))))) else some ((-2), f2)))))))
set_option maxHeartbeats 4000000 in
set_option maxRecDepth 100000 in
theorem SX10_drawn_0 {G : GT} {l : Launch} {Q : Option AV → Mem → Prop}  (x1 : Int) (x2 : Int) (f : Mm) (h : OkI Q (FX10_drawn_0  x1 x2 f)) : Ev G l MX10_drawn (Rm 6 0 0) (ZM G Q 0 0) 0 0 0 [some (vR 0), some (vI x1), some (vI x2)] [] (SH, RF, f) := by
  unfold FX10_drawn_0 at h
  refine ev_aload_n (i := 0) dX10_drawn_0 rfl rfl ?_
  refine ev_getR dX10_drawn_1 fl_X10_19 sh_0 (by decide) (by decide) rf_0_1 ?_
  refine ev_cVI (b := 4) (av := []) (S := []) (fun q => q) h dX10_drawn_4 (fun Q' q => TX0_stands_4 _ q) kvX0_stands ml_X10_140 sh_4 rfl (RRc (by decide) (by decide)) (Nat.le_of_ble_eq_true rfl) ⟨Nat.le_of_ble_eq_true rfl, Nat.le_of_ble_eq_true rfl⟩ (fun y1 f1 h => ?_)
  refine ev_if_eq (tgt := 26) dX10_drawn_7 (by decide) (fun c11 => ?_) (fun c11 => ?_)
  · rw [if_pos c11] at h
    refine ev_bipush (v := (-2)) dX10_drawn_26 (r32c rfl) (by decide) ?_
    exact ev_iret rfl dX10_drawn_28 h
  · rw [if_neg c11] at h
    refine ev_iload_n (i := 1) dX10_drawn_10 rfl rfl ?_
    refine ev_cSI (av := [vI x1]) (S := []) (fun q => q) h dX10_drawn_11 (fun Q' q => TX10_isSeed x1 _ q) ksX10_isSeed ml_X10_355 rfl (RRc (by decide) (by decide)) (Nat.le_of_ble_eq_true rfl) ⟨Nat.le_of_ble_eq_true rfl, Nat.le_of_ble_eq_true rfl⟩ (fun y2 f2 h => ?_)
    refine ev_if_eq (tgt := 26) dX10_drawn_14 (by decide) (fun c10 => ?_) (fun c10 => ?_)
    · rw [if_pos c10] at h
      refine ev_bipush (v := (-2)) dX10_drawn_26 (r32c rfl) (by decide) ?_
      exact ev_iret rfl dX10_drawn_28 h
    · rw [if_neg c10] at h
      refine ev_iload_n (i := 2) dX10_drawn_17 rfl rfl ?_
      refine ev_if_lt (tgt := 26) dX10_drawn_18 (by decide) (fun c9 => ?_) (fun c9 => ?_)
      · rw [if_pos c9] at h
        refine ev_bipush (v := (-2)) dX10_drawn_26 (r32c rfl) (by decide) ?_
        exact ev_iret rfl dX10_drawn_28 h
      · rw [if_neg c9] at h
        refine ev_iload_n (i := 2) dX10_drawn_21 rfl rfl ?_
        refine ev_iconst dX10_drawn_22 (r32c rfl) ?_
        refine ev_icmp_le (tgt := 29) dX10_drawn_23 (by decide) (fun c8 => ?_) (fun c8 => ?_)
        · rw [if_pos c8] at h
          refine ev_aload_n (i := 0) dX10_drawn_29 rfl rfl ?_
          refine ev_getR dX10_drawn_30 fl_X10_19 sh_0 (by decide) (by decide) rf_0_1 ?_
          refine ev_aload_n (i := 0) dX10_drawn_33 rfl rfl ?_
          refine ev_getR dX10_drawn_34 fl_X10_44 sh_0 (by decide) (by decide) rf_0_6 ?_
          refine ev_iload_n (i := 1) dX10_drawn_37 rfl rfl ?_
          refine ev_i2l dX10_drawn_38 ?_
          refine ev_cSV (av := [vR 4, vR 48, vJ x1]) (S := []) (fun q => q) h dX10_drawn_39 (fun Q' q => TX8_drawDays_4_48 x1 _ q) ksX8_drawDays ml_X10_358 rfl (RRc (by decide) (by decide)) (Nat.le_of_ble_eq_true rfl) ⟨Nat.le_of_ble_eq_true rfl, Nat.le_of_ble_eq_true rfl⟩ (fun f3 h => ?_)
          refine ev_iload_n (i := 2) dX10_drawn_42 rfl rfl ?_
          refine ev_if_ne (tgt := 54) dX10_drawn_43 (by decide) (fun c7 => ?_) (fun c7 => ?_)
          · rw [if_neg c7] at h
            refine ev_iload_n (i := 2) dX10_drawn_54 rfl rfl ?_
            refine ev_iconst dX10_drawn_55 (r32c rfl) ?_
            refine ev_icmp_ne (tgt := 78) dX10_drawn_56 (by decide) (fun c6 => ?_) (fun c6 => ?_)
            · rw [if_neg c6] at h
              refine ev_aload_n (i := 0) dX10_drawn_78 rfl rfl ?_
              refine ev_getR dX10_drawn_79 fl_X10_44 sh_0 (by decide) (by decide) rf_0_6 ?_
              refine ev_aload_n (i := 0) dX10_drawn_82 rfl rfl ?_
              refine ev_getR dX10_drawn_83 fl_X10_19 sh_0 (by decide) (by decide) rf_0_1 ?_
              refine ev_cVI (b := 48) (av := [vR 4]) (S := []) (fun q => q) h dX10_drawn_86 (fun Q' q => TX1_passedBits_48_4 _ q) kvX1_passedBits ml_X10_172 sh_48 rfl (RRc (by decide) (by decide)) (Nat.le_of_ble_eq_true rfl) ⟨Nat.le_of_ble_eq_true rfl, Nat.le_of_ble_eq_true rfl⟩ (fun y4 f4 h => ?_)
              exact ev_iret rfl dX10_drawn_89 h
            · rw [if_pos c6] at h
              refine ev_aload_n (i := 0) dX10_drawn_59 rfl rfl ?_
              refine ev_getR dX10_drawn_60 fl_X10_44 sh_0 (by decide) (by decide) rf_0_6 ?_
              refine ev_aload_n (i := 0) dX10_drawn_63 rfl rfl ?_
              refine ev_getR dX10_drawn_64 fl_X10_19 sh_0 (by decide) (by decide) rf_0_1 ?_
              refine ex_getI (x := (f3 4 1)) dX10_drawn_67 fl_X10_144 sh_4 (by decide) (by decide) rfl ?_
              refine ev_iconst dX10_drawn_70 (r32c rfl) ?_
              refine ev_isub dX10_drawn_71 ?_
              refine ev_cVI (b := 48) (av := [vI (w32 ((f3 4 1) - 1))]) (S := []) (fun q => q) h dX10_drawn_72 (fun Q' q => TX1_widthOn (w32 ((f3 4 1) - 1)) _ q) kvX1_widthOn ml_X10_136 sh_48 rfl (RRc (by decide) (by decide)) (Nat.le_of_ble_eq_true rfl) ⟨Nat.le_of_ble_eq_true rfl, Nat.le_of_ble_eq_true rfl⟩ (fun y5 f5 h => ?_)
              refine ev_goto (tgt := 89) dX10_drawn_75 (by decide) ?_
              exact ev_iret rfl dX10_drawn_89 h
          · rw [if_pos c7] at h
            refine ev_aload_n (i := 0) dX10_drawn_46 rfl rfl ?_
            refine ev_getR dX10_drawn_47 fl_X10_44 sh_0 (by decide) (by decide) rf_0_6 ?_
            refine ex_getI (x := (f3 48 5)) dX10_drawn_50 fl_X10_362 sh_48 (by decide) (by decide) rfl ?_
            exact ev_iret rfl dX10_drawn_53 h
        · rw [if_neg c8] at h
          refine ev_bipush (v := (-2)) dX10_drawn_26 (r32c rfl) (by decide) ?_
          exact ev_iret rfl dX10_drawn_28 h
def FX10_drawn (x1 : Int) (x2 : Int) (f : Mm) : Option (Int × Mm) := FX10_drawn_0 x1 x2 f
set_option maxRecDepth 100000 in
theorem TX10_drawn {G : GT} {l : Launch} {Q : Option AV → Mem → Prop} (x1 : Int) (x2 : Int) (f : Mm) (h : OkI Q (FX10_drawn x1 x2 f)) : Ret G l MX10_drawn (6) 0 0 [vR 0, vI x1, vI x2] (SH, RF, f) Q := by
  refine ret_of (L := [some (vR 0), some (vI x1), some (vI x2)]) (by decide) rfl (Nat.le_of_ble_eq_true rfl) ?_
  exact SX10_drawn_0 x1 x2 f h
theorem dX10_luck_82 : decode cX10_luck 82 = .ok (.iinc 5 1, 3) := by decide +kernel
theorem dX10_luck_85 : decode cX10_luck 85 = .ok (.goto (-47), 3) := by decide +kernel
theorem dX10_luck_38 : decode cX10_luck 38 = .ok (.iload 5, 2) := by decide +kernel
theorem dX10_luck_40 : decode cX10_luck 40 = .ok (.iload_n 2, 1) := by decide +kernel
theorem dX10_luck_41 : decode cX10_luck 41 = .ok (.if_icmp .ge 47, 3) := by decide +kernel
theorem dX10_luck_88 : decode cX10_luck 88 = .ok (.iload 4, 2) := by decide +kernel
theorem dX10_luck_90 : decode cX10_luck 90 = .ok (.ireturn, 1) := by decide +kernel
theorem dX10_luck_44 : decode cX10_luck 44 = .ok (.aload_n 0, 1) := by decide +kernel
theorem dX10_luck_45 : decode cX10_luck 45 = .ok (.getfield 19, 3) := by decide +kernel
theorem dX10_luck_48 : decode cX10_luck 48 = .ok (.aload_n 0, 1) := by decide +kernel
theorem dX10_luck_49 : decode cX10_luck 49 = .ok (.getfield 44, 3) := by decide +kernel
theorem dX10_luck_52 : decode cX10_luck 52 = .ok (.iload_n 1, 1) := by decide +kernel
theorem dX10_luck_53 : decode cX10_luck 53 = .ok (.i2l, 1) := by decide +kernel
theorem dX10_luck_54 : decode cX10_luck 54 = .ok (.iload 5, 2) := by decide +kernel
theorem dX10_luck_56 : decode cX10_luck 56 = .ok (.i2l, 1) := by decide +kernel
theorem dX10_luck_57 : decode cX10_luck 57 = .ok (.ladd, 1) := by decide +kernel
theorem dX10_luck_58 : decode cX10_luck 58 = .ok (.invokestatic 358, 3) := by decide +kernel
theorem dX10_luck_61 : decode cX10_luck 61 = .ok (.aload_n 0, 1) := by decide +kernel
theorem dX10_luck_62 : decode cX10_luck 62 = .ok (.getfield 44, 3) := by decide +kernel
theorem dX10_luck_65 : decode cX10_luck 65 = .ok (.aload_n 0, 1) := by decide +kernel
theorem dX10_luck_66 : decode cX10_luck 66 = .ok (.getfield 19, 3) := by decide +kernel
theorem dX10_luck_69 : decode cX10_luck 69 = .ok (.invokevirtual 176, 3) := by decide +kernel
theorem dX10_luck_72 : decode cX10_luck 72 = .ok (.iload_n 3, 1) := by decide +kernel
theorem dX10_luck_73 : decode cX10_luck 73 = .ok (.invokestatic 164, 3) := by decide +kernel
theorem dX10_luck_76 : decode cX10_luck 76 = .ok (.ifCond .eq 6, 3) := by decide +kernel
theorem dX10_luck_79 : decode cX10_luck 79 = .ok (.iinc 4 1, 3) := by decide +kernel
theorem dX10_luck_0 : decode cX10_luck 0 = .ok (.aload_n 0, 1) := by decide +kernel
theorem dX10_luck_1 : decode cX10_luck 1 = .ok (.getfield 19, 3) := by decide +kernel
theorem dX10_luck_4 : decode cX10_luck 4 = .ok (.iload_n 3, 1) := by decide +kernel
theorem dX10_luck_5 : decode cX10_luck 5 = .ok (.invokevirtual 117, 3) := by decide +kernel
theorem dX10_luck_8 : decode cX10_luck 8 = .ok (.ifCond .eq 21, 3) := by decide +kernel
theorem dX10_luck_29 : decode cX10_luck 29 = .ok (.bipush (-2), 2) := by decide +kernel
theorem dX10_luck_31 : decode cX10_luck 31 = .ok (.ireturn, 1) := by decide +kernel
theorem dX10_luck_11 : decode cX10_luck 11 = .ok (.iload_n 1, 1) := by decide +kernel
theorem dX10_luck_12 : decode cX10_luck 12 = .ok (.invokestatic 355, 3) := by decide +kernel
theorem dX10_luck_15 : decode cX10_luck 15 = .ok (.ifCond .eq 14, 3) := by decide +kernel
theorem dX10_luck_18 : decode cX10_luck 18 = .ok (.iload_n 2, 1) := by decide +kernel
theorem dX10_luck_19 : decode cX10_luck 19 = .ok (.iconst 1, 1) := by decide +kernel
theorem dX10_luck_20 : decode cX10_luck 20 = .ok (.if_icmp .lt 9, 3) := by decide +kernel
theorem dX10_luck_23 : decode cX10_luck 23 = .ok (.iload_n 2, 1) := by decide +kernel
theorem dX10_luck_24 : decode cX10_luck 24 = .ok (.bipush 20, 2) := by decide +kernel
theorem dX10_luck_26 : decode cX10_luck 26 = .ok (.if_icmp .le 6, 3) := by decide +kernel
theorem dX10_luck_32 : decode cX10_luck 32 = .ok (.iconst 0, 1) := by decide +kernel
theorem dX10_luck_33 : decode cX10_luck 33 = .ok (.istore 4, 2) := by decide +kernel
theorem dX10_luck_35 : decode cX10_luck 35 = .ok (.iconst 0, 1) := by decide +kernel
theorem dX10_luck_36 : decode cX10_luck 36 = .ok (.istore 5, 2) := by decide +kernel
def FX10_luck_82 (k38 : Int → Int → Int → Int → Int → Mm → Option (Int × Mm)) (x1 : Int) (x2 : Int) (x3 : Int) (x4 : Int) (x5 : Int) (f : Mm) : Option (Int × Mm) := k38 x1 x2 x3 x4 (w32 (x5 + 1)) f
set_option maxHeartbeats 4000000 in
set_option maxRecDepth 100000 in
theorem SX10_luck_82 {G : GT} {l : Launch} {Q : Option AV → Mem → Prop} {k38 : Int → Int → Int → Int → Int → Mm → Option (Int × Mm)} (q38 : ∀ (x1 : Int) (x2 : Int) (x3 : Int) (x4 : Int) (x5 : Int) (f : Mm), OkI Q (k38 x1 x2 x3 x4 x5 f) → Ev G l MX10_luck (Rm 6 0 0) (ZM G Q 0 0) 0 0 38 [some (vR 0), some (vI x1), some (vI x2), some (vI x3), some (vI x4), some (vI x5)] [] (SH, RF, f)) (x1 : Int) (x2 : Int) (x3 : Int) (x4 : Int) (x5 : Int) (f : Mm) (h : OkI Q (FX10_luck_82 k38 x1 x2 x3 x4 x5 f)) : Ev G l MX10_luck (Rm 6 0 0) (ZM G Q 0 0) 0 0 82 [some (vR 0), some (vI x1), some (vI x2), some (vI x3), some (vI x4), some (vI x5)] [] (SH, RF, f) := by
  unfold FX10_luck_82 at h
  refine ev_iinc (L' := [some (vR 0), some (vI x1), some (vI x2), some (vI x3), some (vI x4), some (vI (w32 (x5 + 1)))]) dX10_luck_82 rfl (by decide) rfl ?_
  refine ev_goto (tgt := 38) dX10_luck_85 (by decide) ?_
  exact q38 x1 x2 x3 x4 (w32 (x5 + 1)) _ h
def FX10_luck_38  : Nat → Int → Int → Int → Int → Int → Mm → Option (Int × Mm)
  | 0, _, _, _, _, _, _ => none
  | n + 1, x1, x2, x3, x4, x5, f => (if x2 ≤ x5 then some (x4, f) else ((FX8_drawDays_4_48 (w64 (x1 + x5)) f).bind fun f1 => (b2 (FX1_keptBits_48_4 f1) fun y2 f2 => (b2 (FX10_holds y2 x3 f2) fun y3 f3 => (if y3 = 0 then FX10_luck_82 (FX10_luck_38 n) x1 x2 x3 x4 x5 f3 else FX10_luck_82 (FX10_luck_38 n) x1 x2 x3 (w32 (x4 + 1)) x5 f3)))))
set_option maxHeartbeats 4000000 in
set_option maxRecDepth 100000 in
theorem SX10_luck_38 {G : GT} {l : Launch} {Q : Option AV → Mem → Prop}  : ∀ (n : Nat) (x1 : Int) (x2 : Int) (x3 : Int) (x4 : Int) (x5 : Int) (f : Mm), OkI Q (FX10_luck_38  n x1 x2 x3 x4 x5 f) → Ev G l MX10_luck (Rm 6 0 0) (ZM G Q 0 0) 0 0 38 [some (vR 0), some (vI x1), some (vI x2), some (vI x3), some (vI x4), some (vI x5)] [] (SH, RF, f) := by
  intro n
  induction n with
  | zero => intro x1 x2 x3 x4 x5 f h; exact absurd h (by rw [FX10_luck_38]; exact fun q => q)
  | succ n ih =>
    intro x1 x2 x3 x4 x5 f h
    rw [FX10_luck_38] at h
    refine ev_iload dX10_luck_38 rfl ?_
    refine ev_iload_n (i := 2) dX10_luck_40 rfl rfl ?_
    refine ev_icmp_ge (tgt := 88) dX10_luck_41 (by decide) (fun c5 => ?_) (fun c5 => ?_)
    · rw [if_pos c5] at h
      refine ev_iload dX10_luck_88 rfl ?_
      exact ev_iret rfl dX10_luck_90 h
    · rw [if_neg c5] at h
      refine ev_aload_n (i := 0) dX10_luck_44 rfl rfl ?_
      refine ev_getR dX10_luck_45 fl_X10_19 sh_0 (by decide) (by decide) rf_0_1 ?_
      refine ev_aload_n (i := 0) dX10_luck_48 rfl rfl ?_
      refine ev_getR dX10_luck_49 fl_X10_44 sh_0 (by decide) (by decide) rf_0_6 ?_
      refine ev_iload_n (i := 1) dX10_luck_52 rfl rfl ?_
      refine ev_i2l dX10_luck_53 ?_
      refine ev_iload dX10_luck_54 rfl ?_
      refine ev_i2l dX10_luck_56 ?_
      refine ev_ladd dX10_luck_57 ?_
      refine ev_cSV (av := [vR 4, vR 48, vJ (w64 (x1 + x5))]) (S := []) (fun q => q) h dX10_luck_58 (fun Q' q => TX8_drawDays_4_48 (w64 (x1 + x5)) _ q) ksX8_drawDays ml_X10_358 rfl (RRc (by decide) (by decide)) (Nat.le_of_ble_eq_true rfl) ⟨Nat.le_of_ble_eq_true rfl, Nat.le_of_ble_eq_true rfl⟩ (fun f1 h => ?_)
      refine ev_aload_n (i := 0) dX10_luck_61 rfl rfl ?_
      refine ev_getR dX10_luck_62 fl_X10_44 sh_0 (by decide) (by decide) rf_0_6 ?_
      refine ev_aload_n (i := 0) dX10_luck_65 rfl rfl ?_
      refine ev_getR dX10_luck_66 fl_X10_19 sh_0 (by decide) (by decide) rf_0_1 ?_
      refine ev_cVI (b := 48) (av := [vR 4]) (S := []) (fun q => q) h dX10_luck_69 (fun Q' q => TX1_keptBits_48_4 _ q) kvX1_keptBits ml_X10_176 sh_48 rfl (RRc (by decide) (by decide)) (Nat.le_of_ble_eq_true rfl) ⟨Nat.le_of_ble_eq_true rfl, Nat.le_of_ble_eq_true rfl⟩ (fun y2 f2 h => ?_)
      refine ev_iload_n (i := 3) dX10_luck_72 rfl rfl ?_
      refine ev_cSI (av := [vI y2, vI x3]) (S := []) (fun q => q) h dX10_luck_73 (fun Q' q => TX10_holds y2 x3 _ q) ksX10_holds ml_X10_164 rfl (RRc (by decide) (by decide)) (Nat.le_of_ble_eq_true rfl) ⟨Nat.le_of_ble_eq_true rfl, Nat.le_of_ble_eq_true rfl⟩ (fun y3 f3 h => ?_)
      refine ev_if_eq (tgt := 82) dX10_luck_76 (by decide) (fun c4 => ?_) (fun c4 => ?_)
      · rw [if_pos c4] at h
        exact SX10_luck_82 ih x1 x2 x3 x4 x5 _ h
      · rw [if_neg c4] at h
        refine ev_iinc (L' := [some (vR 0), some (vI x1), some (vI x2), some (vI x3), some (vI (w32 (x4 + 1))), some (vI x5)]) dX10_luck_79 rfl (by decide) rfl ?_
        exact SX10_luck_82 ih x1 x2 x3 (w32 (x4 + 1)) x5 _ h
def FX10_luck_0  (x1 : Int) (x2 : Int) (x3 : Int) (f : Mm) : Option (Int × Mm) := (b2 (FX0_hasCart_4 x3 f) fun y1 f1 => (if y1 = 0 then some ((-2), f1) else (b2 (FX10_isSeed x1 f1) fun y2 f2 => (if y2 = 0 then some ((-2), f2) else (if x2 < 1 then some ((-2), f2) else (if x2 ≤ 20 then FX10_luck_38 fu x1 x2 x3 0 0 f2 else some ((-2), f2)))))))
set_option maxHeartbeats 4000000 in
set_option maxRecDepth 100000 in
theorem SX10_luck_0 {G : GT} {l : Launch} {Q : Option AV → Mem → Prop}  (x1 : Int) (x2 : Int) (x3 : Int) (f : Mm) (h : OkI Q (FX10_luck_0  x1 x2 x3 f)) : Ev G l MX10_luck (Rm 6 0 0) (ZM G Q 0 0) 0 0 0 [some (vR 0), some (vI x1), some (vI x2), some (vI x3), none, none] [] (SH, RF, f) := by
  unfold FX10_luck_0 at h
  refine ev_aload_n (i := 0) dX10_luck_0 rfl rfl ?_
  refine ev_getR dX10_luck_1 fl_X10_19 sh_0 (by decide) (by decide) rf_0_1 ?_
  refine ev_iload_n (i := 3) dX10_luck_4 rfl rfl ?_
  refine ev_cVI (b := 4) (av := [vI x3]) (S := []) (fun q => q) h dX10_luck_5 (fun Q' q => TX0_hasCart_4 x3 _ q) kvX0_hasCart ml_X10_117 sh_4 rfl (RRc (by decide) (by decide)) (Nat.le_of_ble_eq_true rfl) ⟨Nat.le_of_ble_eq_true rfl, Nat.le_of_ble_eq_true rfl⟩ (fun y1 f1 h => ?_)
  refine ev_if_eq (tgt := 29) dX10_luck_8 (by decide) (fun c6 => ?_) (fun c6 => ?_)
  · rw [if_pos c6] at h
    refine ev_bipush (v := (-2)) dX10_luck_29 (r32c rfl) (by decide) ?_
    exact ev_iret rfl dX10_luck_31 h
  · rw [if_neg c6] at h
    refine ev_iload_n (i := 1) dX10_luck_11 rfl rfl ?_
    refine ev_cSI (av := [vI x1]) (S := []) (fun q => q) h dX10_luck_12 (fun Q' q => TX10_isSeed x1 _ q) ksX10_isSeed ml_X10_355 rfl (RRc (by decide) (by decide)) (Nat.le_of_ble_eq_true rfl) ⟨Nat.le_of_ble_eq_true rfl, Nat.le_of_ble_eq_true rfl⟩ (fun y2 f2 h => ?_)
    refine ev_if_eq (tgt := 29) dX10_luck_15 (by decide) (fun c5 => ?_) (fun c5 => ?_)
    · rw [if_pos c5] at h
      refine ev_bipush (v := (-2)) dX10_luck_29 (r32c rfl) (by decide) ?_
      exact ev_iret rfl dX10_luck_31 h
    · rw [if_neg c5] at h
      refine ev_iload_n (i := 2) dX10_luck_18 rfl rfl ?_
      refine ev_iconst dX10_luck_19 (r32c rfl) ?_
      refine ev_icmp_lt (tgt := 29) dX10_luck_20 (by decide) (fun c4 => ?_) (fun c4 => ?_)
      · rw [if_pos c4] at h
        refine ev_bipush (v := (-2)) dX10_luck_29 (r32c rfl) (by decide) ?_
        exact ev_iret rfl dX10_luck_31 h
      · rw [if_neg c4] at h
        refine ev_iload_n (i := 2) dX10_luck_23 rfl rfl ?_
        refine ev_bipush (v := 20) dX10_luck_24 (r32c rfl) (by decide) ?_
        refine ev_icmp_le (tgt := 32) dX10_luck_26 (by decide) (fun c3 => ?_) (fun c3 => ?_)
        · rw [if_pos c3] at h
          refine ev_iconst dX10_luck_32 (r32c rfl) ?_
          refine ev_istore (L' := [some (vR 0), some (vI x1), some (vI x2), some (vI x3), some (vI 0), none]) dX10_luck_33 (by decide) rfl ?_
          refine ev_iconst dX10_luck_35 (r32c rfl) ?_
          refine ev_istore (L' := [some (vR 0), some (vI x1), some (vI x2), some (vI x3), some (vI 0), some (vI 0)]) dX10_luck_36 (by decide) rfl ?_
          exact SX10_luck_38  fu x1 x2 x3 0 0 _ h
        · rw [if_neg c3] at h
          refine ev_bipush (v := (-2)) dX10_luck_29 (r32c rfl) (by decide) ?_
          exact ev_iret rfl dX10_luck_31 h
def FX10_luck (x1 : Int) (x2 : Int) (x3 : Int) (f : Mm) : Option (Int × Mm) := FX10_luck_0 x1 x2 x3 f
set_option maxRecDepth 100000 in
theorem TX10_luck {G : GT} {l : Launch} {Q : Option AV → Mem → Prop} (x1 : Int) (x2 : Int) (x3 : Int) (f : Mm) (h : OkI Q (FX10_luck x1 x2 x3 f)) : Ret G l MX10_luck (6) 0 0 [vR 0, vI x1, vI x2, vI x3] (SH, RF, f) Q := by
  refine ret_of (L := [some (vR 0), some (vI x1), some (vI x2), some (vI x3), none, none]) (by decide) rfl (Nat.le_of_ble_eq_true rfl) ?_
  exact SX10_luck_0 x1 x2 x3 f h
theorem dX0_act_0 : decode cX0_act 0 = .ok (.aload_n 0, 1) := by decide +kernel
theorem dX0_act_1 : decode cX0_act 1 = .ok (.iload_n 1, 1) := by decide +kernel
theorem dX0_act_2 : decode cX0_act 2 = .ok (.invokevirtual 85, 3) := by decide +kernel
theorem dX0_act_5 : decode cX0_act 5 = .ok (.ifCond .eq 12, 3) := by decide +kernel
theorem dX0_act_17 : decode cX0_act 17 = .ok (.iconst (-1), 1) := by decide +kernel
theorem dX0_act_18 : decode cX0_act 18 = .ok (.ireturn, 1) := by decide +kernel
theorem dX0_act_8 : decode cX0_act 8 = .ok (.aload_n 0, 1) := by decide +kernel
theorem dX0_act_9 : decode cX0_act 9 = .ok (.getfield 54, 3) := by decide +kernel
theorem dX0_act_12 : decode cX0_act 12 = .ok (.bipush 40, 2) := by decide +kernel
theorem dX0_act_14 : decode cX0_act 14 = .ok (.if_icmp .lt 5, 3) := by decide +kernel
theorem dX0_act_19 : decode cX0_act 19 = .ok (.aload_n 0, 1) := by decide +kernel
theorem dX0_act_20 : decode cX0_act 20 = .ok (.getfield 23, 3) := by decide +kernel
theorem dX0_act_23 : decode cX0_act 23 = .ok (.iload_n 1, 1) := by decide +kernel
theorem dX0_act_24 : decode cX0_act 24 = .ok (.iaload, 1) := by decide +kernel
theorem dX0_act_25 : decode cX0_act 25 = .ok (.istore_n 3, 1) := by decide +kernel
theorem dX0_act_26 : decode cX0_act 26 = .ok (.aload_n 0, 1) := by decide +kernel
theorem dX0_act_27 : decode cX0_act 27 = .ok (.getfield 26, 3) := by decide +kernel
theorem dX0_act_30 : decode cX0_act 30 = .ok (.aload_n 0, 1) := by decide +kernel
theorem dX0_act_31 : decode cX0_act 31 = .ok (.getfield 54, 3) := by decide +kernel
theorem dX0_act_34 : decode cX0_act 34 = .ok (.iload_n 1, 1) := by decide +kernel
theorem dX0_act_35 : decode cX0_act 35 = .ok (.iastore, 1) := by decide +kernel
theorem dX0_act_36 : decode cX0_act 36 = .ok (.aload_n 0, 1) := by decide +kernel
theorem dX0_act_37 : decode cX0_act 37 = .ok (.getfield 29, 3) := by decide +kernel
theorem dX0_act_40 : decode cX0_act 40 = .ok (.aload_n 0, 1) := by decide +kernel
theorem dX0_act_41 : decode cX0_act 41 = .ok (.getfield 54, 3) := by decide +kernel
theorem dX0_act_44 : decode cX0_act 44 = .ok (.iload_n 3, 1) := by decide +kernel
theorem dX0_act_45 : decode cX0_act 45 = .ok (.iastore, 1) := by decide +kernel
theorem dX0_act_46 : decode cX0_act 46 = .ok (.aload_n 0, 1) := by decide +kernel
theorem dX0_act_47 : decode cX0_act 47 = .ok (.dup, 1) := by decide +kernel
theorem dX0_act_48 : decode cX0_act 48 = .ok (.getfield 54, 3) := by decide +kernel
theorem dX0_act_51 : decode cX0_act 51 = .ok (.iconst 1, 1) := by decide +kernel
theorem dX0_act_52 : decode cX0_act 52 = .ok (.iadd, 1) := by decide +kernel
theorem dX0_act_53 : decode cX0_act 53 = .ok (.putfield 54, 3) := by decide +kernel
theorem dX0_act_56 : decode cX0_act 56 = .ok (.aload_n 0, 1) := by decide +kernel
theorem dX0_act_57 : decode cX0_act 57 = .ok (.getfield 23, 3) := by decide +kernel
theorem dX0_act_60 : decode cX0_act 60 = .ok (.iload_n 1, 1) := by decide +kernel
theorem dX0_act_61 : decode cX0_act 61 = .ok (.iload_n 2, 1) := by decide +kernel
theorem dX0_act_62 : decode cX0_act 62 = .ok (.iastore, 1) := by decide +kernel
theorem dX0_act_63 : decode cX0_act 63 = .ok (.iload_n 3, 1) := by decide +kernel
theorem dX0_act_64 : decode cX0_act 64 = .ok (.ireturn, 1) := by decide +kernel
def FX0_act_4_0  (x1 : Int) (x2 : Int) (f : Mm) : Option (Int × Mm) := (b2 (FX0_hasDay_4 x1 f) fun y1 f1 => (if y1 = 0 then some ((-1), f1) else (if (f1 4 6) < 40 then (if 0 ≤ x1 ∧ x1 < 6 then (if 0 ≤ (f1 4 6) ∧ (f1 4 6) < 40 then (if 0 ≤ (f1 4 6) ∧ (f1 4 6) < 40 then (if 0 ≤ x1 ∧ x1 < 6 then some ((f1 18 x1.toNat), (up (up (up (up f1 19 (f1 4 6).toNat x1) 20 (f1 4 6).toNat (f1 18 x1.toNat)) 4 6 (w32 ((f1 4 6) + 1))) 18 x1.toNat x2)) else none) else none) else none) else none) else some ((-1), f1))))
set_option maxHeartbeats 4000000 in
set_option maxRecDepth 100000 in
theorem SX0_act_4_0 {G : GT} {l : Launch} {Q : Option AV → Mem → Prop}  (x1 : Int) (x2 : Int) (f : Mm) (h : OkI Q (FX0_act_4_0  x1 x2 f)) : Ev G l MX0_act (Rm 2 0 0) (ZM G Q 0 0) 0 0 0 [some (vR 4), some (vI x1), some (vI x2), none] [] (SH, RF, f) := by
  unfold FX0_act_4_0 at h
  refine ev_aload_n (i := 0) dX0_act_0 rfl rfl ?_
  refine ev_iload_n (i := 1) dX0_act_1 rfl rfl ?_
  refine ev_cVI (b := 4) (av := [vI x1]) (S := []) (fun q => q) h dX0_act_2 (fun Q' q => TX0_hasDay_4 x1 _ q) kvX0_hasDay ml_X0_85 sh_4 rfl (RRc (by decide) (by decide)) (Nat.le_of_ble_eq_true rfl) ⟨Nat.le_of_ble_eq_true rfl, Nat.le_of_ble_eq_true rfl⟩ (fun y1 f1 h => ?_)
  refine ev_if_eq (tgt := 17) dX0_act_5 (by decide) (fun c7 => ?_) (fun c7 => ?_)
  · rw [if_pos c7] at h
    refine ev_iconst dX0_act_17 (r32c rfl) ?_
    exact ev_iret rfl dX0_act_18 h
  · rw [if_neg c7] at h
    refine ev_aload_n (i := 0) dX0_act_8 rfl rfl ?_
    refine ex_getI (x := (f1 4 6)) dX0_act_9 fl_X0_54 sh_4 (by decide) (by decide) rfl ?_
    refine ev_bipush (v := 40) dX0_act_12 (r32c rfl) (by decide) ?_
    refine ev_icmp_lt (tgt := 19) dX0_act_14 (by decide) (fun c6 => ?_) (fun c6 => ?_)
    · rw [if_pos c6] at h
      refine ev_aload_n (i := 0) dX0_act_19 rfl rfl ?_
      refine ev_getR dX0_act_20 fl_X0_23 sh_4 (by decide) (by decide) rf_4_10 ?_
      refine ev_iload_n (i := 1) dX0_act_23 rfl rfl ?_
      by_cases g2 : 0 ≤ x1 ∧ x1 < 6
      · rw [if_pos g2] at h
        refine ex_iald (x := (f1 18 x1.toNat)) dX0_act_24 sh_18 g2.1 g2.2 rfl ?_
        refine ev_istore_n (i := 3) (L' := [some (vR 4), some (vI x1), some (vI x2), some (vI (f1 18 x1.toNat))]) dX0_act_25 rfl (by decide) rfl ?_
        refine ev_aload_n (i := 0) dX0_act_26 rfl rfl ?_
        refine ev_getR dX0_act_27 fl_X0_26 sh_4 (by decide) (by decide) rf_4_11 ?_
        refine ev_aload_n (i := 0) dX0_act_30 rfl rfl ?_
        refine ex_getI (x := (f1 4 6)) dX0_act_31 fl_X0_54 sh_4 (by decide) (by decide) rfl ?_
        refine ev_iload_n (i := 1) dX0_act_34 rfl rfl ?_
        by_cases g3 : 0 ≤ (f1 4 6) ∧ (f1 4 6) < 40
        · rw [if_pos g3] at h
          refine ex_iast (j := (f1 4 6).toNat) dX0_act_35 sh_19 g3.1 g3.2 rfl ?_
          refine ev_aload_n (i := 0) dX0_act_36 rfl rfl ?_
          refine ev_getR dX0_act_37 fl_X0_29 sh_4 (by decide) (by decide) rf_4_12 ?_
          refine ev_aload_n (i := 0) dX0_act_40 rfl rfl ?_
          refine ex_getI (x := (f1 4 6)) dX0_act_41 fl_X0_54 sh_4 (by decide) (by decide) rfl ?_
          refine ev_iload_n (i := 3) dX0_act_44 rfl rfl ?_
          by_cases g4 : 0 ≤ (f1 4 6) ∧ (f1 4 6) < 40
          · rw [if_pos g4] at h
            refine ex_iast (j := (f1 4 6).toNat) dX0_act_45 sh_20 g4.1 g4.2 rfl ?_
            refine ev_aload_n (i := 0) dX0_act_46 rfl rfl ?_
            refine ev_dupR dX0_act_47 ?_
            refine ex_getI (x := (f1 4 6)) dX0_act_48 fl_X0_54 sh_4 (by decide) (by decide) rfl ?_
            refine ev_iconst dX0_act_51 (r32c rfl) ?_
            refine ev_iadd dX0_act_52 ?_
            refine ev_putI dX0_act_53 fl_X0_54 sh_4 (by decide) (by decide) ?_
            refine ev_aload_n (i := 0) dX0_act_56 rfl rfl ?_
            refine ev_getR dX0_act_57 fl_X0_23 sh_4 (by decide) (by decide) rf_4_10 ?_
            refine ev_iload_n (i := 1) dX0_act_60 rfl rfl ?_
            refine ev_iload_n (i := 2) dX0_act_61 rfl rfl ?_
            by_cases g5 : 0 ≤ x1 ∧ x1 < 6
            · rw [if_pos g5] at h
              refine ex_iast (j := x1.toNat) dX0_act_62 sh_18 g5.1 g5.2 rfl ?_
              refine ev_iload_n (i := 3) dX0_act_63 rfl rfl ?_
              exact ev_iret rfl dX0_act_64 h
            · rw [if_neg g5] at h; exact h.elim
          · rw [if_neg g4] at h; exact h.elim
        · rw [if_neg g3] at h; exact h.elim
      · rw [if_neg g2] at h; exact h.elim
    · rw [if_neg c6] at h
      refine ev_iconst dX0_act_17 (r32c rfl) ?_
      exact ev_iret rfl dX0_act_18 h
def FX0_act_4 (x1 : Int) (x2 : Int) (f : Mm) : Option (Int × Mm) := FX0_act_4_0 x1 x2 f
set_option maxRecDepth 100000 in
theorem TX0_act_4 {G : GT} {l : Launch} {Q : Option AV → Mem → Prop} (x1 : Int) (x2 : Int) (f : Mm) (h : OkI Q (FX0_act_4 x1 x2 f)) : Ret G l MX0_act (2) 0 0 [vR 4, vI x1, vI x2] (SH, RF, f) Q := by
  refine ret_of (L := [some (vR 4), some (vI x1), some (vI x2), none]) (by decide) rfl (Nat.le_of_ble_eq_true rfl) ?_
  exact SX0_act_4_0 x1 x2 f h

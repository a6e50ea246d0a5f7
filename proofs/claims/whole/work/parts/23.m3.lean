theorem dX11_laysPlans__147 : decode cX11_laysPlans_ 147 = .ok (.iinc 2 1, 3) := by decide +kernel
theorem dX11_laysPlans__150 : decode cX11_laysPlans_ 150 = .ok (.goto (-45), 3) := by decide +kernel
theorem dX11_laysPlans__134 : decode cX11_laysPlans_ 134 = .ok (.aload_n 0, 1) := by decide +kernel
theorem dX11_laysPlans__135 : decode cX11_laysPlans_ 135 = .ok (.invokevirtual 299, 3) := by decide +kernel
theorem dX11_laysPlans__138 : decode cX11_laysPlans_ 138 = .ok (.aload_n 0, 1) := by decide +kernel
theorem dX11_laysPlans__139 : decode cX11_laysPlans_ 139 = .ok (.invokevirtual 307, 3) := by decide +kernel
theorem dX11_laysPlans__142 : decode cX11_laysPlans_ 142 = .ok (.aload_n 0, 1) := by decide +kernel
theorem dX11_laysPlans__143 : decode cX11_laysPlans_ 143 = .ok (.iload_n 2, 1) := by decide +kernel
theorem dX11_laysPlans__144 : decode cX11_laysPlans_ 144 = .ok (.invokevirtual 359, 3) := by decide +kernel
theorem dX11_laysPlans__105 : decode cX11_laysPlans_ 105 = .ok (.iload_n 2, 1) := by decide +kernel
theorem dX11_laysPlans__106 : decode cX11_laysPlans_ 106 = .ok (.aload_n 0, 1) := by decide +kernel
theorem dX11_laysPlans__107 : decode cX11_laysPlans_ 107 = .ok (.invokevirtual 350, 3) := by decide +kernel
theorem dX11_laysPlans__110 : decode cX11_laysPlans_ 110 = .ok (.if_icmp .ge 43, 3) := by decide +kernel
theorem dX11_laysPlans__153 : decode cX11_laysPlans_ 153 = .ok (.return_, 1) := by decide +kernel
theorem dX11_laysPlans__113 : decode cX11_laysPlans_ 113 = .ok (.aload_n 0, 1) := by decide +kernel
theorem dX11_laysPlans__114 : decode cX11_laysPlans_ 114 = .ok (.iload_n 2, 1) := by decide +kernel
theorem dX11_laysPlans__115 : decode cX11_laysPlans_ 115 = .ok (.invokevirtual 353, 3) := by decide +kernel
theorem dX11_laysPlans__118 : decode cX11_laysPlans_ 118 = .ok (.iload_n 1, 1) := by decide +kernel
theorem dX11_laysPlans__119 : decode cX11_laysPlans_ 119 = .ok (.iconst (-1), 1) := by decide +kernel
theorem dX11_laysPlans__120 : decode cX11_laysPlans_ 120 = .ok (.if_icmp .eq 14, 3) := by decide +kernel
theorem dX11_laysPlans__123 : decode cX11_laysPlans_ 123 = .ok (.aload_n 0, 1) := by decide +kernel
theorem dX11_laysPlans__124 : decode cX11_laysPlans_ 124 = .ok (.iload_n 1, 1) := by decide +kernel
theorem dX11_laysPlans__125 : decode cX11_laysPlans_ 125 = .ok (.invokevirtual 356, 3) := by decide +kernel
theorem dX11_laysPlans__128 : decode cX11_laysPlans_ 128 = .ok (.ifCond .eq 6, 3) := by decide +kernel
theorem dX11_laysPlans__131 : decode cX11_laysPlans_ 131 = .ok (.goto 16, 3) := by decide +kernel
theorem dX11_laysPlans__103 : decode cX11_laysPlans_ 103 = .ok (.iconst 0, 1) := by decide +kernel
theorem dX11_laysPlans__104 : decode cX11_laysPlans_ 104 = .ok (.istore_n 2, 1) := by decide +kernel
theorem dX11_laysPlans__68 : decode cX11_laysPlans_ 68 = .ok (.iload_n 2, 1) := by decide +kernel
theorem dX11_laysPlans__69 : decode cX11_laysPlans_ 69 = .ok (.bipush 6, 2) := by decide +kernel
theorem dX11_laysPlans__71 : decode cX11_laysPlans_ 71 = .ok (.if_icmp .ge 32, 3) := by decide +kernel
theorem dX11_laysPlans__74 : decode cX11_laysPlans_ 74 = .ok (.aload_n 0, 1) := by decide +kernel
theorem dX11_laysPlans__75 : decode cX11_laysPlans_ 75 = .ok (.getfield 80, 3) := by decide +kernel
theorem dX11_laysPlans__78 : decode cX11_laysPlans_ 78 = .ok (.iload_n 2, 1) := by decide +kernel
theorem dX11_laysPlans__79 : decode cX11_laysPlans_ 79 = .ok (.ldc_w 349, 3) := by decide +kernel
theorem dX11_laysPlans__82 : decode cX11_laysPlans_ 82 = .ok (.iastore, 1) := by decide +kernel
theorem dX11_laysPlans__83 : decode cX11_laysPlans_ 83 = .ok (.aload_n 0, 1) := by decide +kernel
theorem dX11_laysPlans__84 : decode cX11_laysPlans_ 84 = .ok (.getfield 86, 3) := by decide +kernel
theorem dX11_laysPlans__87 : decode cX11_laysPlans_ 87 = .ok (.iload_n 2, 1) := by decide +kernel
theorem dX11_laysPlans__88 : decode cX11_laysPlans_ 88 = .ok (.iconst 0, 1) := by decide +kernel
theorem dX11_laysPlans__89 : decode cX11_laysPlans_ 89 = .ok (.iastore, 1) := by decide +kernel
theorem dX11_laysPlans__90 : decode cX11_laysPlans_ 90 = .ok (.aload_n 0, 1) := by decide +kernel
theorem dX11_laysPlans__91 : decode cX11_laysPlans_ 91 = .ok (.getfield 89, 3) := by decide +kernel
theorem dX11_laysPlans__94 : decode cX11_laysPlans_ 94 = .ok (.iload_n 2, 1) := by decide +kernel
theorem dX11_laysPlans__95 : decode cX11_laysPlans_ 95 = .ok (.iconst 0, 1) := by decide +kernel
theorem dX11_laysPlans__96 : decode cX11_laysPlans_ 96 = .ok (.iastore, 1) := by decide +kernel
theorem dX11_laysPlans__97 : decode cX11_laysPlans_ 97 = .ok (.iinc 2 1, 3) := by decide +kernel
theorem dX11_laysPlans__100 : decode cX11_laysPlans_ 100 = .ok (.goto (-32), 3) := by decide +kernel
theorem dX11_laysPlans__66 : decode cX11_laysPlans_ 66 = .ok (.iconst 0, 1) := by decide +kernel
theorem dX11_laysPlans__67 : decode cX11_laysPlans_ 67 = .ok (.istore_n 2, 1) := by decide +kernel
theorem dX11_laysPlans__45 : decode cX11_laysPlans_ 45 = .ok (.iload_n 2, 1) := by decide +kernel
theorem dX11_laysPlans__46 : decode cX11_laysPlans_ 46 = .ok (.bipush 60, 2) := by decide +kernel
theorem dX11_laysPlans__48 : decode cX11_laysPlans_ 48 = .ok (.if_icmp .gt 18, 3) := by decide +kernel
theorem dX11_laysPlans__51 : decode cX11_laysPlans_ 51 = .ok (.aload_n 0, 1) := by decide +kernel
theorem dX11_laysPlans__52 : decode cX11_laysPlans_ 52 = .ok (.getfield 83, 3) := by decide +kernel
theorem dX11_laysPlans__55 : decode cX11_laysPlans_ 55 = .ok (.iload_n 2, 1) := by decide +kernel
theorem dX11_laysPlans__56 : decode cX11_laysPlans_ 56 = .ok (.ldc_w 349, 3) := by decide +kernel
theorem dX11_laysPlans__59 : decode cX11_laysPlans_ 59 = .ok (.iastore, 1) := by decide +kernel
theorem dX11_laysPlans__60 : decode cX11_laysPlans_ 60 = .ok (.iinc 2 1, 3) := by decide +kernel
theorem dX11_laysPlans__63 : decode cX11_laysPlans_ 63 = .ok (.goto (-18), 3) := by decide +kernel
theorem dX11_laysPlans__43 : decode cX11_laysPlans_ 43 = .ok (.iconst 0, 1) := by decide +kernel
theorem dX11_laysPlans__44 : decode cX11_laysPlans_ 44 = .ok (.istore_n 2, 1) := by decide +kernel
theorem dX11_laysPlans__22 : decode cX11_laysPlans_ 22 = .ok (.iload_n 2, 1) := by decide +kernel
theorem dX11_laysPlans__23 : decode cX11_laysPlans_ 23 = .ok (.bipush 64, 2) := by decide +kernel
theorem dX11_laysPlans__25 : decode cX11_laysPlans_ 25 = .ok (.if_icmp .ge 18, 3) := by decide +kernel
theorem dX11_laysPlans__28 : decode cX11_laysPlans_ 28 = .ok (.aload_n 0, 1) := by decide +kernel
theorem dX11_laysPlans__29 : decode cX11_laysPlans_ 29 = .ok (.getfield 74, 3) := by decide +kernel
theorem dX11_laysPlans__32 : decode cX11_laysPlans_ 32 = .ok (.iload_n 2, 1) := by decide +kernel
theorem dX11_laysPlans__33 : decode cX11_laysPlans_ 33 = .ok (.ldc_w 349, 3) := by decide +kernel
theorem dX11_laysPlans__36 : decode cX11_laysPlans_ 36 = .ok (.iastore, 1) := by decide +kernel
theorem dX11_laysPlans__37 : decode cX11_laysPlans_ 37 = .ok (.iinc 2 1, 3) := by decide +kernel
theorem dX11_laysPlans__40 : decode cX11_laysPlans_ 40 = .ok (.goto (-18), 3) := by decide +kernel
theorem dX11_laysPlans__0 : decode cX11_laysPlans_ 0 = .ok (.aload_n 0, 1) := by decide +kernel
theorem dX11_laysPlans__1 : decode cX11_laysPlans_ 1 = .ok (.invokevirtual 296, 3) := by decide +kernel
theorem dX11_laysPlans__4 : decode cX11_laysPlans_ 4 = .ok (.aload_n 0, 1) := by decide +kernel
theorem dX11_laysPlans__5 : decode cX11_laysPlans_ 5 = .ok (.invokevirtual 304, 3) := by decide +kernel
theorem dX11_laysPlans__8 : decode cX11_laysPlans_ 8 = .ok (.aload_n 0, 1) := by decide +kernel
theorem dX11_laysPlans__9 : decode cX11_laysPlans_ 9 = .ok (.ldc_w 342, 3) := by decide +kernel
theorem dX11_laysPlans__12 : decode cX11_laysPlans_ 12 = .ok (.putfield 343, 3) := by decide +kernel
theorem dX11_laysPlans__15 : decode cX11_laysPlans_ 15 = .ok (.aload_n 0, 1) := by decide +kernel
theorem dX11_laysPlans__16 : decode cX11_laysPlans_ 16 = .ok (.iconst (-1), 1) := by decide +kernel
theorem dX11_laysPlans__17 : decode cX11_laysPlans_ 17 = .ok (.putfield 346, 3) := by decide +kernel
theorem dX11_laysPlans__20 : decode cX11_laysPlans_ 20 = .ok (.iconst 0, 1) := by decide +kernel
theorem dX11_laysPlans__21 : decode cX11_laysPlans_ 21 = .ok (.istore_n 2, 1) := by decide +kernel
def FX11_laysPlans__147 (k105 : Int → Int → Mm → Option Mm) (x1 : Int) (x2 : Int) (f : Mm) : Option Mm := k105 x1 (w32 (x2 + 1)) f
set_option maxHeartbeats 4000000 in
set_option maxRecDepth 100000 in
theorem SX11_laysPlans__147 {G : GT} {l : Launch} {Q : Option AV → Mem → Prop} {k105 : Int → Int → Mm → Option Mm} (q105 : ∀ (x1 : Int) (x2 : Int) (f : Mm), OkV Q (k105 x1 x2 f) → Ev G l MX11_laysPlans_ (Rm 5 0 0) (ZM G Q 0 0) 0 0 105 [some (vR 150), some (vI x1), some (vI x2)] [] (SH, RF, f)) (x1 : Int) (x2 : Int) (f : Mm) (h : OkV Q (FX11_laysPlans__147 k105 x1 x2 f)) : Ev G l MX11_laysPlans_ (Rm 5 0 0) (ZM G Q 0 0) 0 0 147 [some (vR 150), some (vI x1), some (vI x2)] [] (SH, RF, f) := by
  unfold FX11_laysPlans__147 at h
  refine ev_iinc (L' := [some (vR 150), some (vI x1), some (vI (w32 (x2 + 1)))]) dX11_laysPlans__147 rfl (by decide) rfl ?_
  refine ev_goto (tgt := 105) dX11_laysPlans__150 (by decide) ?_
  exact q105 x1 (w32 (x2 + 1)) _ h
def FX11_laysPlans__134 (k105 : Int → Int → Mm → Option Mm) (x1 : Int) (x2 : Int) (f : Mm) : Option Mm := ((FX11_goes_ f).bind fun f1 => ((FX11_passes f1).bind fun f2 => ((FX11_planTells x2 f2).bind fun f3 => FX11_laysPlans__147 k105 x1 x2 f3)))
set_option maxHeartbeats 4000000 in
set_option maxRecDepth 100000 in
theorem SX11_laysPlans__134 {G : GT} {l : Launch} {Q : Option AV → Mem → Prop} {k105 : Int → Int → Mm → Option Mm} (q105 : ∀ (x1 : Int) (x2 : Int) (f : Mm), OkV Q (k105 x1 x2 f) → Ev G l MX11_laysPlans_ (Rm 5 0 0) (ZM G Q 0 0) 0 0 105 [some (vR 150), some (vI x1), some (vI x2)] [] (SH, RF, f)) (x1 : Int) (x2 : Int) (f : Mm) (h : OkV Q (FX11_laysPlans__134 k105 x1 x2 f)) : Ev G l MX11_laysPlans_ (Rm 5 0 0) (ZM G Q 0 0) 0 0 134 [some (vR 150), some (vI x1), some (vI x2)] [] (SH, RF, f) := by
  unfold FX11_laysPlans__134 at h
  refine ev_aload_n (i := 0) dX11_laysPlans__134 rfl rfl ?_
  refine ev_cVV (b := 150) (av := []) (S := []) (fun q => q) h dX11_laysPlans__135 (fun Q' q => TX11_goes_ _ q) kvX11_goes_ ml_X11_299 sh_150 rfl (RRc (by decide) (by decide)) (Nat.le_of_ble_eq_true rfl) ⟨Nat.le_of_ble_eq_true rfl, Nat.le_of_ble_eq_true rfl⟩ (fun f1 h => ?_)
  refine ev_aload_n (i := 0) dX11_laysPlans__138 rfl rfl ?_
  refine ev_cVV (b := 150) (av := []) (S := []) (fun q => q) h dX11_laysPlans__139 (fun Q' q => TX11_passes _ q) kvX11_passes ml_X11_307 sh_150 rfl (RRc (by decide) (by decide)) (Nat.le_of_ble_eq_true rfl) ⟨Nat.le_of_ble_eq_true rfl, Nat.le_of_ble_eq_true rfl⟩ (fun f2 h => ?_)
  refine ev_aload_n (i := 0) dX11_laysPlans__142 rfl rfl ?_
  refine ev_iload_n (i := 2) dX11_laysPlans__143 rfl rfl ?_
  refine ev_cVV (b := 150) (av := [vI x2]) (S := []) (fun q => q) h dX11_laysPlans__144 (fun Q' q => TX11_planTells x2 _ q) kvX11_planTells ml_X11_359 sh_150 rfl (RRc (by decide) (by decide)) (Nat.le_of_ble_eq_true rfl) ⟨Nat.le_of_ble_eq_true rfl, Nat.le_of_ble_eq_true rfl⟩ (fun f3 h => ?_)
  exact SX11_laysPlans__147 q105 x1 x2 _ h
def FX11_laysPlans__105  : Nat → Int → Int → Mm → Option Mm
  | 0, _, _, _ => none
  | n + 1, x1, x2, f => (b2 (FX11_plans f) fun y1 f1 => (if y1 ≤ x2 then some f1 else ((FX11_planIs x2 f1).bind fun f2 => (if x1 = (-1) then FX11_laysPlans__134 (FX11_laysPlans__105 n) x1 x2 f2 else (b2 (FX11_hasOther x1 f2) fun y3 f3 => (if y3 = 0 then FX11_laysPlans__134 (FX11_laysPlans__105 n) x1 x2 f3 else FX11_laysPlans__147 (FX11_laysPlans__105 n) x1 x2 f3))))))
set_option maxHeartbeats 4000000 in
set_option maxRecDepth 100000 in
theorem SX11_laysPlans__105 {G : GT} {l : Launch} {Q : Option AV → Mem → Prop}  : ∀ (n : Nat) (x1 : Int) (x2 : Int) (f : Mm), OkV Q (FX11_laysPlans__105  n x1 x2 f) → Ev G l MX11_laysPlans_ (Rm 5 0 0) (ZM G Q 0 0) 0 0 105 [some (vR 150), some (vI x1), some (vI x2)] [] (SH, RF, f) := by
  intro n
  induction n with
  | zero => intro x1 x2 f h; exact absurd h (by rw [FX11_laysPlans__105]; exact fun q => q)
  | succ n ih =>
    intro x1 x2 f h
    rw [FX11_laysPlans__105] at h
    refine ev_iload_n (i := 2) dX11_laysPlans__105 rfl rfl ?_
    refine ev_aload_n (i := 0) dX11_laysPlans__106 rfl rfl ?_
    refine ev_cVI (b := 150) (av := []) (S := [vI x2]) (fun q => q) h dX11_laysPlans__107 (fun Q' q => TX11_plans _ q) kvX11_plans ml_X11_350 sh_150 rfl (RRc (by decide) (by decide)) (Nat.le_of_ble_eq_true rfl) ⟨Nat.le_of_ble_eq_true rfl, Nat.le_of_ble_eq_true rfl⟩ (fun y1 f1 h => ?_)
    refine ev_icmp_ge (tgt := 153) dX11_laysPlans__110 (by decide) (fun c6 => ?_) (fun c6 => ?_)
    · rw [if_pos c6] at h
      exact ev_vret rfl dX11_laysPlans__153 h
    · rw [if_neg c6] at h
      refine ev_aload_n (i := 0) dX11_laysPlans__113 rfl rfl ?_
      refine ev_iload_n (i := 2) dX11_laysPlans__114 rfl rfl ?_
      refine ev_cVV (b := 150) (av := [vI x2]) (S := []) (fun q => q) h dX11_laysPlans__115 (fun Q' q => TX11_planIs x2 _ q) kvX11_planIs ml_X11_353 sh_150 rfl (RRc (by decide) (by decide)) (Nat.le_of_ble_eq_true rfl) ⟨Nat.le_of_ble_eq_true rfl, Nat.le_of_ble_eq_true rfl⟩ (fun f2 h => ?_)
      refine ev_iload_n (i := 1) dX11_laysPlans__118 rfl rfl ?_
      refine ev_iconst dX11_laysPlans__119 (r32c rfl) ?_
      refine ev_icmp_eq (tgt := 134) dX11_laysPlans__120 (by decide) (fun c5 => ?_) (fun c5 => ?_)
      · rw [if_pos c5] at h
        exact SX11_laysPlans__134 ih x1 x2 _ h
      · rw [if_neg c5] at h
        refine ev_aload_n (i := 0) dX11_laysPlans__123 rfl rfl ?_
        refine ev_iload_n (i := 1) dX11_laysPlans__124 rfl rfl ?_
        refine ev_cVI (b := 150) (av := [vI x1]) (S := []) (fun q => q) h dX11_laysPlans__125 (fun Q' q => TX11_hasOther x1 _ q) kvX11_hasOther ml_X11_356 sh_150 rfl (RRc (by decide) (by decide)) (Nat.le_of_ble_eq_true rfl) ⟨Nat.le_of_ble_eq_true rfl, Nat.le_of_ble_eq_true rfl⟩ (fun y3 f3 h => ?_)
        refine ev_if_eq (tgt := 134) dX11_laysPlans__128 (by decide) (fun c4 => ?_) (fun c4 => ?_)
        · rw [if_pos c4] at h
          exact SX11_laysPlans__134 ih x1 x2 _ h
        · rw [if_neg c4] at h
          refine ev_goto (tgt := 147) dX11_laysPlans__131 (by decide) ?_
          exact SX11_laysPlans__147 ih x1 x2 _ h
def FX11_laysPlans__103  (x1 : Int) (f : Mm) : Option Mm := FX11_laysPlans__105 fu x1 0 f
set_option maxHeartbeats 4000000 in
set_option maxRecDepth 100000 in
theorem SX11_laysPlans__103 {G : GT} {l : Launch} {Q : Option AV → Mem → Prop}  (x1 : Int) (f : Mm) (h : OkV Q (FX11_laysPlans__103  x1 f)) : Ev G l MX11_laysPlans_ (Rm 5 0 0) (ZM G Q 0 0) 0 0 103 [some (vR 150), some (vI x1), none] [] (SH, RF, f) := by
  unfold FX11_laysPlans__103 at h
  refine ev_iconst dX11_laysPlans__103 (r32c rfl) ?_
  refine ev_istore_n (i := 2) (L' := [some (vR 150), some (vI x1), some (vI 0)]) dX11_laysPlans__104 rfl (by decide) rfl ?_
  exact SX11_laysPlans__105  fu x1 0 _ h
def FX11_laysPlans__68  : Nat → Int → Int → Mm → Option Mm
  | 0, _, _, _ => none
  | n + 1, x1, x2, f => (if 6 ≤ x2 then FX11_laysPlans__103 x1 f else (if 0 ≤ x2 ∧ x2 < 6 then (if 0 ≤ x2 ∧ x2 < 6 then (if 0 ≤ x2 ∧ x2 < 6 then FX11_laysPlans__68 n x1 (w32 (x2 + 1)) (up (up (up f 172 x2.toNat 10000000) 174 x2.toNat 0) 175 x2.toNat 0) else none) else none) else none))
set_option maxHeartbeats 4000000 in
set_option maxRecDepth 100000 in
theorem SX11_laysPlans__68 {G : GT} {l : Launch} {Q : Option AV → Mem → Prop}  : ∀ (n : Nat) (x1 : Int) (x2 : Int) (f : Mm), OkV Q (FX11_laysPlans__68  n x1 x2 f) → Ev G l MX11_laysPlans_ (Rm 5 0 0) (ZM G Q 0 0) 0 0 68 [some (vR 150), some (vI x1), some (vI x2)] [] (SH, RF, f) := by
  intro n
  induction n with
  | zero => intro x1 x2 f h; exact absurd h (by rw [FX11_laysPlans__68]; exact fun q => q)
  | succ n ih =>
    intro x1 x2 f h
    rw [FX11_laysPlans__68] at h
    refine ev_iload_n (i := 2) dX11_laysPlans__68 rfl rfl ?_
    refine ev_bipush (v := 6) dX11_laysPlans__69 (r32c rfl) (by decide) ?_
    refine ev_icmp_ge (tgt := 103) dX11_laysPlans__71 (by decide) (fun c4 => ?_) (fun c4 => ?_)
    · rw [if_pos c4] at h
      refine ev_fg [true, true, false] rfl ?_
      exact SX11_laysPlans__103  x1 _ h
    · rw [if_neg c4] at h
      refine ev_aload_n (i := 0) dX11_laysPlans__74 rfl rfl ?_
      refine ev_getR dX11_laysPlans__75 fl_X11_80 sh_150 (by decide) (by decide) rf_150_37 ?_
      refine ev_iload_n (i := 2) dX11_laysPlans__78 rfl rfl ?_
      refine ev_ldcw (v := 10000000) dX11_laysPlans__79 (r32c rfl) kc_X11_349 ?_
      by_cases g1 : 0 ≤ x2 ∧ x2 < 6
      · rw [if_pos g1] at h
        refine ex_iast (j := x2.toNat) dX11_laysPlans__82 sh_172 g1.1 g1.2 rfl ?_
        refine ev_aload_n (i := 0) dX11_laysPlans__83 rfl rfl ?_
        refine ev_getR dX11_laysPlans__84 fl_X11_86 sh_150 (by decide) (by decide) rf_150_39 ?_
        refine ev_iload_n (i := 2) dX11_laysPlans__87 rfl rfl ?_
        refine ev_iconst dX11_laysPlans__88 (r32c rfl) ?_
        by_cases g2 : 0 ≤ x2 ∧ x2 < 6
        · rw [if_pos g2] at h
          refine ex_iast (j := x2.toNat) dX11_laysPlans__89 sh_174 g2.1 g2.2 rfl ?_
          refine ev_aload_n (i := 0) dX11_laysPlans__90 rfl rfl ?_
          refine ev_getR dX11_laysPlans__91 fl_X11_89 sh_150 (by decide) (by decide) rf_150_40 ?_
          refine ev_iload_n (i := 2) dX11_laysPlans__94 rfl rfl ?_
          refine ev_iconst dX11_laysPlans__95 (r32c rfl) ?_
          by_cases g3 : 0 ≤ x2 ∧ x2 < 6
          · rw [if_pos g3] at h
            refine ex_iast (j := x2.toNat) dX11_laysPlans__96 sh_175 g3.1 g3.2 rfl ?_
            refine ev_iinc (L' := [some (vR 150), some (vI x1), some (vI (w32 (x2 + 1)))]) dX11_laysPlans__97 rfl (by decide) rfl ?_
            refine ev_goto (tgt := 68) dX11_laysPlans__100 (by decide) ?_
            exact ih x1 (w32 (x2 + 1)) _ h
          · rw [if_neg g3] at h; exact h.elim
        · rw [if_neg g2] at h; exact h.elim
      · rw [if_neg g1] at h; exact h.elim
def FX11_laysPlans__66  (x1 : Int) (f : Mm) : Option Mm := FX11_laysPlans__68 fu x1 0 f
set_option maxHeartbeats 4000000 in
set_option maxRecDepth 100000 in
theorem SX11_laysPlans__66 {G : GT} {l : Launch} {Q : Option AV → Mem → Prop}  (x1 : Int) (f : Mm) (h : OkV Q (FX11_laysPlans__66  x1 f)) : Ev G l MX11_laysPlans_ (Rm 5 0 0) (ZM G Q 0 0) 0 0 66 [some (vR 150), some (vI x1), none] [] (SH, RF, f) := by
  unfold FX11_laysPlans__66 at h
  refine ev_iconst dX11_laysPlans__66 (r32c rfl) ?_
  refine ev_istore_n (i := 2) (L' := [some (vR 150), some (vI x1), some (vI 0)]) dX11_laysPlans__67 rfl (by decide) rfl ?_
  exact SX11_laysPlans__68  fu x1 0 _ h
def FX11_laysPlans__45  : Nat → Int → Int → Mm → Option Mm
  | 0, _, _, _ => none
  | n + 1, x1, x2, f => (if 60 < x2 then FX11_laysPlans__66 x1 f else (if 0 ≤ x2 ∧ x2 < 61 then FX11_laysPlans__45 n x1 (w32 (x2 + 1)) (up f 173 x2.toNat 10000000) else none))
set_option maxHeartbeats 4000000 in
set_option maxRecDepth 100000 in
theorem SX11_laysPlans__45 {G : GT} {l : Launch} {Q : Option AV → Mem → Prop}  : ∀ (n : Nat) (x1 : Int) (x2 : Int) (f : Mm), OkV Q (FX11_laysPlans__45  n x1 x2 f) → Ev G l MX11_laysPlans_ (Rm 5 0 0) (ZM G Q 0 0) 0 0 45 [some (vR 150), some (vI x1), some (vI x2)] [] (SH, RF, f) := by
  intro n
  induction n with
  | zero => intro x1 x2 f h; exact absurd h (by rw [FX11_laysPlans__45]; exact fun q => q)
  | succ n ih =>
    intro x1 x2 f h
    rw [FX11_laysPlans__45] at h
    refine ev_iload_n (i := 2) dX11_laysPlans__45 rfl rfl ?_
    refine ev_bipush (v := 60) dX11_laysPlans__46 (r32c rfl) (by decide) ?_
    refine ev_icmp_gt (tgt := 66) dX11_laysPlans__48 (by decide) (fun c2 => ?_) (fun c2 => ?_)
    · rw [if_pos c2] at h
      refine ev_fg [true, true, false] rfl ?_
      exact SX11_laysPlans__66  x1 _ h
    · rw [if_neg c2] at h
      refine ev_aload_n (i := 0) dX11_laysPlans__51 rfl rfl ?_
      refine ev_getR dX11_laysPlans__52 fl_X11_83 sh_150 (by decide) (by decide) rf_150_38 ?_
      refine ev_iload_n (i := 2) dX11_laysPlans__55 rfl rfl ?_
      refine ev_ldcw (v := 10000000) dX11_laysPlans__56 (r32c rfl) kc_X11_349 ?_
      by_cases g1 : 0 ≤ x2 ∧ x2 < 61
      · rw [if_pos g1] at h
        refine ex_iast (j := x2.toNat) dX11_laysPlans__59 sh_173 g1.1 g1.2 rfl ?_
        refine ev_iinc (L' := [some (vR 150), some (vI x1), some (vI (w32 (x2 + 1)))]) dX11_laysPlans__60 rfl (by decide) rfl ?_
        refine ev_goto (tgt := 45) dX11_laysPlans__63 (by decide) ?_
        exact ih x1 (w32 (x2 + 1)) _ h
      · rw [if_neg g1] at h; exact h.elim
def FX11_laysPlans__43  (x1 : Int) (f : Mm) : Option Mm := FX11_laysPlans__45 fu x1 0 f
set_option maxHeartbeats 4000000 in
set_option maxRecDepth 100000 in
theorem SX11_laysPlans__43 {G : GT} {l : Launch} {Q : Option AV → Mem → Prop}  (x1 : Int) (f : Mm) (h : OkV Q (FX11_laysPlans__43  x1 f)) : Ev G l MX11_laysPlans_ (Rm 5 0 0) (ZM G Q 0 0) 0 0 43 [some (vR 150), some (vI x1), none] [] (SH, RF, f) := by
  unfold FX11_laysPlans__43 at h
  refine ev_iconst dX11_laysPlans__43 (r32c rfl) ?_
  refine ev_istore_n (i := 2) (L' := [some (vR 150), some (vI x1), some (vI 0)]) dX11_laysPlans__44 rfl (by decide) rfl ?_
  exact SX11_laysPlans__45  fu x1 0 _ h
def FX11_laysPlans__22  : Nat → Int → Int → Mm → Option Mm
  | 0, _, _, _ => none
  | n + 1, x1, x2, f => (if 64 ≤ x2 then FX11_laysPlans__43 x1 f else (if 0 ≤ x2 ∧ x2 < 64 then FX11_laysPlans__22 n x1 (w32 (x2 + 1)) (up f 170 x2.toNat 10000000) else none))
set_option maxHeartbeats 4000000 in
set_option maxRecDepth 100000 in
theorem SX11_laysPlans__22 {G : GT} {l : Launch} {Q : Option AV → Mem → Prop}  : ∀ (n : Nat) (x1 : Int) (x2 : Int) (f : Mm), OkV Q (FX11_laysPlans__22  n x1 x2 f) → Ev G l MX11_laysPlans_ (Rm 5 0 0) (ZM G Q 0 0) 0 0 22 [some (vR 150), some (vI x1), some (vI x2)] [] (SH, RF, f) := by
  intro n
  induction n with
  | zero => intro x1 x2 f h; exact absurd h (by rw [FX11_laysPlans__22]; exact fun q => q)
  | succ n ih =>
    intro x1 x2 f h
    rw [FX11_laysPlans__22] at h
    refine ev_iload_n (i := 2) dX11_laysPlans__22 rfl rfl ?_
    refine ev_bipush (v := 64) dX11_laysPlans__23 (r32c rfl) (by decide) ?_
    refine ev_icmp_ge (tgt := 43) dX11_laysPlans__25 (by decide) (fun c2 => ?_) (fun c2 => ?_)
    · rw [if_pos c2] at h
      refine ev_fg [true, true, false] rfl ?_
      exact SX11_laysPlans__43  x1 _ h
    · rw [if_neg c2] at h
      refine ev_aload_n (i := 0) dX11_laysPlans__28 rfl rfl ?_
      refine ev_getR dX11_laysPlans__29 fl_X11_74 sh_150 (by decide) (by decide) rf_150_35 ?_
      refine ev_iload_n (i := 2) dX11_laysPlans__32 rfl rfl ?_
      refine ev_ldcw (v := 10000000) dX11_laysPlans__33 (r32c rfl) kc_X11_349 ?_
      by_cases g1 : 0 ≤ x2 ∧ x2 < 64
      · rw [if_pos g1] at h
        refine ex_iast (j := x2.toNat) dX11_laysPlans__36 sh_170 g1.1 g1.2 rfl ?_
        refine ev_iinc (L' := [some (vR 150), some (vI x1), some (vI (w32 (x2 + 1)))]) dX11_laysPlans__37 rfl (by decide) rfl ?_
        refine ev_goto (tgt := 22) dX11_laysPlans__40 (by decide) ?_
        exact ih x1 (w32 (x2 + 1)) _ h
      · rw [if_neg g1] at h; exact h.elim
def FX11_laysPlans__0  (x1 : Int) (f : Mm) : Option Mm := ((FX11_lays f).bind fun f1 => ((FX11_byNumbers f1).bind fun f2 => FX11_laysPlans__22 fu x1 0 (up (up f2 150 31 (-1000000)) 150 33 (-1))))
set_option maxHeartbeats 4000000 in
set_option maxRecDepth 100000 in
theorem SX11_laysPlans__0 {G : GT} {l : Launch} {Q : Option AV → Mem → Prop}  (x1 : Int) (f : Mm) (h : OkV Q (FX11_laysPlans__0  x1 f)) : Ev G l MX11_laysPlans_ (Rm 5 0 0) (ZM G Q 0 0) 0 0 0 [some (vR 150), some (vI x1), none] [] (SH, RF, f) := by
  unfold FX11_laysPlans__0 at h
  refine ev_aload_n (i := 0) dX11_laysPlans__0 rfl rfl ?_
  refine ev_cVV (b := 150) (av := []) (S := []) (fun q => q) h dX11_laysPlans__1 (fun Q' q => TX11_lays _ q) kvX11_lays ml_X11_296 sh_150 rfl (RRc (by decide) (by decide)) (Nat.le_of_ble_eq_true rfl) ⟨Nat.le_of_ble_eq_true rfl, Nat.le_of_ble_eq_true rfl⟩ (fun f1 h => ?_)
  refine ev_aload_n (i := 0) dX11_laysPlans__4 rfl rfl ?_
  refine ev_cVV (b := 150) (av := []) (S := []) (fun q => q) h dX11_laysPlans__5 (fun Q' q => TX11_byNumbers _ q) kvX11_byNumbers ml_X11_304 sh_150 rfl (RRc (by decide) (by decide)) (Nat.le_of_ble_eq_true rfl) ⟨Nat.le_of_ble_eq_true rfl, Nat.le_of_ble_eq_true rfl⟩ (fun f2 h => ?_)
  refine ev_aload_n (i := 0) dX11_laysPlans__8 rfl rfl ?_
  refine ev_ldcw (v := (-1000000)) dX11_laysPlans__9 (r32c rfl) kc_X11_342 ?_
  refine ev_putI dX11_laysPlans__12 fl_X11_343 sh_150 (by decide) (by decide) ?_
  refine ev_aload_n (i := 0) dX11_laysPlans__15 rfl rfl ?_
  refine ev_iconst dX11_laysPlans__16 (r32c rfl) ?_
  refine ev_putI dX11_laysPlans__17 fl_X11_346 sh_150 (by decide) (by decide) ?_
  refine ev_iconst dX11_laysPlans__20 (r32c rfl) ?_
  refine ev_istore_n (i := 2) (L' := [some (vR 150), some (vI x1), some (vI 0)]) dX11_laysPlans__21 rfl (by decide) rfl ?_
  exact SX11_laysPlans__22  fu x1 0 _ h
def FX11_laysPlans_ (x1 : Int) (f : Mm) : Option Mm := FX11_laysPlans__0 x1 f
set_option maxRecDepth 100000 in
theorem TX11_laysPlans_ {G : GT} {l : Launch} {Q : Option AV → Mem → Prop} (x1 : Int) (f : Mm) (h : OkV Q (FX11_laysPlans_ x1 f)) : Ret G l MX11_laysPlans_ (5) 0 0 [vR 150, vI x1] (SH, RF, f) Q := by
  refine ret_of (L := [some (vR 150), some (vI x1), none]) (by decide) rfl (Nat.le_of_ble_eq_true rfl) ?_
  exact SX11_laysPlans__0 x1 f h
theorem dX11_laysPlans_0 : decode cX11_laysPlans 0 = .ok (.aload_n 0, 1) := by decide +kernel
theorem dX11_laysPlans_1 : decode cX11_laysPlans 1 = .ok (.iconst (-1), 1) := by decide +kernel
theorem dX11_laysPlans_2 : decode cX11_laysPlans 2 = .ok (.invokevirtual 339, 3) := by decide +kernel
theorem dX11_laysPlans_5 : decode cX11_laysPlans 5 = .ok (.return_, 1) := by decide +kernel
def FX11_laysPlans_0   (f : Mm) : Option Mm := ((FX11_laysPlans_ (-1) f).bind fun f1 => some f1)
set_option maxHeartbeats 4000000 in
set_option maxRecDepth 100000 in
theorem SX11_laysPlans_0 {G : GT} {l : Launch} {Q : Option AV → Mem → Prop}   (f : Mm) (h : OkV Q (FX11_laysPlans_0   f)) : Ev G l MX11_laysPlans (Rm 6 0 0) (ZM G Q 0 0) 0 0 0 [some (vR 150)] [] (SH, RF, f) := by
  unfold FX11_laysPlans_0 at h
  refine ev_aload_n (i := 0) dX11_laysPlans_0 rfl rfl ?_
  refine ev_iconst dX11_laysPlans_1 (r32c rfl) ?_
  refine ev_cVV (b := 150) (av := [vI (-1)]) (S := []) (fun q => q) h dX11_laysPlans_2 (fun Q' q => TX11_laysPlans_ (-1) _ q) kvX11_laysPlans_ ml_X11_339 sh_150 rfl (RRc (by decide) (by decide)) (Nat.le_of_ble_eq_true rfl) ⟨Nat.le_of_ble_eq_true rfl, Nat.le_of_ble_eq_true rfl⟩ (fun f1 h => ?_)
  exact ev_vret rfl dX11_laysPlans_5 h
def FX11_laysPlans  (f : Mm) : Option Mm := FX11_laysPlans_0  f
set_option maxRecDepth 100000 in
theorem TX11_laysPlans {G : GT} {l : Launch} {Q : Option AV → Mem → Prop}  (f : Mm) (h : OkV Q (FX11_laysPlans  f)) : Ret G l MX11_laysPlans (6) 0 0 [vR 150] (SH, RF, f) Q := by
  refine ret_of (L := [some (vR 150)]) (by decide) rfl (Nat.le_of_ble_eq_true rfl) ?_
  exact SX11_laysPlans_0  f h
theorem dX11_best_0 : decode cX11_best 0 = .ok (.aload_n 0, 1) := by decide +kernel
theorem dX11_best_1 : decode cX11_best 1 = .ok (.iconst 0, 1) := by decide +kernel
theorem dX11_best_2 : decode cX11_best 2 = .ok (.putfield 98, 3) := by decide +kernel
theorem dX11_best_5 : decode cX11_best 5 = .ok (.aload_n 0, 1) := by decide +kernel
theorem dX11_best_6 : decode cX11_best 6 = .ok (.invokevirtual 272, 3) := by decide +kernel
theorem dX11_best_9 : decode cX11_best 9 = .ok (.ifCond .ne 7, 3) := by decide +kernel
theorem dX11_best_16 : decode cX11_best 16 = .ok (.aload_n 0, 1) := by decide +kernel
theorem dX11_best_17 : decode cX11_best 17 = .ok (.invokevirtual 365, 3) := by decide +kernel
theorem dX11_best_20 : decode cX11_best 20 = .ok (.aload_n 0, 1) := by decide +kernel
theorem dX11_best_21 : decode cX11_best 21 = .ok (.getfield 343, 3) := by decide +kernel
theorem dX11_best_24 : decode cX11_best 24 = .ok (.ireturn, 1) := by decide +kernel
theorem dX11_best_12 : decode cX11_best 12 = .ok (.ldc_w 342, 3) := by decide +kernel
theorem dX11_best_15 : decode cX11_best 15 = .ok (.ireturn, 1) := by decide +kernel
def FX11_best_0   (f : Mm) : Option (Int × Mm) := (b2 (FX11_isBridge (up f 150 0 0)) fun y1 f1 => (if y1 = 0 then some ((-1000000), f1) else ((FX11_laysPlans f1).bind fun f2 => some ((f2 150 31), f2))))
set_option maxHeartbeats 4000000 in
set_option maxRecDepth 100000 in
theorem SX11_best_0 {G : GT} {l : Launch} {Q : Option AV → Mem → Prop}   (f : Mm) (h : OkI Q (FX11_best_0   f)) : Ev G l MX11_best (Rm 7 0 0) (ZM G Q 0 0) 0 0 0 [some (vR 150)] [] (SH, RF, f) := by
  unfold FX11_best_0 at h
  refine ev_aload_n (i := 0) dX11_best_0 rfl rfl ?_
  refine ev_iconst dX11_best_1 (r32c rfl) ?_
  refine ev_putI dX11_best_2 fl_X11_98 sh_150 (by decide) (by decide) ?_
  refine ev_aload_n (i := 0) dX11_best_5 rfl rfl ?_
  refine ev_cVI (b := 150) (av := []) (S := []) (fun q => q) h dX11_best_6 (fun Q' q => TX11_isBridge _ q) kvX11_isBridge ml_X11_272 sh_150 rfl (RRc (by decide) (by decide)) (Nat.le_of_ble_eq_true rfl) ⟨Nat.le_of_ble_eq_true rfl, Nat.le_of_ble_eq_true rfl⟩ (fun y1 f1 h => ?_)
  refine ev_if_ne (tgt := 16) dX11_best_9 (by decide) (fun c3 => ?_) (fun c3 => ?_)
  · rw [if_neg c3] at h
    refine ev_aload_n (i := 0) dX11_best_16 rfl rfl ?_
    refine ev_cVV (b := 150) (av := []) (S := []) (fun q => q) h dX11_best_17 (fun Q' q => TX11_laysPlans _ q) kvX11_laysPlans ml_X11_365 sh_150 rfl (RRc (by decide) (by decide)) (Nat.le_of_ble_eq_true rfl) ⟨Nat.le_of_ble_eq_true rfl, Nat.le_of_ble_eq_true rfl⟩ (fun f2 h => ?_)
    refine ev_aload_n (i := 0) dX11_best_20 rfl rfl ?_
    refine ex_getI (x := (f2 150 31)) dX11_best_21 fl_X11_343 sh_150 (by decide) (by decide) rfl ?_
    exact ev_iret rfl dX11_best_24 h
  · rw [if_pos c3] at h
    refine ev_ldcw (v := (-1000000)) dX11_best_12 (r32c rfl) kc_X11_342 ?_
    exact ev_iret rfl dX11_best_15 h
def FX11_best  (f : Mm) : Option (Int × Mm) := FX11_best_0  f
set_option maxRecDepth 100000 in
theorem TX11_best {G : GT} {l : Launch} {Q : Option AV → Mem → Prop}  (f : Mm) (h : OkI Q (FX11_best  f)) : Ret G l MX11_best (7) 0 0 [vR 150] (SH, RF, f) Q := by
  refine ret_of (L := [some (vR 150)]) (by decide) rfl (Nat.le_of_ble_eq_true rfl) ?_
  exact SX11_best_0  f h
theorem dX11_plan_0 : decode cX11_plan 0 = .ok (.aload_n 0, 1) := by decide +kernel
theorem dX11_plan_1 : decode cX11_plan 1 = .ok (.iconst 0, 1) := by decide +kernel
theorem dX11_plan_2 : decode cX11_plan 2 = .ok (.putfield 98, 3) := by decide +kernel
theorem dX11_plan_5 : decode cX11_plan 5 = .ok (.aload_n 0, 1) := by decide +kernel
theorem dX11_plan_6 : decode cX11_plan 6 = .ok (.iload_n 1, 1) := by decide +kernel
theorem dX11_plan_7 : decode cX11_plan 7 = .ok (.i2l, 1) := by decide +kernel
theorem dX11_plan_8 : decode cX11_plan 8 = .ok (.invokevirtual 324, 3) := by decide +kernel
theorem dX11_plan_11 : decode cX11_plan 11 = .ok (.ifCond .ne 6, 3) := by decide +kernel
theorem dX11_plan_17 : decode cX11_plan 17 = .ok (.aload_n 0, 1) := by decide +kernel
theorem dX11_plan_18 : decode cX11_plan 18 = .ok (.invokevirtual 365, 3) := by decide +kernel
theorem dX11_plan_21 : decode cX11_plan 21 = .ok (.aload_n 0, 1) := by decide +kernel
theorem dX11_plan_22 : decode cX11_plan 22 = .ok (.getfield 71, 3) := by decide +kernel
theorem dX11_plan_25 : decode cX11_plan 25 = .ok (.iload_n 1, 1) := by decide +kernel
theorem dX11_plan_26 : decode cX11_plan 26 = .ok (.iaload, 1) := by decide +kernel
theorem dX11_plan_27 : decode cX11_plan 27 = .ok (.ireturn, 1) := by decide +kernel
theorem dX11_plan_14 : decode cX11_plan 14 = .ok (.bipush (-2), 2) := by decide +kernel
theorem dX11_plan_16 : decode cX11_plan 16 = .ok (.ireturn, 1) := by decide +kernel
def FX11_plan_0  (x1 : Int) (f : Mm) : Option (Int × Mm) := (b2 (FX11_isDay x1 (up f 150 0 0)) fun y1 f1 => (if y1 = 0 then some ((-2), f1) else ((FX11_laysPlans f1).bind fun f2 => (if 0 ≤ x1 ∧ x1 < 6 then some ((f2 169 x1.toNat), f2) else none))))
set_option maxHeartbeats 4000000 in
set_option maxRecDepth 100000 in
theorem SX11_plan_0 {G : GT} {l : Launch} {Q : Option AV → Mem → Prop}  (x1 : Int) (f : Mm) (h : OkI Q (FX11_plan_0  x1 f)) : Ev G l MX11_plan (Rm 7 0 0) (ZM G Q 0 0) 0 0 0 [some (vR 150), some (vI x1)] [] (SH, RF, f) := by
  unfold FX11_plan_0 at h
  refine ev_aload_n (i := 0) dX11_plan_0 rfl rfl ?_
  refine ev_iconst dX11_plan_1 (r32c rfl) ?_
  refine ev_putI dX11_plan_2 fl_X11_98 sh_150 (by decide) (by decide) ?_
  refine ev_aload_n (i := 0) dX11_plan_5 rfl rfl ?_
  refine ev_iload_n (i := 1) dX11_plan_6 rfl rfl ?_
  refine ev_i2l dX11_plan_7 ?_
  refine ev_cVI (b := 150) (av := [vJ x1]) (S := []) (fun q => q) h dX11_plan_8 (fun Q' q => TX11_isDay x1 _ q) kvX11_isDay ml_X11_324 sh_150 rfl (RRc (by decide) (by decide)) (Nat.le_of_ble_eq_true rfl) ⟨Nat.le_of_ble_eq_true rfl, Nat.le_of_ble_eq_true rfl⟩ (fun y1 f1 h => ?_)
  refine ev_if_ne (tgt := 17) dX11_plan_11 (by decide) (fun c4 => ?_) (fun c4 => ?_)
  · rw [if_neg c4] at h
    refine ev_aload_n (i := 0) dX11_plan_17 rfl rfl ?_
    refine ev_cVV (b := 150) (av := []) (S := []) (fun q => q) h dX11_plan_18 (fun Q' q => TX11_laysPlans _ q) kvX11_laysPlans ml_X11_365 sh_150 rfl (RRc (by decide) (by decide)) (Nat.le_of_ble_eq_true rfl) ⟨Nat.le_of_ble_eq_true rfl, Nat.le_of_ble_eq_true rfl⟩ (fun f2 h => ?_)
    refine ev_aload_n (i := 0) dX11_plan_21 rfl rfl ?_
    refine ev_getR dX11_plan_22 fl_X11_71 sh_150 (by decide) (by decide) rf_150_34 ?_
    refine ev_iload_n (i := 1) dX11_plan_25 rfl rfl ?_
    by_cases g3 : 0 ≤ x1 ∧ x1 < 6
    · rw [if_pos g3] at h
      refine ex_iald (x := (f2 169 x1.toNat)) dX11_plan_26 sh_169 g3.1 g3.2 rfl ?_
      exact ev_iret rfl dX11_plan_27 h
    · rw [if_neg g3] at h; exact h.elim
  · rw [if_pos c4] at h
    refine ev_bipush (v := (-2)) dX11_plan_14 (r32c rfl) (by decide) ?_
    exact ev_iret rfl dX11_plan_16 h
def FX11_plan (x1 : Int) (f : Mm) : Option (Int × Mm) := FX11_plan_0 x1 f
set_option maxRecDepth 100000 in
theorem TX11_plan {G : GT} {l : Launch} {Q : Option AV → Mem → Prop} (x1 : Int) (f : Mm) (h : OkI Q (FX11_plan x1 f)) : Ret G l MX11_plan (7) 0 0 [vR 150, vI x1] (SH, RF, f) Q := by
  refine ret_of (L := [some (vR 150), some (vI x1)]) (by decide) rfl (Nat.le_of_ble_eq_true rfl) ?_
  exact SX11_plan_0 x1 f h
theorem dX11_ways_0 : decode cX11_ways 0 = .ok (.aload_n 0, 1) := by decide +kernel
theorem dX11_ways_1 : decode cX11_ways 1 = .ok (.iconst 0, 1) := by decide +kernel
theorem dX11_ways_2 : decode cX11_ways 2 = .ok (.putfield 98, 3) := by decide +kernel
theorem dX11_ways_5 : decode cX11_ways 5 = .ok (.aload_n 0, 1) := by decide +kernel
theorem dX11_ways_6 : decode cX11_ways 6 = .ok (.invokevirtual 272, 3) := by decide +kernel
theorem dX11_ways_9 : decode cX11_ways 9 = .ok (.ifCond .ne 6, 3) := by decide +kernel
theorem dX11_ways_15 : decode cX11_ways 15 = .ok (.aload_n 0, 1) := by decide +kernel
theorem dX11_ways_16 : decode cX11_ways 16 = .ok (.invokevirtual 365, 3) := by decide +kernel
theorem dX11_ways_19 : decode cX11_ways 19 = .ok (.aload_n 0, 1) := by decide +kernel
theorem dX11_ways_20 : decode cX11_ways 20 = .ok (.getfield 362, 3) := by decide +kernel
theorem dX11_ways_23 : decode cX11_ways 23 = .ok (.ireturn, 1) := by decide +kernel
theorem dX11_ways_12 : decode cX11_ways 12 = .ok (.bipush (-2), 2) := by decide +kernel
theorem dX11_ways_14 : decode cX11_ways 14 = .ok (.ireturn, 1) := by decide +kernel
def FX11_ways_0   (f : Mm) : Option (Int × Mm) := (b2 (FX11_isBridge (up f 150 0 0)) fun y1 f1 => (if y1 = 0 then some ((-2), f1) else ((FX11_laysPlans f1).bind fun f2 => some ((f2 150 32), f2))))
set_option maxHeartbeats 4000000 in
set_option maxRecDepth 100000 in
theorem SX11_ways_0 {G : GT} {l : Launch} {Q : Option AV → Mem → Prop}   (f : Mm) (h : OkI Q (FX11_ways_0   f)) : Ev G l MX11_ways (Rm 7 0 0) (ZM G Q 0 0) 0 0 0 [some (vR 150)] [] (SH, RF, f) := by
  unfold FX11_ways_0 at h
  refine ev_aload_n (i := 0) dX11_ways_0 rfl rfl ?_
  refine ev_iconst dX11_ways_1 (r32c rfl) ?_
  refine ev_putI dX11_ways_2 fl_X11_98 sh_150 (by decide) (by decide) ?_
  refine ev_aload_n (i := 0) dX11_ways_5 rfl rfl ?_
  refine ev_cVI (b := 150) (av := []) (S := []) (fun q => q) h dX11_ways_6 (fun Q' q => TX11_isBridge _ q) kvX11_isBridge ml_X11_272 sh_150 rfl (RRc (by decide) (by decide)) (Nat.le_of_ble_eq_true rfl) ⟨Nat.le_of_ble_eq_true rfl, Nat.le_of_ble_eq_true rfl⟩ (fun y1 f1 h => ?_)
  refine ev_if_ne (tgt := 15) dX11_ways_9 (by decide) (fun c3 => ?_) (fun c3 => ?_)
  · rw [if_neg c3] at h
    refine ev_aload_n (i := 0) dX11_ways_15 rfl rfl ?_
    refine ev_cVV (b := 150) (av := []) (S := []) (fun q => q) h dX11_ways_16 (fun Q' q => TX11_laysPlans _ q) kvX11_laysPlans ml_X11_365 sh_150 rfl (RRc (by decide) (by decide)) (Nat.le_of_ble_eq_true rfl) ⟨Nat.le_of_ble_eq_true rfl, Nat.le_of_ble_eq_true rfl⟩ (fun f2 h => ?_)
    refine ev_aload_n (i := 0) dX11_ways_19 rfl rfl ?_
    refine ex_getI (x := (f2 150 32)) dX11_ways_20 fl_X11_362 sh_150 (by decide) (by decide) rfl ?_
    exact ev_iret rfl dX11_ways_23 h
  · rw [if_pos c3] at h
    refine ev_bipush (v := (-2)) dX11_ways_12 (r32c rfl) (by decide) ?_
    exact ev_iret rfl dX11_ways_14 h
def FX11_ways  (f : Mm) : Option (Int × Mm) := FX11_ways_0  f
set_option maxRecDepth 100000 in
theorem TX11_ways {G : GT} {l : Launch} {Q : Option AV → Mem → Prop}  (f : Mm) (h : OkI Q (FX11_ways  f)) : Ret G l MX11_ways (7) 0 0 [vR 150] (SH, RF, f) Q := by
  refine ret_of (L := [some (vR 150)]) (by decide) rfl (Nat.le_of_ble_eq_true rfl) ?_
  exact SX11_ways_0  f h
theorem dX11_peak_48 : decode cX11_peak 48 = .ok (.iinc 2 1, 3) := by decide +kernel
theorem dX11_peak_51 : decode cX11_peak 51 = .ok (.goto (-28), 3) := by decide +kernel
theorem dX11_peak_23 : decode cX11_peak 23 = .ok (.iload_n 2, 1) := by decide +kernel
theorem dX11_peak_24 : decode cX11_peak 24 = .ok (.aload_n 0, 1) := by decide +kernel
theorem dX11_peak_25 : decode cX11_peak 25 = .ok (.invokevirtual 266, 3) := by decide +kernel
theorem dX11_peak_28 : decode cX11_peak 28 = .ok (.if_icmp .ge 26, 3) := by decide +kernel
theorem dX11_peak_54 : decode cX11_peak 54 = .ok (.iload_n 1, 1) := by decide +kernel
theorem dX11_peak_55 : decode cX11_peak 55 = .ok (.ireturn, 1) := by decide +kernel
theorem dX11_peak_31 : decode cX11_peak 31 = .ok (.aload_n 0, 1) := by decide +kernel
theorem dX11_peak_32 : decode cX11_peak 32 = .ok (.getfield 56, 3) := by decide +kernel
theorem dX11_peak_35 : decode cX11_peak 35 = .ok (.iload_n 2, 1) := by decide +kernel
theorem dX11_peak_36 : decode cX11_peak 36 = .ok (.iaload, 1) := by decide +kernel
theorem dX11_peak_37 : decode cX11_peak 37 = .ok (.aload_n 0, 1) := by decide +kernel
theorem dX11_peak_38 : decode cX11_peak 38 = .ok (.getfield 56, 3) := by decide +kernel
theorem dX11_peak_41 : decode cX11_peak 41 = .ok (.iload_n 1, 1) := by decide +kernel
theorem dX11_peak_42 : decode cX11_peak 42 = .ok (.iaload, 1) := by decide +kernel
theorem dX11_peak_43 : decode cX11_peak 43 = .ok (.if_icmp .le 5, 3) := by decide +kernel
theorem dX11_peak_46 : decode cX11_peak 46 = .ok (.iload_n 2, 1) := by decide +kernel
theorem dX11_peak_47 : decode cX11_peak 47 = .ok (.istore_n 1, 1) := by decide +kernel
theorem dX11_peak_0 : decode cX11_peak 0 = .ok (.aload_n 0, 1) := by decide +kernel
theorem dX11_peak_1 : decode cX11_peak 1 = .ok (.iconst 0, 1) := by decide +kernel
theorem dX11_peak_2 : decode cX11_peak 2 = .ok (.putfield 98, 3) := by decide +kernel
theorem dX11_peak_5 : decode cX11_peak 5 = .ok (.aload_n 0, 1) := by decide +kernel
theorem dX11_peak_6 : decode cX11_peak 6 = .ok (.invokevirtual 272, 3) := by decide +kernel
theorem dX11_peak_9 : decode cX11_peak 9 = .ok (.ifCond .ne 6, 3) := by decide +kernel
theorem dX11_peak_15 : decode cX11_peak 15 = .ok (.aload_n 0, 1) := by decide +kernel
theorem dX11_peak_16 : decode cX11_peak 16 = .ok (.invokevirtual 301, 3) := by decide +kernel
theorem dX11_peak_19 : decode cX11_peak 19 = .ok (.iconst 0, 1) := by decide +kernel
theorem dX11_peak_20 : decode cX11_peak 20 = .ok (.istore_n 1, 1) := by decide +kernel
theorem dX11_peak_21 : decode cX11_peak 21 = .ok (.iconst 1, 1) := by decide +kernel
theorem dX11_peak_22 : decode cX11_peak 22 = .ok (.istore_n 2, 1) := by decide +kernel
theorem dX11_peak_12 : decode cX11_peak 12 = .ok (.bipush (-2), 2) := by decide +kernel
theorem dX11_peak_14 : decode cX11_peak 14 = .ok (.ireturn, 1) := by decide +kernel
def FX11_peak_48 (k23 : Int → Int → Mm → Option (Int × Mm)) (x1 : Int) (x2 : Int) (f : Mm) : Option (Int × Mm) := k23 x1 (w32 (x2 + 1)) f
set_option maxHeartbeats 4000000 in
set_option maxRecDepth 100000 in
theorem SX11_peak_48 {G : GT} {l : Launch} {Q : Option AV → Mem → Prop} {k23 : Int → Int → Mm → Option (Int × Mm)} (q23 : ∀ (x1 : Int) (x2 : Int) (f : Mm), OkI Q (k23 x1 x2 f) → Ev G l MX11_peak (Rm 6 0 0) (ZM G Q 0 0) 0 0 23 [some (vR 150), some (vI x1), some (vI x2)] [] (SH, RF, f)) (x1 : Int) (x2 : Int) (f : Mm) (h : OkI Q (FX11_peak_48 k23 x1 x2 f)) : Ev G l MX11_peak (Rm 6 0 0) (ZM G Q 0 0) 0 0 48 [some (vR 150), some (vI x1), some (vI x2)] [] (SH, RF, f) := by
  unfold FX11_peak_48 at h
  refine ev_iinc (L' := [some (vR 150), some (vI x1), some (vI (w32 (x2 + 1)))]) dX11_peak_48 rfl (by decide) rfl ?_
  refine ev_goto (tgt := 23) dX11_peak_51 (by decide) ?_
  exact q23 x1 (w32 (x2 + 1)) _ h
def FX11_peak_23  : Nat → Int → Int → Mm → Option (Int × Mm)
  | 0, _, _, _ => none
  | n + 1, x1, x2, f => (b2 (FX11_days f) fun y1 f1 => (if y1 ≤ x2 then some (x1, f1) else (if 0 ≤ x2 ∧ x2 < 6 then (if 0 ≤ x1 ∧ x1 < 6 then (if (f1 164 x2.toNat) ≤ (f1 164 x1.toNat) then FX11_peak_48 (FX11_peak_23 n) x1 x2 f1 else FX11_peak_48 (FX11_peak_23 n) x2 x2 f1) else none) else none)))
set_option maxHeartbeats 4000000 in
set_option maxRecDepth 100000 in
theorem SX11_peak_23 {G : GT} {l : Launch} {Q : Option AV → Mem → Prop}  : ∀ (n : Nat) (x1 : Int) (x2 : Int) (f : Mm), OkI Q (FX11_peak_23  n x1 x2 f) → Ev G l MX11_peak (Rm 6 0 0) (ZM G Q 0 0) 0 0 23 [some (vR 150), some (vI x1), some (vI x2)] [] (SH, RF, f) := by
  intro n
  induction n with
  | zero => intro x1 x2 f h; exact absurd h (by rw [FX11_peak_23]; exact fun q => q)
  | succ n ih =>
    intro x1 x2 f h
    rw [FX11_peak_23] at h
    refine ev_iload_n (i := 2) dX11_peak_23 rfl rfl ?_
    refine ev_aload_n (i := 0) dX11_peak_24 rfl rfl ?_
    refine ev_cVI (b := 150) (av := []) (S := [vI x2]) (fun q => q) h dX11_peak_25 (fun Q' q => TX11_days _ q) kvX11_days ml_X11_266 sh_150 rfl (RRc (by decide) (by decide)) (Nat.le_of_ble_eq_true rfl) ⟨Nat.le_of_ble_eq_true rfl, Nat.le_of_ble_eq_true rfl⟩ (fun y1 f1 h => ?_)
    refine ev_icmp_ge (tgt := 54) dX11_peak_28 (by decide) (fun c5 => ?_) (fun c5 => ?_)
    · rw [if_pos c5] at h
      refine ev_iload_n (i := 1) dX11_peak_54 rfl rfl ?_
      exact ev_iret rfl dX11_peak_55 h
    · rw [if_neg c5] at h
      refine ev_aload_n (i := 0) dX11_peak_31 rfl rfl ?_
      refine ev_getR dX11_peak_32 fl_X11_56 sh_150 (by decide) (by decide) rf_150_26 ?_
      refine ev_iload_n (i := 2) dX11_peak_35 rfl rfl ?_
      by_cases g2 : 0 ≤ x2 ∧ x2 < 6
      · rw [if_pos g2] at h
        refine ex_iald (x := (f1 164 x2.toNat)) dX11_peak_36 sh_164 g2.1 g2.2 rfl ?_
        refine ev_aload_n (i := 0) dX11_peak_37 rfl rfl ?_
        refine ev_getR dX11_peak_38 fl_X11_56 sh_150 (by decide) (by decide) rf_150_26 ?_
        refine ev_iload_n (i := 1) dX11_peak_41 rfl rfl ?_
        by_cases g3 : 0 ≤ x1 ∧ x1 < 6
        · rw [if_pos g3] at h
          refine ex_iald (x := (f1 164 x1.toNat)) dX11_peak_42 sh_164 g3.1 g3.2 rfl ?_
          refine ev_icmp_le (tgt := 48) dX11_peak_43 (by decide) (fun c4 => ?_) (fun c4 => ?_)
          · rw [if_pos c4] at h
            exact SX11_peak_48 ih x1 x2 _ h
          · rw [if_neg c4] at h
            refine ev_iload_n (i := 2) dX11_peak_46 rfl rfl ?_
            refine ev_istore_n (i := 1) (L' := [some (vR 150), some (vI x2), some (vI x2)]) dX11_peak_47 rfl (by decide) rfl ?_
            exact SX11_peak_48 ih x2 x2 _ h
        · rw [if_neg g3] at h; exact h.elim
      · rw [if_neg g2] at h; exact h.elim
def FX11_peak_0   (f : Mm) : Option (Int × Mm) := (b2 (FX11_isBridge (up f 150 0 0)) fun y1 f1 => (if y1 = 0 then some ((-2), f1) else ((FX11_laysNow f1).bind fun f2 => FX11_peak_23 fu 0 1 f2)))
set_option maxHeartbeats 4000000 in
set_option maxRecDepth 100000 in
theorem SX11_peak_0 {G : GT} {l : Launch} {Q : Option AV → Mem → Prop}   (f : Mm) (h : OkI Q (FX11_peak_0   f)) : Ev G l MX11_peak (Rm 6 0 0) (ZM G Q 0 0) 0 0 0 [some (vR 150), none, none] [] (SH, RF, f) := by
  unfold FX11_peak_0 at h
  refine ev_aload_n (i := 0) dX11_peak_0 rfl rfl ?_
  refine ev_iconst dX11_peak_1 (r32c rfl) ?_
  refine ev_putI dX11_peak_2 fl_X11_98 sh_150 (by decide) (by decide) ?_
  refine ev_aload_n (i := 0) dX11_peak_5 rfl rfl ?_
  refine ev_cVI (b := 150) (av := []) (S := []) (fun q => q) h dX11_peak_6 (fun Q' q => TX11_isBridge _ q) kvX11_isBridge ml_X11_272 sh_150 rfl (RRc (by decide) (by decide)) (Nat.le_of_ble_eq_true rfl) ⟨Nat.le_of_ble_eq_true rfl, Nat.le_of_ble_eq_true rfl⟩ (fun y1 f1 h => ?_)
  refine ev_if_ne (tgt := 15) dX11_peak_9 (by decide) (fun c3 => ?_) (fun c3 => ?_)
  · rw [if_neg c3] at h
    refine ev_aload_n (i := 0) dX11_peak_15 rfl rfl ?_
    refine ev_cVV (b := 150) (av := []) (S := []) (fun q => q) h dX11_peak_16 (fun Q' q => TX11_laysNow _ q) kvX11_laysNow ml_X11_301 sh_150 rfl (RRc (by decide) (by decide)) (Nat.le_of_ble_eq_true rfl) ⟨Nat.le_of_ble_eq_true rfl, Nat.le_of_ble_eq_true rfl⟩ (fun f2 h => ?_)
    refine ev_iconst dX11_peak_19 (r32c rfl) ?_
    refine ev_istore_n (i := 1) (L' := [some (vR 150), some (vI 0), none]) dX11_peak_20 rfl (by decide) rfl ?_
    refine ev_iconst dX11_peak_21 (r32c rfl) ?_
    refine ev_istore_n (i := 2) (L' := [some (vR 150), some (vI 0), some (vI 1)]) dX11_peak_22 rfl (by decide) rfl ?_
    exact SX11_peak_23  fu 0 1 _ h
  · rw [if_pos c3] at h
    refine ev_bipush (v := (-2)) dX11_peak_12 (r32c rfl) (by decide) ?_
    exact ev_iret rfl dX11_peak_14 h
def FX11_peak  (f : Mm) : Option (Int × Mm) := FX11_peak_0  f
set_option maxRecDepth 100000 in
theorem TX11_peak {G : GT} {l : Launch} {Q : Option AV → Mem → Prop}  (f : Mm) (h : OkI Q (FX11_peak  f)) : Ret G l MX11_peak (6) 0 0 [vR 150] (SH, RF, f) Q := by
  refine ret_of (L := [some (vR 150), none, none]) (by decide) rfl (Nat.le_of_ble_eq_true rfl) ?_
  exact SX11_peak_0  f h
theorem dX11_lacks_83 : decode cX11_lacks 83 = .ok (.aload_n 0, 1) := by decide +kernel
theorem dX11_lacks_84 : decode cX11_lacks 84 = .ok (.getfield 40, 3) := by decide +kernel
theorem dX11_lacks_87 : decode cX11_lacks 87 = .ok (.iconst 5, 1) := by decide +kernel
theorem dX11_lacks_88 : decode cX11_lacks 88 = .ok (.iload_n 1, 1) := by decide +kernel
theorem dX11_lacks_89 : decode cX11_lacks 89 = .ok (.imul, 1) := by decide +kernel
theorem dX11_lacks_90 : decode cX11_lacks 90 = .ok (.iconst 1, 1) := by decide +kernel
theorem dX11_lacks_91 : decode cX11_lacks 91 = .ok (.iadd, 1) := by decide +kernel
theorem dX11_lacks_92 : decode cX11_lacks 92 = .ok (.iaload, 1) := by decide +kernel
theorem dX11_lacks_93 : decode cX11_lacks 93 = .ok (.iload_n 2, 1) := by decide +kernel
theorem dX11_lacks_94 : decode cX11_lacks 94 = .ok (.if_icmp .le 18, 3) := by decide +kernel
theorem dX11_lacks_112 : decode cX11_lacks 112 = .ok (.iconst 0, 1) := by decide +kernel
theorem dX11_lacks_113 : decode cX11_lacks 113 = .ok (.ireturn, 1) := by decide +kernel
theorem dX11_lacks_97 : decode cX11_lacks 97 = .ok (.aload_n 0, 1) := by decide +kernel
theorem dX11_lacks_98 : decode cX11_lacks 98 = .ok (.getfield 40, 3) := by decide +kernel
theorem dX11_lacks_101 : decode cX11_lacks 101 = .ok (.iconst 5, 1) := by decide +kernel
theorem dX11_lacks_102 : decode cX11_lacks 102 = .ok (.iload_n 1, 1) := by decide +kernel
theorem dX11_lacks_103 : decode cX11_lacks 103 = .ok (.imul, 1) := by decide +kernel
theorem dX11_lacks_104 : decode cX11_lacks 104 = .ok (.iconst 1, 1) := by decide +kernel
theorem dX11_lacks_105 : decode cX11_lacks 105 = .ok (.iadd, 1) := by decide +kernel
theorem dX11_lacks_106 : decode cX11_lacks 106 = .ok (.iaload, 1) := by decide +kernel
theorem dX11_lacks_107 : decode cX11_lacks 107 = .ok (.iload_n 2, 1) := by decide +kernel
theorem dX11_lacks_108 : decode cX11_lacks 108 = .ok (.isub, 1) := by decide +kernel
theorem dX11_lacks_109 : decode cX11_lacks 109 = .ok (.goto 4, 3) := by decide +kernel
theorem dX11_lacks_77 : decode cX11_lacks 77 = .ok (.iinc 3 1, 3) := by decide +kernel
theorem dX11_lacks_80 : decode cX11_lacks 80 = .ok (.goto (-56), 3) := by decide +kernel
theorem dX11_lacks_24 : decode cX11_lacks 24 = .ok (.iload_n 3, 1) := by decide +kernel
theorem dX11_lacks_25 : decode cX11_lacks 25 = .ok (.aload_n 0, 1) := by decide +kernel
theorem dX11_lacks_26 : decode cX11_lacks 26 = .ok (.invokevirtual 266, 3) := by decide +kernel
theorem dX11_lacks_29 : decode cX11_lacks 29 = .ok (.if_icmp .ge 54, 3) := by decide +kernel
theorem dX11_lacks_32 : decode cX11_lacks 32 = .ok (.iload_n 3, 1) := by decide +kernel
theorem dX11_lacks_33 : decode cX11_lacks 33 = .ok (.aload_n 0, 1) := by decide +kernel
theorem dX11_lacks_34 : decode cX11_lacks 34 = .ok (.getfield 40, 3) := by decide +kernel
theorem dX11_lacks_37 : decode cX11_lacks 37 = .ok (.iconst 5, 1) := by decide +kernel
theorem dX11_lacks_38 : decode cX11_lacks 38 = .ok (.iload_n 1, 1) := by decide +kernel
theorem dX11_lacks_39 : decode cX11_lacks 39 = .ok (.imul, 1) := by decide +kernel
theorem dX11_lacks_40 : decode cX11_lacks 40 = .ok (.iconst 2, 1) := by decide +kernel
theorem dX11_lacks_41 : decode cX11_lacks 41 = .ok (.iadd, 1) := by decide +kernel
theorem dX11_lacks_42 : decode cX11_lacks 42 = .ok (.iaload, 1) := by decide +kernel
theorem dX11_lacks_43 : decode cX11_lacks 43 = .ok (.if_icmp .lt 34, 3) := by decide +kernel
theorem dX11_lacks_46 : decode cX11_lacks 46 = .ok (.iload_n 3, 1) := by decide +kernel
theorem dX11_lacks_47 : decode cX11_lacks 47 = .ok (.aload_n 0, 1) := by decide +kernel
theorem dX11_lacks_48 : decode cX11_lacks 48 = .ok (.getfield 40, 3) := by decide +kernel
theorem dX11_lacks_51 : decode cX11_lacks 51 = .ok (.iconst 5, 1) := by decide +kernel
theorem dX11_lacks_52 : decode cX11_lacks 52 = .ok (.iload_n 1, 1) := by decide +kernel
theorem dX11_lacks_53 : decode cX11_lacks 53 = .ok (.imul, 1) := by decide +kernel
theorem dX11_lacks_54 : decode cX11_lacks 54 = .ok (.iconst 3, 1) := by decide +kernel
theorem dX11_lacks_55 : decode cX11_lacks 55 = .ok (.iadd, 1) := by decide +kernel
theorem dX11_lacks_56 : decode cX11_lacks 56 = .ok (.iaload, 1) := by decide +kernel
theorem dX11_lacks_57 : decode cX11_lacks 57 = .ok (.if_icmp .gt 20, 3) := by decide +kernel
theorem dX11_lacks_60 : decode cX11_lacks 60 = .ok (.aload_n 0, 1) := by decide +kernel
theorem dX11_lacks_61 : decode cX11_lacks 61 = .ok (.getfield 56, 3) := by decide +kernel
theorem dX11_lacks_64 : decode cX11_lacks 64 = .ok (.iload_n 3, 1) := by decide +kernel
theorem dX11_lacks_65 : decode cX11_lacks 65 = .ok (.iaload, 1) := by decide +kernel
theorem dX11_lacks_66 : decode cX11_lacks 66 = .ok (.iload_n 2, 1) := by decide +kernel
theorem dX11_lacks_67 : decode cX11_lacks 67 = .ok (.if_icmp .le 10, 3) := by decide +kernel
theorem dX11_lacks_70 : decode cX11_lacks 70 = .ok (.aload_n 0, 1) := by decide +kernel
theorem dX11_lacks_71 : decode cX11_lacks 71 = .ok (.getfield 56, 3) := by decide +kernel
theorem dX11_lacks_74 : decode cX11_lacks 74 = .ok (.iload_n 3, 1) := by decide +kernel
theorem dX11_lacks_75 : decode cX11_lacks 75 = .ok (.iaload, 1) := by decide +kernel
theorem dX11_lacks_76 : decode cX11_lacks 76 = .ok (.istore_n 2, 1) := by decide +kernel
theorem dX11_lacks_0 : decode cX11_lacks 0 = .ok (.aload_n 0, 1) := by decide +kernel
theorem dX11_lacks_1 : decode cX11_lacks 1 = .ok (.iconst 0, 1) := by decide +kernel
theorem dX11_lacks_2 : decode cX11_lacks 2 = .ok (.putfield 98, 3) := by decide +kernel
theorem dX11_lacks_5 : decode cX11_lacks 5 = .ok (.aload_n 0, 1) := by decide +kernel
theorem dX11_lacks_6 : decode cX11_lacks 6 = .ok (.iload_n 1, 1) := by decide +kernel
theorem dX11_lacks_7 : decode cX11_lacks 7 = .ok (.invokevirtual 316, 3) := by decide +kernel
theorem dX11_lacks_10 : decode cX11_lacks 10 = .ok (.ifCond .ne 6, 3) := by decide +kernel
theorem dX11_lacks_16 : decode cX11_lacks 16 = .ok (.aload_n 0, 1) := by decide +kernel
theorem dX11_lacks_17 : decode cX11_lacks 17 = .ok (.invokevirtual 301, 3) := by decide +kernel
theorem dX11_lacks_20 : decode cX11_lacks 20 = .ok (.iconst 0, 1) := by decide +kernel
theorem dX11_lacks_21 : decode cX11_lacks 21 = .ok (.istore_n 2, 1) := by decide +kernel
theorem dX11_lacks_22 : decode cX11_lacks 22 = .ok (.iconst 0, 1) := by decide +kernel
theorem dX11_lacks_23 : decode cX11_lacks 23 = .ok (.istore_n 3, 1) := by decide +kernel
theorem dX11_lacks_13 : decode cX11_lacks 13 = .ok (.bipush (-2), 2) := by decide +kernel
theorem dX11_lacks_15 : decode cX11_lacks 15 = .ok (.ireturn, 1) := by decide +kernel
def FX11_lacks_83  (x1 : Int) (x2 : Int) (f : Mm) : Option (Int × Mm) := (if 0 ≤ (w32 ((w32 (5 * x1)) + 1)) ∧ (w32 ((w32 (5 * x1)) + 1)) < 150 then (if (f 159 (w32 ((w32 (5 * x1)) + 1)).toNat) ≤ x2 then some (0, f) else (if 0 ≤ (w32 ((w32 (5 * x1)) + 1)) ∧ (w32 ((w32 (5 * x1)) + 1)) < 150 then some ((w32 ((f 159 (w32 ((w32 (5 * x1)) + 1)).toNat) - x2)), f) else none)) else none)
set_option maxHeartbeats 4000000 in
set_option maxRecDepth 100000 in
theorem SX11_lacks_83 {G : GT} {l : Launch} {Q : Option AV → Mem → Prop}  (x1 : Int) (x2 : Int) (f : Mm) (h : OkI Q (FX11_lacks_83  x1 x2 f)) : Ev G l MX11_lacks (Rm 6 0 0) (ZM G Q 0 0) 0 0 83 [some (vR 150), some (vI x1), some (vI x2), none] [] (SH, RF, f) := by
  unfold FX11_lacks_83 at h
  refine ev_aload_n (i := 0) dX11_lacks_83 rfl rfl ?_
  refine ev_getR dX11_lacks_84 fl_X11_40 sh_150 (by decide) (by decide) rf_150_19 ?_
  refine ev_iconst dX11_lacks_87 (r32c rfl) ?_
  refine ev_iload_n (i := 1) dX11_lacks_88 rfl rfl ?_
  refine ev_imul dX11_lacks_89 ?_
  refine ev_iconst dX11_lacks_90 (r32c rfl) ?_
  refine ev_iadd dX11_lacks_91 ?_
  by_cases g1 : 0 ≤ (w32 ((w32 (5 * x1)) + 1)) ∧ (w32 ((w32 (5 * x1)) + 1)) < 150
  · rw [if_pos g1] at h
    refine ex_iald (x := (f 159 (w32 ((w32 (5 * x1)) + 1)).toNat)) dX11_lacks_92 sh_159 g1.1 g1.2 rfl ?_
    refine ev_iload_n (i := 2) dX11_lacks_93 rfl rfl ?_
    refine ev_icmp_le (tgt := 112) dX11_lacks_94 (by decide) (fun c3 => ?_) (fun c3 => ?_)
    · rw [if_pos c3] at h
      refine ev_iconst dX11_lacks_112 (r32c rfl) ?_
      exact ev_iret rfl dX11_lacks_113 h
    · rw [if_neg c3] at h
      refine ev_aload_n (i := 0) dX11_lacks_97 rfl rfl ?_
      refine ev_getR dX11_lacks_98 fl_X11_40 sh_150 (by decide) (by decide) rf_150_19 ?_
      refine ev_iconst dX11_lacks_101 (r32c rfl) ?_
      refine ev_iload_n (i := 1) dX11_lacks_102 rfl rfl ?_
      refine ev_imul dX11_lacks_103 ?_
      refine ev_iconst dX11_lacks_104 (r32c rfl) ?_
      refine ev_iadd dX11_lacks_105 ?_
      by_cases g2 : 0 ≤ (w32 ((w32 (5 * x1)) + 1)) ∧ (w32 ((w32 (5 * x1)) + 1)) < 150
      · rw [if_pos g2] at h
        refine ex_iald (x := (f 159 (w32 ((w32 (5 * x1)) + 1)).toNat)) dX11_lacks_106 sh_159 g2.1 g2.2 rfl ?_
        refine ev_iload_n (i := 2) dX11_lacks_107 rfl rfl ?_
        refine ev_isub dX11_lacks_108 ?_
        refine ev_goto (tgt := 113) dX11_lacks_109 (by decide) ?_
        exact ev_iret rfl dX11_lacks_113 h
      · rw [if_neg g2] at h; exact h.elim
  · rw [if_neg g1] at h; exact h.elim
def FX11_lacks_77 (k24 : Int → Int → Int → Mm → Option (Int × Mm)) (x1 : Int) (x2 : Int) (x3 : Int) (f : Mm) : Option (Int × Mm) := k24 x1 x2 (w32 (x3 + 1)) f
set_option maxHeartbeats 4000000 in
set_option maxRecDepth 100000 in
theorem SX11_lacks_77 {G : GT} {l : Launch} {Q : Option AV → Mem → Prop} {k24 : Int → Int → Int → Mm → Option (Int × Mm)} (q24 : ∀ (x1 : Int) (x2 : Int) (x3 : Int) (f : Mm), OkI Q (k24 x1 x2 x3 f) → Ev G l MX11_lacks (Rm 6 0 0) (ZM G Q 0 0) 0 0 24 [some (vR 150), some (vI x1), some (vI x2), some (vI x3)] [] (SH, RF, f)) (x1 : Int) (x2 : Int) (x3 : Int) (f : Mm) (h : OkI Q (FX11_lacks_77 k24 x1 x2 x3 f)) : Ev G l MX11_lacks (Rm 6 0 0) (ZM G Q 0 0) 0 0 77 [some (vR 150), some (vI x1), some (vI x2), some (vI x3)] [] (SH, RF, f) := by
  unfold FX11_lacks_77 at h
  refine ev_iinc (L' := [some (vR 150), some (vI x1), some (vI x2), some (vI (w32 (x3 + 1)))]) dX11_lacks_77 rfl (by decide) rfl ?_
  refine ev_goto (tgt := 24) dX11_lacks_80 (by decide) ?_
  exact q24 x1 x2 (w32 (x3 + 1)) _ h
def FX11_lacks_24  : Nat → Int → Int → Int → Mm → Option (Int × Mm)
  | 0, _, _, _, _ => none
  | n + 1, x1, x2, x3, f => (b2 (FX11_days f) fun y1 f1 => (if y1 ≤ x3 then FX11_lacks_83 x1 x2 f1 else (if 0 ≤ (w32 ((w32 (5 * x1)) + 2)) ∧ (w32 ((w32 (5 * x1)) + 2)) < 150 then (if x3 < (f1 159 (w32 ((w32 (5 * x1)) + 2)).toNat) then FX11_lacks_77 (FX11_lacks_24 n) x1 x2 x3 f1 else (if 0 ≤ (w32 ((w32 (5 * x1)) + 3)) ∧ (w32 ((w32 (5 * x1)) + 3)) < 150 then (if (f1 159 (w32 ((w32 (5 * x1)) + 3)).toNat) < x3 then FX11_lacks_77 (FX11_lacks_24 n) x1 x2 x3 f1 else (if 0 ≤ x3 ∧ x3 < 6 then (if (f1 164 x3.toNat) ≤ x2 then FX11_lacks_77 (FX11_lacks_24 n) x1 x2 x3 f1 else (if 0 ≤ x3 ∧ x3 < 6 then FX11_lacks_77 (FX11_lacks_24 n) x1 (f1 164 x3.toNat) x3 f1 else none)) else none)) else none)) else none)))
set_option maxHeartbeats 4000000 in
set_option maxRecDepth 100000 in
theorem SX11_lacks_24 {G : GT} {l : Launch} {Q : Option AV → Mem → Prop}  : ∀ (n : Nat) (x1 : Int) (x2 : Int) (x3 : Int) (f : Mm), OkI Q (FX11_lacks_24  n x1 x2 x3 f) → Ev G l MX11_lacks (Rm 6 0 0) (ZM G Q 0 0) 0 0 24 [some (vR 150), some (vI x1), some (vI x2), some (vI x3)] [] (SH, RF, f) := by
  intro n
  induction n with
  | zero => intro x1 x2 x3 f h; exact absurd h (by rw [FX11_lacks_24]; exact fun q => q)
  | succ n ih =>
    intro x1 x2 x3 f h
    rw [FX11_lacks_24] at h
    refine ev_iload_n (i := 3) dX11_lacks_24 rfl rfl ?_
    refine ev_aload_n (i := 0) dX11_lacks_25 rfl rfl ?_
    refine ev_cVI (b := 150) (av := []) (S := [vI x3]) (fun q => q) h dX11_lacks_26 (fun Q' q => TX11_days _ q) kvX11_days ml_X11_266 sh_150 rfl (RRc (by decide) (by decide)) (Nat.le_of_ble_eq_true rfl) ⟨Nat.le_of_ble_eq_true rfl, Nat.le_of_ble_eq_true rfl⟩ (fun y1 f1 h => ?_)
    refine ev_icmp_ge (tgt := 83) dX11_lacks_29 (by decide) (fun c9 => ?_) (fun c9 => ?_)
    · rw [if_pos c9] at h
      refine ev_fg [true, true, true, false] rfl ?_
      exact SX11_lacks_83  x1 x2 _ h
    · rw [if_neg c9] at h
      refine ev_iload_n (i := 3) dX11_lacks_32 rfl rfl ?_
      refine ev_aload_n (i := 0) dX11_lacks_33 rfl rfl ?_
      refine ev_getR dX11_lacks_34 fl_X11_40 sh_150 (by decide) (by decide) rf_150_19 ?_
      refine ev_iconst dX11_lacks_37 (r32c rfl) ?_
      refine ev_iload_n (i := 1) dX11_lacks_38 rfl rfl ?_
      refine ev_imul dX11_lacks_39 ?_
      refine ev_iconst dX11_lacks_40 (r32c rfl) ?_
      refine ev_iadd dX11_lacks_41 ?_
      by_cases g2 : 0 ≤ (w32 ((w32 (5 * x1)) + 2)) ∧ (w32 ((w32 (5 * x1)) + 2)) < 150
      · rw [if_pos g2] at h
        refine ex_iald (x := (f1 159 (w32 ((w32 (5 * x1)) + 2)).toNat)) dX11_lacks_42 sh_159 g2.1 g2.2 rfl ?_
        refine ev_icmp_lt (tgt := 77) dX11_lacks_43 (by decide) (fun c8 => ?_) (fun c8 => ?_)
        · rw [if_pos c8] at h
          exact SX11_lacks_77 ih x1 x2 x3 _ h
        · rw [if_neg c8] at h
          refine ev_iload_n (i := 3) dX11_lacks_46 rfl rfl ?_
          refine ev_aload_n (i := 0) dX11_lacks_47 rfl rfl ?_
          refine ev_getR dX11_lacks_48 fl_X11_40 sh_150 (by decide) (by decide) rf_150_19 ?_
          refine ev_iconst dX11_lacks_51 (r32c rfl) ?_
          refine ev_iload_n (i := 1) dX11_lacks_52 rfl rfl ?_
          refine ev_imul dX11_lacks_53 ?_
          refine ev_iconst dX11_lacks_54 (r32c rfl) ?_
          refine ev_iadd dX11_lacks_55 ?_
          by_cases g3 : 0 ≤ (w32 ((w32 (5 * x1)) + 3)) ∧ (w32 ((w32 (5 * x1)) + 3)) < 150
          · rw [if_pos g3] at h
            refine ex_iald (x := (f1 159 (w32 ((w32 (5 * x1)) + 3)).toNat)) dX11_lacks_56 sh_159 g3.1 g3.2 rfl ?_
            refine ev_icmp_gt (tgt := 77) dX11_lacks_57 (by decide) (fun c7 => ?_) (fun c7 => ?_)
            · rw [if_pos c7] at h
              exact SX11_lacks_77 ih x1 x2 x3 _ h
            · rw [if_neg c7] at h
              refine ev_aload_n (i := 0) dX11_lacks_60 rfl rfl ?_
              refine ev_getR dX11_lacks_61 fl_X11_56 sh_150 (by decide) (by decide) rf_150_26 ?_
              refine ev_iload_n (i := 3) dX11_lacks_64 rfl rfl ?_
              by_cases g4 : 0 ≤ x3 ∧ x3 < 6
              · rw [if_pos g4] at h
                refine ex_iald (x := (f1 164 x3.toNat)) dX11_lacks_65 sh_164 g4.1 g4.2 rfl ?_
                refine ev_iload_n (i := 2) dX11_lacks_66 rfl rfl ?_
                refine ev_icmp_le (tgt := 77) dX11_lacks_67 (by decide) (fun c6 => ?_) (fun c6 => ?_)
                · rw [if_pos c6] at h
                  exact SX11_lacks_77 ih x1 x2 x3 _ h
                · rw [if_neg c6] at h
                  refine ev_aload_n (i := 0) dX11_lacks_70 rfl rfl ?_
                  refine ev_getR dX11_lacks_71 fl_X11_56 sh_150 (by decide) (by decide) rf_150_26 ?_
                  refine ev_iload_n (i := 3) dX11_lacks_74 rfl rfl ?_
                  by_cases g5 : 0 ≤ x3 ∧ x3 < 6
                  · rw [if_pos g5] at h
                    refine ex_iald (x := (f1 164 x3.toNat)) dX11_lacks_75 sh_164 g5.1 g5.2 rfl ?_
                    refine ev_istore_n (i := 2) (L' := [some (vR 150), some (vI x1), some (vI (f1 164 x3.toNat)), some (vI x3)]) dX11_lacks_76 rfl (by decide) rfl ?_
                    exact SX11_lacks_77 ih x1 (f1 164 x3.toNat) x3 _ h
                  · rw [if_neg g5] at h; exact h.elim
              · rw [if_neg g4] at h; exact h.elim
          · rw [if_neg g3] at h; exact h.elim
      · rw [if_neg g2] at h; exact h.elim
def FX11_lacks_0  (x1 : Int) (f : Mm) : Option (Int × Mm) := (b2 (FX11_isCart x1 (up f 150 0 0)) fun y1 f1 => (if y1 = 0 then some ((-2), f1) else ((FX11_laysNow f1).bind fun f2 => FX11_lacks_24 fu x1 0 0 f2)))
set_option maxHeartbeats 4000000 in
set_option maxRecDepth 100000 in
theorem SX11_lacks_0 {G : GT} {l : Launch} {Q : Option AV → Mem → Prop}  (x1 : Int) (f : Mm) (h : OkI Q (FX11_lacks_0  x1 f)) : Ev G l MX11_lacks (Rm 6 0 0) (ZM G Q 0 0) 0 0 0 [some (vR 150), some (vI x1), none, none] [] (SH, RF, f) := by
  unfold FX11_lacks_0 at h
  refine ev_aload_n (i := 0) dX11_lacks_0 rfl rfl ?_
  refine ev_iconst dX11_lacks_1 (r32c rfl) ?_
  refine ev_putI dX11_lacks_2 fl_X11_98 sh_150 (by decide) (by decide) ?_
  refine ev_aload_n (i := 0) dX11_lacks_5 rfl rfl ?_
  refine ev_iload_n (i := 1) dX11_lacks_6 rfl rfl ?_
  refine ev_cVI (b := 150) (av := [vI x1]) (S := []) (fun q => q) h dX11_lacks_7 (fun Q' q => TX11_isCart x1 _ q) kvX11_isCart ml_X11_316 sh_150 rfl (RRc (by decide) (by decide)) (Nat.le_of_ble_eq_true rfl) ⟨Nat.le_of_ble_eq_true rfl, Nat.le_of_ble_eq_true rfl⟩ (fun y1 f1 h => ?_)
  refine ev_if_ne (tgt := 16) dX11_lacks_10 (by decide) (fun c3 => ?_) (fun c3 => ?_)
  · rw [if_neg c3] at h
    refine ev_aload_n (i := 0) dX11_lacks_16 rfl rfl ?_
    refine ev_cVV (b := 150) (av := []) (S := []) (fun q => q) h dX11_lacks_17 (fun Q' q => TX11_laysNow _ q) kvX11_laysNow ml_X11_301 sh_150 rfl (RRc (by decide) (by decide)) (Nat.le_of_ble_eq_true rfl) ⟨Nat.le_of_ble_eq_true rfl, Nat.le_of_ble_eq_true rfl⟩ (fun f2 h => ?_)
    refine ev_iconst dX11_lacks_20 (r32c rfl) ?_
    refine ev_istore_n (i := 2) (L' := [some (vR 150), some (vI x1), some (vI 0), none]) dX11_lacks_21 rfl (by decide) rfl ?_
    refine ev_iconst dX11_lacks_22 (r32c rfl) ?_
    refine ev_istore_n (i := 3) (L' := [some (vR 150), some (vI x1), some (vI 0), some (vI 0)]) dX11_lacks_23 rfl (by decide) rfl ?_
    exact SX11_lacks_24  fu x1 0 0 _ h
  · rw [if_pos c3] at h
    refine ev_bipush (v := (-2)) dX11_lacks_13 (r32c rfl) (by decide) ?_
    exact ev_iret rfl dX11_lacks_15 h
def FX11_lacks (x1 : Int) (f : Mm) : Option (Int × Mm) := FX11_lacks_0 x1 f
set_option maxRecDepth 100000 in
theorem TX11_lacks {G : GT} {l : Launch} {Q : Option AV → Mem → Prop} (x1 : Int) (f : Mm) (h : OkI Q (FX11_lacks x1 f)) : Ret G l MX11_lacks (6) 0 0 [vR 150, vI x1] (SH, RF, f) Q := by
  refine ret_of (L := [some (vR 150), some (vI x1), none, none]) (by decide) rfl (Nat.le_of_ble_eq_true rfl) ?_
  exact SX11_lacks_0 x1 f h
theorem dX11_crowd_89 : decode cX11_crowd 89 = .ok (.iinc 3 1, 3) := by decide +kernel
theorem dX11_crowd_92 : decode cX11_crowd 92 = .ok (.goto (-67), 3) := by decide +kernel
theorem dX11_crowd_75 : decode cX11_crowd 75 = .ok (.iload 4, 2) := by decide +kernel
theorem dX11_crowd_77 : decode cX11_crowd 77 = .ok (.iload_n 2, 1) := by decide +kernel
theorem dX11_crowd_78 : decode cX11_crowd 78 = .ok (.if_icmp .gt 6, 3) := by decide +kernel
theorem dX11_crowd_84 : decode cX11_crowd 84 = .ok (.iload_n 3, 1) := by decide +kernel
theorem dX11_crowd_85 : decode cX11_crowd 85 = .ok (.istore_n 1, 1) := by decide +kernel
theorem dX11_crowd_86 : decode cX11_crowd 86 = .ok (.iload 4, 2) := by decide +kernel
theorem dX11_crowd_88 : decode cX11_crowd 88 = .ok (.istore_n 2, 1) := by decide +kernel
theorem dX11_crowd_81 : decode cX11_crowd 81 = .ok (.goto 8, 3) := by decide +kernel
theorem dX11_crowd_66 : decode cX11_crowd 66 = .ok (.iadd, 1) := by decide +kernel
theorem dX11_crowd_67 : decode cX11_crowd 67 = .ok (.istore 4, 2) := by decide +kernel
theorem dX11_crowd_69 : decode cX11_crowd 69 = .ok (.iinc 5 1, 3) := by decide +kernel
theorem dX11_crowd_72 : decode cX11_crowd 72 = .ok (.goto (-33), 3) := by decide +kernel
theorem dX11_crowd_39 : decode cX11_crowd 39 = .ok (.iload 5, 2) := by decide +kernel
theorem dX11_crowd_41 : decode cX11_crowd 41 = .ok (.aload_n 0, 1) := by decide +kernel
theorem dX11_crowd_42 : decode cX11_crowd 42 = .ok (.invokevirtual 269, 3) := by decide +kernel
theorem dX11_crowd_45 : decode cX11_crowd 45 = .ok (.if_icmp .ge 30, 3) := by decide +kernel
theorem dX11_crowd_48 : decode cX11_crowd 48 = .ok (.iload 4, 2) := by decide +kernel
theorem dX11_crowd_50 : decode cX11_crowd 50 = .ok (.aload_n 0, 1) := by decide +kernel
theorem dX11_crowd_51 : decode cX11_crowd 51 = .ok (.getfield 65, 3) := by decide +kernel
theorem dX11_crowd_54 : decode cX11_crowd 54 = .ok (.iload 5, 2) := by decide +kernel
theorem dX11_crowd_56 : decode cX11_crowd 56 = .ok (.iaload, 1) := by decide +kernel
theorem dX11_crowd_57 : decode cX11_crowd 57 = .ok (.iload_n 3, 1) := by decide +kernel
theorem dX11_crowd_58 : decode cX11_crowd 58 = .ok (.if_icmp .ne 7, 3) := by decide +kernel
theorem dX11_crowd_65 : decode cX11_crowd 65 = .ok (.iconst 0, 1) := by decide +kernel
theorem dX11_crowd_61 : decode cX11_crowd 61 = .ok (.iconst 1, 1) := by decide +kernel
theorem dX11_crowd_62 : decode cX11_crowd 62 = .ok (.goto 4, 3) := by decide +kernel
theorem dX11_crowd_25 : decode cX11_crowd 25 = .ok (.iload_n 3, 1) := by decide +kernel
theorem dX11_crowd_26 : decode cX11_crowd 26 = .ok (.aload_n 0, 1) := by decide +kernel
theorem dX11_crowd_27 : decode cX11_crowd 27 = .ok (.invokevirtual 266, 3) := by decide +kernel
theorem dX11_crowd_30 : decode cX11_crowd 30 = .ok (.if_icmp .ge 65, 3) := by decide +kernel
theorem dX11_crowd_95 : decode cX11_crowd 95 = .ok (.iload_n 1, 1) := by decide +kernel
theorem dX11_crowd_96 : decode cX11_crowd 96 = .ok (.ireturn, 1) := by decide +kernel
theorem dX11_crowd_33 : decode cX11_crowd 33 = .ok (.iconst 0, 1) := by decide +kernel
theorem dX11_crowd_34 : decode cX11_crowd 34 = .ok (.istore 4, 2) := by decide +kernel
theorem dX11_crowd_36 : decode cX11_crowd 36 = .ok (.iconst 0, 1) := by decide +kernel
theorem dX11_crowd_37 : decode cX11_crowd 37 = .ok (.istore 5, 2) := by decide +kernel
theorem dX11_crowd_0 : decode cX11_crowd 0 = .ok (.aload_n 0, 1) := by decide +kernel
theorem dX11_crowd_1 : decode cX11_crowd 1 = .ok (.iconst 0, 1) := by decide +kernel
theorem dX11_crowd_2 : decode cX11_crowd 2 = .ok (.putfield 98, 3) := by decide +kernel
theorem dX11_crowd_5 : decode cX11_crowd 5 = .ok (.aload_n 0, 1) := by decide +kernel
theorem dX11_crowd_6 : decode cX11_crowd 6 = .ok (.invokevirtual 272, 3) := by decide +kernel
theorem dX11_crowd_9 : decode cX11_crowd 9 = .ok (.ifCond .ne 6, 3) := by decide +kernel
theorem dX11_crowd_15 : decode cX11_crowd 15 = .ok (.aload_n 0, 1) := by decide +kernel
theorem dX11_crowd_16 : decode cX11_crowd 16 = .ok (.invokevirtual 327, 3) := by decide +kernel
theorem dX11_crowd_19 : decode cX11_crowd 19 = .ok (.iconst (-1), 1) := by decide +kernel
theorem dX11_crowd_20 : decode cX11_crowd 20 = .ok (.istore_n 1, 1) := by decide +kernel
theorem dX11_crowd_21 : decode cX11_crowd 21 = .ok (.iconst 0, 1) := by decide +kernel
theorem dX11_crowd_22 : decode cX11_crowd 22 = .ok (.istore_n 2, 1) := by decide +kernel
theorem dX11_crowd_23 : decode cX11_crowd 23 = .ok (.iconst 0, 1) := by decide +kernel
theorem dX11_crowd_24 : decode cX11_crowd 24 = .ok (.istore_n 3, 1) := by decide +kernel
theorem dX11_crowd_12 : decode cX11_crowd 12 = .ok (.bipush (-2), 2) := by decide +kernel
theorem dX11_crowd_14 : decode cX11_crowd 14 = .ok (.ireturn, 1) := by decide +kernel
def FX11_crowd_89 (k25 : Int → Int → Int → Mm → Option (Int × Mm)) (x1 : Int) (x2 : Int) (x3 : Int) (f : Mm) : Option (Int × Mm) := k25 x1 x2 (w32 (x3 + 1)) f
set_option maxHeartbeats 4000000 in
set_option maxRecDepth 100000 in
theorem SX11_crowd_89 {G : GT} {l : Launch} {Q : Option AV → Mem → Prop} {k25 : Int → Int → Int → Mm → Option (Int × Mm)} (q25 : ∀ (x1 : Int) (x2 : Int) (x3 : Int) (f : Mm), OkI Q (k25 x1 x2 x3 f) → Ev G l MX11_crowd (Rm 7 0 0) (ZM G Q 0 0) 0 0 25 [some (vR 150), some (vI x1), some (vI x2), some (vI x3), none, none] [] (SH, RF, f)) (x1 : Int) (x2 : Int) (x3 : Int) (f : Mm) (h : OkI Q (FX11_crowd_89 k25 x1 x2 x3 f)) : Ev G l MX11_crowd (Rm 7 0 0) (ZM G Q 0 0) 0 0 89 [some (vR 150), some (vI x1), some (vI x2), some (vI x3), none, none] [] (SH, RF, f) := by
  unfold FX11_crowd_89 at h
  refine ev_iinc (L' := [some (vR 150), some (vI x1), some (vI x2), some (vI (w32 (x3 + 1))), none, none]) dX11_crowd_89 rfl (by decide) rfl ?_
  refine ev_goto (tgt := 25) dX11_crowd_92 (by decide) ?_
  exact q25 x1 x2 (w32 (x3 + 1)) _ h
def FX11_crowd_75 (k25 : Int → Int → Int → Mm → Option (Int × Mm)) (x1 : Int) (x2 : Int) (x3 : Int) (x4 : Int) (f : Mm) : Option (Int × Mm) := (if x2 < x4 then FX11_crowd_89 k25 x3 x4 x3 f else FX11_crowd_89 k25 x1 x2 x3 f)
set_option maxHeartbeats 4000000 in
set_option maxRecDepth 100000 in
theorem SX11_crowd_75 {G : GT} {l : Launch} {Q : Option AV → Mem → Prop} {k25 : Int → Int → Int → Mm → Option (Int × Mm)} (q25 : ∀ (x1 : Int) (x2 : Int) (x3 : Int) (f : Mm), OkI Q (k25 x1 x2 x3 f) → Ev G l MX11_crowd (Rm 7 0 0) (ZM G Q 0 0) 0 0 25 [some (vR 150), some (vI x1), some (vI x2), some (vI x3), none, none] [] (SH, RF, f)) (x1 : Int) (x2 : Int) (x3 : Int) (x4 : Int) (f : Mm) (h : OkI Q (FX11_crowd_75 k25 x1 x2 x3 x4 f)) : Ev G l MX11_crowd (Rm 7 0 0) (ZM G Q 0 0) 0 0 75 [some (vR 150), some (vI x1), some (vI x2), some (vI x3), some (vI x4), none] [] (SH, RF, f) := by
  unfold FX11_crowd_75 at h
  refine ev_iload dX11_crowd_75 rfl ?_
  refine ev_iload_n (i := 2) dX11_crowd_77 rfl rfl ?_
  refine ev_icmp_gt (tgt := 84) dX11_crowd_78 (by decide) (fun c1 => ?_) (fun c1 => ?_)
  · rw [if_pos c1] at h
    refine ev_iload_n (i := 3) dX11_crowd_84 rfl rfl ?_
    refine ev_istore_n (i := 1) (L' := [some (vR 150), some (vI x3), some (vI x2), some (vI x3), some (vI x4), none]) dX11_crowd_85 rfl (by decide) rfl ?_
    refine ev_iload dX11_crowd_86 rfl ?_
    refine ev_istore_n (i := 2) (L' := [some (vR 150), some (vI x3), some (vI x4), some (vI x3), some (vI x4), none]) dX11_crowd_88 rfl (by decide) rfl ?_
    refine ev_fg [true, true, true, true, false, true] rfl ?_
    exact SX11_crowd_89 q25 x3 x4 x3 _ h
  · rw [if_neg c1] at h
    refine ev_goto (tgt := 89) dX11_crowd_81 (by decide) ?_
    refine ev_fg [true, true, true, true, false, true] rfl ?_
    exact SX11_crowd_89 q25 x1 x2 x3 _ h
def FX11_crowd_66 (k25 : Int → Int → Int → Mm → Option (Int × Mm)) (k39 : Int → Int → Int → Int → Int → Mm → Option (Int × Mm)) (x1 : Int) (x2 : Int) (x3 : Int) (x5 : Int) (s0 : Int) (s1 : Int) (f : Mm) : Option (Int × Mm) := k39 x1 x2 x3 (w32 (s0 + s1)) (w32 (x5 + 1)) f
set_option maxHeartbeats 4000000 in
set_option maxRecDepth 100000 in
theorem SX11_crowd_66 {G : GT} {l : Launch} {Q : Option AV → Mem → Prop} {k25 : Int → Int → Int → Mm → Option (Int × Mm)} {k39 : Int → Int → Int → Int → Int → Mm → Option (Int × Mm)} (q25 : ∀ (x1 : Int) (x2 : Int) (x3 : Int) (f : Mm), OkI Q (k25 x1 x2 x3 f) → Ev G l MX11_crowd (Rm 7 0 0) (ZM G Q 0 0) 0 0 25 [some (vR 150), some (vI x1), some (vI x2), some (vI x3), none, none] [] (SH, RF, f)) (q39 : ∀ (x1 : Int) (x2 : Int) (x3 : Int) (x4 : Int) (x5 : Int) (f : Mm), OkI Q (k39 x1 x2 x3 x4 x5 f) → Ev G l MX11_crowd (Rm 7 0 0) (ZM G Q 0 0) 0 0 39 [some (vR 150), some (vI x1), some (vI x2), some (vI x3), some (vI x4), some (vI x5)] [] (SH, RF, f)) (x1 : Int) (x2 : Int) (x3 : Int) (x5 : Int) (s0 : Int) (s1 : Int) (f : Mm) (h : OkI Q (FX11_crowd_66 k25 k39 x1 x2 x3 x5 s0 s1 f)) : Ev G l MX11_crowd (Rm 7 0 0) (ZM G Q 0 0) 0 0 66 [some (vR 150), some (vI x1), some (vI x2), some (vI x3), none, some (vI x5)] [vI s1, vI s0] (SH, RF, f) := by
  unfold FX11_crowd_66 at h
  refine ev_iadd dX11_crowd_66 ?_
  refine ev_istore (L' := [some (vR 150), some (vI x1), some (vI x2), some (vI x3), some (vI (w32 (s0 + s1))), some (vI x5)]) dX11_crowd_67 (by decide) rfl ?_
  refine ev_iinc (L' := [some (vR 150), some (vI x1), some (vI x2), some (vI x3), some (vI (w32 (s0 + s1))), some (vI (w32 (x5 + 1)))]) dX11_crowd_69 rfl (by decide) rfl ?_
  refine ev_goto (tgt := 39) dX11_crowd_72 (by decide) ?_
  exact q39 x1 x2 x3 (w32 (s0 + s1)) (w32 (x5 + 1)) _ h
def FX11_crowd_39 (k25 : Int → Int → Int → Mm → Option (Int × Mm)) : Nat → Int → Int → Int → Int → Int → Mm → Option (Int × Mm)
  | 0, _, _, _, _, _, _ => none
  | n + 1, x1, x2, x3, x4, x5, f => (b2 (FX11_carts f) fun y1 f1 => (if y1 ≤ x5 then FX11_crowd_75 k25 x1 x2 x3 x4 f1 else (if 0 ≤ x5 ∧ x5 < 6 then (if (f1 167 x5.toNat) = x3 then FX11_crowd_66 k25 (FX11_crowd_39 k25 n) x1 x2 x3 x5 x4 1 f1 else FX11_crowd_66 k25 (FX11_crowd_39 k25 n) x1 x2 x3 x5 x4 0 f1) else none)))
set_option maxHeartbeats 4000000 in
set_option maxRecDepth 100000 in
theorem SX11_crowd_39 {G : GT} {l : Launch} {Q : Option AV → Mem → Prop} {k25 : Int → Int → Int → Mm → Option (Int × Mm)} (q25 : ∀ (x1 : Int) (x2 : Int) (x3 : Int) (f : Mm), OkI Q (k25 x1 x2 x3 f) → Ev G l MX11_crowd (Rm 7 0 0) (ZM G Q 0 0) 0 0 25 [some (vR 150), some (vI x1), some (vI x2), some (vI x3), none, none] [] (SH, RF, f)) : ∀ (n : Nat) (x1 : Int) (x2 : Int) (x3 : Int) (x4 : Int) (x5 : Int) (f : Mm), OkI Q (FX11_crowd_39 k25 n x1 x2 x3 x4 x5 f) → Ev G l MX11_crowd (Rm 7 0 0) (ZM G Q 0 0) 0 0 39 [some (vR 150), some (vI x1), some (vI x2), some (vI x3), some (vI x4), some (vI x5)] [] (SH, RF, f) := by
  intro n
  induction n with
  | zero => intro x1 x2 x3 x4 x5 f h; exact absurd h (by rw [FX11_crowd_39]; exact fun q => q)
  | succ n ih =>
    intro x1 x2 x3 x4 x5 f h
    rw [FX11_crowd_39] at h
    refine ev_iload dX11_crowd_39 rfl ?_
    refine ev_aload_n (i := 0) dX11_crowd_41 rfl rfl ?_
    refine ev_cVI (b := 150) (av := []) (S := [vI x5]) (fun q => q) h dX11_crowd_42 (fun Q' q => TX11_carts _ q) kvX11_carts ml_X11_269 sh_150 rfl (RRc (by decide) (by decide)) (Nat.le_of_ble_eq_true rfl) ⟨Nat.le_of_ble_eq_true rfl, Nat.le_of_ble_eq_true rfl⟩ (fun y1 f1 h => ?_)
    refine ev_icmp_ge (tgt := 75) dX11_crowd_45 (by decide) (fun c4 => ?_) (fun c4 => ?_)
    · rw [if_pos c4] at h
      refine ev_fg [true, true, true, true, true, false] rfl ?_
      exact SX11_crowd_75 q25 x1 x2 x3 x4 _ h
    · rw [if_neg c4] at h
      refine ev_iload dX11_crowd_48 rfl ?_
      refine ev_aload_n (i := 0) dX11_crowd_50 rfl rfl ?_
      refine ev_getR dX11_crowd_51 fl_X11_65 sh_150 (by decide) (by decide) rf_150_29 ?_
      refine ev_iload dX11_crowd_54 rfl ?_
      by_cases g2 : 0 ≤ x5 ∧ x5 < 6
      · rw [if_pos g2] at h
        refine ex_iald (x := (f1 167 x5.toNat)) dX11_crowd_56 sh_167 g2.1 g2.2 rfl ?_
        refine ev_iload_n (i := 3) dX11_crowd_57 rfl rfl ?_
        refine ev_icmp_ne (tgt := 65) dX11_crowd_58 (by decide) (fun c3 => ?_) (fun c3 => ?_)
        · rw [if_neg c3] at h
          refine ev_iconst dX11_crowd_65 (r32c rfl) ?_
          refine ev_fg [true, true, true, true, false, true] rfl ?_
          exact SX11_crowd_66 q25 ih x1 x2 x3 x5 x4 0 _ h
        · rw [if_pos c3] at h
          refine ev_iconst dX11_crowd_61 (r32c rfl) ?_
          refine ev_goto (tgt := 66) dX11_crowd_62 (by decide) ?_
          refine ev_fg [true, true, true, true, false, true] rfl ?_
          exact SX11_crowd_66 q25 ih x1 x2 x3 x5 x4 1 _ h
      · rw [if_neg g2] at h; exact h.elim
def FX11_crowd_25  : Nat → Int → Int → Int → Mm → Option (Int × Mm)
  | 0, _, _, _, _ => none
  | n + 1, x1, x2, x3, f => (b2 (FX11_days f) fun y1 f1 => (if y1 ≤ x3 then some (x1, f1) else FX11_crowd_39 (FX11_crowd_25 n) fu x1 x2 x3 0 0 f1))
set_option maxHeartbeats 4000000 in
set_option maxRecDepth 100000 in
theorem SX11_crowd_25 {G : GT} {l : Launch} {Q : Option AV → Mem → Prop}  : ∀ (n : Nat) (x1 : Int) (x2 : Int) (x3 : Int) (f : Mm), OkI Q (FX11_crowd_25  n x1 x2 x3 f) → Ev G l MX11_crowd (Rm 7 0 0) (ZM G Q 0 0) 0 0 25 [some (vR 150), some (vI x1), some (vI x2), some (vI x3), none, none] [] (SH, RF, f) := by
  intro n
  induction n with
  | zero => intro x1 x2 x3 f h; exact absurd h (by rw [FX11_crowd_25]; exact fun q => q)
  | succ n ih =>
    intro x1 x2 x3 f h
    rw [FX11_crowd_25] at h
    refine ev_iload_n (i := 3) dX11_crowd_25 rfl rfl ?_
    refine ev_aload_n (i := 0) dX11_crowd_26 rfl rfl ?_
    refine ev_cVI (b := 150) (av := []) (S := [vI x3]) (fun q => q) h dX11_crowd_27 (fun Q' q => TX11_days _ q) kvX11_days ml_X11_266 sh_150 rfl (RRc (by decide) (by decide)) (Nat.le_of_ble_eq_true rfl) ⟨Nat.le_of_ble_eq_true rfl, Nat.le_of_ble_eq_true rfl⟩ (fun y1 f1 h => ?_)
    refine ev_icmp_ge (tgt := 95) dX11_crowd_30 (by decide) (fun c2 => ?_) (fun c2 => ?_)
    · rw [if_pos c2] at h
      refine ev_iload_n (i := 1) dX11_crowd_95 rfl rfl ?_
      exact ev_iret rfl dX11_crowd_96 h
    · rw [if_neg c2] at h
      refine ev_iconst dX11_crowd_33 (r32c rfl) ?_
      refine ev_istore (L' := [some (vR 150), some (vI x1), some (vI x2), some (vI x3), some (vI 0), none]) dX11_crowd_34 (by decide) rfl ?_
      refine ev_iconst dX11_crowd_36 (r32c rfl) ?_
      refine ev_istore (L' := [some (vR 150), some (vI x1), some (vI x2), some (vI x3), some (vI 0), some (vI 0)]) dX11_crowd_37 (by decide) rfl ?_
      exact SX11_crowd_39 ih fu x1 x2 x3 0 0 _ h
def FX11_crowd_0   (f : Mm) : Option (Int × Mm) := (b2 (FX11_isBridge (up f 150 0 0)) fun y1 f1 => (if y1 = 0 then some ((-2), f1) else ((FX11_laysPassed f1).bind fun f2 => FX11_crowd_25 fu (-1) 0 0 f2)))
set_option maxHeartbeats 4000000 in
set_option maxRecDepth 100000 in
theorem SX11_crowd_0 {G : GT} {l : Launch} {Q : Option AV → Mem → Prop}   (f : Mm) (h : OkI Q (FX11_crowd_0   f)) : Ev G l MX11_crowd (Rm 7 0 0) (ZM G Q 0 0) 0 0 0 [some (vR 150), none, none, none, none, none] [] (SH, RF, f) := by
  unfold FX11_crowd_0 at h
  refine ev_aload_n (i := 0) dX11_crowd_0 rfl rfl ?_
  refine ev_iconst dX11_crowd_1 (r32c rfl) ?_
  refine ev_putI dX11_crowd_2 fl_X11_98 sh_150 (by decide) (by decide) ?_
  refine ev_aload_n (i := 0) dX11_crowd_5 rfl rfl ?_
  refine ev_cVI (b := 150) (av := []) (S := []) (fun q => q) h dX11_crowd_6 (fun Q' q => TX11_isBridge _ q) kvX11_isBridge ml_X11_272 sh_150 rfl (RRc (by decide) (by decide)) (Nat.le_of_ble_eq_true rfl) ⟨Nat.le_of_ble_eq_true rfl, Nat.le_of_ble_eq_true rfl⟩ (fun y1 f1 h => ?_)
  refine ev_if_ne (tgt := 15) dX11_crowd_9 (by decide) (fun c3 => ?_) (fun c3 => ?_)
  · rw [if_neg c3] at h
    refine ev_aload_n (i := 0) dX11_crowd_15 rfl rfl ?_
    refine ev_cVV (b := 150) (av := []) (S := []) (fun q => q) h dX11_crowd_16 (fun Q' q => TX11_laysPassed _ q) kvX11_laysPassed ml_X11_327 sh_150 rfl (RRc (by decide) (by decide)) (Nat.le_of_ble_eq_true rfl) ⟨Nat.le_of_ble_eq_true rfl, Nat.le_of_ble_eq_true rfl⟩ (fun f2 h => ?_)
    refine ev_iconst dX11_crowd_19 (r32c rfl) ?_
    refine ev_istore_n (i := 1) (L' := [some (vR 150), some (vI (-1)), none, none, none, none]) dX11_crowd_20 rfl (by decide) rfl ?_
    refine ev_iconst dX11_crowd_21 (r32c rfl) ?_
    refine ev_istore_n (i := 2) (L' := [some (vR 150), some (vI (-1)), some (vI 0), none, none, none]) dX11_crowd_22 rfl (by decide) rfl ?_
    refine ev_iconst dX11_crowd_23 (r32c rfl) ?_
    refine ev_istore_n (i := 3) (L' := [some (vR 150), some (vI (-1)), some (vI 0), some (vI 0), none, none]) dX11_crowd_24 rfl (by decide) rfl ?_
    exact SX11_crowd_25  fu (-1) 0 0 _ h
  · rw [if_pos c3] at h
    refine ev_bipush (v := (-2)) dX11_crowd_12 (r32c rfl) (by decide) ?_
    exact ev_iret rfl dX11_crowd_14 h
def FX11_crowd  (f : Mm) : Option (Int × Mm) := FX11_crowd_0  f
set_option maxRecDepth 100000 in
theorem TX11_crowd {G : GT} {l : Launch} {Q : Option AV → Mem → Prop}  (f : Mm) (h : OkI Q (FX11_crowd  f)) : Ret G l MX11_crowd (7) 0 0 [vR 150] (SH, RF, f) Q := by
  refine ret_of (L := [some (vR 150), none, none, none, none, none]) (by decide) rfl (Nat.le_of_ble_eq_true rfl) ?_
  exact SX11_crowd_0  f h
theorem dX11_late_57 : decode cX11_late 57 = .ok (.ior, 1) := by decide +kernel
theorem dX11_late_58 : decode cX11_late 58 = .ok (.istore_n 1, 1) := by decide +kernel
theorem dX11_late_59 : decode cX11_late 59 = .ok (.iinc 2 1, 3) := by decide +kernel
theorem dX11_late_62 : decode cX11_late 62 = .ok (.goto (-39), 3) := by decide +kernel
theorem dX11_late_56 : decode cX11_late 56 = .ok (.iconst 0, 1) := by decide +kernel
theorem dX11_late_23 : decode cX11_late 23 = .ok (.iload_n 2, 1) := by decide +kernel
theorem dX11_late_24 : decode cX11_late 24 = .ok (.aload_n 0, 1) := by decide +kernel
theorem dX11_late_25 : decode cX11_late 25 = .ok (.invokevirtual 269, 3) := by decide +kernel
theorem dX11_late_28 : decode cX11_late 28 = .ok (.if_icmp .ge 37, 3) := by decide +kernel
theorem dX11_late_65 : decode cX11_late 65 = .ok (.iload_n 1, 1) := by decide +kernel
theorem dX11_late_66 : decode cX11_late 66 = .ok (.ireturn, 1) := by decide +kernel
theorem dX11_late_31 : decode cX11_late 31 = .ok (.iload_n 1, 1) := by decide +kernel
theorem dX11_late_32 : decode cX11_late 32 = .ok (.aload_n 0, 1) := by decide +kernel
theorem dX11_late_33 : decode cX11_late 33 = .ok (.getfield 65, 3) := by decide +kernel
theorem dX11_late_36 : decode cX11_late 36 = .ok (.iload_n 2, 1) := by decide +kernel
theorem dX11_late_37 : decode cX11_late 37 = .ok (.iaload, 1) := by decide +kernel
theorem dX11_late_38 : decode cX11_late 38 = .ok (.iconst (-1), 1) := by decide +kernel
theorem dX11_late_39 : decode cX11_late 39 = .ok (.if_icmp .eq 17, 3) := by decide +kernel
theorem dX11_late_42 : decode cX11_late 42 = .ok (.aload_n 0, 1) := by decide +kernel
theorem dX11_late_43 : decode cX11_late 43 = .ok (.iload_n 2, 1) := by decide +kernel
theorem dX11_late_44 : decode cX11_late 44 = .ok (.invokevirtual 310, 3) := by decide +kernel
theorem dX11_late_47 : decode cX11_late 47 = .ok (.ifCond .ne 9, 3) := by decide +kernel
theorem dX11_late_50 : decode cX11_late 50 = .ok (.iconst 1, 1) := by decide +kernel
theorem dX11_late_51 : decode cX11_late 51 = .ok (.iload_n 2, 1) := by decide +kernel
theorem dX11_late_52 : decode cX11_late 52 = .ok (.ishl, 1) := by decide +kernel
theorem dX11_late_53 : decode cX11_late 53 = .ok (.goto 4, 3) := by decide +kernel
theorem dX11_late_0 : decode cX11_late 0 = .ok (.aload_n 0, 1) := by decide +kernel
theorem dX11_late_1 : decode cX11_late 1 = .ok (.iconst 0, 1) := by decide +kernel
theorem dX11_late_2 : decode cX11_late 2 = .ok (.putfield 98, 3) := by decide +kernel
theorem dX11_late_5 : decode cX11_late 5 = .ok (.aload_n 0, 1) := by decide +kernel
theorem dX11_late_6 : decode cX11_late 6 = .ok (.invokevirtual 272, 3) := by decide +kernel
theorem dX11_late_9 : decode cX11_late 9 = .ok (.ifCond .ne 6, 3) := by decide +kernel
theorem dX11_late_15 : decode cX11_late 15 = .ok (.aload_n 0, 1) := by decide +kernel
theorem dX11_late_16 : decode cX11_late 16 = .ok (.invokevirtual 327, 3) := by decide +kernel
theorem dX11_late_19 : decode cX11_late 19 = .ok (.iconst 0, 1) := by decide +kernel
theorem dX11_late_20 : decode cX11_late 20 = .ok (.istore_n 1, 1) := by decide +kernel
theorem dX11_late_21 : decode cX11_late 21 = .ok (.iconst 0, 1) := by decide +kernel
theorem dX11_late_22 : decode cX11_late 22 = .ok (.istore_n 2, 1) := by decide +kernel
theorem dX11_late_12 : decode cX11_late 12 = .ok (.bipush (-2), 2) := by decide +kernel
theorem dX11_late_14 : decode cX11_late 14 = .ok (.ireturn, 1) := by decide +kernel
def FX11_late_57 (k23 : Int → Int → Mm → Option (Int × Mm)) (x2 : Int) (s0 : Int) (s1 : Int) (f : Mm) : Option (Int × Mm) := k23 (bOr s0 s1) (w32 (x2 + 1)) f
set_option maxHeartbeats 4000000 in
set_option maxRecDepth 100000 in
theorem SX11_late_57 {G : GT} {l : Launch} {Q : Option AV → Mem → Prop} {k23 : Int → Int → Mm → Option (Int × Mm)} (q23 : ∀ (x1 : Int) (x2 : Int) (f : Mm), OkI Q (k23 x1 x2 f) → Ev G l MX11_late (Rm 7 0 0) (ZM G Q 0 0) 0 0 23 [some (vR 150), some (vI x1), some (vI x2)] [] (SH, RF, f)) (x2 : Int) (s0 : Int) (s1 : Int) (f : Mm) (h : OkI Q (FX11_late_57 k23 x2 s0 s1 f)) : Ev G l MX11_late (Rm 7 0 0) (ZM G Q 0 0) 0 0 57 [some (vR 150), none, some (vI x2)] [vI s1, vI s0] (SH, RF, f) := by
  unfold FX11_late_57 at h
  refine ev_ior dX11_late_57 ?_
  refine ev_istore_n (i := 1) (L' := [some (vR 150), some (vI (bOr s0 s1)), some (vI x2)]) dX11_late_58 rfl (by decide) rfl ?_
  refine ev_iinc (L' := [some (vR 150), some (vI (bOr s0 s1)), some (vI (w32 (x2 + 1)))]) dX11_late_59 rfl (by decide) rfl ?_
  refine ev_goto (tgt := 23) dX11_late_62 (by decide) ?_
  exact q23 (bOr s0 s1) (w32 (x2 + 1)) _ h
def FX11_late_56 (k23 : Int → Int → Mm → Option (Int × Mm)) (x2 : Int) (s0 : Int) (f : Mm) : Option (Int × Mm) := FX11_late_57 k23 x2 s0 0 f
set_option maxHeartbeats 4000000 in
set_option maxRecDepth 100000 in
theorem SX11_late_56 {G : GT} {l : Launch} {Q : Option AV → Mem → Prop} {k23 : Int → Int → Mm → Option (Int × Mm)} (q23 : ∀ (x1 : Int) (x2 : Int) (f : Mm), OkI Q (k23 x1 x2 f) → Ev G l MX11_late (Rm 7 0 0) (ZM G Q 0 0) 0 0 23 [some (vR 150), some (vI x1), some (vI x2)] [] (SH, RF, f)) (x2 : Int) (s0 : Int) (f : Mm) (h : OkI Q (FX11_late_56 k23 x2 s0 f)) : Ev G l MX11_late (Rm 7 0 0) (ZM G Q 0 0) 0 0 56 [some (vR 150), none, some (vI x2)] [vI s0] (SH, RF, f) := by
  unfold FX11_late_56 at h
  refine ev_iconst dX11_late_56 (r32c rfl) ?_
  exact SX11_late_57 q23 x2 s0 0 _ h
def FX11_late_23  : Nat → Int → Int → Mm → Option (Int × Mm)
  | 0, _, _, _ => none
  | n + 1, x1, x2, f => (b2 (FX11_carts f) fun y1 f1 => (if y1 ≤ x2 then some (x1, f1) else (if 0 ≤ x2 ∧ x2 < 6 then (if (f1 167 x2.toNat) = (-1) then FX11_late_56 (FX11_late_23 n) x2 x1 f1 else (b2 (FX11_isInTime x2 f1) fun y3 f3 => (if y3 = 0 then FX11_late_57 (FX11_late_23 n) x2 x1 (bShl 1 x2) f3 else FX11_late_56 (FX11_late_23 n) x2 x1 f3))) else none)))
set_option maxHeartbeats 4000000 in
set_option maxRecDepth 100000 in
theorem SX11_late_23 {G : GT} {l : Launch} {Q : Option AV → Mem → Prop}  : ∀ (n : Nat) (x1 : Int) (x2 : Int) (f : Mm), OkI Q (FX11_late_23  n x1 x2 f) → Ev G l MX11_late (Rm 7 0 0) (ZM G Q 0 0) 0 0 23 [some (vR 150), some (vI x1), some (vI x2)] [] (SH, RF, f) := by
  intro n
  induction n with
  | zero => intro x1 x2 f h; exact absurd h (by rw [FX11_late_23]; exact fun q => q)
  | succ n ih =>
    intro x1 x2 f h
    rw [FX11_late_23] at h
    refine ev_iload_n (i := 2) dX11_late_23 rfl rfl ?_
    refine ev_aload_n (i := 0) dX11_late_24 rfl rfl ?_
    refine ev_cVI (b := 150) (av := []) (S := [vI x2]) (fun q => q) h dX11_late_25 (fun Q' q => TX11_carts _ q) kvX11_carts ml_X11_269 sh_150 rfl (RRc (by decide) (by decide)) (Nat.le_of_ble_eq_true rfl) ⟨Nat.le_of_ble_eq_true rfl, Nat.le_of_ble_eq_true rfl⟩ (fun y1 f1 h => ?_)
    refine ev_icmp_ge (tgt := 65) dX11_late_28 (by decide) (fun c6 => ?_) (fun c6 => ?_)
    · rw [if_pos c6] at h
      refine ev_iload_n (i := 1) dX11_late_65 rfl rfl ?_
      exact ev_iret rfl dX11_late_66 h
    · rw [if_neg c6] at h
      refine ev_iload_n (i := 1) dX11_late_31 rfl rfl ?_
      refine ev_aload_n (i := 0) dX11_late_32 rfl rfl ?_
      refine ev_getR dX11_late_33 fl_X11_65 sh_150 (by decide) (by decide) rf_150_29 ?_
      refine ev_iload_n (i := 2) dX11_late_36 rfl rfl ?_
      by_cases g2 : 0 ≤ x2 ∧ x2 < 6
      · rw [if_pos g2] at h
        refine ex_iald (x := (f1 167 x2.toNat)) dX11_late_37 sh_167 g2.1 g2.2 rfl ?_
        refine ev_iconst dX11_late_38 (r32c rfl) ?_
        refine ev_icmp_eq (tgt := 56) dX11_late_39 (by decide) (fun c5 => ?_) (fun c5 => ?_)
        · rw [if_pos c5] at h
          refine ev_fg [true, false, true] rfl ?_
          exact SX11_late_56 ih x2 x1 _ h
        · rw [if_neg c5] at h
          refine ev_aload_n (i := 0) dX11_late_42 rfl rfl ?_
          refine ev_iload_n (i := 2) dX11_late_43 rfl rfl ?_
          refine ev_cVI (b := 150) (av := [vI x2]) (S := [vI x1]) (fun q => q) h dX11_late_44 (fun Q' q => TX11_isInTime x2 _ q) kvX11_isInTime ml_X11_310 sh_150 rfl (RRc (by decide) (by decide)) (Nat.le_of_ble_eq_true rfl) ⟨Nat.le_of_ble_eq_true rfl, Nat.le_of_ble_eq_true rfl⟩ (fun y3 f3 h => ?_)
          refine ev_if_ne (tgt := 56) dX11_late_47 (by decide) (fun c4 => ?_) (fun c4 => ?_)
          · rw [if_neg c4] at h
            refine ev_fg [true, false, true] rfl ?_
            exact SX11_late_56 ih x2 x1 _ h
          · rw [if_pos c4] at h
            refine ev_iconst dX11_late_50 (r32c rfl) ?_
            refine ev_iload_n (i := 2) dX11_late_51 rfl rfl ?_
            refine ev_ishl dX11_late_52 ?_
            refine ev_goto (tgt := 57) dX11_late_53 (by decide) ?_
            refine ev_fg [true, false, true] rfl ?_
            exact SX11_late_57 ih x2 x1 (bShl 1 x2) _ h
      · rw [if_neg g2] at h; exact h.elim
def FX11_late_0   (f : Mm) : Option (Int × Mm) := (b2 (FX11_isBridge (up f 150 0 0)) fun y1 f1 => (if y1 = 0 then some ((-2), f1) else ((FX11_laysPassed f1).bind fun f2 => FX11_late_23 fu 0 0 f2)))
set_option maxHeartbeats 4000000 in
set_option maxRecDepth 100000 in
theorem SX11_late_0 {G : GT} {l : Launch} {Q : Option AV → Mem → Prop}   (f : Mm) (h : OkI Q (FX11_late_0   f)) : Ev G l MX11_late (Rm 7 0 0) (ZM G Q 0 0) 0 0 0 [some (vR 150), none, none] [] (SH, RF, f) := by
  unfold FX11_late_0 at h
  refine ev_aload_n (i := 0) dX11_late_0 rfl rfl ?_
  refine ev_iconst dX11_late_1 (r32c rfl) ?_
  refine ev_putI dX11_late_2 fl_X11_98 sh_150 (by decide) (by decide) ?_
  refine ev_aload_n (i := 0) dX11_late_5 rfl rfl ?_
  refine ev_cVI (b := 150) (av := []) (S := []) (fun q => q) h dX11_late_6 (fun Q' q => TX11_isBridge _ q) kvX11_isBridge ml_X11_272 sh_150 rfl (RRc (by decide) (by decide)) (Nat.le_of_ble_eq_true rfl) ⟨Nat.le_of_ble_eq_true rfl, Nat.le_of_ble_eq_true rfl⟩ (fun y1 f1 h => ?_)
  refine ev_if_ne (tgt := 15) dX11_late_9 (by decide) (fun c3 => ?_) (fun c3 => ?_)
  · rw [if_neg c3] at h
    refine ev_aload_n (i := 0) dX11_late_15 rfl rfl ?_
    refine ev_cVV (b := 150) (av := []) (S := []) (fun q => q) h dX11_late_16 (fun Q' q => TX11_laysPassed _ q) kvX11_laysPassed ml_X11_327 sh_150 rfl (RRc (by decide) (by decide)) (Nat.le_of_ble_eq_true rfl) ⟨Nat.le_of_ble_eq_true rfl, Nat.le_of_ble_eq_true rfl⟩ (fun f2 h => ?_)
    refine ev_iconst dX11_late_19 (r32c rfl) ?_
    refine ev_istore_n (i := 1) (L' := [some (vR 150), some (vI 0), none]) dX11_late_20 rfl (by decide) rfl ?_
    refine ev_iconst dX11_late_21 (r32c rfl) ?_
    refine ev_istore_n (i := 2) (L' := [some (vR 150), some (vI 0), some (vI 0)]) dX11_late_22 rfl (by decide) rfl ?_
    exact SX11_late_23  fu 0 0 _ h
  · rw [if_pos c3] at h
    refine ev_bipush (v := (-2)) dX11_late_12 (r32c rfl) (by decide) ?_
    exact ev_iret rfl dX11_late_14 h
def FX11_late  (f : Mm) : Option (Int × Mm) := FX11_late_0  f
set_option maxRecDepth 100000 in
theorem TX11_late {G : GT} {l : Launch} {Q : Option AV → Mem → Prop}  (f : Mm) (h : OkI Q (FX11_late  f)) : Ret G l MX11_late (7) 0 0 [vR 150] (SH, RF, f) Q := by
  refine ret_of (L := [some (vR 150), none, none]) (by decide) rfl (Nat.le_of_ble_eq_true rfl) ?_
  exact SX11_late_0  f h
theorem dX11_delay_63 : decode cX11_delay 63 = .ok (.iadd, 1) := by decide +kernel
theorem dX11_delay_64 : decode cX11_delay 64 = .ok (.istore_n 1, 1) := by decide +kernel
theorem dX11_delay_65 : decode cX11_delay 65 = .ok (.iinc 2 1, 3) := by decide +kernel
theorem dX11_delay_68 : decode cX11_delay 68 = .ok (.goto (-45), 3) := by decide +kernel
theorem dX11_delay_23 : decode cX11_delay 23 = .ok (.iload_n 2, 1) := by decide +kernel
theorem dX11_delay_24 : decode cX11_delay 24 = .ok (.aload_n 0, 1) := by decide +kernel
theorem dX11_delay_25 : decode cX11_delay 25 = .ok (.invokevirtual 269, 3) := by decide +kernel
theorem dX11_delay_28 : decode cX11_delay 28 = .ok (.if_icmp .ge 43, 3) := by decide +kernel
theorem dX11_delay_71 : decode cX11_delay 71 = .ok (.iload_n 1, 1) := by decide +kernel
theorem dX11_delay_72 : decode cX11_delay 72 = .ok (.ireturn, 1) := by decide +kernel
theorem dX11_delay_31 : decode cX11_delay 31 = .ok (.iload_n 1, 1) := by decide +kernel
theorem dX11_delay_32 : decode cX11_delay 32 = .ok (.aload_n 0, 1) := by decide +kernel
theorem dX11_delay_33 : decode cX11_delay 33 = .ok (.getfield 65, 3) := by decide +kernel
theorem dX11_delay_36 : decode cX11_delay 36 = .ok (.iload_n 2, 1) := by decide +kernel
theorem dX11_delay_37 : decode cX11_delay 37 = .ok (.iaload, 1) := by decide +kernel
theorem dX11_delay_38 : decode cX11_delay 38 = .ok (.iconst (-1), 1) := by decide +kernel
theorem dX11_delay_39 : decode cX11_delay 39 = .ok (.if_icmp .ne 7, 3) := by decide +kernel
theorem dX11_delay_46 : decode cX11_delay 46 = .ok (.aload_n 0, 1) := by decide +kernel
theorem dX11_delay_47 : decode cX11_delay 47 = .ok (.getfield 65, 3) := by decide +kernel
theorem dX11_delay_50 : decode cX11_delay 50 = .ok (.iload_n 2, 1) := by decide +kernel
theorem dX11_delay_51 : decode cX11_delay 51 = .ok (.iaload, 1) := by decide +kernel
theorem dX11_delay_52 : decode cX11_delay 52 = .ok (.aload_n 0, 1) := by decide +kernel
theorem dX11_delay_53 : decode cX11_delay 53 = .ok (.getfield 40, 3) := by decide +kernel
theorem dX11_delay_56 : decode cX11_delay 56 = .ok (.iconst 5, 1) := by decide +kernel
theorem dX11_delay_57 : decode cX11_delay 57 = .ok (.iload_n 2, 1) := by decide +kernel
theorem dX11_delay_58 : decode cX11_delay 58 = .ok (.imul, 1) := by decide +kernel
theorem dX11_delay_59 : decode cX11_delay 59 = .ok (.iconst 2, 1) := by decide +kernel
theorem dX11_delay_60 : decode cX11_delay 60 = .ok (.iadd, 1) := by decide +kernel
theorem dX11_delay_61 : decode cX11_delay 61 = .ok (.iaload, 1) := by decide +kernel
theorem dX11_delay_62 : decode cX11_delay 62 = .ok (.isub, 1) := by decide +kernel
theorem dX11_delay_42 : decode cX11_delay 42 = .ok (.iconst 0, 1) := by decide +kernel
theorem dX11_delay_43 : decode cX11_delay 43 = .ok (.goto 20, 3) := by decide +kernel
theorem dX11_delay_0 : decode cX11_delay 0 = .ok (.aload_n 0, 1) := by decide +kernel
theorem dX11_delay_1 : decode cX11_delay 1 = .ok (.iconst 0, 1) := by decide +kernel
theorem dX11_delay_2 : decode cX11_delay 2 = .ok (.putfield 98, 3) := by decide +kernel
theorem dX11_delay_5 : decode cX11_delay 5 = .ok (.aload_n 0, 1) := by decide +kernel
theorem dX11_delay_6 : decode cX11_delay 6 = .ok (.invokevirtual 272, 3) := by decide +kernel
theorem dX11_delay_9 : decode cX11_delay 9 = .ok (.ifCond .ne 6, 3) := by decide +kernel
theorem dX11_delay_15 : decode cX11_delay 15 = .ok (.aload_n 0, 1) := by decide +kernel
theorem dX11_delay_16 : decode cX11_delay 16 = .ok (.invokevirtual 327, 3) := by decide +kernel
theorem dX11_delay_19 : decode cX11_delay 19 = .ok (.iconst 0, 1) := by decide +kernel
theorem dX11_delay_20 : decode cX11_delay 20 = .ok (.istore_n 1, 1) := by decide +kernel
theorem dX11_delay_21 : decode cX11_delay 21 = .ok (.iconst 0, 1) := by decide +kernel
theorem dX11_delay_22 : decode cX11_delay 22 = .ok (.istore_n 2, 1) := by decide +kernel
theorem dX11_delay_12 : decode cX11_delay 12 = .ok (.bipush (-2), 2) := by decide +kernel
theorem dX11_delay_14 : decode cX11_delay 14 = .ok (.ireturn, 1) := by decide +kernel
def FX11_delay_63 (k23 : Int → Int → Mm → Option (Int × Mm)) (x2 : Int) (s0 : Int) (s1 : Int) (f : Mm) : Option (Int × Mm) := k23 (w32 (s0 + s1)) (w32 (x2 + 1)) f
set_option maxHeartbeats 4000000 in
set_option maxRecDepth 100000 in
theorem SX11_delay_63 {G : GT} {l : Launch} {Q : Option AV → Mem → Prop} {k23 : Int → Int → Mm → Option (Int × Mm)} (q23 : ∀ (x1 : Int) (x2 : Int) (f : Mm), OkI Q (k23 x1 x2 f) → Ev G l MX11_delay (Rm 7 0 0) (ZM G Q 0 0) 0 0 23 [some (vR 150), some (vI x1), some (vI x2)] [] (SH, RF, f)) (x2 : Int) (s0 : Int) (s1 : Int) (f : Mm) (h : OkI Q (FX11_delay_63 k23 x2 s0 s1 f)) : Ev G l MX11_delay (Rm 7 0 0) (ZM G Q 0 0) 0 0 63 [some (vR 150), none, some (vI x2)] [vI s1, vI s0] (SH, RF, f) := by
  unfold FX11_delay_63 at h
  refine ev_iadd dX11_delay_63 ?_
  refine ev_istore_n (i := 1) (L' := [some (vR 150), some (vI (w32 (s0 + s1))), some (vI x2)]) dX11_delay_64 rfl (by decide) rfl ?_
  refine ev_iinc (L' := [some (vR 150), some (vI (w32 (s0 + s1))), some (vI (w32 (x2 + 1)))]) dX11_delay_65 rfl (by decide) rfl ?_
  refine ev_goto (tgt := 23) dX11_delay_68 (by decide) ?_
  exact q23 (w32 (s0 + s1)) (w32 (x2 + 1)) _ h
def FX11_delay_23  : Nat → Int → Int → Mm → Option (Int × Mm)
  | 0, _, _, _ => none
  | n + 1, x1, x2, f => (b2 (FX11_carts f) fun y1 f1 => (if y1 ≤ x2 then some (x1, f1) else (if 0 ≤ x2 ∧ x2 < 6 then (if (f1 167 x2.toNat) = (-1) then FX11_delay_63 (FX11_delay_23 n) x2 x1 0 f1 else (if 0 ≤ x2 ∧ x2 < 6 then (if 0 ≤ (w32 ((w32 (5 * x2)) + 2)) ∧ (w32 ((w32 (5 * x2)) + 2)) < 150 then FX11_delay_63 (FX11_delay_23 n) x2 x1 (w32 ((f1 167 x2.toNat) - (f1 159 (w32 ((w32 (5 * x2)) + 2)).toNat))) f1 else none) else none)) else none)))
set_option maxHeartbeats 4000000 in
set_option maxRecDepth 100000 in
theorem SX11_delay_23 {G : GT} {l : Launch} {Q : Option AV → Mem → Prop}  : ∀ (n : Nat) (x1 : Int) (x2 : Int) (f : Mm), OkI Q (FX11_delay_23  n x1 x2 f) → Ev G l MX11_delay (Rm 7 0 0) (ZM G Q 0 0) 0 0 23 [some (vR 150), some (vI x1), some (vI x2)] [] (SH, RF, f) := by
  intro n
  induction n with
  | zero => intro x1 x2 f h; exact absurd h (by rw [FX11_delay_23]; exact fun q => q)
  | succ n ih =>
    intro x1 x2 f h
    rw [FX11_delay_23] at h
    refine ev_iload_n (i := 2) dX11_delay_23 rfl rfl ?_
    refine ev_aload_n (i := 0) dX11_delay_24 rfl rfl ?_
    refine ev_cVI (b := 150) (av := []) (S := [vI x2]) (fun q => q) h dX11_delay_25 (fun Q' q => TX11_carts _ q) kvX11_carts ml_X11_269 sh_150 rfl (RRc (by decide) (by decide)) (Nat.le_of_ble_eq_true rfl) ⟨Nat.le_of_ble_eq_true rfl, Nat.le_of_ble_eq_true rfl⟩ (fun y1 f1 h => ?_)
    refine ev_icmp_ge (tgt := 71) dX11_delay_28 (by decide) (fun c6 => ?_) (fun c6 => ?_)
    · rw [if_pos c6] at h
      refine ev_iload_n (i := 1) dX11_delay_71 rfl rfl ?_
      exact ev_iret rfl dX11_delay_72 h
    · rw [if_neg c6] at h
      refine ev_iload_n (i := 1) dX11_delay_31 rfl rfl ?_
      refine ev_aload_n (i := 0) dX11_delay_32 rfl rfl ?_
      refine ev_getR dX11_delay_33 fl_X11_65 sh_150 (by decide) (by decide) rf_150_29 ?_
      refine ev_iload_n (i := 2) dX11_delay_36 rfl rfl ?_
      by_cases g2 : 0 ≤ x2 ∧ x2 < 6
      · rw [if_pos g2] at h
        refine ex_iald (x := (f1 167 x2.toNat)) dX11_delay_37 sh_167 g2.1 g2.2 rfl ?_
        refine ev_iconst dX11_delay_38 (r32c rfl) ?_
        refine ev_icmp_ne (tgt := 46) dX11_delay_39 (by decide) (fun c5 => ?_) (fun c5 => ?_)
        · rw [if_neg c5] at h
          refine ev_aload_n (i := 0) dX11_delay_46 rfl rfl ?_
          refine ev_getR dX11_delay_47 fl_X11_65 sh_150 (by decide) (by decide) rf_150_29 ?_
          refine ev_iload_n (i := 2) dX11_delay_50 rfl rfl ?_
          by_cases g3 : 0 ≤ x2 ∧ x2 < 6
          · rw [if_pos g3] at h
            refine ex_iald (x := (f1 167 x2.toNat)) dX11_delay_51 sh_167 g3.1 g3.2 rfl ?_
            refine ev_aload_n (i := 0) dX11_delay_52 rfl rfl ?_
            refine ev_getR dX11_delay_53 fl_X11_40 sh_150 (by decide) (by decide) rf_150_19 ?_
            refine ev_iconst dX11_delay_56 (r32c rfl) ?_
            refine ev_iload_n (i := 2) dX11_delay_57 rfl rfl ?_
            refine ev_imul dX11_delay_58 ?_
            refine ev_iconst dX11_delay_59 (r32c rfl) ?_
            refine ev_iadd dX11_delay_60 ?_
            by_cases g4 : 0 ≤ (w32 ((w32 (5 * x2)) + 2)) ∧ (w32 ((w32 (5 * x2)) + 2)) < 150
            · rw [if_pos g4] at h
              refine ex_iald (x := (f1 159 (w32 ((w32 (5 * x2)) + 2)).toNat)) dX11_delay_61 sh_159 g4.1 g4.2 rfl ?_
              refine ev_isub dX11_delay_62 ?_
              refine ev_fg [true, false, true] rfl ?_
              exact SX11_delay_63 ih x2 x1 (w32 ((f1 167 x2.toNat) - (f1 159 (w32 ((w32 (5 * x2)) + 2)).toNat))) _ h
            · rw [if_neg g4] at h; exact h.elim
          · rw [if_neg g3] at h; exact h.elim
        · rw [if_pos c5] at h
          refine ev_iconst dX11_delay_42 (r32c rfl) ?_
          refine ev_goto (tgt := 63) dX11_delay_43 (by decide) ?_
          refine ev_fg [true, false, true] rfl ?_
          exact SX11_delay_63 ih x2 x1 0 _ h
      · rw [if_neg g2] at h; exact h.elim
def FX11_delay_0   (f : Mm) : Option (Int × Mm) := (b2 (FX11_isBridge (up f 150 0 0)) fun y1 f1 => (if y1 = 0 then some ((-2), f1) else ((FX11_laysPassed f1).bind fun f2 => FX11_delay_23 fu 0 0 f2)))
set_option maxHeartbeats 4000000 in
set_option maxRecDepth 100000 in
theorem SX11_delay_0 {G : GT} {l : Launch} {Q : Option AV → Mem → Prop}   (f : Mm) (h : OkI Q (FX11_delay_0   f)) : Ev G l MX11_delay (Rm 7 0 0) (ZM G Q 0 0) 0 0 0 [some (vR 150), none, none] [] (SH, RF, f) := by
  unfold FX11_delay_0 at h
  refine ev_aload_n (i := 0) dX11_delay_0 rfl rfl ?_
  refine ev_iconst dX11_delay_1 (r32c rfl) ?_
  refine ev_putI dX11_delay_2 fl_X11_98 sh_150 (by decide) (by decide) ?_
  refine ev_aload_n (i := 0) dX11_delay_5 rfl rfl ?_
  refine ev_cVI (b := 150) (av := []) (S := []) (fun q => q) h dX11_delay_6 (fun Q' q => TX11_isBridge _ q) kvX11_isBridge ml_X11_272 sh_150 rfl (RRc (by decide) (by decide)) (Nat.le_of_ble_eq_true rfl) ⟨Nat.le_of_ble_eq_true rfl, Nat.le_of_ble_eq_true rfl⟩ (fun y1 f1 h => ?_)
  refine ev_if_ne (tgt := 15) dX11_delay_9 (by decide) (fun c3 => ?_) (fun c3 => ?_)
  · rw [if_neg c3] at h
    refine ev_aload_n (i := 0) dX11_delay_15 rfl rfl ?_
    refine ev_cVV (b := 150) (av := []) (S := []) (fun q => q) h dX11_delay_16 (fun Q' q => TX11_laysPassed _ q) kvX11_laysPassed ml_X11_327 sh_150 rfl (RRc (by decide) (by decide)) (Nat.le_of_ble_eq_true rfl) ⟨Nat.le_of_ble_eq_true rfl, Nat.le_of_ble_eq_true rfl⟩ (fun f2 h => ?_)
    refine ev_iconst dX11_delay_19 (r32c rfl) ?_
    refine ev_istore_n (i := 1) (L' := [some (vR 150), some (vI 0), none]) dX11_delay_20 rfl (by decide) rfl ?_
    refine ev_iconst dX11_delay_21 (r32c rfl) ?_
    refine ev_istore_n (i := 2) (L' := [some (vR 150), some (vI 0), some (vI 0)]) dX11_delay_22 rfl (by decide) rfl ?_
    exact SX11_delay_23  fu 0 0 _ h
  · rw [if_pos c3] at h
    refine ev_bipush (v := (-2)) dX11_delay_12 (r32c rfl) (by decide) ?_
    exact ev_iret rfl dX11_delay_14 h
def FX11_delay  (f : Mm) : Option (Int × Mm) := FX11_delay_0  f
set_option maxRecDepth 100000 in
theorem TX11_delay {G : GT} {l : Launch} {Q : Option AV → Mem → Prop}  (f : Mm) (h : OkI Q (FX11_delay  f)) : Ret G l MX11_delay (7) 0 0 [vR 150] (SH, RF, f) Q := by
  refine ret_of (L := [some (vR 150), none, none]) (by decide) rfl (Nat.le_of_ble_eq_true rfl) ?_
  exact SX11_delay_0  f h
theorem dX11_toll_58 : decode cX11_toll 58 = .ok (.iadd, 1) := by decide +kernel
theorem dX11_toll_59 : decode cX11_toll 59 = .ok (.istore_n 2, 1) := by decide +kernel
theorem dX11_toll_60 : decode cX11_toll 60 = .ok (.iinc 3 1, 3) := by decide +kernel
theorem dX11_toll_63 : decode cX11_toll 63 = .ok (.goto (-38), 3) := by decide +kernel
theorem dX11_toll_25 : decode cX11_toll 25 = .ok (.iload_n 3, 1) := by decide +kernel
theorem dX11_toll_26 : decode cX11_toll 26 = .ok (.aload_n 0, 1) := by decide +kernel
theorem dX11_toll_27 : decode cX11_toll 27 = .ok (.invokevirtual 269, 3) := by decide +kernel
theorem dX11_toll_30 : decode cX11_toll 30 = .ok (.if_icmp .ge 36, 3) := by decide +kernel
theorem dX11_toll_66 : decode cX11_toll 66 = .ok (.iload_n 2, 1) := by decide +kernel
theorem dX11_toll_67 : decode cX11_toll 67 = .ok (.ireturn, 1) := by decide +kernel
theorem dX11_toll_33 : decode cX11_toll 33 = .ok (.iload_n 2, 1) := by decide +kernel
theorem dX11_toll_34 : decode cX11_toll 34 = .ok (.aload_n 0, 1) := by decide +kernel
theorem dX11_toll_35 : decode cX11_toll 35 = .ok (.getfield 65, 3) := by decide +kernel
theorem dX11_toll_38 : decode cX11_toll 38 = .ok (.iload_n 3, 1) := by decide +kernel
theorem dX11_toll_39 : decode cX11_toll 39 = .ok (.iaload, 1) := by decide +kernel
theorem dX11_toll_40 : decode cX11_toll 40 = .ok (.iload_n 1, 1) := by decide +kernel
theorem dX11_toll_41 : decode cX11_toll 41 = .ok (.if_icmp .ne 16, 3) := by decide +kernel
theorem dX11_toll_57 : decode cX11_toll 57 = .ok (.iconst 0, 1) := by decide +kernel
theorem dX11_toll_44 : decode cX11_toll 44 = .ok (.aload_n 0, 1) := by decide +kernel
theorem dX11_toll_45 : decode cX11_toll 45 = .ok (.getfield 40, 3) := by decide +kernel
theorem dX11_toll_48 : decode cX11_toll 48 = .ok (.iconst 5, 1) := by decide +kernel
theorem dX11_toll_49 : decode cX11_toll 49 = .ok (.iload_n 3, 1) := by decide +kernel
theorem dX11_toll_50 : decode cX11_toll 50 = .ok (.imul, 1) := by decide +kernel
theorem dX11_toll_51 : decode cX11_toll 51 = .ok (.iconst 4, 1) := by decide +kernel
theorem dX11_toll_52 : decode cX11_toll 52 = .ok (.iadd, 1) := by decide +kernel
theorem dX11_toll_53 : decode cX11_toll 53 = .ok (.iaload, 1) := by decide +kernel
theorem dX11_toll_54 : decode cX11_toll 54 = .ok (.goto 4, 3) := by decide +kernel
theorem dX11_toll_0 : decode cX11_toll 0 = .ok (.aload_n 0, 1) := by decide +kernel
theorem dX11_toll_1 : decode cX11_toll 1 = .ok (.iconst 0, 1) := by decide +kernel
theorem dX11_toll_2 : decode cX11_toll 2 = .ok (.putfield 98, 3) := by decide +kernel
theorem dX11_toll_5 : decode cX11_toll 5 = .ok (.aload_n 0, 1) := by decide +kernel
theorem dX11_toll_6 : decode cX11_toll 6 = .ok (.iload_n 1, 1) := by decide +kernel
theorem dX11_toll_7 : decode cX11_toll 7 = .ok (.i2l, 1) := by decide +kernel
theorem dX11_toll_8 : decode cX11_toll 8 = .ok (.invokevirtual 324, 3) := by decide +kernel
theorem dX11_toll_11 : decode cX11_toll 11 = .ok (.ifCond .ne 6, 3) := by decide +kernel
theorem dX11_toll_17 : decode cX11_toll 17 = .ok (.aload_n 0, 1) := by decide +kernel
theorem dX11_toll_18 : decode cX11_toll 18 = .ok (.invokevirtual 327, 3) := by decide +kernel
theorem dX11_toll_21 : decode cX11_toll 21 = .ok (.iconst 0, 1) := by decide +kernel
theorem dX11_toll_22 : decode cX11_toll 22 = .ok (.istore_n 2, 1) := by decide +kernel
theorem dX11_toll_23 : decode cX11_toll 23 = .ok (.iconst 0, 1) := by decide +kernel
theorem dX11_toll_24 : decode cX11_toll 24 = .ok (.istore_n 3, 1) := by decide +kernel
theorem dX11_toll_14 : decode cX11_toll 14 = .ok (.bipush (-2), 2) := by decide +kernel
theorem dX11_toll_16 : decode cX11_toll 16 = .ok (.ireturn, 1) := by decide +kernel
def FX11_toll_58 (k25 : Int → Int → Int → Mm → Option (Int × Mm)) (x1 : Int) (x3 : Int) (s0 : Int) (s1 : Int) (f : Mm) : Option (Int × Mm) := k25 x1 (w32 (s0 + s1)) (w32 (x3 + 1)) f
set_option maxHeartbeats 4000000 in
set_option maxRecDepth 100000 in
theorem SX11_toll_58 {G : GT} {l : Launch} {Q : Option AV → Mem → Prop} {k25 : Int → Int → Int → Mm → Option (Int × Mm)} (q25 : ∀ (x1 : Int) (x2 : Int) (x3 : Int) (f : Mm), OkI Q (k25 x1 x2 x3 f) → Ev G l MX11_toll (Rm 7 0 0) (ZM G Q 0 0) 0 0 25 [some (vR 150), some (vI x1), some (vI x2), some (vI x3)] [] (SH, RF, f)) (x1 : Int) (x3 : Int) (s0 : Int) (s1 : Int) (f : Mm) (h : OkI Q (FX11_toll_58 k25 x1 x3 s0 s1 f)) : Ev G l MX11_toll (Rm 7 0 0) (ZM G Q 0 0) 0 0 58 [some (vR 150), some (vI x1), none, some (vI x3)] [vI s1, vI s0] (SH, RF, f) := by
  unfold FX11_toll_58 at h
  refine ev_iadd dX11_toll_58 ?_
  refine ev_istore_n (i := 2) (L' := [some (vR 150), some (vI x1), some (vI (w32 (s0 + s1))), some (vI x3)]) dX11_toll_59 rfl (by decide) rfl ?_
  refine ev_iinc (L' := [some (vR 150), some (vI x1), some (vI (w32 (s0 + s1))), some (vI (w32 (x3 + 1)))]) dX11_toll_60 rfl (by decide) rfl ?_
  refine ev_goto (tgt := 25) dX11_toll_63 (by decide) ?_
  exact q25 x1 (w32 (s0 + s1)) (w32 (x3 + 1)) _ h
def FX11_toll_25  : Nat → Int → Int → Int → Mm → Option (Int × Mm)
  | 0, _, _, _, _ => none
  | n + 1, x1, x2, x3, f => (b2 (FX11_carts f) fun y1 f1 => (if y1 ≤ x3 then some (x2, f1) else (if 0 ≤ x3 ∧ x3 < 6 then (if (f1 167 x3.toNat) = x1 then (if 0 ≤ (w32 ((w32 (5 * x3)) + 4)) ∧ (w32 ((w32 (5 * x3)) + 4)) < 150 then FX11_toll_58 (FX11_toll_25 n) x1 x3 x2 (f1 159 (w32 ((w32 (5 * x3)) + 4)).toNat) f1 else none) else FX11_toll_58 (FX11_toll_25 n) x1 x3 x2 0 f1) else none)))
set_option maxHeartbeats 4000000 in
set_option maxRecDepth 100000 in
theorem SX11_toll_25 {G : GT} {l : Launch} {Q : Option AV → Mem → Prop}  : ∀ (n : Nat) (x1 : Int) (x2 : Int) (x3 : Int) (f : Mm), OkI Q (FX11_toll_25  n x1 x2 x3 f) → Ev G l MX11_toll (Rm 7 0 0) (ZM G Q 0 0) 0 0 25 [some (vR 150), some (vI x1), some (vI x2), some (vI x3)] [] (SH, RF, f) := by
  intro n
  induction n with
  | zero => intro x1 x2 x3 f h; exact absurd h (by rw [FX11_toll_25]; exact fun q => q)
  | succ n ih =>
    intro x1 x2 x3 f h
    rw [FX11_toll_25] at h
    refine ev_iload_n (i := 3) dX11_toll_25 rfl rfl ?_
    refine ev_aload_n (i := 0) dX11_toll_26 rfl rfl ?_
    refine ev_cVI (b := 150) (av := []) (S := [vI x3]) (fun q => q) h dX11_toll_27 (fun Q' q => TX11_carts _ q) kvX11_carts ml_X11_269 sh_150 rfl (RRc (by decide) (by decide)) (Nat.le_of_ble_eq_true rfl) ⟨Nat.le_of_ble_eq_true rfl, Nat.le_of_ble_eq_true rfl⟩ (fun y1 f1 h => ?_)
    refine ev_icmp_ge (tgt := 66) dX11_toll_30 (by decide) (fun c5 => ?_) (fun c5 => ?_)
    · rw [if_pos c5] at h
      refine ev_iload_n (i := 2) dX11_toll_66 rfl rfl ?_
      exact ev_iret rfl dX11_toll_67 h
    · rw [if_neg c5] at h
      refine ev_iload_n (i := 2) dX11_toll_33 rfl rfl ?_
      refine ev_aload_n (i := 0) dX11_toll_34 rfl rfl ?_
      refine ev_getR dX11_toll_35 fl_X11_65 sh_150 (by decide) (by decide) rf_150_29 ?_
      refine ev_iload_n (i := 3) dX11_toll_38 rfl rfl ?_
      by_cases g2 : 0 ≤ x3 ∧ x3 < 6
      · rw [if_pos g2] at h
        refine ex_iald (x := (f1 167 x3.toNat)) dX11_toll_39 sh_167 g2.1 g2.2 rfl ?_
        refine ev_iload_n (i := 1) dX11_toll_40 rfl rfl ?_
        refine ev_icmp_ne (tgt := 57) dX11_toll_41 (by decide) (fun c4 => ?_) (fun c4 => ?_)
        · rw [if_neg c4] at h
          refine ev_iconst dX11_toll_57 (r32c rfl) ?_
          refine ev_fg [true, true, false, true] rfl ?_
          exact SX11_toll_58 ih x1 x3 x2 0 _ h
        · rw [if_pos c4] at h
          refine ev_aload_n (i := 0) dX11_toll_44 rfl rfl ?_
          refine ev_getR dX11_toll_45 fl_X11_40 sh_150 (by decide) (by decide) rf_150_19 ?_
          refine ev_iconst dX11_toll_48 (r32c rfl) ?_
          refine ev_iload_n (i := 3) dX11_toll_49 rfl rfl ?_
          refine ev_imul dX11_toll_50 ?_
          refine ev_iconst dX11_toll_51 (r32c rfl) ?_
          refine ev_iadd dX11_toll_52 ?_
          by_cases g3 : 0 ≤ (w32 ((w32 (5 * x3)) + 4)) ∧ (w32 ((w32 (5 * x3)) + 4)) < 150
          · rw [if_pos g3] at h
            refine ex_iald (x := (f1 159 (w32 ((w32 (5 * x3)) + 4)).toNat)) dX11_toll_53 sh_159 g3.1 g3.2 rfl ?_
            refine ev_goto (tgt := 58) dX11_toll_54 (by decide) ?_
            refine ev_fg [true, true, false, true] rfl ?_
            exact SX11_toll_58 ih x1 x3 x2 (f1 159 (w32 ((w32 (5 * x3)) + 4)).toNat) _ h
          · rw [if_neg g3] at h; exact h.elim
      · rw [if_neg g2] at h; exact h.elim
def FX11_toll_0  (x1 : Int) (f : Mm) : Option (Int × Mm) := (b2 (FX11_isDay x1 (up f 150 0 0)) fun y1 f1 => (if y1 = 0 then some ((-2), f1) else ((FX11_laysPassed f1).bind fun f2 => FX11_toll_25 fu x1 0 0 f2)))
set_option maxHeartbeats 4000000 in
set_option maxRecDepth 100000 in
theorem SX11_toll_0 {G : GT} {l : Launch} {Q : Option AV → Mem → Prop}  (x1 : Int) (f : Mm) (h : OkI Q (FX11_toll_0  x1 f)) : Ev G l MX11_toll (Rm 7 0 0) (ZM G Q 0 0) 0 0 0 [some (vR 150), some (vI x1), none, none] [] (SH, RF, f) := by
  unfold FX11_toll_0 at h
  refine ev_aload_n (i := 0) dX11_toll_0 rfl rfl ?_
  refine ev_iconst dX11_toll_1 (r32c rfl) ?_
  refine ev_putI dX11_toll_2 fl_X11_98 sh_150 (by decide) (by decide) ?_
  refine ev_aload_n (i := 0) dX11_toll_5 rfl rfl ?_
  refine ev_iload_n (i := 1) dX11_toll_6 rfl rfl ?_
  refine ev_i2l dX11_toll_7 ?_
  refine ev_cVI (b := 150) (av := [vJ x1]) (S := []) (fun q => q) h dX11_toll_8 (fun Q' q => TX11_isDay x1 _ q) kvX11_isDay ml_X11_324 sh_150 rfl (RRc (by decide) (by decide)) (Nat.le_of_ble_eq_true rfl) ⟨Nat.le_of_ble_eq_true rfl, Nat.le_of_ble_eq_true rfl⟩ (fun y1 f1 h => ?_)
  refine ev_if_ne (tgt := 17) dX11_toll_11 (by decide) (fun c3 => ?_) (fun c3 => ?_)
  · rw [if_neg c3] at h
    refine ev_aload_n (i := 0) dX11_toll_17 rfl rfl ?_
    refine ev_cVV (b := 150) (av := []) (S := []) (fun q => q) h dX11_toll_18 (fun Q' q => TX11_laysPassed _ q) kvX11_laysPassed ml_X11_327 sh_150 rfl (RRc (by decide) (by decide)) (Nat.le_of_ble_eq_true rfl) ⟨Nat.le_of_ble_eq_true rfl, Nat.le_of_ble_eq_true rfl⟩ (fun f2 h => ?_)
    refine ev_iconst dX11_toll_21 (r32c rfl) ?_
    refine ev_istore_n (i := 2) (L' := [some (vR 150), some (vI x1), some (vI 0), none]) dX11_toll_22 rfl (by decide) rfl ?_
    refine ev_iconst dX11_toll_23 (r32c rfl) ?_
    refine ev_istore_n (i := 3) (L' := [some (vR 150), some (vI x1), some (vI 0), some (vI 0)]) dX11_toll_24 rfl (by decide) rfl ?_
    exact SX11_toll_25  fu x1 0 0 _ h
  · rw [if_pos c3] at h
    refine ev_bipush (v := (-2)) dX11_toll_14 (r32c rfl) (by decide) ?_
    exact ev_iret rfl dX11_toll_16 h
def FX11_toll (x1 : Int) (f : Mm) : Option (Int × Mm) := FX11_toll_0 x1 f
set_option maxRecDepth 100000 in
theorem TX11_toll {G : GT} {l : Launch} {Q : Option AV → Mem → Prop} (x1 : Int) (f : Mm) (h : OkI Q (FX11_toll x1 f)) : Ret G l MX11_toll (7) 0 0 [vR 150, vI x1] (SH, RF, f) Q := by
  refine ret_of (L := [some (vR 150), some (vI x1), none, none]) (by decide) rfl (Nat.le_of_ble_eq_true rfl) ?_
  exact SX11_toll_0 x1 f h
theorem dX11_gap_0 : decode cX11_gap 0 = .ok (.aload_n 0, 1) := by decide +kernel
theorem dX11_gap_1 : decode cX11_gap 1 = .ok (.iconst 0, 1) := by decide +kernel
theorem dX11_gap_2 : decode cX11_gap 2 = .ok (.putfield 98, 3) := by decide +kernel
theorem dX11_gap_5 : decode cX11_gap 5 = .ok (.aload_n 0, 1) := by decide +kernel
theorem dX11_gap_6 : decode cX11_gap 6 = .ok (.iload_n 1, 1) := by decide +kernel
theorem dX11_gap_7 : decode cX11_gap 7 = .ok (.i2l, 1) := by decide +kernel
theorem dX11_gap_8 : decode cX11_gap 8 = .ok (.invokevirtual 324, 3) := by decide +kernel
theorem dX11_gap_11 : decode cX11_gap 11 = .ok (.ifCond .ne 6, 3) := by decide +kernel
theorem dX11_gap_17 : decode cX11_gap 17 = .ok (.aload_n 0, 1) := by decide +kernel
theorem dX11_gap_18 : decode cX11_gap 18 = .ok (.invokevirtual 301, 3) := by decide +kernel
theorem dX11_gap_21 : decode cX11_gap 21 = .ok (.aload_n 0, 1) := by decide +kernel
theorem dX11_gap_22 : decode cX11_gap 22 = .ok (.getfield 53, 3) := by decide +kernel
theorem dX11_gap_25 : decode cX11_gap 25 = .ok (.iconst 2, 1) := by decide +kernel
theorem dX11_gap_26 : decode cX11_gap 26 = .ok (.iload_n 1, 1) := by decide +kernel
theorem dX11_gap_27 : decode cX11_gap 27 = .ok (.imul, 1) := by decide +kernel
theorem dX11_gap_28 : decode cX11_gap 28 = .ok (.iaload, 1) := by decide +kernel
theorem dX11_gap_29 : decode cX11_gap 29 = .ok (.aload_n 0, 1) := by decide +kernel
theorem dX11_gap_30 : decode cX11_gap 30 = .ok (.getfield 53, 3) := by decide +kernel
theorem dX11_gap_33 : decode cX11_gap 33 = .ok (.iconst 2, 1) := by decide +kernel
theorem dX11_gap_34 : decode cX11_gap 34 = .ok (.iload_n 1, 1) := by decide +kernel
theorem dX11_gap_35 : decode cX11_gap 35 = .ok (.imul, 1) := by decide +kernel
theorem dX11_gap_36 : decode cX11_gap 36 = .ok (.iconst 1, 1) := by decide +kernel
theorem dX11_gap_37 : decode cX11_gap 37 = .ok (.iadd, 1) := by decide +kernel
theorem dX11_gap_38 : decode cX11_gap 38 = .ok (.iaload, 1) := by decide +kernel
theorem dX11_gap_39 : decode cX11_gap 39 = .ok (.isub, 1) := by decide +kernel
theorem dX11_gap_40 : decode cX11_gap 40 = .ok (.istore_n 2, 1) := by decide +kernel
theorem dX11_gap_41 : decode cX11_gap 41 = .ok (.iload_n 2, 1) := by decide +kernel
theorem dX11_gap_42 : decode cX11_gap 42 = .ok (.ifCond .ge 8, 3) := by decide +kernel
theorem dX11_gap_50 : decode cX11_gap 50 = .ok (.iload_n 2, 1) := by decide +kernel
theorem dX11_gap_51 : decode cX11_gap 51 = .ok (.ireturn, 1) := by decide +kernel
theorem dX11_gap_45 : decode cX11_gap 45 = .ok (.iload_n 2, 1) := by decide +kernel
theorem dX11_gap_46 : decode cX11_gap 46 = .ok (.ineg, 1) := by decide +kernel
theorem dX11_gap_47 : decode cX11_gap 47 = .ok (.goto 4, 3) := by decide +kernel
theorem dX11_gap_14 : decode cX11_gap 14 = .ok (.bipush (-2), 2) := by decide +kernel
theorem dX11_gap_16 : decode cX11_gap 16 = .ok (.ireturn, 1) := by decide +kernel
def FX11_gap_0  (x1 : Int) (f : Mm) : Option (Int × Mm) := (b2 (FX11_isDay x1 (up f 150 0 0)) fun y1 f1 => (if y1 = 0 then some ((-2), f1) else ((FX11_laysNow f1).bind fun f2 => (if 0 ≤ (w32 (2 * x1)) ∧ (w32 (2 * x1)) < 12 then (if 0 ≤ (w32 ((w32 (2 * x1)) + 1)) ∧ (w32 ((w32 (2 * x1)) + 1)) < 12 then (if 0 ≤ (w32 ((f2 163 (w32 (2 * x1)).toNat) - (f2 163 (w32 ((w32 (2 * x1)) + 1)).toNat))) then some ((w32 ((f2 163 (w32 (2 * x1)).toNat) - (f2 163 (w32 ((w32 (2 * x1)) + 1)).toNat))), f2) else some ((w32 (-(w32 ((f2 163 (w32 (2 * x1)).toNat) - (f2 163 (w32 ((w32 (2 * x1)) + 1)).toNat))))), f2)) else none) else none))))
set_option maxHeartbeats 4000000 in
set_option maxRecDepth 100000 in
theorem SX11_gap_0 {G : GT} {l : Launch} {Q : Option AV → Mem → Prop}  (x1 : Int) (f : Mm) (h : OkI Q (FX11_gap_0  x1 f)) : Ev G l MX11_gap (Rm 6 0 0) (ZM G Q 0 0) 0 0 0 [some (vR 150), some (vI x1), none] [] (SH, RF, f) := by
  unfold FX11_gap_0 at h
  refine ev_aload_n (i := 0) dX11_gap_0 rfl rfl ?_
  refine ev_iconst dX11_gap_1 (r32c rfl) ?_
  refine ev_putI dX11_gap_2 fl_X11_98 sh_150 (by decide) (by decide) ?_
  refine ev_aload_n (i := 0) dX11_gap_5 rfl rfl ?_
  refine ev_iload_n (i := 1) dX11_gap_6 rfl rfl ?_
  refine ev_i2l dX11_gap_7 ?_
  refine ev_cVI (b := 150) (av := [vJ x1]) (S := []) (fun q => q) h dX11_gap_8 (fun Q' q => TX11_isDay x1 _ q) kvX11_isDay ml_X11_324 sh_150 rfl (RRc (by decide) (by decide)) (Nat.le_of_ble_eq_true rfl) ⟨Nat.le_of_ble_eq_true rfl, Nat.le_of_ble_eq_true rfl⟩ (fun y1 f1 h => ?_)
  refine ev_if_ne (tgt := 17) dX11_gap_11 (by decide) (fun c6 => ?_) (fun c6 => ?_)
  · rw [if_neg c6] at h
    refine ev_aload_n (i := 0) dX11_gap_17 rfl rfl ?_
    refine ev_cVV (b := 150) (av := []) (S := []) (fun q => q) h dX11_gap_18 (fun Q' q => TX11_laysNow _ q) kvX11_laysNow ml_X11_301 sh_150 rfl (RRc (by decide) (by decide)) (Nat.le_of_ble_eq_true rfl) ⟨Nat.le_of_ble_eq_true rfl, Nat.le_of_ble_eq_true rfl⟩ (fun f2 h => ?_)
    refine ev_aload_n (i := 0) dX11_gap_21 rfl rfl ?_
    refine ev_getR dX11_gap_22 fl_X11_53 sh_150 (by decide) (by decide) rf_150_25 ?_
    refine ev_iconst dX11_gap_25 (r32c rfl) ?_
    refine ev_iload_n (i := 1) dX11_gap_26 rfl rfl ?_
    refine ev_imul dX11_gap_27 ?_
    by_cases g3 : 0 ≤ (w32 (2 * x1)) ∧ (w32 (2 * x1)) < 12
    · rw [if_pos g3] at h
      refine ex_iald (x := (f2 163 (w32 (2 * x1)).toNat)) dX11_gap_28 sh_163 g3.1 g3.2 rfl ?_
      refine ev_aload_n (i := 0) dX11_gap_29 rfl rfl ?_
      refine ev_getR dX11_gap_30 fl_X11_53 sh_150 (by decide) (by decide) rf_150_25 ?_
      refine ev_iconst dX11_gap_33 (r32c rfl) ?_
      refine ev_iload_n (i := 1) dX11_gap_34 rfl rfl ?_
      refine ev_imul dX11_gap_35 ?_
      refine ev_iconst dX11_gap_36 (r32c rfl) ?_
      refine ev_iadd dX11_gap_37 ?_
      by_cases g4 : 0 ≤ (w32 ((w32 (2 * x1)) + 1)) ∧ (w32 ((w32 (2 * x1)) + 1)) < 12
      · rw [if_pos g4] at h
        refine ex_iald (x := (f2 163 (w32 ((w32 (2 * x1)) + 1)).toNat)) dX11_gap_38 sh_163 g4.1 g4.2 rfl ?_
        refine ev_isub dX11_gap_39 ?_
        refine ev_istore_n (i := 2) (L' := [some (vR 150), some (vI x1), some (vI (w32 ((f2 163 (w32 (2 * x1)).toNat) - (f2 163 (w32 ((w32 (2 * x1)) + 1)).toNat))))]) dX11_gap_40 rfl (by decide) rfl ?_
        refine ev_iload_n (i := 2) dX11_gap_41 rfl rfl ?_
        refine ev_if_ge (tgt := 50) dX11_gap_42 (by decide) (fun c5 => ?_) (fun c5 => ?_)
        · rw [if_pos c5] at h
          refine ev_iload_n (i := 2) dX11_gap_50 rfl rfl ?_
          exact ev_iret rfl dX11_gap_51 h
        · rw [if_neg c5] at h
          refine ev_iload_n (i := 2) dX11_gap_45 rfl rfl ?_
          refine ev_ineg dX11_gap_46 ?_
          refine ev_goto (tgt := 51) dX11_gap_47 (by decide) ?_
          exact ev_iret rfl dX11_gap_51 h
      · rw [if_neg g4] at h; exact h.elim
    · rw [if_neg g3] at h; exact h.elim
  · rw [if_pos c6] at h
    refine ev_bipush (v := (-2)) dX11_gap_14 (r32c rfl) (by decide) ?_
    exact ev_iret rfl dX11_gap_16 h
def FX11_gap (x1 : Int) (f : Mm) : Option (Int × Mm) := FX11_gap_0 x1 f
set_option maxRecDepth 100000 in
theorem TX11_gap {G : GT} {l : Launch} {Q : Option AV → Mem → Prop} (x1 : Int) (f : Mm) (h : OkI Q (FX11_gap x1 f)) : Ret G l MX11_gap (6) 0 0 [vR 150, vI x1] (SH, RF, f) Q := by
  refine ret_of (L := [some (vR 150), some (vI x1), none]) (by decide) rfl (Nat.le_of_ble_eq_true rfl) ?_
  exact SX11_gap_0 x1 f h
theorem dX11_kind_79 : decode cX11_kind 79 = .ok (.iinc 4 1, 3) := by decide +kernel
theorem dX11_kind_82 : decode cX11_kind 82 = .ok (.goto (-49), 3) := by decide +kernel
theorem dX11_kind_33 : decode cX11_kind 33 = .ok (.iload 4, 2) := by decide +kernel
theorem dX11_kind_35 : decode cX11_kind 35 = .ok (.aload_n 0, 1) := by decide +kernel
theorem dX11_kind_36 : decode cX11_kind 36 = .ok (.getfield 34, 3) := by decide +kernel
theorem dX11_kind_39 : decode cX11_kind 39 = .ok (.iconst 5, 1) := by decide +kernel
theorem dX11_kind_40 : decode cX11_kind 40 = .ok (.iaload, 1) := by decide +kernel
theorem dX11_kind_41 : decode cX11_kind 41 = .ok (.if_icmp .ge 44, 3) := by decide +kernel
theorem dX11_kind_85 : decode cX11_kind 85 = .ok (.iload_n 2, 1) := by decide +kernel
theorem dX11_kind_86 : decode cX11_kind 86 = .ok (.ireturn, 1) := by decide +kernel
theorem dX11_kind_44 : decode cX11_kind 44 = .ok (.aload_n 0, 1) := by decide +kernel
theorem dX11_kind_45 : decode cX11_kind 45 = .ok (.getfield 50, 3) := by decide +kernel
theorem dX11_kind_48 : decode cX11_kind 48 = .ok (.iload_n 1, 1) := by decide +kernel
theorem dX11_kind_49 : decode cX11_kind 49 = .ok (.iload 4, 2) := by decide +kernel
theorem dX11_kind_51 : decode cX11_kind 51 = .ok (.iastore, 1) := by decide +kernel
theorem dX11_kind_52 : decode cX11_kind 52 = .ok (.aload_n 0, 1) := by decide +kernel
theorem dX11_kind_53 : decode cX11_kind 53 = .ok (.invokevirtual 299, 3) := by decide +kernel
theorem dX11_kind_56 : decode cX11_kind 56 = .ok (.aload_n 0, 1) := by decide +kernel
theorem dX11_kind_57 : decode cX11_kind 57 = .ok (.getfield 56, 3) := by decide +kernel
theorem dX11_kind_60 : decode cX11_kind 60 = .ok (.iload_n 1, 1) := by decide +kernel
theorem dX11_kind_61 : decode cX11_kind 61 = .ok (.iaload, 1) := by decide +kernel
theorem dX11_kind_62 : decode cX11_kind 62 = .ok (.iload_n 3, 1) := by decide +kernel
theorem dX11_kind_63 : decode cX11_kind 63 = .ok (.if_icmp .gt 6, 3) := by decide +kernel
theorem dX11_kind_69 : decode cX11_kind 69 = .ok (.iload 4, 2) := by decide +kernel
theorem dX11_kind_71 : decode cX11_kind 71 = .ok (.istore_n 2, 1) := by decide +kernel
theorem dX11_kind_72 : decode cX11_kind 72 = .ok (.aload_n 0, 1) := by decide +kernel
theorem dX11_kind_73 : decode cX11_kind 73 = .ok (.getfield 56, 3) := by decide +kernel
theorem dX11_kind_76 : decode cX11_kind 76 = .ok (.iload_n 1, 1) := by decide +kernel
theorem dX11_kind_77 : decode cX11_kind 77 = .ok (.iaload, 1) := by decide +kernel
theorem dX11_kind_78 : decode cX11_kind 78 = .ok (.istore_n 3, 1) := by decide +kernel
theorem dX11_kind_66 : decode cX11_kind 66 = .ok (.goto 13, 3) := by decide +kernel
theorem dX11_kind_0 : decode cX11_kind 0 = .ok (.aload_n 0, 1) := by decide +kernel
theorem dX11_kind_1 : decode cX11_kind 1 = .ok (.iconst 0, 1) := by decide +kernel
theorem dX11_kind_2 : decode cX11_kind 2 = .ok (.putfield 98, 3) := by decide +kernel
theorem dX11_kind_5 : decode cX11_kind 5 = .ok (.aload_n 0, 1) := by decide +kernel
theorem dX11_kind_6 : decode cX11_kind 6 = .ok (.iload_n 1, 1) := by decide +kernel
theorem dX11_kind_7 : decode cX11_kind 7 = .ok (.i2l, 1) := by decide +kernel
theorem dX11_kind_8 : decode cX11_kind 8 = .ok (.invokevirtual 324, 3) := by decide +kernel
theorem dX11_kind_11 : decode cX11_kind 11 = .ok (.ifCond .ne 6, 3) := by decide +kernel
theorem dX11_kind_17 : decode cX11_kind 17 = .ok (.aload_n 0, 1) := by decide +kernel
theorem dX11_kind_18 : decode cX11_kind 18 = .ok (.invokevirtual 301, 3) := by decide +kernel
theorem dX11_kind_21 : decode cX11_kind 21 = .ok (.iconst (-1), 1) := by decide +kernel
theorem dX11_kind_22 : decode cX11_kind 22 = .ok (.istore_n 2, 1) := by decide +kernel
theorem dX11_kind_23 : decode cX11_kind 23 = .ok (.aload_n 0, 1) := by decide +kernel
theorem dX11_kind_24 : decode cX11_kind 24 = .ok (.getfield 56, 3) := by decide +kernel
theorem dX11_kind_27 : decode cX11_kind 27 = .ok (.iload_n 1, 1) := by decide +kernel
theorem dX11_kind_28 : decode cX11_kind 28 = .ok (.iaload, 1) := by decide +kernel
theorem dX11_kind_29 : decode cX11_kind 29 = .ok (.istore_n 3, 1) := by decide +kernel
theorem dX11_kind_30 : decode cX11_kind 30 = .ok (.iconst 0, 1) := by decide +kernel
theorem dX11_kind_31 : decode cX11_kind 31 = .ok (.istore 4, 2) := by decide +kernel
theorem dX11_kind_14 : decode cX11_kind 14 = .ok (.bipush (-2), 2) := by decide +kernel
theorem dX11_kind_16 : decode cX11_kind 16 = .ok (.ireturn, 1) := by decide +kernel
def FX11_kind_79 (k33 : Int → Int → Int → Int → Mm → Option (Int × Mm)) (x1 : Int) (x2 : Int) (x3 : Int) (x4 : Int) (f : Mm) : Option (Int × Mm) := k33 x1 x2 x3 (w32 (x4 + 1)) f
set_option maxHeartbeats 4000000 in
set_option maxRecDepth 100000 in
theorem SX11_kind_79 {G : GT} {l : Launch} {Q : Option AV → Mem → Prop} {k33 : Int → Int → Int → Int → Mm → Option (Int × Mm)} (q33 : ∀ (x1 : Int) (x2 : Int) (x3 : Int) (x4 : Int) (f : Mm), OkI Q (k33 x1 x2 x3 x4 f) → Ev G l MX11_kind (Rm 6 0 0) (ZM G Q 0 0) 0 0 33 [some (vR 150), some (vI x1), some (vI x2), some (vI x3), some (vI x4)] [] (SH, RF, f)) (x1 : Int) (x2 : Int) (x3 : Int) (x4 : Int) (f : Mm) (h : OkI Q (FX11_kind_79 k33 x1 x2 x3 x4 f)) : Ev G l MX11_kind (Rm 6 0 0) (ZM G Q 0 0) 0 0 79 [some (vR 150), some (vI x1), some (vI x2), some (vI x3), some (vI x4)] [] (SH, RF, f) := by
  unfold FX11_kind_79 at h
  refine ev_iinc (L' := [some (vR 150), some (vI x1), some (vI x2), some (vI x3), some (vI (w32 (x4 + 1)))]) dX11_kind_79 rfl (by decide) rfl ?_
  refine ev_goto (tgt := 33) dX11_kind_82 (by decide) ?_
  exact q33 x1 x2 x3 (w32 (x4 + 1)) _ h
def FX11_kind_33  : Nat → Int → Int → Int → Int → Mm → Option (Int × Mm)
  | 0, _, _, _, _, _ => none
  | n + 1, x1, x2, x3, x4, f => (if (f 157 5) ≤ x4 then some (x2, f) else (if 0 ≤ x1 ∧ x1 < 6 then ((FX11_goes_ (up f 162 x1.toNat x4)).bind fun f2 => (if 0 ≤ x1 ∧ x1 < 6 then (if x3 < (f2 164 x1.toNat) then (if 0 ≤ x1 ∧ x1 < 6 then FX11_kind_79 (FX11_kind_33 n) x1 x4 (f2 164 x1.toNat) x4 f2 else none) else FX11_kind_79 (FX11_kind_33 n) x1 x2 x3 x4 f2) else none)) else none))
set_option maxHeartbeats 4000000 in
set_option maxRecDepth 100000 in
theorem SX11_kind_33 {G : GT} {l : Launch} {Q : Option AV → Mem → Prop}  : ∀ (n : Nat) (x1 : Int) (x2 : Int) (x3 : Int) (x4 : Int) (f : Mm), OkI Q (FX11_kind_33  n x1 x2 x3 x4 f) → Ev G l MX11_kind (Rm 6 0 0) (ZM G Q 0 0) 0 0 33 [some (vR 150), some (vI x1), some (vI x2), some (vI x3), some (vI x4)] [] (SH, RF, f) := by
  intro n
  induction n with
  | zero => intro x1 x2 x3 x4 f h; exact absurd h (by rw [FX11_kind_33]; exact fun q => q)
  | succ n ih =>
    intro x1 x2 x3 x4 f h
    rw [FX11_kind_33] at h
    refine ev_iload dX11_kind_33 rfl ?_
    refine ev_aload_n (i := 0) dX11_kind_35 rfl rfl ?_
    refine ev_getR dX11_kind_36 fl_X11_34 sh_150 (by decide) (by decide) rf_150_17 ?_
    refine ev_iconst dX11_kind_39 (r32c rfl) ?_
    refine ex_iald (x := (f 157 5)) dX11_kind_40 sh_157 (by decide) (by decide) rfl ?_
    refine ev_icmp_ge (tgt := 85) dX11_kind_41 (by decide) (fun c6 => ?_) (fun c6 => ?_)
    · rw [if_pos c6] at h
      refine ev_iload_n (i := 2) dX11_kind_85 rfl rfl ?_
      exact ev_iret rfl dX11_kind_86 h
    · rw [if_neg c6] at h
      refine ev_aload_n (i := 0) dX11_kind_44 rfl rfl ?_
      refine ev_getR dX11_kind_45 fl_X11_50 sh_150 (by decide) (by decide) rf_150_22 ?_
      refine ev_iload_n (i := 1) dX11_kind_48 rfl rfl ?_
      refine ev_iload dX11_kind_49 rfl ?_
      by_cases g1 : 0 ≤ x1 ∧ x1 < 6
      · rw [if_pos g1] at h
        refine ex_iast (j := x1.toNat) dX11_kind_51 sh_162 g1.1 g1.2 rfl ?_
        refine ev_aload_n (i := 0) dX11_kind_52 rfl rfl ?_
        refine ev_cVV (b := 150) (av := []) (S := []) (fun q => q) h dX11_kind_53 (fun Q' q => TX11_goes_ _ q) kvX11_goes_ ml_X11_299 sh_150 rfl (RRc (by decide) (by decide)) (Nat.le_of_ble_eq_true rfl) ⟨Nat.le_of_ble_eq_true rfl, Nat.le_of_ble_eq_true rfl⟩ (fun f2 h => ?_)
        refine ev_aload_n (i := 0) dX11_kind_56 rfl rfl ?_
        refine ev_getR dX11_kind_57 fl_X11_56 sh_150 (by decide) (by decide) rf_150_26 ?_
        refine ev_iload_n (i := 1) dX11_kind_60 rfl rfl ?_
        by_cases g3 : 0 ≤ x1 ∧ x1 < 6
        · rw [if_pos g3] at h
          refine ex_iald (x := (f2 164 x1.toNat)) dX11_kind_61 sh_164 g3.1 g3.2 rfl ?_
          refine ev_iload_n (i := 3) dX11_kind_62 rfl rfl ?_
          refine ev_icmp_gt (tgt := 69) dX11_kind_63 (by decide) (fun c5 => ?_) (fun c5 => ?_)
          · rw [if_pos c5] at h
            refine ev_iload dX11_kind_69 rfl ?_
            refine ev_istore_n (i := 2) (L' := [some (vR 150), some (vI x1), some (vI x4), some (vI x3), some (vI x4)]) dX11_kind_71 rfl (by decide) rfl ?_
            refine ev_aload_n (i := 0) dX11_kind_72 rfl rfl ?_
            refine ev_getR dX11_kind_73 fl_X11_56 sh_150 (by decide) (by decide) rf_150_26 ?_
            refine ev_iload_n (i := 1) dX11_kind_76 rfl rfl ?_
            by_cases g4 : 0 ≤ x1 ∧ x1 < 6
            · rw [if_pos g4] at h
              refine ex_iald (x := (f2 164 x1.toNat)) dX11_kind_77 sh_164 g4.1 g4.2 rfl ?_
              refine ev_istore_n (i := 3) (L' := [some (vR 150), some (vI x1), some (vI x4), some (vI (f2 164 x1.toNat)), some (vI x4)]) dX11_kind_78 rfl (by decide) rfl ?_
              exact SX11_kind_79 ih x1 x4 (f2 164 x1.toNat) x4 _ h
            · rw [if_neg g4] at h; exact h.elim
          · rw [if_neg c5] at h
            refine ev_goto (tgt := 79) dX11_kind_66 (by decide) ?_
            exact SX11_kind_79 ih x1 x2 x3 x4 _ h
        · rw [if_neg g3] at h; exact h.elim
      · rw [if_neg g1] at h; exact h.elim
def FX11_kind_0  (x1 : Int) (f : Mm) : Option (Int × Mm) := (b2 (FX11_isDay x1 (up f 150 0 0)) fun y1 f1 => (if y1 = 0 then some ((-2), f1) else ((FX11_laysNow f1).bind fun f2 => (if 0 ≤ x1 ∧ x1 < 6 then FX11_kind_33 fu x1 (-1) (f2 164 x1.toNat) 0 f2 else none))))
set_option maxHeartbeats 4000000 in
set_option maxRecDepth 100000 in
theorem SX11_kind_0 {G : GT} {l : Launch} {Q : Option AV → Mem → Prop}  (x1 : Int) (f : Mm) (h : OkI Q (FX11_kind_0  x1 f)) : Ev G l MX11_kind (Rm 6 0 0) (ZM G Q 0 0) 0 0 0 [some (vR 150), some (vI x1), none, none, none] [] (SH, RF, f) := by
  unfold FX11_kind_0 at h
  refine ev_aload_n (i := 0) dX11_kind_0 rfl rfl ?_
  refine ev_iconst dX11_kind_1 (r32c rfl) ?_
  refine ev_putI dX11_kind_2 fl_X11_98 sh_150 (by decide) (by decide) ?_
  refine ev_aload_n (i := 0) dX11_kind_5 rfl rfl ?_
  refine ev_iload_n (i := 1) dX11_kind_6 rfl rfl ?_
  refine ev_i2l dX11_kind_7 ?_
  refine ev_cVI (b := 150) (av := [vJ x1]) (S := []) (fun q => q) h dX11_kind_8 (fun Q' q => TX11_isDay x1 _ q) kvX11_isDay ml_X11_324 sh_150 rfl (RRc (by decide) (by decide)) (Nat.le_of_ble_eq_true rfl) ⟨Nat.le_of_ble_eq_true rfl, Nat.le_of_ble_eq_true rfl⟩ (fun y1 f1 h => ?_)
  refine ev_if_ne (tgt := 17) dX11_kind_11 (by decide) (fun c4 => ?_) (fun c4 => ?_)
  · rw [if_neg c4] at h
    refine ev_aload_n (i := 0) dX11_kind_17 rfl rfl ?_
    refine ev_cVV (b := 150) (av := []) (S := []) (fun q => q) h dX11_kind_18 (fun Q' q => TX11_laysNow _ q) kvX11_laysNow ml_X11_301 sh_150 rfl (RRc (by decide) (by decide)) (Nat.le_of_ble_eq_true rfl) ⟨Nat.le_of_ble_eq_true rfl, Nat.le_of_ble_eq_true rfl⟩ (fun f2 h => ?_)
    refine ev_iconst dX11_kind_21 (r32c rfl) ?_
    refine ev_istore_n (i := 2) (L' := [some (vR 150), some (vI x1), some (vI (-1)), none, none]) dX11_kind_22 rfl (by decide) rfl ?_
    refine ev_aload_n (i := 0) dX11_kind_23 rfl rfl ?_
    refine ev_getR dX11_kind_24 fl_X11_56 sh_150 (by decide) (by decide) rf_150_26 ?_
    refine ev_iload_n (i := 1) dX11_kind_27 rfl rfl ?_
    by_cases g3 : 0 ≤ x1 ∧ x1 < 6
    · rw [if_pos g3] at h
      refine ex_iald (x := (f2 164 x1.toNat)) dX11_kind_28 sh_164 g3.1 g3.2 rfl ?_
      refine ev_istore_n (i := 3) (L' := [some (vR 150), some (vI x1), some (vI (-1)), some (vI (f2 164 x1.toNat)), none]) dX11_kind_29 rfl (by decide) rfl ?_
      refine ev_iconst dX11_kind_30 (r32c rfl) ?_
      refine ev_istore (L' := [some (vR 150), some (vI x1), some (vI (-1)), some (vI (f2 164 x1.toNat)), some (vI 0)]) dX11_kind_31 (by decide) rfl ?_
      exact SX11_kind_33  fu x1 (-1) (f2 164 x1.toNat) 0 _ h
    · rw [if_neg g3] at h; exact h.elim
  · rw [if_pos c4] at h
    refine ev_bipush (v := (-2)) dX11_kind_14 (r32c rfl) (by decide) ?_
    exact ev_iret rfl dX11_kind_16 h
def FX11_kind (x1 : Int) (f : Mm) : Option (Int × Mm) := FX11_kind_0 x1 f
set_option maxRecDepth 100000 in
theorem TX11_kind {G : GT} {l : Launch} {Q : Option AV → Mem → Prop} (x1 : Int) (f : Mm) (h : OkI Q (FX11_kind x1 f)) : Ret G l MX11_kind (6) 0 0 [vR 150, vI x1] (SH, RF, f) Q := by
  refine ret_of (L := [some (vR 150), some (vI x1), none, none, none]) (by decide) rfl (Nat.le_of_ble_eq_true rfl) ?_
  exact SX11_kind_0 x1 f h
theorem dX11_alone_0 : decode cX11_alone 0 = .ok (.aload_n 0, 1) := by decide +kernel
theorem dX11_alone_1 : decode cX11_alone 1 = .ok (.iconst 0, 1) := by decide +kernel
theorem dX11_alone_2 : decode cX11_alone 2 = .ok (.putfield 98, 3) := by decide +kernel
theorem dX11_alone_5 : decode cX11_alone 5 = .ok (.aload_n 0, 1) := by decide +kernel
theorem dX11_alone_6 : decode cX11_alone 6 = .ok (.iload_n 1, 1) := by decide +kernel
theorem dX11_alone_7 : decode cX11_alone 7 = .ok (.invokevirtual 313, 3) := by decide +kernel
theorem dX11_alone_10 : decode cX11_alone 10 = .ok (.ifCond .ne 7, 3) := by decide +kernel
theorem dX11_alone_17 : decode cX11_alone 17 = .ok (.aload_n 0, 1) := by decide +kernel
theorem dX11_alone_18 : decode cX11_alone 18 = .ok (.iload_n 1, 1) := by decide +kernel
theorem dX11_alone_19 : decode cX11_alone 19 = .ok (.invokevirtual 339, 3) := by decide +kernel
theorem dX11_alone_22 : decode cX11_alone 22 = .ok (.aload_n 0, 1) := by decide +kernel
theorem dX11_alone_23 : decode cX11_alone 23 = .ok (.getfield 343, 3) := by decide +kernel
theorem dX11_alone_26 : decode cX11_alone 26 = .ok (.ireturn, 1) := by decide +kernel
theorem dX11_alone_13 : decode cX11_alone 13 = .ok (.ldc_w 342, 3) := by decide +kernel
theorem dX11_alone_16 : decode cX11_alone 16 = .ok (.ireturn, 1) := by decide +kernel
def FX11_alone_0  (x1 : Int) (f : Mm) : Option (Int × Mm) := (b2 (FX11_isDeed x1 (up f 150 0 0)) fun y1 f1 => (if y1 = 0 then some ((-1000000), f1) else ((FX11_laysPlans_ x1 f1).bind fun f2 => some ((f2 150 31), f2))))
set_option maxHeartbeats 4000000 in
set_option maxRecDepth 100000 in
theorem SX11_alone_0 {G : GT} {l : Launch} {Q : Option AV → Mem → Prop}  (x1 : Int) (f : Mm) (h : OkI Q (FX11_alone_0  x1 f)) : Ev G l MX11_alone (Rm 6 0 0) (ZM G Q 0 0) 0 0 0 [some (vR 150), some (vI x1)] [] (SH, RF, f) := by
  unfold FX11_alone_0 at h
  refine ev_aload_n (i := 0) dX11_alone_0 rfl rfl ?_
  refine ev_iconst dX11_alone_1 (r32c rfl) ?_
  refine ev_putI dX11_alone_2 fl_X11_98 sh_150 (by decide) (by decide) ?_
  refine ev_aload_n (i := 0) dX11_alone_5 rfl rfl ?_
  refine ev_iload_n (i := 1) dX11_alone_6 rfl rfl ?_
  refine ev_cVI (b := 150) (av := [vI x1]) (S := []) (fun q => q) h dX11_alone_7 (fun Q' q => TX11_isDeed x1 _ q) kvX11_isDeed ml_X11_313 sh_150 rfl (RRc (by decide) (by decide)) (Nat.le_of_ble_eq_true rfl) ⟨Nat.le_of_ble_eq_true rfl, Nat.le_of_ble_eq_true rfl⟩ (fun y1 f1 h => ?_)
  refine ev_if_ne (tgt := 17) dX11_alone_10 (by decide) (fun c3 => ?_) (fun c3 => ?_)
  · rw [if_neg c3] at h
    refine ev_aload_n (i := 0) dX11_alone_17 rfl rfl ?_
    refine ev_iload_n (i := 1) dX11_alone_18 rfl rfl ?_
    refine ev_cVV (b := 150) (av := [vI x1]) (S := []) (fun q => q) h dX11_alone_19 (fun Q' q => TX11_laysPlans_ x1 _ q) kvX11_laysPlans_ ml_X11_339 sh_150 rfl (RRc (by decide) (by decide)) (Nat.le_of_ble_eq_true rfl) ⟨Nat.le_of_ble_eq_true rfl, Nat.le_of_ble_eq_true rfl⟩ (fun f2 h => ?_)
    refine ev_aload_n (i := 0) dX11_alone_22 rfl rfl ?_
    refine ex_getI (x := (f2 150 31)) dX11_alone_23 fl_X11_343 sh_150 (by decide) (by decide) rfl ?_
    exact ev_iret rfl dX11_alone_26 h
  · rw [if_pos c3] at h
    refine ev_ldcw (v := (-1000000)) dX11_alone_13 (r32c rfl) kc_X11_342 ?_
    exact ev_iret rfl dX11_alone_16 h
def FX11_alone (x1 : Int) (f : Mm) : Option (Int × Mm) := FX11_alone_0 x1 f
set_option maxRecDepth 100000 in
theorem TX11_alone {G : GT} {l : Launch} {Q : Option AV → Mem → Prop} (x1 : Int) (f : Mm) (h : OkI Q (FX11_alone x1 f)) : Ret G l MX11_alone (6) 0 0 [vR 150, vI x1] (SH, RF, f) Q := by
  refine ret_of (L := [some (vR 150), some (vI x1)]) (by decide) rfl (Nat.le_of_ble_eq_true rfl) ?_
  exact SX11_alone_0 x1 f h
theorem dX11_value_0 : decode cX11_value 0 = .ok (.aload_n 0, 1) := by decide +kernel
theorem dX11_value_1 : decode cX11_value 1 = .ok (.iconst 0, 1) := by decide +kernel
theorem dX11_value_2 : decode cX11_value 2 = .ok (.putfield 98, 3) := by decide +kernel
theorem dX11_value_5 : decode cX11_value 5 = .ok (.aload_n 0, 1) := by decide +kernel
theorem dX11_value_6 : decode cX11_value 6 = .ok (.iload_n 1, 1) := by decide +kernel
theorem dX11_value_7 : decode cX11_value 7 = .ok (.invokevirtual 316, 3) := by decide +kernel
theorem dX11_value_10 : decode cX11_value 10 = .ok (.ifCond .ne 6, 3) := by decide +kernel
theorem dX11_value_16 : decode cX11_value 16 = .ok (.aload_n 0, 1) := by decide +kernel
theorem dX11_value_17 : decode cX11_value 17 = .ok (.invokevirtual 365, 3) := by decide +kernel
theorem dX11_value_20 : decode cX11_value 20 = .ok (.aload_n 0, 1) := by decide +kernel
theorem dX11_value_21 : decode cX11_value 21 = .ok (.getfield 343, 3) := by decide +kernel
theorem dX11_value_24 : decode cX11_value 24 = .ok (.istore_n 2, 1) := by decide +kernel
theorem dX11_value_25 : decode cX11_value 25 = .ok (.aload_n 0, 1) := by decide +kernel
theorem dX11_value_26 : decode cX11_value 26 = .ok (.getfield 40, 3) := by decide +kernel
theorem dX11_value_29 : decode cX11_value 29 = .ok (.iconst 5, 1) := by decide +kernel
theorem dX11_value_30 : decode cX11_value 30 = .ok (.iload_n 1, 1) := by decide +kernel
theorem dX11_value_31 : decode cX11_value 31 = .ok (.imul, 1) := by decide +kernel
theorem dX11_value_32 : decode cX11_value 32 = .ok (.iconst 4, 1) := by decide +kernel
theorem dX11_value_33 : decode cX11_value 33 = .ok (.iadd, 1) := by decide +kernel
theorem dX11_value_34 : decode cX11_value 34 = .ok (.iaload, 1) := by decide +kernel
theorem dX11_value_35 : decode cX11_value 35 = .ok (.istore_n 3, 1) := by decide +kernel
theorem dX11_value_36 : decode cX11_value 36 = .ok (.aload_n 0, 1) := by decide +kernel
theorem dX11_value_37 : decode cX11_value 37 = .ok (.getfield 40, 3) := by decide +kernel
theorem dX11_value_40 : decode cX11_value 40 = .ok (.iconst 5, 1) := by decide +kernel
theorem dX11_value_41 : decode cX11_value 41 = .ok (.iload_n 1, 1) := by decide +kernel
theorem dX11_value_42 : decode cX11_value 42 = .ok (.imul, 1) := by decide +kernel
theorem dX11_value_43 : decode cX11_value 43 = .ok (.iconst 4, 1) := by decide +kernel
theorem dX11_value_44 : decode cX11_value 44 = .ok (.iadd, 1) := by decide +kernel
theorem dX11_value_45 : decode cX11_value 45 = .ok (.iconst 0, 1) := by decide +kernel
theorem dX11_value_46 : decode cX11_value 46 = .ok (.iastore, 1) := by decide +kernel
theorem dX11_value_47 : decode cX11_value 47 = .ok (.aload_n 0, 1) := by decide +kernel
theorem dX11_value_48 : decode cX11_value 48 = .ok (.invokevirtual 365, 3) := by decide +kernel
theorem dX11_value_51 : decode cX11_value 51 = .ok (.aload_n 0, 1) := by decide +kernel
theorem dX11_value_52 : decode cX11_value 52 = .ok (.getfield 40, 3) := by decide +kernel
theorem dX11_value_55 : decode cX11_value 55 = .ok (.iconst 5, 1) := by decide +kernel
theorem dX11_value_56 : decode cX11_value 56 = .ok (.iload_n 1, 1) := by decide +kernel
theorem dX11_value_57 : decode cX11_value 57 = .ok (.imul, 1) := by decide +kernel
theorem dX11_value_58 : decode cX11_value 58 = .ok (.iconst 4, 1) := by decide +kernel
theorem dX11_value_59 : decode cX11_value 59 = .ok (.iadd, 1) := by decide +kernel
theorem dX11_value_60 : decode cX11_value 60 = .ok (.iload_n 3, 1) := by decide +kernel
theorem dX11_value_61 : decode cX11_value 61 = .ok (.iastore, 1) := by decide +kernel
theorem dX11_value_62 : decode cX11_value 62 = .ok (.iload_n 2, 1) := by decide +kernel
theorem dX11_value_63 : decode cX11_value 63 = .ok (.aload_n 0, 1) := by decide +kernel
theorem dX11_value_64 : decode cX11_value 64 = .ok (.getfield 343, 3) := by decide +kernel
theorem dX11_value_67 : decode cX11_value 67 = .ok (.isub, 1) := by decide +kernel
theorem dX11_value_68 : decode cX11_value 68 = .ok (.ireturn, 1) := by decide +kernel
theorem dX11_value_13 : decode cX11_value 13 = .ok (.bipush (-2), 2) := by decide +kernel
theorem dX11_value_15 : decode cX11_value 15 = .ok (.ireturn, 1) := by decide +kernel
def FX11_value_0  (x1 : Int) (f : Mm) : Option (Int × Mm) := (b2 (FX11_isCart x1 (up f 150 0 0)) fun y1 f1 => (if y1 = 0 then some ((-2), f1) else ((FX11_laysPlans f1).bind fun f2 => (if 0 ≤ (w32 ((w32 (5 * x1)) + 4)) ∧ (w32 ((w32 (5 * x1)) + 4)) < 150 then (if 0 ≤ (w32 ((w32 (5 * x1)) + 4)) ∧ (w32 ((w32 (5 * x1)) + 4)) < 150 then ((FX11_laysPlans (up f2 159 (w32 ((w32 (5 * x1)) + 4)).toNat 0)).bind fun f5 => (if 0 ≤ (w32 ((w32 (5 * x1)) + 4)) ∧ (w32 ((w32 (5 * x1)) + 4)) < 150 then some ((w32 ((f2 150 31) - (f5 150 31))), (up f5 159 (w32 ((w32 (5 * x1)) + 4)).toNat (f2 159 (w32 ((w32 (5 * x1)) + 4)).toNat))) else none)) else none) else none))))
set_option maxHeartbeats 4000000 in
set_option maxRecDepth 100000 in
theorem SX11_value_0 {G : GT} {l : Launch} {Q : Option AV → Mem → Prop}  (x1 : Int) (f : Mm) (h : OkI Q (FX11_value_0  x1 f)) : Ev G l MX11_value (Rm 7 0 0) (ZM G Q 0 0) 0 0 0 [some (vR 150), some (vI x1), none, none] [] (SH, RF, f) := by
  unfold FX11_value_0 at h
  refine ev_aload_n (i := 0) dX11_value_0 rfl rfl ?_
  refine ev_iconst dX11_value_1 (r32c rfl) ?_
  refine ev_putI dX11_value_2 fl_X11_98 sh_150 (by decide) (by decide) ?_
  refine ev_aload_n (i := 0) dX11_value_5 rfl rfl ?_
  refine ev_iload_n (i := 1) dX11_value_6 rfl rfl ?_
  refine ev_cVI (b := 150) (av := [vI x1]) (S := []) (fun q => q) h dX11_value_7 (fun Q' q => TX11_isCart x1 _ q) kvX11_isCart ml_X11_316 sh_150 rfl (RRc (by decide) (by decide)) (Nat.le_of_ble_eq_true rfl) ⟨Nat.le_of_ble_eq_true rfl, Nat.le_of_ble_eq_true rfl⟩ (fun y1 f1 h => ?_)
  refine ev_if_ne (tgt := 16) dX11_value_10 (by decide) (fun c7 => ?_) (fun c7 => ?_)
  · rw [if_neg c7] at h
    refine ev_aload_n (i := 0) dX11_value_16 rfl rfl ?_
    refine ev_cVV (b := 150) (av := []) (S := []) (fun q => q) h dX11_value_17 (fun Q' q => TX11_laysPlans _ q) kvX11_laysPlans ml_X11_365 sh_150 rfl (RRc (by decide) (by decide)) (Nat.le_of_ble_eq_true rfl) ⟨Nat.le_of_ble_eq_true rfl, Nat.le_of_ble_eq_true rfl⟩ (fun f2 h => ?_)
    refine ev_aload_n (i := 0) dX11_value_20 rfl rfl ?_
    refine ex_getI (x := (f2 150 31)) dX11_value_21 fl_X11_343 sh_150 (by decide) (by decide) rfl ?_
    refine ev_istore_n (i := 2) (L' := [some (vR 150), some (vI x1), some (vI (f2 150 31)), none]) dX11_value_24 rfl (by decide) rfl ?_
    refine ev_aload_n (i := 0) dX11_value_25 rfl rfl ?_
    refine ev_getR dX11_value_26 fl_X11_40 sh_150 (by decide) (by decide) rf_150_19 ?_
    refine ev_iconst dX11_value_29 (r32c rfl) ?_
    refine ev_iload_n (i := 1) dX11_value_30 rfl rfl ?_
    refine ev_imul dX11_value_31 ?_
    refine ev_iconst dX11_value_32 (r32c rfl) ?_
    refine ev_iadd dX11_value_33 ?_
    by_cases g3 : 0 ≤ (w32 ((w32 (5 * x1)) + 4)) ∧ (w32 ((w32 (5 * x1)) + 4)) < 150
    · rw [if_pos g3] at h
      refine ex_iald (x := (f2 159 (w32 ((w32 (5 * x1)) + 4)).toNat)) dX11_value_34 sh_159 g3.1 g3.2 rfl ?_
      refine ev_istore_n (i := 3) (L' := [some (vR 150), some (vI x1), some (vI (f2 150 31)), some (vI (f2 159 (w32 ((w32 (5 * x1)) + 4)).toNat))]) dX11_value_35 rfl (by decide) rfl ?_
      refine ev_aload_n (i := 0) dX11_value_36 rfl rfl ?_
      refine ev_getR dX11_value_37 fl_X11_40 sh_150 (by decide) (by decide) rf_150_19 ?_
      refine ev_iconst dX11_value_40 (r32c rfl) ?_
      refine ev_iload_n (i := 1) dX11_value_41 rfl rfl ?_
      refine ev_imul dX11_value_42 ?_
      refine ev_iconst dX11_value_43 (r32c rfl) ?_
      refine ev_iadd dX11_value_44 ?_
      refine ev_iconst dX11_value_45 (r32c rfl) ?_
      by_cases g4 : 0 ≤ (w32 ((w32 (5 * x1)) + 4)) ∧ (w32 ((w32 (5 * x1)) + 4)) < 150
      · rw [if_pos g4] at h
        refine ex_iast (j := (w32 ((w32 (5 * x1)) + 4)).toNat) dX11_value_46 sh_159 g4.1 g4.2 rfl ?_
        refine ev_aload_n (i := 0) dX11_value_47 rfl rfl ?_
        refine ev_cVV (b := 150) (av := []) (S := []) (fun q => q) h dX11_value_48 (fun Q' q => TX11_laysPlans _ q) kvX11_laysPlans ml_X11_365 sh_150 rfl (RRc (by decide) (by decide)) (Nat.le_of_ble_eq_true rfl) ⟨Nat.le_of_ble_eq_true rfl, Nat.le_of_ble_eq_true rfl⟩ (fun f5 h => ?_)
        refine ev_aload_n (i := 0) dX11_value_51 rfl rfl ?_
        refine ev_getR dX11_value_52 fl_X11_40 sh_150 (by decide) (by decide) rf_150_19 ?_
        refine ev_iconst dX11_value_55 (r32c rfl) ?_
        refine ev_iload_n (i := 1) dX11_value_56 rfl rfl ?_
        refine ev_imul dX11_value_57 ?_
        refine ev_iconst dX11_value_58 (r32c rfl) ?_
        refine ev_iadd dX11_value_59 ?_
        refine ev_iload_n (i := 3) dX11_value_60 rfl rfl ?_
        by_cases g6 : 0 ≤ (w32 ((w32 (5 * x1)) + 4)) ∧ (w32 ((w32 (5 * x1)) + 4)) < 150
        · rw [if_pos g6] at h
          refine ex_iast (j := (w32 ((w32 (5 * x1)) + 4)).toNat) dX11_value_61 sh_159 g6.1 g6.2 rfl ?_
          refine ev_iload_n (i := 2) dX11_value_62 rfl rfl ?_
          refine ev_aload_n (i := 0) dX11_value_63 rfl rfl ?_
          refine ex_getI (x := (f5 150 31)) dX11_value_64 fl_X11_343 sh_150 (by decide) (by decide) rfl ?_
          refine ev_isub dX11_value_67 ?_
          exact ev_iret rfl dX11_value_68 h
        · rw [if_neg g6] at h; exact h.elim
      · rw [if_neg g4] at h; exact h.elim
    · rw [if_neg g3] at h; exact h.elim
  · rw [if_pos c7] at h
    refine ev_bipush (v := (-2)) dX11_value_13 (r32c rfl) (by decide) ?_
    exact ev_iret rfl dX11_value_15 h
def FX11_value (x1 : Int) (f : Mm) : Option (Int × Mm) := FX11_value_0 x1 f
set_option maxRecDepth 100000 in
theorem TX11_value {G : GT} {l : Launch} {Q : Option AV → Mem → Prop} (x1 : Int) (f : Mm) (h : OkI Q (FX11_value x1 f)) : Ret G l MX11_value (7) 0 0 [vR 150, vI x1] (SH, RF, f) Q := by
  refine ret_of (L := [some (vR 150), some (vI x1), none, none]) (by decide) rfl (Nat.le_of_ble_eq_true rfl) ?_
  exact SX11_value_0 x1 f h
theorem dX11_sets_51 : decode cX11_sets 51 = .ok (.iadd, 1) := by decide +kernel
theorem dX11_sets_52 : decode cX11_sets 52 = .ok (.istore_n 1, 1) := by decide +kernel
theorem dX11_sets_53 : decode cX11_sets 53 = .ok (.iinc 2 1, 3) := by decide +kernel
theorem dX11_sets_56 : decode cX11_sets 56 = .ok (.goto (-33), 3) := by decide +kernel
theorem dX11_sets_23 : decode cX11_sets 23 = .ok (.iload_n 2, 1) := by decide +kernel
theorem dX11_sets_24 : decode cX11_sets 24 = .ok (.iconst 1, 1) := by decide +kernel
theorem dX11_sets_25 : decode cX11_sets 25 = .ok (.aload_n 0, 1) := by decide +kernel
theorem dX11_sets_26 : decode cX11_sets 26 = .ok (.invokevirtual 269, 3) := by decide +kernel
theorem dX11_sets_29 : decode cX11_sets 29 = .ok (.ishl, 1) := by decide +kernel
theorem dX11_sets_30 : decode cX11_sets 30 = .ok (.if_icmp .ge 29, 3) := by decide +kernel
theorem dX11_sets_59 : decode cX11_sets 59 = .ok (.iload_n 1, 1) := by decide +kernel
theorem dX11_sets_60 : decode cX11_sets 60 = .ok (.ireturn, 1) := by decide +kernel
theorem dX11_sets_33 : decode cX11_sets 33 = .ok (.iload_n 1, 1) := by decide +kernel
theorem dX11_sets_34 : decode cX11_sets 34 = .ok (.aload_n 0, 1) := by decide +kernel
theorem dX11_sets_35 : decode cX11_sets 35 = .ok (.getfield 74, 3) := by decide +kernel
theorem dX11_sets_38 : decode cX11_sets 38 = .ok (.iload_n 2, 1) := by decide +kernel
theorem dX11_sets_39 : decode cX11_sets 39 = .ok (.iaload, 1) := by decide +kernel
theorem dX11_sets_40 : decode cX11_sets 40 = .ok (.ldc_w 349, 3) := by decide +kernel
theorem dX11_sets_43 : decode cX11_sets 43 = .ok (.if_icmp .ge 7, 3) := by decide +kernel
theorem dX11_sets_50 : decode cX11_sets 50 = .ok (.iconst 0, 1) := by decide +kernel
theorem dX11_sets_46 : decode cX11_sets 46 = .ok (.iconst 1, 1) := by decide +kernel
theorem dX11_sets_47 : decode cX11_sets 47 = .ok (.goto 4, 3) := by decide +kernel
theorem dX11_sets_0 : decode cX11_sets 0 = .ok (.aload_n 0, 1) := by decide +kernel
theorem dX11_sets_1 : decode cX11_sets 1 = .ok (.iconst 0, 1) := by decide +kernel
theorem dX11_sets_2 : decode cX11_sets 2 = .ok (.putfield 98, 3) := by decide +kernel
theorem dX11_sets_5 : decode cX11_sets 5 = .ok (.aload_n 0, 1) := by decide +kernel
theorem dX11_sets_6 : decode cX11_sets 6 = .ok (.invokevirtual 272, 3) := by decide +kernel
theorem dX11_sets_9 : decode cX11_sets 9 = .ok (.ifCond .ne 6, 3) := by decide +kernel
theorem dX11_sets_15 : decode cX11_sets 15 = .ok (.aload_n 0, 1) := by decide +kernel
theorem dX11_sets_16 : decode cX11_sets 16 = .ok (.invokevirtual 365, 3) := by decide +kernel
theorem dX11_sets_19 : decode cX11_sets 19 = .ok (.iconst 0, 1) := by decide +kernel
theorem dX11_sets_20 : decode cX11_sets 20 = .ok (.istore_n 1, 1) := by decide +kernel
theorem dX11_sets_21 : decode cX11_sets 21 = .ok (.iconst 0, 1) := by decide +kernel
theorem dX11_sets_22 : decode cX11_sets 22 = .ok (.istore_n 2, 1) := by decide +kernel
theorem dX11_sets_12 : decode cX11_sets 12 = .ok (.bipush (-2), 2) := by decide +kernel
theorem dX11_sets_14 : decode cX11_sets 14 = .ok (.ireturn, 1) := by decide +kernel
def FX11_sets_51 (k23 : Int → Int → Mm → Option (Int × Mm)) (x2 : Int) (s0 : Int) (s1 : Int) (f : Mm) : Option (Int × Mm) := k23 (w32 (s0 + s1)) (w32 (x2 + 1)) f
set_option maxHeartbeats 4000000 in
set_option maxRecDepth 100000 in
theorem SX11_sets_51 {G : GT} {l : Launch} {Q : Option AV → Mem → Prop} {k23 : Int → Int → Mm → Option (Int × Mm)} (q23 : ∀ (x1 : Int) (x2 : Int) (f : Mm), OkI Q (k23 x1 x2 f) → Ev G l MX11_sets (Rm 7 0 0) (ZM G Q 0 0) 0 0 23 [some (vR 150), some (vI x1), some (vI x2)] [] (SH, RF, f)) (x2 : Int) (s0 : Int) (s1 : Int) (f : Mm) (h : OkI Q (FX11_sets_51 k23 x2 s0 s1 f)) : Ev G l MX11_sets (Rm 7 0 0) (ZM G Q 0 0) 0 0 51 [some (vR 150), none, some (vI x2)] [vI s1, vI s0] (SH, RF, f) := by
  unfold FX11_sets_51 at h
  refine ev_iadd dX11_sets_51 ?_
  refine ev_istore_n (i := 1) (L' := [some (vR 150), some (vI (w32 (s0 + s1))), some (vI x2)]) dX11_sets_52 rfl (by decide) rfl ?_
  refine ev_iinc (L' := [some (vR 150), some (vI (w32 (s0 + s1))), some (vI (w32 (x2 + 1)))]) dX11_sets_53 rfl (by decide) rfl ?_
  refine ev_goto (tgt := 23) dX11_sets_56 (by decide) ?_
  exact q23 (w32 (s0 + s1)) (w32 (x2 + 1)) _ h
def FX11_sets_23  : Nat → Int → Int → Mm → Option (Int × Mm)
  | 0, _, _, _ => none
  | n + 1, x1, x2, f => (b2 (FX11_carts f) fun y1 f1 => (if (bShl 1 y1) ≤ x2 then some (x1, f1) else (if 0 ≤ x2 ∧ x2 < 64 then (if 10000000 ≤ (f1 170 x2.toNat) then FX11_sets_51 (FX11_sets_23 n) x2 x1 0 f1 else FX11_sets_51 (FX11_sets_23 n) x2 x1 1 f1) else none)))
set_option maxHeartbeats 4000000 in
set_option maxRecDepth 100000 in
theorem SX11_sets_23 {G : GT} {l : Launch} {Q : Option AV → Mem → Prop}  : ∀ (n : Nat) (x1 : Int) (x2 : Int) (f : Mm), OkI Q (FX11_sets_23  n x1 x2 f) → Ev G l MX11_sets (Rm 7 0 0) (ZM G Q 0 0) 0 0 23 [some (vR 150), some (vI x1), some (vI x2)] [] (SH, RF, f) := by
  intro n
  induction n with
  | zero => intro x1 x2 f h; exact absurd h (by rw [FX11_sets_23]; exact fun q => q)
  | succ n ih =>
    intro x1 x2 f h
    rw [FX11_sets_23] at h
    refine ev_iload_n (i := 2) dX11_sets_23 rfl rfl ?_
    refine ev_iconst dX11_sets_24 (r32c rfl) ?_
    refine ev_aload_n (i := 0) dX11_sets_25 rfl rfl ?_
    refine ev_cVI (b := 150) (av := []) (S := [vI 1, vI x2]) (fun q => q) h dX11_sets_26 (fun Q' q => TX11_carts _ q) kvX11_carts ml_X11_269 sh_150 rfl (RRc (by decide) (by decide)) (Nat.le_of_ble_eq_true rfl) ⟨Nat.le_of_ble_eq_true rfl, Nat.le_of_ble_eq_true rfl⟩ (fun y1 f1 h => ?_)
    refine ev_ishl dX11_sets_29 ?_
    refine ev_icmp_ge (tgt := 59) dX11_sets_30 (by decide) (fun c4 => ?_) (fun c4 => ?_)
    · rw [if_pos c4] at h
      refine ev_iload_n (i := 1) dX11_sets_59 rfl rfl ?_
      exact ev_iret rfl dX11_sets_60 h
    · rw [if_neg c4] at h
      refine ev_iload_n (i := 1) dX11_sets_33 rfl rfl ?_
      refine ev_aload_n (i := 0) dX11_sets_34 rfl rfl ?_
      refine ev_getR dX11_sets_35 fl_X11_74 sh_150 (by decide) (by decide) rf_150_35 ?_
      refine ev_iload_n (i := 2) dX11_sets_38 rfl rfl ?_
      by_cases g2 : 0 ≤ x2 ∧ x2 < 64
      · rw [if_pos g2] at h
        refine ex_iald (x := (f1 170 x2.toNat)) dX11_sets_39 sh_170 g2.1 g2.2 rfl ?_
        refine ev_ldcw (v := 10000000) dX11_sets_40 (r32c rfl) kc_X11_349 ?_
        refine ev_icmp_ge (tgt := 50) dX11_sets_43 (by decide) (fun c3 => ?_) (fun c3 => ?_)
        · rw [if_pos c3] at h
          refine ev_iconst dX11_sets_50 (r32c rfl) ?_
          refine ev_fg [true, false, true] rfl ?_
          exact SX11_sets_51 ih x2 x1 0 _ h
        · rw [if_neg c3] at h
          refine ev_iconst dX11_sets_46 (r32c rfl) ?_
          refine ev_goto (tgt := 51) dX11_sets_47 (by decide) ?_
          refine ev_fg [true, false, true] rfl ?_
          exact SX11_sets_51 ih x2 x1 1 _ h
      · rw [if_neg g2] at h; exact h.elim
def FX11_sets_0   (f : Mm) : Option (Int × Mm) := (b2 (FX11_isBridge (up f 150 0 0)) fun y1 f1 => (if y1 = 0 then some ((-2), f1) else ((FX11_laysPlans f1).bind fun f2 => FX11_sets_23 fu 0 0 f2)))
set_option maxHeartbeats 4000000 in
set_option maxRecDepth 100000 in
theorem SX11_sets_0 {G : GT} {l : Launch} {Q : Option AV → Mem → Prop}   (f : Mm) (h : OkI Q (FX11_sets_0   f)) : Ev G l MX11_sets (Rm 7 0 0) (ZM G Q 0 0) 0 0 0 [some (vR 150), none, none] [] (SH, RF, f) := by
  unfold FX11_sets_0 at h
  refine ev_aload_n (i := 0) dX11_sets_0 rfl rfl ?_
  refine ev_iconst dX11_sets_1 (r32c rfl) ?_
  refine ev_putI dX11_sets_2 fl_X11_98 sh_150 (by decide) (by decide) ?_
  refine ev_aload_n (i := 0) dX11_sets_5 rfl rfl ?_
  refine ev_cVI (b := 150) (av := []) (S := []) (fun q => q) h dX11_sets_6 (fun Q' q => TX11_isBridge _ q) kvX11_isBridge ml_X11_272 sh_150 rfl (RRc (by decide) (by decide)) (Nat.le_of_ble_eq_true rfl) ⟨Nat.le_of_ble_eq_true rfl, Nat.le_of_ble_eq_true rfl⟩ (fun y1 f1 h => ?_)
  refine ev_if_ne (tgt := 15) dX11_sets_9 (by decide) (fun c3 => ?_) (fun c3 => ?_)
  · rw [if_neg c3] at h
    refine ev_aload_n (i := 0) dX11_sets_15 rfl rfl ?_
    refine ev_cVV (b := 150) (av := []) (S := []) (fun q => q) h dX11_sets_16 (fun Q' q => TX11_laysPlans _ q) kvX11_laysPlans ml_X11_365 sh_150 rfl (RRc (by decide) (by decide)) (Nat.le_of_ble_eq_true rfl) ⟨Nat.le_of_ble_eq_true rfl, Nat.le_of_ble_eq_true rfl⟩ (fun f2 h => ?_)
    refine ev_iconst dX11_sets_19 (r32c rfl) ?_
    refine ev_istore_n (i := 1) (L' := [some (vR 150), some (vI 0), none]) dX11_sets_20 rfl (by decide) rfl ?_
    refine ev_iconst dX11_sets_21 (r32c rfl) ?_
    refine ev_istore_n (i := 2) (L' := [some (vR 150), some (vI 0), some (vI 0)]) dX11_sets_22 rfl (by decide) rfl ?_
    exact SX11_sets_23  fu 0 0 _ h
  · rw [if_pos c3] at h
    refine ev_bipush (v := (-2)) dX11_sets_12 (r32c rfl) (by decide) ?_
    exact ev_iret rfl dX11_sets_14 h
def FX11_sets  (f : Mm) : Option (Int × Mm) := FX11_sets_0  f
set_option maxRecDepth 100000 in
theorem TX11_sets {G : GT} {l : Launch} {Q : Option AV → Mem → Prop}  (f : Mm) (h : OkI Q (FX11_sets  f)) : Ret G l MX11_sets (7) 0 0 [vR 150] (SH, RF, f) Q := by
  refine ret_of (L := [some (vR 150), none, none]) (by decide) rfl (Nat.le_of_ble_eq_true rfl) ?_
  exact SX11_sets_0  f h
theorem dX11_often_0 : decode cX11_often 0 = .ok (.aload_n 0, 1) := by decide +kernel
theorem dX11_often_1 : decode cX11_often 1 = .ok (.iconst 0, 1) := by decide +kernel
theorem dX11_often_2 : decode cX11_often 2 = .ok (.putfield 98, 3) := by decide +kernel
theorem dX11_often_5 : decode cX11_often 5 = .ok (.aload_n 0, 1) := by decide +kernel
theorem dX11_often_6 : decode cX11_often 6 = .ok (.iload_n 1, 1) := by decide +kernel
theorem dX11_often_7 : decode cX11_often 7 = .ok (.invokevirtual 316, 3) := by decide +kernel
theorem dX11_often_10 : decode cX11_often 10 = .ok (.ifCond .ne 6, 3) := by decide +kernel
theorem dX11_often_16 : decode cX11_often 16 = .ok (.aload_n 0, 1) := by decide +kernel
theorem dX11_often_17 : decode cX11_often 17 = .ok (.invokevirtual 365, 3) := by decide +kernel
theorem dX11_often_20 : decode cX11_often 20 = .ok (.aload_n 0, 1) := by decide +kernel
theorem dX11_often_21 : decode cX11_often 21 = .ok (.getfield 89, 3) := by decide +kernel
theorem dX11_often_24 : decode cX11_often 24 = .ok (.iload_n 1, 1) := by decide +kernel
theorem dX11_often_25 : decode cX11_often 25 = .ok (.iaload, 1) := by decide +kernel
theorem dX11_often_26 : decode cX11_often 26 = .ok (.ireturn, 1) := by decide +kernel
theorem dX11_often_13 : decode cX11_often 13 = .ok (.bipush (-2), 2) := by decide +kernel
theorem dX11_often_15 : decode cX11_often 15 = .ok (.ireturn, 1) := by decide +kernel
def FX11_often_0  (x1 : Int) (f : Mm) : Option (Int × Mm) := (b2 (FX11_isCart x1 (up f 150 0 0)) fun y1 f1 => (if y1 = 0 then some ((-2), f1) else ((FX11_laysPlans f1).bind fun f2 => (if 0 ≤ x1 ∧ x1 < 6 then some ((f2 175 x1.toNat), f2) else none))))
set_option maxHeartbeats 4000000 in
set_option maxRecDepth 100000 in
theorem SX11_often_0 {G : GT} {l : Launch} {Q : Option AV → Mem → Prop}  (x1 : Int) (f : Mm) (h : OkI Q (FX11_often_0  x1 f)) : Ev G l MX11_often (Rm 7 0 0) (ZM G Q 0 0) 0 0 0 [some (vR 150), some (vI x1)] [] (SH, RF, f) := by
  unfold FX11_often_0 at h
  refine ev_aload_n (i := 0) dX11_often_0 rfl rfl ?_
  refine ev_iconst dX11_often_1 (r32c rfl) ?_
  refine ev_putI dX11_often_2 fl_X11_98 sh_150 (by decide) (by decide) ?_
  refine ev_aload_n (i := 0) dX11_often_5 rfl rfl ?_
  refine ev_iload_n (i := 1) dX11_often_6 rfl rfl ?_
  refine ev_cVI (b := 150) (av := [vI x1]) (S := []) (fun q => q) h dX11_often_7 (fun Q' q => TX11_isCart x1 _ q) kvX11_isCart ml_X11_316 sh_150 rfl (RRc (by decide) (by decide)) (Nat.le_of_ble_eq_true rfl) ⟨Nat.le_of_ble_eq_true rfl, Nat.le_of_ble_eq_true rfl⟩ (fun y1 f1 h => ?_)
  refine ev_if_ne (tgt := 16) dX11_often_10 (by decide) (fun c4 => ?_) (fun c4 => ?_)
  · rw [if_neg c4] at h
    refine ev_aload_n (i := 0) dX11_often_16 rfl rfl ?_
    refine ev_cVV (b := 150) (av := []) (S := []) (fun q => q) h dX11_often_17 (fun Q' q => TX11_laysPlans _ q) kvX11_laysPlans ml_X11_365 sh_150 rfl (RRc (by decide) (by decide)) (Nat.le_of_ble_eq_true rfl) ⟨Nat.le_of_ble_eq_true rfl, Nat.le_of_ble_eq_true rfl⟩ (fun f2 h => ?_)
    refine ev_aload_n (i := 0) dX11_often_20 rfl rfl ?_
    refine ev_getR dX11_often_21 fl_X11_89 sh_150 (by decide) (by decide) rf_150_40 ?_
    refine ev_iload_n (i := 1) dX11_often_24 rfl rfl ?_
    by_cases g3 : 0 ≤ x1 ∧ x1 < 6
    · rw [if_pos g3] at h
      refine ex_iald (x := (f2 175 x1.toNat)) dX11_often_25 sh_175 g3.1 g3.2 rfl ?_
      exact ev_iret rfl dX11_often_26 h
    · rw [if_neg g3] at h; exact h.elim
  · rw [if_pos c4] at h
    refine ev_bipush (v := (-2)) dX11_often_13 (r32c rfl) (by decide) ?_
    exact ev_iret rfl dX11_often_15 h
def FX11_often (x1 : Int) (f : Mm) : Option (Int × Mm) := FX11_often_0 x1 f
set_option maxRecDepth 100000 in
theorem TX11_often {G : GT} {l : Launch} {Q : Option AV → Mem → Prop} (x1 : Int) (f : Mm) (h : OkI Q (FX11_often x1 f)) : Ret G l MX11_often (7) 0 0 [vR 150, vI x1] (SH, RF, f) Q := by
  refine ret_of (L := [some (vR 150), some (vI x1)]) (by decide) rfl (Nat.le_of_ble_eq_true rfl) ?_
  exact SX11_often_0 x1 f h
theorem dX11_areCarts_0 : decode cX11_areCarts 0 = .ok (.aload_n 0, 1) := by decide +kernel
theorem dX11_areCarts_1 : decode cX11_areCarts 1 = .ok (.invokevirtual 272, 3) := by decide +kernel
theorem dX11_areCarts_4 : decode cX11_areCarts 4 = .ok (.ifCond .eq 25, 3) := by decide +kernel
theorem dX11_areCarts_29 : decode cX11_areCarts 29 = .ok (.iconst 0, 1) := by decide +kernel
theorem dX11_areCarts_30 : decode cX11_areCarts 30 = .ok (.ireturn, 1) := by decide +kernel
theorem dX11_areCarts_7 : decode cX11_areCarts 7 = .ok (.iload_n 1, 1) := by decide +kernel
theorem dX11_areCarts_8 : decode cX11_areCarts 8 = .ok (.i2l, 1) := by decide +kernel
theorem dX11_areCarts_9 : decode cX11_areCarts 9 = .ok (.lconst 0, 1) := by decide +kernel
theorem dX11_areCarts_10 : decode cX11_areCarts 10 = .ok (.iconst 1, 1) := by decide +kernel
theorem dX11_areCarts_11 : decode cX11_areCarts 11 = .ok (.aload_n 0, 1) := by decide +kernel
theorem dX11_areCarts_12 : decode cX11_areCarts 12 = .ok (.invokevirtual 269, 3) := by decide +kernel
theorem dX11_areCarts_15 : decode cX11_areCarts 15 = .ok (.ishl, 1) := by decide +kernel
theorem dX11_areCarts_16 : decode cX11_areCarts 16 = .ok (.iconst 1, 1) := by decide +kernel
theorem dX11_areCarts_17 : decode cX11_areCarts 17 = .ok (.isub, 1) := by decide +kernel
theorem dX11_areCarts_18 : decode cX11_areCarts 18 = .ok (.i2l, 1) := by decide +kernel
theorem dX11_areCarts_19 : decode cX11_areCarts 19 = .ok (.invokestatic 103, 3) := by decide +kernel
theorem dX11_areCarts_22 : decode cX11_areCarts 22 = .ok (.ifCond .eq 7, 3) := by decide +kernel
theorem dX11_areCarts_25 : decode cX11_areCarts 25 = .ok (.iconst 1, 1) := by decide +kernel
theorem dX11_areCarts_26 : decode cX11_areCarts 26 = .ok (.goto 4, 3) := by decide +kernel
def FX11_areCarts_0  (x1 : Int) (f : Mm) : Option (Int × Mm) := (b2 (FX11_isBridge f) fun y1 f1 => (if y1 = 0 then some (0, f1) else (b2 (FX11_carts f1) fun y2 f2 => (b2 (FX11_in x1 0 (w32 ((bShl 1 y2) - 1)) f2) fun y3 f3 => (if y3 = 0 then some (0, f3) else some (1, f3))))))
set_option maxHeartbeats 4000000 in
set_option maxRecDepth 100000 in
theorem SX11_areCarts_0 {G : GT} {l : Launch} {Q : Option AV → Mem → Prop}  (x1 : Int) (f : Mm) (h : OkI Q (FX11_areCarts_0  x1 f)) : Ev G l MX11_areCarts (Rm 2 0 0) (ZM G Q 0 0) 0 0 0 [some (vR 150), some (vI x1)] [] (SH, RF, f) := by
  unfold FX11_areCarts_0 at h
  refine ev_aload_n (i := 0) dX11_areCarts_0 rfl rfl ?_
  refine ev_cVI (b := 150) (av := []) (S := []) (fun q => q) h dX11_areCarts_1 (fun Q' q => TX11_isBridge _ q) kvX11_isBridge ml_X11_272 sh_150 rfl (RRc (by decide) (by decide)) (Nat.le_of_ble_eq_true rfl) ⟨Nat.le_of_ble_eq_true rfl, Nat.le_of_ble_eq_true rfl⟩ (fun y1 f1 h => ?_)
  refine ev_if_eq (tgt := 29) dX11_areCarts_4 (by decide) (fun c5 => ?_) (fun c5 => ?_)
  · rw [if_pos c5] at h
    refine ev_iconst dX11_areCarts_29 (r32c rfl) ?_
    exact ev_zret rfl (by decide) dX11_areCarts_30 h
  · rw [if_neg c5] at h
    refine ev_iload_n (i := 1) dX11_areCarts_7 rfl rfl ?_
    refine ev_i2l dX11_areCarts_8 ?_
    refine ev_lconst (v := 0) dX11_areCarts_9 (r64c rfl) (by decide) ?_
    refine ev_iconst dX11_areCarts_10 (r32c rfl) ?_
    refine ev_aload_n (i := 0) dX11_areCarts_11 rfl rfl ?_
    refine ev_cVI (b := 150) (av := []) (S := [vI 1, vJ 0, vJ x1]) (fun q => q) h dX11_areCarts_12 (fun Q' q => TX11_carts _ q) kvX11_carts ml_X11_269 sh_150 rfl (RRc (by decide) (by decide)) (Nat.le_of_ble_eq_true rfl) ⟨Nat.le_of_ble_eq_true rfl, Nat.le_of_ble_eq_true rfl⟩ (fun y2 f2 h => ?_)
    refine ev_ishl dX11_areCarts_15 ?_
    refine ev_iconst dX11_areCarts_16 (r32c rfl) ?_
    refine ev_isub dX11_areCarts_17 ?_
    refine ev_i2l dX11_areCarts_18 ?_
    refine ev_cSI (av := [vJ x1, vJ 0, vJ (w32 ((bShl 1 y2) - 1))]) (S := []) (fun q => q) h dX11_areCarts_19 (fun Q' q => TX11_in x1 0 (w32 ((bShl 1 y2) - 1)) _ q) ksX11_in ml_X11_103 rfl (RRc (by decide) (by decide)) (Nat.le_of_ble_eq_true rfl) ⟨Nat.le_of_ble_eq_true rfl, Nat.le_of_ble_eq_true rfl⟩ (fun y3 f3 h => ?_)
    refine ev_if_eq (tgt := 29) dX11_areCarts_22 (by decide) (fun c4 => ?_) (fun c4 => ?_)
    · rw [if_pos c4] at h
      refine ev_iconst dX11_areCarts_29 (r32c rfl) ?_
      exact ev_zret rfl (by decide) dX11_areCarts_30 h
    · rw [if_neg c4] at h
      refine ev_iconst dX11_areCarts_25 (r32c rfl) ?_
      refine ev_goto (tgt := 30) dX11_areCarts_26 (by decide) ?_
      exact ev_zret rfl (by decide) dX11_areCarts_30 h
def FX11_areCarts (x1 : Int) (f : Mm) : Option (Int × Mm) := FX11_areCarts_0 x1 f
set_option maxRecDepth 100000 in
theorem TX11_areCarts {G : GT} {l : Launch} {Q : Option AV → Mem → Prop} (x1 : Int) (f : Mm) (h : OkI Q (FX11_areCarts x1 f)) : Ret G l MX11_areCarts (2) 0 0 [vR 150, vI x1] (SH, RF, f) Q := by
  refine ret_of (L := [some (vR 150), some (vI x1)]) (by decide) rfl (Nat.le_of_ble_eq_true rfl) ?_
  exact SX11_areCarts_0 x1 f h
theorem dX11_cheap_0 : decode cX11_cheap 0 = .ok (.aload_n 0, 1) := by decide +kernel
theorem dX11_cheap_1 : decode cX11_cheap 1 = .ok (.iconst 0, 1) := by decide +kernel
theorem dX11_cheap_2 : decode cX11_cheap 2 = .ok (.putfield 98, 3) := by decide +kernel
theorem dX11_cheap_5 : decode cX11_cheap 5 = .ok (.aload_n 0, 1) := by decide +kernel
theorem dX11_cheap_6 : decode cX11_cheap 6 = .ok (.iload_n 1, 1) := by decide +kernel
theorem dX11_cheap_7 : decode cX11_cheap 7 = .ok (.invokevirtual 367, 3) := by decide +kernel
theorem dX11_cheap_10 : decode cX11_cheap 10 = .ok (.ifCond .ne 6, 3) := by decide +kernel
theorem dX11_cheap_16 : decode cX11_cheap 16 = .ok (.aload_n 0, 1) := by decide +kernel
theorem dX11_cheap_17 : decode cX11_cheap 17 = .ok (.invokevirtual 365, 3) := by decide +kernel
theorem dX11_cheap_20 : decode cX11_cheap 20 = .ok (.aload_n 0, 1) := by decide +kernel
theorem dX11_cheap_21 : decode cX11_cheap 21 = .ok (.getfield 74, 3) := by decide +kernel
theorem dX11_cheap_24 : decode cX11_cheap 24 = .ok (.iload_n 1, 1) := by decide +kernel
theorem dX11_cheap_25 : decode cX11_cheap 25 = .ok (.iaload, 1) := by decide +kernel
theorem dX11_cheap_26 : decode cX11_cheap 26 = .ok (.ldc_w 349, 3) := by decide +kernel
theorem dX11_cheap_29 : decode cX11_cheap 29 = .ok (.if_icmp .lt 7, 3) := by decide +kernel
theorem dX11_cheap_36 : decode cX11_cheap 36 = .ok (.aload_n 0, 1) := by decide +kernel
theorem dX11_cheap_37 : decode cX11_cheap 37 = .ok (.getfield 74, 3) := by decide +kernel
theorem dX11_cheap_40 : decode cX11_cheap 40 = .ok (.iload_n 1, 1) := by decide +kernel
theorem dX11_cheap_41 : decode cX11_cheap 41 = .ok (.iaload, 1) := by decide +kernel
theorem dX11_cheap_42 : decode cX11_cheap 42 = .ok (.ireturn, 1) := by decide +kernel
theorem dX11_cheap_32 : decode cX11_cheap 32 = .ok (.iconst (-1), 1) := by decide +kernel
theorem dX11_cheap_33 : decode cX11_cheap 33 = .ok (.goto 9, 3) := by decide +kernel
theorem dX11_cheap_13 : decode cX11_cheap 13 = .ok (.bipush (-2), 2) := by decide +kernel
theorem dX11_cheap_15 : decode cX11_cheap 15 = .ok (.ireturn, 1) := by decide +kernel
def FX11_cheap_0  (x1 : Int) (f : Mm) : Option (Int × Mm) := (b2 (FX11_areCarts x1 (up f 150 0 0)) fun y1 f1 => (if y1 = 0 then some ((-2), f1) else ((FX11_laysPlans f1).bind fun f2 => (if 0 ≤ x1 ∧ x1 < 64 then (if (f2 170 x1.toNat) < 10000000 then (if 0 ≤ x1 ∧ x1 < 64 then some ((f2 170 x1.toNat), f2) else none) else some ((-1), f2)) else none))))
set_option maxHeartbeats 4000000 in
set_option maxRecDepth 100000 in
theorem SX11_cheap_0 {G : GT} {l : Launch} {Q : Option AV → Mem → Prop}  (x1 : Int) (f : Mm) (h : OkI Q (FX11_cheap_0  x1 f)) : Ev G l MX11_cheap (Rm 7 0 0) (ZM G Q 0 0) 0 0 0 [some (vR 150), some (vI x1)] [] (SH, RF, f) := by
  unfold FX11_cheap_0 at h
  refine ev_aload_n (i := 0) dX11_cheap_0 rfl rfl ?_
  refine ev_iconst dX11_cheap_1 (r32c rfl) ?_
  refine ev_putI dX11_cheap_2 fl_X11_98 sh_150 (by decide) (by decide) ?_
  refine ev_aload_n (i := 0) dX11_cheap_5 rfl rfl ?_
  refine ev_iload_n (i := 1) dX11_cheap_6 rfl rfl ?_
  refine ev_cVI (b := 150) (av := [vI x1]) (S := []) (fun q => q) h dX11_cheap_7 (fun Q' q => TX11_areCarts x1 _ q) kvX11_areCarts ml_X11_367 sh_150 rfl (RRc (by decide) (by decide)) (Nat.le_of_ble_eq_true rfl) ⟨Nat.le_of_ble_eq_true rfl, Nat.le_of_ble_eq_true rfl⟩ (fun y1 f1 h => ?_)
  refine ev_if_ne (tgt := 16) dX11_cheap_10 (by decide) (fun c6 => ?_) (fun c6 => ?_)
  · rw [if_neg c6] at h
    refine ev_aload_n (i := 0) dX11_cheap_16 rfl rfl ?_
    refine ev_cVV (b := 150) (av := []) (S := []) (fun q => q) h dX11_cheap_17 (fun Q' q => TX11_laysPlans _ q) kvX11_laysPlans ml_X11_365 sh_150 rfl (RRc (by decide) (by decide)) (Nat.le_of_ble_eq_true rfl) ⟨Nat.le_of_ble_eq_true rfl, Nat.le_of_ble_eq_true rfl⟩ (fun f2 h => ?_)
    refine ev_aload_n (i := 0) dX11_cheap_20 rfl rfl ?_
    refine ev_getR dX11_cheap_21 fl_X11_74 sh_150 (by decide) (by decide) rf_150_35 ?_
    refine ev_iload_n (i := 1) dX11_cheap_24 rfl rfl ?_
    by_cases g3 : 0 ≤ x1 ∧ x1 < 64
    · rw [if_pos g3] at h
      refine ex_iald (x := (f2 170 x1.toNat)) dX11_cheap_25 sh_170 g3.1 g3.2 rfl ?_
      refine ev_ldcw (v := 10000000) dX11_cheap_26 (r32c rfl) kc_X11_349 ?_
      refine ev_icmp_lt (tgt := 36) dX11_cheap_29 (by decide) (fun c5 => ?_) (fun c5 => ?_)
      · rw [if_pos c5] at h
        refine ev_aload_n (i := 0) dX11_cheap_36 rfl rfl ?_
        refine ev_getR dX11_cheap_37 fl_X11_74 sh_150 (by decide) (by decide) rf_150_35 ?_
        refine ev_iload_n (i := 1) dX11_cheap_40 rfl rfl ?_
        by_cases g4 : 0 ≤ x1 ∧ x1 < 64
        · rw [if_pos g4] at h
          refine ex_iald (x := (f2 170 x1.toNat)) dX11_cheap_41 sh_170 g4.1 g4.2 rfl ?_
          exact ev_iret rfl dX11_cheap_42 h
        · rw [if_neg g4] at h; exact h.elim
      · rw [if_neg c5] at h
        refine ev_iconst dX11_cheap_32 (r32c rfl) ?_
        refine ev_goto (tgt := 42) dX11_cheap_33 (by decide) ?_
        exact ev_iret rfl dX11_cheap_42 h
    · rw [if_neg g3] at h; exact h.elim
  · rw [if_pos c6] at h
    refine ev_bipush (v := (-2)) dX11_cheap_13 (r32c rfl) (by decide) ?_
    exact ev_iret rfl dX11_cheap_15 h
def FX11_cheap (x1 : Int) (f : Mm) : Option (Int × Mm) := FX11_cheap_0 x1 f
set_option maxRecDepth 100000 in
theorem TX11_cheap {G : GT} {l : Launch} {Q : Option AV → Mem → Prop} (x1 : Int) (f : Mm) (h : OkI Q (FX11_cheap x1 f)) : Ret G l MX11_cheap (7) 0 0 [vR 150, vI x1] (SH, RF, f) Q := by
  refine ret_of (L := [some (vR 150), some (vI x1)]) (by decide) rfl (Nat.le_of_ble_eq_true rfl) ?_
  exact SX11_cheap_0 x1 f h
theorem dX11_cheaply_0 : decode cX11_cheaply 0 = .ok (.aload_n 0, 1) := by decide +kernel
theorem dX11_cheaply_1 : decode cX11_cheaply 1 = .ok (.iconst 0, 1) := by decide +kernel
theorem dX11_cheaply_2 : decode cX11_cheaply 2 = .ok (.putfield 98, 3) := by decide +kernel
theorem dX11_cheaply_5 : decode cX11_cheaply 5 = .ok (.aload_n 0, 1) := by decide +kernel
theorem dX11_cheaply_6 : decode cX11_cheaply 6 = .ok (.iload_n 1, 1) := by decide +kernel
theorem dX11_cheaply_7 : decode cX11_cheaply 7 = .ok (.invokevirtual 367, 3) := by decide +kernel
theorem dX11_cheaply_10 : decode cX11_cheaply 10 = .ok (.ifCond .eq 12, 3) := by decide +kernel
theorem dX11_cheaply_22 : decode cX11_cheaply 22 = .ok (.bipush (-2), 2) := by decide +kernel
theorem dX11_cheaply_24 : decode cX11_cheaply 24 = .ok (.ireturn, 1) := by decide +kernel
theorem dX11_cheaply_13 : decode cX11_cheaply 13 = .ok (.aload_n 0, 1) := by decide +kernel
theorem dX11_cheaply_14 : decode cX11_cheaply 14 = .ok (.iload_n 2, 1) := by decide +kernel
theorem dX11_cheaply_15 : decode cX11_cheaply 15 = .ok (.i2l, 1) := by decide +kernel
theorem dX11_cheaply_16 : decode cX11_cheaply 16 = .ok (.invokevirtual 324, 3) := by decide +kernel
theorem dX11_cheaply_19 : decode cX11_cheaply 19 = .ok (.ifCond .ne 6, 3) := by decide +kernel
theorem dX11_cheaply_25 : decode cX11_cheaply 25 = .ok (.aload_n 0, 1) := by decide +kernel
theorem dX11_cheaply_26 : decode cX11_cheaply 26 = .ok (.invokevirtual 365, 3) := by decide +kernel
theorem dX11_cheaply_29 : decode cX11_cheaply 29 = .ok (.aload_n 0, 1) := by decide +kernel
theorem dX11_cheaply_30 : decode cX11_cheaply 30 = .ok (.getfield 74, 3) := by decide +kernel
theorem dX11_cheaply_33 : decode cX11_cheaply 33 = .ok (.iload_n 1, 1) := by decide +kernel
theorem dX11_cheaply_34 : decode cX11_cheaply 34 = .ok (.iaload, 1) := by decide +kernel
theorem dX11_cheaply_35 : decode cX11_cheaply 35 = .ok (.ldc_w 349, 3) := by decide +kernel
theorem dX11_cheaply_38 : decode cX11_cheaply 38 = .ok (.if_icmp .lt 5, 3) := by decide +kernel
theorem dX11_cheaply_43 : decode cX11_cheaply 43 = .ok (.aload_n 0, 1) := by decide +kernel
theorem dX11_cheaply_44 : decode cX11_cheaply 44 = .ok (.aload_n 0, 1) := by decide +kernel
theorem dX11_cheaply_45 : decode cX11_cheaply 45 = .ok (.getfield 77, 3) := by decide +kernel
theorem dX11_cheaply_48 : decode cX11_cheaply 48 = .ok (.iload_n 1, 1) := by decide +kernel
theorem dX11_cheaply_49 : decode cX11_cheaply 49 = .ok (.iaload, 1) := by decide +kernel
theorem dX11_cheaply_50 : decode cX11_cheaply 50 = .ok (.invokevirtual 353, 3) := by decide +kernel
theorem dX11_cheaply_53 : decode cX11_cheaply 53 = .ok (.aload_n 0, 1) := by decide +kernel
theorem dX11_cheaply_54 : decode cX11_cheaply 54 = .ok (.getfield 50, 3) := by decide +kernel
theorem dX11_cheaply_57 : decode cX11_cheaply 57 = .ok (.iload_n 2, 1) := by decide +kernel
theorem dX11_cheaply_58 : decode cX11_cheaply 58 = .ok (.iaload, 1) := by decide +kernel
theorem dX11_cheaply_59 : decode cX11_cheaply 59 = .ok (.ireturn, 1) := by decide +kernel
theorem dX11_cheaply_41 : decode cX11_cheaply 41 = .ok (.iconst (-1), 1) := by decide +kernel
theorem dX11_cheaply_42 : decode cX11_cheaply 42 = .ok (.ireturn, 1) := by decide +kernel
def FX11_cheaply_0  (x1 : Int) (x2 : Int) (f : Mm) : Option (Int × Mm) := (b2 (FX11_areCarts x1 (up f 150 0 0)) fun y1 f1 => (if y1 = 0 then some ((-2), f1) else (b2 (FX11_isDay x2 f1) fun y2 f2 => (if y2 = 0 then some ((-2), f2) else ((FX11_laysPlans f2).bind fun f3 => (if 0 ≤ x1 ∧ x1 < 64 then (if (f3 170 x1.toNat) < 10000000 then (if 0 ≤ x1 ∧ x1 < 64 then ((FX11_planIs (f3 171 x1.toNat) f3).bind fun f6 => (if 0 ≤ x2 ∧ x2 < 6 then some ((f6 162 x2.toNat), f6) else none)) else none) else some ((-1), f3)) else none))))))
set_option maxHeartbeats 4000000 in
set_option maxRecDepth 100000 in
theorem SX11_cheaply_0 {G : GT} {l : Launch} {Q : Option AV → Mem → Prop}  (x1 : Int) (x2 : Int) (f : Mm) (h : OkI Q (FX11_cheaply_0  x1 x2 f)) : Ev G l MX11_cheaply (Rm 7 0 0) (ZM G Q 0 0) 0 0 0 [some (vR 150), some (vI x1), some (vI x2)] [] (SH, RF, f) := by
  unfold FX11_cheaply_0 at h
  refine ev_aload_n (i := 0) dX11_cheaply_0 rfl rfl ?_
  refine ev_iconst dX11_cheaply_1 (r32c rfl) ?_
  refine ev_putI dX11_cheaply_2 fl_X11_98 sh_150 (by decide) (by decide) ?_
  refine ev_aload_n (i := 0) dX11_cheaply_5 rfl rfl ?_
  refine ev_iload_n (i := 1) dX11_cheaply_6 rfl rfl ?_
  refine ev_cVI (b := 150) (av := [vI x1]) (S := []) (fun q => q) h dX11_cheaply_7 (fun Q' q => TX11_areCarts x1 _ q) kvX11_areCarts ml_X11_367 sh_150 rfl (RRc (by decide) (by decide)) (Nat.le_of_ble_eq_true rfl) ⟨Nat.le_of_ble_eq_true rfl, Nat.le_of_ble_eq_true rfl⟩ (fun y1 f1 h => ?_)
  refine ev_if_eq (tgt := 22) dX11_cheaply_10 (by decide) (fun c10 => ?_) (fun c10 => ?_)
  · rw [if_pos c10] at h
    refine ev_bipush (v := (-2)) dX11_cheaply_22 (r32c rfl) (by decide) ?_
    exact ev_iret rfl dX11_cheaply_24 h
  · rw [if_neg c10] at h
    refine ev_aload_n (i := 0) dX11_cheaply_13 rfl rfl ?_
    refine ev_iload_n (i := 2) dX11_cheaply_14 rfl rfl ?_
    refine ev_i2l dX11_cheaply_15 ?_
    refine ev_cVI (b := 150) (av := [vJ x2]) (S := []) (fun q => q) h dX11_cheaply_16 (fun Q' q => TX11_isDay x2 _ q) kvX11_isDay ml_X11_324 sh_150 rfl (RRc (by decide) (by decide)) (Nat.le_of_ble_eq_true rfl) ⟨Nat.le_of_ble_eq_true rfl, Nat.le_of_ble_eq_true rfl⟩ (fun y2 f2 h => ?_)
    refine ev_if_ne (tgt := 25) dX11_cheaply_19 (by decide) (fun c9 => ?_) (fun c9 => ?_)
    · rw [if_neg c9] at h
      refine ev_aload_n (i := 0) dX11_cheaply_25 rfl rfl ?_
      refine ev_cVV (b := 150) (av := []) (S := []) (fun q => q) h dX11_cheaply_26 (fun Q' q => TX11_laysPlans _ q) kvX11_laysPlans ml_X11_365 sh_150 rfl (RRc (by decide) (by decide)) (Nat.le_of_ble_eq_true rfl) ⟨Nat.le_of_ble_eq_true rfl, Nat.le_of_ble_eq_true rfl⟩ (fun f3 h => ?_)
      refine ev_aload_n (i := 0) dX11_cheaply_29 rfl rfl ?_
      refine ev_getR dX11_cheaply_30 fl_X11_74 sh_150 (by decide) (by decide) rf_150_35 ?_
      refine ev_iload_n (i := 1) dX11_cheaply_33 rfl rfl ?_
      by_cases g4 : 0 ≤ x1 ∧ x1 < 64
      · rw [if_pos g4] at h
        refine ex_iald (x := (f3 170 x1.toNat)) dX11_cheaply_34 sh_170 g4.1 g4.2 rfl ?_
        refine ev_ldcw (v := 10000000) dX11_cheaply_35 (r32c rfl) kc_X11_349 ?_
        refine ev_icmp_lt (tgt := 43) dX11_cheaply_38 (by decide) (fun c8 => ?_) (fun c8 => ?_)
        · rw [if_pos c8] at h
          refine ev_aload_n (i := 0) dX11_cheaply_43 rfl rfl ?_
          refine ev_aload_n (i := 0) dX11_cheaply_44 rfl rfl ?_
          refine ev_getR dX11_cheaply_45 fl_X11_77 sh_150 (by decide) (by decide) rf_150_36 ?_
          refine ev_iload_n (i := 1) dX11_cheaply_48 rfl rfl ?_
          by_cases g5 : 0 ≤ x1 ∧ x1 < 64
          · rw [if_pos g5] at h
            refine ex_iald (x := (f3 171 x1.toNat)) dX11_cheaply_49 sh_171 g5.1 g5.2 rfl ?_
            refine ev_cVV (b := 150) (av := [vI (f3 171 x1.toNat)]) (S := []) (fun q => q) h dX11_cheaply_50 (fun Q' q => TX11_planIs (f3 171 x1.toNat) _ q) kvX11_planIs ml_X11_353 sh_150 rfl (RRc (by decide) (by decide)) (Nat.le_of_ble_eq_true rfl) ⟨Nat.le_of_ble_eq_true rfl, Nat.le_of_ble_eq_true rfl⟩ (fun f6 h => ?_)
            refine ev_aload_n (i := 0) dX11_cheaply_53 rfl rfl ?_
            refine ev_getR dX11_cheaply_54 fl_X11_50 sh_150 (by decide) (by decide) rf_150_22 ?_
            refine ev_iload_n (i := 2) dX11_cheaply_57 rfl rfl ?_
            by_cases g7 : 0 ≤ x2 ∧ x2 < 6
            · rw [if_pos g7] at h
              refine ex_iald (x := (f6 162 x2.toNat)) dX11_cheaply_58 sh_162 g7.1 g7.2 rfl ?_
              exact ev_iret rfl dX11_cheaply_59 h
            · rw [if_neg g7] at h; exact h.elim
          · rw [if_neg g5] at h; exact h.elim
        · rw [if_neg c8] at h
          refine ev_iconst dX11_cheaply_41 (r32c rfl) ?_
          exact ev_iret rfl dX11_cheaply_42 h
      · rw [if_neg g4] at h; exact h.elim
    · rw [if_pos c9] at h
      refine ev_bipush (v := (-2)) dX11_cheaply_22 (r32c rfl) (by decide) ?_
      exact ev_iret rfl dX11_cheaply_24 h
def FX11_cheaply (x1 : Int) (x2 : Int) (f : Mm) : Option (Int × Mm) := FX11_cheaply_0 x1 x2 f
set_option maxRecDepth 100000 in
theorem TX11_cheaply {G : GT} {l : Launch} {Q : Option AV → Mem → Prop} (x1 : Int) (x2 : Int) (f : Mm) (h : OkI Q (FX11_cheaply x1 x2 f)) : Ret G l MX11_cheaply (7) 0 0 [vR 150, vI x1, vI x2] (SH, RF, f) Q := by
  refine ret_of (L := [some (vR 150), some (vI x1), some (vI x2)]) (by decide) rfl (Nat.le_of_ble_eq_true rfl) ?_
  exact SX11_cheaply_0 x1 x2 f h

theorem dX10_init_0 : decode cX10_init 0 = .ok (.aload_n 0, 1) := by decide +kernel
theorem dX10_init_1 : decode cX10_init 1 = .ok (.invokespecial 1, 3) := by decide +kernel
theorem dX10_init_4 : decode cX10_init 4 = .ok (.aload_n 0, 1) := by decide +kernel
theorem dX10_init_5 : decode cX10_init 5 = .ok (.new 7, 3) := by decide +kernel
theorem dX10_init_8 : decode cX10_init 8 = .ok (.dup, 1) := by decide +kernel
theorem dX10_init_9 : decode cX10_init 9 = .ok (.invokespecial 9, 3) := by decide +kernel
theorem dX4_init_0 : decode cX4_init 0 = .ok (.aload_n 0, 1) := by decide +kernel
theorem dX4_init_1 : decode cX4_init 1 = .ok (.invokespecial 3, 3) := by decide +kernel
theorem dX4_init_4 : decode cX4_init 4 = .ok (.aload_n 0, 1) := by decide +kernel
theorem dX4_init_5 : decode cX4_init 5 = .ok (.iconst (-1), 1) := by decide +kernel
theorem dX4_init_6 : decode cX4_init 6 = .ok (.putfield 9, 3) := by decide +kernel
theorem dX4_init_9 : decode cX4_init 9 = .ok (.aload_n 0, 1) := by decide +kernel
theorem dX4_init_10 : decode cX4_init 10 = .ok (.new 15, 3) := by decide +kernel
theorem dX4_init_13 : decode cX4_init 13 = .ok (.dup, 1) := by decide +kernel
theorem dX4_init_14 : decode cX4_init 14 = .ok (.invokespecial 17, 3) := by decide +kernel
theorem dX7_init_0 : decode cX7_init 0 = .ok (.aload_n 0, 1) := by decide +kernel
theorem dX7_init_1 : decode cX7_init 1 = .ok (.invokespecial 3, 3) := by decide +kernel
theorem dX7_init_4 : decode cX7_init 4 = .ok (.aload_n 0, 1) := by decide +kernel
theorem dX7_init_5 : decode cX7_init 5 = .ok (.sipush 800, 3) := by decide +kernel
theorem dX7_init_8 : decode cX7_init 8 = .ok (.newarray .byte, 2) := by decide +kernel
theorem dX7_init_10 : decode cX7_init 10 = .ok (.putfield 9, 3) := by decide +kernel
theorem dX7_init_13 : decode cX7_init 13 = .ok (.return_, 1) := by decide +kernel
set_option maxHeartbeats 4000000 in
set_option maxRecDepth 100000 in
theorem ct_X7_2 {G : GT} {l : Launch} {Q : Option AV → Mem → Prop} {rf : Rf} {f : Mm} (hr : Fr 3 rf) (hf : Fz 3 f) (h : Q none (Sp 4, (upr rf 2 0 3), f)) : Ret G l MX7_init 1 1 800 [vR 2] (Sp 3, rf, f) Q := by
  refine ret_of (L := [some (vR 2)]) (by decide) rfl (Nat.le_of_ble_eq_true rfl) ?_
  refine ev_aload_n (i := 0) dX7_init_0 rfl rfl ?_
  refine ev_oinit dX7_init_1 ml_X7_3 oi_im oi_co (Nat.le_of_ble_eq_true rfl) (Nat.le_of_ble_eq_true rfl) ?_
  refine ev_aload_n (i := 0) dX7_init_4 rfl rfl ?_
  refine ev_sipush (v := 800) dX7_init_5 (r32c rfl) (by decide) ?_
  refine ez_newa (n := 3) (k := 1) (N := 800) (ty := .byte) (by decide) (Or.inr (Or.inl ⟨rfl, rfl⟩)) dX7_init_8 rfl ac_byte rfl (by decide) sh_3 hf (Nat.le_of_ble_eq_true rfl) (Nat.le_of_ble_eq_true rfl) ?_
  have hr1 := Fr_mo (m := 4) hr (by decide)
  have hf1 := Fz_mo (m := 4) hf (by decide)
  refine ev_putR dX7_init_10 ff_X7_9 rfl (Sp_get sh_2 (by decide)) (by decide) (by decide) (by decide) ?_
  have hr2 := Fr_up (m := 4) (a := 2) (k := 0) (b := 3) hr1 (by decide) (by decide)
  exact ev_vret rfl dX7_init_13 h
theorem fr_X7_2 {rf : Rf} (h : Fr 3 rf) : Fr 4 (upr rf 2 0 3) := (Fr_up (m := 4) (Fr_mo (m := 4) h (by decide)) (Nat.le_refl _) (by decide))
theorem fz_X7_2 {f : Mm} (h : Fz 3 f) : Fz 4 f := (Fz_mo (m := 4) h (by decide))
theorem dX4_init_17 : decode cX4_init 17 = .ok (.putfield 18, 3) := by decide +kernel
theorem dX4_init_20 : decode cX4_init 20 = .ok (.return_, 1) := by decide +kernel
set_option maxHeartbeats 4000000 in
set_option maxRecDepth 100000 in
theorem ct_X4_1 {G : GT} {l : Launch} {Q : Option AV → Mem → Prop} {rf : Rf} {f : Mm} (hr : Fr 2 rf) (hf : Fz 2 f) (h : Q none (Sp 4, (upr (upr rf 2 0 3) 1 2 2), (up f 1 1 (-1)))) : Ret G l MX4_init 2 2 802 [vR 1] (Sp 2, rf, f) Q := by
  refine ret_of (L := [some (vR 1)]) (by decide) rfl (Nat.le_of_ble_eq_true rfl) ?_
  refine ev_aload_n (i := 0) dX4_init_0 rfl rfl ?_
  refine ev_oinit dX4_init_1 ml_X4_3 oi_im oi_co (Nat.le_of_ble_eq_true rfl) (Nat.le_of_ble_eq_true rfl) ?_
  refine ev_aload_n (i := 0) dX4_init_4 rfl rfl ?_
  refine ev_iconst dX4_init_5 (r32c rfl) ?_
  refine ev_putI dX4_init_6 fl_X4_9 (Sp_get sh_1 (by decide)) (by decide) (by decide) ?_
  have hf1 := Fz_up (m := 2) (a := 1) (k := 1) (x := (-1)) hf (by decide) (by decide)
  refine ev_aload_n (i := 0) dX4_init_9 rfl rfl ?_
  refine ez_new (n := 2) (by decide) dX4_init_10 cl_X4_15 ist_X7 in_X7 rfl kok_7 okt_7 sh_2 hf1 hr (Nat.le_of_ble_eq_true rfl) (Nat.le_of_ble_eq_true rfl) ?_
  have hr2 := Fr_mo (m := 3) hr (by decide)
  have hf2 := Fz_mo (m := 3) hf1 (by decide)
  refine ev_dupR dX4_init_13 ?_
  refine ev_callIN (S := [vR 2, vR 1]) (mc := 1) (ms := 800) (Q' := fun r μ => r = none ∧ μ = (Sp 4, (upr rf 2 0 3), (up f 1 1 (-1)))) dX4_init_14 (ct_X7_2 hr2 hf2 ⟨rfl, rfl⟩) rfl rfl coX7_init nw_X4_17 im_X7_init (RRc (by decide) (by decide)) (Nat.le_of_ble_eq_true rfl) ⟨(Nat.le_of_ble_eq_true rfl), (Nat.le_of_ble_eq_true rfl)⟩ ?_
  rintro r μ ⟨rfl, rfl⟩
  have hr3 : Fr 4 (upr rf 2 0 3) := fr_X7_2 hr2
  have hf3 : Fz 4 (up f 1 1 (-1)) := fz_X7_2 hf2
  refine ev_putR dX4_init_17 ff_X4_18 rfl (Sp_get sh_1 (by decide)) (by decide) (by decide) (by decide) ?_
  have hr4 := Fr_up (m := 4) (a := 1) (k := 2) (b := 2) hr3 (by decide) (by decide)
  exact ev_vret rfl dX4_init_20 h
theorem fr_X4_1 {rf : Rf} (h : Fr 2 rf) : Fr 4 (upr (upr rf 2 0 3) 1 2 2) := (Fr_up (m := 4) (Fr_up (m := 4) (Fr_mo (m := 4) h (by decide)) (Nat.le_refl _) (by decide)) (Nat.le_refl _) (by decide))
theorem fz_X4_1 {f : Mm} (h : Fz 2 f) : Fz 4 (up f 1 1 (-1)) := (Fz_up (m := 4) (Fz_mo (m := 4) h (by decide)) (Nat.le_refl _) (by decide))
theorem dX10_init_12 : decode cX10_init 12 = .ok (.putfield 10, 3) := by decide +kernel
theorem dX10_init_15 : decode cX10_init 15 = .ok (.aload_n 0, 1) := by decide +kernel
theorem dX10_init_16 : decode cX10_init 16 = .ok (.new 16, 3) := by decide +kernel
theorem dX10_init_19 : decode cX10_init 19 = .ok (.dup, 1) := by decide +kernel
theorem dX10_init_20 : decode cX10_init 20 = .ok (.invokespecial 18, 3) := by decide +kernel
theorem dX0_init_0 : decode cX0_init 0 = .ok (.aload_n 0, 1) := by decide +kernel
theorem dX0_init_1 : decode cX0_init 1 = .ok (.invokespecial 3, 3) := by decide +kernel
theorem dX0_init_4 : decode cX0_init 4 = .ok (.aload_n 0, 1) := by decide +kernel
theorem dX0_init_5 : decode cX0_init 5 = .ok (.iconst 2, 1) := by decide +kernel
theorem dX0_init_6 : decode cX0_init 6 = .ok (.newarray .int, 2) := by decide +kernel
theorem dX0_init_8 : decode cX0_init 8 = .ok (.putfield 9, 3) := by decide +kernel
theorem dX0_init_11 : decode cX0_init 11 = .ok (.aload_n 0, 1) := by decide +kernel
theorem dX0_init_12 : decode cX0_init 12 = .ok (.iconst 4, 1) := by decide +kernel
theorem dX0_init_13 : decode cX0_init 13 = .ok (.iconst 4, 1) := by decide +kernel
theorem dX0_init_14 : decode cX0_init 14 = .ok (.multianewarray 15 2, 4) := by decide +kernel
theorem dX0_init_18 : decode cX0_init 18 = .ok (.putfield 17, 3) := by decide +kernel
theorem dX0_init_21 : decode cX0_init 21 = .ok (.aload_n 0, 1) := by decide +kernel
theorem dX0_init_22 : decode cX0_init 22 = .ok (.bipush 6, 2) := by decide +kernel
theorem dX0_init_24 : decode cX0_init 24 = .ok (.iconst 5, 1) := by decide +kernel
theorem dX0_init_25 : decode cX0_init 25 = .ok (.multianewarray 15 2, 4) := by decide +kernel
theorem dX0_init_29 : decode cX0_init 29 = .ok (.putfield 20, 3) := by decide +kernel
theorem dX0_init_32 : decode cX0_init 32 = .ok (.aload_n 0, 1) := by decide +kernel
theorem dX0_init_33 : decode cX0_init 33 = .ok (.bipush 6, 2) := by decide +kernel
theorem dX0_init_35 : decode cX0_init 35 = .ok (.newarray .int, 2) := by decide +kernel
theorem dX0_init_37 : decode cX0_init 37 = .ok (.putfield 23, 3) := by decide +kernel
theorem dX0_init_40 : decode cX0_init 40 = .ok (.aload_n 0, 1) := by decide +kernel
theorem dX0_init_41 : decode cX0_init 41 = .ok (.bipush 40, 2) := by decide +kernel
theorem dX0_init_43 : decode cX0_init 43 = .ok (.newarray .int, 2) := by decide +kernel
theorem dX0_init_45 : decode cX0_init 45 = .ok (.putfield 26, 3) := by decide +kernel
theorem dX0_init_48 : decode cX0_init 48 = .ok (.aload_n 0, 1) := by decide +kernel
theorem dX0_init_49 : decode cX0_init 49 = .ok (.bipush 40, 2) := by decide +kernel
theorem dX0_init_51 : decode cX0_init 51 = .ok (.newarray .int, 2) := by decide +kernel
theorem dX0_init_53 : decode cX0_init 53 = .ok (.putfield 29, 3) := by decide +kernel
theorem dX0_init_56 : decode cX0_init 56 = .ok (.return_, 1) := by decide +kernel
set_option maxHeartbeats 4000000 in
set_option maxRecDepth 100000 in
theorem ct_X0_4 {G : GT} {l : Launch} {Q : Option AV → Mem → Prop} {rf : Rf} {f : Mm} (hr : Fr 5 rf) (hf : Fz 5 f) (h : Q none (Sp 21, (upr (upr (upr (upr (urow (upr (urow (upr rf 4 7 5) 6 4) 4 8 6) 11 6) 4 9 11) 4 10 18) 4 11 19) 4 12 20), f)) : Ret G l MX0_init 1 16 144 [vR 4] (Sp 5, rf, f) Q := by
  refine ret_of (L := [some (vR 4)]) (by decide) rfl (Nat.le_of_ble_eq_true rfl) ?_
  refine ev_aload_n (i := 0) dX0_init_0 rfl rfl ?_
  refine ev_oinit dX0_init_1 ml_X0_3 oi_im oi_co (Nat.le_of_ble_eq_true rfl) (Nat.le_of_ble_eq_true rfl) ?_
  refine ev_aload_n (i := 0) dX0_init_4 rfl rfl ?_
  refine ev_iconst dX0_init_5 (r32c rfl) ?_
  refine ez_newa (n := 5) (k := 0) (N := 2) (ty := .int) (by decide) (Or.inl ⟨rfl, rfl⟩) dX0_init_6 rfl ac_int rfl (by decide) sh_5 hf (Nat.le_of_ble_eq_true rfl) (Nat.le_of_ble_eq_true rfl) ?_
  have hr1 := Fr_mo (m := 6) hr (by decide)
  have hf1 := Fz_mo (m := 6) hf (by decide)
  refine ev_putR dX0_init_8 ff_X0_9 rfl (Sp_get sh_4 (by decide)) (by decide) (by decide) (by decide) ?_
  have hr2 := Fr_up (m := 6) (a := 4) (k := 7) (b := 5) hr1 (by decide) (by decide)
  refine ev_aload_n (i := 0) dX0_init_11 rfl rfl ?_
  refine ev_iconst dX0_init_12 (r32c rfl) ?_
  refine ev_iconst dX0_init_13 (r32c rfl) ?_
  refine ez_mna (n := 6) (kO := 4) (kI := 0) (N := 4) (K := 4) (ty := .int) (by decide) (Or.inl ⟨rfl, rfl, rfl⟩) dX0_init_14 cl_X0_15 ac_int rfl rfl (by decide) (by decide) (by decide +kernel) hf1 hr2 (Nat.le_of_ble_eq_true rfl) (Nat.le_of_ble_eq_true rfl) ?_
  have hr3 := Fr_ur (m := 11) (o := 6) (N := 4) hr2 (by decide) (by decide)
  have hf3 := Fz_mo (m := 11) hf1 (by decide)
  refine ev_putR dX0_init_18 ff_X0_17 rfl (Sp_get sh_4 (by decide)) (by decide) (by decide) (by decide) ?_
  have hr4 := Fr_up (m := 11) (a := 4) (k := 8) (b := 6) hr3 (by decide) (by decide)
  refine ev_aload_n (i := 0) dX0_init_21 rfl rfl ?_
  refine ev_bipush (v := 6) dX0_init_22 (r32c rfl) (by decide) ?_
  refine ev_iconst dX0_init_24 (r32c rfl) ?_
  refine ez_mna (n := 11) (kO := 4) (kI := 0) (N := 6) (K := 5) (ty := .int) (by decide) (Or.inl ⟨rfl, rfl, rfl⟩) dX0_init_25 cl_X0_15 ac_int rfl rfl (by decide) (by decide) (by decide +kernel) hf3 hr4 (Nat.le_of_ble_eq_true rfl) (Nat.le_of_ble_eq_true rfl) ?_
  have hr5 := Fr_ur (m := 18) (o := 11) (N := 6) hr4 (by decide) (by decide)
  have hf5 := Fz_mo (m := 18) hf3 (by decide)
  refine ev_putR dX0_init_29 ff_X0_20 rfl (Sp_get sh_4 (by decide)) (by decide) (by decide) (by decide) ?_
  have hr6 := Fr_up (m := 18) (a := 4) (k := 9) (b := 11) hr5 (by decide) (by decide)
  refine ev_aload_n (i := 0) dX0_init_32 rfl rfl ?_
  refine ev_bipush (v := 6) dX0_init_33 (r32c rfl) (by decide) ?_
  refine ez_newa (n := 18) (k := 0) (N := 6) (ty := .int) (by decide) (Or.inl ⟨rfl, rfl⟩) dX0_init_35 rfl ac_int rfl (by decide) sh_18 hf5 (Nat.le_of_ble_eq_true rfl) (Nat.le_of_ble_eq_true rfl) ?_
  have hr7 := Fr_mo (m := 19) hr6 (by decide)
  have hf7 := Fz_mo (m := 19) hf5 (by decide)
  refine ev_putR dX0_init_37 ff_X0_23 rfl (Sp_get sh_4 (by decide)) (by decide) (by decide) (by decide) ?_
  have hr8 := Fr_up (m := 19) (a := 4) (k := 10) (b := 18) hr7 (by decide) (by decide)
  refine ev_aload_n (i := 0) dX0_init_40 rfl rfl ?_
  refine ev_bipush (v := 40) dX0_init_41 (r32c rfl) (by decide) ?_
  refine ez_newa (n := 19) (k := 0) (N := 40) (ty := .int) (by decide) (Or.inl ⟨rfl, rfl⟩) dX0_init_43 rfl ac_int rfl (by decide) sh_19 hf7 (Nat.le_of_ble_eq_true rfl) (Nat.le_of_ble_eq_true rfl) ?_
  have hr9 := Fr_mo (m := 20) hr8 (by decide)
  have hf9 := Fz_mo (m := 20) hf7 (by decide)
  refine ev_putR dX0_init_45 ff_X0_26 rfl (Sp_get sh_4 (by decide)) (by decide) (by decide) (by decide) ?_
  have hr10 := Fr_up (m := 20) (a := 4) (k := 11) (b := 19) hr9 (by decide) (by decide)
  refine ev_aload_n (i := 0) dX0_init_48 rfl rfl ?_
  refine ev_bipush (v := 40) dX0_init_49 (r32c rfl) (by decide) ?_
  refine ez_newa (n := 20) (k := 0) (N := 40) (ty := .int) (by decide) (Or.inl ⟨rfl, rfl⟩) dX0_init_51 rfl ac_int rfl (by decide) sh_20 hf9 (Nat.le_of_ble_eq_true rfl) (Nat.le_of_ble_eq_true rfl) ?_
  have hr11 := Fr_mo (m := 21) hr10 (by decide)
  have hf11 := Fz_mo (m := 21) hf9 (by decide)
  refine ev_putR dX0_init_53 ff_X0_29 rfl (Sp_get sh_4 (by decide)) (by decide) (by decide) (by decide) ?_
  have hr12 := Fr_up (m := 21) (a := 4) (k := 12) (b := 20) hr11 (by decide) (by decide)
  exact ev_vret rfl dX0_init_56 h
theorem fr_X0_4 {rf : Rf} (h : Fr 5 rf) : Fr 21 (upr (upr (upr (upr (urow (upr (urow (upr rf 4 7 5) 6 4) 4 8 6) 11 6) 4 9 11) 4 10 18) 4 11 19) 4 12 20) := (Fr_up (m := 21) (Fr_up (m := 21) (Fr_up (m := 21) (Fr_up (m := 21) (Fr_ur (m := 21) (Fr_up (m := 21) (Fr_ur (m := 21) (Fr_up (m := 21) (Fr_mo (m := 21) h (by decide)) (Nat.le_refl _) (by decide)) (Nat.le_refl _) (by decide)) (Nat.le_refl _) (by decide)) (Nat.le_refl _) (by decide)) (Nat.le_refl _) (by decide)) (Nat.le_refl _) (by decide)) (Nat.le_refl _) (by decide)) (Nat.le_refl _) (by decide))
theorem fz_X0_4 {f : Mm} (h : Fz 5 f) : Fz 21 f := (Fz_mo (m := 21) h (by decide))
theorem dX10_init_23 : decode cX10_init 23 = .ok (.putfield 19, 3) := by decide +kernel
theorem dX10_init_26 : decode cX10_init 26 = .ok (.aload_n 0, 1) := by decide +kernel
theorem dX10_init_27 : decode cX10_init 27 = .ok (.new 16, 3) := by decide +kernel
theorem dX10_init_30 : decode cX10_init 30 = .ok (.dup, 1) := by decide +kernel
theorem dX10_init_31 : decode cX10_init 31 = .ok (.invokespecial 18, 3) := by decide +kernel
set_option maxHeartbeats 4000000 in
set_option maxRecDepth 100000 in
theorem ct_X0_21 {G : GT} {l : Launch} {Q : Option AV → Mem → Prop} {rf : Rf} {f : Mm} (hr : Fr 22 rf) (hf : Fz 22 f) (h : Q none (Sp 38, (upr (upr (upr (upr (urow (upr (urow (upr rf 21 7 22) 23 4) 21 8 23) 28 6) 21 9 28) 21 10 35) 21 11 36) 21 12 37), f)) : Ret G l MX0_init 1 16 144 [vR 21] (Sp 22, rf, f) Q := by
  refine ret_of (L := [some (vR 21)]) (by decide) rfl (Nat.le_of_ble_eq_true rfl) ?_
  refine ev_aload_n (i := 0) dX0_init_0 rfl rfl ?_
  refine ev_oinit dX0_init_1 ml_X0_3 oi_im oi_co (Nat.le_of_ble_eq_true rfl) (Nat.le_of_ble_eq_true rfl) ?_
  refine ev_aload_n (i := 0) dX0_init_4 rfl rfl ?_
  refine ev_iconst dX0_init_5 (r32c rfl) ?_
  refine ez_newa (n := 22) (k := 0) (N := 2) (ty := .int) (by decide) (Or.inl ⟨rfl, rfl⟩) dX0_init_6 rfl ac_int rfl (by decide) sh_22 hf (Nat.le_of_ble_eq_true rfl) (Nat.le_of_ble_eq_true rfl) ?_
  have hr1 := Fr_mo (m := 23) hr (by decide)
  have hf1 := Fz_mo (m := 23) hf (by decide)
  refine ev_putR dX0_init_8 ff_X0_9 rfl (Sp_get sh_21 (by decide)) (by decide) (by decide) (by decide) ?_
  have hr2 := Fr_up (m := 23) (a := 21) (k := 7) (b := 22) hr1 (by decide) (by decide)
  refine ev_aload_n (i := 0) dX0_init_11 rfl rfl ?_
  refine ev_iconst dX0_init_12 (r32c rfl) ?_
  refine ev_iconst dX0_init_13 (r32c rfl) ?_
  refine ez_mna (n := 23) (kO := 4) (kI := 0) (N := 4) (K := 4) (ty := .int) (by decide) (Or.inl ⟨rfl, rfl, rfl⟩) dX0_init_14 cl_X0_15 ac_int rfl rfl (by decide) (by decide) (by decide +kernel) hf1 hr2 (Nat.le_of_ble_eq_true rfl) (Nat.le_of_ble_eq_true rfl) ?_
  have hr3 := Fr_ur (m := 28) (o := 23) (N := 4) hr2 (by decide) (by decide)
  have hf3 := Fz_mo (m := 28) hf1 (by decide)
  refine ev_putR dX0_init_18 ff_X0_17 rfl (Sp_get sh_21 (by decide)) (by decide) (by decide) (by decide) ?_
  have hr4 := Fr_up (m := 28) (a := 21) (k := 8) (b := 23) hr3 (by decide) (by decide)
  refine ev_aload_n (i := 0) dX0_init_21 rfl rfl ?_
  refine ev_bipush (v := 6) dX0_init_22 (r32c rfl) (by decide) ?_
  refine ev_iconst dX0_init_24 (r32c rfl) ?_
  refine ez_mna (n := 28) (kO := 4) (kI := 0) (N := 6) (K := 5) (ty := .int) (by decide) (Or.inl ⟨rfl, rfl, rfl⟩) dX0_init_25 cl_X0_15 ac_int rfl rfl (by decide) (by decide) (by decide +kernel) hf3 hr4 (Nat.le_of_ble_eq_true rfl) (Nat.le_of_ble_eq_true rfl) ?_
  have hr5 := Fr_ur (m := 35) (o := 28) (N := 6) hr4 (by decide) (by decide)
  have hf5 := Fz_mo (m := 35) hf3 (by decide)
  refine ev_putR dX0_init_29 ff_X0_20 rfl (Sp_get sh_21 (by decide)) (by decide) (by decide) (by decide) ?_
  have hr6 := Fr_up (m := 35) (a := 21) (k := 9) (b := 28) hr5 (by decide) (by decide)
  refine ev_aload_n (i := 0) dX0_init_32 rfl rfl ?_
  refine ev_bipush (v := 6) dX0_init_33 (r32c rfl) (by decide) ?_
  refine ez_newa (n := 35) (k := 0) (N := 6) (ty := .int) (by decide) (Or.inl ⟨rfl, rfl⟩) dX0_init_35 rfl ac_int rfl (by decide) sh_35 hf5 (Nat.le_of_ble_eq_true rfl) (Nat.le_of_ble_eq_true rfl) ?_
  have hr7 := Fr_mo (m := 36) hr6 (by decide)
  have hf7 := Fz_mo (m := 36) hf5 (by decide)
  refine ev_putR dX0_init_37 ff_X0_23 rfl (Sp_get sh_21 (by decide)) (by decide) (by decide) (by decide) ?_
  have hr8 := Fr_up (m := 36) (a := 21) (k := 10) (b := 35) hr7 (by decide) (by decide)
  refine ev_aload_n (i := 0) dX0_init_40 rfl rfl ?_
  refine ev_bipush (v := 40) dX0_init_41 (r32c rfl) (by decide) ?_
  refine ez_newa (n := 36) (k := 0) (N := 40) (ty := .int) (by decide) (Or.inl ⟨rfl, rfl⟩) dX0_init_43 rfl ac_int rfl (by decide) sh_36 hf7 (Nat.le_of_ble_eq_true rfl) (Nat.le_of_ble_eq_true rfl) ?_
  have hr9 := Fr_mo (m := 37) hr8 (by decide)
  have hf9 := Fz_mo (m := 37) hf7 (by decide)
  refine ev_putR dX0_init_45 ff_X0_26 rfl (Sp_get sh_21 (by decide)) (by decide) (by decide) (by decide) ?_
  have hr10 := Fr_up (m := 37) (a := 21) (k := 11) (b := 36) hr9 (by decide) (by decide)
  refine ev_aload_n (i := 0) dX0_init_48 rfl rfl ?_
  refine ev_bipush (v := 40) dX0_init_49 (r32c rfl) (by decide) ?_
  refine ez_newa (n := 37) (k := 0) (N := 40) (ty := .int) (by decide) (Or.inl ⟨rfl, rfl⟩) dX0_init_51 rfl ac_int rfl (by decide) sh_37 hf9 (Nat.le_of_ble_eq_true rfl) (Nat.le_of_ble_eq_true rfl) ?_
  have hr11 := Fr_mo (m := 38) hr10 (by decide)
  have hf11 := Fz_mo (m := 38) hf9 (by decide)
  refine ev_putR dX0_init_53 ff_X0_29 rfl (Sp_get sh_21 (by decide)) (by decide) (by decide) (by decide) ?_
  have hr12 := Fr_up (m := 38) (a := 21) (k := 12) (b := 37) hr11 (by decide) (by decide)
  exact ev_vret rfl dX0_init_56 h
theorem fr_X0_21 {rf : Rf} (h : Fr 22 rf) : Fr 38 (upr (upr (upr (upr (urow (upr (urow (upr rf 21 7 22) 23 4) 21 8 23) 28 6) 21 9 28) 21 10 35) 21 11 36) 21 12 37) := (Fr_up (m := 38) (Fr_up (m := 38) (Fr_up (m := 38) (Fr_up (m := 38) (Fr_ur (m := 38) (Fr_up (m := 38) (Fr_ur (m := 38) (Fr_up (m := 38) (Fr_mo (m := 38) h (by decide)) (Nat.le_refl _) (by decide)) (Nat.le_refl _) (by decide)) (Nat.le_refl _) (by decide)) (Nat.le_refl _) (by decide)) (Nat.le_refl _) (by decide)) (Nat.le_refl _) (by decide)) (Nat.le_refl _) (by decide)) (Nat.le_refl _) (by decide))
theorem fz_X0_21 {f : Mm} (h : Fz 22 f) : Fz 38 f := (Fz_mo (m := 38) h (by decide))
theorem dX10_init_34 : decode cX10_init 34 = .ok (.putfield 23, 3) := by decide +kernel
theorem dX10_init_37 : decode cX10_init 37 = .ok (.aload_n 0, 1) := by decide +kernel
theorem dX10_init_38 : decode cX10_init 38 = .ok (.iconst 3, 1) := by decide +kernel
theorem dX10_init_39 : decode cX10_init 39 = .ok (.anewarray 16, 3) := by decide +kernel
theorem dX10_init_42 : decode cX10_init 42 = .ok (.putfield 26, 3) := by decide +kernel
theorem dX10_init_45 : decode cX10_init 45 = .ok (.aload_n 0, 1) := by decide +kernel
theorem dX10_init_46 : decode cX10_init 46 = .ok (.iconst 3, 1) := by decide +kernel
theorem dX10_init_47 : decode cX10_init 47 = .ok (.newarray .boolean, 2) := by decide +kernel
theorem dX10_init_49 : decode cX10_init 49 = .ok (.putfield 30, 3) := by decide +kernel
theorem dX10_init_52 : decode cX10_init 52 = .ok (.aload_n 0, 1) := by decide +kernel
theorem dX10_init_53 : decode cX10_init 53 = .ok (.new 34, 3) := by decide +kernel
theorem dX10_init_56 : decode cX10_init 56 = .ok (.dup, 1) := by decide +kernel
theorem dX10_init_57 : decode cX10_init 57 = .ok (.invokespecial 36, 3) := by decide +kernel
theorem dX6_init_0 : decode cX6_init 0 = .ok (.aload_n 0, 1) := by decide +kernel
theorem dX6_init_1 : decode cX6_init 1 = .ok (.invokespecial 3, 3) := by decide +kernel
theorem dX6_init_4 : decode cX6_init 4 = .ok (.aload_n 0, 1) := by decide +kernel
theorem dX6_init_5 : decode cX6_init 5 = .ok (.iconst 4, 1) := by decide +kernel
theorem dX6_init_6 : decode cX6_init 6 = .ok (.bipush 60, 2) := by decide +kernel
theorem dX6_init_8 : decode cX6_init 8 = .ok (.multianewarray 9 2, 4) := by decide +kernel
theorem dX6_init_12 : decode cX6_init 12 = .ok (.putfield 11, 3) := by decide +kernel
theorem dX6_init_15 : decode cX6_init 15 = .ok (.aload_n 0, 1) := by decide +kernel
theorem dX6_init_16 : decode cX6_init 16 = .ok (.iconst 4, 1) := by decide +kernel
theorem dX6_init_17 : decode cX6_init 17 = .ok (.newarray .int, 2) := by decide +kernel
theorem dX6_init_19 : decode cX6_init 19 = .ok (.putfield 16, 3) := by decide +kernel
theorem dX6_init_22 : decode cX6_init 22 = .ok (.aload_n 0, 1) := by decide +kernel
theorem dX6_init_23 : decode cX6_init 23 = .ok (.iconst 4, 1) := by decide +kernel
theorem dX6_init_24 : decode cX6_init 24 = .ok (.newarray .int, 2) := by decide +kernel
theorem dX6_init_26 : decode cX6_init 26 = .ok (.putfield 20, 3) := by decide +kernel
theorem dX6_init_29 : decode cX6_init 29 = .ok (.iconst 0, 1) := by decide +kernel
theorem dX6_init_30 : decode cX6_init 30 = .ok (.istore_n 1, 1) := by decide +kernel
theorem dX6_init_31 : decode cX6_init 31 = .ok (.iload_n 1, 1) := by decide +kernel
theorem dX6_init_32 : decode cX6_init 32 = .ok (.iconst 4, 1) := by decide +kernel
theorem dX6_init_33 : decode cX6_init 33 = .ok (.if_icmp .ge 16, 3) := by decide +kernel
theorem dX6_init_36 : decode cX6_init 36 = .ok (.aload_n 0, 1) := by decide +kernel
theorem dX6_init_37 : decode cX6_init 37 = .ok (.getfield 16, 3) := by decide +kernel
theorem dX6_init_40 : decode cX6_init 40 = .ok (.iload_n 1, 1) := by decide +kernel
theorem dX6_init_41 : decode cX6_init 41 = .ok (.iconst (-1), 1) := by decide +kernel
theorem dX6_init_42 : decode cX6_init 42 = .ok (.iastore, 1) := by decide +kernel
theorem dX6_init_43 : decode cX6_init 43 = .ok (.iinc 1 1, 3) := by decide +kernel
theorem dX6_init_46 : decode cX6_init 46 = .ok (.goto (-15), 3) := by decide +kernel
theorem dX6_init_49 : decode cX6_init 49 = .ok (.return_, 1) := by decide +kernel
set_option maxHeartbeats 4000000 in
set_option maxRecDepth 100000 in
theorem ct_X6_40 {G : GT} {l : Launch} {Q : Option AV → Mem → Prop} {rf : Rf} {f : Mm} (hr : Fr 41 rf) (hf : Fz 41 f) (h : Q none (Sp 48, (upr (upr (upr (urow rf 41 4) 40 0 41) 40 1 46) 40 2 47), (up (up (up (up f 46 0 (-1)) 46 1 (-1)) 46 2 (-1)) 46 3 (-1)))) : Ret G l MX6_init 1 7 252 [vR 40] (Sp 41, rf, f) Q := by
  refine ret_of (L := [some (vR 40), none]) (by decide) rfl (Nat.le_of_ble_eq_true rfl) ?_
  refine ev_aload_n (i := 0) dX6_init_0 rfl rfl ?_
  refine ev_oinit dX6_init_1 ml_X6_3 oi_im oi_co (Nat.le_of_ble_eq_true rfl) (Nat.le_of_ble_eq_true rfl) ?_
  refine ev_aload_n (i := 0) dX6_init_4 rfl rfl ?_
  refine ev_iconst dX6_init_5 (r32c rfl) ?_
  refine ev_bipush (v := 60) dX6_init_6 (r32c rfl) (by decide) ?_
  refine ez_mna (n := 41) (kO := 5) (kI := 3) (N := 4) (K := 60) (ty := .long) (by decide) (Or.inr ⟨rfl, rfl, rfl⟩) dX6_init_8 cl_X6_9 ac_long rfl rfl (by decide) (by decide) (by decide +kernel) hf hr (Nat.le_of_ble_eq_true rfl) (Nat.le_of_ble_eq_true rfl) ?_
  have hr1 := Fr_ur (m := 46) (o := 41) (N := 4) hr (by decide) (by decide)
  have hf1 := Fz_mo (m := 46) hf (by decide)
  refine ev_putR dX6_init_12 ff_X6_11 rfl (Sp_get sh_40 (by decide)) (by decide) (by decide) (by decide) ?_
  have hr2 := Fr_up (m := 46) (a := 40) (k := 0) (b := 41) hr1 (by decide) (by decide)
  refine ev_aload_n (i := 0) dX6_init_15 rfl rfl ?_
  refine ev_iconst dX6_init_16 (r32c rfl) ?_
  refine ez_newa (n := 46) (k := 0) (N := 4) (ty := .int) (by decide) (Or.inl ⟨rfl, rfl⟩) dX6_init_17 rfl ac_int rfl (by decide) sh_46 hf1 (Nat.le_of_ble_eq_true rfl) (Nat.le_of_ble_eq_true rfl) ?_
  have hr3 := Fr_mo (m := 47) hr2 (by decide)
  have hf3 := Fz_mo (m := 47) hf1 (by decide)
  refine ev_putR dX6_init_19 ff_X6_16 rfl (Sp_get sh_40 (by decide)) (by decide) (by decide) (by decide) ?_
  have hr4 := Fr_up (m := 47) (a := 40) (k := 1) (b := 46) hr3 (by decide) (by decide)
  refine ev_aload_n (i := 0) dX6_init_22 rfl rfl ?_
  refine ev_iconst dX6_init_23 (r32c rfl) ?_
  refine ez_newa (n := 47) (k := 0) (N := 4) (ty := .int) (by decide) (Or.inl ⟨rfl, rfl⟩) dX6_init_24 rfl ac_int rfl (by decide) sh_47 hf3 (Nat.le_of_ble_eq_true rfl) (Nat.le_of_ble_eq_true rfl) ?_
  have hr5 := Fr_mo (m := 48) hr4 (by decide)
  have hf5 := Fz_mo (m := 48) hf3 (by decide)
  refine ev_putR dX6_init_26 ff_X6_20 rfl (Sp_get sh_40 (by decide)) (by decide) (by decide) (by decide) ?_
  have hr6 := Fr_up (m := 48) (a := 40) (k := 2) (b := 47) hr5 (by decide) (by decide)
  refine ev_iconst dX6_init_29 (r32c rfl) ?_
  refine ev_istore_n (i := 1) (L' := [some (vR 40), some (vI 0)]) dX6_init_30 rfl (by decide) rfl ?_
  refine ev_iload_n (i := 1) dX6_init_31 rfl rfl ?_
  refine ev_iconst dX6_init_32 (r32c rfl) ?_
  refine ev_icmp_ge (tgt := 49) dX6_init_33 (by decide) (fun c => absurd c (by decide)) (fun _ => ?_)
  refine ev_aload_n (i := 0) dX6_init_36 rfl rfl ?_
  refine ev_getR (b := 46) dX6_init_37 fl_X6_16 (Sp_get sh_40 (by decide)) (by decide) (by decide) rfl ?_
  refine ev_iload_n (i := 1) dX6_init_40 rfl rfl ?_
  refine ev_iconst dX6_init_41 (r32c rfl) ?_
  refine ex_iast (j := 0) dX6_init_42 (Sp_get sh_46 (by decide)) (by decide) (by decide) rfl ?_
  have hf7 := Fz_up (m := 48) (a := 46) (k := 0) (x := (-1)) hf5 (by decide) (by decide)
  refine ev_iinc (L' := [some (vR 40), some (vI 1)]) dX6_init_43 rfl (by decide) (by decide +kernel) ?_
  refine ev_goto (tgt := 31) dX6_init_46 (by decide) ?_
  refine ev_iload_n (i := 1) dX6_init_31 rfl rfl ?_
  refine ev_iconst dX6_init_32 (r32c rfl) ?_
  refine ev_icmp_ge (tgt := 49) dX6_init_33 (by decide) (fun c => absurd c (by decide)) (fun _ => ?_)
  refine ev_aload_n (i := 0) dX6_init_36 rfl rfl ?_
  refine ev_getR (b := 46) dX6_init_37 fl_X6_16 (Sp_get sh_40 (by decide)) (by decide) (by decide) rfl ?_
  refine ev_iload_n (i := 1) dX6_init_40 rfl rfl ?_
  refine ev_iconst dX6_init_41 (r32c rfl) ?_
  refine ex_iast (j := 1) dX6_init_42 (Sp_get sh_46 (by decide)) (by decide) (by decide) rfl ?_
  have hf8 := Fz_up (m := 48) (a := 46) (k := 1) (x := (-1)) hf7 (by decide) (by decide)
  refine ev_iinc (L' := [some (vR 40), some (vI 2)]) dX6_init_43 rfl (by decide) (by decide +kernel) ?_
  refine ev_goto (tgt := 31) dX6_init_46 (by decide) ?_
  refine ev_iload_n (i := 1) dX6_init_31 rfl rfl ?_
  refine ev_iconst dX6_init_32 (r32c rfl) ?_
  refine ev_icmp_ge (tgt := 49) dX6_init_33 (by decide) (fun c => absurd c (by decide)) (fun _ => ?_)
  refine ev_aload_n (i := 0) dX6_init_36 rfl rfl ?_
  refine ev_getR (b := 46) dX6_init_37 fl_X6_16 (Sp_get sh_40 (by decide)) (by decide) (by decide) rfl ?_
  refine ev_iload_n (i := 1) dX6_init_40 rfl rfl ?_
  refine ev_iconst dX6_init_41 (r32c rfl) ?_
  refine ex_iast (j := 2) dX6_init_42 (Sp_get sh_46 (by decide)) (by decide) (by decide) rfl ?_
  have hf9 := Fz_up (m := 48) (a := 46) (k := 2) (x := (-1)) hf8 (by decide) (by decide)
  refine ev_iinc (L' := [some (vR 40), some (vI 3)]) dX6_init_43 rfl (by decide) (by decide +kernel) ?_
  refine ev_goto (tgt := 31) dX6_init_46 (by decide) ?_
  refine ev_iload_n (i := 1) dX6_init_31 rfl rfl ?_
  refine ev_iconst dX6_init_32 (r32c rfl) ?_
  refine ev_icmp_ge (tgt := 49) dX6_init_33 (by decide) (fun c => absurd c (by decide)) (fun _ => ?_)
  refine ev_aload_n (i := 0) dX6_init_36 rfl rfl ?_
  refine ev_getR (b := 46) dX6_init_37 fl_X6_16 (Sp_get sh_40 (by decide)) (by decide) (by decide) rfl ?_
  refine ev_iload_n (i := 1) dX6_init_40 rfl rfl ?_
  refine ev_iconst dX6_init_41 (r32c rfl) ?_
  refine ex_iast (j := 3) dX6_init_42 (Sp_get sh_46 (by decide)) (by decide) (by decide) rfl ?_
  have hf10 := Fz_up (m := 48) (a := 46) (k := 3) (x := (-1)) hf9 (by decide) (by decide)
  refine ev_iinc (L' := [some (vR 40), some (vI 4)]) dX6_init_43 rfl (by decide) (by decide +kernel) ?_
  refine ev_goto (tgt := 31) dX6_init_46 (by decide) ?_
  refine ev_iload_n (i := 1) dX6_init_31 rfl rfl ?_
  refine ev_iconst dX6_init_32 (r32c rfl) ?_
  refine ev_icmp_ge (tgt := 49) dX6_init_33 (by decide) (fun _ => ?_) (fun c => absurd (by decide) c)
  exact ev_vret rfl dX6_init_49 h
theorem fr_X6_40 {rf : Rf} (h : Fr 41 rf) : Fr 48 (upr (upr (upr (urow rf 41 4) 40 0 41) 40 1 46) 40 2 47) := (Fr_up (m := 48) (Fr_up (m := 48) (Fr_up (m := 48) (Fr_ur (m := 48) (Fr_mo (m := 48) h (by decide)) (Nat.le_refl _) (by decide)) (Nat.le_refl _) (by decide)) (Nat.le_refl _) (by decide)) (Nat.le_refl _) (by decide))
theorem fz_X6_40 {f : Mm} (h : Fz 41 f) : Fz 48 (up (up (up (up f 46 0 (-1)) 46 1 (-1)) 46 2 (-1)) 46 3 (-1)) := (Fz_up (m := 48) (Fz_up (m := 48) (Fz_up (m := 48) (Fz_up (m := 48) (Fz_mo (m := 48) h (by decide)) (Nat.le_refl _) (by decide)) (Nat.le_refl _) (by decide)) (Nat.le_refl _) (by decide)) (Nat.le_refl _) (by decide))
theorem dX10_init_60 : decode cX10_init 60 = .ok (.putfield 37, 3) := by decide +kernel
theorem dX10_init_63 : decode cX10_init 63 = .ok (.aload_n 0, 1) := by decide +kernel
theorem dX10_init_64 : decode cX10_init 64 = .ok (.new 41, 3) := by decide +kernel
theorem dX10_init_67 : decode cX10_init 67 = .ok (.dup, 1) := by decide +kernel
theorem dX10_init_68 : decode cX10_init 68 = .ok (.invokespecial 43, 3) := by decide +kernel
theorem dX1_init_0 : decode cX1_init 0 = .ok (.aload_n 0, 1) := by decide +kernel
theorem dX1_init_1 : decode cX1_init 1 = .ok (.invokespecial 3, 3) := by decide +kernel
theorem dX1_init_4 : decode cX1_init 4 = .ok (.aload_n 0, 1) := by decide +kernel
theorem dX1_init_5 : decode cX1_init 5 = .ok (.bipush 6, 2) := by decide +kernel
theorem dX1_init_7 : decode cX1_init 7 = .ok (.newarray .int, 2) := by decide +kernel
theorem dX1_init_9 : decode cX1_init 9 = .ok (.putfield 9, 3) := by decide +kernel
theorem dX1_init_12 : decode cX1_init 12 = .ok (.aload_n 0, 1) := by decide +kernel
theorem dX1_init_13 : decode cX1_init 13 = .ok (.bipush 6, 2) := by decide +kernel
theorem dX1_init_15 : decode cX1_init 15 = .ok (.newarray .int, 2) := by decide +kernel
theorem dX1_init_17 : decode cX1_init 17 = .ok (.putfield 15, 3) := by decide +kernel
theorem dX1_init_20 : decode cX1_init 20 = .ok (.aload_n 0, 1) := by decide +kernel
theorem dX1_init_21 : decode cX1_init 21 = .ok (.iconst 2, 1) := by decide +kernel
theorem dX1_init_22 : decode cX1_init 22 = .ok (.bipush 6, 2) := by decide +kernel
theorem dX1_init_24 : decode cX1_init 24 = .ok (.multianewarray 18 2, 4) := by decide +kernel
theorem dX1_init_28 : decode cX1_init 28 = .ok (.putfield 20, 3) := by decide +kernel
theorem dX1_init_31 : decode cX1_init 31 = .ok (.aload_n 0, 1) := by decide +kernel
theorem dX1_init_32 : decode cX1_init 32 = .ok (.bipush 6, 2) := by decide +kernel
theorem dX1_init_34 : decode cX1_init 34 = .ok (.newarray .int, 2) := by decide +kernel
theorem dX1_init_36 : decode cX1_init 36 = .ok (.putfield 23, 3) := by decide +kernel
theorem dX1_init_39 : decode cX1_init 39 = .ok (.aload_n 0, 1) := by decide +kernel
theorem dX1_init_40 : decode cX1_init 40 = .ok (.bipush 7, 2) := by decide +kernel
theorem dX1_init_42 : decode cX1_init 42 = .ok (.newarray .int, 2) := by decide +kernel
theorem dX1_init_44 : decode cX1_init 44 = .ok (.putfield 26, 3) := by decide +kernel
theorem dX1_init_47 : decode cX1_init 47 = .ok (.aload_n 0, 1) := by decide +kernel
theorem dX1_init_48 : decode cX1_init 48 = .ok (.bipush 7, 2) := by decide +kernel
theorem dX1_init_50 : decode cX1_init 50 = .ok (.newarray .int, 2) := by decide +kernel
theorem dX1_init_52 : decode cX1_init 52 = .ok (.putfield 29, 3) := by decide +kernel
theorem dX1_init_55 : decode cX1_init 55 = .ok (.return_, 1) := by decide +kernel
set_option maxHeartbeats 4000000 in
set_option maxRecDepth 100000 in
theorem ct_X1_48 {G : GT} {l : Launch} {Q : Option AV → Mem → Prop} {rf : Rf} {f : Mm} (hr : Fr 49 rf) (hf : Fz 49 f) (h : Q none (Sp 57, (upr (upr (upr (upr (urow (upr (upr rf 48 0 49) 48 1 50) 51 2) 48 6 51) 48 7 54) 48 8 55) 48 9 56), f)) : Ret G l MX1_init 1 8 46 [vR 48] (Sp 49, rf, f) Q := by
  refine ret_of (L := [some (vR 48)]) (by decide) rfl (Nat.le_of_ble_eq_true rfl) ?_
  refine ev_aload_n (i := 0) dX1_init_0 rfl rfl ?_
  refine ev_oinit dX1_init_1 ml_X1_3 oi_im oi_co (Nat.le_of_ble_eq_true rfl) (Nat.le_of_ble_eq_true rfl) ?_
  refine ev_aload_n (i := 0) dX1_init_4 rfl rfl ?_
  refine ev_bipush (v := 6) dX1_init_5 (r32c rfl) (by decide) ?_
  refine ez_newa (n := 49) (k := 0) (N := 6) (ty := .int) (by decide) (Or.inl ⟨rfl, rfl⟩) dX1_init_7 rfl ac_int rfl (by decide) sh_49 hf (Nat.le_of_ble_eq_true rfl) (Nat.le_of_ble_eq_true rfl) ?_
  have hr1 := Fr_mo (m := 50) hr (by decide)
  have hf1 := Fz_mo (m := 50) hf (by decide)
  refine ev_putR dX1_init_9 ff_X1_9 rfl (Sp_get sh_48 (by decide)) (by decide) (by decide) (by decide) ?_
  have hr2 := Fr_up (m := 50) (a := 48) (k := 0) (b := 49) hr1 (by decide) (by decide)
  refine ev_aload_n (i := 0) dX1_init_12 rfl rfl ?_
  refine ev_bipush (v := 6) dX1_init_13 (r32c rfl) (by decide) ?_
  refine ez_newa (n := 50) (k := 0) (N := 6) (ty := .int) (by decide) (Or.inl ⟨rfl, rfl⟩) dX1_init_15 rfl ac_int rfl (by decide) sh_50 hf1 (Nat.le_of_ble_eq_true rfl) (Nat.le_of_ble_eq_true rfl) ?_
  have hr3 := Fr_mo (m := 51) hr2 (by decide)
  have hf3 := Fz_mo (m := 51) hf1 (by decide)
  refine ev_putR dX1_init_17 ff_X1_15 rfl (Sp_get sh_48 (by decide)) (by decide) (by decide) (by decide) ?_
  have hr4 := Fr_up (m := 51) (a := 48) (k := 1) (b := 50) hr3 (by decide) (by decide)
  refine ev_aload_n (i := 0) dX1_init_20 rfl rfl ?_
  refine ev_iconst dX1_init_21 (r32c rfl) ?_
  refine ev_bipush (v := 6) dX1_init_22 (r32c rfl) (by decide) ?_
  refine ez_mna (n := 51) (kO := 4) (kI := 0) (N := 2) (K := 6) (ty := .int) (by decide) (Or.inl ⟨rfl, rfl, rfl⟩) dX1_init_24 cl_X1_18 ac_int rfl rfl (by decide) (by decide) (by decide +kernel) hf3 hr4 (Nat.le_of_ble_eq_true rfl) (Nat.le_of_ble_eq_true rfl) ?_
  have hr5 := Fr_ur (m := 54) (o := 51) (N := 2) hr4 (by decide) (by decide)
  have hf5 := Fz_mo (m := 54) hf3 (by decide)
  refine ev_putR dX1_init_28 ff_X1_20 rfl (Sp_get sh_48 (by decide)) (by decide) (by decide) (by decide) ?_
  have hr6 := Fr_up (m := 54) (a := 48) (k := 6) (b := 51) hr5 (by decide) (by decide)
  refine ev_aload_n (i := 0) dX1_init_31 rfl rfl ?_
  refine ev_bipush (v := 6) dX1_init_32 (r32c rfl) (by decide) ?_
  refine ez_newa (n := 54) (k := 0) (N := 6) (ty := .int) (by decide) (Or.inl ⟨rfl, rfl⟩) dX1_init_34 rfl ac_int rfl (by decide) sh_54 hf5 (Nat.le_of_ble_eq_true rfl) (Nat.le_of_ble_eq_true rfl) ?_
  have hr7 := Fr_mo (m := 55) hr6 (by decide)
  have hf7 := Fz_mo (m := 55) hf5 (by decide)
  refine ev_putR dX1_init_36 ff_X1_23 rfl (Sp_get sh_48 (by decide)) (by decide) (by decide) (by decide) ?_
  have hr8 := Fr_up (m := 55) (a := 48) (k := 7) (b := 54) hr7 (by decide) (by decide)
  refine ev_aload_n (i := 0) dX1_init_39 rfl rfl ?_
  refine ev_bipush (v := 7) dX1_init_40 (r32c rfl) (by decide) ?_
  refine ez_newa (n := 55) (k := 0) (N := 7) (ty := .int) (by decide) (Or.inl ⟨rfl, rfl⟩) dX1_init_42 rfl ac_int rfl (by decide) sh_55 hf7 (Nat.le_of_ble_eq_true rfl) (Nat.le_of_ble_eq_true rfl) ?_
  have hr9 := Fr_mo (m := 56) hr8 (by decide)
  have hf9 := Fz_mo (m := 56) hf7 (by decide)
  refine ev_putR dX1_init_44 ff_X1_26 rfl (Sp_get sh_48 (by decide)) (by decide) (by decide) (by decide) ?_
  have hr10 := Fr_up (m := 56) (a := 48) (k := 8) (b := 55) hr9 (by decide) (by decide)
  refine ev_aload_n (i := 0) dX1_init_47 rfl rfl ?_
  refine ev_bipush (v := 7) dX1_init_48 (r32c rfl) (by decide) ?_
  refine ez_newa (n := 56) (k := 0) (N := 7) (ty := .int) (by decide) (Or.inl ⟨rfl, rfl⟩) dX1_init_50 rfl ac_int rfl (by decide) sh_56 hf9 (Nat.le_of_ble_eq_true rfl) (Nat.le_of_ble_eq_true rfl) ?_
  have hr11 := Fr_mo (m := 57) hr10 (by decide)
  have hf11 := Fz_mo (m := 57) hf9 (by decide)
  refine ev_putR dX1_init_52 ff_X1_29 rfl (Sp_get sh_48 (by decide)) (by decide) (by decide) (by decide) ?_
  have hr12 := Fr_up (m := 57) (a := 48) (k := 9) (b := 56) hr11 (by decide) (by decide)
  exact ev_vret rfl dX1_init_55 h
theorem fr_X1_48 {rf : Rf} (h : Fr 49 rf) : Fr 57 (upr (upr (upr (upr (urow (upr (upr rf 48 0 49) 48 1 50) 51 2) 48 6 51) 48 7 54) 48 8 55) 48 9 56) := (Fr_up (m := 57) (Fr_up (m := 57) (Fr_up (m := 57) (Fr_up (m := 57) (Fr_ur (m := 57) (Fr_up (m := 57) (Fr_up (m := 57) (Fr_mo (m := 57) h (by decide)) (Nat.le_refl _) (by decide)) (Nat.le_refl _) (by decide)) (Nat.le_refl _) (by decide)) (Nat.le_refl _) (by decide)) (Nat.le_refl _) (by decide)) (Nat.le_refl _) (by decide)) (Nat.le_refl _) (by decide))
theorem fz_X1_48 {f : Mm} (h : Fz 49 f) : Fz 57 f := (Fz_mo (m := 57) h (by decide))
theorem dX10_init_71 : decode cX10_init 71 = .ok (.putfield 44, 3) := by decide +kernel
theorem dX10_init_74 : decode cX10_init 74 = .ok (.aload_n 0, 1) := by decide +kernel
theorem dX10_init_75 : decode cX10_init 75 = .ok (.new 48, 3) := by decide +kernel
theorem dX10_init_78 : decode cX10_init 78 = .ok (.dup, 1) := by decide +kernel
theorem dX10_init_79 : decode cX10_init 79 = .ok (.invokespecial 50, 3) := by decide +kernel
theorem dX3_init_0 : decode cX3_init 0 = .ok (.aload_n 0, 1) := by decide +kernel
theorem dX3_init_1 : decode cX3_init 1 = .ok (.invokespecial 3, 3) := by decide +kernel
theorem dX3_init_4 : decode cX3_init 4 = .ok (.aload_n 0, 1) := by decide +kernel
theorem dX3_init_5 : decode cX3_init 5 = .ok (.bipush 7, 2) := by decide +kernel
theorem dX3_init_7 : decode cX3_init 7 = .ok (.newarray .int, 2) := by decide +kernel
theorem dX3_init_9 : decode cX3_init 9 = .ok (.putfield 9, 3) := by decide +kernel
theorem dX3_init_12 : decode cX3_init 12 = .ok (.aload_n 0, 1) := by decide +kernel
theorem dX3_init_13 : decode cX3_init 13 = .ok (.bipush 7, 2) := by decide +kernel
theorem dX3_init_15 : decode cX3_init 15 = .ok (.newarray .int, 2) := by decide +kernel
theorem dX3_init_17 : decode cX3_init 17 = .ok (.putfield 15, 3) := by decide +kernel
theorem dX3_init_20 : decode cX3_init 20 = .ok (.aload_n 0, 1) := by decide +kernel
theorem dX3_init_21 : decode cX3_init 21 = .ok (.bipush 64, 2) := by decide +kernel
theorem dX3_init_23 : decode cX3_init 23 = .ok (.newarray .int, 2) := by decide +kernel
theorem dX3_init_25 : decode cX3_init 25 = .ok (.putfield 18, 3) := by decide +kernel
theorem dX3_init_28 : decode cX3_init 28 = .ok (.aload_n 0, 1) := by decide +kernel
theorem dX3_init_29 : decode cX3_init 29 = .ok (.bipush 64, 2) := by decide +kernel
theorem dX3_init_31 : decode cX3_init 31 = .ok (.newarray .int, 2) := by decide +kernel
theorem dX3_init_33 : decode cX3_init 33 = .ok (.putfield 21, 3) := by decide +kernel
theorem dX3_init_36 : decode cX3_init 36 = .ok (.aload_n 0, 1) := by decide +kernel
theorem dX3_init_37 : decode cX3_init 37 = .ok (.bipush 64, 2) := by decide +kernel
theorem dX3_init_39 : decode cX3_init 39 = .ok (.newarray .int, 2) := by decide +kernel
theorem dX3_init_41 : decode cX3_init 41 = .ok (.putfield 24, 3) := by decide +kernel
theorem dX3_init_44 : decode cX3_init 44 = .ok (.aload_n 0, 1) := by decide +kernel
theorem dX3_init_45 : decode cX3_init 45 = .ok (.bipush 64, 2) := by decide +kernel
theorem dX3_init_47 : decode cX3_init 47 = .ok (.newarray .int, 2) := by decide +kernel
theorem dX3_init_49 : decode cX3_init 49 = .ok (.putfield 27, 3) := by decide +kernel
theorem dX3_init_52 : decode cX3_init 52 = .ok (.aload_n 0, 1) := by decide +kernel
theorem dX3_init_53 : decode cX3_init 53 = .ok (.bipush 61, 2) := by decide +kernel
theorem dX3_init_55 : decode cX3_init 55 = .ok (.newarray .int, 2) := by decide +kernel
theorem dX3_init_57 : decode cX3_init 57 = .ok (.putfield 30, 3) := by decide +kernel
theorem dX3_init_60 : decode cX3_init 60 = .ok (.aload_n 0, 1) := by decide +kernel
theorem dX3_init_61 : decode cX3_init 61 = .ok (.bipush 6, 2) := by decide +kernel
theorem dX3_init_63 : decode cX3_init 63 = .ok (.newarray .int, 2) := by decide +kernel
theorem dX3_init_65 : decode cX3_init 65 = .ok (.putfield 33, 3) := by decide +kernel
theorem dX3_init_68 : decode cX3_init 68 = .ok (.aload_n 0, 1) := by decide +kernel
theorem dX3_init_69 : decode cX3_init 69 = .ok (.bipush 6, 2) := by decide +kernel
theorem dX3_init_71 : decode cX3_init 71 = .ok (.newarray .int, 2) := by decide +kernel
theorem dX3_init_73 : decode cX3_init 73 = .ok (.putfield 36, 3) := by decide +kernel
theorem dX3_init_76 : decode cX3_init 76 = .ok (.return_, 1) := by decide +kernel
set_option maxHeartbeats 4000000 in
set_option maxRecDepth 100000 in
theorem ct_X3_57 {G : GT} {l : Launch} {Q : Option AV → Mem → Prop} {rf : Rf} {f : Mm} (hr : Fr 58 rf) (hf : Fz 58 f) (h : Q none (Sp 67, (upr (upr (upr (upr (upr (upr (upr (upr (upr rf 57 3 58) 57 4 59) 57 5 60) 57 6 61) 57 7 62) 57 8 63) 57 9 64) 57 10 65) 57 11 66), f)) : Ret G l MX3_init 1 9 343 [vR 57] (Sp 58, rf, f) Q := by
  refine ret_of (L := [some (vR 57)]) (by decide) rfl (Nat.le_of_ble_eq_true rfl) ?_
  refine ev_aload_n (i := 0) dX3_init_0 rfl rfl ?_
  refine ev_oinit dX3_init_1 ml_X3_3 oi_im oi_co (Nat.le_of_ble_eq_true rfl) (Nat.le_of_ble_eq_true rfl) ?_
  refine ev_aload_n (i := 0) dX3_init_4 rfl rfl ?_
  refine ev_bipush (v := 7) dX3_init_5 (r32c rfl) (by decide) ?_
  refine ez_newa (n := 58) (k := 0) (N := 7) (ty := .int) (by decide) (Or.inl ⟨rfl, rfl⟩) dX3_init_7 rfl ac_int rfl (by decide) sh_58 hf (Nat.le_of_ble_eq_true rfl) (Nat.le_of_ble_eq_true rfl) ?_
  have hr1 := Fr_mo (m := 59) hr (by decide)
  have hf1 := Fz_mo (m := 59) hf (by decide)
  refine ev_putR dX3_init_9 ff_X3_9 rfl (Sp_get sh_57 (by decide)) (by decide) (by decide) (by decide) ?_
  have hr2 := Fr_up (m := 59) (a := 57) (k := 3) (b := 58) hr1 (by decide) (by decide)
  refine ev_aload_n (i := 0) dX3_init_12 rfl rfl ?_
  refine ev_bipush (v := 7) dX3_init_13 (r32c rfl) (by decide) ?_
  refine ez_newa (n := 59) (k := 0) (N := 7) (ty := .int) (by decide) (Or.inl ⟨rfl, rfl⟩) dX3_init_15 rfl ac_int rfl (by decide) sh_59 hf1 (Nat.le_of_ble_eq_true rfl) (Nat.le_of_ble_eq_true rfl) ?_
  have hr3 := Fr_mo (m := 60) hr2 (by decide)
  have hf3 := Fz_mo (m := 60) hf1 (by decide)
  refine ev_putR dX3_init_17 ff_X3_15 rfl (Sp_get sh_57 (by decide)) (by decide) (by decide) (by decide) ?_
  have hr4 := Fr_up (m := 60) (a := 57) (k := 4) (b := 59) hr3 (by decide) (by decide)
  refine ev_aload_n (i := 0) dX3_init_20 rfl rfl ?_
  refine ev_bipush (v := 64) dX3_init_21 (r32c rfl) (by decide) ?_
  refine ez_newa (n := 60) (k := 0) (N := 64) (ty := .int) (by decide) (Or.inl ⟨rfl, rfl⟩) dX3_init_23 rfl ac_int rfl (by decide) sh_60 hf3 (Nat.le_of_ble_eq_true rfl) (Nat.le_of_ble_eq_true rfl) ?_
  have hr5 := Fr_mo (m := 61) hr4 (by decide)
  have hf5 := Fz_mo (m := 61) hf3 (by decide)
  refine ev_putR dX3_init_25 ff_X3_18 rfl (Sp_get sh_57 (by decide)) (by decide) (by decide) (by decide) ?_
  have hr6 := Fr_up (m := 61) (a := 57) (k := 5) (b := 60) hr5 (by decide) (by decide)
  refine ev_aload_n (i := 0) dX3_init_28 rfl rfl ?_
  refine ev_bipush (v := 64) dX3_init_29 (r32c rfl) (by decide) ?_
  refine ez_newa (n := 61) (k := 0) (N := 64) (ty := .int) (by decide) (Or.inl ⟨rfl, rfl⟩) dX3_init_31 rfl ac_int rfl (by decide) sh_61 hf5 (Nat.le_of_ble_eq_true rfl) (Nat.le_of_ble_eq_true rfl) ?_
  have hr7 := Fr_mo (m := 62) hr6 (by decide)
  have hf7 := Fz_mo (m := 62) hf5 (by decide)
  refine ev_putR dX3_init_33 ff_X3_21 rfl (Sp_get sh_57 (by decide)) (by decide) (by decide) (by decide) ?_
  have hr8 := Fr_up (m := 62) (a := 57) (k := 6) (b := 61) hr7 (by decide) (by decide)
  refine ev_aload_n (i := 0) dX3_init_36 rfl rfl ?_
  refine ev_bipush (v := 64) dX3_init_37 (r32c rfl) (by decide) ?_
  refine ez_newa (n := 62) (k := 0) (N := 64) (ty := .int) (by decide) (Or.inl ⟨rfl, rfl⟩) dX3_init_39 rfl ac_int rfl (by decide) sh_62 hf7 (Nat.le_of_ble_eq_true rfl) (Nat.le_of_ble_eq_true rfl) ?_
  have hr9 := Fr_mo (m := 63) hr8 (by decide)
  have hf9 := Fz_mo (m := 63) hf7 (by decide)
  refine ev_putR dX3_init_41 ff_X3_24 rfl (Sp_get sh_57 (by decide)) (by decide) (by decide) (by decide) ?_
  have hr10 := Fr_up (m := 63) (a := 57) (k := 7) (b := 62) hr9 (by decide) (by decide)
  refine ev_aload_n (i := 0) dX3_init_44 rfl rfl ?_
  refine ev_bipush (v := 64) dX3_init_45 (r32c rfl) (by decide) ?_
  refine ez_newa (n := 63) (k := 0) (N := 64) (ty := .int) (by decide) (Or.inl ⟨rfl, rfl⟩) dX3_init_47 rfl ac_int rfl (by decide) sh_63 hf9 (Nat.le_of_ble_eq_true rfl) (Nat.le_of_ble_eq_true rfl) ?_
  have hr11 := Fr_mo (m := 64) hr10 (by decide)
  have hf11 := Fz_mo (m := 64) hf9 (by decide)
  refine ev_putR dX3_init_49 ff_X3_27 rfl (Sp_get sh_57 (by decide)) (by decide) (by decide) (by decide) ?_
  have hr12 := Fr_up (m := 64) (a := 57) (k := 8) (b := 63) hr11 (by decide) (by decide)
  refine ev_aload_n (i := 0) dX3_init_52 rfl rfl ?_
  refine ev_bipush (v := 61) dX3_init_53 (r32c rfl) (by decide) ?_
  refine ez_newa (n := 64) (k := 0) (N := 61) (ty := .int) (by decide) (Or.inl ⟨rfl, rfl⟩) dX3_init_55 rfl ac_int rfl (by decide) sh_64 hf11 (Nat.le_of_ble_eq_true rfl) (Nat.le_of_ble_eq_true rfl) ?_
  have hr13 := Fr_mo (m := 65) hr12 (by decide)
  have hf13 := Fz_mo (m := 65) hf11 (by decide)
  refine ev_putR dX3_init_57 ff_X3_30 rfl (Sp_get sh_57 (by decide)) (by decide) (by decide) (by decide) ?_
  have hr14 := Fr_up (m := 65) (a := 57) (k := 9) (b := 64) hr13 (by decide) (by decide)
  refine ev_aload_n (i := 0) dX3_init_60 rfl rfl ?_
  refine ev_bipush (v := 6) dX3_init_61 (r32c rfl) (by decide) ?_
  refine ez_newa (n := 65) (k := 0) (N := 6) (ty := .int) (by decide) (Or.inl ⟨rfl, rfl⟩) dX3_init_63 rfl ac_int rfl (by decide) sh_65 hf13 (Nat.le_of_ble_eq_true rfl) (Nat.le_of_ble_eq_true rfl) ?_
  have hr15 := Fr_mo (m := 66) hr14 (by decide)
  have hf15 := Fz_mo (m := 66) hf13 (by decide)
  refine ev_putR dX3_init_65 ff_X3_33 rfl (Sp_get sh_57 (by decide)) (by decide) (by decide) (by decide) ?_
  have hr16 := Fr_up (m := 66) (a := 57) (k := 10) (b := 65) hr15 (by decide) (by decide)
  refine ev_aload_n (i := 0) dX3_init_68 rfl rfl ?_
  refine ev_bipush (v := 6) dX3_init_69 (r32c rfl) (by decide) ?_
  refine ez_newa (n := 66) (k := 0) (N := 6) (ty := .int) (by decide) (Or.inl ⟨rfl, rfl⟩) dX3_init_71 rfl ac_int rfl (by decide) sh_66 hf15 (Nat.le_of_ble_eq_true rfl) (Nat.le_of_ble_eq_true rfl) ?_
  have hr17 := Fr_mo (m := 67) hr16 (by decide)
  have hf17 := Fz_mo (m := 67) hf15 (by decide)
  refine ev_putR dX3_init_73 ff_X3_36 rfl (Sp_get sh_57 (by decide)) (by decide) (by decide) (by decide) ?_
  have hr18 := Fr_up (m := 67) (a := 57) (k := 11) (b := 66) hr17 (by decide) (by decide)
  exact ev_vret rfl dX3_init_76 h
theorem fr_X3_57 {rf : Rf} (h : Fr 58 rf) : Fr 67 (upr (upr (upr (upr (upr (upr (upr (upr (upr rf 57 3 58) 57 4 59) 57 5 60) 57 6 61) 57 7 62) 57 8 63) 57 9 64) 57 10 65) 57 11 66) := (Fr_up (m := 67) (Fr_up (m := 67) (Fr_up (m := 67) (Fr_up (m := 67) (Fr_up (m := 67) (Fr_up (m := 67) (Fr_up (m := 67) (Fr_up (m := 67) (Fr_up (m := 67) (Fr_mo (m := 67) h (by decide)) (Nat.le_refl _) (by decide)) (Nat.le_refl _) (by decide)) (Nat.le_refl _) (by decide)) (Nat.le_refl _) (by decide)) (Nat.le_refl _) (by decide)) (Nat.le_refl _) (by decide)) (Nat.le_refl _) (by decide)) (Nat.le_refl _) (by decide)) (Nat.le_refl _) (by decide))
theorem fz_X3_57 {f : Mm} (h : Fz 58 f) : Fz 67 f := (Fz_mo (m := 67) h (by decide))
theorem dX10_init_82 : decode cX10_init 82 = .ok (.putfield 51, 3) := by decide +kernel
theorem dX10_init_85 : decode cX10_init 85 = .ok (.aload_n 0, 1) := by decide +kernel
theorem dX10_init_86 : decode cX10_init 86 = .ok (.new 55, 3) := by decide +kernel
theorem dX10_init_89 : decode cX10_init 89 = .ok (.dup, 1) := by decide +kernel
theorem dX10_init_90 : decode cX10_init 90 = .ok (.invokespecial 57, 3) := by decide +kernel
theorem dX2_init_0 : decode cX2_init 0 = .ok (.aload_n 0, 1) := by decide +kernel
theorem dX2_init_1 : decode cX2_init 1 = .ok (.invokespecial 3, 3) := by decide +kernel
theorem dX2_init_4 : decode cX2_init 4 = .ok (.aload_n 0, 1) := by decide +kernel
theorem dX2_init_5 : decode cX2_init 5 = .ok (.bipush 6, 2) := by decide +kernel
theorem dX2_init_7 : decode cX2_init 7 = .ok (.newarray .int, 2) := by decide +kernel
theorem dX2_init_9 : decode cX2_init 9 = .ok (.putfield 9, 3) := by decide +kernel
theorem dX2_init_12 : decode cX2_init 12 = .ok (.return_, 1) := by decide +kernel
set_option maxHeartbeats 4000000 in
set_option maxRecDepth 100000 in
theorem ct_X2_67 {G : GT} {l : Launch} {Q : Option AV → Mem → Prop} {rf : Rf} {f : Mm} (hr : Fr 68 rf) (hf : Fz 68 f) (h : Q none (Sp 69, (upr rf 67 2 68), f)) : Ret G l MX2_init 1 1 6 [vR 67] (Sp 68, rf, f) Q := by
  refine ret_of (L := [some (vR 67)]) (by decide) rfl (Nat.le_of_ble_eq_true rfl) ?_
  refine ev_aload_n (i := 0) dX2_init_0 rfl rfl ?_
  refine ev_oinit dX2_init_1 ml_X2_3 oi_im oi_co (Nat.le_of_ble_eq_true rfl) (Nat.le_of_ble_eq_true rfl) ?_
  refine ev_aload_n (i := 0) dX2_init_4 rfl rfl ?_
  refine ev_bipush (v := 6) dX2_init_5 (r32c rfl) (by decide) ?_
  refine ez_newa (n := 68) (k := 0) (N := 6) (ty := .int) (by decide) (Or.inl ⟨rfl, rfl⟩) dX2_init_7 rfl ac_int rfl (by decide) sh_68 hf (Nat.le_of_ble_eq_true rfl) (Nat.le_of_ble_eq_true rfl) ?_
  have hr1 := Fr_mo (m := 69) hr (by decide)
  have hf1 := Fz_mo (m := 69) hf (by decide)
  refine ev_putR dX2_init_9 ff_X2_9 rfl (Sp_get sh_67 (by decide)) (by decide) (by decide) (by decide) ?_
  have hr2 := Fr_up (m := 69) (a := 67) (k := 2) (b := 68) hr1 (by decide) (by decide)
  exact ev_vret rfl dX2_init_12 h
theorem fr_X2_67 {rf : Rf} (h : Fr 68 rf) : Fr 69 (upr rf 67 2 68) := (Fr_up (m := 69) (Fr_mo (m := 69) h (by decide)) (Nat.le_refl _) (by decide))
theorem fz_X2_67 {f : Mm} (h : Fz 68 f) : Fz 69 f := (Fz_mo (m := 69) h (by decide))
theorem dX10_init_93 : decode cX10_init 93 = .ok (.putfield 58, 3) := by decide +kernel
theorem dX10_init_96 : decode cX10_init 96 = .ok (.aload_n 0, 1) := by decide +kernel
theorem dX10_init_97 : decode cX10_init 97 = .ok (.new 62, 3) := by decide +kernel
theorem dX10_init_100 : decode cX10_init 100 = .ok (.dup, 1) := by decide +kernel
theorem dX10_init_101 : decode cX10_init 101 = .ok (.invokespecial 64, 3) := by decide +kernel
theorem dX5_init_0 : decode cX5_init 0 = .ok (.aload_n 0, 1) := by decide +kernel
theorem dX5_init_1 : decode cX5_init 1 = .ok (.invokespecial 3, 3) := by decide +kernel
theorem dX5_init_4 : decode cX5_init 4 = .ok (.aload_n 0, 1) := by decide +kernel
theorem dX5_init_5 : decode cX5_init 5 = .ok (.bipush 24, 2) := by decide +kernel
theorem dX5_init_7 : decode cX5_init 7 = .ok (.bipush 6, 2) := by decide +kernel
theorem dX5_init_9 : decode cX5_init 9 = .ok (.multianewarray 9 2, 4) := by decide +kernel
theorem dX5_init_13 : decode cX5_init 13 = .ok (.putfield 11, 3) := by decide +kernel
theorem dX5_init_16 : decode cX5_init 16 = .ok (.return_, 1) := by decide +kernel
set_option maxHeartbeats 4000000 in
set_option maxRecDepth 100000 in
theorem ct_X5_69 {G : GT} {l : Launch} {Q : Option AV → Mem → Prop} {rf : Rf} {f : Mm} (hr : Fr 70 rf) (hf : Fz 70 f) (h : Q none (Sp 95, (upr (urow rf 70 24) 69 3 70), f)) : Ret G l MX5_init 1 25 168 [vR 69] (Sp 70, rf, f) Q := by
  refine ret_of (L := [some (vR 69)]) (by decide) rfl (Nat.le_of_ble_eq_true rfl) ?_
  refine ev_aload_n (i := 0) dX5_init_0 rfl rfl ?_
  refine ev_oinit dX5_init_1 ml_X5_3 oi_im oi_co (Nat.le_of_ble_eq_true rfl) (Nat.le_of_ble_eq_true rfl) ?_
  refine ev_aload_n (i := 0) dX5_init_4 rfl rfl ?_
  refine ev_bipush (v := 24) dX5_init_5 (r32c rfl) (by decide) ?_
  refine ev_bipush (v := 6) dX5_init_7 (r32c rfl) (by decide) ?_
  refine ez_mna (n := 70) (kO := 4) (kI := 0) (N := 24) (K := 6) (ty := .int) (by decide) (Or.inl ⟨rfl, rfl, rfl⟩) dX5_init_9 cl_X5_9 ac_int rfl rfl (by decide) (by decide) (by decide +kernel) hf hr (Nat.le_of_ble_eq_true rfl) (Nat.le_of_ble_eq_true rfl) ?_
  have hr1 := Fr_ur (m := 95) (o := 70) (N := 24) hr (by decide) (by decide)
  have hf1 := Fz_mo (m := 95) hf (by decide)
  refine ev_putR dX5_init_13 ff_X5_11 rfl (Sp_get sh_69 (by decide)) (by decide) (by decide) (by decide) ?_
  have hr2 := Fr_up (m := 95) (a := 69) (k := 3) (b := 70) hr1 (by decide) (by decide)
  exact ev_vret rfl dX5_init_16 h
theorem fr_X5_69 {rf : Rf} (h : Fr 70 rf) : Fr 95 (upr (urow rf 70 24) 69 3 70) := (Fr_up (m := 95) (Fr_ur (m := 95) (Fr_mo (m := 95) h (by decide)) (Nat.le_refl _) (by decide)) (Nat.le_refl _) (by decide))
theorem fz_X5_69 {f : Mm} (h : Fz 70 f) : Fz 95 f := (Fz_mo (m := 95) h (by decide))
theorem dX10_init_104 : decode cX10_init 104 = .ok (.putfield 65, 3) := by decide +kernel
theorem dX10_init_107 : decode cX10_init 107 = .ok (.aload_n 0, 1) := by decide +kernel
theorem dX10_init_108 : decode cX10_init 108 = .ok (.new 69, 3) := by decide +kernel
theorem dX10_init_111 : decode cX10_init 111 = .ok (.dup, 1) := by decide +kernel
theorem dX10_init_112 : decode cX10_init 112 = .ok (.invokespecial 71, 3) := by decide +kernel
theorem dX9_init_0 : decode cX9_init 0 = .ok (.aload_n 0, 1) := by decide +kernel
theorem dX9_init_1 : decode cX9_init 1 = .ok (.invokespecial 3, 3) := by decide +kernel
theorem dX9_init_4 : decode cX9_init 4 = .ok (.aload_n 0, 1) := by decide +kernel
theorem dX9_init_5 : decode cX9_init 5 = .ok (.iconst 2, 1) := by decide +kernel
theorem dX9_init_6 : decode cX9_init 6 = .ok (.bipush 25, 2) := by decide +kernel
theorem dX9_init_8 : decode cX9_init 8 = .ok (.multianewarray 11 2, 4) := by decide +kernel
theorem dX9_init_12 : decode cX9_init 12 = .ok (.putfield 13, 3) := by decide +kernel
theorem dX9_init_15 : decode cX9_init 15 = .ok (.return_, 1) := by decide +kernel
set_option maxHeartbeats 4000000 in
set_option maxRecDepth 100000 in
theorem ct_X9_95 {G : GT} {l : Launch} {Q : Option AV → Mem → Prop} {rf : Rf} {f : Mm} (hr : Fr 96 rf) (hf : Fz 96 f) (h : Q none (Sp 99, (upr (urow rf 96 2) 95 2 96), f)) : Ret G l MX9_init 1 3 52 [vR 95] (Sp 96, rf, f) Q := by
  refine ret_of (L := [some (vR 95)]) (by decide) rfl (Nat.le_of_ble_eq_true rfl) ?_
  refine ev_aload_n (i := 0) dX9_init_0 rfl rfl ?_
  refine ev_oinit dX9_init_1 ml_X9_3 oi_im oi_co (Nat.le_of_ble_eq_true rfl) (Nat.le_of_ble_eq_true rfl) ?_
  refine ev_aload_n (i := 0) dX9_init_4 rfl rfl ?_
  refine ev_iconst dX9_init_5 (r32c rfl) ?_
  refine ev_bipush (v := 25) dX9_init_6 (r32c rfl) (by decide) ?_
  refine ez_mna (n := 96) (kO := 4) (kI := 0) (N := 2) (K := 25) (ty := .int) (by decide) (Or.inl ⟨rfl, rfl, rfl⟩) dX9_init_8 cl_X9_11 ac_int rfl rfl (by decide) (by decide) (by decide +kernel) hf hr (Nat.le_of_ble_eq_true rfl) (Nat.le_of_ble_eq_true rfl) ?_
  have hr1 := Fr_ur (m := 99) (o := 96) (N := 2) hr (by decide) (by decide)
  have hf1 := Fz_mo (m := 99) hf (by decide)
  refine ev_putR dX9_init_12 ff_X9_13 rfl (Sp_get sh_95 (by decide)) (by decide) (by decide) (by decide) ?_
  have hr2 := Fr_up (m := 99) (a := 95) (k := 2) (b := 96) hr1 (by decide) (by decide)
  exact ev_vret rfl dX9_init_15 h
theorem fr_X9_95 {rf : Rf} (h : Fr 96 rf) : Fr 99 (upr (urow rf 96 2) 95 2 96) := (Fr_up (m := 99) (Fr_ur (m := 99) (Fr_mo (m := 99) h (by decide)) (Nat.le_refl _) (by decide)) (Nat.le_refl _) (by decide))
theorem fz_X9_95 {f : Mm} (h : Fz 96 f) : Fz 99 f := (Fz_mo (m := 99) h (by decide))
theorem dX10_init_115 : decode cX10_init 115 = .ok (.putfield 72, 3) := by decide +kernel
theorem dX10_init_118 : decode cX10_init 118 = .ok (.iconst 0, 1) := by decide +kernel
theorem dX10_init_119 : decode cX10_init 119 = .ok (.istore_n 1, 1) := by decide +kernel
theorem dX10_init_120 : decode cX10_init 120 = .ok (.iload_n 1, 1) := by decide +kernel
theorem dX10_init_121 : decode cX10_init 121 = .ok (.iconst 3, 1) := by decide +kernel
theorem dX10_init_122 : decode cX10_init 122 = .ok (.if_icmp .ge 22, 3) := by decide +kernel
theorem dX10_init_125 : decode cX10_init 125 = .ok (.aload_n 0, 1) := by decide +kernel
theorem dX10_init_126 : decode cX10_init 126 = .ok (.getfield 26, 3) := by decide +kernel
theorem dX10_init_129 : decode cX10_init 129 = .ok (.iload_n 1, 1) := by decide +kernel
theorem dX10_init_130 : decode cX10_init 130 = .ok (.new 16, 3) := by decide +kernel
theorem dX10_init_133 : decode cX10_init 133 = .ok (.dup, 1) := by decide +kernel
theorem dX10_init_134 : decode cX10_init 134 = .ok (.invokespecial 18, 3) := by decide +kernel
set_option maxHeartbeats 4000000 in
set_option maxRecDepth 100000 in
theorem ct_X0_99 {G : GT} {l : Launch} {Q : Option AV → Mem → Prop} {rf : Rf} {f : Mm} (hr : Fr 100 rf) (hf : Fz 100 f) (h : Q none (Sp 116, (upr (upr (upr (upr (urow (upr (urow (upr rf 99 7 100) 101 4) 99 8 101) 106 6) 99 9 106) 99 10 113) 99 11 114) 99 12 115), f)) : Ret G l MX0_init 1 16 144 [vR 99] (Sp 100, rf, f) Q := by
  refine ret_of (L := [some (vR 99)]) (by decide) rfl (Nat.le_of_ble_eq_true rfl) ?_
  refine ev_aload_n (i := 0) dX0_init_0 rfl rfl ?_
  refine ev_oinit dX0_init_1 ml_X0_3 oi_im oi_co (Nat.le_of_ble_eq_true rfl) (Nat.le_of_ble_eq_true rfl) ?_
  refine ev_aload_n (i := 0) dX0_init_4 rfl rfl ?_
  refine ev_iconst dX0_init_5 (r32c rfl) ?_
  refine ez_newa (n := 100) (k := 0) (N := 2) (ty := .int) (by decide) (Or.inl ⟨rfl, rfl⟩) dX0_init_6 rfl ac_int rfl (by decide) sh_100 hf (Nat.le_of_ble_eq_true rfl) (Nat.le_of_ble_eq_true rfl) ?_
  have hr1 := Fr_mo (m := 101) hr (by decide)
  have hf1 := Fz_mo (m := 101) hf (by decide)
  refine ev_putR dX0_init_8 ff_X0_9 rfl (Sp_get sh_99 (by decide)) (by decide) (by decide) (by decide) ?_
  have hr2 := Fr_up (m := 101) (a := 99) (k := 7) (b := 100) hr1 (by decide) (by decide)
  refine ev_aload_n (i := 0) dX0_init_11 rfl rfl ?_
  refine ev_iconst dX0_init_12 (r32c rfl) ?_
  refine ev_iconst dX0_init_13 (r32c rfl) ?_
  refine ez_mna (n := 101) (kO := 4) (kI := 0) (N := 4) (K := 4) (ty := .int) (by decide) (Or.inl ⟨rfl, rfl, rfl⟩) dX0_init_14 cl_X0_15 ac_int rfl rfl (by decide) (by decide) (by decide +kernel) hf1 hr2 (Nat.le_of_ble_eq_true rfl) (Nat.le_of_ble_eq_true rfl) ?_
  have hr3 := Fr_ur (m := 106) (o := 101) (N := 4) hr2 (by decide) (by decide)
  have hf3 := Fz_mo (m := 106) hf1 (by decide)
  refine ev_putR dX0_init_18 ff_X0_17 rfl (Sp_get sh_99 (by decide)) (by decide) (by decide) (by decide) ?_
  have hr4 := Fr_up (m := 106) (a := 99) (k := 8) (b := 101) hr3 (by decide) (by decide)
  refine ev_aload_n (i := 0) dX0_init_21 rfl rfl ?_
  refine ev_bipush (v := 6) dX0_init_22 (r32c rfl) (by decide) ?_
  refine ev_iconst dX0_init_24 (r32c rfl) ?_
  refine ez_mna (n := 106) (kO := 4) (kI := 0) (N := 6) (K := 5) (ty := .int) (by decide) (Or.inl ⟨rfl, rfl, rfl⟩) dX0_init_25 cl_X0_15 ac_int rfl rfl (by decide) (by decide) (by decide +kernel) hf3 hr4 (Nat.le_of_ble_eq_true rfl) (Nat.le_of_ble_eq_true rfl) ?_
  have hr5 := Fr_ur (m := 113) (o := 106) (N := 6) hr4 (by decide) (by decide)
  have hf5 := Fz_mo (m := 113) hf3 (by decide)
  refine ev_putR dX0_init_29 ff_X0_20 rfl (Sp_get sh_99 (by decide)) (by decide) (by decide) (by decide) ?_
  have hr6 := Fr_up (m := 113) (a := 99) (k := 9) (b := 106) hr5 (by decide) (by decide)
  refine ev_aload_n (i := 0) dX0_init_32 rfl rfl ?_
  refine ev_bipush (v := 6) dX0_init_33 (r32c rfl) (by decide) ?_
  refine ez_newa (n := 113) (k := 0) (N := 6) (ty := .int) (by decide) (Or.inl ⟨rfl, rfl⟩) dX0_init_35 rfl ac_int rfl (by decide) sh_113 hf5 (Nat.le_of_ble_eq_true rfl) (Nat.le_of_ble_eq_true rfl) ?_
  have hr7 := Fr_mo (m := 114) hr6 (by decide)
  have hf7 := Fz_mo (m := 114) hf5 (by decide)
  refine ev_putR dX0_init_37 ff_X0_23 rfl (Sp_get sh_99 (by decide)) (by decide) (by decide) (by decide) ?_
  have hr8 := Fr_up (m := 114) (a := 99) (k := 10) (b := 113) hr7 (by decide) (by decide)
  refine ev_aload_n (i := 0) dX0_init_40 rfl rfl ?_
  refine ev_bipush (v := 40) dX0_init_41 (r32c rfl) (by decide) ?_
  refine ez_newa (n := 114) (k := 0) (N := 40) (ty := .int) (by decide) (Or.inl ⟨rfl, rfl⟩) dX0_init_43 rfl ac_int rfl (by decide) sh_114 hf7 (Nat.le_of_ble_eq_true rfl) (Nat.le_of_ble_eq_true rfl) ?_
  have hr9 := Fr_mo (m := 115) hr8 (by decide)
  have hf9 := Fz_mo (m := 115) hf7 (by decide)
  refine ev_putR dX0_init_45 ff_X0_26 rfl (Sp_get sh_99 (by decide)) (by decide) (by decide) (by decide) ?_
  have hr10 := Fr_up (m := 115) (a := 99) (k := 11) (b := 114) hr9 (by decide) (by decide)
  refine ev_aload_n (i := 0) dX0_init_48 rfl rfl ?_
  refine ev_bipush (v := 40) dX0_init_49 (r32c rfl) (by decide) ?_
  refine ez_newa (n := 115) (k := 0) (N := 40) (ty := .int) (by decide) (Or.inl ⟨rfl, rfl⟩) dX0_init_51 rfl ac_int rfl (by decide) sh_115 hf9 (Nat.le_of_ble_eq_true rfl) (Nat.le_of_ble_eq_true rfl) ?_
  have hr11 := Fr_mo (m := 116) hr10 (by decide)
  have hf11 := Fz_mo (m := 116) hf9 (by decide)
  refine ev_putR dX0_init_53 ff_X0_29 rfl (Sp_get sh_99 (by decide)) (by decide) (by decide) (by decide) ?_
  have hr12 := Fr_up (m := 116) (a := 99) (k := 12) (b := 115) hr11 (by decide) (by decide)
  exact ev_vret rfl dX0_init_56 h
theorem fr_X0_99 {rf : Rf} (h : Fr 100 rf) : Fr 116 (upr (upr (upr (upr (urow (upr (urow (upr rf 99 7 100) 101 4) 99 8 101) 106 6) 99 9 106) 99 10 113) 99 11 114) 99 12 115) := (Fr_up (m := 116) (Fr_up (m := 116) (Fr_up (m := 116) (Fr_up (m := 116) (Fr_ur (m := 116) (Fr_up (m := 116) (Fr_ur (m := 116) (Fr_up (m := 116) (Fr_mo (m := 116) h (by decide)) (Nat.le_refl _) (by decide)) (Nat.le_refl _) (by decide)) (Nat.le_refl _) (by decide)) (Nat.le_refl _) (by decide)) (Nat.le_refl _) (by decide)) (Nat.le_refl _) (by decide)) (Nat.le_refl _) (by decide)) (Nat.le_refl _) (by decide))
theorem fz_X0_99 {f : Mm} (h : Fz 100 f) : Fz 116 f := (Fz_mo (m := 116) h (by decide))
theorem dX10_init_137 : decode cX10_init 137 = .ok (.aastore, 1) := by decide +kernel
theorem dX10_init_138 : decode cX10_init 138 = .ok (.iinc 1 1, 3) := by decide +kernel
theorem dX10_init_141 : decode cX10_init 141 = .ok (.goto (-21), 3) := by decide +kernel
set_option maxHeartbeats 4000000 in
set_option maxRecDepth 100000 in
theorem ct_X0_116 {G : GT} {l : Launch} {Q : Option AV → Mem → Prop} {rf : Rf} {f : Mm} (hr : Fr 117 rf) (hf : Fz 117 f) (h : Q none (Sp 133, (upr (upr (upr (upr (urow (upr (urow (upr rf 116 7 117) 118 4) 116 8 118) 123 6) 116 9 123) 116 10 130) 116 11 131) 116 12 132), f)) : Ret G l MX0_init 1 16 144 [vR 116] (Sp 117, rf, f) Q := by
  refine ret_of (L := [some (vR 116)]) (by decide) rfl (Nat.le_of_ble_eq_true rfl) ?_
  refine ev_aload_n (i := 0) dX0_init_0 rfl rfl ?_
  refine ev_oinit dX0_init_1 ml_X0_3 oi_im oi_co (Nat.le_of_ble_eq_true rfl) (Nat.le_of_ble_eq_true rfl) ?_
  refine ev_aload_n (i := 0) dX0_init_4 rfl rfl ?_
  refine ev_iconst dX0_init_5 (r32c rfl) ?_
  refine ez_newa (n := 117) (k := 0) (N := 2) (ty := .int) (by decide) (Or.inl ⟨rfl, rfl⟩) dX0_init_6 rfl ac_int rfl (by decide) sh_117 hf (Nat.le_of_ble_eq_true rfl) (Nat.le_of_ble_eq_true rfl) ?_
  have hr1 := Fr_mo (m := 118) hr (by decide)
  have hf1 := Fz_mo (m := 118) hf (by decide)
  refine ev_putR dX0_init_8 ff_X0_9 rfl (Sp_get sh_116 (by decide)) (by decide) (by decide) (by decide) ?_
  have hr2 := Fr_up (m := 118) (a := 116) (k := 7) (b := 117) hr1 (by decide) (by decide)
  refine ev_aload_n (i := 0) dX0_init_11 rfl rfl ?_
  refine ev_iconst dX0_init_12 (r32c rfl) ?_
  refine ev_iconst dX0_init_13 (r32c rfl) ?_
  refine ez_mna (n := 118) (kO := 4) (kI := 0) (N := 4) (K := 4) (ty := .int) (by decide) (Or.inl ⟨rfl, rfl, rfl⟩) dX0_init_14 cl_X0_15 ac_int rfl rfl (by decide) (by decide) (by decide +kernel) hf1 hr2 (Nat.le_of_ble_eq_true rfl) (Nat.le_of_ble_eq_true rfl) ?_
  have hr3 := Fr_ur (m := 123) (o := 118) (N := 4) hr2 (by decide) (by decide)
  have hf3 := Fz_mo (m := 123) hf1 (by decide)
  refine ev_putR dX0_init_18 ff_X0_17 rfl (Sp_get sh_116 (by decide)) (by decide) (by decide) (by decide) ?_
  have hr4 := Fr_up (m := 123) (a := 116) (k := 8) (b := 118) hr3 (by decide) (by decide)
  refine ev_aload_n (i := 0) dX0_init_21 rfl rfl ?_
  refine ev_bipush (v := 6) dX0_init_22 (r32c rfl) (by decide) ?_
  refine ev_iconst dX0_init_24 (r32c rfl) ?_
  refine ez_mna (n := 123) (kO := 4) (kI := 0) (N := 6) (K := 5) (ty := .int) (by decide) (Or.inl ⟨rfl, rfl, rfl⟩) dX0_init_25 cl_X0_15 ac_int rfl rfl (by decide) (by decide) (by decide +kernel) hf3 hr4 (Nat.le_of_ble_eq_true rfl) (Nat.le_of_ble_eq_true rfl) ?_
  have hr5 := Fr_ur (m := 130) (o := 123) (N := 6) hr4 (by decide) (by decide)
  have hf5 := Fz_mo (m := 130) hf3 (by decide)
  refine ev_putR dX0_init_29 ff_X0_20 rfl (Sp_get sh_116 (by decide)) (by decide) (by decide) (by decide) ?_
  have hr6 := Fr_up (m := 130) (a := 116) (k := 9) (b := 123) hr5 (by decide) (by decide)
  refine ev_aload_n (i := 0) dX0_init_32 rfl rfl ?_
  refine ev_bipush (v := 6) dX0_init_33 (r32c rfl) (by decide) ?_
  refine ez_newa (n := 130) (k := 0) (N := 6) (ty := .int) (by decide) (Or.inl ⟨rfl, rfl⟩) dX0_init_35 rfl ac_int rfl (by decide) sh_130 hf5 (Nat.le_of_ble_eq_true rfl) (Nat.le_of_ble_eq_true rfl) ?_
  have hr7 := Fr_mo (m := 131) hr6 (by decide)
  have hf7 := Fz_mo (m := 131) hf5 (by decide)
  refine ev_putR dX0_init_37 ff_X0_23 rfl (Sp_get sh_116 (by decide)) (by decide) (by decide) (by decide) ?_
  have hr8 := Fr_up (m := 131) (a := 116) (k := 10) (b := 130) hr7 (by decide) (by decide)
  refine ev_aload_n (i := 0) dX0_init_40 rfl rfl ?_
  refine ev_bipush (v := 40) dX0_init_41 (r32c rfl) (by decide) ?_
  refine ez_newa (n := 131) (k := 0) (N := 40) (ty := .int) (by decide) (Or.inl ⟨rfl, rfl⟩) dX0_init_43 rfl ac_int rfl (by decide) sh_131 hf7 (Nat.le_of_ble_eq_true rfl) (Nat.le_of_ble_eq_true rfl) ?_
  have hr9 := Fr_mo (m := 132) hr8 (by decide)
  have hf9 := Fz_mo (m := 132) hf7 (by decide)
  refine ev_putR dX0_init_45 ff_X0_26 rfl (Sp_get sh_116 (by decide)) (by decide) (by decide) (by decide) ?_
  have hr10 := Fr_up (m := 132) (a := 116) (k := 11) (b := 131) hr9 (by decide) (by decide)
  refine ev_aload_n (i := 0) dX0_init_48 rfl rfl ?_
  refine ev_bipush (v := 40) dX0_init_49 (r32c rfl) (by decide) ?_
  refine ez_newa (n := 132) (k := 0) (N := 40) (ty := .int) (by decide) (Or.inl ⟨rfl, rfl⟩) dX0_init_51 rfl ac_int rfl (by decide) sh_132 hf9 (Nat.le_of_ble_eq_true rfl) (Nat.le_of_ble_eq_true rfl) ?_
  have hr11 := Fr_mo (m := 133) hr10 (by decide)
  have hf11 := Fz_mo (m := 133) hf9 (by decide)
  refine ev_putR dX0_init_53 ff_X0_29 rfl (Sp_get sh_116 (by decide)) (by decide) (by decide) (by decide) ?_
  have hr12 := Fr_up (m := 133) (a := 116) (k := 12) (b := 132) hr11 (by decide) (by decide)
  exact ev_vret rfl dX0_init_56 h
theorem fr_X0_116 {rf : Rf} (h : Fr 117 rf) : Fr 133 (upr (upr (upr (upr (urow (upr (urow (upr rf 116 7 117) 118 4) 116 8 118) 123 6) 116 9 123) 116 10 130) 116 11 131) 116 12 132) := (Fr_up (m := 133) (Fr_up (m := 133) (Fr_up (m := 133) (Fr_up (m := 133) (Fr_ur (m := 133) (Fr_up (m := 133) (Fr_ur (m := 133) (Fr_up (m := 133) (Fr_mo (m := 133) h (by decide)) (Nat.le_refl _) (by decide)) (Nat.le_refl _) (by decide)) (Nat.le_refl _) (by decide)) (Nat.le_refl _) (by decide)) (Nat.le_refl _) (by decide)) (Nat.le_refl _) (by decide)) (Nat.le_refl _) (by decide)) (Nat.le_refl _) (by decide))
theorem fz_X0_116 {f : Mm} (h : Fz 117 f) : Fz 133 f := (Fz_mo (m := 133) h (by decide))
set_option maxHeartbeats 4000000 in
set_option maxRecDepth 100000 in
theorem ct_X0_133 {G : GT} {l : Launch} {Q : Option AV → Mem → Prop} {rf : Rf} {f : Mm} (hr : Fr 134 rf) (hf : Fz 134 f) (h : Q none (Sp 150, (upr (upr (upr (upr (urow (upr (urow (upr rf 133 7 134) 135 4) 133 8 135) 140 6) 133 9 140) 133 10 147) 133 11 148) 133 12 149), f)) : Ret G l MX0_init 1 16 144 [vR 133] (Sp 134, rf, f) Q := by
  refine ret_of (L := [some (vR 133)]) (by decide) rfl (Nat.le_of_ble_eq_true rfl) ?_
  refine ev_aload_n (i := 0) dX0_init_0 rfl rfl ?_
  refine ev_oinit dX0_init_1 ml_X0_3 oi_im oi_co (Nat.le_of_ble_eq_true rfl) (Nat.le_of_ble_eq_true rfl) ?_
  refine ev_aload_n (i := 0) dX0_init_4 rfl rfl ?_
  refine ev_iconst dX0_init_5 (r32c rfl) ?_
  refine ez_newa (n := 134) (k := 0) (N := 2) (ty := .int) (by decide) (Or.inl ⟨rfl, rfl⟩) dX0_init_6 rfl ac_int rfl (by decide) sh_134 hf (Nat.le_of_ble_eq_true rfl) (Nat.le_of_ble_eq_true rfl) ?_
  have hr1 := Fr_mo (m := 135) hr (by decide)
  have hf1 := Fz_mo (m := 135) hf (by decide)
  refine ev_putR dX0_init_8 ff_X0_9 rfl (Sp_get sh_133 (by decide)) (by decide) (by decide) (by decide) ?_
  have hr2 := Fr_up (m := 135) (a := 133) (k := 7) (b := 134) hr1 (by decide) (by decide)
  refine ev_aload_n (i := 0) dX0_init_11 rfl rfl ?_
  refine ev_iconst dX0_init_12 (r32c rfl) ?_
  refine ev_iconst dX0_init_13 (r32c rfl) ?_
  refine ez_mna (n := 135) (kO := 4) (kI := 0) (N := 4) (K := 4) (ty := .int) (by decide) (Or.inl ⟨rfl, rfl, rfl⟩) dX0_init_14 cl_X0_15 ac_int rfl rfl (by decide) (by decide) (by decide +kernel) hf1 hr2 (Nat.le_of_ble_eq_true rfl) (Nat.le_of_ble_eq_true rfl) ?_
  have hr3 := Fr_ur (m := 140) (o := 135) (N := 4) hr2 (by decide) (by decide)
  have hf3 := Fz_mo (m := 140) hf1 (by decide)
  refine ev_putR dX0_init_18 ff_X0_17 rfl (Sp_get sh_133 (by decide)) (by decide) (by decide) (by decide) ?_
  have hr4 := Fr_up (m := 140) (a := 133) (k := 8) (b := 135) hr3 (by decide) (by decide)
  refine ev_aload_n (i := 0) dX0_init_21 rfl rfl ?_
  refine ev_bipush (v := 6) dX0_init_22 (r32c rfl) (by decide) ?_
  refine ev_iconst dX0_init_24 (r32c rfl) ?_
  refine ez_mna (n := 140) (kO := 4) (kI := 0) (N := 6) (K := 5) (ty := .int) (by decide) (Or.inl ⟨rfl, rfl, rfl⟩) dX0_init_25 cl_X0_15 ac_int rfl rfl (by decide) (by decide) (by decide +kernel) hf3 hr4 (Nat.le_of_ble_eq_true rfl) (Nat.le_of_ble_eq_true rfl) ?_
  have hr5 := Fr_ur (m := 147) (o := 140) (N := 6) hr4 (by decide) (by decide)
  have hf5 := Fz_mo (m := 147) hf3 (by decide)
  refine ev_putR dX0_init_29 ff_X0_20 rfl (Sp_get sh_133 (by decide)) (by decide) (by decide) (by decide) ?_
  have hr6 := Fr_up (m := 147) (a := 133) (k := 9) (b := 140) hr5 (by decide) (by decide)
  refine ev_aload_n (i := 0) dX0_init_32 rfl rfl ?_
  refine ev_bipush (v := 6) dX0_init_33 (r32c rfl) (by decide) ?_
  refine ez_newa (n := 147) (k := 0) (N := 6) (ty := .int) (by decide) (Or.inl ⟨rfl, rfl⟩) dX0_init_35 rfl ac_int rfl (by decide) sh_147 hf5 (Nat.le_of_ble_eq_true rfl) (Nat.le_of_ble_eq_true rfl) ?_
  have hr7 := Fr_mo (m := 148) hr6 (by decide)
  have hf7 := Fz_mo (m := 148) hf5 (by decide)
  refine ev_putR dX0_init_37 ff_X0_23 rfl (Sp_get sh_133 (by decide)) (by decide) (by decide) (by decide) ?_
  have hr8 := Fr_up (m := 148) (a := 133) (k := 10) (b := 147) hr7 (by decide) (by decide)
  refine ev_aload_n (i := 0) dX0_init_40 rfl rfl ?_
  refine ev_bipush (v := 40) dX0_init_41 (r32c rfl) (by decide) ?_
  refine ez_newa (n := 148) (k := 0) (N := 40) (ty := .int) (by decide) (Or.inl ⟨rfl, rfl⟩) dX0_init_43 rfl ac_int rfl (by decide) sh_148 hf7 (Nat.le_of_ble_eq_true rfl) (Nat.le_of_ble_eq_true rfl) ?_
  have hr9 := Fr_mo (m := 149) hr8 (by decide)
  have hf9 := Fz_mo (m := 149) hf7 (by decide)
  refine ev_putR dX0_init_45 ff_X0_26 rfl (Sp_get sh_133 (by decide)) (by decide) (by decide) (by decide) ?_
  have hr10 := Fr_up (m := 149) (a := 133) (k := 11) (b := 148) hr9 (by decide) (by decide)
  refine ev_aload_n (i := 0) dX0_init_48 rfl rfl ?_
  refine ev_bipush (v := 40) dX0_init_49 (r32c rfl) (by decide) ?_
  refine ez_newa (n := 149) (k := 0) (N := 40) (ty := .int) (by decide) (Or.inl ⟨rfl, rfl⟩) dX0_init_51 rfl ac_int rfl (by decide) sh_149 hf9 (Nat.le_of_ble_eq_true rfl) (Nat.le_of_ble_eq_true rfl) ?_
  have hr11 := Fr_mo (m := 150) hr10 (by decide)
  have hf11 := Fz_mo (m := 150) hf9 (by decide)
  refine ev_putR dX0_init_53 ff_X0_29 rfl (Sp_get sh_133 (by decide)) (by decide) (by decide) (by decide) ?_
  have hr12 := Fr_up (m := 150) (a := 133) (k := 12) (b := 149) hr11 (by decide) (by decide)
  exact ev_vret rfl dX0_init_56 h
theorem fr_X0_133 {rf : Rf} (h : Fr 134 rf) : Fr 150 (upr (upr (upr (upr (urow (upr (urow (upr rf 133 7 134) 135 4) 133 8 135) 140 6) 133 9 140) 133 10 147) 133 11 148) 133 12 149) := (Fr_up (m := 150) (Fr_up (m := 150) (Fr_up (m := 150) (Fr_up (m := 150) (Fr_ur (m := 150) (Fr_up (m := 150) (Fr_ur (m := 150) (Fr_up (m := 150) (Fr_mo (m := 150) h (by decide)) (Nat.le_refl _) (by decide)) (Nat.le_refl _) (by decide)) (Nat.le_refl _) (by decide)) (Nat.le_refl _) (by decide)) (Nat.le_refl _) (by decide)) (Nat.le_refl _) (by decide)) (Nat.le_refl _) (by decide)) (Nat.le_refl _) (by decide))
theorem fz_X0_133 {f : Mm} (h : Fz 134 f) : Fz 150 f := (Fz_mo (m := 150) h (by decide))
theorem dX10_init_144 : decode cX10_init 144 = .ok (.return_, 1) := by decide +kernel
set_option maxHeartbeats 4000000 in
set_option maxRecDepth 100000 in
theorem ct_X10_0 {G : GT} {l : Launch} {Q : Option AV → Mem → Prop} {rf : Rf} {f : Mm} (hr : Fr 1 rf) (hf : Fz 1 f) (h : Q none (Sp 150, (upr (upr (upr (upr (upr (urow (upr (urow (upr (upr (upr (upr (upr (upr (urow (upr (urow (upr (upr (upr (upr (upr (upr (urow (upr (urow (upr (upr (upr (urow (upr (upr (urow (upr (upr (upr (upr (upr (upr (upr (upr (upr (upr (upr (upr (upr (upr (upr (upr (upr (urow (upr (upr (upr (upr (upr (upr (urow (upr (upr (upr (upr (upr (upr (upr (urow (upr (urow (upr (upr (upr (upr (upr (upr (urow (upr (urow (upr (upr (upr (upr rf 2 0 3) 1 2 2) 0 0 1) 4 7 5) 6 4) 4 8 6) 11 6) 4 9 11) 4 10 18) 4 11 19) 4 12 20) 0 1 4) 21 7 22) 23 4) 21 8 23) 28 6) 21 9 28) 21 10 35) 21 11 36) 21 12 37) 0 2 21) 0 3 38) 0 4 39) 41 4) 40 0 41) 40 1 46) 40 2 47) 0 5 40) 48 0 49) 48 1 50) 51 2) 48 6 51) 48 7 54) 48 8 55) 48 9 56) 0 6 48) 57 3 58) 57 4 59) 57 5 60) 57 6 61) 57 7 62) 57 8 63) 57 9 64) 57 10 65) 57 11 66) 0 7 57) 67 2 68) 0 8 67) 70 24) 69 3 70) 0 9 69) 96 2) 95 2 96) 0 10 95) 99 7 100) 101 4) 99 8 101) 106 6) 99 9 106) 99 10 113) 99 11 114) 99 12 115) 38 0 99) 116 7 117) 118 4) 116 8 118) 123 6) 116 9 123) 116 10 130) 116 11 131) 116 12 132) 38 1 116) 133 7 134) 135 4) 133 8 135) 140 6) 133 9 140) 133 10 147) 133 11 148) 133 12 149) 38 2 133), (up (up (up (up (up f 1 1 (-1)) 46 0 (-1)) 46 1 (-1)) 46 2 (-1)) 46 3 (-1)))) : Ret G l MX10_init 3 149 2502 [vR 0] (Sp 1, rf, f) Q := by
  refine ret_of (L := [some (vR 0), none]) (by decide) rfl (Nat.le_of_ble_eq_true rfl) ?_
  refine ev_aload_n (i := 0) dX10_init_0 rfl rfl ?_
  refine ev_oinit dX10_init_1 ml_X10_1 oi_im oi_co (Nat.le_of_ble_eq_true rfl) (Nat.le_of_ble_eq_true rfl) ?_
  refine ev_aload_n (i := 0) dX10_init_4 rfl rfl ?_
  refine ez_new (n := 1) (by decide) dX10_init_5 cl_X10_7 ist_X4 in_X4 rfl kok_4 okt_4 sh_1 hf hr (Nat.le_of_ble_eq_true rfl) (Nat.le_of_ble_eq_true rfl) ?_
  have hr1 := Fr_mo (m := 2) hr (by decide)
  have hf1 := Fz_mo (m := 2) hf (by decide)
  refine ev_dupR dX10_init_8 ?_
  refine ev_callIN (S := [vR 1, vR 0]) (mc := 2) (ms := 802) (Q' := fun r μ => r = none ∧ μ = (Sp 4, (upr (upr rf 2 0 3) 1 2 2), (up f 1 1 (-1)))) dX10_init_9 (ct_X4_1 hr1 hf1 ⟨rfl, rfl⟩) rfl rfl coX4_init nw_X10_9 im_X4_init (RRc (by decide) (by decide)) (Nat.le_of_ble_eq_true rfl) ⟨(Nat.le_of_ble_eq_true rfl), (Nat.le_of_ble_eq_true rfl)⟩ ?_
  rintro r μ ⟨rfl, rfl⟩
  have hr2 : Fr 4 (upr (upr rf 2 0 3) 1 2 2) := fr_X4_1 hr1
  have hf2 : Fz 4 (up f 1 1 (-1)) := fz_X4_1 hf1
  refine ev_putR dX10_init_12 ff_X10_10 rfl (Sp_get sh_0 (by decide)) (by decide) (by decide) (by decide) ?_
  have hr3 := Fr_up (m := 4) (a := 0) (k := 0) (b := 1) hr2 (by decide) (by decide)
  refine ev_aload_n (i := 0) dX10_init_15 rfl rfl ?_
  refine ez_new (n := 4) (by decide) dX10_init_16 cl_X10_16 ist_X0 in_X0 rfl kok_0 okt_0 sh_4 hf2 hr3 (Nat.le_of_ble_eq_true rfl) (Nat.le_of_ble_eq_true rfl) ?_
  have hr4 := Fr_mo (m := 5) hr3 (by decide)
  have hf4 := Fz_mo (m := 5) hf2 (by decide)
  refine ev_dupR dX10_init_19 ?_
  refine ev_callIN (S := [vR 4, vR 0]) (mc := 16) (ms := 144) (Q' := fun r μ => r = none ∧ μ = (Sp 21, (upr (upr (upr (upr (urow (upr (urow (upr (upr (upr (upr rf 2 0 3) 1 2 2) 0 0 1) 4 7 5) 6 4) 4 8 6) 11 6) 4 9 11) 4 10 18) 4 11 19) 4 12 20), (up f 1 1 (-1)))) dX10_init_20 (ct_X0_4 hr4 hf4 ⟨rfl, rfl⟩) rfl rfl coX0_init nw_X10_18 im_X0_init (RRc (by decide) (by decide)) (Nat.le_of_ble_eq_true rfl) ⟨(Nat.le_of_ble_eq_true rfl), (Nat.le_of_ble_eq_true rfl)⟩ ?_
  rintro r μ ⟨rfl, rfl⟩
  have hr5 : Fr 21 (upr (upr (upr (upr (urow (upr (urow (upr (upr (upr (upr rf 2 0 3) 1 2 2) 0 0 1) 4 7 5) 6 4) 4 8 6) 11 6) 4 9 11) 4 10 18) 4 11 19) 4 12 20) := fr_X0_4 hr4
  have hf5 : Fz 21 (up f 1 1 (-1)) := fz_X0_4 hf4
  refine ev_putR dX10_init_23 ff_X10_19 rfl (Sp_get sh_0 (by decide)) (by decide) (by decide) (by decide) ?_
  have hr6 := Fr_up (m := 21) (a := 0) (k := 1) (b := 4) hr5 (by decide) (by decide)
  refine ev_aload_n (i := 0) dX10_init_26 rfl rfl ?_
  refine ez_new (n := 21) (by decide) dX10_init_27 cl_X10_16 ist_X0 in_X0 rfl kok_0 okt_0 sh_21 hf5 hr6 (Nat.le_of_ble_eq_true rfl) (Nat.le_of_ble_eq_true rfl) ?_
  have hr7 := Fr_mo (m := 22) hr6 (by decide)
  have hf7 := Fz_mo (m := 22) hf5 (by decide)
  refine ev_dupR dX10_init_30 ?_
  refine ev_callIN (S := [vR 21, vR 0]) (mc := 16) (ms := 144) (Q' := fun r μ => r = none ∧ μ = (Sp 38, (upr (upr (upr (upr (urow (upr (urow (upr (upr (upr (upr (upr (upr (urow (upr (urow (upr (upr (upr (upr rf 2 0 3) 1 2 2) 0 0 1) 4 7 5) 6 4) 4 8 6) 11 6) 4 9 11) 4 10 18) 4 11 19) 4 12 20) 0 1 4) 21 7 22) 23 4) 21 8 23) 28 6) 21 9 28) 21 10 35) 21 11 36) 21 12 37), (up f 1 1 (-1)))) dX10_init_31 (ct_X0_21 hr7 hf7 ⟨rfl, rfl⟩) rfl rfl coX0_init nw_X10_18 im_X0_init (RRc (by decide) (by decide)) (Nat.le_of_ble_eq_true rfl) ⟨(Nat.le_of_ble_eq_true rfl), (Nat.le_of_ble_eq_true rfl)⟩ ?_
  rintro r μ ⟨rfl, rfl⟩
  have hr8 : Fr 38 (upr (upr (upr (upr (urow (upr (urow (upr (upr (upr (upr (upr (upr (urow (upr (urow (upr (upr (upr (upr rf 2 0 3) 1 2 2) 0 0 1) 4 7 5) 6 4) 4 8 6) 11 6) 4 9 11) 4 10 18) 4 11 19) 4 12 20) 0 1 4) 21 7 22) 23 4) 21 8 23) 28 6) 21 9 28) 21 10 35) 21 11 36) 21 12 37) := fr_X0_21 hr7
  have hf8 : Fz 38 (up f 1 1 (-1)) := fz_X0_21 hf7
  refine ev_putR dX10_init_34 ff_X10_23 rfl (Sp_get sh_0 (by decide)) (by decide) (by decide) (by decide) ?_
  have hr9 := Fr_up (m := 38) (a := 0) (k := 2) (b := 21) hr8 (by decide) (by decide)
  refine ev_aload_n (i := 0) dX10_init_37 rfl rfl ?_
  refine ev_iconst dX10_init_38 (r32c rfl) ?_
  refine ez_anew (n := 38) (N := 3) (by decide) dX10_init_39 cl_X10_16 rfl (by decide) sh_38 hf8 hr9 (Nat.le_of_ble_eq_true rfl) (Nat.le_of_ble_eq_true rfl) ?_
  have hr10 := Fr_mo (m := 39) hr9 (by decide)
  have hf10 := Fz_mo (m := 39) hf8 (by decide)
  refine ev_putR dX10_init_42 ff_X10_26 rfl (Sp_get sh_0 (by decide)) (by decide) (by decide) (by decide) ?_
  have hr11 := Fr_up (m := 39) (a := 0) (k := 3) (b := 38) hr10 (by decide) (by decide)
  refine ev_aload_n (i := 0) dX10_init_45 rfl rfl ?_
  refine ev_iconst dX10_init_46 (r32c rfl) ?_
  refine ez_newa (n := 39) (k := 2) (N := 3) (ty := .boolean) (by decide) (Or.inr (Or.inr (Or.inl ⟨rfl, rfl⟩))) dX10_init_47 rfl ac_boolean rfl (by decide) sh_39 hf10 (Nat.le_of_ble_eq_true rfl) (Nat.le_of_ble_eq_true rfl) ?_
  have hr12 := Fr_mo (m := 40) hr11 (by decide)
  have hf12 := Fz_mo (m := 40) hf10 (by decide)
  refine ev_putR dX10_init_49 ff_X10_30 rfl (Sp_get sh_0 (by decide)) (by decide) (by decide) (by decide) ?_
  have hr13 := Fr_up (m := 40) (a := 0) (k := 4) (b := 39) hr12 (by decide) (by decide)
  refine ev_aload_n (i := 0) dX10_init_52 rfl rfl ?_
  refine ez_new (n := 40) (by decide) dX10_init_53 cl_X10_34 ist_X6 in_X6 rfl kok_6 okt_6 sh_40 hf12 hr13 (Nat.le_of_ble_eq_true rfl) (Nat.le_of_ble_eq_true rfl) ?_
  have hr14 := Fr_mo (m := 41) hr13 (by decide)
  have hf14 := Fz_mo (m := 41) hf12 (by decide)
  refine ev_dupR dX10_init_56 ?_
  refine ev_callI (S := [vR 40, vR 0]) (mc := 7) (ms := 252) (Q' := fun r μ => r = none ∧ μ = (Sp 48, (upr (upr (upr (urow (upr (upr (upr (upr (upr (upr (upr (urow (upr (urow (upr (upr (upr (upr (upr (upr (urow (upr (urow (upr (upr (upr (upr rf 2 0 3) 1 2 2) 0 0 1) 4 7 5) 6 4) 4 8 6) 11 6) 4 9 11) 4 10 18) 4 11 19) 4 12 20) 0 1 4) 21 7 22) 23 4) 21 8 23) 28 6) 21 9 28) 21 10 35) 21 11 36) 21 12 37) 0 2 21) 0 3 38) 0 4 39) 41 4) 40 0 41) 40 1 46) 40 2 47), (up (up (up (up (up f 1 1 (-1)) 46 0 (-1)) 46 1 (-1)) 46 2 (-1)) 46 3 (-1)))) dX10_init_57 (ct_X6_40 hr14 hf14 ⟨rfl, rfl⟩) rfl rfl coX6_init ml_X10_36 im_X6_init (RRc (by decide) (by decide)) (Nat.le_of_ble_eq_true rfl) ⟨(Nat.le_of_ble_eq_true rfl), (Nat.le_of_ble_eq_true rfl)⟩ ?_
  rintro r μ ⟨rfl, rfl⟩
  have hr15 : Fr 48 (upr (upr (upr (urow (upr (upr (upr (upr (upr (upr (upr (urow (upr (urow (upr (upr (upr (upr (upr (upr (urow (upr (urow (upr (upr (upr (upr rf 2 0 3) 1 2 2) 0 0 1) 4 7 5) 6 4) 4 8 6) 11 6) 4 9 11) 4 10 18) 4 11 19) 4 12 20) 0 1 4) 21 7 22) 23 4) 21 8 23) 28 6) 21 9 28) 21 10 35) 21 11 36) 21 12 37) 0 2 21) 0 3 38) 0 4 39) 41 4) 40 0 41) 40 1 46) 40 2 47) := fr_X6_40 hr14
  have hf15 : Fz 48 (up (up (up (up (up f 1 1 (-1)) 46 0 (-1)) 46 1 (-1)) 46 2 (-1)) 46 3 (-1)) := fz_X6_40 hf14
  refine ev_putR dX10_init_60 ff_X10_37 rfl (Sp_get sh_0 (by decide)) (by decide) (by decide) (by decide) ?_
  have hr16 := Fr_up (m := 48) (a := 0) (k := 5) (b := 40) hr15 (by decide) (by decide)
  refine ev_aload_n (i := 0) dX10_init_63 rfl rfl ?_
  refine ez_new (n := 48) (by decide) dX10_init_64 cl_X10_41 ist_X1 in_X1 rfl kok_1 okt_1 sh_48 hf15 hr16 (Nat.le_of_ble_eq_true rfl) (Nat.le_of_ble_eq_true rfl) ?_
  have hr17 := Fr_mo (m := 49) hr16 (by decide)
  have hf17 := Fz_mo (m := 49) hf15 (by decide)
  refine ev_dupR dX10_init_67 ?_
  refine ev_callIN (S := [vR 48, vR 0]) (mc := 8) (ms := 46) (Q' := fun r μ => r = none ∧ μ = (Sp 57, (upr (upr (upr (upr (urow (upr (upr (upr (upr (upr (upr (urow (upr (upr (upr (upr (upr (upr (upr (urow (upr (urow (upr (upr (upr (upr (upr (upr (urow (upr (urow (upr (upr (upr (upr rf 2 0 3) 1 2 2) 0 0 1) 4 7 5) 6 4) 4 8 6) 11 6) 4 9 11) 4 10 18) 4 11 19) 4 12 20) 0 1 4) 21 7 22) 23 4) 21 8 23) 28 6) 21 9 28) 21 10 35) 21 11 36) 21 12 37) 0 2 21) 0 3 38) 0 4 39) 41 4) 40 0 41) 40 1 46) 40 2 47) 0 5 40) 48 0 49) 48 1 50) 51 2) 48 6 51) 48 7 54) 48 8 55) 48 9 56), (up (up (up (up (up f 1 1 (-1)) 46 0 (-1)) 46 1 (-1)) 46 2 (-1)) 46 3 (-1)))) dX10_init_68 (ct_X1_48 hr17 hf17 ⟨rfl, rfl⟩) rfl rfl coX1_init nw_X10_43 im_X1_init (RRc (by decide) (by decide)) (Nat.le_of_ble_eq_true rfl) ⟨(Nat.le_of_ble_eq_true rfl), (Nat.le_of_ble_eq_true rfl)⟩ ?_
  rintro r μ ⟨rfl, rfl⟩
  have hr18 : Fr 57 (upr (upr (upr (upr (urow (upr (upr (upr (upr (upr (upr (urow (upr (upr (upr (upr (upr (upr (upr (urow (upr (urow (upr (upr (upr (upr (upr (upr (urow (upr (urow (upr (upr (upr (upr rf 2 0 3) 1 2 2) 0 0 1) 4 7 5) 6 4) 4 8 6) 11 6) 4 9 11) 4 10 18) 4 11 19) 4 12 20) 0 1 4) 21 7 22) 23 4) 21 8 23) 28 6) 21 9 28) 21 10 35) 21 11 36) 21 12 37) 0 2 21) 0 3 38) 0 4 39) 41 4) 40 0 41) 40 1 46) 40 2 47) 0 5 40) 48 0 49) 48 1 50) 51 2) 48 6 51) 48 7 54) 48 8 55) 48 9 56) := fr_X1_48 hr17
  have hf18 : Fz 57 (up (up (up (up (up f 1 1 (-1)) 46 0 (-1)) 46 1 (-1)) 46 2 (-1)) 46 3 (-1)) := fz_X1_48 hf17
  refine ev_putR dX10_init_71 ff_X10_44 rfl (Sp_get sh_0 (by decide)) (by decide) (by decide) (by decide) ?_
  have hr19 := Fr_up (m := 57) (a := 0) (k := 6) (b := 48) hr18 (by decide) (by decide)
  refine ev_aload_n (i := 0) dX10_init_74 rfl rfl ?_
  refine ez_new (n := 57) (by decide) dX10_init_75 cl_X10_48 ist_X3 in_X3 rfl kok_3 okt_3 sh_57 hf18 hr19 (Nat.le_of_ble_eq_true rfl) (Nat.le_of_ble_eq_true rfl) ?_
  have hr20 := Fr_mo (m := 58) hr19 (by decide)
  have hf20 := Fz_mo (m := 58) hf18 (by decide)
  refine ev_dupR dX10_init_78 ?_
  refine ev_callIN (S := [vR 57, vR 0]) (mc := 9) (ms := 343) (Q' := fun r μ => r = none ∧ μ = (Sp 67, (upr (upr (upr (upr (upr (upr (upr (upr (upr (upr (upr (upr (upr (upr (urow (upr (upr (upr (upr (upr (upr (urow (upr (upr (upr (upr (upr (upr (upr (urow (upr (urow (upr (upr (upr (upr (upr (upr (urow (upr (urow (upr (upr (upr (upr rf 2 0 3) 1 2 2) 0 0 1) 4 7 5) 6 4) 4 8 6) 11 6) 4 9 11) 4 10 18) 4 11 19) 4 12 20) 0 1 4) 21 7 22) 23 4) 21 8 23) 28 6) 21 9 28) 21 10 35) 21 11 36) 21 12 37) 0 2 21) 0 3 38) 0 4 39) 41 4) 40 0 41) 40 1 46) 40 2 47) 0 5 40) 48 0 49) 48 1 50) 51 2) 48 6 51) 48 7 54) 48 8 55) 48 9 56) 0 6 48) 57 3 58) 57 4 59) 57 5 60) 57 6 61) 57 7 62) 57 8 63) 57 9 64) 57 10 65) 57 11 66), (up (up (up (up (up f 1 1 (-1)) 46 0 (-1)) 46 1 (-1)) 46 2 (-1)) 46 3 (-1)))) dX10_init_79 (ct_X3_57 hr20 hf20 ⟨rfl, rfl⟩) rfl rfl coX3_init nw_X10_50 im_X3_init (RRc (by decide) (by decide)) (Nat.le_of_ble_eq_true rfl) ⟨(Nat.le_of_ble_eq_true rfl), (Nat.le_of_ble_eq_true rfl)⟩ ?_
  rintro r μ ⟨rfl, rfl⟩
  have hr21 : Fr 67 (upr (upr (upr (upr (upr (upr (upr (upr (upr (upr (upr (upr (upr (upr (urow (upr (upr (upr (upr (upr (upr (urow (upr (upr (upr (upr (upr (upr (upr (urow (upr (urow (upr (upr (upr (upr (upr (upr (urow (upr (urow (upr (upr (upr (upr rf 2 0 3) 1 2 2) 0 0 1) 4 7 5) 6 4) 4 8 6) 11 6) 4 9 11) 4 10 18) 4 11 19) 4 12 20) 0 1 4) 21 7 22) 23 4) 21 8 23) 28 6) 21 9 28) 21 10 35) 21 11 36) 21 12 37) 0 2 21) 0 3 38) 0 4 39) 41 4) 40 0 41) 40 1 46) 40 2 47) 0 5 40) 48 0 49) 48 1 50) 51 2) 48 6 51) 48 7 54) 48 8 55) 48 9 56) 0 6 48) 57 3 58) 57 4 59) 57 5 60) 57 6 61) 57 7 62) 57 8 63) 57 9 64) 57 10 65) 57 11 66) := fr_X3_57 hr20
  have hf21 : Fz 67 (up (up (up (up (up f 1 1 (-1)) 46 0 (-1)) 46 1 (-1)) 46 2 (-1)) 46 3 (-1)) := fz_X3_57 hf20
  refine ev_putR dX10_init_82 ff_X10_51 rfl (Sp_get sh_0 (by decide)) (by decide) (by decide) (by decide) ?_
  have hr22 := Fr_up (m := 67) (a := 0) (k := 7) (b := 57) hr21 (by decide) (by decide)
  refine ev_aload_n (i := 0) dX10_init_85 rfl rfl ?_
  refine ez_new (n := 67) (by decide) dX10_init_86 cl_X10_55 ist_X2 in_X2 rfl kok_2 okt_2 sh_67 hf21 hr22 (Nat.le_of_ble_eq_true rfl) (Nat.le_of_ble_eq_true rfl) ?_
  have hr23 := Fr_mo (m := 68) hr22 (by decide)
  have hf23 := Fz_mo (m := 68) hf21 (by decide)
  refine ev_dupR dX10_init_89 ?_
  refine ev_callIN (S := [vR 67, vR 0]) (mc := 1) (ms := 6) (Q' := fun r μ => r = none ∧ μ = (Sp 69, (upr (upr (upr (upr (upr (upr (upr (upr (upr (upr (upr (upr (upr (upr (upr (upr (urow (upr (upr (upr (upr (upr (upr (urow (upr (upr (upr (upr (upr (upr (upr (urow (upr (urow (upr (upr (upr (upr (upr (upr (urow (upr (urow (upr (upr (upr (upr rf 2 0 3) 1 2 2) 0 0 1) 4 7 5) 6 4) 4 8 6) 11 6) 4 9 11) 4 10 18) 4 11 19) 4 12 20) 0 1 4) 21 7 22) 23 4) 21 8 23) 28 6) 21 9 28) 21 10 35) 21 11 36) 21 12 37) 0 2 21) 0 3 38) 0 4 39) 41 4) 40 0 41) 40 1 46) 40 2 47) 0 5 40) 48 0 49) 48 1 50) 51 2) 48 6 51) 48 7 54) 48 8 55) 48 9 56) 0 6 48) 57 3 58) 57 4 59) 57 5 60) 57 6 61) 57 7 62) 57 8 63) 57 9 64) 57 10 65) 57 11 66) 0 7 57) 67 2 68), (up (up (up (up (up f 1 1 (-1)) 46 0 (-1)) 46 1 (-1)) 46 2 (-1)) 46 3 (-1)))) dX10_init_90 (ct_X2_67 hr23 hf23 ⟨rfl, rfl⟩) rfl rfl coX2_init nw_X10_57 im_X2_init (RRc (by decide) (by decide)) (Nat.le_of_ble_eq_true rfl) ⟨(Nat.le_of_ble_eq_true rfl), (Nat.le_of_ble_eq_true rfl)⟩ ?_
  rintro r μ ⟨rfl, rfl⟩
  have hr24 : Fr 69 (upr (upr (upr (upr (upr (upr (upr (upr (upr (upr (upr (upr (upr (upr (upr (upr (urow (upr (upr (upr (upr (upr (upr (urow (upr (upr (upr (upr (upr (upr (upr (urow (upr (urow (upr (upr (upr (upr (upr (upr (urow (upr (urow (upr (upr (upr (upr rf 2 0 3) 1 2 2) 0 0 1) 4 7 5) 6 4) 4 8 6) 11 6) 4 9 11) 4 10 18) 4 11 19) 4 12 20) 0 1 4) 21 7 22) 23 4) 21 8 23) 28 6) 21 9 28) 21 10 35) 21 11 36) 21 12 37) 0 2 21) 0 3 38) 0 4 39) 41 4) 40 0 41) 40 1 46) 40 2 47) 0 5 40) 48 0 49) 48 1 50) 51 2) 48 6 51) 48 7 54) 48 8 55) 48 9 56) 0 6 48) 57 3 58) 57 4 59) 57 5 60) 57 6 61) 57 7 62) 57 8 63) 57 9 64) 57 10 65) 57 11 66) 0 7 57) 67 2 68) := fr_X2_67 hr23
  have hf24 : Fz 69 (up (up (up (up (up f 1 1 (-1)) 46 0 (-1)) 46 1 (-1)) 46 2 (-1)) 46 3 (-1)) := fz_X2_67 hf23
  refine ev_putR dX10_init_93 ff_X10_58 rfl (Sp_get sh_0 (by decide)) (by decide) (by decide) (by decide) ?_
  have hr25 := Fr_up (m := 69) (a := 0) (k := 8) (b := 67) hr24 (by decide) (by decide)
  refine ev_aload_n (i := 0) dX10_init_96 rfl rfl ?_
  refine ez_new (n := 69) (by decide) dX10_init_97 cl_X10_62 ist_X5 in_X5 rfl kok_5 okt_5 sh_69 hf24 hr25 (Nat.le_of_ble_eq_true rfl) (Nat.le_of_ble_eq_true rfl) ?_
  have hr26 := Fr_mo (m := 70) hr25 (by decide)
  have hf26 := Fz_mo (m := 70) hf24 (by decide)
  refine ev_dupR dX10_init_100 ?_
  refine ev_callIN (S := [vR 69, vR 0]) (mc := 25) (ms := 168) (Q' := fun r μ => r = none ∧ μ = (Sp 95, (upr (urow (upr (upr (upr (upr (upr (upr (upr (upr (upr (upr (upr (upr (upr (upr (upr (upr (upr (urow (upr (upr (upr (upr (upr (upr (urow (upr (upr (upr (upr (upr (upr (upr (urow (upr (urow (upr (upr (upr (upr (upr (upr (urow (upr (urow (upr (upr (upr (upr rf 2 0 3) 1 2 2) 0 0 1) 4 7 5) 6 4) 4 8 6) 11 6) 4 9 11) 4 10 18) 4 11 19) 4 12 20) 0 1 4) 21 7 22) 23 4) 21 8 23) 28 6) 21 9 28) 21 10 35) 21 11 36) 21 12 37) 0 2 21) 0 3 38) 0 4 39) 41 4) 40 0 41) 40 1 46) 40 2 47) 0 5 40) 48 0 49) 48 1 50) 51 2) 48 6 51) 48 7 54) 48 8 55) 48 9 56) 0 6 48) 57 3 58) 57 4 59) 57 5 60) 57 6 61) 57 7 62) 57 8 63) 57 9 64) 57 10 65) 57 11 66) 0 7 57) 67 2 68) 0 8 67) 70 24) 69 3 70), (up (up (up (up (up f 1 1 (-1)) 46 0 (-1)) 46 1 (-1)) 46 2 (-1)) 46 3 (-1)))) dX10_init_101 (ct_X5_69 hr26 hf26 ⟨rfl, rfl⟩) rfl rfl coX5_init nw_X10_64 im_X5_init (RRc (by decide) (by decide)) (Nat.le_of_ble_eq_true rfl) ⟨(Nat.le_of_ble_eq_true rfl), (Nat.le_of_ble_eq_true rfl)⟩ ?_
  rintro r μ ⟨rfl, rfl⟩
  have hr27 : Fr 95 (upr (urow (upr (upr (upr (upr (upr (upr (upr (upr (upr (upr (upr (upr (upr (upr (upr (upr (upr (urow (upr (upr (upr (upr (upr (upr (urow (upr (upr (upr (upr (upr (upr (upr (urow (upr (urow (upr (upr (upr (upr (upr (upr (urow (upr (urow (upr (upr (upr (upr rf 2 0 3) 1 2 2) 0 0 1) 4 7 5) 6 4) 4 8 6) 11 6) 4 9 11) 4 10 18) 4 11 19) 4 12 20) 0 1 4) 21 7 22) 23 4) 21 8 23) 28 6) 21 9 28) 21 10 35) 21 11 36) 21 12 37) 0 2 21) 0 3 38) 0 4 39) 41 4) 40 0 41) 40 1 46) 40 2 47) 0 5 40) 48 0 49) 48 1 50) 51 2) 48 6 51) 48 7 54) 48 8 55) 48 9 56) 0 6 48) 57 3 58) 57 4 59) 57 5 60) 57 6 61) 57 7 62) 57 8 63) 57 9 64) 57 10 65) 57 11 66) 0 7 57) 67 2 68) 0 8 67) 70 24) 69 3 70) := fr_X5_69 hr26
  have hf27 : Fz 95 (up (up (up (up (up f 1 1 (-1)) 46 0 (-1)) 46 1 (-1)) 46 2 (-1)) 46 3 (-1)) := fz_X5_69 hf26
  refine ev_putR dX10_init_104 ff_X10_65 rfl (Sp_get sh_0 (by decide)) (by decide) (by decide) (by decide) ?_
  have hr28 := Fr_up (m := 95) (a := 0) (k := 9) (b := 69) hr27 (by decide) (by decide)
  refine ev_aload_n (i := 0) dX10_init_107 rfl rfl ?_
  refine ez_new (n := 95) (by decide) dX10_init_108 cl_X10_69 ist_X9 in_X9 rfl kok_9 okt_9 sh_95 hf27 hr28 (Nat.le_of_ble_eq_true rfl) (Nat.le_of_ble_eq_true rfl) ?_
  have hr29 := Fr_mo (m := 96) hr28 (by decide)
  have hf29 := Fz_mo (m := 96) hf27 (by decide)
  refine ev_dupR dX10_init_111 ?_
  refine ev_callIN (S := [vR 95, vR 0]) (mc := 3) (ms := 52) (Q' := fun r μ => r = none ∧ μ = (Sp 99, (upr (urow (upr (upr (urow (upr (upr (upr (upr (upr (upr (upr (upr (upr (upr (upr (upr (upr (upr (upr (upr (upr (urow (upr (upr (upr (upr (upr (upr (urow (upr (upr (upr (upr (upr (upr (upr (urow (upr (urow (upr (upr (upr (upr (upr (upr (urow (upr (urow (upr (upr (upr (upr rf 2 0 3) 1 2 2) 0 0 1) 4 7 5) 6 4) 4 8 6) 11 6) 4 9 11) 4 10 18) 4 11 19) 4 12 20) 0 1 4) 21 7 22) 23 4) 21 8 23) 28 6) 21 9 28) 21 10 35) 21 11 36) 21 12 37) 0 2 21) 0 3 38) 0 4 39) 41 4) 40 0 41) 40 1 46) 40 2 47) 0 5 40) 48 0 49) 48 1 50) 51 2) 48 6 51) 48 7 54) 48 8 55) 48 9 56) 0 6 48) 57 3 58) 57 4 59) 57 5 60) 57 6 61) 57 7 62) 57 8 63) 57 9 64) 57 10 65) 57 11 66) 0 7 57) 67 2 68) 0 8 67) 70 24) 69 3 70) 0 9 69) 96 2) 95 2 96), (up (up (up (up (up f 1 1 (-1)) 46 0 (-1)) 46 1 (-1)) 46 2 (-1)) 46 3 (-1)))) dX10_init_112 (ct_X9_95 hr29 hf29 ⟨rfl, rfl⟩) rfl rfl coX9_init nw_X10_71 im_X9_init (RRc (by decide) (by decide)) (Nat.le_of_ble_eq_true rfl) ⟨(Nat.le_of_ble_eq_true rfl), (Nat.le_of_ble_eq_true rfl)⟩ ?_
  rintro r μ ⟨rfl, rfl⟩
  have hr30 : Fr 99 (upr (urow (upr (upr (urow (upr (upr (upr (upr (upr (upr (upr (upr (upr (upr (upr (upr (upr (upr (upr (upr (upr (urow (upr (upr (upr (upr (upr (upr (urow (upr (upr (upr (upr (upr (upr (upr (urow (upr (urow (upr (upr (upr (upr (upr (upr (urow (upr (urow (upr (upr (upr (upr rf 2 0 3) 1 2 2) 0 0 1) 4 7 5) 6 4) 4 8 6) 11 6) 4 9 11) 4 10 18) 4 11 19) 4 12 20) 0 1 4) 21 7 22) 23 4) 21 8 23) 28 6) 21 9 28) 21 10 35) 21 11 36) 21 12 37) 0 2 21) 0 3 38) 0 4 39) 41 4) 40 0 41) 40 1 46) 40 2 47) 0 5 40) 48 0 49) 48 1 50) 51 2) 48 6 51) 48 7 54) 48 8 55) 48 9 56) 0 6 48) 57 3 58) 57 4 59) 57 5 60) 57 6 61) 57 7 62) 57 8 63) 57 9 64) 57 10 65) 57 11 66) 0 7 57) 67 2 68) 0 8 67) 70 24) 69 3 70) 0 9 69) 96 2) 95 2 96) := fr_X9_95 hr29
  have hf30 : Fz 99 (up (up (up (up (up f 1 1 (-1)) 46 0 (-1)) 46 1 (-1)) 46 2 (-1)) 46 3 (-1)) := fz_X9_95 hf29
  refine ev_putR dX10_init_115 ff_X10_72 rfl (Sp_get sh_0 (by decide)) (by decide) (by decide) (by decide) ?_
  have hr31 := Fr_up (m := 99) (a := 0) (k := 10) (b := 95) hr30 (by decide) (by decide)
  refine ev_iconst dX10_init_118 (r32c rfl) ?_
  refine ev_istore_n (i := 1) (L' := [some (vR 0), some (vI 0)]) dX10_init_119 rfl (by decide) rfl ?_
  refine ev_iload_n (i := 1) dX10_init_120 rfl rfl ?_
  refine ev_iconst dX10_init_121 (r32c rfl) ?_
  refine ev_icmp_ge (tgt := 144) dX10_init_122 (by decide) (fun c => absurd c (by decide)) (fun _ => ?_)
  refine ev_aload_n (i := 0) dX10_init_125 rfl rfl ?_
  refine ev_getR (b := 38) dX10_init_126 fl_X10_26 (Sp_get sh_0 (by decide)) (by decide) (by decide) rfl ?_
  refine ev_iload_n (i := 1) dX10_init_129 rfl rfl ?_
  refine ez_new (n := 99) (by decide) dX10_init_130 cl_X10_16 ist_X0 in_X0 rfl kok_0 okt_0 sh_99 hf30 hr31 (Nat.le_of_ble_eq_true rfl) (Nat.le_of_ble_eq_true rfl) ?_
  have hr32 := Fr_mo (m := 100) hr31 (by decide)
  have hf32 := Fz_mo (m := 100) hf30 (by decide)
  refine ev_dupR dX10_init_133 ?_
  refine ev_callIN (S := [vR 99, vI 0, vR 38]) (mc := 16) (ms := 144) (Q' := fun r μ => r = none ∧ μ = (Sp 116, (upr (upr (upr (upr (urow (upr (urow (upr (upr (upr (urow (upr (upr (urow (upr (upr (upr (upr (upr (upr (upr (upr (upr (upr (upr (upr (upr (upr (upr (upr (upr (urow (upr (upr (upr (upr (upr (upr (urow (upr (upr (upr (upr (upr (upr (upr (urow (upr (urow (upr (upr (upr (upr (upr (upr (urow (upr (urow (upr (upr (upr (upr rf 2 0 3) 1 2 2) 0 0 1) 4 7 5) 6 4) 4 8 6) 11 6) 4 9 11) 4 10 18) 4 11 19) 4 12 20) 0 1 4) 21 7 22) 23 4) 21 8 23) 28 6) 21 9 28) 21 10 35) 21 11 36) 21 12 37) 0 2 21) 0 3 38) 0 4 39) 41 4) 40 0 41) 40 1 46) 40 2 47) 0 5 40) 48 0 49) 48 1 50) 51 2) 48 6 51) 48 7 54) 48 8 55) 48 9 56) 0 6 48) 57 3 58) 57 4 59) 57 5 60) 57 6 61) 57 7 62) 57 8 63) 57 9 64) 57 10 65) 57 11 66) 0 7 57) 67 2 68) 0 8 67) 70 24) 69 3 70) 0 9 69) 96 2) 95 2 96) 0 10 95) 99 7 100) 101 4) 99 8 101) 106 6) 99 9 106) 99 10 113) 99 11 114) 99 12 115), (up (up (up (up (up f 1 1 (-1)) 46 0 (-1)) 46 1 (-1)) 46 2 (-1)) 46 3 (-1)))) dX10_init_134 (ct_X0_99 hr32 hf32 ⟨rfl, rfl⟩) rfl rfl coX0_init nw_X10_18 im_X0_init (RRc (by decide) (by decide)) (Nat.le_of_ble_eq_true rfl) ⟨(Nat.le_of_ble_eq_true rfl), (Nat.le_of_ble_eq_true rfl)⟩ ?_
  rintro r μ ⟨rfl, rfl⟩
  have hr33 : Fr 116 (upr (upr (upr (upr (urow (upr (urow (upr (upr (upr (urow (upr (upr (urow (upr (upr (upr (upr (upr (upr (upr (upr (upr (upr (upr (upr (upr (upr (upr (upr (upr (urow (upr (upr (upr (upr (upr (upr (urow (upr (upr (upr (upr (upr (upr (upr (urow (upr (urow (upr (upr (upr (upr (upr (upr (urow (upr (urow (upr (upr (upr (upr rf 2 0 3) 1 2 2) 0 0 1) 4 7 5) 6 4) 4 8 6) 11 6) 4 9 11) 4 10 18) 4 11 19) 4 12 20) 0 1 4) 21 7 22) 23 4) 21 8 23) 28 6) 21 9 28) 21 10 35) 21 11 36) 21 12 37) 0 2 21) 0 3 38) 0 4 39) 41 4) 40 0 41) 40 1 46) 40 2 47) 0 5 40) 48 0 49) 48 1 50) 51 2) 48 6 51) 48 7 54) 48 8 55) 48 9 56) 0 6 48) 57 3 58) 57 4 59) 57 5 60) 57 6 61) 57 7 62) 57 8 63) 57 9 64) 57 10 65) 57 11 66) 0 7 57) 67 2 68) 0 8 67) 70 24) 69 3 70) 0 9 69) 96 2) 95 2 96) 0 10 95) 99 7 100) 101 4) 99 8 101) 106 6) 99 9 106) 99 10 113) 99 11 114) 99 12 115) := fr_X0_99 hr32
  have hf33 : Fz 116 (up (up (up (up (up f 1 1 (-1)) 46 0 (-1)) 46 1 (-1)) 46 2 (-1)) 46 3 (-1)) := fz_X0_99 hf32
  refine ev_aast dX10_init_137 (Sp_get sh_38 (by decide)) (Sp_get sh_99 (by decide)) (by decide) (by decide) ?_
  show Ev _ _ _ _ _ _ _ _ _ _ (Sp 116, upr (upr (upr (upr (upr (urow (upr (urow (upr (upr (upr (urow (upr (upr (urow (upr (upr (upr (upr (upr (upr (upr (upr (upr (upr (upr (upr (upr (upr (upr (upr (upr (urow (upr (upr (upr (upr (upr (upr (urow (upr (upr (upr (upr (upr (upr (upr (urow (upr (urow (upr (upr (upr (upr (upr (upr (urow (upr (urow (upr (upr (upr (upr rf 2 0 3) 1 2 2) 0 0 1) 4 7 5) 6 4) 4 8 6) 11 6) 4 9 11) 4 10 18) 4 11 19) 4 12 20) 0 1 4) 21 7 22) 23 4) 21 8 23) 28 6) 21 9 28) 21 10 35) 21 11 36) 21 12 37) 0 2 21) 0 3 38) 0 4 39) 41 4) 40 0 41) 40 1 46) 40 2 47) 0 5 40) 48 0 49) 48 1 50) 51 2) 48 6 51) 48 7 54) 48 8 55) 48 9 56) 0 6 48) 57 3 58) 57 4 59) 57 5 60) 57 6 61) 57 7 62) 57 8 63) 57 9 64) 57 10 65) 57 11 66) 0 7 57) 67 2 68) 0 8 67) 70 24) 69 3 70) 0 9 69) 96 2) 95 2 96) 0 10 95) 99 7 100) 101 4) 99 8 101) 106 6) 99 9 106) 99 10 113) 99 11 114) 99 12 115) 38 0 99, (up (up (up (up (up f 1 1 (-1)) 46 0 (-1)) 46 1 (-1)) 46 2 (-1)) 46 3 (-1)))
  have hr34 := Fr_up (m := 116) (a := 38) (k := 0) (b := 99) hr33 (by decide) (by decide)
  refine ev_iinc (L' := [some (vR 0), some (vI 1)]) dX10_init_138 rfl (by decide) (by decide +kernel) ?_
  refine ev_goto (tgt := 120) dX10_init_141 (by decide) ?_
  refine ev_iload_n (i := 1) dX10_init_120 rfl rfl ?_
  refine ev_iconst dX10_init_121 (r32c rfl) ?_
  refine ev_icmp_ge (tgt := 144) dX10_init_122 (by decide) (fun c => absurd c (by decide)) (fun _ => ?_)
  refine ev_aload_n (i := 0) dX10_init_125 rfl rfl ?_
  refine ev_getR (b := 38) dX10_init_126 fl_X10_26 (Sp_get sh_0 (by decide)) (by decide) (by decide) rfl ?_
  refine ev_iload_n (i := 1) dX10_init_129 rfl rfl ?_
  refine ez_new (n := 116) (by decide) dX10_init_130 cl_X10_16 ist_X0 in_X0 rfl kok_0 okt_0 sh_116 hf33 hr34 (Nat.le_of_ble_eq_true rfl) (Nat.le_of_ble_eq_true rfl) ?_
  have hr35 := Fr_mo (m := 117) hr34 (by decide)
  have hf35 := Fz_mo (m := 117) hf33 (by decide)
  refine ev_dupR dX10_init_133 ?_
  refine ev_callIN (S := [vR 116, vI 1, vR 38]) (mc := 16) (ms := 144) (Q' := fun r μ => r = none ∧ μ = (Sp 133, (upr (upr (upr (upr (urow (upr (urow (upr (upr (upr (upr (upr (upr (urow (upr (urow (upr (upr (upr (urow (upr (upr (urow (upr (upr (upr (upr (upr (upr (upr (upr (upr (upr (upr (upr (upr (upr (upr (upr (upr (urow (upr (upr (upr (upr (upr (upr (urow (upr (upr (upr (upr (upr (upr (upr (urow (upr (urow (upr (upr (upr (upr (upr (upr (urow (upr (urow (upr (upr (upr (upr rf 2 0 3) 1 2 2) 0 0 1) 4 7 5) 6 4) 4 8 6) 11 6) 4 9 11) 4 10 18) 4 11 19) 4 12 20) 0 1 4) 21 7 22) 23 4) 21 8 23) 28 6) 21 9 28) 21 10 35) 21 11 36) 21 12 37) 0 2 21) 0 3 38) 0 4 39) 41 4) 40 0 41) 40 1 46) 40 2 47) 0 5 40) 48 0 49) 48 1 50) 51 2) 48 6 51) 48 7 54) 48 8 55) 48 9 56) 0 6 48) 57 3 58) 57 4 59) 57 5 60) 57 6 61) 57 7 62) 57 8 63) 57 9 64) 57 10 65) 57 11 66) 0 7 57) 67 2 68) 0 8 67) 70 24) 69 3 70) 0 9 69) 96 2) 95 2 96) 0 10 95) 99 7 100) 101 4) 99 8 101) 106 6) 99 9 106) 99 10 113) 99 11 114) 99 12 115) 38 0 99) 116 7 117) 118 4) 116 8 118) 123 6) 116 9 123) 116 10 130) 116 11 131) 116 12 132), (up (up (up (up (up f 1 1 (-1)) 46 0 (-1)) 46 1 (-1)) 46 2 (-1)) 46 3 (-1)))) dX10_init_134 (ct_X0_116 hr35 hf35 ⟨rfl, rfl⟩) rfl rfl coX0_init nw_X10_18 im_X0_init (RRc (by decide) (by decide)) (Nat.le_of_ble_eq_true rfl) ⟨(Nat.le_of_ble_eq_true rfl), (Nat.le_of_ble_eq_true rfl)⟩ ?_
  rintro r μ ⟨rfl, rfl⟩
  have hr36 : Fr 133 (upr (upr (upr (upr (urow (upr (urow (upr (upr (upr (upr (upr (upr (urow (upr (urow (upr (upr (upr (urow (upr (upr (urow (upr (upr (upr (upr (upr (upr (upr (upr (upr (upr (upr (upr (upr (upr (upr (upr (upr (urow (upr (upr (upr (upr (upr (upr (urow (upr (upr (upr (upr (upr (upr (upr (urow (upr (urow (upr (upr (upr (upr (upr (upr (urow (upr (urow (upr (upr (upr (upr rf 2 0 3) 1 2 2) 0 0 1) 4 7 5) 6 4) 4 8 6) 11 6) 4 9 11) 4 10 18) 4 11 19) 4 12 20) 0 1 4) 21 7 22) 23 4) 21 8 23) 28 6) 21 9 28) 21 10 35) 21 11 36) 21 12 37) 0 2 21) 0 3 38) 0 4 39) 41 4) 40 0 41) 40 1 46) 40 2 47) 0 5 40) 48 0 49) 48 1 50) 51 2) 48 6 51) 48 7 54) 48 8 55) 48 9 56) 0 6 48) 57 3 58) 57 4 59) 57 5 60) 57 6 61) 57 7 62) 57 8 63) 57 9 64) 57 10 65) 57 11 66) 0 7 57) 67 2 68) 0 8 67) 70 24) 69 3 70) 0 9 69) 96 2) 95 2 96) 0 10 95) 99 7 100) 101 4) 99 8 101) 106 6) 99 9 106) 99 10 113) 99 11 114) 99 12 115) 38 0 99) 116 7 117) 118 4) 116 8 118) 123 6) 116 9 123) 116 10 130) 116 11 131) 116 12 132) := fr_X0_116 hr35
  have hf36 : Fz 133 (up (up (up (up (up f 1 1 (-1)) 46 0 (-1)) 46 1 (-1)) 46 2 (-1)) 46 3 (-1)) := fz_X0_116 hf35
  refine ev_aast dX10_init_137 (Sp_get sh_38 (by decide)) (Sp_get sh_116 (by decide)) (by decide) (by decide) ?_
  show Ev _ _ _ _ _ _ _ _ _ _ (Sp 133, upr (upr (upr (upr (upr (urow (upr (urow (upr (upr (upr (upr (upr (upr (urow (upr (urow (upr (upr (upr (urow (upr (upr (urow (upr (upr (upr (upr (upr (upr (upr (upr (upr (upr (upr (upr (upr (upr (upr (upr (upr (urow (upr (upr (upr (upr (upr (upr (urow (upr (upr (upr (upr (upr (upr (upr (urow (upr (urow (upr (upr (upr (upr (upr (upr (urow (upr (urow (upr (upr (upr (upr rf 2 0 3) 1 2 2) 0 0 1) 4 7 5) 6 4) 4 8 6) 11 6) 4 9 11) 4 10 18) 4 11 19) 4 12 20) 0 1 4) 21 7 22) 23 4) 21 8 23) 28 6) 21 9 28) 21 10 35) 21 11 36) 21 12 37) 0 2 21) 0 3 38) 0 4 39) 41 4) 40 0 41) 40 1 46) 40 2 47) 0 5 40) 48 0 49) 48 1 50) 51 2) 48 6 51) 48 7 54) 48 8 55) 48 9 56) 0 6 48) 57 3 58) 57 4 59) 57 5 60) 57 6 61) 57 7 62) 57 8 63) 57 9 64) 57 10 65) 57 11 66) 0 7 57) 67 2 68) 0 8 67) 70 24) 69 3 70) 0 9 69) 96 2) 95 2 96) 0 10 95) 99 7 100) 101 4) 99 8 101) 106 6) 99 9 106) 99 10 113) 99 11 114) 99 12 115) 38 0 99) 116 7 117) 118 4) 116 8 118) 123 6) 116 9 123) 116 10 130) 116 11 131) 116 12 132) 38 1 116, (up (up (up (up (up f 1 1 (-1)) 46 0 (-1)) 46 1 (-1)) 46 2 (-1)) 46 3 (-1)))
  have hr37 := Fr_up (m := 133) (a := 38) (k := 1) (b := 116) hr36 (by decide) (by decide)
  refine ev_iinc (L' := [some (vR 0), some (vI 2)]) dX10_init_138 rfl (by decide) (by decide +kernel) ?_
  refine ev_goto (tgt := 120) dX10_init_141 (by decide) ?_
  refine ev_iload_n (i := 1) dX10_init_120 rfl rfl ?_
  refine ev_iconst dX10_init_121 (r32c rfl) ?_
  refine ev_icmp_ge (tgt := 144) dX10_init_122 (by decide) (fun c => absurd c (by decide)) (fun _ => ?_)
  refine ev_aload_n (i := 0) dX10_init_125 rfl rfl ?_
  refine ev_getR (b := 38) dX10_init_126 fl_X10_26 (Sp_get sh_0 (by decide)) (by decide) (by decide) rfl ?_
  refine ev_iload_n (i := 1) dX10_init_129 rfl rfl ?_
  refine ez_new (n := 133) (by decide) dX10_init_130 cl_X10_16 ist_X0 in_X0 rfl kok_0 okt_0 sh_133 hf36 hr37 (Nat.le_of_ble_eq_true rfl) (Nat.le_of_ble_eq_true rfl) ?_
  have hr38 := Fr_mo (m := 134) hr37 (by decide)
  have hf38 := Fz_mo (m := 134) hf36 (by decide)
  refine ev_dupR dX10_init_133 ?_
  refine ev_callIN (S := [vR 133, vI 2, vR 38]) (mc := 16) (ms := 144) (Q' := fun r μ => r = none ∧ μ = (Sp 150, (upr (upr (upr (upr (urow (upr (urow (upr (upr (upr (upr (upr (upr (urow (upr (urow (upr (upr (upr (upr (upr (upr (urow (upr (urow (upr (upr (upr (urow (upr (upr (urow (upr (upr (upr (upr (upr (upr (upr (upr (upr (upr (upr (upr (upr (upr (upr (upr (upr (urow (upr (upr (upr (upr (upr (upr (urow (upr (upr (upr (upr (upr (upr (upr (urow (upr (urow (upr (upr (upr (upr (upr (upr (urow (upr (urow (upr (upr (upr (upr rf 2 0 3) 1 2 2) 0 0 1) 4 7 5) 6 4) 4 8 6) 11 6) 4 9 11) 4 10 18) 4 11 19) 4 12 20) 0 1 4) 21 7 22) 23 4) 21 8 23) 28 6) 21 9 28) 21 10 35) 21 11 36) 21 12 37) 0 2 21) 0 3 38) 0 4 39) 41 4) 40 0 41) 40 1 46) 40 2 47) 0 5 40) 48 0 49) 48 1 50) 51 2) 48 6 51) 48 7 54) 48 8 55) 48 9 56) 0 6 48) 57 3 58) 57 4 59) 57 5 60) 57 6 61) 57 7 62) 57 8 63) 57 9 64) 57 10 65) 57 11 66) 0 7 57) 67 2 68) 0 8 67) 70 24) 69 3 70) 0 9 69) 96 2) 95 2 96) 0 10 95) 99 7 100) 101 4) 99 8 101) 106 6) 99 9 106) 99 10 113) 99 11 114) 99 12 115) 38 0 99) 116 7 117) 118 4) 116 8 118) 123 6) 116 9 123) 116 10 130) 116 11 131) 116 12 132) 38 1 116) 133 7 134) 135 4) 133 8 135) 140 6) 133 9 140) 133 10 147) 133 11 148) 133 12 149), (up (up (up (up (up f 1 1 (-1)) 46 0 (-1)) 46 1 (-1)) 46 2 (-1)) 46 3 (-1)))) dX10_init_134 (ct_X0_133 hr38 hf38 ⟨rfl, rfl⟩) rfl rfl coX0_init nw_X10_18 im_X0_init (RRc (by decide) (by decide)) (Nat.le_of_ble_eq_true rfl) ⟨(Nat.le_of_ble_eq_true rfl), (Nat.le_of_ble_eq_true rfl)⟩ ?_
  rintro r μ ⟨rfl, rfl⟩
  have hr39 : Fr 150 (upr (upr (upr (upr (urow (upr (urow (upr (upr (upr (upr (upr (upr (urow (upr (urow (upr (upr (upr (upr (upr (upr (urow (upr (urow (upr (upr (upr (urow (upr (upr (urow (upr (upr (upr (upr (upr (upr (upr (upr (upr (upr (upr (upr (upr (upr (upr (upr (upr (urow (upr (upr (upr (upr (upr (upr (urow (upr (upr (upr (upr (upr (upr (upr (urow (upr (urow (upr (upr (upr (upr (upr (upr (urow (upr (urow (upr (upr (upr (upr rf 2 0 3) 1 2 2) 0 0 1) 4 7 5) 6 4) 4 8 6) 11 6) 4 9 11) 4 10 18) 4 11 19) 4 12 20) 0 1 4) 21 7 22) 23 4) 21 8 23) 28 6) 21 9 28) 21 10 35) 21 11 36) 21 12 37) 0 2 21) 0 3 38) 0 4 39) 41 4) 40 0 41) 40 1 46) 40 2 47) 0 5 40) 48 0 49) 48 1 50) 51 2) 48 6 51) 48 7 54) 48 8 55) 48 9 56) 0 6 48) 57 3 58) 57 4 59) 57 5 60) 57 6 61) 57 7 62) 57 8 63) 57 9 64) 57 10 65) 57 11 66) 0 7 57) 67 2 68) 0 8 67) 70 24) 69 3 70) 0 9 69) 96 2) 95 2 96) 0 10 95) 99 7 100) 101 4) 99 8 101) 106 6) 99 9 106) 99 10 113) 99 11 114) 99 12 115) 38 0 99) 116 7 117) 118 4) 116 8 118) 123 6) 116 9 123) 116 10 130) 116 11 131) 116 12 132) 38 1 116) 133 7 134) 135 4) 133 8 135) 140 6) 133 9 140) 133 10 147) 133 11 148) 133 12 149) := fr_X0_133 hr38
  have hf39 : Fz 150 (up (up (up (up (up f 1 1 (-1)) 46 0 (-1)) 46 1 (-1)) 46 2 (-1)) 46 3 (-1)) := fz_X0_133 hf38
  refine ev_aast dX10_init_137 (Sp_get sh_38 (by decide)) (Sp_get sh_133 (by decide)) (by decide) (by decide) ?_
  show Ev _ _ _ _ _ _ _ _ _ _ (Sp 150, upr (upr (upr (upr (upr (urow (upr (urow (upr (upr (upr (upr (upr (upr (urow (upr (urow (upr (upr (upr (upr (upr (upr (urow (upr (urow (upr (upr (upr (urow (upr (upr (urow (upr (upr (upr (upr (upr (upr (upr (upr (upr (upr (upr (upr (upr (upr (upr (upr (upr (urow (upr (upr (upr (upr (upr (upr (urow (upr (upr (upr (upr (upr (upr (upr (urow (upr (urow (upr (upr (upr (upr (upr (upr (urow (upr (urow (upr (upr (upr (upr rf 2 0 3) 1 2 2) 0 0 1) 4 7 5) 6 4) 4 8 6) 11 6) 4 9 11) 4 10 18) 4 11 19) 4 12 20) 0 1 4) 21 7 22) 23 4) 21 8 23) 28 6) 21 9 28) 21 10 35) 21 11 36) 21 12 37) 0 2 21) 0 3 38) 0 4 39) 41 4) 40 0 41) 40 1 46) 40 2 47) 0 5 40) 48 0 49) 48 1 50) 51 2) 48 6 51) 48 7 54) 48 8 55) 48 9 56) 0 6 48) 57 3 58) 57 4 59) 57 5 60) 57 6 61) 57 7 62) 57 8 63) 57 9 64) 57 10 65) 57 11 66) 0 7 57) 67 2 68) 0 8 67) 70 24) 69 3 70) 0 9 69) 96 2) 95 2 96) 0 10 95) 99 7 100) 101 4) 99 8 101) 106 6) 99 9 106) 99 10 113) 99 11 114) 99 12 115) 38 0 99) 116 7 117) 118 4) 116 8 118) 123 6) 116 9 123) 116 10 130) 116 11 131) 116 12 132) 38 1 116) 133 7 134) 135 4) 133 8 135) 140 6) 133 9 140) 133 10 147) 133 11 148) 133 12 149) 38 2 133, (up (up (up (up (up f 1 1 (-1)) 46 0 (-1)) 46 1 (-1)) 46 2 (-1)) 46 3 (-1)))
  have hr40 := Fr_up (m := 150) (a := 38) (k := 2) (b := 133) hr39 (by decide) (by decide)
  refine ev_iinc (L' := [some (vR 0), some (vI 3)]) dX10_init_138 rfl (by decide) (by decide +kernel) ?_
  refine ev_goto (tgt := 120) dX10_init_141 (by decide) ?_
  refine ev_iload_n (i := 1) dX10_init_120 rfl rfl ?_
  refine ev_iconst dX10_init_121 (r32c rfl) ?_
  refine ev_icmp_ge (tgt := 144) dX10_init_122 (by decide) (fun _ => ?_) (fun c => absurd (by decide) c)
  exact ev_vret rfl dX10_init_144 h
theorem fr_X10_0 {rf : Rf} (h : Fr 1 rf) : Fr 150 (upr (upr (upr (upr (upr (urow (upr (urow (upr (upr (upr (upr (upr (upr (urow (upr (urow (upr (upr (upr (upr (upr (upr (urow (upr (urow (upr (upr (upr (urow (upr (upr (urow (upr (upr (upr (upr (upr (upr (upr (upr (upr (upr (upr (upr (upr (upr (upr (upr (upr (urow (upr (upr (upr (upr (upr (upr (urow (upr (upr (upr (upr (upr (upr (upr (urow (upr (urow (upr (upr (upr (upr (upr (upr (urow (upr (urow (upr (upr (upr (upr rf 2 0 3) 1 2 2) 0 0 1) 4 7 5) 6 4) 4 8 6) 11 6) 4 9 11) 4 10 18) 4 11 19) 4 12 20) 0 1 4) 21 7 22) 23 4) 21 8 23) 28 6) 21 9 28) 21 10 35) 21 11 36) 21 12 37) 0 2 21) 0 3 38) 0 4 39) 41 4) 40 0 41) 40 1 46) 40 2 47) 0 5 40) 48 0 49) 48 1 50) 51 2) 48 6 51) 48 7 54) 48 8 55) 48 9 56) 0 6 48) 57 3 58) 57 4 59) 57 5 60) 57 6 61) 57 7 62) 57 8 63) 57 9 64) 57 10 65) 57 11 66) 0 7 57) 67 2 68) 0 8 67) 70 24) 69 3 70) 0 9 69) 96 2) 95 2 96) 0 10 95) 99 7 100) 101 4) 99 8 101) 106 6) 99 9 106) 99 10 113) 99 11 114) 99 12 115) 38 0 99) 116 7 117) 118 4) 116 8 118) 123 6) 116 9 123) 116 10 130) 116 11 131) 116 12 132) 38 1 116) 133 7 134) 135 4) 133 8 135) 140 6) 133 9 140) 133 10 147) 133 11 148) 133 12 149) 38 2 133) := (Fr_up (m := 150) (Fr_up (m := 150) (Fr_up (m := 150) (Fr_up (m := 150) (Fr_up (m := 150) (Fr_ur (m := 150) (Fr_up (m := 150) (Fr_ur (m := 150) (Fr_up (m := 150) (Fr_up (m := 150) (Fr_up (m := 150) (Fr_up (m := 150) (Fr_up (m := 150) (Fr_up (m := 150) (Fr_ur (m := 150) (Fr_up (m := 150) (Fr_ur (m := 150) (Fr_up (m := 150) (Fr_up (m := 150) (Fr_up (m := 150) (Fr_up (m := 150) (Fr_up (m := 150) (Fr_up (m := 150) (Fr_ur (m := 150) (Fr_up (m := 150) (Fr_ur (m := 150) (Fr_up (m := 150) (Fr_up (m := 150) (Fr_up (m := 150) (Fr_ur (m := 150) (Fr_up (m := 150) (Fr_up (m := 150) (Fr_ur (m := 150) (Fr_up (m := 150) (Fr_up (m := 150) (Fr_up (m := 150) (Fr_up (m := 150) (Fr_up (m := 150) (Fr_up (m := 150) (Fr_up (m := 150) (Fr_up (m := 150) (Fr_up (m := 150) (Fr_up (m := 150) (Fr_up (m := 150) (Fr_up (m := 150) (Fr_up (m := 150) (Fr_up (m := 150) (Fr_up (m := 150) (Fr_up (m := 150) (Fr_up (m := 150) (Fr_ur (m := 150) (Fr_up (m := 150) (Fr_up (m := 150) (Fr_up (m := 150) (Fr_up (m := 150) (Fr_up (m := 150) (Fr_up (m := 150) (Fr_ur (m := 150) (Fr_up (m := 150) (Fr_up (m := 150) (Fr_up (m := 150) (Fr_up (m := 150) (Fr_up (m := 150) (Fr_up (m := 150) (Fr_up (m := 150) (Fr_ur (m := 150) (Fr_up (m := 150) (Fr_ur (m := 150) (Fr_up (m := 150) (Fr_up (m := 150) (Fr_up (m := 150) (Fr_up (m := 150) (Fr_up (m := 150) (Fr_up (m := 150) (Fr_ur (m := 150) (Fr_up (m := 150) (Fr_ur (m := 150) (Fr_up (m := 150) (Fr_up (m := 150) (Fr_up (m := 150) (Fr_up (m := 150) (Fr_mo (m := 150) h (by decide)) (Nat.le_refl _) (by decide)) (Nat.le_refl _) (by decide)) (Nat.le_refl _) (by decide)) (Nat.le_refl _) (by decide)) (Nat.le_refl _) (by decide)) (Nat.le_refl _) (by decide)) (Nat.le_refl _) (by decide)) (Nat.le_refl _) (by decide)) (Nat.le_refl _) (by decide)) (Nat.le_refl _) (by decide)) (Nat.le_refl _) (by decide)) (Nat.le_refl _) (by decide)) (Nat.le_refl _) (by decide)) (Nat.le_refl _) (by decide)) (Nat.le_refl _) (by decide)) (Nat.le_refl _) (by decide)) (Nat.le_refl _) (by decide)) (Nat.le_refl _) (by decide)) (Nat.le_refl _) (by decide)) (Nat.le_refl _) (by decide)) (Nat.le_refl _) (by decide)) (Nat.le_refl _) (by decide)) (Nat.le_refl _) (by decide)) (Nat.le_refl _) (by decide)) (Nat.le_refl _) (by decide)) (Nat.le_refl _) (by decide)) (Nat.le_refl _) (by decide)) (Nat.le_refl _) (by decide)) (Nat.le_refl _) (by decide)) (Nat.le_refl _) (by decide)) (Nat.le_refl _) (by decide)) (Nat.le_refl _) (by decide)) (Nat.le_refl _) (by decide)) (Nat.le_refl _) (by decide)) (Nat.le_refl _) (by decide)) (Nat.le_refl _) (by decide)) (Nat.le_refl _) (by decide)) (Nat.le_refl _) (by decide)) (Nat.le_refl _) (by decide)) (Nat.le_refl _) (by decide)) (Nat.le_refl _) (by decide)) (Nat.le_refl _) (by decide)) (Nat.le_refl _) (by decide)) (Nat.le_refl _) (by decide)) (Nat.le_refl _) (by decide)) (Nat.le_refl _) (by decide)) (Nat.le_refl _) (by decide)) (Nat.le_refl _) (by decide)) (Nat.le_refl _) (by decide)) (Nat.le_refl _) (by decide)) (Nat.le_refl _) (by decide)) (Nat.le_refl _) (by decide)) (Nat.le_refl _) (by decide)) (Nat.le_refl _) (by decide)) (Nat.le_refl _) (by decide)) (Nat.le_refl _) (by decide)) (Nat.le_refl _) (by decide)) (Nat.le_refl _) (by decide)) (Nat.le_refl _) (by decide)) (Nat.le_refl _) (by decide)) (Nat.le_refl _) (by decide)) (Nat.le_refl _) (by decide)) (Nat.le_refl _) (by decide)) (Nat.le_refl _) (by decide)) (Nat.le_refl _) (by decide)) (Nat.le_refl _) (by decide)) (Nat.le_refl _) (by decide)) (Nat.le_refl _) (by decide)) (Nat.le_refl _) (by decide)) (Nat.le_refl _) (by decide)) (Nat.le_refl _) (by decide)) (Nat.le_refl _) (by decide)) (Nat.le_refl _) (by decide)) (Nat.le_refl _) (by decide)) (Nat.le_refl _) (by decide)) (Nat.le_refl _) (by decide)) (Nat.le_refl _) (by decide)) (Nat.le_refl _) (by decide)) (Nat.le_refl _) (by decide)) (Nat.le_refl _) (by decide)) (Nat.le_refl _) (by decide))
theorem fz_X10_0 {f : Mm} (h : Fz 1 f) : Fz 150 (up (up (up (up (up f 1 1 (-1)) 46 0 (-1)) 46 1 (-1)) 46 2 (-1)) 46 3 (-1)) := (Fz_up (m := 150) (Fz_up (m := 150) (Fz_up (m := 150) (Fz_up (m := 150) (Fz_up (m := 150) (Fz_mo (m := 150) h (by decide)) (Nat.le_refl _) (by decide)) (Nat.le_refl _) (by decide)) (Nat.le_refl _) (by decide)) (Nat.le_refl _) (by decide)) (Nat.le_refl _) (by decide))
theorem dX11_init_0 : decode cX11_init 0 = .ok (.aload_n 0, 1) := by decide +kernel
theorem dX11_init_1 : decode cX11_init 1 = .ok (.invokespecial 1, 3) := by decide +kernel
theorem dX11_init_4 : decode cX11_init 4 = .ok (.aload_n 0, 1) := by decide +kernel
theorem dX11_init_5 : decode cX11_init 5 = .ok (.iconst 4, 1) := by decide +kernel
theorem dX11_init_6 : decode cX11_init 6 = .ok (.newarray .int, 2) := by decide +kernel
theorem dX11_init_8 : decode cX11_init 8 = .ok (.putfield 7, 3) := by decide +kernel
theorem dX11_init_11 : decode cX11_init 11 = .ok (.aload_n 0, 1) := by decide +kernel
theorem dX11_init_12 : decode cX11_init 12 = .ok (.iconst 4, 1) := by decide +kernel
theorem dX11_init_13 : decode cX11_init 13 = .ok (.newarray .int, 2) := by decide +kernel
theorem dX11_init_15 : decode cX11_init 15 = .ok (.putfield 13, 3) := by decide +kernel
theorem dX11_init_18 : decode cX11_init 18 = .ok (.aload_n 0, 1) := by decide +kernel
theorem dX11_init_19 : decode cX11_init 19 = .ok (.sipush 240, 3) := by decide +kernel
theorem dX11_init_22 : decode cX11_init 22 = .ok (.newarray .long, 2) := by decide +kernel
theorem dX11_init_24 : decode cX11_init 24 = .ok (.putfield 16, 3) := by decide +kernel
theorem dX11_init_27 : decode cX11_init 27 = .ok (.aload_n 0, 1) := by decide +kernel
theorem dX11_init_28 : decode cX11_init 28 = .ok (.bipush 60, 2) := by decide +kernel
theorem dX11_init_30 : decode cX11_init 30 = .ok (.newarray .long, 2) := by decide +kernel
theorem dX11_init_32 : decode cX11_init 32 = .ok (.putfield 20, 3) := by decide +kernel
theorem dX11_init_35 : decode cX11_init 35 = .ok (.aload_n 0, 1) := by decide +kernel
theorem dX11_init_36 : decode cX11_init 36 = .ok (.sipush 800, 3) := by decide +kernel
theorem dX11_init_39 : decode cX11_init 39 = .ok (.newarray .byte, 2) := by decide +kernel
theorem dX11_init_41 : decode cX11_init 41 = .ok (.putfield 23, 3) := by decide +kernel
theorem dX11_init_44 : decode cX11_init 44 = .ok (.aload_n 0, 1) := by decide +kernel
theorem dX11_init_45 : decode cX11_init 45 = .ok (.iconst (-1), 1) := by decide +kernel
theorem dX11_init_46 : decode cX11_init 46 = .ok (.putfield 27, 3) := by decide +kernel
theorem dX11_init_49 : decode cX11_init 49 = .ok (.aload_n 0, 1) := by decide +kernel
theorem dX11_init_50 : decode cX11_init 50 = .ok (.iconst 5, 1) := by decide +kernel
theorem dX11_init_51 : decode cX11_init 51 = .ok (.newarray .int, 2) := by decide +kernel
theorem dX11_init_53 : decode cX11_init 53 = .ok (.putfield 31, 3) := by decide +kernel
theorem dX11_init_56 : decode cX11_init 56 = .ok (.aload_n 0, 1) := by decide +kernel
theorem dX11_init_57 : decode cX11_init 57 = .ok (.bipush 40, 2) := by decide +kernel
theorem dX11_init_59 : decode cX11_init 59 = .ok (.newarray .int, 2) := by decide +kernel
theorem dX11_init_61 : decode cX11_init 61 = .ok (.putfield 34, 3) := by decide +kernel
theorem dX11_init_64 : decode cX11_init 64 = .ok (.aload_n 0, 1) := by decide +kernel
theorem dX11_init_65 : decode cX11_init 65 = .ok (.bipush 80, 2) := by decide +kernel
theorem dX11_init_67 : decode cX11_init 67 = .ok (.newarray .int, 2) := by decide +kernel
theorem dX11_init_69 : decode cX11_init 69 = .ok (.putfield 37, 3) := by decide +kernel
theorem dX11_init_72 : decode cX11_init 72 = .ok (.aload_n 0, 1) := by decide +kernel
theorem dX11_init_73 : decode cX11_init 73 = .ok (.sipush 150, 3) := by decide +kernel
theorem dX11_init_76 : decode cX11_init 76 = .ok (.newarray .int, 2) := by decide +kernel
theorem dX11_init_78 : decode cX11_init 78 = .ok (.putfield 40, 3) := by decide +kernel
theorem dX11_init_81 : decode cX11_init 81 = .ok (.aload_n 0, 1) := by decide +kernel
theorem dX11_init_82 : decode cX11_init 82 = .ok (.sipush 400, 3) := by decide +kernel
theorem dX11_init_85 : decode cX11_init 85 = .ok (.newarray .int, 2) := by decide +kernel
theorem dX11_init_87 : decode cX11_init 87 = .ok (.putfield 43, 3) := by decide +kernel
theorem dX11_init_90 : decode cX11_init 90 = .ok (.aload_n 0, 1) := by decide +kernel
theorem dX11_init_91 : decode cX11_init 91 = .ok (.iconst 3, 1) := by decide +kernel
theorem dX11_init_92 : decode cX11_init 92 = .ok (.newarray .boolean, 2) := by decide +kernel
theorem dX11_init_94 : decode cX11_init 94 = .ok (.putfield 46, 3) := by decide +kernel
theorem dX11_init_97 : decode cX11_init 97 = .ok (.aload_n 0, 1) := by decide +kernel
theorem dX11_init_98 : decode cX11_init 98 = .ok (.bipush 6, 2) := by decide +kernel
theorem dX11_init_100 : decode cX11_init 100 = .ok (.newarray .int, 2) := by decide +kernel
theorem dX11_init_102 : decode cX11_init 102 = .ok (.putfield 50, 3) := by decide +kernel
theorem dX11_init_105 : decode cX11_init 105 = .ok (.aload_n 0, 1) := by decide +kernel
theorem dX11_init_106 : decode cX11_init 106 = .ok (.bipush 12, 2) := by decide +kernel
theorem dX11_init_108 : decode cX11_init 108 = .ok (.newarray .int, 2) := by decide +kernel
theorem dX11_init_110 : decode cX11_init 110 = .ok (.putfield 53, 3) := by decide +kernel
theorem dX11_init_113 : decode cX11_init 113 = .ok (.aload_n 0, 1) := by decide +kernel
theorem dX11_init_114 : decode cX11_init 114 = .ok (.bipush 6, 2) := by decide +kernel
theorem dX11_init_116 : decode cX11_init 116 = .ok (.newarray .int, 2) := by decide +kernel
theorem dX11_init_118 : decode cX11_init 118 = .ok (.putfield 56, 3) := by decide +kernel
theorem dX11_init_121 : decode cX11_init 121 = .ok (.aload_n 0, 1) := by decide +kernel
theorem dX11_init_122 : decode cX11_init 122 = .ok (.iconst 2, 1) := by decide +kernel
theorem dX11_init_123 : decode cX11_init 123 = .ok (.newarray .int, 2) := by decide +kernel
theorem dX11_init_125 : decode cX11_init 125 = .ok (.putfield 59, 3) := by decide +kernel
theorem dX11_init_128 : decode cX11_init 128 = .ok (.aload_n 0, 1) := by decide +kernel
theorem dX11_init_129 : decode cX11_init 129 = .ok (.bipush 6, 2) := by decide +kernel
theorem dX11_init_131 : decode cX11_init 131 = .ok (.newarray .int, 2) := by decide +kernel
theorem dX11_init_133 : decode cX11_init 133 = .ok (.putfield 62, 3) := by decide +kernel
theorem dX11_init_136 : decode cX11_init 136 = .ok (.aload_n 0, 1) := by decide +kernel
theorem dX11_init_137 : decode cX11_init 137 = .ok (.bipush 6, 2) := by decide +kernel
theorem dX11_init_139 : decode cX11_init 139 = .ok (.newarray .int, 2) := by decide +kernel
theorem dX11_init_141 : decode cX11_init 141 = .ok (.putfield 65, 3) := by decide +kernel
theorem dX11_init_144 : decode cX11_init 144 = .ok (.aload_n 0, 1) := by decide +kernel
theorem dX11_init_145 : decode cX11_init 145 = .ok (.bipush 6, 2) := by decide +kernel
theorem dX11_init_147 : decode cX11_init 147 = .ok (.newarray .int, 2) := by decide +kernel
theorem dX11_init_149 : decode cX11_init 149 = .ok (.putfield 68, 3) := by decide +kernel
theorem dX11_init_152 : decode cX11_init 152 = .ok (.aload_n 0, 1) := by decide +kernel
theorem dX11_init_153 : decode cX11_init 153 = .ok (.bipush 6, 2) := by decide +kernel
theorem dX11_init_155 : decode cX11_init 155 = .ok (.newarray .int, 2) := by decide +kernel
theorem dX11_init_157 : decode cX11_init 157 = .ok (.putfield 71, 3) := by decide +kernel
theorem dX11_init_160 : decode cX11_init 160 = .ok (.aload_n 0, 1) := by decide +kernel
theorem dX11_init_161 : decode cX11_init 161 = .ok (.bipush 64, 2) := by decide +kernel
theorem dX11_init_163 : decode cX11_init 163 = .ok (.newarray .int, 2) := by decide +kernel
theorem dX11_init_165 : decode cX11_init 165 = .ok (.putfield 74, 3) := by decide +kernel
theorem dX11_init_168 : decode cX11_init 168 = .ok (.aload_n 0, 1) := by decide +kernel
theorem dX11_init_169 : decode cX11_init 169 = .ok (.bipush 64, 2) := by decide +kernel
theorem dX11_init_171 : decode cX11_init 171 = .ok (.newarray .int, 2) := by decide +kernel
theorem dX11_init_173 : decode cX11_init 173 = .ok (.putfield 77, 3) := by decide +kernel
theorem dX11_init_176 : decode cX11_init 176 = .ok (.aload_n 0, 1) := by decide +kernel
theorem dX11_init_177 : decode cX11_init 177 = .ok (.bipush 6, 2) := by decide +kernel
theorem dX11_init_179 : decode cX11_init 179 = .ok (.newarray .int, 2) := by decide +kernel
theorem dX11_init_181 : decode cX11_init 181 = .ok (.putfield 80, 3) := by decide +kernel
theorem dX11_init_184 : decode cX11_init 184 = .ok (.aload_n 0, 1) := by decide +kernel
theorem dX11_init_185 : decode cX11_init 185 = .ok (.bipush 61, 2) := by decide +kernel
theorem dX11_init_187 : decode cX11_init 187 = .ok (.newarray .int, 2) := by decide +kernel
theorem dX11_init_189 : decode cX11_init 189 = .ok (.putfield 83, 3) := by decide +kernel
theorem dX11_init_192 : decode cX11_init 192 = .ok (.aload_n 0, 1) := by decide +kernel
theorem dX11_init_193 : decode cX11_init 193 = .ok (.bipush 6, 2) := by decide +kernel
theorem dX11_init_195 : decode cX11_init 195 = .ok (.newarray .int, 2) := by decide +kernel
theorem dX11_init_197 : decode cX11_init 197 = .ok (.putfield 86, 3) := by decide +kernel
theorem dX11_init_200 : decode cX11_init 200 = .ok (.aload_n 0, 1) := by decide +kernel
theorem dX11_init_201 : decode cX11_init 201 = .ok (.bipush 6, 2) := by decide +kernel
theorem dX11_init_203 : decode cX11_init 203 = .ok (.newarray .int, 2) := by decide +kernel
theorem dX11_init_205 : decode cX11_init 205 = .ok (.putfield 89, 3) := by decide +kernel
theorem dX11_init_208 : decode cX11_init 208 = .ok (.aload_n 0, 1) := by decide +kernel
theorem dX11_init_209 : decode cX11_init 209 = .ok (.bipush 6, 2) := by decide +kernel
theorem dX11_init_211 : decode cX11_init 211 = .ok (.newarray .int, 2) := by decide +kernel
theorem dX11_init_213 : decode cX11_init 213 = .ok (.putfield 92, 3) := by decide +kernel
theorem dX11_init_216 : decode cX11_init 216 = .ok (.aload_n 0, 1) := by decide +kernel
theorem dX11_init_217 : decode cX11_init 217 = .ok (.bipush 61, 2) := by decide +kernel
theorem dX11_init_219 : decode cX11_init 219 = .ok (.newarray .int, 2) := by decide +kernel
theorem dX11_init_221 : decode cX11_init 221 = .ok (.putfield 95, 3) := by decide +kernel
theorem dX11_init_224 : decode cX11_init 224 = .ok (.iconst 0, 1) := by decide +kernel
theorem dX11_init_225 : decode cX11_init 225 = .ok (.istore_n 1, 1) := by decide +kernel
theorem dX11_init_226 : decode cX11_init 226 = .ok (.iload_n 1, 1) := by decide +kernel
theorem dX11_init_227 : decode cX11_init 227 = .ok (.iconst 4, 1) := by decide +kernel
theorem dX11_init_228 : decode cX11_init 228 = .ok (.if_icmp .ge 16, 3) := by decide +kernel
theorem dX11_init_231 : decode cX11_init 231 = .ok (.aload_n 0, 1) := by decide +kernel
theorem dX11_init_232 : decode cX11_init 232 = .ok (.getfield 7, 3) := by decide +kernel
theorem dX11_init_235 : decode cX11_init 235 = .ok (.iload_n 1, 1) := by decide +kernel
theorem dX11_init_236 : decode cX11_init 236 = .ok (.iconst (-1), 1) := by decide +kernel
theorem dX11_init_237 : decode cX11_init 237 = .ok (.iastore, 1) := by decide +kernel
theorem dX11_init_238 : decode cX11_init 238 = .ok (.iinc 1 1, 3) := by decide +kernel
theorem dX11_init_241 : decode cX11_init 241 = .ok (.goto (-15), 3) := by decide +kernel
theorem dX11_init_244 : decode cX11_init 244 = .ok (.return_, 1) := by decide +kernel
set_option maxHeartbeats 4000000 in
set_option maxRecDepth 100000 in
theorem ct_X11_150 {G : GT} {l : Launch} {Q : Option AV → Mem → Prop} {rf : Rf} {f : Mm} (hr : Fr 151 rf) (hf : Fz 151 f) (h : Q none (Sp 178, (upr (upr (upr (upr (upr (upr (upr (upr (upr (upr (upr (upr (upr (upr (upr (upr (upr (upr (upr (upr (upr (upr (upr (upr (upr (upr (upr rf 150 1 151) 150 2 152) 150 3 153) 150 4 154) 150 5 155) 150 16 156) 150 17 157) 150 18 158) 150 19 159) 150 20 160) 150 21 161) 150 22 162) 150 25 163) 150 26 164) 150 27 165) 150 28 166) 150 29 167) 150 30 168) 150 34 169) 150 35 170) 150 36 171) 150 37 172) 150 38 173) 150 39 174) 150 40 175) 150 43 176) 150 44 177), (up (up (up (up (up f 150 15 (-1)) 151 0 (-1)) 151 1 (-1)) 151 2 (-1)) 151 3 (-1)))) : Ret G l MX11_init 1 27 2110 [vR 150] (Sp 151, rf, f) Q := by
  refine ret_of (L := [some (vR 150), none]) (by decide) rfl (Nat.le_of_ble_eq_true rfl) ?_
  refine ev_aload_n (i := 0) dX11_init_0 rfl rfl ?_
  refine ev_oinit dX11_init_1 ml_X11_1 oi_im oi_co (Nat.le_of_ble_eq_true rfl) (Nat.le_of_ble_eq_true rfl) ?_
  refine ev_aload_n (i := 0) dX11_init_4 rfl rfl ?_
  refine ev_iconst dX11_init_5 (r32c rfl) ?_
  refine ez_newa (n := 151) (k := 0) (N := 4) (ty := .int) (by decide) (Or.inl ⟨rfl, rfl⟩) dX11_init_6 rfl ac_int rfl (by decide) sh_151 hf (Nat.le_of_ble_eq_true rfl) (Nat.le_of_ble_eq_true rfl) ?_
  have hr1 := Fr_mo (m := 152) hr (by decide)
  have hf1 := Fz_mo (m := 152) hf (by decide)
  refine ev_putR dX11_init_8 ff_X11_7 rfl (Sp_get sh_150 (by decide)) (by decide) (by decide) (by decide) ?_
  have hr2 := Fr_up (m := 152) (a := 150) (k := 1) (b := 151) hr1 (by decide) (by decide)
  refine ev_aload_n (i := 0) dX11_init_11 rfl rfl ?_
  refine ev_iconst dX11_init_12 (r32c rfl) ?_
  refine ez_newa (n := 152) (k := 0) (N := 4) (ty := .int) (by decide) (Or.inl ⟨rfl, rfl⟩) dX11_init_13 rfl ac_int rfl (by decide) sh_152 hf1 (Nat.le_of_ble_eq_true rfl) (Nat.le_of_ble_eq_true rfl) ?_
  have hr3 := Fr_mo (m := 153) hr2 (by decide)
  have hf3 := Fz_mo (m := 153) hf1 (by decide)
  refine ev_putR dX11_init_15 ff_X11_13 rfl (Sp_get sh_150 (by decide)) (by decide) (by decide) (by decide) ?_
  have hr4 := Fr_up (m := 153) (a := 150) (k := 2) (b := 152) hr3 (by decide) (by decide)
  refine ev_aload_n (i := 0) dX11_init_18 rfl rfl ?_
  refine ev_sipush (v := 240) dX11_init_19 (r32c rfl) (by decide) ?_
  refine ez_newa (n := 153) (k := 3) (N := 240) (ty := .long) (by decide) (Or.inr (Or.inr (Or.inr ⟨rfl, rfl⟩))) dX11_init_22 rfl ac_long rfl (by decide) sh_153 hf3 (Nat.le_of_ble_eq_true rfl) (Nat.le_of_ble_eq_true rfl) ?_
  have hr5 := Fr_mo (m := 154) hr4 (by decide)
  have hf5 := Fz_mo (m := 154) hf3 (by decide)
  refine ev_putR dX11_init_24 ff_X11_16 rfl (Sp_get sh_150 (by decide)) (by decide) (by decide) (by decide) ?_
  have hr6 := Fr_up (m := 154) (a := 150) (k := 3) (b := 153) hr5 (by decide) (by decide)
  refine ev_aload_n (i := 0) dX11_init_27 rfl rfl ?_
  refine ev_bipush (v := 60) dX11_init_28 (r32c rfl) (by decide) ?_
  refine ez_newa (n := 154) (k := 3) (N := 60) (ty := .long) (by decide) (Or.inr (Or.inr (Or.inr ⟨rfl, rfl⟩))) dX11_init_30 rfl ac_long rfl (by decide) sh_154 hf5 (Nat.le_of_ble_eq_true rfl) (Nat.le_of_ble_eq_true rfl) ?_
  have hr7 := Fr_mo (m := 155) hr6 (by decide)
  have hf7 := Fz_mo (m := 155) hf5 (by decide)
  refine ev_putR dX11_init_32 ff_X11_20 rfl (Sp_get sh_150 (by decide)) (by decide) (by decide) (by decide) ?_
  have hr8 := Fr_up (m := 155) (a := 150) (k := 4) (b := 154) hr7 (by decide) (by decide)
  refine ev_aload_n (i := 0) dX11_init_35 rfl rfl ?_
  refine ev_sipush (v := 800) dX11_init_36 (r32c rfl) (by decide) ?_
  refine ez_newa (n := 155) (k := 1) (N := 800) (ty := .byte) (by decide) (Or.inr (Or.inl ⟨rfl, rfl⟩)) dX11_init_39 rfl ac_byte rfl (by decide) sh_155 hf7 (Nat.le_of_ble_eq_true rfl) (Nat.le_of_ble_eq_true rfl) ?_
  have hr9 := Fr_mo (m := 156) hr8 (by decide)
  have hf9 := Fz_mo (m := 156) hf7 (by decide)
  refine ev_putR dX11_init_41 ff_X11_23 rfl (Sp_get sh_150 (by decide)) (by decide) (by decide) (by decide) ?_
  have hr10 := Fr_up (m := 156) (a := 150) (k := 5) (b := 155) hr9 (by decide) (by decide)
  refine ev_aload_n (i := 0) dX11_init_44 rfl rfl ?_
  refine ev_iconst dX11_init_45 (r32c rfl) ?_
  refine ev_putI dX11_init_46 fl_X11_27 (Sp_get sh_150 (by decide)) (by decide) (by decide) ?_
  have hf11 := Fz_up (m := 156) (a := 150) (k := 15) (x := (-1)) hf9 (by decide) (by decide)
  refine ev_aload_n (i := 0) dX11_init_49 rfl rfl ?_
  refine ev_iconst dX11_init_50 (r32c rfl) ?_
  refine ez_newa (n := 156) (k := 0) (N := 5) (ty := .int) (by decide) (Or.inl ⟨rfl, rfl⟩) dX11_init_51 rfl ac_int rfl (by decide) sh_156 hf11 (Nat.le_of_ble_eq_true rfl) (Nat.le_of_ble_eq_true rfl) ?_
  have hr12 := Fr_mo (m := 157) hr10 (by decide)
  have hf12 := Fz_mo (m := 157) hf11 (by decide)
  refine ev_putR dX11_init_53 ff_X11_31 rfl (Sp_get sh_150 (by decide)) (by decide) (by decide) (by decide) ?_
  have hr13 := Fr_up (m := 157) (a := 150) (k := 16) (b := 156) hr12 (by decide) (by decide)
  refine ev_aload_n (i := 0) dX11_init_56 rfl rfl ?_
  refine ev_bipush (v := 40) dX11_init_57 (r32c rfl) (by decide) ?_
  refine ez_newa (n := 157) (k := 0) (N := 40) (ty := .int) (by decide) (Or.inl ⟨rfl, rfl⟩) dX11_init_59 rfl ac_int rfl (by decide) sh_157 hf12 (Nat.le_of_ble_eq_true rfl) (Nat.le_of_ble_eq_true rfl) ?_
  have hr14 := Fr_mo (m := 158) hr13 (by decide)
  have hf14 := Fz_mo (m := 158) hf12 (by decide)
  refine ev_putR dX11_init_61 ff_X11_34 rfl (Sp_get sh_150 (by decide)) (by decide) (by decide) (by decide) ?_
  have hr15 := Fr_up (m := 158) (a := 150) (k := 17) (b := 157) hr14 (by decide) (by decide)
  refine ev_aload_n (i := 0) dX11_init_64 rfl rfl ?_
  refine ev_bipush (v := 80) dX11_init_65 (r32c rfl) (by decide) ?_
  refine ez_newa (n := 158) (k := 0) (N := 80) (ty := .int) (by decide) (Or.inl ⟨rfl, rfl⟩) dX11_init_67 rfl ac_int rfl (by decide) sh_158 hf14 (Nat.le_of_ble_eq_true rfl) (Nat.le_of_ble_eq_true rfl) ?_
  have hr16 := Fr_mo (m := 159) hr15 (by decide)
  have hf16 := Fz_mo (m := 159) hf14 (by decide)
  refine ev_putR dX11_init_69 ff_X11_37 rfl (Sp_get sh_150 (by decide)) (by decide) (by decide) (by decide) ?_
  have hr17 := Fr_up (m := 159) (a := 150) (k := 18) (b := 158) hr16 (by decide) (by decide)
  refine ev_aload_n (i := 0) dX11_init_72 rfl rfl ?_
  refine ev_sipush (v := 150) dX11_init_73 (r32c rfl) (by decide) ?_
  refine ez_newa (n := 159) (k := 0) (N := 150) (ty := .int) (by decide) (Or.inl ⟨rfl, rfl⟩) dX11_init_76 rfl ac_int rfl (by decide) sh_159 hf16 (Nat.le_of_ble_eq_true rfl) (Nat.le_of_ble_eq_true rfl) ?_
  have hr18 := Fr_mo (m := 160) hr17 (by decide)
  have hf18 := Fz_mo (m := 160) hf16 (by decide)
  refine ev_putR dX11_init_78 ff_X11_40 rfl (Sp_get sh_150 (by decide)) (by decide) (by decide) (by decide) ?_
  have hr19 := Fr_up (m := 160) (a := 150) (k := 19) (b := 159) hr18 (by decide) (by decide)
  refine ev_aload_n (i := 0) dX11_init_81 rfl rfl ?_
  refine ev_sipush (v := 400) dX11_init_82 (r32c rfl) (by decide) ?_
  refine ez_newa (n := 160) (k := 0) (N := 400) (ty := .int) (by decide) (Or.inl ⟨rfl, rfl⟩) dX11_init_85 rfl ac_int rfl (by decide) sh_160 hf18 (Nat.le_of_ble_eq_true rfl) (Nat.le_of_ble_eq_true rfl) ?_
  have hr20 := Fr_mo (m := 161) hr19 (by decide)
  have hf20 := Fz_mo (m := 161) hf18 (by decide)
  refine ev_putR dX11_init_87 ff_X11_43 rfl (Sp_get sh_150 (by decide)) (by decide) (by decide) (by decide) ?_
  have hr21 := Fr_up (m := 161) (a := 150) (k := 20) (b := 160) hr20 (by decide) (by decide)
  refine ev_aload_n (i := 0) dX11_init_90 rfl rfl ?_
  refine ev_iconst dX11_init_91 (r32c rfl) ?_
  refine ez_newa (n := 161) (k := 2) (N := 3) (ty := .boolean) (by decide) (Or.inr (Or.inr (Or.inl ⟨rfl, rfl⟩))) dX11_init_92 rfl ac_boolean rfl (by decide) sh_161 hf20 (Nat.le_of_ble_eq_true rfl) (Nat.le_of_ble_eq_true rfl) ?_
  have hr22 := Fr_mo (m := 162) hr21 (by decide)
  have hf22 := Fz_mo (m := 162) hf20 (by decide)
  refine ev_putR dX11_init_94 ff_X11_46 rfl (Sp_get sh_150 (by decide)) (by decide) (by decide) (by decide) ?_
  have hr23 := Fr_up (m := 162) (a := 150) (k := 21) (b := 161) hr22 (by decide) (by decide)
  refine ev_aload_n (i := 0) dX11_init_97 rfl rfl ?_
  refine ev_bipush (v := 6) dX11_init_98 (r32c rfl) (by decide) ?_
  refine ez_newa (n := 162) (k := 0) (N := 6) (ty := .int) (by decide) (Or.inl ⟨rfl, rfl⟩) dX11_init_100 rfl ac_int rfl (by decide) sh_162 hf22 (Nat.le_of_ble_eq_true rfl) (Nat.le_of_ble_eq_true rfl) ?_
  have hr24 := Fr_mo (m := 163) hr23 (by decide)
  have hf24 := Fz_mo (m := 163) hf22 (by decide)
  refine ev_putR dX11_init_102 ff_X11_50 rfl (Sp_get sh_150 (by decide)) (by decide) (by decide) (by decide) ?_
  have hr25 := Fr_up (m := 163) (a := 150) (k := 22) (b := 162) hr24 (by decide) (by decide)
  refine ev_aload_n (i := 0) dX11_init_105 rfl rfl ?_
  refine ev_bipush (v := 12) dX11_init_106 (r32c rfl) (by decide) ?_
  refine ez_newa (n := 163) (k := 0) (N := 12) (ty := .int) (by decide) (Or.inl ⟨rfl, rfl⟩) dX11_init_108 rfl ac_int rfl (by decide) sh_163 hf24 (Nat.le_of_ble_eq_true rfl) (Nat.le_of_ble_eq_true rfl) ?_
  have hr26 := Fr_mo (m := 164) hr25 (by decide)
  have hf26 := Fz_mo (m := 164) hf24 (by decide)
  refine ev_putR dX11_init_110 ff_X11_53 rfl (Sp_get sh_150 (by decide)) (by decide) (by decide) (by decide) ?_
  have hr27 := Fr_up (m := 164) (a := 150) (k := 25) (b := 163) hr26 (by decide) (by decide)
  refine ev_aload_n (i := 0) dX11_init_113 rfl rfl ?_
  refine ev_bipush (v := 6) dX11_init_114 (r32c rfl) (by decide) ?_
  refine ez_newa (n := 164) (k := 0) (N := 6) (ty := .int) (by decide) (Or.inl ⟨rfl, rfl⟩) dX11_init_116 rfl ac_int rfl (by decide) sh_164 hf26 (Nat.le_of_ble_eq_true rfl) (Nat.le_of_ble_eq_true rfl) ?_
  have hr28 := Fr_mo (m := 165) hr27 (by decide)
  have hf28 := Fz_mo (m := 165) hf26 (by decide)
  refine ev_putR dX11_init_118 ff_X11_56 rfl (Sp_get sh_150 (by decide)) (by decide) (by decide) (by decide) ?_
  have hr29 := Fr_up (m := 165) (a := 150) (k := 26) (b := 164) hr28 (by decide) (by decide)
  refine ev_aload_n (i := 0) dX11_init_121 rfl rfl ?_
  refine ev_iconst dX11_init_122 (r32c rfl) ?_
  refine ez_newa (n := 165) (k := 0) (N := 2) (ty := .int) (by decide) (Or.inl ⟨rfl, rfl⟩) dX11_init_123 rfl ac_int rfl (by decide) sh_165 hf28 (Nat.le_of_ble_eq_true rfl) (Nat.le_of_ble_eq_true rfl) ?_
  have hr30 := Fr_mo (m := 166) hr29 (by decide)
  have hf30 := Fz_mo (m := 166) hf28 (by decide)
  refine ev_putR dX11_init_125 ff_X11_59 rfl (Sp_get sh_150 (by decide)) (by decide) (by decide) (by decide) ?_
  have hr31 := Fr_up (m := 166) (a := 150) (k := 27) (b := 165) hr30 (by decide) (by decide)
  refine ev_aload_n (i := 0) dX11_init_128 rfl rfl ?_
  refine ev_bipush (v := 6) dX11_init_129 (r32c rfl) (by decide) ?_
  refine ez_newa (n := 166) (k := 0) (N := 6) (ty := .int) (by decide) (Or.inl ⟨rfl, rfl⟩) dX11_init_131 rfl ac_int rfl (by decide) sh_166 hf30 (Nat.le_of_ble_eq_true rfl) (Nat.le_of_ble_eq_true rfl) ?_
  have hr32 := Fr_mo (m := 167) hr31 (by decide)
  have hf32 := Fz_mo (m := 167) hf30 (by decide)
  refine ev_putR dX11_init_133 ff_X11_62 rfl (Sp_get sh_150 (by decide)) (by decide) (by decide) (by decide) ?_
  have hr33 := Fr_up (m := 167) (a := 150) (k := 28) (b := 166) hr32 (by decide) (by decide)
  refine ev_aload_n (i := 0) dX11_init_136 rfl rfl ?_
  refine ev_bipush (v := 6) dX11_init_137 (r32c rfl) (by decide) ?_
  refine ez_newa (n := 167) (k := 0) (N := 6) (ty := .int) (by decide) (Or.inl ⟨rfl, rfl⟩) dX11_init_139 rfl ac_int rfl (by decide) sh_167 hf32 (Nat.le_of_ble_eq_true rfl) (Nat.le_of_ble_eq_true rfl) ?_
  have hr34 := Fr_mo (m := 168) hr33 (by decide)
  have hf34 := Fz_mo (m := 168) hf32 (by decide)
  refine ev_putR dX11_init_141 ff_X11_65 rfl (Sp_get sh_150 (by decide)) (by decide) (by decide) (by decide) ?_
  have hr35 := Fr_up (m := 168) (a := 150) (k := 29) (b := 167) hr34 (by decide) (by decide)
  refine ev_aload_n (i := 0) dX11_init_144 rfl rfl ?_
  refine ev_bipush (v := 6) dX11_init_145 (r32c rfl) (by decide) ?_
  refine ez_newa (n := 168) (k := 0) (N := 6) (ty := .int) (by decide) (Or.inl ⟨rfl, rfl⟩) dX11_init_147 rfl ac_int rfl (by decide) sh_168 hf34 (Nat.le_of_ble_eq_true rfl) (Nat.le_of_ble_eq_true rfl) ?_
  have hr36 := Fr_mo (m := 169) hr35 (by decide)
  have hf36 := Fz_mo (m := 169) hf34 (by decide)
  refine ev_putR dX11_init_149 ff_X11_68 rfl (Sp_get sh_150 (by decide)) (by decide) (by decide) (by decide) ?_
  have hr37 := Fr_up (m := 169) (a := 150) (k := 30) (b := 168) hr36 (by decide) (by decide)
  refine ev_aload_n (i := 0) dX11_init_152 rfl rfl ?_
  refine ev_bipush (v := 6) dX11_init_153 (r32c rfl) (by decide) ?_
  refine ez_newa (n := 169) (k := 0) (N := 6) (ty := .int) (by decide) (Or.inl ⟨rfl, rfl⟩) dX11_init_155 rfl ac_int rfl (by decide) sh_169 hf36 (Nat.le_of_ble_eq_true rfl) (Nat.le_of_ble_eq_true rfl) ?_
  have hr38 := Fr_mo (m := 170) hr37 (by decide)
  have hf38 := Fz_mo (m := 170) hf36 (by decide)
  refine ev_putR dX11_init_157 ff_X11_71 rfl (Sp_get sh_150 (by decide)) (by decide) (by decide) (by decide) ?_
  have hr39 := Fr_up (m := 170) (a := 150) (k := 34) (b := 169) hr38 (by decide) (by decide)
  refine ev_aload_n (i := 0) dX11_init_160 rfl rfl ?_
  refine ev_bipush (v := 64) dX11_init_161 (r32c rfl) (by decide) ?_
  refine ez_newa (n := 170) (k := 0) (N := 64) (ty := .int) (by decide) (Or.inl ⟨rfl, rfl⟩) dX11_init_163 rfl ac_int rfl (by decide) sh_170 hf38 (Nat.le_of_ble_eq_true rfl) (Nat.le_of_ble_eq_true rfl) ?_
  have hr40 := Fr_mo (m := 171) hr39 (by decide)
  have hf40 := Fz_mo (m := 171) hf38 (by decide)
  refine ev_putR dX11_init_165 ff_X11_74 rfl (Sp_get sh_150 (by decide)) (by decide) (by decide) (by decide) ?_
  have hr41 := Fr_up (m := 171) (a := 150) (k := 35) (b := 170) hr40 (by decide) (by decide)
  refine ev_aload_n (i := 0) dX11_init_168 rfl rfl ?_
  refine ev_bipush (v := 64) dX11_init_169 (r32c rfl) (by decide) ?_
  refine ez_newa (n := 171) (k := 0) (N := 64) (ty := .int) (by decide) (Or.inl ⟨rfl, rfl⟩) dX11_init_171 rfl ac_int rfl (by decide) sh_171 hf40 (Nat.le_of_ble_eq_true rfl) (Nat.le_of_ble_eq_true rfl) ?_
  have hr42 := Fr_mo (m := 172) hr41 (by decide)
  have hf42 := Fz_mo (m := 172) hf40 (by decide)
  refine ev_putR dX11_init_173 ff_X11_77 rfl (Sp_get sh_150 (by decide)) (by decide) (by decide) (by decide) ?_
  have hr43 := Fr_up (m := 172) (a := 150) (k := 36) (b := 171) hr42 (by decide) (by decide)
  refine ev_aload_n (i := 0) dX11_init_176 rfl rfl ?_
  refine ev_bipush (v := 6) dX11_init_177 (r32c rfl) (by decide) ?_
  refine ez_newa (n := 172) (k := 0) (N := 6) (ty := .int) (by decide) (Or.inl ⟨rfl, rfl⟩) dX11_init_179 rfl ac_int rfl (by decide) sh_172 hf42 (Nat.le_of_ble_eq_true rfl) (Nat.le_of_ble_eq_true rfl) ?_
  have hr44 := Fr_mo (m := 173) hr43 (by decide)
  have hf44 := Fz_mo (m := 173) hf42 (by decide)
  refine ev_putR dX11_init_181 ff_X11_80 rfl (Sp_get sh_150 (by decide)) (by decide) (by decide) (by decide) ?_
  have hr45 := Fr_up (m := 173) (a := 150) (k := 37) (b := 172) hr44 (by decide) (by decide)
  refine ev_aload_n (i := 0) dX11_init_184 rfl rfl ?_
  refine ev_bipush (v := 61) dX11_init_185 (r32c rfl) (by decide) ?_
  refine ez_newa (n := 173) (k := 0) (N := 61) (ty := .int) (by decide) (Or.inl ⟨rfl, rfl⟩) dX11_init_187 rfl ac_int rfl (by decide) sh_173 hf44 (Nat.le_of_ble_eq_true rfl) (Nat.le_of_ble_eq_true rfl) ?_
  have hr46 := Fr_mo (m := 174) hr45 (by decide)
  have hf46 := Fz_mo (m := 174) hf44 (by decide)
  refine ev_putR dX11_init_189 ff_X11_83 rfl (Sp_get sh_150 (by decide)) (by decide) (by decide) (by decide) ?_
  have hr47 := Fr_up (m := 174) (a := 150) (k := 38) (b := 173) hr46 (by decide) (by decide)
  refine ev_aload_n (i := 0) dX11_init_192 rfl rfl ?_
  refine ev_bipush (v := 6) dX11_init_193 (r32c rfl) (by decide) ?_
  refine ez_newa (n := 174) (k := 0) (N := 6) (ty := .int) (by decide) (Or.inl ⟨rfl, rfl⟩) dX11_init_195 rfl ac_int rfl (by decide) sh_174 hf46 (Nat.le_of_ble_eq_true rfl) (Nat.le_of_ble_eq_true rfl) ?_
  have hr48 := Fr_mo (m := 175) hr47 (by decide)
  have hf48 := Fz_mo (m := 175) hf46 (by decide)
  refine ev_putR dX11_init_197 ff_X11_86 rfl (Sp_get sh_150 (by decide)) (by decide) (by decide) (by decide) ?_
  have hr49 := Fr_up (m := 175) (a := 150) (k := 39) (b := 174) hr48 (by decide) (by decide)
  refine ev_aload_n (i := 0) dX11_init_200 rfl rfl ?_
  refine ev_bipush (v := 6) dX11_init_201 (r32c rfl) (by decide) ?_
  refine ez_newa (n := 175) (k := 0) (N := 6) (ty := .int) (by decide) (Or.inl ⟨rfl, rfl⟩) dX11_init_203 rfl ac_int rfl (by decide) sh_175 hf48 (Nat.le_of_ble_eq_true rfl) (Nat.le_of_ble_eq_true rfl) ?_
  have hr50 := Fr_mo (m := 176) hr49 (by decide)
  have hf50 := Fz_mo (m := 176) hf48 (by decide)
  refine ev_putR dX11_init_205 ff_X11_89 rfl (Sp_get sh_150 (by decide)) (by decide) (by decide) (by decide) ?_
  have hr51 := Fr_up (m := 176) (a := 150) (k := 40) (b := 175) hr50 (by decide) (by decide)
  refine ev_aload_n (i := 0) dX11_init_208 rfl rfl ?_
  refine ev_bipush (v := 6) dX11_init_209 (r32c rfl) (by decide) ?_
  refine ez_newa (n := 176) (k := 0) (N := 6) (ty := .int) (by decide) (Or.inl ⟨rfl, rfl⟩) dX11_init_211 rfl ac_int rfl (by decide) sh_176 hf50 (Nat.le_of_ble_eq_true rfl) (Nat.le_of_ble_eq_true rfl) ?_
  have hr52 := Fr_mo (m := 177) hr51 (by decide)
  have hf52 := Fz_mo (m := 177) hf50 (by decide)
  refine ev_putR dX11_init_213 ff_X11_92 rfl (Sp_get sh_150 (by decide)) (by decide) (by decide) (by decide) ?_
  have hr53 := Fr_up (m := 177) (a := 150) (k := 43) (b := 176) hr52 (by decide) (by decide)
  refine ev_aload_n (i := 0) dX11_init_216 rfl rfl ?_
  refine ev_bipush (v := 61) dX11_init_217 (r32c rfl) (by decide) ?_
  refine ez_newa (n := 177) (k := 0) (N := 61) (ty := .int) (by decide) (Or.inl ⟨rfl, rfl⟩) dX11_init_219 rfl ac_int rfl (by decide) sh_177 hf52 (Nat.le_of_ble_eq_true rfl) (Nat.le_of_ble_eq_true rfl) ?_
  have hr54 := Fr_mo (m := 178) hr53 (by decide)
  have hf54 := Fz_mo (m := 178) hf52 (by decide)
  refine ev_putR dX11_init_221 ff_X11_95 rfl (Sp_get sh_150 (by decide)) (by decide) (by decide) (by decide) ?_
  have hr55 := Fr_up (m := 178) (a := 150) (k := 44) (b := 177) hr54 (by decide) (by decide)
  refine ev_iconst dX11_init_224 (r32c rfl) ?_
  refine ev_istore_n (i := 1) (L' := [some (vR 150), some (vI 0)]) dX11_init_225 rfl (by decide) rfl ?_
  refine ev_iload_n (i := 1) dX11_init_226 rfl rfl ?_
  refine ev_iconst dX11_init_227 (r32c rfl) ?_
  refine ev_icmp_ge (tgt := 244) dX11_init_228 (by decide) (fun c => absurd c (by decide)) (fun _ => ?_)
  refine ev_aload_n (i := 0) dX11_init_231 rfl rfl ?_
  refine ev_getR (b := 151) dX11_init_232 fl_X11_7 (Sp_get sh_150 (by decide)) (by decide) (by decide) rfl ?_
  refine ev_iload_n (i := 1) dX11_init_235 rfl rfl ?_
  refine ev_iconst dX11_init_236 (r32c rfl) ?_
  refine ex_iast (j := 0) dX11_init_237 (Sp_get sh_151 (by decide)) (by decide) (by decide) rfl ?_
  have hf56 := Fz_up (m := 178) (a := 151) (k := 0) (x := (-1)) hf54 (by decide) (by decide)
  refine ev_iinc (L' := [some (vR 150), some (vI 1)]) dX11_init_238 rfl (by decide) (by decide +kernel) ?_
  refine ev_goto (tgt := 226) dX11_init_241 (by decide) ?_
  refine ev_iload_n (i := 1) dX11_init_226 rfl rfl ?_
  refine ev_iconst dX11_init_227 (r32c rfl) ?_
  refine ev_icmp_ge (tgt := 244) dX11_init_228 (by decide) (fun c => absurd c (by decide)) (fun _ => ?_)
  refine ev_aload_n (i := 0) dX11_init_231 rfl rfl ?_
  refine ev_getR (b := 151) dX11_init_232 fl_X11_7 (Sp_get sh_150 (by decide)) (by decide) (by decide) rfl ?_
  refine ev_iload_n (i := 1) dX11_init_235 rfl rfl ?_
  refine ev_iconst dX11_init_236 (r32c rfl) ?_
  refine ex_iast (j := 1) dX11_init_237 (Sp_get sh_151 (by decide)) (by decide) (by decide) rfl ?_
  have hf57 := Fz_up (m := 178) (a := 151) (k := 1) (x := (-1)) hf56 (by decide) (by decide)
  refine ev_iinc (L' := [some (vR 150), some (vI 2)]) dX11_init_238 rfl (by decide) (by decide +kernel) ?_
  refine ev_goto (tgt := 226) dX11_init_241 (by decide) ?_
  refine ev_iload_n (i := 1) dX11_init_226 rfl rfl ?_
  refine ev_iconst dX11_init_227 (r32c rfl) ?_
  refine ev_icmp_ge (tgt := 244) dX11_init_228 (by decide) (fun c => absurd c (by decide)) (fun _ => ?_)
  refine ev_aload_n (i := 0) dX11_init_231 rfl rfl ?_
  refine ev_getR (b := 151) dX11_init_232 fl_X11_7 (Sp_get sh_150 (by decide)) (by decide) (by decide) rfl ?_
  refine ev_iload_n (i := 1) dX11_init_235 rfl rfl ?_
  refine ev_iconst dX11_init_236 (r32c rfl) ?_
  refine ex_iast (j := 2) dX11_init_237 (Sp_get sh_151 (by decide)) (by decide) (by decide) rfl ?_
  have hf58 := Fz_up (m := 178) (a := 151) (k := 2) (x := (-1)) hf57 (by decide) (by decide)
  refine ev_iinc (L' := [some (vR 150), some (vI 3)]) dX11_init_238 rfl (by decide) (by decide +kernel) ?_
  refine ev_goto (tgt := 226) dX11_init_241 (by decide) ?_
  refine ev_iload_n (i := 1) dX11_init_226 rfl rfl ?_
  refine ev_iconst dX11_init_227 (r32c rfl) ?_
  refine ev_icmp_ge (tgt := 244) dX11_init_228 (by decide) (fun c => absurd c (by decide)) (fun _ => ?_)
  refine ev_aload_n (i := 0) dX11_init_231 rfl rfl ?_
  refine ev_getR (b := 151) dX11_init_232 fl_X11_7 (Sp_get sh_150 (by decide)) (by decide) (by decide) rfl ?_
  refine ev_iload_n (i := 1) dX11_init_235 rfl rfl ?_
  refine ev_iconst dX11_init_236 (r32c rfl) ?_
  refine ex_iast (j := 3) dX11_init_237 (Sp_get sh_151 (by decide)) (by decide) (by decide) rfl ?_
  have hf59 := Fz_up (m := 178) (a := 151) (k := 3) (x := (-1)) hf58 (by decide) (by decide)
  refine ev_iinc (L' := [some (vR 150), some (vI 4)]) dX11_init_238 rfl (by decide) (by decide +kernel) ?_
  refine ev_goto (tgt := 226) dX11_init_241 (by decide) ?_
  refine ev_iload_n (i := 1) dX11_init_226 rfl rfl ?_
  refine ev_iconst dX11_init_227 (r32c rfl) ?_
  refine ev_icmp_ge (tgt := 244) dX11_init_228 (by decide) (fun _ => ?_) (fun c => absurd (by decide) c)
  exact ev_vret rfl dX11_init_244 h
theorem fr_X11_150 {rf : Rf} (h : Fr 151 rf) : Fr 178 (upr (upr (upr (upr (upr (upr (upr (upr (upr (upr (upr (upr (upr (upr (upr (upr (upr (upr (upr (upr (upr (upr (upr (upr (upr (upr (upr rf 150 1 151) 150 2 152) 150 3 153) 150 4 154) 150 5 155) 150 16 156) 150 17 157) 150 18 158) 150 19 159) 150 20 160) 150 21 161) 150 22 162) 150 25 163) 150 26 164) 150 27 165) 150 28 166) 150 29 167) 150 30 168) 150 34 169) 150 35 170) 150 36 171) 150 37 172) 150 38 173) 150 39 174) 150 40 175) 150 43 176) 150 44 177) := (Fr_up (m := 178) (Fr_up (m := 178) (Fr_up (m := 178) (Fr_up (m := 178) (Fr_up (m := 178) (Fr_up (m := 178) (Fr_up (m := 178) (Fr_up (m := 178) (Fr_up (m := 178) (Fr_up (m := 178) (Fr_up (m := 178) (Fr_up (m := 178) (Fr_up (m := 178) (Fr_up (m := 178) (Fr_up (m := 178) (Fr_up (m := 178) (Fr_up (m := 178) (Fr_up (m := 178) (Fr_up (m := 178) (Fr_up (m := 178) (Fr_up (m := 178) (Fr_up (m := 178) (Fr_up (m := 178) (Fr_up (m := 178) (Fr_up (m := 178) (Fr_up (m := 178) (Fr_up (m := 178) (Fr_mo (m := 178) h (by decide)) (Nat.le_refl _) (by decide)) (Nat.le_refl _) (by decide)) (Nat.le_refl _) (by decide)) (Nat.le_refl _) (by decide)) (Nat.le_refl _) (by decide)) (Nat.le_refl _) (by decide)) (Nat.le_refl _) (by decide)) (Nat.le_refl _) (by decide)) (Nat.le_refl _) (by decide)) (Nat.le_refl _) (by decide)) (Nat.le_refl _) (by decide)) (Nat.le_refl _) (by decide)) (Nat.le_refl _) (by decide)) (Nat.le_refl _) (by decide)) (Nat.le_refl _) (by decide)) (Nat.le_refl _) (by decide)) (Nat.le_refl _) (by decide)) (Nat.le_refl _) (by decide)) (Nat.le_refl _) (by decide)) (Nat.le_refl _) (by decide)) (Nat.le_refl _) (by decide)) (Nat.le_refl _) (by decide)) (Nat.le_refl _) (by decide)) (Nat.le_refl _) (by decide)) (Nat.le_refl _) (by decide)) (Nat.le_refl _) (by decide)) (Nat.le_refl _) (by decide))
theorem fz_X11_150 {f : Mm} (h : Fz 151 f) : Fz 178 (up (up (up (up (up f 150 15 (-1)) 151 0 (-1)) 151 1 (-1)) 151 2 (-1)) 151 3 (-1)) := (Fz_up (m := 178) (Fz_up (m := 178) (Fz_up (m := 178) (Fz_up (m := 178) (Fz_up (m := 178) (Fz_mo (m := 178) h (by decide)) (Nat.le_refl _) (by decide)) (Nat.le_refl _) (by decide)) (Nat.le_refl _) (by decide)) (Nat.le_refl _) (by decide)) (Nat.le_refl _) (by decide))

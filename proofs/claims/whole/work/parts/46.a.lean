theorem ist_X10 : Cond.instantiable RX10 11 ∈ tblG := tg_1 21 rfl rfl
theorem ist_X11 : Cond.instantiable RX11 53 ∈ tblG := tg_6 30 rfl rfl
theorem cl_L_7 : Cond.classLink RL 7 RX10 ∈ tblG := tg_1 20 rfl rfl
theorem cl_L_10 : Cond.classLink RL 10 RX11 ∈ tblG := tg_6 29 rfl rfl
theorem ml_L_9i : Cond.methodLink RL 9 yX10_init ∈ tblG := tg_1 22 rfl rfl
theorem ml_L_12i : Cond.methodLink RL 12 yX11_init ∈ tblG := tg_6 31 rfl rfl
theorem ao_i : Cond.arrayOver (.array .int) ∈ lw_tbl := (List.mem_append_right _ (ti_1 _ (List.mem_of_getElem? (i := 83) rfl)))
theorem ao_l : Cond.arrayOver (.array .long) ∈ lw_tbl := (List.mem_append_right _ (ti_1 _ (List.mem_of_getElem? (i := 170) rfl)))
theorem ao_o : Cond.arrayOver (.object RX0) ∈ lw_tbl := (List.mem_append_right _ (ti_1 _ (List.mem_of_getElem? (i := 162) rfl)))
theorem ly_c : Cond.laysStatic "java/lang/String" "COMPACT_STRINGS" "Z" ∈ lw_tbl := (List.mem_append_right _ (ti_2 _ (List.mem_of_getElem? (i := 209) rfl)))
theorem ly_s : Cond.laysStatic "jdk/internal/util/Preconditions" "SIOOBE_FORMATTER" "Ljava/util/function/BiFunction;" ∈ lw_tbl := (List.mem_append_right _ (ti_2 _ (List.mem_of_getElem? (i := 225) rfl)))
theorem iy_c : Cond.initialized "java/lang/String" ∈ lw_tbl := (List.mem_append_right _ (ti_1 _ (List.mem_of_getElem? (i := 13) rfl)))
theorem iy_s : Cond.initialized "jdk/internal/util/Preconditions" ∈ lw_tbl := (List.mem_append_right _ (ti_1 _ (List.mem_of_getElem? (i := 15) rfl)))
theorem dL_law_0 : decode cL_law 0 = .ok (.new 7, 3) := by decide +kernel
theorem dL_law_3 : decode cL_law 3 = .ok (.dup, 1) := by decide +kernel
theorem dL_law_4 : decode cL_law 4 = .ok (.invokespecial 9, 3) := by decide +kernel
theorem dL_law_7 : decode cL_law 7 = .ok (.astore_n 1, 1) := by decide +kernel
theorem dL_law_8 : decode cL_law 8 = .ok (.new 10, 3) := by decide +kernel
theorem dL_law_11 : decode cL_law 11 = .ok (.dup, 1) := by decide +kernel
theorem dL_law_12 : decode cL_law 12 = .ok (.invokespecial 12, 3) := by decide +kernel
theorem dL_law_15 : decode cL_law 15 = .ok (.astore_n 2, 1) := by decide +kernel
def rf0 : Rf := fun _ _ => none
def f00 : Mm := fun _ _ => 0
def rfA : Rf := (upr (upr (upr (upr (upr (urow (upr (urow (upr (upr (upr (upr (upr (upr (urow (upr (urow (upr (upr (upr (upr (upr (upr (urow (upr (urow (upr (upr (upr (urow (upr (upr (urow (upr (upr (upr (upr (upr (upr (upr (upr (upr (upr (upr (upr (upr (upr (upr (upr (upr (urow (upr (upr (upr (upr (upr (upr (urow (upr (upr (upr (upr (upr (upr (upr (urow (upr (urow (upr (upr (upr (upr (upr (upr (urow (upr (urow (upr (upr (upr (upr rf0 2 0 3) 1 2 2) 0 0 1) 4 7 5) 6 4) 4 8 6) 11 6) 4 9 11) 4 10 18) 4 11 19) 4 12 20) 0 1 4) 21 7 22) 23 4) 21 8 23) 28 6) 21 9 28) 21 10 35) 21 11 36) 21 12 37) 0 2 21) 0 3 38) 0 4 39) 41 4) 40 0 41) 40 1 46) 40 2 47) 0 5 40) 48 0 49) 48 1 50) 51 2) 48 6 51) 48 7 54) 48 8 55) 48 9 56) 0 6 48) 57 3 58) 57 4 59) 57 5 60) 57 6 61) 57 7 62) 57 8 63) 57 9 64) 57 10 65) 57 11 66) 0 7 57) 67 2 68) 0 8 67) 70 24) 69 3 70) 0 9 69) 96 2) 95 2 96) 0 10 95) 99 7 100) 101 4) 99 8 101) 106 6) 99 9 106) 99 10 113) 99 11 114) 99 12 115) 38 0 99) 116 7 117) 118 4) 116 8 118) 123 6) 116 9 123) 116 10 130) 116 11 131) 116 12 132) 38 1 116) 133 7 134) 135 4) 133 8 135) 140 6) 133 9 140) 133 10 147) 133 11 148) 133 12 149) 38 2 133)
def fA : Mm := (up (up (up (up (up f00 1 1 (-1)) 46 0 (-1)) 46 1 (-1)) 46 2 (-1)) 46 3 (-1))
def rfB : Rf := (upr (upr (upr (upr (upr (upr (upr (upr (upr (upr (upr (upr (upr (upr (upr (upr (upr (upr (upr (upr (upr (upr (upr (upr (upr (upr (upr rfA 150 1 151) 150 2 152) 150 3 153) 150 4 154) 150 5 155) 150 16 156) 150 17 157) 150 18 158) 150 19 159) 150 20 160) 150 21 161) 150 22 162) 150 25 163) 150 26 164) 150 27 165) 150 28 166) 150 29 167) 150 30 168) 150 34 169) 150 35 170) 150 36 171) 150 37 172) 150 38 173) 150 39 174) 150 40 175) 150 43 176) 150 44 177)
/-- the memory at the start -/
def fZ : Mm := (up (up (up (up (up fA 150 15 (-1)) 151 0 (-1)) 151 1 (-1)) 151 2 (-1)) 151 3 (-1))
theorem hr00 : Fr 0 rf0 := fun _ _ _ => rfl
theorem hf00 : Fz 0 f00 := fun _ _ _ => rfl
theorem hrA : Fr 150 rfA := fr_X10_0 (Fr_mo (m := 1) hr00 (by decide))
theorem hfA : Fz 150 fA := fz_X10_0 (Fz_mo (m := 1) hf00 (by decide))
theorem hrB : Fr 178 rfB := fr_X11_150 (Fr_mo (m := 151) hrA (by decide))
/-- beyond place 64 nothing -/
def Fk (r : Rf) : Prop := ∀ a k, 64 ≤ k → r a k = none
theorem Fk_up {r : Rf} {a k b : Nat} (h : Fk r) (hk : k < 64) : Fk (upr r a k b) := fun x j hj => by
  unfold upr
  rw [if_neg (by omega)]
  exact h x j hj
theorem Fk_ur {r : Rf} {o N : Nat} (h : Fk r) (hN : N ≤ 64) : Fk (urow r o N) := fun x j hj => by
  unfold urow
  rw [if_neg (by omega)]
  exact h x j hj
theorem fkA : Fk rfA := (Fk_up (Fk_up (Fk_up (Fk_up (Fk_up (Fk_ur (Fk_up (Fk_ur (Fk_up (Fk_up (Fk_up (Fk_up (Fk_up (Fk_up (Fk_ur (Fk_up (Fk_ur (Fk_up (Fk_up (Fk_up (Fk_up (Fk_up (Fk_up (Fk_ur (Fk_up (Fk_ur (Fk_up (Fk_up (Fk_up (Fk_ur (Fk_up (Fk_up (Fk_ur (Fk_up (Fk_up (Fk_up (Fk_up (Fk_up (Fk_up (Fk_up (Fk_up (Fk_up (Fk_up (Fk_up (Fk_up (Fk_up (Fk_up (Fk_up (Fk_up (Fk_up (Fk_ur (Fk_up (Fk_up (Fk_up (Fk_up (Fk_up (Fk_up (Fk_ur (Fk_up (Fk_up (Fk_up (Fk_up (Fk_up (Fk_up (Fk_up (Fk_ur (Fk_up (Fk_ur (Fk_up (Fk_up (Fk_up (Fk_up (Fk_up (Fk_up (Fk_ur (Fk_up (Fk_ur (Fk_up (Fk_up (Fk_up (Fk_up (fun _ _ _ => rfl) (by decide)) (by decide)) (by decide)) (by decide)) (by decide)) (by decide)) (by decide)) (by decide)) (by decide)) (by decide)) (by decide)) (by decide)) (by decide)) (by decide)) (by decide)) (by decide)) (by decide)) (by decide)) (by decide)) (by decide)) (by decide)) (by decide)) (by decide)) (by decide)) (by decide)) (by decide)) (by decide)) (by decide)) (by decide)) (by decide)) (by decide)) (by decide)) (by decide)) (by decide)) (by decide)) (by decide)) (by decide)) (by decide)) (by decide)) (by decide)) (by decide)) (by decide)) (by decide)) (by decide)) (by decide)) (by decide)) (by decide)) (by decide)) (by decide)) (by decide)) (by decide)) (by decide)) (by decide)) (by decide)) (by decide)) (by decide)) (by decide)) (by decide)) (by decide)) (by decide)) (by decide)) (by decide)) (by decide)) (by decide)) (by decide)) (by decide)) (by decide)) (by decide)) (by decide)) (by decide)) (by decide)) (by decide)) (by decide)) (by decide)) (by decide)) (by decide)) (by decide)) (by decide)) (by decide)) (by decide)) (by decide))
theorem fkB : Fk rfB := (Fk_up (Fk_up (Fk_up (Fk_up (Fk_up (Fk_up (Fk_up (Fk_up (Fk_up (Fk_up (Fk_up (Fk_up (Fk_up (Fk_up (Fk_up (Fk_up (Fk_up (Fk_up (Fk_up (Fk_up (Fk_up (Fk_up (Fk_up (Fk_up (Fk_up (Fk_up (Fk_up fkA (by decide)) (by decide)) (by decide)) (by decide)) (by decide)) (by decide)) (by decide)) (by decide)) (by decide)) (by decide)) (by decide)) (by decide)) (by decide)) (by decide)) (by decide)) (by decide)) (by decide)) (by decide)) (by decide)) (by decide)) (by decide)) (by decide)) (by decide)) (by decide)) (by decide)) (by decide)) (by decide))
theorem rfT_len : rfT.length = 178 := by decide +kernel
theorem rfT_row : ∀ r ∈ rfT, r.length ≤ 64 := by decide +kernel
theorem rfd_0c : ∀ k, k < 64 → rfB 0 k = RF 0 k := by decide +kernel
theorem rfd_1c : ∀ k, k < 64 → rfB 1 k = RF 1 k := by decide +kernel
theorem rfd_2c : ∀ k, k < 64 → rfB 2 k = RF 2 k := by decide +kernel
theorem rfd_3c : ∀ k, k < 64 → rfB 3 k = RF 3 k := by decide +kernel
theorem rfd_4c : ∀ k, k < 64 → rfB 4 k = RF 4 k := by decide +kernel
theorem rfd_5c : ∀ k, k < 64 → rfB 5 k = RF 5 k := by decide +kernel
theorem rfd_6c : ∀ k, k < 64 → rfB 6 k = RF 6 k := by decide +kernel
theorem rfd_7c : ∀ k, k < 64 → rfB 7 k = RF 7 k := by decide +kernel
theorem rfd_8c : ∀ k, k < 64 → rfB 8 k = RF 8 k := by decide +kernel
theorem rfd_9c : ∀ k, k < 64 → rfB 9 k = RF 9 k := by decide +kernel
theorem rfd_10c : ∀ k, k < 64 → rfB 10 k = RF 10 k := by decide +kernel
theorem rfd_11c : ∀ k, k < 64 → rfB 11 k = RF 11 k := by decide +kernel
theorem rfd_12c : ∀ k, k < 64 → rfB 12 k = RF 12 k := by decide +kernel
theorem rfd_13c : ∀ k, k < 64 → rfB 13 k = RF 13 k := by decide +kernel
theorem rfd_14c : ∀ k, k < 64 → rfB 14 k = RF 14 k := by decide +kernel
theorem rfd_15c : ∀ k, k < 64 → rfB 15 k = RF 15 k := by decide +kernel
theorem rfd_16c : ∀ k, k < 64 → rfB 16 k = RF 16 k := by decide +kernel
theorem rfd_17c : ∀ k, k < 64 → rfB 17 k = RF 17 k := by decide +kernel
theorem rfd_18c : ∀ k, k < 64 → rfB 18 k = RF 18 k := by decide +kernel
theorem rfd_19c : ∀ k, k < 64 → rfB 19 k = RF 19 k := by decide +kernel
theorem rfd_20c : ∀ k, k < 64 → rfB 20 k = RF 20 k := by decide +kernel
theorem rfd_21c : ∀ k, k < 64 → rfB 21 k = RF 21 k := by decide +kernel
theorem rfd_22c : ∀ k, k < 64 → rfB 22 k = RF 22 k := by decide +kernel
theorem rfd_23c : ∀ k, k < 64 → rfB 23 k = RF 23 k := by decide +kernel
theorem rfd_24c : ∀ k, k < 64 → rfB 24 k = RF 24 k := by decide +kernel
theorem rfd_25c : ∀ k, k < 64 → rfB 25 k = RF 25 k := by decide +kernel
theorem rfd_26c : ∀ k, k < 64 → rfB 26 k = RF 26 k := by decide +kernel
theorem rfd_27c : ∀ k, k < 64 → rfB 27 k = RF 27 k := by decide +kernel
theorem rfd_28c : ∀ k, k < 64 → rfB 28 k = RF 28 k := by decide +kernel
theorem rfd_29c : ∀ k, k < 64 → rfB 29 k = RF 29 k := by decide +kernel
theorem rfd_30c : ∀ k, k < 64 → rfB 30 k = RF 30 k := by decide +kernel
theorem rfd_31c : ∀ k, k < 64 → rfB 31 k = RF 31 k := by decide +kernel
theorem rfd_32c : ∀ k, k < 64 → rfB 32 k = RF 32 k := by decide +kernel
theorem rfd_33c : ∀ k, k < 64 → rfB 33 k = RF 33 k := by decide +kernel
theorem rfd_34c : ∀ k, k < 64 → rfB 34 k = RF 34 k := by decide +kernel
theorem rfd_35c : ∀ k, k < 64 → rfB 35 k = RF 35 k := by decide +kernel
theorem rfd_36c : ∀ k, k < 64 → rfB 36 k = RF 36 k := by decide +kernel
theorem rfd_37c : ∀ k, k < 64 → rfB 37 k = RF 37 k := by decide +kernel
theorem rfd_38c : ∀ k, k < 64 → rfB 38 k = RF 38 k := by decide +kernel
theorem rfd_39c : ∀ k, k < 64 → rfB 39 k = RF 39 k := by decide +kernel
theorem rfd_40c : ∀ k, k < 64 → rfB 40 k = RF 40 k := by decide +kernel
theorem rfd_41c : ∀ k, k < 64 → rfB 41 k = RF 41 k := by decide +kernel
theorem rfd_42c : ∀ k, k < 64 → rfB 42 k = RF 42 k := by decide +kernel
theorem rfd_43c : ∀ k, k < 64 → rfB 43 k = RF 43 k := by decide +kernel
theorem rfd_44c : ∀ k, k < 64 → rfB 44 k = RF 44 k := by decide +kernel
theorem rfd_45c : ∀ k, k < 64 → rfB 45 k = RF 45 k := by decide +kernel
theorem rfd_46c : ∀ k, k < 64 → rfB 46 k = RF 46 k := by decide +kernel
theorem rfd_47c : ∀ k, k < 64 → rfB 47 k = RF 47 k := by decide +kernel
theorem rfd_48c : ∀ k, k < 64 → rfB 48 k = RF 48 k := by decide +kernel
theorem rfd_49c : ∀ k, k < 64 → rfB 49 k = RF 49 k := by decide +kernel
theorem rfd_50c : ∀ k, k < 64 → rfB 50 k = RF 50 k := by decide +kernel
theorem rfd_51c : ∀ k, k < 64 → rfB 51 k = RF 51 k := by decide +kernel
theorem rfd_52c : ∀ k, k < 64 → rfB 52 k = RF 52 k := by decide +kernel
theorem rfd_53c : ∀ k, k < 64 → rfB 53 k = RF 53 k := by decide +kernel
theorem rfd_54c : ∀ k, k < 64 → rfB 54 k = RF 54 k := by decide +kernel
theorem rfd_55c : ∀ k, k < 64 → rfB 55 k = RF 55 k := by decide +kernel
theorem rfd_56c : ∀ k, k < 64 → rfB 56 k = RF 56 k := by decide +kernel
theorem rfd_57c : ∀ k, k < 64 → rfB 57 k = RF 57 k := by decide +kernel
theorem rfd_58c : ∀ k, k < 64 → rfB 58 k = RF 58 k := by decide +kernel
theorem rfd_59c : ∀ k, k < 64 → rfB 59 k = RF 59 k := by decide +kernel
theorem rfd_60c : ∀ k, k < 64 → rfB 60 k = RF 60 k := by decide +kernel
theorem rfd_61c : ∀ k, k < 64 → rfB 61 k = RF 61 k := by decide +kernel
theorem rfd_62c : ∀ k, k < 64 → rfB 62 k = RF 62 k := by decide +kernel
theorem rfd_63c : ∀ k, k < 64 → rfB 63 k = RF 63 k := by decide +kernel
theorem rfd_64c : ∀ k, k < 64 → rfB 64 k = RF 64 k := by decide +kernel
theorem rfd_65c : ∀ k, k < 64 → rfB 65 k = RF 65 k := by decide +kernel
theorem rfd_66c : ∀ k, k < 64 → rfB 66 k = RF 66 k := by decide +kernel
theorem rfd_67c : ∀ k, k < 64 → rfB 67 k = RF 67 k := by decide +kernel
theorem rfd_68c : ∀ k, k < 64 → rfB 68 k = RF 68 k := by decide +kernel
theorem rfd_69c : ∀ k, k < 64 → rfB 69 k = RF 69 k := by decide +kernel
theorem rfd_70c : ∀ k, k < 64 → rfB 70 k = RF 70 k := by decide +kernel
theorem rfd_71c : ∀ k, k < 64 → rfB 71 k = RF 71 k := by decide +kernel
theorem rfd_72c : ∀ k, k < 64 → rfB 72 k = RF 72 k := by decide +kernel
theorem rfd_73c : ∀ k, k < 64 → rfB 73 k = RF 73 k := by decide +kernel
theorem rfd_74c : ∀ k, k < 64 → rfB 74 k = RF 74 k := by decide +kernel
theorem rfd_75c : ∀ k, k < 64 → rfB 75 k = RF 75 k := by decide +kernel
theorem rfd_76c : ∀ k, k < 64 → rfB 76 k = RF 76 k := by decide +kernel
theorem rfd_77c : ∀ k, k < 64 → rfB 77 k = RF 77 k := by decide +kernel
theorem rfd_78c : ∀ k, k < 64 → rfB 78 k = RF 78 k := by decide +kernel
theorem rfd_79c : ∀ k, k < 64 → rfB 79 k = RF 79 k := by decide +kernel
theorem rfd_80c : ∀ k, k < 64 → rfB 80 k = RF 80 k := by decide +kernel
theorem rfd_81c : ∀ k, k < 64 → rfB 81 k = RF 81 k := by decide +kernel
theorem rfd_82c : ∀ k, k < 64 → rfB 82 k = RF 82 k := by decide +kernel
theorem rfd_83c : ∀ k, k < 64 → rfB 83 k = RF 83 k := by decide +kernel
theorem rfd_84c : ∀ k, k < 64 → rfB 84 k = RF 84 k := by decide +kernel
theorem rfd_85c : ∀ k, k < 64 → rfB 85 k = RF 85 k := by decide +kernel
theorem rfd_86c : ∀ k, k < 64 → rfB 86 k = RF 86 k := by decide +kernel
theorem rfd_87c : ∀ k, k < 64 → rfB 87 k = RF 87 k := by decide +kernel
theorem rfd_88c : ∀ k, k < 64 → rfB 88 k = RF 88 k := by decide +kernel
theorem rfd_89c : ∀ k, k < 64 → rfB 89 k = RF 89 k := by decide +kernel
theorem rfd_90c : ∀ k, k < 64 → rfB 90 k = RF 90 k := by decide +kernel
theorem rfd_91c : ∀ k, k < 64 → rfB 91 k = RF 91 k := by decide +kernel
theorem rfd_92c : ∀ k, k < 64 → rfB 92 k = RF 92 k := by decide +kernel
theorem rfd_93c : ∀ k, k < 64 → rfB 93 k = RF 93 k := by decide +kernel
theorem rfd_94c : ∀ k, k < 64 → rfB 94 k = RF 94 k := by decide +kernel
theorem rfd_95c : ∀ k, k < 64 → rfB 95 k = RF 95 k := by decide +kernel
theorem rfd_96c : ∀ k, k < 64 → rfB 96 k = RF 96 k := by decide +kernel
theorem rfd_97c : ∀ k, k < 64 → rfB 97 k = RF 97 k := by decide +kernel
theorem rfd_98c : ∀ k, k < 64 → rfB 98 k = RF 98 k := by decide +kernel
theorem rfd_99c : ∀ k, k < 64 → rfB 99 k = RF 99 k := by decide +kernel
theorem rfd_100c : ∀ k, k < 64 → rfB 100 k = RF 100 k := by decide +kernel
theorem rfd_101c : ∀ k, k < 64 → rfB 101 k = RF 101 k := by decide +kernel
theorem rfd_102c : ∀ k, k < 64 → rfB 102 k = RF 102 k := by decide +kernel
theorem rfd_103c : ∀ k, k < 64 → rfB 103 k = RF 103 k := by decide +kernel
theorem rfd_104c : ∀ k, k < 64 → rfB 104 k = RF 104 k := by decide +kernel
theorem rfd_105c : ∀ k, k < 64 → rfB 105 k = RF 105 k := by decide +kernel
theorem rfd_106c : ∀ k, k < 64 → rfB 106 k = RF 106 k := by decide +kernel
theorem rfd_107c : ∀ k, k < 64 → rfB 107 k = RF 107 k := by decide +kernel
theorem rfd_108c : ∀ k, k < 64 → rfB 108 k = RF 108 k := by decide +kernel
theorem rfd_109c : ∀ k, k < 64 → rfB 109 k = RF 109 k := by decide +kernel
theorem rfd_110c : ∀ k, k < 64 → rfB 110 k = RF 110 k := by decide +kernel
theorem rfd_111c : ∀ k, k < 64 → rfB 111 k = RF 111 k := by decide +kernel
theorem rfd_112c : ∀ k, k < 64 → rfB 112 k = RF 112 k := by decide +kernel
theorem rfd_113c : ∀ k, k < 64 → rfB 113 k = RF 113 k := by decide +kernel
theorem rfd_114c : ∀ k, k < 64 → rfB 114 k = RF 114 k := by decide +kernel
theorem rfd_115c : ∀ k, k < 64 → rfB 115 k = RF 115 k := by decide +kernel
theorem rfd_116c : ∀ k, k < 64 → rfB 116 k = RF 116 k := by decide +kernel
theorem rfd_117c : ∀ k, k < 64 → rfB 117 k = RF 117 k := by decide +kernel
theorem rfd_118c : ∀ k, k < 64 → rfB 118 k = RF 118 k := by decide +kernel
theorem rfd_119c : ∀ k, k < 64 → rfB 119 k = RF 119 k := by decide +kernel
theorem rfd_120c : ∀ k, k < 64 → rfB 120 k = RF 120 k := by decide +kernel
theorem rfd_121c : ∀ k, k < 64 → rfB 121 k = RF 121 k := by decide +kernel
theorem rfd_122c : ∀ k, k < 64 → rfB 122 k = RF 122 k := by decide +kernel
theorem rfd_123c : ∀ k, k < 64 → rfB 123 k = RF 123 k := by decide +kernel
theorem rfd_124c : ∀ k, k < 64 → rfB 124 k = RF 124 k := by decide +kernel
theorem rfd_125c : ∀ k, k < 64 → rfB 125 k = RF 125 k := by decide +kernel
theorem rfd_126c : ∀ k, k < 64 → rfB 126 k = RF 126 k := by decide +kernel
theorem rfd_127c : ∀ k, k < 64 → rfB 127 k = RF 127 k := by decide +kernel
theorem rfd_128c : ∀ k, k < 64 → rfB 128 k = RF 128 k := by decide +kernel
theorem rfd_129c : ∀ k, k < 64 → rfB 129 k = RF 129 k := by decide +kernel
theorem rfd_130c : ∀ k, k < 64 → rfB 130 k = RF 130 k := by decide +kernel
theorem rfd_131c : ∀ k, k < 64 → rfB 131 k = RF 131 k := by decide +kernel
theorem rfd_132c : ∀ k, k < 64 → rfB 132 k = RF 132 k := by decide +kernel
theorem rfd_133c : ∀ k, k < 64 → rfB 133 k = RF 133 k := by decide +kernel
theorem rfd_134c : ∀ k, k < 64 → rfB 134 k = RF 134 k := by decide +kernel
theorem rfd_135c : ∀ k, k < 64 → rfB 135 k = RF 135 k := by decide +kernel
theorem rfd_136c : ∀ k, k < 64 → rfB 136 k = RF 136 k := by decide +kernel
theorem rfd_137c : ∀ k, k < 64 → rfB 137 k = RF 137 k := by decide +kernel
theorem rfd_138c : ∀ k, k < 64 → rfB 138 k = RF 138 k := by decide +kernel
theorem rfd_139c : ∀ k, k < 64 → rfB 139 k = RF 139 k := by decide +kernel
theorem rfd_140c : ∀ k, k < 64 → rfB 140 k = RF 140 k := by decide +kernel
theorem rfd_141c : ∀ k, k < 64 → rfB 141 k = RF 141 k := by decide +kernel
theorem rfd_142c : ∀ k, k < 64 → rfB 142 k = RF 142 k := by decide +kernel
theorem rfd_143c : ∀ k, k < 64 → rfB 143 k = RF 143 k := by decide +kernel
theorem rfd_144c : ∀ k, k < 64 → rfB 144 k = RF 144 k := by decide +kernel
theorem rfd_145c : ∀ k, k < 64 → rfB 145 k = RF 145 k := by decide +kernel
theorem rfd_146c : ∀ k, k < 64 → rfB 146 k = RF 146 k := by decide +kernel
theorem rfd_147c : ∀ k, k < 64 → rfB 147 k = RF 147 k := by decide +kernel
theorem rfd_148c : ∀ k, k < 64 → rfB 148 k = RF 148 k := by decide +kernel
theorem rfd_149c : ∀ k, k < 64 → rfB 149 k = RF 149 k := by decide +kernel
theorem rfd_150c : ∀ k, k < 64 → rfB 150 k = RF 150 k := by decide +kernel
theorem rfd_151c : ∀ k, k < 64 → rfB 151 k = RF 151 k := by decide +kernel
theorem rfd_152c : ∀ k, k < 64 → rfB 152 k = RF 152 k := by decide +kernel
theorem rfd_153c : ∀ k, k < 64 → rfB 153 k = RF 153 k := by decide +kernel
theorem rfd_154c : ∀ k, k < 64 → rfB 154 k = RF 154 k := by decide +kernel
theorem rfd_155c : ∀ k, k < 64 → rfB 155 k = RF 155 k := by decide +kernel
theorem rfd_156c : ∀ k, k < 64 → rfB 156 k = RF 156 k := by decide +kernel
theorem rfd_157c : ∀ k, k < 64 → rfB 157 k = RF 157 k := by decide +kernel
theorem rfd_158c : ∀ k, k < 64 → rfB 158 k = RF 158 k := by decide +kernel
theorem rfd_159c : ∀ k, k < 64 → rfB 159 k = RF 159 k := by decide +kernel
theorem rfd_160c : ∀ k, k < 64 → rfB 160 k = RF 160 k := by decide +kernel
theorem rfd_161c : ∀ k, k < 64 → rfB 161 k = RF 161 k := by decide +kernel
theorem rfd_162c : ∀ k, k < 64 → rfB 162 k = RF 162 k := by decide +kernel
theorem rfd_163c : ∀ k, k < 64 → rfB 163 k = RF 163 k := by decide +kernel
theorem rfd_164c : ∀ k, k < 64 → rfB 164 k = RF 164 k := by decide +kernel
theorem rfd_165c : ∀ k, k < 64 → rfB 165 k = RF 165 k := by decide +kernel
theorem rfd_166c : ∀ k, k < 64 → rfB 166 k = RF 166 k := by decide +kernel
theorem rfd_167c : ∀ k, k < 64 → rfB 167 k = RF 167 k := by decide +kernel
theorem rfd_168c : ∀ k, k < 64 → rfB 168 k = RF 168 k := by decide +kernel
theorem rfd_169c : ∀ k, k < 64 → rfB 169 k = RF 169 k := by decide +kernel
theorem rfd_170c : ∀ k, k < 64 → rfB 170 k = RF 170 k := by decide +kernel
theorem rfd_171c : ∀ k, k < 64 → rfB 171 k = RF 171 k := by decide +kernel
theorem rfd_172c : ∀ k, k < 64 → rfB 172 k = RF 172 k := by decide +kernel
theorem rfd_173c : ∀ k, k < 64 → rfB 173 k = RF 173 k := by decide +kernel
theorem rfd_174c : ∀ k, k < 64 → rfB 174 k = RF 174 k := by decide +kernel
theorem rfd_175c : ∀ k, k < 64 → rfB 175 k = RF 175 k := by decide +kernel
theorem rfd_176c : ∀ k, k < 64 → rfB 176 k = RF 176 k := by decide +kernel
theorem rfd_177c : ∀ k, k < 64 → rfB 177 k = RF 177 k := by decide +kernel
theorem rf_dec : ∀ a, a < 178 → ∀ k, k < 64 → rfB a k = RF a k
  | 0, _ => rfd_0c
  | 1, _ => rfd_1c
  | 2, _ => rfd_2c
  | 3, _ => rfd_3c
  | 4, _ => rfd_4c
  | 5, _ => rfd_5c
  | 6, _ => rfd_6c
  | 7, _ => rfd_7c
  | 8, _ => rfd_8c
  | 9, _ => rfd_9c
  | 10, _ => rfd_10c
  | 11, _ => rfd_11c
  | 12, _ => rfd_12c
  | 13, _ => rfd_13c
  | 14, _ => rfd_14c
  | 15, _ => rfd_15c
  | 16, _ => rfd_16c
  | 17, _ => rfd_17c
  | 18, _ => rfd_18c
  | 19, _ => rfd_19c
  | 20, _ => rfd_20c
  | 21, _ => rfd_21c
  | 22, _ => rfd_22c
  | 23, _ => rfd_23c
  | 24, _ => rfd_24c
  | 25, _ => rfd_25c
  | 26, _ => rfd_26c
  | 27, _ => rfd_27c
  | 28, _ => rfd_28c
  | 29, _ => rfd_29c
  | 30, _ => rfd_30c
  | 31, _ => rfd_31c
  | 32, _ => rfd_32c
  | 33, _ => rfd_33c
  | 34, _ => rfd_34c
  | 35, _ => rfd_35c
  | 36, _ => rfd_36c
  | 37, _ => rfd_37c
  | 38, _ => rfd_38c
  | 39, _ => rfd_39c
  | 40, _ => rfd_40c
  | 41, _ => rfd_41c
  | 42, _ => rfd_42c
  | 43, _ => rfd_43c
  | 44, _ => rfd_44c
  | 45, _ => rfd_45c
  | 46, _ => rfd_46c
  | 47, _ => rfd_47c
  | 48, _ => rfd_48c
  | 49, _ => rfd_49c
  | 50, _ => rfd_50c
  | 51, _ => rfd_51c
  | 52, _ => rfd_52c
  | 53, _ => rfd_53c
  | 54, _ => rfd_54c
  | 55, _ => rfd_55c
  | 56, _ => rfd_56c
  | 57, _ => rfd_57c
  | 58, _ => rfd_58c
  | 59, _ => rfd_59c
  | 60, _ => rfd_60c
  | 61, _ => rfd_61c
  | 62, _ => rfd_62c
  | 63, _ => rfd_63c
  | 64, _ => rfd_64c
  | 65, _ => rfd_65c
  | 66, _ => rfd_66c
  | 67, _ => rfd_67c
  | 68, _ => rfd_68c
  | 69, _ => rfd_69c
  | 70, _ => rfd_70c
  | 71, _ => rfd_71c
  | 72, _ => rfd_72c
  | 73, _ => rfd_73c
  | 74, _ => rfd_74c
  | 75, _ => rfd_75c
  | 76, _ => rfd_76c
  | 77, _ => rfd_77c
  | 78, _ => rfd_78c
  | 79, _ => rfd_79c
  | 80, _ => rfd_80c
  | 81, _ => rfd_81c
  | 82, _ => rfd_82c
  | 83, _ => rfd_83c
  | 84, _ => rfd_84c
  | 85, _ => rfd_85c
  | 86, _ => rfd_86c
  | 87, _ => rfd_87c
  | 88, _ => rfd_88c
  | 89, _ => rfd_89c
  | 90, _ => rfd_90c
  | 91, _ => rfd_91c
  | 92, _ => rfd_92c
  | 93, _ => rfd_93c
  | 94, _ => rfd_94c
  | 95, _ => rfd_95c
  | 96, _ => rfd_96c
  | 97, _ => rfd_97c
  | 98, _ => rfd_98c
  | 99, _ => rfd_99c
  | 100, _ => rfd_100c
  | 101, _ => rfd_101c
  | 102, _ => rfd_102c
  | 103, _ => rfd_103c
  | 104, _ => rfd_104c
  | 105, _ => rfd_105c
  | 106, _ => rfd_106c
  | 107, _ => rfd_107c
  | 108, _ => rfd_108c
  | 109, _ => rfd_109c
  | 110, _ => rfd_110c
  | 111, _ => rfd_111c
  | 112, _ => rfd_112c
  | 113, _ => rfd_113c
  | 114, _ => rfd_114c
  | 115, _ => rfd_115c
  | 116, _ => rfd_116c
  | 117, _ => rfd_117c
  | 118, _ => rfd_118c
  | 119, _ => rfd_119c
  | 120, _ => rfd_120c
  | 121, _ => rfd_121c
  | 122, _ => rfd_122c
  | 123, _ => rfd_123c
  | 124, _ => rfd_124c
  | 125, _ => rfd_125c
  | 126, _ => rfd_126c
  | 127, _ => rfd_127c
  | 128, _ => rfd_128c
  | 129, _ => rfd_129c
  | 130, _ => rfd_130c
  | 131, _ => rfd_131c
  | 132, _ => rfd_132c
  | 133, _ => rfd_133c
  | 134, _ => rfd_134c
  | 135, _ => rfd_135c
  | 136, _ => rfd_136c
  | 137, _ => rfd_137c
  | 138, _ => rfd_138c
  | 139, _ => rfd_139c
  | 140, _ => rfd_140c
  | 141, _ => rfd_141c
  | 142, _ => rfd_142c
  | 143, _ => rfd_143c
  | 144, _ => rfd_144c
  | 145, _ => rfd_145c
  | 146, _ => rfd_146c
  | 147, _ => rfd_147c
  | 148, _ => rfd_148c
  | 149, _ => rfd_149c
  | 150, _ => rfd_150c
  | 151, _ => rfd_151c
  | 152, _ => rfd_152c
  | 153, _ => rfd_153c
  | 154, _ => rfd_154c
  | 155, _ => rfd_155c
  | 156, _ => rfd_156c
  | 157, _ => rfd_157c
  | 158, _ => rfd_158c
  | 159, _ => rfd_159c
  | 160, _ => rfd_160c
  | 161, _ => rfd_161c
  | 162, _ => rfd_162c
  | 163, _ => rfd_163c
  | 164, _ => rfd_164c
  | 165, _ => rfd_165c
  | 166, _ => rfd_166c
  | 167, _ => rfd_167c
  | 168, _ => rfd_168c
  | 169, _ => rfd_169c
  | 170, _ => rfd_170c
  | 171, _ => rfd_171c
  | 172, _ => rfd_172c
  | 173, _ => rfd_173c
  | 174, _ => rfd_174c
  | 175, _ => rfd_175c
  | 176, _ => rfd_176c
  | 177, _ => rfd_177c
  | a + 178, h => absurd h (by omega)
theorem rf_is : rfB = RF := by
  funext a k
  by_cases ha : a < 178
  · by_cases hk : k < 64
    · exact rf_dec a ha k hk
    · rw [fkB a k (by omega)]
      unfold RF
      have : (rfT.getD a []).length ≤ 64 := by
        rw [List.getD_eq_getElem?_getD]
        cases hq : rfT[a]? with
        | none => simp
        | some r => exact rfT_row r (List.mem_of_getElem? hq)
      rw [List.getD_eq_getElem?_getD, List.getElem?_eq_none (by omega)]
      rfl
  · rw [hrB a (by omega) k]
    unfold RF
    rw [List.getD_eq_getElem?_getD (l := rfT), List.getElem?_eq_none (by rw [rfT_len]; omega)]
    rfl
theorem sp_is : Sp 178 = SH := by unfold Sp; exact List.take_of_length_le (by rw [SH_len]; exact Nat.le_refl _)

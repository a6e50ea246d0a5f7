abbrev MJ0_coder_7d493 : MT := (yJ0_coder_7d493, cJ0_coder_7d493, 1, (some .byte))
theorem in_J0 : Cond.initialized RJ0 ∈ tblG := tg_1 13 rfl rfl
theorem coJ0_coder_7d493 : CO MJ0_coder_7d493 0 := ⟨tg_2 207 rfl rfl, in_J0, ⟨by decide +kernel, by decide +kernel⟩, by decide +kernel⟩
theorem im_J0_coder_7d493 : Cond.instanceMethod yJ0_coder_7d493 ∈ tblG := tg_2 205 rfl rfl
theorem se_J0_coder_7d493 : Cond.selects RJ0 yJ0_coder_7d493 yJ0_coder_7d493 ∈ tblG := tg_2 206 rfl rfl
abbrev MJ0_isLatin1_aae02 : MT := (yJ0_isLatin1_aae02, cJ0_isLatin1_aae02, 1, (some .boolean))
theorem coJ0_isLatin1_aae02 : CO MJ0_isLatin1_aae02 0 := ⟨tg_2 217 rfl rfl, in_J0, ⟨by decide +kernel, by decide +kernel⟩, by decide +kernel⟩
theorem im_J0_isLatin1_aae02 : Cond.instanceMethod yJ0_isLatin1_aae02 ∈ tblG := tg_2 215 rfl rfl
theorem se_J0_isLatin1_aae02 : Cond.selects RJ0 yJ0_isLatin1_aae02 yJ0_isLatin1_aae02 ∈ tblG := tg_2 216 rfl rfl
abbrev MJ3_checkIndex_8e157 : MT := (yJ3_checkIndex_8e157, cJ3_checkIndex_8e157, 3, (some .int))
theorem in_J3 : Cond.initialized RJ3 ∈ tblG := tg_1 15 rfl rfl
theorem coJ3_checkIndex_8e157 : CO MJ3_checkIndex_8e157 3 := ⟨tg_2 228 rfl rfl, in_J3, ⟨by decide +kernel, by decide +kernel⟩, by decide +kernel⟩
theorem sm_J3_checkIndex_8e157 : Cond.static yJ3_checkIndex_8e157 ∈ tblG := tg_2 227 rfl rfl
theorem ksJ3_checkIndex_8e157 : KS MJ3_checkIndex_8e157 3 := ⟨coJ3_checkIndex_8e157, sm_J3_checkIndex_8e157⟩
abbrev MJ0_checkIndex_df160 : MT := (yJ0_checkIndex_df160, cJ0_checkIndex_df160, 2, none)
theorem coJ0_checkIndex_df160 : CO MJ0_checkIndex_df160 2 := ⟨tg_2 223 rfl rfl, in_J0, ⟨by decide +kernel, by decide +kernel⟩, by decide +kernel⟩
theorem sm_J0_checkIndex_df160 : Cond.static yJ0_checkIndex_df160 ∈ tblG := tg_2 222 rfl rfl
theorem ksJ0_checkIndex_df160 : KS MJ0_checkIndex_df160 2 := ⟨coJ0_checkIndex_df160, sm_J0_checkIndex_df160⟩
abbrev MJ1_charAt_3b067 : MT := (yJ1_charAt_3b067, cJ1_charAt_3b067, 2, (some .char))
theorem in_J1 : Cond.initialized RJ1 ∈ tblG := tg_1 14 rfl rfl
theorem coJ1_charAt_3b067 : CO MJ1_charAt_3b067 2 := ⟨tg_2 220 rfl rfl, in_J1, ⟨by decide +kernel, by decide +kernel⟩, by decide +kernel⟩
theorem sm_J1_charAt_3b067 : Cond.static yJ1_charAt_3b067 ∈ tblG := tg_2 219 rfl rfl
theorem ksJ1_charAt_3b067 : KS MJ1_charAt_3b067 2 := ⟨coJ1_charAt_3b067, sm_J1_charAt_3b067⟩
abbrev MJ0_length_8abf5 : MT := (yJ0_length_8abf5, cJ0_length_8abf5, 1, (some .int))
theorem coJ0_length_8abf5 : CO MJ0_length_8abf5 0 := ⟨tg_2 203 rfl rfl, in_J0, ⟨by decide +kernel, by decide +kernel⟩, by decide +kernel⟩
theorem im_J0_length_8abf5 : Cond.instanceMethod yJ0_length_8abf5 ∈ tblG := tg_2 201 rfl rfl
theorem se_J0_length_8abf5 : Cond.selects RJ0 yJ0_length_8abf5 yJ0_length_8abf5 ∈ tblG := tg_2 202 rfl rfl
abbrev MJ0_charAt_5068e : MT := (yJ0_charAt_5068e, cJ0_charAt_5068e, 2, (some .char))
theorem coJ0_charAt_5068e : CO MJ0_charAt_5068e 1 := ⟨tg_2 213 rfl rfl, in_J0, ⟨by decide +kernel, by decide +kernel⟩, by decide +kernel⟩
theorem im_J0_charAt_5068e : Cond.instanceMethod yJ0_charAt_5068e ∈ tblG := tg_2 211 rfl rfl
theorem se_J0_charAt_5068e : Cond.selects RJ0 yJ0_charAt_5068e yJ0_charAt_5068e ∈ tblG := tg_2 212 rfl rfl
theorem sfl_9 : Cond.fieldLink "java/lang/String" 9 "java/lang/String" "value" "[B" ∈ tblG := tg_9 116 rfl rfl
theorem sfl_15 : Cond.fieldLink "java/lang/String" 15 "java/lang/String" "coder" "B" ∈ tblG := tg_9 117 rfl rfl
theorem sfl_38 : Cond.fieldLink "java/lang/String" 38 "java/lang/String" "COMPACT_STRINGS" "Z" ∈ tblG := tg_2 208 rfl rfl
theorem sfl_1053 : Cond.fieldLink "java/lang/String" 1053 "jdk/internal/util/Preconditions" "SIOOBE_FORMATTER" "Ljava/util/function/BiFunction;" ∈ tblG := tg_2 224 rfl rfl
theorem ml_J0_335 : Cond.methodLink RJ0 335 yJ0_coder_7d493 ∈ tblG := tg_2 204 rfl rfl
theorem ml_J0_492 : Cond.methodLink RJ0 492 yJ0_isLatin1_aae02 ∈ tblG := tg_2 214 rfl rfl
theorem ml_J0_495 : Cond.methodLink RJ0 495 yJ1_charAt_3b067 ∈ tblG := tg_2 218 rfl rfl
theorem ml_J0_1059 : Cond.methodLink RJ0 1059 yJ3_checkIndex_8e157 ∈ tblG := tg_2 226 rfl rfl
theorem ml_J1_9 : Cond.methodLink RJ1 9 yJ0_checkIndex_df160 ∈ tblG := tg_2 221 rfl rfl
theorem ac_nat : Cond.native arraycopyName ∈ tblG := tg_6 28 rfl rfl
theorem ac_sta : Cond.static arraycopyName ∈ tblG := tg_6 27 rfl rfl
theorem ac_ini : Cond.initialized "java/lang/System" ∈ tblG := tg_1 19 rfl rfl
theorem ac_lk_X10_417 : Cond.methodLink RX10 417 arraycopyName ∈ tblG := tg_6 26 rfl rfl
theorem dJ0_coder_7d493_0 : decode cJ0_coder_7d493 0 = .ok (.getstatic 38, 3) := by decide +kernel
theorem dJ0_coder_7d493_3 : decode cJ0_coder_7d493 3 = .ok (.ifCond .eq 10, 3) := by decide +kernel
theorem dJ0_coder_7d493_6 : decode cJ0_coder_7d493 6 = .ok (.aload_n 0, 1) := by decide +kernel
theorem dJ0_coder_7d493_7 : decode cJ0_coder_7d493 7 = .ok (.getfield 15, 3) := by decide +kernel
theorem dJ0_coder_7d493_10 : decode cJ0_coder_7d493 10 = .ok (.goto 4, 3) := by decide +kernel
theorem dJ0_coder_7d493_13 : decode cJ0_coder_7d493 13 = .ok (.iconst 1, 1) := by decide +kernel
theorem dJ0_coder_7d493_14 : decode cJ0_coder_7d493 14 = .ok (.ireturn, 1) := by decide +kernel
theorem dJ0_isLatin1_aae02_0 : decode cJ0_isLatin1_aae02 0 = .ok (.getstatic 38, 3) := by decide +kernel
theorem dJ0_isLatin1_aae02_3 : decode cJ0_isLatin1_aae02 3 = .ok (.ifCond .eq 14, 3) := by decide +kernel
theorem dJ0_isLatin1_aae02_6 : decode cJ0_isLatin1_aae02 6 = .ok (.aload_n 0, 1) := by decide +kernel
theorem dJ0_isLatin1_aae02_7 : decode cJ0_isLatin1_aae02 7 = .ok (.getfield 15, 3) := by decide +kernel
theorem dJ0_isLatin1_aae02_10 : decode cJ0_isLatin1_aae02 10 = .ok (.ifCond .ne 7, 3) := by decide +kernel
theorem dJ0_isLatin1_aae02_13 : decode cJ0_isLatin1_aae02 13 = .ok (.iconst 1, 1) := by decide +kernel
theorem dJ0_isLatin1_aae02_14 : decode cJ0_isLatin1_aae02 14 = .ok (.goto 4, 3) := by decide +kernel
theorem dJ0_isLatin1_aae02_17 : decode cJ0_isLatin1_aae02 17 = .ok (.iconst 0, 1) := by decide +kernel
theorem dJ0_isLatin1_aae02_18 : decode cJ0_isLatin1_aae02 18 = .ok (.ireturn, 1) := by decide +kernel
theorem dJ3_checkIndex_8e157_0 : decode cJ3_checkIndex_8e157 0 = .ok (.iload_n 0, 1) := by decide +kernel
theorem dJ3_checkIndex_8e157_1 : decode cJ3_checkIndex_8e157 1 = .ok (.ifCond .lt 8, 3) := by decide +kernel
theorem dJ3_checkIndex_8e157_4 : decode cJ3_checkIndex_8e157 4 = .ok (.iload_n 0, 1) := by decide +kernel
theorem dJ3_checkIndex_8e157_5 : decode cJ3_checkIndex_8e157 5 = .ok (.iload_n 1, 1) := by decide +kernel
theorem dJ3_checkIndex_8e157_6 : decode cJ3_checkIndex_8e157 6 = .ok (.if_icmp .lt 10, 3) := by decide +kernel
theorem dJ3_checkIndex_8e157_9 : decode cJ3_checkIndex_8e157 9 = .ok (.aload_n 2, 1) := by decide +kernel
theorem dJ3_checkIndex_8e157_10 : decode cJ3_checkIndex_8e157 10 = .ok (.iload_n 0, 1) := by decide +kernel
theorem dJ3_checkIndex_8e157_11 : decode cJ3_checkIndex_8e157 11 = .ok (.iload_n 1, 1) := by decide +kernel
theorem dJ3_checkIndex_8e157_12 : decode cJ3_checkIndex_8e157 12 = .ok (.invokestatic 95, 3) := by decide +kernel
theorem dJ3_checkIndex_8e157_15 : decode cJ3_checkIndex_8e157 15 = .ok (.athrow, 1) := by decide +kernel
theorem dJ3_checkIndex_8e157_16 : decode cJ3_checkIndex_8e157 16 = .ok (.iload_n 0, 1) := by decide +kernel
theorem dJ3_checkIndex_8e157_17 : decode cJ3_checkIndex_8e157 17 = .ok (.ireturn, 1) := by decide +kernel
theorem dJ0_checkIndex_df160_0 : decode cJ0_checkIndex_df160 0 = .ok (.iload_n 0, 1) := by decide +kernel
theorem dJ0_checkIndex_df160_1 : decode cJ0_checkIndex_df160 1 = .ok (.iload_n 1, 1) := by decide +kernel
theorem dJ0_checkIndex_df160_2 : decode cJ0_checkIndex_df160 2 = .ok (.getstatic 1053, 3) := by decide +kernel
theorem dJ0_checkIndex_df160_5 : decode cJ0_checkIndex_df160 5 = .ok (.invokestatic 1059, 3) := by decide +kernel
theorem dJ0_checkIndex_df160_8 : decode cJ0_checkIndex_df160 8 = .ok (.pop, 1) := by decide +kernel
theorem dJ0_checkIndex_df160_9 : decode cJ0_checkIndex_df160 9 = .ok (.return_, 1) := by decide +kernel
theorem dJ1_charAt_3b067_0 : decode cJ1_charAt_3b067 0 = .ok (.iload_n 1, 1) := by decide +kernel
theorem dJ1_charAt_3b067_1 : decode cJ1_charAt_3b067 1 = .ok (.aload_n 0, 1) := by decide +kernel
theorem dJ1_charAt_3b067_2 : decode cJ1_charAt_3b067 2 = .ok (.arraylength, 1) := by decide +kernel
theorem dJ1_charAt_3b067_3 : decode cJ1_charAt_3b067 3 = .ok (.invokestatic 9, 3) := by decide +kernel
theorem dJ1_charAt_3b067_6 : decode cJ1_charAt_3b067 6 = .ok (.aload_n 0, 1) := by decide +kernel
theorem dJ1_charAt_3b067_7 : decode cJ1_charAt_3b067 7 = .ok (.iload_n 1, 1) := by decide +kernel
theorem dJ1_charAt_3b067_8 : decode cJ1_charAt_3b067 8 = .ok (.baload, 1) := by decide +kernel
theorem dJ1_charAt_3b067_9 : decode cJ1_charAt_3b067 9 = .ok (.sipush 255, 3) := by decide +kernel
theorem dJ1_charAt_3b067_12 : decode cJ1_charAt_3b067 12 = .ok (.iand, 1) := by decide +kernel
theorem dJ1_charAt_3b067_13 : decode cJ1_charAt_3b067 13 = .ok (.i2c, 1) := by decide +kernel
theorem dJ1_charAt_3b067_14 : decode cJ1_charAt_3b067 14 = .ok (.ireturn, 1) := by decide +kernel
theorem dJ0_length_8abf5_0 : decode cJ0_length_8abf5 0 = .ok (.aload_n 0, 1) := by decide +kernel
theorem dJ0_length_8abf5_1 : decode cJ0_length_8abf5 1 = .ok (.getfield 9, 3) := by decide +kernel
theorem dJ0_length_8abf5_4 : decode cJ0_length_8abf5 4 = .ok (.arraylength, 1) := by decide +kernel
theorem dJ0_length_8abf5_5 : decode cJ0_length_8abf5 5 = .ok (.aload_n 0, 1) := by decide +kernel
theorem dJ0_length_8abf5_6 : decode cJ0_length_8abf5 6 = .ok (.invokevirtual 335, 3) := by decide +kernel
theorem dJ0_length_8abf5_9 : decode cJ0_length_8abf5 9 = .ok (.ishr, 1) := by decide +kernel
theorem dJ0_length_8abf5_10 : decode cJ0_length_8abf5 10 = .ok (.ireturn, 1) := by decide +kernel
theorem dJ0_charAt_5068e_0 : decode cJ0_charAt_5068e 0 = .ok (.aload_n 0, 1) := by decide +kernel
theorem dJ0_charAt_5068e_1 : decode cJ0_charAt_5068e 1 = .ok (.invokevirtual 492, 3) := by decide +kernel
theorem dJ0_charAt_5068e_4 : decode cJ0_charAt_5068e 4 = .ok (.ifCond .eq 12, 3) := by decide +kernel
theorem dJ0_charAt_5068e_7 : decode cJ0_charAt_5068e 7 = .ok (.aload_n 0, 1) := by decide +kernel
theorem dJ0_charAt_5068e_8 : decode cJ0_charAt_5068e 8 = .ok (.getfield 9, 3) := by decide +kernel
theorem dJ0_charAt_5068e_11 : decode cJ0_charAt_5068e 11 = .ok (.iload_n 1, 1) := by decide +kernel
theorem dJ0_charAt_5068e_12 : decode cJ0_charAt_5068e 12 = .ok (.invokestatic 495, 3) := by decide +kernel
theorem dJ0_charAt_5068e_15 : decode cJ0_charAt_5068e 15 = .ok (.ireturn, 1) := by decide +kernel
theorem dJ0_charAt_5068e_16 : decode cJ0_charAt_5068e 16 = .ok (.aload_n 0, 1) := by decide +kernel
theorem dJ0_charAt_5068e_17 : decode cJ0_charAt_5068e 17 = .ok (.getfield 9, 3) := by decide +kernel
theorem dJ0_charAt_5068e_20 : decode cJ0_charAt_5068e 20 = .ok (.iload_n 1, 1) := by decide +kernel
theorem dJ0_charAt_5068e_21 : decode cJ0_charAt_5068e 21 = .ok (.invokestatic 498, 3) := by decide +kernel
theorem dJ0_charAt_5068e_24 : decode cJ0_charAt_5068e 24 = .ok (.ireturn, 1) := by decide +kernel
theorem sch_ok : ∀ i, i < 16 → ∀ j, j < lenS.getD i 0 → 0 ≤ ((bytS.getD i []).getD j 0 &&& 255).toInt ∧ ((bytS.getD i []).getD j 0 &&& 255).toInt < 128 := by decide +kernel
section StrM
variable {G : GT} {l : Launch} {Q : Option AV → Mem → Prop} {μ : Mem}
theorem TJ_coder {i : Nat} (hi : i < 16) (h : Q (some (vI 0)) μ) : Ret G l MJ0_coder_7d493 1 0 0 [vR (100001 + i)] μ Q := by
  refine ret_of (L := [some (vR (100001 + i))]) (by decide) rfl (Nat.le_of_ble_eq_true rfl) ?_
  refine ev_strP dJ0_coder_7d493_0 sfl_38 ?_
  refine ev_if_eq (tgt := 13) dJ0_coder_7d493_3 (by decide) (fun c => absurd c (by decide)) (fun _ => ?_)
  refine ev_aload_n (i := 0) dJ0_coder_7d493_6 rfl rfl ?_
  refine ev_strC hi dJ0_coder_7d493_7 sfl_15 ?_
  refine ev_goto (tgt := 14) dJ0_coder_7d493_10 (by decide) ?_
  exact ev_bret rfl (by decide) dJ0_coder_7d493_14 h
theorem TJ_lat {i : Nat} (hi : i < 16) (h : Q (some (vI 1)) μ) : Ret G l MJ0_isLatin1_aae02 1 0 0 [vR (100001 + i)] μ Q := by
  refine ret_of (L := [some (vR (100001 + i))]) (by decide) rfl (Nat.le_of_ble_eq_true rfl) ?_
  refine ev_strP dJ0_isLatin1_aae02_0 sfl_38 ?_
  refine ev_if_eq (tgt := 17) dJ0_isLatin1_aae02_3 (by decide) (fun c => absurd c (by decide)) (fun _ => ?_)
  refine ev_aload_n (i := 0) dJ0_isLatin1_aae02_6 rfl rfl ?_
  refine ev_strC hi dJ0_isLatin1_aae02_7 sfl_15 ?_
  refine ev_if_ne (tgt := 17) dJ0_isLatin1_aae02_10 (by decide) (fun c => absurd rfl c) (fun _ => ?_)
  refine ev_iconst dJ0_isLatin1_aae02_13 (r32c rfl) ?_
  refine ev_goto (tgt := 18) dJ0_isLatin1_aae02_14 (by decide) ?_
  exact ev_zret rfl (by decide) dJ0_isLatin1_aae02_18 h
theorem TJ_chk3 {l : Launch} {j n : Int} {v : Value} (hv : v = .null ∨ ∃ a, v = .ref a) (rj : r32 j) (rn : r32 n) (h0 : 0 ≤ j) (h1 : j < n) : Met l (mY MJ3_checkIndex_8e157) (wsM MJ3_checkIndex_8e157) (Rm 1 0 0) (fun a _ => a = [Value.int (i32 j), .int (i32 n), v].toArray) (fun _ st o t => o = .returned (some (.int (i32 j))) ∧ t.heap = st.heap) 0 0 (fun _ => False) := by
  refine Met.ofW (cc := cJ3_checkIndex_8e157) (maxL := 3) (ret := some .int) (by decide) rfl ?_
  intro p e s m args below meth c s₁ B hml hpre
  subst hpre
  have hx := B.exec
  have hb := B.bytes
  have hr := B.returns
  have hlocks := B.notSynchronized
  have key : ∀ ls : Array Slot, lv_has ls 3 [(0, .int (i32 j)), (1, .int (i32 n))] → W p l e (headSpec (wsM MJ3_checkIndex_8e157) (Rm 1 0 0)).room s m [Value.int (i32 j), .int (i32 n), v].toArray below meth c s.heap [] 0 0 (MQ below (fun _ st o t => o = .returned (some (.int (i32 j))) ∧ t.heap = st.heap) [Value.int (i32 j), .int (i32 n), v].toArray s 0 0 (fun _ => False)) (F0 m 0 ls []) := by
    intro ls hl
    refine lv_iload_n hx hb dJ3_checkIndex_8e157_0 rfl (lv_at hl 0 rfl) ?_
    refine lv_if_lt (tgt := 9) hx hb dJ3_checkIndex_8e157_1 (by decide) (fun q => absurd ((i32_lt rj r32_0).mp q) (by omega)) (fun _ => ?_)
    refine lv_iload_n hx hb dJ3_checkIndex_8e157_4 rfl (lv_at hl 0 rfl) ?_
    refine lv_iload_n hx hb dJ3_checkIndex_8e157_5 rfl (lv_at hl 1 rfl) ?_
    refine lv_icmp_lt (tgt := 16) hx hb dJ3_checkIndex_8e157_6 (by decide) (fun _ => ?_) (fun q => absurd ((i32_lt rj rn).mpr h1) q)
    refine lv_iload_n hx hb dJ3_checkIndex_8e157_16 rfl (lv_at hl 0 rfl) ?_
    exact W.iret hx hb hr (fun t ht _ => ⟨rfl, ht⟩) (fun q h => by cases h) dJ3_checkIndex_8e157_17
  rcases hv with rfl | ⟨a, rfl⟩
  · have hl := lv_entry ([.int (i32 j), .int (i32 n), .null]) (n := 3) (Nat.le_of_ble_eq_true rfl)
    rw [lg_entry_eq]
    exact key _ (lv_sub hl [0, 1] rfl)
  · have hl := lv_entry ([.int (i32 j), .int (i32 n), .ref a]) (n := 3) (Nat.le_of_ble_eq_true rfl)
    rw [lg_entry_eq]
    exact key _ (lv_sub hl [0, 1] rfl)
theorem ev_chk {G : GT} {l : Launch} {R : Room} {Z : List Frame → Array Value → State → State → Prop} {cs sl : Nat} {L : List (Option AV)} {μ : Mem} {j n : Int} (h0 : 0 ≤ j) (h1 : j < n) (hR : RR R MJ3_checkIndex_8e157 1) (hcm : cs + 0 ≤ R.cells ∧ sl + 0 ≤ R.slots) (kk : Ev G l MJ0_checkIndex_df160 R Z cs sl 8 L [vI j] μ) : Ev G l MJ0_checkIndex_df160 R Z cs sl 2 L [vI n, vI j] μ := by
  intro p e s m args below meth c H locs ls C hs hS hw hn hl
  have hts := C.2.2.2.2.2.1
  have rj : r32 j := n1 (n2 hn)
  have rn : r32 n := n1 hn
  have key : ∀ v : Value, (v = .null ∨ ∃ a, v = .ref a) → W p l e R s m args below meth c H locs cs sl (Z below args s) (F0 m 5 ls [v, .int (i32 n), .int (i32 j)]) := by
    intro v hv
    have hrun := va_runS (p := p) (e := e) (below := below) (meth := meth) (H := H) (locs := locs) (cells := cs) (slots := sl) (g := F0 m 5 ls [v, .int (i32 n), .int (i32 j)]) (As := [.int (i32 j), .int (i32 n), v]) (rest := []) ⟨C.1, C.2.1, C.2.2.2.1, C.2.2.2.2.1, hts⟩ (TJ_chk3 (l := l) hv rj rn h0 h1) ⟨CO_B (M := MJ0_checkIndex_df160) ksJ3_checkIndex_8e157.1 hts ml_J0_1059 hR, hts _ ksJ3_checkIndex_8e157.2⟩ ⟨fun _ _ _ _ h => h, fun _ _ _ => rfl⟩ rfl rfl hl.1 rfl (lv_room (Nat.le_of_ble_eq_true rfl)) dJ0_checkIndex_df160_5 hcm
    intro T hT X
    obtain ⟨w, st₀, t, T', L', g0, X', hL', e1, e2, ⟨hw', hh⟩, st⟩ := hrun T hT X
    cases hw'
    have hH : T'.heap = H := by rw [e1, hh, g0]
    have hS' : va_S (gA G) s.heap H (locs ++ L') := ⟨hS.1, hS.2.1, fun q hq => by
      rcases List.mem_append.mp hq with h | h
      · exact hS.2.2 q h
      · exact (hL' q h).elim⟩
    obtain ⟨t2, a1, b1⟩ := kk p e s m args below meth c H (locs ++ L') ls C hs hS' hw (nc rj (fun v h => by cases h)) hl T' hH X'
    exact ⟨t2, st t2 a1, b1⟩
  rcases hs.2.2.2.2.1.2.2.2 with hZ | ⟨t, hZ⟩
  · exact va_gets C.1 C.2.1 hZ hS C.2.2.2.2.1 (hts _ sfl_1053) (fun _ q => q) dJ0_checkIndex_df160_2 (key _ (Or.inl rfl))
  · exact va_gets C.1 C.2.1 hZ hS C.2.2.2.2.1 (hts _ sfl_1053) (fun _ q => q) dJ0_checkIndex_df160_2 (key _ (Or.inr ⟨t, rfl⟩))
theorem TJ_chk {j n : Int} (h0 : 0 ≤ j) (h1 : j < n) (h : Q none μ) : Ret G l MJ0_checkIndex_df160 2 0 0 [vI j, vI n] μ Q := by
  refine ret_of (L := [some (vI j), some (vI n)]) (by decide) rfl (Nat.le_of_ble_eq_true rfl) ?_
  refine ev_iload_n (i := 0) dJ0_checkIndex_df160_0 rfl rfl ?_
  refine ev_iload_n (i := 1) dJ0_checkIndex_df160_1 rfl rfl ?_
  refine ev_chk h0 h1 (RRc (by decide) (by decide)) ⟨Nat.le_of_ble_eq_true rfl, Nat.le_of_ble_eq_true rfl⟩ ?_
  refine ev_popI dJ0_checkIndex_df160_8 ?_
  exact ev_vret rfl dJ0_checkIndex_df160_9 h
theorem TJ_lch {i : Nat} {j : Int} (hi : i < 16) (h0 : 0 ≤ j) (h1 : j < lenS.getD i 0) (h : Q (some (vI ((bytS.getD i []).getD j.toNat 0 &&& 255).toInt)) μ) : Ret G l MJ1_charAt_3b067 3 0 0 [vR (200000 + i), vI j] μ Q := by
  have hb := sch_ok i hi j.toNat (by omega)
  refine ret_of (L := [some (vR (200000 + i)), some (vI j)]) (by decide) rfl (Nat.le_of_ble_eq_true rfl) ?_
  refine ev_iload_n (i := 1) dJ1_charAt_3b067_0 rfl rfl ?_
  refine ev_aload_n (i := 0) dJ1_charAt_3b067_1 rfl rfl ?_
  refine ev_strL hi dJ1_charAt_3b067_2 ?_
  refine ev_callS (av := [vI j, vI (lenS.getD i 0)]) (S := []) (mc := 0) (ms := 0) (Q' := fun r ν => r = none ∧ ν = μ) dJ1_charAt_3b067_3 (TJ_chk h0 h1 ⟨rfl, rfl⟩) ksJ0_checkIndex_df160.1 ml_J1_9 ksJ0_checkIndex_df160.2 rfl (RRc (by decide) (by decide)) (Nat.le_of_ble_eq_true rfl) ⟨Nat.le_of_ble_eq_true rfl, Nat.le_of_ble_eq_true rfl⟩ ?_
  rintro r ν ⟨rfl, rfl⟩
  refine ev_aload_n (i := 0) dJ1_charAt_3b067_6 rfl rfl ?_
  refine ev_iload_n (i := 1) dJ1_charAt_3b067_7 rfl rfl ?_
  refine ev_strB hi h0 h1 dJ1_charAt_3b067_8 ?_
  refine ev_sipush (v := 255) dJ1_charAt_3b067_9 (r32c rfl) (by decide) ?_
  refine ev_iand dJ1_charAt_3b067_12 ?_
  have e : bAnd ((bytS.getD i []).getD j.toNat 0).toInt 255 = ((bytS.getD i []).getD j.toNat 0 &&& 255).toInt := by
    unfold bAnd
    rw [← b32]
    rfl
  rw [e]
  refine ev_i2cs hb.1 (by omega) dJ1_charAt_3b067_13 ?_
  exact ev_cret rfl hb.1 (by omega) dJ1_charAt_3b067_14 h
theorem shr0 {x : Int} (h : 0 ≤ x) (h2 : x < 100) : bShr x 0 = x := by
  unfold bShr
  have e : (i32 0 &&& 31 : Int32) = 0 := by decide
  rw [e, Int32.shiftRight_zero]
  exact i32_to (by unfold r32; omega)
theorem TJ_len {i : Nat} (hi : i < 16) (h : Q (some (vI (lenS.getD i 0))) μ) : Ret G l MJ0_length_8abf5 2 0 0 [vR (100001 + i)] μ Q := by
  have hb := (str_ok i hi).1
  refine ret_of (L := [some (vR (100001 + i))]) (by decide) rfl (Nat.le_of_ble_eq_true rfl) ?_
  refine ev_aload_n (i := 0) dJ0_length_8abf5_0 rfl rfl ?_
  refine ev_strV hi dJ0_length_8abf5_1 sfl_9 ?_
  refine ev_strL hi dJ0_length_8abf5_4 ?_
  refine ev_aload_n (i := 0) dJ0_length_8abf5_5 rfl rfl ?_
  refine ev_callT (av := []) (S := [vI (lenS.getD i 0)]) (Q' := fun r ν => r = some (vI 0) ∧ ν = μ) hi rfl dJ0_length_8abf5_6 (TJ_coder hi ⟨rfl, rfl⟩) coJ0_coder_7d493 ml_J0_335 im_J0_coder_7d493 se_J0_coder_7d493 rfl (RRc (by decide) (by decide)) (Nat.le_of_ble_eq_true rfl) ⟨Nat.le_of_ble_eq_true rfl, Nat.le_of_ble_eq_true rfl⟩ ?_
  rintro r ν ⟨rfl, rfl⟩
  refine ev_ishr dJ0_length_8abf5_9 ?_
  rw [shr0 (by omega) (by omega)]
  exact ev_iret rfl dJ0_length_8abf5_10 h
theorem TJ_cha {i : Nat} {j : Int} (hi : i < 16) (h0 : 0 ≤ j) (h1 : j < lenS.getD i 0) (h : Q (some (vI ((bytS.getD i []).getD j.toNat 0 &&& 255).toInt)) μ) : Ret G l MJ0_charAt_5068e 4 0 0 [vR (100001 + i), vI j] μ Q := by
  have hb := sch_ok i hi j.toNat (by omega)
  refine ret_of (L := [some (vR (100001 + i)), some (vI j)]) (by decide) rfl (Nat.le_of_ble_eq_true rfl) ?_
  refine ev_aload_n (i := 0) dJ0_charAt_5068e_0 rfl rfl ?_
  refine ev_callT (av := []) (S := []) (Q' := fun r ν => r = some (vI 1) ∧ ν = μ) hi rfl dJ0_charAt_5068e_1 (TJ_lat hi ⟨rfl, rfl⟩) coJ0_isLatin1_aae02 ml_J0_492 im_J0_isLatin1_aae02 se_J0_isLatin1_aae02 rfl (RRc (by decide) (by decide)) (Nat.le_of_ble_eq_true rfl) ⟨Nat.le_of_ble_eq_true rfl, Nat.le_of_ble_eq_true rfl⟩ ?_
  rintro r ν ⟨rfl, rfl⟩
  refine ev_if_eq (tgt := 16) dJ0_charAt_5068e_4 (by decide) (fun c => absurd c (by decide)) (fun _ => ?_)
  refine ev_aload_n (i := 0) dJ0_charAt_5068e_7 rfl rfl ?_
  refine ev_strV hi dJ0_charAt_5068e_8 sfl_9 ?_
  refine ev_iload_n (i := 1) dJ0_charAt_5068e_11 rfl rfl ?_
  refine ev_callS (av := [vR (200000 + i), vI j]) (S := []) (mc := 0) (ms := 0) (Q' := fun r ν' => r = some (vI ((bytS.getD i []).getD j.toNat 0 &&& 255).toInt) ∧ ν' = ν) dJ0_charAt_5068e_12 (TJ_lch hi h0 h1 ⟨rfl, rfl⟩) ksJ1_charAt_3b067.1 ml_J0_495 ksJ1_charAt_3b067.2 rfl (RRc (by decide) (by decide)) (Nat.le_of_ble_eq_true rfl) ⟨Nat.le_of_ble_eq_true rfl, Nat.le_of_ble_eq_true rfl⟩ ?_
  rintro r ν' ⟨rfl, rfl⟩
  exact ev_cret rfl hb.1 (by omega) dJ0_charAt_5068e_15 h
end StrM
section StrR
variable {G : GT} {l : Launch} {M : MT} {R : Room} {Z : List Frame → Array Value → State → State → Prop} {pc : Nat} {L : List (Option AV)} {S : List AV} {μ : Mem} {idx : Nat}
theorem ev_slen2 {a : Nat} (hd : decode (mC M) pc = .ok (.invokevirtual idx, 3)) (hlk : Cond.methodLink (mY M).cls idx yJ0_length_8abf5 ∈ tblG) (hs : isS a = true) (hR : RR R MJ0_length_8abf5 2) (hst : ((S.map (vO G)).map fun v => v.category).sum ≤ 8) (kk : Ev G l M R Z 0 0 (pc + 3) L (vI ((slen a : Nat) : Int) :: S) μ) : Ev G l M R Z 0 0 pc L (vR a :: S) μ := by
  obtain ⟨i, hi, rfl⟩ := isS_of hs
  refine ev_callT (av := []) (S := S) (Q' := fun r ν => r = some (vI (lenS.getD i 0)) ∧ ν = μ) hi rfl hd (TJ_len hi ⟨rfl, rfl⟩) coJ0_length_8abf5 hlk im_J0_length_8abf5 se_J0_length_8abf5 rfl hR hst ⟨Nat.zero_le _, Nat.zero_le _⟩ ?_
  rintro r ν ⟨rfl, rfl⟩
  have e : slen (100001 + i) = lenS.getD i 0 := by unfold slen; rw [Nat.add_sub_cancel_left]
  rw [e] at kk
  exact kk
theorem ev_scha {a : Nat} {j : Int} (hd : decode (mC M) pc = .ok (.invokevirtual idx, 3)) (hlk : Cond.methodLink (mY M).cls idx yJ0_charAt_5068e ∈ tblG) (hs : isS a = true) (h0 : 0 ≤ j) (h1 : j < slen a) (hR : RR R MJ0_charAt_5068e 4) (hst : ((S.map (vO G)).map fun v => v.category).sum ≤ 8) (kk : Ev G l M R Z 0 0 (pc + 3) L (vI (sch a j.toNat) :: S) μ) : Ev G l M R Z 0 0 pc L (vI j :: vR a :: S) μ := by
  obtain ⟨i, hi, rfl⟩ := isS_of hs
  have e : slen (100001 + i) = lenS.getD i 0 := by unfold slen; rw [Nat.add_sub_cancel_left]
  have e2 : sch (100001 + i) j.toNat = ((bytS.getD i []).getD j.toNat 0 &&& 255).toInt := by unfold sch; rw [Nat.add_sub_cancel_left]
  rw [e] at h1
  rw [e2] at kk
  refine ev_callT (av := [vI j]) (S := S) (Q' := fun r ν => r = some (vI ((bytS.getD i []).getD j.toNat 0 &&& 255).toInt) ∧ ν = μ) hi rfl hd (TJ_cha hi h0 h1 ⟨rfl, rfl⟩) coJ0_charAt_5068e hlk im_J0_charAt_5068e se_J0_charAt_5068e rfl hR hst ⟨Nat.zero_le _, Nat.zero_le _⟩ ?_
  rintro r ν ⟨rfl, rfl⟩
  exact kk
end StrR

theorem ist_X10 : Cond.instantiable RX10 11 ∈ tblG := tg_1 21 rfl rfl
theorem ist_X11 : Cond.instantiable RX11 53 ∈ tblG := tg_6 30 rfl rfl
theorem cl_L_7 : Cond.classLink RL 7 RX10 ∈ tblG := tg_1 20 rfl rfl
theorem cl_L_10 : Cond.classLink RL 10 RX11 ∈ tblG := tg_6 29 rfl rfl
theorem ml_L_9i : Cond.methodLink RL 9 yX10_init ∈ tblG := tg_1 22 rfl rfl
theorem ml_L_12i : Cond.methodLink RL 12 yX11_init ∈ tblG := tg_6 31 rfl rfl
theorem ao_i : Cond.arrayOver (.array .int) ∈ lw_tbl := (List.mem_append_right _ (ti_1 _ (List.mem_of_getElem? (i := 83) rfl)))
theorem ao_l : Cond.arrayOver (.array .long) ∈ lw_tbl := (List.mem_append_right _ (ti_1 _ (List.mem_of_getElem? (i := 170) rfl)))
theorem ao_o : Cond.arrayOver (.object RX0) ∈ lw_tbl := (List.mem_append_right _ (ti_1 _ (List.mem_of_getElem? (i := 162) rfl)))
theorem ly_c : Cond.laysStatic "java/lang/String" "COMPACT_STRINGS" "Z" ∈ lw_tbl := (List.mem_append_right _ (ti_2 _ (List.mem_of_getElem? (i := 209) rfl)))
theorem ly_s : Cond.laysStatic "jdk/internal/util/Preconditions" "SIOOBE_FORMATTER" "Ljava/util/function/BiFunction;" ∈ lw_tbl := (List.mem_append_right _ (ti_2 _ (List.mem_of_getElem? (i := 225) rfl)))
theorem iy_c : Cond.initialized "java/lang/String" ∈ lw_tbl := (List.mem_append_right _ (ti_1 _ (List.mem_of_getElem? (i := 13) rfl)))
theorem iy_s : Cond.initialized "jdk/internal/util/Preconditions" ∈ lw_tbl := (List.mem_append_right _ (ti_1 _ (List.mem_of_getElem? (i := 15) rfl)))
theorem dL_law_0 : decode cL_law 0 = .ok (.new 7, 3) := by decide +kernel
theorem dL_law_3 : decode cL_law 3 = .ok (.dup, 1) := by decide +kernel
theorem dL_law_4 : decode cL_law 4 = .ok (.invokespecial 9, 3) := by decide +kernel
theorem dL_law_7 : decode cL_law 7 = .ok (.astore_n 1, 1) := by decide +kernel
theorem dL_law_8 : decode cL_law 8 = .ok (.new 10, 3) := by decide +kernel
theorem dL_law_11 : decode cL_law 11 = .ok (.dup, 1) := by decide +kernel
theorem dL_law_12 : decode cL_law 12 = .ok (.invokespecial 12, 3) := by decide +kernel
theorem dL_law_15 : decode cL_law 15 = .ok (.astore_n 2, 1) := by decide +kernel
def rf0 : Rf := fun _ _ => none
def f00 : Mm := fun _ _ => 0
def rfA : Rf := (upr (upr (upr (upr (upr (urow (upr (urow (upr (upr (upr (upr (upr (upr (urow (upr (urow (upr (upr (upr (upr (upr (upr (urow (upr (urow (upr (upr (upr (urow (upr (upr (urow (upr (upr (upr (upr (upr (upr (upr (upr (upr (upr (upr (upr (upr (upr (upr (upr (upr (urow (upr (upr (upr (upr (upr (upr (urow (upr (upr (upr (upr (upr (upr (upr (urow (upr (urow (upr (upr (upr (upr (upr (upr (urow (upr (urow (upr (upr (upr (upr rf0 2 0 3) 1 2 2) 0 0 1) 4 7 5) 6 4) 4 8 6) 11 6) 4 9 11) 4 10 18) 4 11 19) 4 12 20) 0 1 4) 21 7 22) 23 4) 21 8 23) 28 6) 21 9 28) 21 10 35) 21 11 36) 21 12 37) 0 2 21) 0 3 38) 0 4 39) 41 4) 40 0 41) 40 1 46) 40 2 47) 0 5 40) 48 0 49) 48 1 50) 51 2) 48 6 51) 48 7 54) 48 8 55) 48 9 56) 0 6 48) 57 3 58) 57 4 59) 57 5 60) 57 6 61) 57 7 62) 57 8 63) 57 9 64) 57 10 65) 57 11 66) 0 7 57) 67 2 68) 0 8 67) 70 24) 69 3 70) 0 9 69) 96 2) 95 2 96) 0 10 95) 99 7 100) 101 4) 99 8 101) 106 6) 99 9 106) 99 10 113) 99 11 114) 99 12 115) 38 0 99) 116 7 117) 118 4) 116 8 118) 123 6) 116 9 123) 116 10 130) 116 11 131) 116 12 132) 38 1 116) 133 7 134) 135 4) 133 8 135) 140 6) 133 9 140) 133 10 147) 133 11 148) 133 12 149) 38 2 133)
def fA : Mm := (up (up (up (up (up f00 1 1 (-1)) 46 0 (-1)) 46 1 (-1)) 46 2 (-1)) 46 3 (-1))
def rfB : Rf := (upr (upr (upr (upr (upr (upr (upr (upr (upr (upr (upr (upr (upr (upr (upr (upr (upr (upr (upr (upr (upr (upr (upr (upr (upr (upr (upr rfA 150 1 151) 150 2 152) 150 3 153) 150 4 154) 150 5 155) 150 16 156) 150 17 157) 150 18 158) 150 19 159) 150 20 160) 150 21 161) 150 22 162) 150 25 163) 150 26 164) 150 27 165) 150 28 166) 150 29 167) 150 30 168) 150 34 169) 150 35 170) 150 36 171) 150 37 172) 150 38 173) 150 39 174) 150 40 175) 150 43 176) 150 44 177)
/-- the memory at the start -/
def fZ : Mm := (up (up (up (up (up fA 150 15 (-1)) 151 0 (-1)) 151 1 (-1)) 151 2 (-1)) 151 3 (-1))
theorem hr00 : Fr 0 rf0 := fun _ _ _ => rfl
theorem hf00 : Fz 0 f00 := fun _ _ _ => rfl
theorem hrA : Fr 150 rfA := fr_X10_0 (Fr_mo (m := 1) hr00 (by decide))
theorem hfA : Fz 150 fA := fz_X10_0 (Fz_mo (m := 1) hf00 (by decide))
theorem hrB : Fr 178 rfB := fr_X11_150 (Fr_mo (m := 151) hrA (by decide))
/-- beyond place 64 nothing -/
def Fk (r : Rf) : Prop := ∀ a k, 64 ≤ k → r a k = none
theorem Fk_up {r : Rf} {a k b : Nat} (h : Fk r) (hk : k < 64) : Fk (upr r a k b) := fun x j hj => by
  unfold upr
  rw [if_neg (by omega)]
  exact h x j hj
theorem Fk_ur {r : Rf} {o N : Nat} (h : Fk r) (hN : N ≤ 64) : Fk (urow r o N) := fun x j hj => by
  unfold urow
  rw [if_neg (by omega)]
  exact h x j hj
theorem fkA : Fk rfA := (Fk_up (Fk_up (Fk_up (Fk_up (Fk_up (Fk_ur (Fk_up (Fk_ur (Fk_up (Fk_up (Fk_up (Fk_up (Fk_up (Fk_up (Fk_ur (Fk_up (Fk_ur (Fk_up (Fk_up (Fk_up (Fk_up (Fk_up (Fk_up (Fk_ur (Fk_up (Fk_ur (Fk_up (Fk_up (Fk_up (Fk_ur (Fk_up (Fk_up (Fk_ur (Fk_up (Fk_up (Fk_up (Fk_up (Fk_up (Fk_up (Fk_up (Fk_up (Fk_up (Fk_up (Fk_up (Fk_up (Fk_up (Fk_up (Fk_up (Fk_up (Fk_up (Fk_ur (Fk_up (Fk_up (Fk_up (Fk_up (Fk_up (Fk_up (Fk_ur (Fk_up (Fk_up (Fk_up (Fk_up (Fk_up (Fk_up (Fk_up (Fk_ur (Fk_up (Fk_ur (Fk_up (Fk_up (Fk_up (Fk_up (Fk_up (Fk_up (Fk_ur (Fk_up (Fk_ur (Fk_up (Fk_up (Fk_up (Fk_up (fun _ _ _ => rfl) (by decide)) (by decide)) (by decide)) (by decide)) (by decide)) (by decide)) (by decide)) (by decide)) (by decide)) (by decide)) (by decide)) (by decide)) (by decide)) (by decide)) (by decide)) (by decide)) (by decide)) (by decide)) (by decide)) (by decide)) (by decide)) (by decide)) (by decide)) (by decide)) (by decide)) (by decide)) (by decide)) (by decide)) (by decide)) (by decide)) (by decide)) (by decide)) (by decide)) (by decide)) (by decide)) (by decide)) (by decide)) (by decide)) (by decide)) (by decide)) (by decide)) (by decide)) (by decide)) (by decide)) (by decide)) (by decide)) (by decide)) (by decide)) (by decide)) (by decide)) (by decide)) (by decide)) (by decide)) (by decide)) (by decide)) (by decide)) (by decide)) (by decide)) (by decide)) (by decide)) (by decide)) (by decide)) (by decide)) (by decide)) (by decide)) (by decide)) (by decide)) (by decide)) (by decide)) (by decide)) (by decide)) (by decide)) (by decide)) (by decide)) (by decide)) (by decide)) (by decide)) (by decide)) (by decide)) (by decide)) (by decide))
theorem fkB : Fk rfB := (Fk_up (Fk_up (Fk_up (Fk_up (Fk_up (Fk_up (Fk_up (Fk_up (Fk_up (Fk_up (Fk_up (Fk_up (Fk_up (Fk_up (Fk_up (Fk_up (Fk_up (Fk_up (Fk_up (Fk_up (Fk_up (Fk_up (Fk_up (Fk_up (Fk_up (Fk_up (Fk_up fkA (by decide)) (by decide)) (by decide)) (by decide)) (by decide)) (by decide)) (by decide)) (by decide)) (by decide)) (by decide)) (by decide)) (by decide)) (by decide)) (by decide)) (by decide)) (by decide)) (by decide)) (by decide)) (by decide)) (by decide)) (by decide)) (by decide)) (by decide)) (by decide)) (by decide)) (by decide)) (by decide))
theorem rfT_len : rfT.length = 178 := by decide +kernel
theorem rfT_row : ∀ r ∈ rfT, r.length ≤ 64 := by decide +kernel
theorem rf_dec : ∀ a, a < 178 → ∀ k, k < 64 → rfB a k = RF a k := by decide +kernel
theorem rf_is : rfB = RF := by
  funext a k
  by_cases ha : a < 178
  · by_cases hk : k < 64
    · exact rf_dec a ha k hk
    · rw [fkB a k (by omega)]
      unfold RF
      have : (rfT.getD a []).length ≤ 64 := by
        rw [List.getD_eq_getElem?_getD]
        cases hq : rfT[a]? with
        | none => simp
        | some r => exact rfT_row r (List.mem_of_getElem? hq)
      rw [List.getD_eq_getElem?_getD, List.getElem?_eq_none (by omega)]
      rfl
  · rw [hrB a (by omega) k]
    unfold RF
    rw [List.getD_eq_getElem?_getD (l := rfT), List.getElem?_eq_none (by rw [rfT_len]; omega)]
    rfl
theorem sp_is : Sp 178 = SH := by unfold Sp; exact List.take_of_length_le (by rw [SH_len]; exact Nat.le_refl _)
/-- what is left: the law over numbers alone -/
def PureLaw : Prop := ∀ (Ln : Nat) (xs : Nat → Int), Ln ≤ 3072 → (∀ j, r32 (xs j)) → PL (FL_law_16 Ln xs fZ)
def tmS (i : Nat) : Term := Term.string RX4 (txS.getD i (0, "")).1
theorem sx_ex : ∀ i, i < 16 → Cond.exactly (tmS i) "java/lang/String" ∈ flatC (Jvm.Cond.and given_1 narrow_1) := by decide +kernel
theorem sx_co : ∀ i, i < 16 → Cond.eq (.field (tmS i) "java/lang/String" "coder" "B") (.int 0) ∈ flatC (Jvm.Cond.and given_1 narrow_1) := by decide +kernel
theorem sx_ar : ∀ i, i < 16 → Cond.arrayOf (.field (tmS i) "java/lang/String" "value" "[B") .byte ∈ flatC (Jvm.Cond.and given_1 narrow_1) := by decide +kernel
theorem sx_le : ∀ i, i < 16 → Cond.eq (.length (.field (tmS i) "java/lang/String" "value" "[B")) (.int (Int32.ofNat (lenS.getD i 0))) ∈ flatC (Jvm.Cond.and given_1 narrow_1) := by decide +kernel
theorem sx_el : ∀ i, i < 16 → ∀ j, j < lenS.getD i 0 → Cond.eq (.elem (.field (tmS i) "java/lang/String" "value" "[B") (.int (Int32.ofNat j))) (.int ((bytS.getD i []).getD j 0)) ∈ flatC (Jvm.Cond.and given_1 narrow_1) := by decide +kernel
theorem sx_ne : ∀ i, i < 16 → ∀ j, j < 16 → i ≠ j → Cond.not (Cond.eq (tmS i) (tmS j)) ∈ flatC (Jvm.Cond.and given_1 narrow_1) ∨ Cond.not (Cond.eq (tmS j) (tmS i)) ∈ flatC (Jvm.Cond.and given_1 narrow_1) := by decide +kernel
theorem sx_rf : ∀ q ∈ txS, Cond.stringRef RX4 q.1 q.2 ∈ lw_tbl := by decide +kernel
theorem sx_nw : ∀ w ∈ nstW, w ∈ lw_tbl := by decide +kernel
def lw_At (p : Program) (s : State) (m : MethodId) (meth : Method) (c : Code) (b L : Nat) (xs : Nat → Int32) : Prop :=
  p.tables.exec = Jvm.exec ∧ c.code = code ∧ meth.sig.returnType = ret ∧ c.maxLocals = 4 ∧ s.vm.findClass R_law = some m.cls ∧ (∀ w ∈ lw_tbl, w.before #[Value.ref b] s = true) ∧ va_X b L xs s s.heap ∧ b < s.heap.size ∧ meth.locks = false ∧ (Jvm.Cond.and given_1 narrow_1).before #[Value.ref b] s = true ∧ meth.name = x.name
theorem law_St {s : State} {b L : Nat} {xs : Nat → Int32} (hL : L ≤ 3072) (hts : ∀ w ∈ lw_tbl, w.before #[Value.ref b] s = true) (hX : va_X b L xs s s.heap) (hbl : b < s.heap.size) (hgv : (Jvm.Cond.and given_1 narrow_1).before #[Value.ref b] s = true) :
    ∃ G : GT, gN G = s.heap.size ∧ gB G = b ∧ gL G = L ∧ gX G = xs ∧ St G s := by
  have htg : ∀ w ∈ tblG, w.before #[Value.ref b] s = true := fun w h => hts w (List.mem_filter.mp h).1
  have hfl := flat_of_before _ hgv
  have hA : ∀ a : Nat, a < s.heap.size → ¬ (fun q : Nat => s.heap.size ≤ q) a := fun a h => Nat.not_le.mpr h
  obtain ⟨c0, i0, k0⟩ := u_known (C := RX0) (T := TX0) (N := 13) (n := 13) htg kok_0.1 (htg _ ist_X0)
  obtain ⟨c1, i1, k1⟩ := u_known (C := RX1) (T := TX1) (N := 10) (n := 10) htg kok_1.1 (htg _ ist_X1)
  obtain ⟨c2, i2, k2⟩ := u_known (C := RX2) (T := TX2) (N := 3) (n := 3) htg kok_2.1 (htg _ ist_X2)
  obtain ⟨c3, i3, k3⟩ := u_known (C := RX3) (T := TX3) (N := 12) (n := 12) htg kok_3.1 (htg _ ist_X3)
  obtain ⟨c4, i4, k4⟩ := u_known (C := RX4) (T := TX4) (N := 7) (n := 7) htg kok_4.1 (htg _ ist_X4)
  obtain ⟨c5, i5, k5⟩ := u_known (C := RX5) (T := TX5) (N := 4) (n := 4) htg kok_5.1 (htg _ ist_X5)
  obtain ⟨c6, i6, k6⟩ := u_known (C := RX6) (T := TX6) (N := 3) (n := 3) htg kok_6.1 (htg _ ist_X6)
  obtain ⟨c7, i7, k7⟩ := u_known (C := RX7) (T := TX7) (N := 2) (n := 2) htg kok_7.1 (htg _ ist_X7)
  obtain ⟨c9, i9, k9⟩ := u_known (C := RX9) (T := TX9) (N := 3) (n := 3) htg kok_9.1 (htg _ ist_X9)
  obtain ⟨c10, i10, k10⟩ := u_known (C := RX10) (T := TX10) (N := 11) (n := 11) htg kok_10.1 (htg _ ist_X10)
  obtain ⟨c11, i11, k11⟩ := u_known (C := RX11) (T := TX11) (N := 53) (n := 53) htg kok_11.1 (htg _ ist_X11)
  obtain ⟨aI, kI, oI, fI1, fI2, fI3⟩ := Cond.arrayClass_spec (htg _ ac_int)
  obtain ⟨aB, kB, oB, fB1, fB2, fB3⟩ := Cond.arrayClass_spec (htg _ ac_byte)
  obtain ⟨aZ, kZ, oZ, fZ1, fZ2, fZ3⟩ := Cond.arrayClass_spec (htg _ ac_boolean)
  obtain ⟨aJ, kJ, oJ, fJ1, fJ2, fJ3⟩ := Cond.arrayClass_spec (htg _ ac_long)
  have hoI : aoA .int s := hts _ ao_i
  have hoJ : aoA .long s := hts _ ao_l
  have hoO : va_AO RX0 s := va_AO.of (hts _ ao_o)
  obtain ⟨pII, aII, kII, -, -, fII2, fII3, fII1⟩ := aoA_spec hoI
  obtain ⟨pJJ, aJJ, kJJ, -, -, fJJ2, fJJ3, fJJ1⟩ := aoA_spec hoJ
  obtain ⟨pOO, aOO, kOO, fOO4, -, fOO2, fOO3, fOO1⟩ := Cond.arrayOver_spec hoO
  obtain ⟨adK, adV, hSt, hEv⟩ := vk_Sof (args := #[Value.ref b]) (s := s) (N := 16) (tm := tmS) (len := lenS) (byt := bytS) (A := fun q : Nat => s.heap.size ≤ q) (fun i hi => by have := (str_ok i hi).1; omega) (fun i hi => hfl _ (sx_ex i hi)) (fun i hi => hfl _ (sx_co i hi)) (fun i hi => hfl _ (sx_ar i hi)) (fun i hi => hfl _ (sx_le i hi)) (fun i hi j hj => hfl _ (sx_el i hi j hj)) (fun i j hi hj hne => (sx_ne i hi j hj hne).imp (fun h => hfl _ h) (fun h => hfl _ h)) hA
  refine ⟨((fun k => match k with
      | 0 => c0 | 1 => c1 | 2 => c2 | 3 => c3 | 4 => c4 | 5 => c5 | 6 => c6 | 7 => c7 | 8 => c7 | 9 => c9 | 10 => c10 | _ => c11, fun k => match k with
      | 0 => i0 | 1 => i1 | 2 => i2 | 3 => i3 | 4 => i4 | 5 => i5 | 6 => i6 | 7 => i7 | 8 => i7 | 9 => i9 | 10 => i10 | _ => i11), s.heap.size, (b, L, xs), (adK, adV), fun k => match k with
      | 0 => aI | 1 => aB | 2 => aZ | 3 => aJ | 4 => aII | 5 => aJJ | _ => aOO), rfl, rfl, rfl, rfl, ?_⟩
  refine ⟨⟨fun c q hq => ?_, fun k q hq => ?_⟩, ⟨hX, hbl, hL⟩, Nat.le_refl _, fun w hw => ?_, ⟨hSt, fun i q hq => ?_, ?_, ?_⟩, hoO, hoI, hoJ⟩
  · match c, hq with
    | 0, hq => cases hq; exact k0
    | 1, hq => cases hq; exact k1
    | 2, hq => cases hq; exact k2
    | 3, hq => cases hq; exact k3
    | 4, hq => cases hq; exact k4
    | 5, hq => cases hq; exact k5
    | 6, hq => cases hq; exact k6
    | 7, hq => cases hq; exact k7
    | 8, hq => cases hq; exact k7
    | 9, hq => cases hq; exact k9
    | 10, hq => cases hq; exact k10
    | 11, hq => cases hq; exact k11
    | k + 12, hq => simp [kls] at hq
  · match k, hq with
    | 0, hq => cases hq; exact ⟨fun n z => ⟨fun k h => (by cases h), kI, fI2, oI, fI3⟩, fI1⟩
    | 1, hq => cases hq; exact ⟨fun n z => ⟨fun k h => (by cases h), kB, fB2, oB, fB3⟩, fB1⟩
    | 2, hq => cases hq; exact ⟨fun n z => ⟨fun k h => (by cases h), kZ, fZ2, oZ, fZ3⟩, fZ1⟩
    | 3, hq => cases hq; exact ⟨fun n z => ⟨fun k h => (by cases h), kJ, fJ2, oJ, fJ3⟩, fJ1⟩
    | 4, hq => cases hq; exact ⟨fun n z => ⟨fun k h => (by cases h), kII, fII2, pII, fII3⟩, fII1⟩
    | 5, hq => cases hq; exact ⟨fun n z => ⟨fun k h => (by cases h), kJJ, fJJ2, pJJ, fJJ3⟩, fJJ1⟩
    | 6, hq => cases hq; exact ⟨fun n z => ⟨fun k h => (by cases h), kOO, fOO2, pOO, fOO3⟩, kOO, pOO, fOO2, fOO3, fOO4, fOO1⟩
    | k + 7, hq => simp [tO] at hq
  · have hb := hts w (sx_nw w hw)
    simp only [nstW, List.mem_cons, List.not_mem_nil, or_false] at hw
    rcases hw with rfl | rfl | rfl | rfl | rfl | rfl | rfl | rfl | rfl | rfl | rfl | rfl | rfl | rfl <;> exact va_Nw.of rfl hb
  · have hi : i < 16 := (List.getElem?_eq_some_iff.mp hq).1
    have e1 : tmS i = Term.string RX4 q.1 := by
      unfold tmS
      rw [List.getD_eq_getElem?_getD, hq]
      rfl
    have h2 := hEv i hi
    rw [e1] at h2
    exact vk_R.of (hts _ (sx_rf q (List.mem_of_getElem? hq))) h2
  · exact va_Zof (hts _ ly_c) (hts _ iy_c) (va_eqi (hfl _ (by decide +kernel))) hA
  · exact va_Zqof (hts _ ly_s) (hts _ iy_s) (hfl _ (by decide +kernel)) hA
theorem law_ev (hp : PureLaw) {G : GT} {l : Launch} (hL : gL G ≤ 3072) : Ev G l ML_law room_1 (ZL G) 0 0 0 [some (vR 100000), none, none, none] [] (Sp 0, rf0, f00) := by
  refine ez_new (n := 0) (by decide) dL_law_0 cl_L_7 ist_X10 in_X10 rfl kok_10 okt_10 sh_0 hf00 hr00 (Nat.le_of_ble_eq_true rfl) (Nat.le_of_ble_eq_true rfl) ?_
  refine ev_dupR dL_law_3 ?_
  refine ev_callI (S := [vR 0]) (mc := 149) (ms := 2502) (Q' := fun r μ => r = none ∧ μ = (Sp 150, rfA, fA)) dL_law_4 (ct_X10_0 (Fr_mo (m := 1) hr00 (by decide)) (Fz_mo (m := 1) hf00 (by decide)) ⟨rfl, rfl⟩) rfl rfl coX10_init ml_L_9i im_X10_init (RRL (by decide) (by decide)) (Nat.le_of_ble_eq_true rfl) ⟨(Nat.le_of_ble_eq_true rfl), (Nat.le_of_ble_eq_true rfl)⟩ ?_
  rintro r μ ⟨rfl, rfl⟩
  refine ev_astore_n (i := 1) (L' := [some (vR 100000), some (vR 0), none, none]) dL_law_7 rfl (by decide) rfl ?_
  refine ez_new (n := 150) (by decide) dL_law_8 cl_L_10 ist_X11 in_X11 rfl kok_11 okt_11 sh_150 hfA hrA (Nat.le_of_ble_eq_true rfl) (Nat.le_of_ble_eq_true rfl) ?_
  refine ev_dupR dL_law_11 ?_
  refine ev_callI (S := [vR 150]) (mc := 27) (ms := 2110) (Q' := fun r μ => r = none ∧ μ = (Sp 178, rfB, fZ)) dL_law_12 (ct_X11_150 (Fr_mo (m := 151) hrA (by decide)) (Fz_mo (m := 151) hfA (by decide)) ⟨rfl, rfl⟩) rfl rfl coX11_init ml_L_12i im_X11_init (RRL (by decide) (by decide)) (Nat.le_of_ble_eq_true rfl) ⟨(Nat.le_of_ble_eq_true rfl), (Nat.le_of_ble_eq_true rfl)⟩ ?_
  rintro r μ ⟨rfl, rfl⟩
  refine ev_astore_n (i := 2) (L' := [some (vR 100000), some (vR 0), some (vR 150), none]) dL_law_15 rfl (by decide) rfl ?_
  rw [sp_is, rf_is]
  exact SL_law_16 rfl (fun _ => rfl) fZ (hp (gL G) (fun j => (gX G j).toInt) hL (fun j => t32_r _))
theorem whole_start (hp : PureLaw) {p : Program} {e : Env} {s : State} {m : MethodId} {below : List Frame} {meth : Method} {c : Code} (l : Launch) {b L : Nat} {xs : Nat → Int32} (hL : L ≤ 3072) (C0 : lw_At p s m meth c b L xs) : W p l e room_1 s m #[Value.ref b] below meth c s.heap [] 0 0 (lw_Z below #[Value.ref b] s) (entryFrame m ([Value.ref b] : List Value).toArray 4) := by
  obtain ⟨hx, hb, hr, hml, hown, hts, hX, hbl, hlocks, hgv, hnm⟩ := id C0
  obtain ⟨G, g1, g2, g3, g4, hSt⟩ := law_St hL hts hX hbl hgv
  have hev := law_ev hp (G := G) (l := l) (by rw [g3]; exact hL)
  have hl := lv_entry ([.ref b]) (n := 4) (Nat.le_of_ble_eq_true rfl)
  rw [lg_entry_eq]
  have hW := hev p e s m #[Value.ref b] below meth c s.heap [] _ ⟨hx, hb, hr, hml, hown, fun w h => hts w (List.mem_filter.mp h).1, hlocks, hnm⟩ hSt va_S.rf ⟨fun k q h => by simp [wO, Sp] at h, by simp [Sp, g1], fun a q h => by simp [Sp] at h, by simp [Sp]⟩ (fun v h => by cases h) ⟨hl.1, hl.2.1, rfl, fun i v h => ?_, fun i v h => ?_⟩
  · intro T hT X
    obtain ⟨t, a1, b1⟩ := hW T hT X
    exact ⟨t, a1, b1 g1.symm⟩
  · match i, h with
    | 0, h =>
      cases h
      have := hl.2.2 (0, .ref b) List.mem_cons_self
      rw [this]
      show _ = some (Slot.val (.ref (aO G 100000)))
      rw [aO_b, g2]
    | 1, h => cases h
    | 2, h => cases h
    | 3, h => cases h
    | i + 4, h => simp at h
  · match i, h with
    | 0, h => cases h; trivial
    | 1, h => cases h
    | 2, h => cases h
    | 3, h => cases h
    | i + 4, h => simp at h

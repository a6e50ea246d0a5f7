/-- what is left: the law over numbers alone -/
def PureLaw : Prop := ∀ (Ln : Nat) (xs : Nat → Int), Ln ≤ 3072 → (∀ j, r32 (xs j)) → PL (FL_law_16 Ln xs fZ)
theorem sx_rf : ∀ q ∈ txS, Cond.stringRef RX4 q.1 q.2 ∈ lw_tbl := by decide +kernel
theorem sx_nw : ∀ w ∈ nstW, w ∈ lw_tbl := by decide +kernel
def lw_At (p : Program) (s : State) (m : MethodId) (meth : Method) (c : Code) (b L : Nat) (xs : Nat → Int32) : Prop :=
  p.tables.exec = Jvm.exec ∧ c.code = code ∧ meth.sig.returnType = ret ∧ c.maxLocals = 4 ∧ s.vm.findClass R_law = some m.cls ∧ (∀ w ∈ lw_tbl, w.before #[Value.ref b] s = true) ∧ va_X b L xs s s.heap ∧ b < s.heap.size ∧ meth.locks = false ∧ (Jvm.Cond.and given_1 narrow_1).before #[Value.ref b] s = true ∧ meth.name = x.name
theorem law_St {s : State} {b L : Nat} {xs : Nat → Int32} (hL : L ≤ 3072) (hts : ∀ w ∈ lw_tbl, w.before #[Value.ref b] s = true) (hX : va_X b L xs s s.heap) (hbl : b < s.heap.size) (hgv : (Jvm.Cond.and given_1 narrow_1).before #[Value.ref b] s = true) :
    ∃ G : GT, gN G = s.heap.size ∧ gB G = b ∧ gL G = L ∧ gX G = xs ∧ St G s := by
  have htg : ∀ w ∈ tblG, w.before #[Value.ref b] s = true := fun w h => hts w (List.mem_filter.mp h).1
  have hfl := flat_of_before _ hgv
  have hA : ∀ a : Nat, a < s.heap.size → ¬ (fun q : Nat => s.heap.size ≤ q) a := fun a h => Nat.not_le.mpr h
  obtain ⟨c0, i0, k0⟩ := u_known (C := RX0) (T := TX0) (N := 13) (n := 13) htg kok_0.1 (htg _ ist_X0)
  obtain ⟨c1, i1, k1⟩ := u_known (C := RX1) (T := TX1) (N := 10) (n := 10) htg kok_1.1 (htg _ ist_X1)
  obtain ⟨c2, i2, k2⟩ := u_known (C := RX2) (T := TX2) (N := 3) (n := 3) htg kok_2.1 (htg _ ist_X2)
  obtain ⟨c3, i3, k3⟩ := u_known (C := RX3) (T := TX3) (N := 12) (n := 12) htg kok_3.1 (htg _ ist_X3)
  obtain ⟨c4, i4, k4⟩ := u_known (C := RX4) (T := TX4) (N := 7) (n := 7) htg kok_4.1 (htg _ ist_X4)
  obtain ⟨c5, i5, k5⟩ := u_known (C := RX5) (T := TX5) (N := 4) (n := 4) htg kok_5.1 (htg _ ist_X5)
  obtain ⟨c6, i6, k6⟩ := u_known (C := RX6) (T := TX6) (N := 3) (n := 3) htg kok_6.1 (htg _ ist_X6)
  obtain ⟨c7, i7, k7⟩ := u_known (C := RX7) (T := TX7) (N := 2) (n := 2) htg kok_7.1 (htg _ ist_X7)
  obtain ⟨c9, i9, k9⟩ := u_known (C := RX9) (T := TX9) (N := 3) (n := 3) htg kok_9.1 (htg _ ist_X9)
  obtain ⟨c10, i10, k10⟩ := u_known (C := RX10) (T := TX10) (N := 11) (n := 11) htg kok_10.1 (htg _ ist_X10)
  obtain ⟨c11, i11, k11⟩ := u_known (C := RX11) (T := TX11) (N := 53) (n := 53) htg kok_11.1 (htg _ ist_X11)
  obtain ⟨aI, kI, oI, fI1, fI2, fI3⟩ := Cond.arrayClass_spec (htg _ ac_int)
  obtain ⟨aB, kB, oB, fB1, fB2, fB3⟩ := Cond.arrayClass_spec (htg _ ac_byte)
  obtain ⟨aZ, kZ, oZ, fZ1, fZ2, fZ3⟩ := Cond.arrayClass_spec (htg _ ac_boolean)
  obtain ⟨aJ, kJ, oJ, fJ1, fJ2, fJ3⟩ := Cond.arrayClass_spec (htg _ ac_long)
  have hoI : aoA .int s := hts _ ao_i
  have hoJ : aoA .long s := hts _ ao_l
  have hoO : va_AO RX0 s := va_AO.of (hts _ ao_o)
  obtain ⟨pII, aII, kII, -, -, fII2, fII3, fII1⟩ := aoA_spec hoI
  obtain ⟨pJJ, aJJ, kJJ, -, -, fJJ2, fJJ3, fJJ1⟩ := aoA_spec hoJ
  obtain ⟨pOO, aOO, kOO, fOO4, -, fOO2, fOO3, fOO1⟩ := Cond.arrayOver_spec hoO
  obtain ⟨adK, adV, hSt, hEv⟩ := vk_Sof (args := #[Value.ref b]) (s := s) (N := 16) (tm := tmS) (len := lenS) (byt := bytS) (A := fun q : Nat => s.heap.size ≤ q) (fun i hi => by have := (str_ok i hi).1; omega) (fun i hi => hfl _ (sx_ex i hi)) (fun i hi => hfl _ (sx_co i hi)) (fun i hi => hfl _ (sx_ar i hi)) (fun i hi => hfl _ (sx_le i hi)) (fun i hi j hj => hfl _ (sx_el i hi j hj)) (fun i j hi hj hne => (sx_ne i hi j hj hne).imp (fun h => hfl _ h) (fun h => hfl _ h)) hA
  refine ⟨((fun k => match k with
      | 0 => c0 | 1 => c1 | 2 => c2 | 3 => c3 | 4 => c4 | 5 => c5 | 6 => c6 | 7 => c7 | 8 => c7 | 9 => c9 | 10 => c10 | _ => c11, fun k => match k with
      | 0 => i0 | 1 => i1 | 2 => i2 | 3 => i3 | 4 => i4 | 5 => i5 | 6 => i6 | 7 => i7 | 8 => i7 | 9 => i9 | 10 => i10 | _ => i11), s.heap.size, (b, L, xs), (adK, adV), fun k => match k with
      | 0 => aI | 1 => aB | 2 => aZ | 3 => aJ | 4 => aII | 5 => aJJ | _ => aOO), rfl, rfl, rfl, rfl, ?_⟩
  refine ⟨⟨fun c q hq => ?_, fun k q hq => ?_⟩, ⟨hX, hbl, hL⟩, Nat.le_refl _, fun w hw => ?_, ⟨hSt, fun i q hq => ?_, ?_, ?_⟩, hoO, hoI, hoJ⟩
  · match c, hq with
    | 0, hq => cases hq; exact k0
    | 1, hq => cases hq; exact k1
    | 2, hq => cases hq; exact k2
    | 3, hq => cases hq; exact k3
    | 4, hq => cases hq; exact k4
    | 5, hq => cases hq; exact k5
    | 6, hq => cases hq; exact k6
    | 7, hq => cases hq; exact k7
    | 8, hq => cases hq; exact k7
    | 9, hq => cases hq; exact k9
    | 10, hq => cases hq; exact k10
    | 11, hq => cases hq; exact k11
    | k + 12, hq => simp [kls] at hq
  · match k, hq with
    | 0, hq => cases hq; exact ⟨fun n z => ⟨fun k h => (by cases h), kI, fI2, oI, fI3⟩, fI1⟩
    | 1, hq => cases hq; exact ⟨fun n z => ⟨fun k h => (by cases h), kB, fB2, oB, fB3⟩, fB1⟩
    | 2, hq => cases hq; exact ⟨fun n z => ⟨fun k h => (by cases h), kZ, fZ2, oZ, fZ3⟩, fZ1⟩
    | 3, hq => cases hq; exact ⟨fun n z => ⟨fun k h => (by cases h), kJ, fJ2, oJ, fJ3⟩, fJ1⟩
    | 4, hq => cases hq; exact ⟨fun n z => ⟨fun k h => (by cases h), kII, fII2, pII, fII3⟩, fII1⟩
    | 5, hq => cases hq; exact ⟨fun n z => ⟨fun k h => (by cases h), kJJ, fJJ2, pJJ, fJJ3⟩, fJJ1⟩
    | 6, hq => cases hq; exact ⟨fun n z => ⟨fun k h => (by cases h), kOO, fOO2, pOO, fOO3⟩, kOO, pOO, fOO2, fOO3, fOO4, fOO1⟩
    | k + 7, hq => simp [tO] at hq
  · have hb := hts w (sx_nw w hw)
    simp only [nstW, List.mem_cons, List.not_mem_nil, or_false] at hw
    rcases hw with rfl | rfl | rfl | rfl | rfl | rfl | rfl | rfl | rfl | rfl | rfl | rfl | rfl | rfl <;> exact va_Nw.of rfl hb
  · have hi : i < 16 := (List.getElem?_eq_some_iff.mp hq).1
    have e1 : tmS i = Term.string RX4 q.1 := by
      unfold tmS
      rw [List.getD_eq_getElem?_getD, hq]
      rfl
    have h2 := hEv i hi
    rw [e1] at h2
    exact vk_R.of (hts _ (sx_rf q (List.mem_of_getElem? hq))) h2
  · exact va_Zof (hts _ ly_c) (hts _ iy_c) (va_eqi (hfl _ (by decide +kernel))) hA
  · exact va_Zqof (hts _ ly_s) (hts _ iy_s) (hfl _ (by decide +kernel)) hA
theorem law_ev (hp : PureLaw) {G : GT} {l : Launch} (hL : gL G ≤ 3072) : Ev G l ML_law room_1 (ZL G) 0 0 0 [some (vR 100000), none, none, none] [] (Sp 0, rf0, f00) := by
  refine ez_new (n := 0) (by decide) dL_law_0 cl_L_7 ist_X10 in_X10 rfl kok_10 okt_10 sh_0 hf00 hr00 (Nat.le_of_ble_eq_true rfl) (Nat.le_of_ble_eq_true rfl) ?_
  refine ev_dupR dL_law_3 ?_
  refine ev_callI (S := [vR 0]) (mc := 149) (ms := 2502) (Q' := fun r μ => r = none ∧ μ = (Sp 150, rfA, fA)) dL_law_4 (ct_X10_0 (Fr_mo (m := 1) hr00 (by decide)) (Fz_mo (m := 1) hf00 (by decide)) ⟨rfl, rfl⟩) rfl rfl coX10_init ml_L_9i im_X10_init (RRL (by decide) (by decide)) (Nat.le_of_ble_eq_true rfl) ⟨(Nat.le_of_ble_eq_true rfl), (Nat.le_of_ble_eq_true rfl)⟩ ?_
  rintro r μ ⟨rfl, rfl⟩
  refine ev_astore_n (i := 1) (L' := [some (vR 100000), some (vR 0), none, none]) dL_law_7 rfl (by decide) rfl ?_
  refine ez_new (n := 150) (by decide) dL_law_8 cl_L_10 ist_X11 in_X11 rfl kok_11 okt_11 sh_150 hfA hrA (Nat.le_of_ble_eq_true rfl) (Nat.le_of_ble_eq_true rfl) ?_
  refine ev_dupR dL_law_11 ?_
  refine ev_callI (S := [vR 150]) (mc := 27) (ms := 2110) (Q' := fun r μ => r = none ∧ μ = (Sp 178, rfB, fZ)) dL_law_12 (ct_X11_150 (Fr_mo (m := 151) hrA (by decide)) (Fz_mo (m := 151) hfA (by decide)) ⟨rfl, rfl⟩) rfl rfl coX11_init ml_L_12i im_X11_init (RRL (by decide) (by decide)) (Nat.le_of_ble_eq_true rfl) ⟨(Nat.le_of_ble_eq_true rfl), (Nat.le_of_ble_eq_true rfl)⟩ ?_
  rintro r μ ⟨rfl, rfl⟩
  refine ev_astore_n (i := 2) (L' := [some (vR 100000), some (vR 0), some (vR 150), none]) dL_law_15 rfl (by decide) rfl ?_
  rw [sp_is, rf_is]
  exact SL_law_16 rfl (fun _ => rfl) fZ (hp (gL G) (fun j => (gX G j).toInt) hL (fun j => t32_r _))
theorem whole_start (hp : PureLaw) {p : Program} {e : Env} {s : State} {m : MethodId} {below : List Frame} {meth : Method} {c : Code} (l : Launch) {b L : Nat} {xs : Nat → Int32} (hL : L ≤ 3072) (C0 : lw_At p s m meth c b L xs) : W p l e room_1 s m #[Value.ref b] below meth c s.heap [] 0 0 (lw_Z below #[Value.ref b] s) (entryFrame m ([Value.ref b] : List Value).toArray 4) := by
  obtain ⟨hx, hb, hr, hml, hown, hts, hX, hbl, hlocks, hgv, hnm⟩ := id C0
  obtain ⟨G, g1, g2, g3, g4, hSt⟩ := law_St hL hts hX hbl hgv
  have hev := law_ev hp (G := G) (l := l) (by rw [g3]; exact hL)
  have hl := lv_entry ([.ref b]) (n := 4) (Nat.le_of_ble_eq_true rfl)
  rw [lg_entry_eq]
  have hW := hev p e s m #[Value.ref b] below meth c s.heap [] _ ⟨hx, hb, hr, hml, hown, fun w h => hts w (List.mem_filter.mp h).1, hlocks, hnm⟩ hSt va_S.rf ⟨fun k q h => by simp [wO, Sp] at h, by simp [Sp, g1], fun a q h => by simp [Sp] at h, by simp [Sp]⟩ (fun v h => by cases h) ⟨hl.1, hl.2.1, rfl, fun i v h => ?_, fun i v h => ?_⟩
  · intro T hT X
    obtain ⟨t, a1, b1⟩ := hW T hT X
    exact ⟨t, a1, b1 g1.symm⟩
  · match i, h with
    | 0, h =>
      cases h
      have := hl.2.2 (0, .ref b) List.mem_cons_self
      rw [this]
      show _ = some (Slot.val (.ref (aO G 100000)))
      rw [aO_b, g2]
    | 1, h => cases h
    | 2, h => cases h
    | 3, h => cases h
    | i + 4, h => simp at h
  · match i, h with
    | 0, h => cases h; trivial
    | 1, h => cases h
    | 2, h => cases h
    | 3, h => cases h
    | i + 4, h => simp at h

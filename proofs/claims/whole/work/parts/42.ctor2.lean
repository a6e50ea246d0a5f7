theorem oi_im : Cond.instanceMethod objectInit ∈ tblG := tg_1 26 rfl rfl
theorem oi_co : Cond.code objectInit ⟨#[0xb1]⟩ 1 none ∈ tblG := tg_1 27 rfl rfl
theorem ac_int : Cond.arrayClass .int ∈ tblG := tg_1 161 rfl rfl
theorem ac_byte : Cond.arrayClass .byte ∈ tblG := tg_1 50 rfl rfl
theorem ac_boolean : Cond.arrayClass .boolean ∈ tblG := tg_1 184 rfl rfl
theorem ac_long : Cond.arrayClass .long ∈ tblG := tg_1 185 rfl rfl
def Sp (n : Nat) : Sh := SH.take n
theorem SH_len : SH.length = 178 := by decide +kernel
theorem Sp_len {n : Nat} (h : n ≤ 178) : (Sp n).length = n := by unfold Sp; rw [List.length_take, SH_len]; omega
theorem Sp_get {a n : Nat} {q : Nat × Nat} (h : SH[a]? = some q) (hn : a < n) : (Sp n)[a]? = some q := by unfold Sp; rw [List.getElem?_take_of_lt hn]; exact h
theorem Sp_app {n : Nat} {q : Nat × Nat} (h : SH[n]? = some q) : Sp n ++ [q] = Sp (n + 1) := by unfold Sp; rw [List.take_add_one, h]; rfl
/-- nothing from n on -/
def Fr (n : Nat) (r : Rf) : Prop := ∀ a, n ≤ a → ∀ j, r a j = none
def Fz (n : Nat) (f : Mm) : Prop := ∀ a, n ≤ a → ∀ j, f a j = 0
theorem Fr_up {n m a k b : Nat} {r : Rf} (h : Fr n r) (hm : n ≤ m) (ha : a < m) : Fr m (upr r a k b) := fun x hx j => by
  unfold upr
  rw [if_neg (by omega)]
  exact h x (by omega) j
theorem Fr_ur {n m o N : Nat} {r : Rf} (h : Fr n r) (hm : n ≤ m) (ho : o < m) : Fr m (urow r o N) := fun x hx j => by
  unfold urow
  rw [if_neg (by omega)]
  exact h x (by omega) j
theorem Fr_mo {n m : Nat} {r : Rf} (h : Fr n r) (hm : n ≤ m) : Fr m r := fun x hx j => h x (by omega) j
theorem Fz_up {n m a k : Nat} {x : Int} {f : Mm} (h : Fz n f) (hm : n ≤ m) (ha : a < m) : Fz m (up f a k x) := fun y hy j => by
  unfold up
  rw [if_neg (by omega)]
  exact h y (by omega) j
theorem Fz_mo {n m : Nat} {f : Mm} (h : Fz n f) (hm : n ≤ m) : Fz m f := fun x hx j => h x (by omega) j
section Ctor2
variable {G : GT} {l : Launch} {M : MT} {R : Room} {Z : List Frame → Array Value → State → State → Prop} {cs sl pc : Nat} {L : List (Option AV)} {S : List AV} {rf : Rf} {f : Mm}
theorem ez_new {n ci N idx : Nat} {C0 : String} {T : u_T} (hn : n < 178) (hd : decode (mC M) pc = .ok (.new idx, 3)) (hcl : Cond.classLink (mY M).cls idx C0 ∈ tblG) (hins : Cond.instantiable C0 N ∈ tblG) (hini : Cond.initialized C0 ∈ tblG) (hkl : kls[ci]? = some (C0, T, N)) (hko : KOK ci C0 T N) (hok : ∀ k, k < N → okT (ftab ci k) = true) (hsh : SH[n]? = some (10 + ci, N)) (hf : Fz n f) (hr : Fr n rf) (hc : cs + 1 ≤ R.cells) (hsl : sl + N ≤ R.slots)
    (kk : Ev G l M R Z (cs + 1) (sl + N) (pc + 3) L (vR n :: S) (Sp (n + 1), rf, f)) : Ev G l M R Z cs sl pc L S (Sp n, rf, f) := by
  have e := Sp_len (Nat.le_of_lt hn)
  refine ev_new hd hcl hins hini hkl hko hok (fun j => by rw [e]; exact hf n (Nat.le_refl _) j) (fun j => by rw [e]; exact hr n (Nat.le_refl _) j) (by omega) hc hsl ?_
  rw [Sp_app hsh, e]
  exact kk
theorem ez_newa {n k N : Nat} {x : Int} {at0 : ArrayType} {ty : FieldType} (hn : n < 178) (hk : (k = 0 ∧ ty = .int) ∨ (k = 1 ∧ ty = .byte) ∨ (k = 2 ∧ ty = .boolean) ∨ (k = 3 ∧ ty = .long)) (hd : decode (mC M) pc = .ok (.newarray at0, 2)) (hty : newarray.typeOf at0 = ty) (harr : Cond.arrayClass ty ∈ tblG) (hx : x = N) (hn0 : N < 10000) (hsh : SH[n]? = some (k, N)) (hf : Fz n f) (hc : cs + 1 ≤ R.cells) (hsl : sl + N ≤ R.slots)
    (kk : Ev G l M R Z (cs + 1) (sl + N) (pc + 2) L (vR n :: S) (Sp (n + 1), rf, f)) : Ev G l M R Z cs sl pc L (vI x :: S) (Sp n, rf, f) := by
  have e := Sp_len (Nat.le_of_lt hn)
  refine ev_newa hk hd hty harr hx hn0 (fun j => by rw [e]; exact hf n (Nat.le_refl _) j) (by omega) hc hsl ?_
  rw [Sp_app hsh, e]
  exact kk
theorem ez_anew {n N idx : Nat} {x : Int} (hn : n < 178) (hd : decode (mC M) pc = .ok (.anewarray idx, 3)) (hcl : Cond.classLink (mY M).cls idx RX0 ∈ tblG) (hx : x = N) (hn0 : N < 10000) (hsh : SH[n]? = some (6, N)) (hf : Fz n f) (hr : Fr n rf) (hc : cs + 1 ≤ R.cells) (hsl : sl + N ≤ R.slots)
    (kk : Ev G l M R Z (cs + 1) (sl + N) (pc + 3) L (vR n :: S) (Sp (n + 1), rf, f)) : Ev G l M R Z cs sl pc L (vI x :: S) (Sp n, rf, f) := by
  have e := Sp_len (Nat.le_of_lt hn)
  refine ev_anew hd hcl hx hn0 (fun j => by rw [e]; exact hf n (Nat.le_refl _) j) (fun j => by rw [e]; exact hr n (Nat.le_refl _) j) (by omega) hc hsl ?_
  rw [Sp_app hsh, e]
  exact kk
theorem ez_mna {n kO kI N K idx : Nat} {x y : Int} {ty : FieldType} (hn : n + 1 + N ≤ 178) (hkd : (kO = 4 ∧ kI = 0 ∧ ty = .int) ∨ (kO = 5 ∧ kI = 3 ∧ ty = .long)) (hd : decode (mC M) pc = .ok (.multianewarray idx 2, 4)) (hcl : Cond.classLink (mY M).cls idx ("[" ++ (FieldType.array ty).toString) ∈ tblG) (harr : Cond.arrayClass ty ∈ tblG) (hx : x = N) (hy : y = K) (hN : N < 10000) (hK : K < 10000) (hsh : Sp n ++ (kO, N) :: List.replicate N (kI, K) = Sp (n + 1 + N)) (hf : Fz n f) (hr : Fr n rf) (hc : cs + (1 + N) ≤ R.cells) (hsl : sl + (N + N * K) ≤ R.slots)
    (kk : Ev G l M R Z (cs + 1 + N) (sl + N + N * K) (pc + 4) L (vR n :: S) (Sp (n + 1 + N), urow rf n N, f)) : Ev G l M R Z cs sl pc L (vI y :: vI x :: S) (Sp n, rf, f) := by
  have e := Sp_len (show n ≤ 178 by omega)
  refine ev_mna hkd hd hcl harr hx hy hN hK (fun a ha => hf a (by omega)) (fun a ha => hr a (by omega)) (by omega) hc hsl ?_
  rw [hsh, e]
  exact kk
end Ctor2
theorem okt_0 : ∀ k, k < 13 → okT (ftab 0 k) = true := by decide +kernel
theorem okt_1 : ∀ k, k < 10 → okT (ftab 1 k) = true := by decide +kernel
theorem okt_2 : ∀ k, k < 3 → okT (ftab 2 k) = true := by decide +kernel
theorem okt_3 : ∀ k, k < 12 → okT (ftab 3 k) = true := by decide +kernel
theorem okt_4 : ∀ k, k < 7 → okT (ftab 4 k) = true := by decide +kernel
theorem okt_5 : ∀ k, k < 4 → okT (ftab 5 k) = true := by decide +kernel
theorem okt_6 : ∀ k, k < 3 → okT (ftab 6 k) = true := by decide +kernel
theorem okt_7 : ∀ k, k < 2 → okT (ftab 7 k) = true := by decide +kernel
theorem okt_9 : ∀ k, k < 3 → okT (ftab 9 k) = true := by decide +kernel
theorem okt_10 : ∀ k, k < 11 → okT (ftab 10 k) = true := by decide +kernel
theorem okt_11 : ∀ k, k < 53 → okT (ftab 11 k) = true := by decide +kernel
abbrev MX10_init : MT := (yX10_init, cX10_init, 2, none)
theorem coX10_init : CO MX10_init 0 := ⟨tg_1 24 rfl rfl, in_X10, ⟨by decide +kernel, by decide +kernel⟩, by decide +kernel⟩
theorem im_X10_init : Cond.instanceMethod yX10_init ∈ tblG := tg_1 23 rfl rfl
theorem ml_X10_1 : Cond.methodLink RX10 1 objectInit ∈ tblG := tg_1 25 rfl rfl
theorem cl_X10_7 : Cond.classLink RX10 7 RX4 ∈ tblG := tg_1 28 rfl rfl
theorem ist_X4 : Cond.instantiable RX4 7 ∈ tblG := tg_1 29 rfl rfl
abbrev MX4_init : MT := (yX4_init, cX4_init, 1, none)
theorem coX4_init : CO MX4_init 0 := ⟨tg_1 32 rfl rfl, in_X4, ⟨by decide +kernel, by decide +kernel⟩, by decide +kernel⟩
theorem im_X4_init : Cond.instanceMethod yX4_init ∈ tblG := tg_1 31 rfl rfl
theorem ml_X4_3 : Cond.methodLink RX4 3 objectInit ∈ tblG := tg_1 33 rfl rfl
theorem cl_X4_15 : Cond.classLink RX4 15 RX7 ∈ tblG := tg_1 34 rfl rfl
theorem ist_X7 : Cond.instantiable RX7 2 ∈ tblG := tg_1 35 rfl rfl
abbrev MX7_init : MT := (yX7_init, cX7_init, 1, none)
theorem coX7_init : CO MX7_init 0 := ⟨tg_1 38 rfl rfl, in_X7, ⟨by decide +kernel, by decide +kernel⟩, by decide +kernel⟩
theorem im_X7_init : Cond.instanceMethod yX7_init ∈ tblG := tg_1 37 rfl rfl
theorem ml_X7_3 : Cond.methodLink RX7 3 objectInit ∈ tblG := tg_1 39 rfl rfl
theorem ff_X7_9 : FF RX7 9 7 0 := ⟨RX7, TX7, 2, rfl, by decide, kok_7, tg_1 40 rfl rfl, by decide +kernel, by decide +kernel⟩
theorem nw_X4_17 : Cond.methodLinkNest RX4 17 yX7_init RX10 ∈ nstW := by decide +kernel
theorem ff_X4_18 : FF RX4 18 4 2 := ⟨RX4, TX4, 7, rfl, by decide, kok_4, tg_1 55 rfl rfl, by decide +kernel, by decide +kernel⟩
theorem nw_X10_9 : Cond.methodLinkNest RX10 9 yX4_init RX10 ∈ nstW := by decide +kernel
theorem ff_X10_10 : FF RX10 10 10 0 := ⟨RX10, TX10, 11, rfl, by decide, kok_10, tg_2 101 rfl rfl, by decide +kernel, by decide +kernel⟩
theorem cl_X10_16 : Cond.classLink RX10 16 RX0 ∈ tblG := tg_1 76 rfl rfl
theorem ist_X0 : Cond.instantiable RX0 13 ∈ tblG := tg_1 77 rfl rfl
abbrev MX0_init : MT := (yX0_init, cX0_init, 1, none)
theorem coX0_init : CO MX0_init 0 := ⟨tg_1 80 rfl rfl, in_X0, ⟨by decide +kernel, by decide +kernel⟩, by decide +kernel⟩
theorem im_X0_init : Cond.instanceMethod yX0_init ∈ tblG := tg_1 79 rfl rfl
theorem ml_X0_3 : Cond.methodLink RX0 3 objectInit ∈ tblG := tg_1 81 rfl rfl
theorem ff_X0_9 : FF RX0 9 0 7 := ⟨RX0, TX0, 13, rfl, by decide, kok_0, tg_1 117 rfl rfl, by decide +kernel, by decide +kernel⟩
theorem cl_X0_15 : Cond.classLink RX0 15 ("[" ++ (FieldType.array .int).toString) ∈ tblG := tg_1 82 rfl rfl
theorem ff_X0_17 : FF RX0 17 0 8 := ⟨RX0, TX0, 13, rfl, by decide, kok_0, tg_1 120 rfl rfl, by decide +kernel, by decide +kernel⟩
theorem ff_X0_20 : FF RX0 20 0 9 := ⟨RX0, TX0, 13, rfl, by decide, kok_0, tg_1 124 rfl rfl, by decide +kernel, by decide +kernel⟩
theorem ff_X0_23 : FF RX0 23 0 10 := ⟨RX0, TX0, 13, rfl, by decide, kok_0, tg_1 129 rfl rfl, by decide +kernel, by decide +kernel⟩
theorem ff_X0_26 : FF RX0 26 0 11 := ⟨RX0, TX0, 13, rfl, by decide, kok_0, tg_1 132 rfl rfl, by decide +kernel, by decide +kernel⟩
theorem ff_X0_29 : FF RX0 29 0 12 := ⟨RX0, TX0, 13, rfl, by decide, kok_0, tg_1 133 rfl rfl, by decide +kernel, by decide +kernel⟩
theorem nw_X10_18 : Cond.methodLinkNest RX10 18 yX0_init RX10 ∈ nstW := by decide +kernel
theorem ff_X10_19 : FF RX10 19 10 1 := ⟨RX10, TX10, 11, rfl, by decide, kok_10, tg_2 102 rfl rfl, by decide +kernel, by decide +kernel⟩
theorem ff_X10_23 : FF RX10 23 10 2 := ⟨RX10, TX10, 11, rfl, by decide, kok_10, tg_2 103 rfl rfl, by decide +kernel, by decide +kernel⟩
theorem ff_X10_26 : FF RX10 26 10 3 := ⟨RX10, TX10, 11, rfl, by decide, kok_10, tg_2 104 rfl rfl, by decide +kernel, by decide +kernel⟩
theorem ff_X10_30 : FF RX10 30 10 4 := ⟨RX10, TX10, 11, rfl, by decide, kok_10, tg_2 105 rfl rfl, by decide +kernel, by decide +kernel⟩
theorem cl_X10_34 : Cond.classLink RX10 34 RX6 ∈ tblG := tg_1 163 rfl rfl
theorem ist_X6 : Cond.instantiable RX6 3 ∈ tblG := tg_1 164 rfl rfl
abbrev MX6_init : MT := (yX6_init, cX6_init, 2, none)
theorem coX6_init : CO MX6_init 0 := ⟨tg_1 167 rfl rfl, in_X6, ⟨by decide +kernel, by decide +kernel⟩, by decide +kernel⟩
theorem im_X6_init : Cond.instanceMethod yX6_init ∈ tblG := tg_1 166 rfl rfl
theorem ml_X6_3 : Cond.methodLink RX6 3 objectInit ∈ tblG := tg_1 168 rfl rfl
theorem cl_X6_9 : Cond.classLink RX6 9 ("[" ++ (FieldType.array .long).toString) ∈ tblG := tg_1 169 rfl rfl
theorem ff_X6_11 : FF RX6 11 6 0 := ⟨RX6, TX6, 3, rfl, by decide, kok_6, tg_1 171 rfl rfl, by decide +kernel, by decide +kernel⟩
theorem ff_X6_16 : FF RX6 16 6 1 := ⟨RX6, TX6, 3, rfl, by decide, kok_6, tg_1 173 rfl rfl, by decide +kernel, by decide +kernel⟩
theorem ff_X6_20 : FF RX6 20 6 2 := ⟨RX6, TX6, 3, rfl, by decide, kok_6, tg_1 175 rfl rfl, by decide +kernel, by decide +kernel⟩
theorem ml_X10_36 : Cond.methodLink RX10 36 yX6_init ∈ tblG := tg_1 165 rfl rfl
theorem ff_X10_37 : FF RX10 37 10 5 := ⟨RX10, TX10, 11, rfl, by decide, kok_10, tg_2 106 rfl rfl, by decide +kernel, by decide +kernel⟩
theorem cl_X10_41 : Cond.classLink RX10 41 RX1 ∈ tblG := tg_1 186 rfl rfl
theorem ist_X1 : Cond.instantiable RX1 10 ∈ tblG := tg_1 187 rfl rfl
abbrev MX1_init : MT := (yX1_init, cX1_init, 1, none)
theorem coX1_init : CO MX1_init 0 := ⟨tg_1 190 rfl rfl, in_X1, ⟨by decide +kernel, by decide +kernel⟩, by decide +kernel⟩
theorem im_X1_init : Cond.instanceMethod yX1_init ∈ tblG := tg_1 189 rfl rfl
theorem ml_X1_3 : Cond.methodLink RX1 3 objectInit ∈ tblG := tg_1 191 rfl rfl
theorem ff_X1_9 : FF RX1 9 1 0 := ⟨RX1, TX1, 10, rfl, by decide, kok_1, tg_1 193 rfl rfl, by decide +kernel, by decide +kernel⟩
theorem ff_X1_15 : FF RX1 15 1 1 := ⟨RX1, TX1, 10, rfl, by decide, kok_1, tg_1 198 rfl rfl, by decide +kernel, by decide +kernel⟩
theorem cl_X1_18 : Cond.classLink RX1 18 ("[" ++ (FieldType.array .int).toString) ∈ tblG := tg_1 192 rfl rfl
theorem ff_X1_20 : FF RX1 20 1 6 := ⟨RX1, TX1, 10, rfl, by decide, kok_1, tg_1 209 rfl rfl, by decide +kernel, by decide +kernel⟩
theorem ff_X1_23 : FF RX1 23 1 7 := ⟨RX1, TX1, 10, rfl, by decide, kok_1, tg_1 211 rfl rfl, by decide +kernel, by decide +kernel⟩
theorem ff_X1_26 : FF RX1 26 1 8 := ⟨RX1, TX1, 10, rfl, by decide, kok_1, tg_1 213 rfl rfl, by decide +kernel, by decide +kernel⟩
theorem ff_X1_29 : FF RX1 29 1 9 := ⟨RX1, TX1, 10, rfl, by decide, kok_1, tg_1 214 rfl rfl, by decide +kernel, by decide +kernel⟩
theorem nw_X10_43 : Cond.methodLinkNest RX10 43 yX1_init RX10 ∈ nstW := by decide +kernel
theorem ff_X10_44 : FF RX10 44 10 6 := ⟨RX10, TX10, 11, rfl, by decide, kok_10, tg_2 107 rfl rfl, by decide +kernel, by decide +kernel⟩
theorem cl_X10_48 : Cond.classLink RX10 48 RX3 ∈ tblG := tg_1 236 rfl rfl
theorem ist_X3 : Cond.instantiable RX3 12 ∈ tblG := tg_1 237 rfl rfl
abbrev MX3_init : MT := (yX3_init, cX3_init, 1, none)
theorem coX3_init : CO MX3_init 0 := ⟨tg_2 0 rfl rfl, in_X3, ⟨by decide +kernel, by decide +kernel⟩, by decide +kernel⟩
theorem im_X3_init : Cond.instanceMethod yX3_init ∈ tblG := tg_1 239 rfl rfl
theorem ml_X3_3 : Cond.methodLink RX3 3 objectInit ∈ tblG := tg_2 1 rfl rfl
theorem ff_X3_9 : FF RX3 9 3 3 := ⟨RX3, TX3, 12, rfl, by decide, kok_3, tg_2 5 rfl rfl, by decide +kernel, by decide +kernel⟩
theorem ff_X3_15 : FF RX3 15 3 4 := ⟨RX3, TX3, 12, rfl, by decide, kok_3, tg_2 6 rfl rfl, by decide +kernel, by decide +kernel⟩
theorem ff_X3_18 : FF RX3 18 3 5 := ⟨RX3, TX3, 12, rfl, by decide, kok_3, tg_2 7 rfl rfl, by decide +kernel, by decide +kernel⟩
theorem ff_X3_21 : FF RX3 21 3 6 := ⟨RX3, TX3, 12, rfl, by decide, kok_3, tg_2 8 rfl rfl, by decide +kernel, by decide +kernel⟩
theorem ff_X3_24 : FF RX3 24 3 7 := ⟨RX3, TX3, 12, rfl, by decide, kok_3, tg_2 9 rfl rfl, by decide +kernel, by decide +kernel⟩
theorem ff_X3_27 : FF RX3 27 3 8 := ⟨RX3, TX3, 12, rfl, by decide, kok_3, tg_2 10 rfl rfl, by decide +kernel, by decide +kernel⟩
theorem ff_X3_30 : FF RX3 30 3 9 := ⟨RX3, TX3, 12, rfl, by decide, kok_3, tg_2 11 rfl rfl, by decide +kernel, by decide +kernel⟩
theorem ff_X3_33 : FF RX3 33 3 10 := ⟨RX3, TX3, 12, rfl, by decide, kok_3, tg_2 12 rfl rfl, by decide +kernel, by decide +kernel⟩
theorem ff_X3_36 : FF RX3 36 3 11 := ⟨RX3, TX3, 12, rfl, by decide, kok_3, tg_2 14 rfl rfl, by decide +kernel, by decide +kernel⟩
theorem nw_X10_50 : Cond.methodLinkNest RX10 50 yX3_init RX10 ∈ nstW := by decide +kernel
theorem ff_X10_51 : FF RX10 51 10 7 := ⟨RX10, TX10, 11, rfl, by decide, kok_10, tg_2 108 rfl rfl, by decide +kernel, by decide +kernel⟩
theorem cl_X10_55 : Cond.classLink RX10 55 RX2 ∈ tblG := tg_2 41 rfl rfl
theorem ist_X2 : Cond.instantiable RX2 3 ∈ tblG := tg_2 42 rfl rfl
abbrev MX2_init : MT := (yX2_init, cX2_init, 1, none)
theorem coX2_init : CO MX2_init 0 := ⟨tg_2 45 rfl rfl, in_X2, ⟨by decide +kernel, by decide +kernel⟩, by decide +kernel⟩
theorem im_X2_init : Cond.instanceMethod yX2_init ∈ tblG := tg_2 44 rfl rfl
theorem ml_X2_3 : Cond.methodLink RX2 3 objectInit ∈ tblG := tg_2 46 rfl rfl
theorem ff_X2_9 : FF RX2 9 2 2 := ⟨RX2, TX2, 3, rfl, by decide, kok_2, tg_2 51 rfl rfl, by decide +kernel, by decide +kernel⟩
theorem nw_X10_57 : Cond.methodLinkNest RX10 57 yX2_init RX10 ∈ nstW := by decide +kernel
theorem ff_X10_58 : FF RX10 58 10 8 := ⟨RX10, TX10, 11, rfl, by decide, kok_10, tg_2 109 rfl rfl, by decide +kernel, by decide +kernel⟩
theorem cl_X10_62 : Cond.classLink RX10 62 RX5 ∈ tblG := tg_2 60 rfl rfl
theorem ist_X5 : Cond.instantiable RX5 4 ∈ tblG := tg_2 61 rfl rfl
abbrev MX5_init : MT := (yX5_init, cX5_init, 1, none)
theorem coX5_init : CO MX5_init 0 := ⟨tg_2 64 rfl rfl, in_X5, ⟨by decide +kernel, by decide +kernel⟩, by decide +kernel⟩
theorem im_X5_init : Cond.instanceMethod yX5_init ∈ tblG := tg_2 63 rfl rfl
theorem ml_X5_3 : Cond.methodLink RX5 3 objectInit ∈ tblG := tg_2 65 rfl rfl
theorem cl_X5_9 : Cond.classLink RX5 9 ("[" ++ (FieldType.array .int).toString) ∈ tblG := tg_2 66 rfl rfl
theorem ff_X5_11 : FF RX5 11 5 3 := ⟨RX5, TX5, 4, rfl, by decide, kok_5, tg_2 72 rfl rfl, by decide +kernel, by decide +kernel⟩
theorem nw_X10_64 : Cond.methodLinkNest RX10 64 yX5_init RX10 ∈ nstW := by decide +kernel
theorem ff_X10_65 : FF RX10 65 10 9 := ⟨RX10, TX10, 11, rfl, by decide, kok_10, tg_2 110 rfl rfl, by decide +kernel, by decide +kernel⟩
theorem cl_X10_69 : Cond.classLink RX10 69 RX9 ∈ tblG := tg_2 82 rfl rfl
theorem ist_X9 : Cond.instantiable RX9 3 ∈ tblG := tg_2 83 rfl rfl
abbrev MX9_init : MT := (yX9_init, cX9_init, 1, none)
theorem coX9_init : CO MX9_init 0 := ⟨tg_2 86 rfl rfl, in_X9, ⟨by decide +kernel, by decide +kernel⟩, by decide +kernel⟩
theorem im_X9_init : Cond.instanceMethod yX9_init ∈ tblG := tg_2 85 rfl rfl
theorem ml_X9_3 : Cond.methodLink RX9 3 objectInit ∈ tblG := tg_2 87 rfl rfl
theorem cl_X9_11 : Cond.classLink RX9 11 ("[" ++ (FieldType.array .int).toString) ∈ tblG := tg_2 88 rfl rfl
theorem ff_X9_13 : FF RX9 13 9 2 := ⟨RX9, TX9, 3, rfl, by decide, kok_9, tg_2 93 rfl rfl, by decide +kernel, by decide +kernel⟩
theorem nw_X10_71 : Cond.methodLinkNest RX10 71 yX9_init RX10 ∈ nstW := by decide +kernel
theorem ff_X10_72 : FF RX10 72 10 10 := ⟨RX10, TX10, 11, rfl, by decide, kok_10, tg_2 111 rfl rfl, by decide +kernel, by decide +kernel⟩
abbrev MX11_init : MT := (yX11_init, cX11_init, 2, none)
theorem coX11_init : CO MX11_init 0 := ⟨tg_6 33 rfl rfl, in_X11, ⟨by decide +kernel, by decide +kernel⟩, by decide +kernel⟩
theorem im_X11_init : Cond.instanceMethod yX11_init ∈ tblG := tg_6 32 rfl rfl
theorem ml_X11_1 : Cond.methodLink RX11 1 objectInit ∈ tblG := tg_6 34 rfl rfl
theorem ff_X11_7 : FF RX11 7 11 1 := ⟨RX11, TX11, 53, rfl, by decide, kok_11, tg_6 36 rfl rfl, by decide +kernel, by decide +kernel⟩
theorem ff_X11_13 : FF RX11 13 11 2 := ⟨RX11, TX11, 53, rfl, by decide, kok_11, tg_6 37 rfl rfl, by decide +kernel, by decide +kernel⟩
theorem ff_X11_16 : FF RX11 16 11 3 := ⟨RX11, TX11, 53, rfl, by decide, kok_11, tg_6 38 rfl rfl, by decide +kernel, by decide +kernel⟩
theorem ff_X11_20 : FF RX11 20 11 4 := ⟨RX11, TX11, 53, rfl, by decide, kok_11, tg_6 39 rfl rfl, by decide +kernel, by decide +kernel⟩
theorem ff_X11_23 : FF RX11 23 11 5 := ⟨RX11, TX11, 53, rfl, by decide, kok_11, tg_6 40 rfl rfl, by decide +kernel, by decide +kernel⟩
theorem ff_X11_31 : FF RX11 31 11 16 := ⟨RX11, TX11, 53, rfl, by decide, kok_11, tg_6 51 rfl rfl, by decide +kernel, by decide +kernel⟩
theorem ff_X11_34 : FF RX11 34 11 17 := ⟨RX11, TX11, 53, rfl, by decide, kok_11, tg_6 52 rfl rfl, by decide +kernel, by decide +kernel⟩
theorem ff_X11_37 : FF RX11 37 11 18 := ⟨RX11, TX11, 53, rfl, by decide, kok_11, tg_6 53 rfl rfl, by decide +kernel, by decide +kernel⟩
theorem ff_X11_40 : FF RX11 40 11 19 := ⟨RX11, TX11, 53, rfl, by decide, kok_11, tg_6 54 rfl rfl, by decide +kernel, by decide +kernel⟩
theorem ff_X11_43 : FF RX11 43 11 20 := ⟨RX11, TX11, 53, rfl, by decide, kok_11, tg_6 55 rfl rfl, by decide +kernel, by decide +kernel⟩
theorem ff_X11_46 : FF RX11 46 11 21 := ⟨RX11, TX11, 53, rfl, by decide, kok_11, tg_6 56 rfl rfl, by decide +kernel, by decide +kernel⟩
theorem ff_X11_50 : FF RX11 50 11 22 := ⟨RX11, TX11, 53, rfl, by decide, kok_11, tg_6 57 rfl rfl, by decide +kernel, by decide +kernel⟩
theorem ff_X11_53 : FF RX11 53 11 25 := ⟨RX11, TX11, 53, rfl, by decide, kok_11, tg_6 60 rfl rfl, by decide +kernel, by decide +kernel⟩
theorem ff_X11_56 : FF RX11 56 11 26 := ⟨RX11, TX11, 53, rfl, by decide, kok_11, tg_6 61 rfl rfl, by decide +kernel, by decide +kernel⟩
theorem ff_X11_59 : FF RX11 59 11 27 := ⟨RX11, TX11, 53, rfl, by decide, kok_11, tg_6 62 rfl rfl, by decide +kernel, by decide +kernel⟩
theorem ff_X11_62 : FF RX11 62 11 28 := ⟨RX11, TX11, 53, rfl, by decide, kok_11, tg_6 63 rfl rfl, by decide +kernel, by decide +kernel⟩
theorem ff_X11_65 : FF RX11 65 11 29 := ⟨RX11, TX11, 53, rfl, by decide, kok_11, tg_6 64 rfl rfl, by decide +kernel, by decide +kernel⟩
theorem ff_X11_68 : FF RX11 68 11 30 := ⟨RX11, TX11, 53, rfl, by decide, kok_11, tg_6 65 rfl rfl, by decide +kernel, by decide +kernel⟩
theorem ff_X11_71 : FF RX11 71 11 34 := ⟨RX11, TX11, 53, rfl, by decide, kok_11, tg_6 69 rfl rfl, by decide +kernel, by decide +kernel⟩
theorem ff_X11_74 : FF RX11 74 11 35 := ⟨RX11, TX11, 53, rfl, by decide, kok_11, tg_6 70 rfl rfl, by decide +kernel, by decide +kernel⟩
theorem ff_X11_77 : FF RX11 77 11 36 := ⟨RX11, TX11, 53, rfl, by decide, kok_11, tg_6 71 rfl rfl, by decide +kernel, by decide +kernel⟩
theorem ff_X11_80 : FF RX11 80 11 37 := ⟨RX11, TX11, 53, rfl, by decide, kok_11, tg_6 72 rfl rfl, by decide +kernel, by decide +kernel⟩
theorem ff_X11_83 : FF RX11 83 11 38 := ⟨RX11, TX11, 53, rfl, by decide, kok_11, tg_6 73 rfl rfl, by decide +kernel, by decide +kernel⟩
theorem ff_X11_86 : FF RX11 86 11 39 := ⟨RX11, TX11, 53, rfl, by decide, kok_11, tg_6 74 rfl rfl, by decide +kernel, by decide +kernel⟩
theorem ff_X11_89 : FF RX11 89 11 40 := ⟨RX11, TX11, 53, rfl, by decide, kok_11, tg_6 75 rfl rfl, by decide +kernel, by decide +kernel⟩
theorem ff_X11_92 : FF RX11 92 11 43 := ⟨RX11, TX11, 53, rfl, by decide, kok_11, tg_6 78 rfl rfl, by decide +kernel, by decide +kernel⟩
theorem ff_X11_95 : FF RX11 95 11 44 := ⟨RX11, TX11, 53, rfl, by decide, kok_11, tg_6 79 rfl rfl, by decide +kernel, by decide +kernel⟩

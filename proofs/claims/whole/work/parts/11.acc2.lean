/-! reading over writing at told places -/
section Acc2
variable {G : GT} {l : Launch} {M : MT} {R : Room} {Z : List Frame → Array Value → State → State → Prop} {cs sl pc : Nat} {L : List (Option AV)} {S : List AV} {sh : Sh} {rf : Rf} {f : Mm}
theorem ex_getI {a k n ci idx : Nat} {x : Int} (hd : decode (mC M) pc = .ok (.getfield idx, 3)) (hf : FL (mY M).cls idx ci k) (ha : sh[a]? = some (10 + ci, n)) (hk : k < n) (ht : fty ci k = 0) (hx : f a k = x) (kk : Ev G l M R Z cs sl (pc + 3) L (vI x :: S) (sh, rf, f)) : Ev G l M R Z cs sl pc L (vR a :: S) (sh, rf, f) := by
  subst hx; exact ev_getI hd hf ha hk ht kk
theorem ex_getZ {a k n ci idx : Nat} {x : Int} (hd : decode (mC M) pc = .ok (.getfield idx, 3)) (hf : FL (mY M).cls idx ci k) (ha : sh[a]? = some (10 + ci, n)) (hk : k < n) (ht : fty ci k = 3) (hx : f a k = x) (kk : Ev G l M R Z cs sl (pc + 3) L (vI x :: S) (sh, rf, f)) : Ev G l M R Z cs sl pc L (vR a :: S) (sh, rf, f) := by
  subst hx; exact ev_getZ hd hf ha hk ht kk
theorem ex_getJ {a k n ci idx : Nat} {x : Int} (hd : decode (mC M) pc = .ok (.getfield idx, 3)) (hf : FL (mY M).cls idx ci k) (ha : sh[a]? = some (10 + ci, n)) (hk : k < n) (ht : fty ci k = 1) (hx : f a k = x) (kk : Ev G l M R Z cs sl (pc + 3) L (vJ x :: S) (sh, rf, f)) : Ev G l M R Z cs sl pc L (vR a :: S) (sh, rf, f) := by
  subst hx; exact ev_getJ hd hf ha hk ht kk
theorem ex_iald {a n : Nat} {i x : Int} (hd : decode (mC M) pc = .ok (.iaload, 1)) (ha : sh[a]? = some (0, n)) (h0 : 0 ≤ i) (h1 : i < n) (hx : f a i.toNat = x) (kk : Ev G l M R Z cs sl (pc + 1) L (vI x :: S) (sh, rf, f)) : Ev G l M R Z cs sl pc L (vI i :: vR a :: S) (sh, rf, f) := by
  subst hx; exact ev_iald hd ha h0 h1 kk
theorem ex_bald {a n : Nat} {i x : Int} (hd : decode (mC M) pc = .ok (.baload, 1)) (ha : sh[a]? = some (1, n)) (h0 : 0 ≤ i) (h1 : i < n) (hx : f a i.toNat = x) (kk : Ev G l M R Z cs sl (pc + 1) L (vI x :: S) (sh, rf, f)) : Ev G l M R Z cs sl pc L (vI i :: vR a :: S) (sh, rf, f) := by
  subst hx; exact ev_bald hd ha h0 h1 kk
theorem ex_zald {a n : Nat} {i x : Int} (hd : decode (mC M) pc = .ok (.baload, 1)) (ha : sh[a]? = some (2, n)) (h0 : 0 ≤ i) (h1 : i < n) (hx : f a i.toNat = x) (kk : Ev G l M R Z cs sl (pc + 1) L (vI x :: S) (sh, rf, f)) : Ev G l M R Z cs sl pc L (vI i :: vR a :: S) (sh, rf, f) := by
  subst hx; exact ev_zald hd ha h0 h1 kk
theorem ex_lald {a n : Nat} {i x : Int} (hd : decode (mC M) pc = .ok (.laload, 1)) (ha : sh[a]? = some (3, n)) (h0 : 0 ≤ i) (h1 : i < n) (hx : f a i.toNat = x) (kk : Ev G l M R Z cs sl (pc + 1) L (vJ x :: S) (sh, rf, f)) : Ev G l M R Z cs sl pc L (vI i :: vR a :: S) (sh, rf, f) := by
  subst hx; exact ev_lald hd ha h0 h1 kk
theorem ex_iast {a n j : Nat} {i x : Int} (hd : decode (mC M) pc = .ok (.iastore, 1)) (ha : sh[a]? = some (0, n)) (h0 : 0 ≤ i) (h1 : i < n) (hj : i.toNat = j) (kk : Ev G l M R Z cs sl (pc + 1) L S (sh, rf, up f a j x)) : Ev G l M R Z cs sl pc L (vI x :: vI i :: vR a :: S) (sh, rf, f) := by
  subst hj; exact ev_iast hd ha h0 h1 kk
theorem ex_bast {a n j : Nat} {i x : Int} (hd : decode (mC M) pc = .ok (.bastore, 1)) (ha : sh[a]? = some (1, n)) (h0 : 0 ≤ i) (h1 : i < n) (hj : i.toNat = j) (kk : Ev G l M R Z cs sl (pc + 1) L S (sh, rf, up f a j (w8 x))) : Ev G l M R Z cs sl pc L (vI x :: vI i :: vR a :: S) (sh, rf, f) := by
  subst hj; exact ev_bast hd ha h0 h1 kk
theorem ex_zast {a n j : Nat} {i x : Int} (hd : decode (mC M) pc = .ok (.bastore, 1)) (ha : sh[a]? = some (2, n)) (h0 : 0 ≤ i) (h1 : i < n) (h01 : x = 0 ∨ x = 1) (hj : i.toNat = j) (kk : Ev G l M R Z cs sl (pc + 1) L S (sh, rf, up f a j x)) : Ev G l M R Z cs sl pc L (vI x :: vI i :: vR a :: S) (sh, rf, f) := by
  subst hj; exact ev_zast hd ha h0 h1 h01 kk
theorem ex_last {a n j : Nat} {i x : Int} (hd : decode (mC M) pc = .ok (.lastore, 1)) (ha : sh[a]? = some (3, n)) (h0 : 0 ≤ i) (h1 : i < n) (hj : i.toNat = j) (kk : Ev G l M R Z cs sl (pc + 1) L S (sh, rf, up f a j x)) : Ev G l M R Z cs sl pc L (vJ x :: vI i :: vR a :: S) (sh, rf, f) := by
  subst hj; exact ev_last hd ha h0 h1 kk
/-- switches over a table -/
theorem ev_tIn {x : Int} {dflt lo hi off : Int} {offs : Array Int} {len tgt : Nat} {μ : Mem} (hd : decode (mC M) pc = .ok (.tableswitch dflt lo hi offs, len)) (h1 : lo ≤ x) (h2 : x ≤ hi) (ho : offs[(x - lo).toNat]? = some off) (ht : (pc : Int) + off = (tgt : Int)) (k : Ev G l M R Z cs sl tgt L S μ) : Ev G l M R Z cs sl pc L (vI x :: S) μ := by
  intro p e s m args below meth c H locs ls C hs hS hw hn hl
  have hx : (i32 x).toInt = x := i32_to (n1 hn)
  exact lv_tableIn C.1 C.2.1 hd (by rw [hx]; omega) (by rw [hx]; omega) (by rw [hx]; exact ho) ht (k p e s m args below meth c H locs ls C hs hS hw (n2 hn) hl)
theorem ev_tOut {x : Int} {dflt lo hi : Int} {offs : Array Int} {len tgt : Nat} {μ : Mem} (hd : decode (mC M) pc = .ok (.tableswitch dflt lo hi offs, len)) (h : x < lo ∨ hi < x) (ht : (pc : Int) + dflt = (tgt : Int)) (k : Ev G l M R Z cs sl tgt L S μ) : Ev G l M R Z cs sl pc L (vI x :: S) μ := by
  intro p e s m args below meth c H locs ls C hs hS hw hn hl
  have hx : (i32 x).toInt = x := i32_to (n1 hn)
  exact lv_tableOut C.1 C.2.1 hd (by rw [hx]; exact h) ht (k p e s m args below meth c H locs ls C hs hS hw (n2 hn) hl)
/-- what the memory is good for -/
theorem ev_nM {μ : Mem} (k : nM μ → Ev G l M R Z cs sl pc L S μ) : Ev G l M R Z cs sl pc L S μ := fun p e s m args below meth c H locs ls C hs hS hw hn hl => k hw.2.2.1 p e s m args below meth c H locs ls C hs hS hw hn hl
end Acc2
theorem kok_0 : KOK 0 RX0 TX0 13 := ⟨by decide +kernel, tyX0_ok, nmX0⟩
theorem kok_1 : KOK 1 RX1 TX1 10 := ⟨by decide +kernel, tyX1_ok, nmX1⟩
theorem kok_2 : KOK 2 RX2 TX2 3 := ⟨by decide +kernel, tyX2_ok, nmX2⟩
theorem kok_3 : KOK 3 RX3 TX3 12 := ⟨by decide +kernel, tyX3_ok, nmX3⟩
theorem kok_4 : KOK 4 RX4 TX4 7 := ⟨by decide +kernel, tyX4_ok, nmX4⟩
theorem kok_5 : KOK 5 RX5 TX5 4 := ⟨by decide +kernel, tyX5_ok, nmX5⟩
theorem kok_6 : KOK 6 RX6 TX6 3 := ⟨by decide +kernel, tyX6_ok, nmX6⟩
theorem kok_7 : KOK 7 RX7 TX7 2 := ⟨by decide +kernel, tyX7_ok, nmX7⟩
theorem kok_9 : KOK 9 RX9 TX9 3 := ⟨by decide +kernel, tyX9_ok, nmX9⟩
theorem kok_10 : KOK 10 RX10 TX10 11 := ⟨by decide +kernel, tyX10_ok, nmX10⟩
theorem kok_11 : KOK 11 RX11 TX11 53 := ⟨by decide +kernel, tyX11_ok, nmX11⟩
theorem ex_alen {G : GT} {l : Launch} {M : MT} {R : Room} {Z : List Frame → Array Value → State → State → Prop} {cs sl pc : Nat} {L : List (Option AV)} {S : List AV} {sh : Sh} {rf : Rf} {f : Mm} {a n q : Nat} {x : Int} (hd : decode (mC M) pc = .ok (.arraylength, 1)) (hq : q < 7) (ha : sh[a]? = some (q, n)) (hr : r32 (n : Int)) (hx : ((n : Nat) : Int) = x) (kk : Ev G l M R Z cs sl (pc + 1) L (vI x :: S) (sh, rf, f)) : Ev G l M R Z cs sl pc L (vR a :: S) (sh, rf, f) := by
  subst hx; exact ev_alen hd hq ha hr kk

/-! rows of the small machine: an instruction, a row -/
theorem nc {v : AV} {S : List AV} (h : nV v) (hS : ∀ u ∈ S, nV u) : ∀ u ∈ v :: S, nV u := List.forall_mem_cons.mpr ⟨h, hS⟩
theorem n1 {v : AV} {S : List AV} (h : ∀ u ∈ v :: S, nV u) : nV v := (List.forall_mem_cons.mp h).1
theorem n2 {v : AV} {S : List AV} (h : ∀ u ∈ v :: S, nV u) : ∀ u ∈ S, nV u := (List.forall_mem_cons.mp h).2
theorem b32 {a : Int32} : a = i32 a.toInt := i32_is rfl
theorem b64 {a : Int64} : a = i64 a.toInt := i64_is rfl
section Rules
variable {G : GT} {l : Launch} {M : MT} {R : Room} {Z : List Frame → Array Value → State → State → Prop} {cs sl pc : Nat} {L : List (Option AV)} {S : List AV} {μ : Mem}
theorem ev_iconst {n : Int} (hd : decode (mC M) pc = .ok (.iconst n, 1)) (hr : r32 n) (k : Ev G l M R Z cs sl (pc + 1) L (vI n :: S) μ) : Ev G l M R Z cs sl pc L (S) μ := by
  intro p e s m args below meth c H locs ls C hs hS hw hn hl
  have h := k p e s m args below meth c H locs ls C hs hS hw (nc hr hn) hl
  exact lv_iconst C.1 C.2.1 hd rfl h
theorem ev_bipush {n v : Int} (hd : decode (mC M) pc = .ok (.bipush n, 2)) (hr : r32 v) (hv : (Int8.ofInt n).toInt32 = i32 v) (k : Ev G l M R Z cs sl (pc + 2) L (vI v :: S) μ) : Ev G l M R Z cs sl pc L (S) μ := by
  intro p e s m args below meth c H locs ls C hs hS hw hn hl
  have h := k p e s m args below meth c H locs ls C hs hS hw (nc hr hn) hl
  exact lv_bipush C.1 C.2.1 hd hv h
theorem ev_sipush {n v : Int} (hd : decode (mC M) pc = .ok (.sipush n, 3)) (hr : r32 v) (hv : (Int16.ofInt n).toInt32 = i32 v) (k : Ev G l M R Z cs sl (pc + 3) L (vI v :: S) μ) : Ev G l M R Z cs sl pc L (S) μ := by
  intro p e s m args below meth c H locs ls C hs hS hw hn hl
  have h := k p e s m args below meth c H locs ls C hs hS hw (nc hr hn) hl
  exact lv_sipush C.1 C.2.1 hd hv h
theorem ev_lconst {n : Fin 2} {v : Int} (hd : decode (mC M) pc = .ok (.lconst n, 1)) (hr : r64 v) (hv : Int64.ofNat (n : Nat) = i64 v) (k : Ev G l M R Z cs sl (pc + 1) L (vJ v :: S) μ) : Ev G l M R Z cs sl pc L (S) μ := by
  intro p e s m args below meth c H locs ls C hs hS hw hn hl
  have h := k p e s m args below meth c H locs ls C hs hS hw (nc hr hn) hl
  exact lv_lconst C.1 C.2.1 hd hv h
theorem ev_ldc {i : Nat} {v : Int} (hd : decode (mC M) pc = .ok (.ldc i, 2)) (hr : r32 v) (hw0 : Cond.constant (mY M).cls i (i32 v) ∈ tblG) (k : Ev G l M R Z cs sl (pc + 2) L (vI v :: S) μ) : Ev G l M R Z cs sl pc L (S) μ := by
  intro p e s m args below meth c H locs ls C hs hS hw hn hl
  have h := k p e s m args below meth c H locs ls C hs hS hw (nc hr hn) hl
  exact lv_ldc C.1 C.2.1 C.2.2.2.2.1 (C.2.2.2.2.2.1 _ hw0) hd h
theorem ev_ldcw {i : Nat} {v : Int} (hd : decode (mC M) pc = .ok (.ldc_w i, 3)) (hr : r32 v) (hw0 : Cond.constant (mY M).cls i (i32 v) ∈ tblG) (k : Ev G l M R Z cs sl (pc + 3) L (vI v :: S) μ) : Ev G l M R Z cs sl pc L (S) μ := by
  intro p e s m args below meth c H locs ls C hs hS hw hn hl
  have h := k p e s m args below meth c H locs ls C hs hS hw (nc hr hn) hl
  exact lv_ldcw C.1 C.2.1 C.2.2.2.2.1 (C.2.2.2.2.2.1 _ hw0) hd h
theorem ev_ldc2 {i : Nat} {v : Int} (hd : decode (mC M) pc = .ok (.ldc2_w i, 3)) (hr : r64 v) (hw0 : Cond.constantLong (mY M).cls i (i64 v) ∈ tblG) (k : Ev G l M R Z cs sl (pc + 3) L (vJ v :: S) μ) : Ev G l M R Z cs sl pc L (S) μ := by
  intro p e s m args below meth c H locs ls C hs hS hw hn hl
  have h := k p e s m args below meth c H locs ls C hs hS hw (nc hr hn) hl
  exact lv_ldc2 C.1 C.2.1 C.2.2.2.2.1 (C.2.2.2.2.2.1 _ hw0) hd h
theorem ev_iload_n {j : Fin 4} {i : Nat} {x : Int} (hd : decode (mC M) pc = .ok (.iload_n j, 1)) (hi : (j : Nat) = i) (hx : L[i]? = some (some (vI x))) (k : Ev G l M R Z cs sl (pc + 1) L (vI x :: S) μ) : Ev G l M R Z cs sl pc L (S) μ := by
  intro p e s m args below meth c H locs ls C hs hS hw hn hl
  have h := k p e s m args below meth c H locs ls C hs hS hw (nc (hl.2.2.2.2 i _ hx) hn) hl
  exact lv_iload_n C.1 C.2.1 hd hi (hl.2.2.2.1 i _ hx) h
theorem ev_iload {i : Nat} {x : Int} (hd : decode (mC M) pc = .ok (.iload i, 2)) (hx : L[i]? = some (some (vI x))) (k : Ev G l M R Z cs sl (pc + 2) L (vI x :: S) μ) : Ev G l M R Z cs sl pc L (S) μ := by
  intro p e s m args below meth c H locs ls C hs hS hw hn hl
  have h := k p e s m args below meth c H locs ls C hs hS hw (nc (hl.2.2.2.2 i _ hx) hn) hl
  exact lv_iload C.1 C.2.1 hd (hl.2.2.2.1 i _ hx) h
theorem ev_lload_n {j : Fin 4} {i : Nat} {x : Int} (hd : decode (mC M) pc = .ok (.lload_n j, 1)) (hi : (j : Nat) = i) (hx : L[i]? = some (some (vJ x))) (k : Ev G l M R Z cs sl (pc + 1) L (vJ x :: S) μ) : Ev G l M R Z cs sl pc L (S) μ := by
  intro p e s m args below meth c H locs ls C hs hS hw hn hl
  have h := k p e s m args below meth c H locs ls C hs hS hw (nc (hl.2.2.2.2 i _ hx) hn) hl
  exact lv_lload_n C.1 C.2.1 hd hi (hl.2.2.2.1 i _ hx) h
theorem ev_lload {i : Nat} {x : Int} (hd : decode (mC M) pc = .ok (.lload i, 2)) (hx : L[i]? = some (some (vJ x))) (k : Ev G l M R Z cs sl (pc + 2) L (vJ x :: S) μ) : Ev G l M R Z cs sl pc L (S) μ := by
  intro p e s m args below meth c H locs ls C hs hS hw hn hl
  have h := k p e s m args below meth c H locs ls C hs hS hw (nc (hl.2.2.2.2 i _ hx) hn) hl
  exact lv_lload C.1 C.2.1 hd (hl.2.2.2.1 i _ hx) h
theorem ev_aload_n {j : Fin 4} {i : Nat} {x : Nat} (hd : decode (mC M) pc = .ok (.aload_n j, 1)) (hi : (j : Nat) = i) (hx : L[i]? = some (some (vR x))) (k : Ev G l M R Z cs sl (pc + 1) L (vR x :: S) μ) : Ev G l M R Z cs sl pc L (S) μ := by
  intro p e s m args below meth c H locs ls C hs hS hw hn hl
  have h := k p e s m args below meth c H locs ls C hs hS hw (nc (hl.2.2.2.2 i _ hx) hn) hl
  exact lv_aload_n C.1 C.2.1 hd hi (hl.2.2.2.1 i _ hx) h
theorem ev_aload {i : Nat} {x : Nat} (hd : decode (mC M) pc = .ok (.aload i, 2)) (hx : L[i]? = some (some (vR x))) (k : Ev G l M R Z cs sl (pc + 2) L (vR x :: S) μ) : Ev G l M R Z cs sl pc L (S) μ := by
  intro p e s m args below meth c H locs ls C hs hS hw hn hl
  have h := k p e s m args below meth c H locs ls C hs hS hw (nc (hl.2.2.2.2 i _ hx) hn) hl
  exact lv_aload C.1 C.2.1 hd (hl.2.2.2.1 i _ hx) h
theorem ev_iadd {x y : Int} (hd : decode (mC M) pc = .ok (.iadd, 1)) (k : Ev G l M R Z cs sl (pc + 1) L (vI (w32 (x + y)) :: S) μ) : Ev G l M R Z cs sl pc L (vI y :: vI x :: S) μ := by
  intro p e s m args below meth c H locs ls C hs hS hw hn hl
  have h := k p e s m args below meth c H locs ls C hs hS hw (nc (w32_r _) (n2 (n2 hn))) hl
  exact lv_iadd C.1 C.2.1 hd ((i32_add x y).symm ▸ h)
theorem ev_isub {x y : Int} (hd : decode (mC M) pc = .ok (.isub, 1)) (k : Ev G l M R Z cs sl (pc + 1) L (vI (w32 (x - y)) :: S) μ) : Ev G l M R Z cs sl pc L (vI y :: vI x :: S) μ := by
  intro p e s m args below meth c H locs ls C hs hS hw hn hl
  have h := k p e s m args below meth c H locs ls C hs hS hw (nc (w32_r _) (n2 (n2 hn))) hl
  exact lv_isub C.1 C.2.1 hd ((i32_sub x y).symm ▸ h)
theorem ev_imul {x y : Int} (hd : decode (mC M) pc = .ok (.imul, 1)) (k : Ev G l M R Z cs sl (pc + 1) L (vI (w32 (x * y)) :: S) μ) : Ev G l M R Z cs sl pc L (vI y :: vI x :: S) μ := by
  intro p e s m args below meth c H locs ls C hs hS hw hn hl
  have h := k p e s m args below meth c H locs ls C hs hS hw (nc (w32_r _) (n2 (n2 hn))) hl
  exact lv_imul C.1 C.2.1 hd ((i32_mul x y).symm ▸ h)
theorem ev_iand {x y : Int} (hd : decode (mC M) pc = .ok (.iand, 1)) (k : Ev G l M R Z cs sl (pc + 1) L (vI (bAnd x y) :: S) μ) : Ev G l M R Z cs sl pc L (vI y :: vI x :: S) μ := by
  intro p e s m args below meth c H locs ls C hs hS hw hn hl
  have h := k p e s m args below meth c H locs ls C hs hS hw (nc (t32_r _) (n2 (n2 hn))) hl
  exact lv_iand C.1 C.2.1 hd (((b32 : i32 x &&& i32 y = i32 (bAnd x y))).symm ▸ h)
theorem ev_ior {x y : Int} (hd : decode (mC M) pc = .ok (.ior, 1)) (k : Ev G l M R Z cs sl (pc + 1) L (vI (bOr x y) :: S) μ) : Ev G l M R Z cs sl pc L (vI y :: vI x :: S) μ := by
  intro p e s m args below meth c H locs ls C hs hS hw hn hl
  have h := k p e s m args below meth c H locs ls C hs hS hw (nc (t32_r _) (n2 (n2 hn))) hl
  exact lv_ior C.1 C.2.1 hd (((b32 : i32 x ||| i32 y = i32 (bOr x y))).symm ▸ h)
theorem ev_ixor {x y : Int} (hd : decode (mC M) pc = .ok (.ixor, 1)) (k : Ev G l M R Z cs sl (pc + 1) L (vI (bXor x y) :: S) μ) : Ev G l M R Z cs sl pc L (vI y :: vI x :: S) μ := by
  intro p e s m args below meth c H locs ls C hs hS hw hn hl
  have h := k p e s m args below meth c H locs ls C hs hS hw (nc (t32_r _) (n2 (n2 hn))) hl
  exact lv_ixor C.1 C.2.1 hd (((b32 : i32 x ^^^ i32 y = i32 (bXor x y))).symm ▸ h)
theorem ev_ishl {x y : Int} (hd : decode (mC M) pc = .ok (.ishl, 1)) (k : Ev G l M R Z cs sl (pc + 1) L (vI (bShl x y) :: S) μ) : Ev G l M R Z cs sl pc L (vI y :: vI x :: S) μ := by
  intro p e s m args below meth c H locs ls C hs hS hw hn hl
  have h := k p e s m args below meth c H locs ls C hs hS hw (nc (t32_r _) (n2 (n2 hn))) hl
  exact lv_ishl C.1 C.2.1 hd (((b32 : i32 x <<< (i32 y &&& 31) = i32 (bShl x y))).symm ▸ h)
theorem ev_ishr {x y : Int} (hd : decode (mC M) pc = .ok (.ishr, 1)) (k : Ev G l M R Z cs sl (pc + 1) L (vI (bShr x y) :: S) μ) : Ev G l M R Z cs sl pc L (vI y :: vI x :: S) μ := by
  intro p e s m args below meth c H locs ls C hs hS hw hn hl
  have h := k p e s m args below meth c H locs ls C hs hS hw (nc (t32_r _) (n2 (n2 hn))) hl
  exact lv_ishr C.1 C.2.1 hd (((b32 : i32 x >>> (i32 y &&& 31) = i32 (bShr x y))).symm ▸ h)
theorem ev_iushr {x y : Int} (hd : decode (mC M) pc = .ok (.iushr, 1)) (k : Ev G l M R Z cs sl (pc + 1) L (vI (bUshr x y) :: S) μ) : Ev G l M R Z cs sl pc L (vI y :: vI x :: S) μ := by
  intro p e s m args below meth c H locs ls C hs hS hw hn hl
  have h := k p e s m args below meth c H locs ls C hs hS hw (nc (t32_r _) (n2 (n2 hn))) hl
  exact lv_iushr C.1 C.2.1 hd b32 h
theorem ev_idiv {x y : Int} (hd : decode (mC M) pc = .ok (.idiv, 1)) (h0 : y ≠ 0) (k : Ev G l M R Z cs sl (pc + 1) L (vI (iDiv x y) :: S) μ) : Ev G l M R Z cs sl pc L (vI y :: vI x :: S) μ := by
  intro p e s m args below meth c H locs ls C hs hS hw hn hl
  have h := k p e s m args below meth c H locs ls C hs hS hw (nc (w32_r _) (n2 (n2 hn))) hl
  exact lv_idiv C.1 C.2.1 hd (fun q => h0 ((i32_inj (n1 hn) r32_0).mp q)) ((i32_div (n1 (n2 hn)) (n1 hn)).symm ▸ h)
theorem ev_irem {x y : Int} (hd : decode (mC M) pc = .ok (.irem, 1)) (h0 : y ≠ 0) (k : Ev G l M R Z cs sl (pc + 1) L (vI (iRem x y) :: S) μ) : Ev G l M R Z cs sl pc L (vI y :: vI x :: S) μ := by
  intro p e s m args below meth c H locs ls C hs hS hw hn hl
  have h := k p e s m args below meth c H locs ls C hs hS hw (nc (r32_iRem (n1 (n2 hn))) (n2 (n2 hn))) hl
  exact lv_irem C.1 C.2.1 hd (fun q => h0 ((i32_inj (n1 hn) r32_0).mp q)) ((i32_rem (n1 (n2 hn)) (n1 hn)).symm ▸ h)
theorem ev_ineg {x : Int} (hd : decode (mC M) pc = .ok (.ineg, 1)) (k : Ev G l M R Z cs sl (pc + 1) L (vI (w32 (-x)) :: S) μ) : Ev G l M R Z cs sl pc L (vI x :: S) μ := by
  intro p e s m args below meth c H locs ls C hs hS hw hn hl
  have h := k p e s m args below meth c H locs ls C hs hS hw (nc (w32_r _) (n2 hn)) hl
  exact lv_ineg C.1 C.2.1 hd ((i32_neg x).symm ▸ h)
theorem ev_ladd {x y : Int} (hd : decode (mC M) pc = .ok (.ladd, 1)) (k : Ev G l M R Z cs sl (pc + 1) L (vJ (w64 (x + y)) :: S) μ) : Ev G l M R Z cs sl pc L (vJ y :: vJ x :: S) μ := by
  intro p e s m args below meth c H locs ls C hs hS hw hn hl
  have h := k p e s m args below meth c H locs ls C hs hS hw (nc (w64_r _) (n2 (n2 hn))) hl
  exact lv_ladd C.1 C.2.1 hd ((i64_add x y).symm ▸ h)
theorem ev_lsub {x y : Int} (hd : decode (mC M) pc = .ok (.lsub, 1)) (k : Ev G l M R Z cs sl (pc + 1) L (vJ (w64 (x - y)) :: S) μ) : Ev G l M R Z cs sl pc L (vJ y :: vJ x :: S) μ := by
  intro p e s m args below meth c H locs ls C hs hS hw hn hl
  have h := k p e s m args below meth c H locs ls C hs hS hw (nc (w64_r _) (n2 (n2 hn))) hl
  exact lv_lsub C.1 C.2.1 hd ((i64_sub x y).symm ▸ h)
theorem ev_lmul {x y : Int} (hd : decode (mC M) pc = .ok (.lmul, 1)) (k : Ev G l M R Z cs sl (pc + 1) L (vJ (w64 (x * y)) :: S) μ) : Ev G l M R Z cs sl pc L (vJ y :: vJ x :: S) μ := by
  intro p e s m args below meth c H locs ls C hs hS hw hn hl
  have h := k p e s m args below meth c H locs ls C hs hS hw (nc (w64_r _) (n2 (n2 hn))) hl
  exact lv_lmul C.1 C.2.1 hd ((i64_mul x y).symm ▸ h)
theorem ev_land {x y : Int} (hd : decode (mC M) pc = .ok (.land, 1)) (k : Ev G l M R Z cs sl (pc + 1) L (vJ (lAnd x y) :: S) μ) : Ev G l M R Z cs sl pc L (vJ y :: vJ x :: S) μ := by
  intro p e s m args below meth c H locs ls C hs hS hw hn hl
  have h := k p e s m args below meth c H locs ls C hs hS hw (nc (t64_r _) (n2 (n2 hn))) hl
  exact lv_land C.1 C.2.1 hd (((b64 : i64 x &&& i64 y = i64 (lAnd x y))).symm ▸ h)
theorem ev_lor {x y : Int} (hd : decode (mC M) pc = .ok (.lor, 1)) (k : Ev G l M R Z cs sl (pc + 1) L (vJ (lOr x y) :: S) μ) : Ev G l M R Z cs sl pc L (vJ y :: vJ x :: S) μ := by
  intro p e s m args below meth c H locs ls C hs hS hw hn hl
  have h := k p e s m args below meth c H locs ls C hs hS hw (nc (t64_r _) (n2 (n2 hn))) hl
  exact lv_lor C.1 C.2.1 hd (((b64 : i64 x ||| i64 y = i64 (lOr x y))).symm ▸ h)
theorem ev_ldiv {x y : Int} (hd : decode (mC M) pc = .ok (.ldiv, 1)) (h0 : y ≠ 0) (k : Ev G l M R Z cs sl (pc + 1) L (vJ (lDiv x y) :: S) μ) : Ev G l M R Z cs sl pc L (vJ y :: vJ x :: S) μ := by
  intro p e s m args below meth c H locs ls C hs hS hw hn hl
  have h := k p e s m args below meth c H locs ls C hs hS hw (nc (w64_r _) (n2 (n2 hn))) hl
  exact lv_ldiv C.1 C.2.1 hd (fun q => h0 ((i64_inj (n1 hn) (by unfold r64; omega)).mp q)) ((i64_div (n1 (n2 hn)) (n1 hn)).symm ▸ h)
theorem ev_lrem {x y : Int} (hd : decode (mC M) pc = .ok (.lrem, 1)) (h0 : y ≠ 0) (k : Ev G l M R Z cs sl (pc + 1) L (vJ (lRem x y) :: S) μ) : Ev G l M R Z cs sl pc L (vJ y :: vJ x :: S) μ := by
  intro p e s m args below meth c H locs ls C hs hS hw hn hl
  have h := k p e s m args below meth c H locs ls C hs hS hw (nc (r64_lRem (n1 (n2 hn))) (n2 (n2 hn))) hl
  exact lv_lrem C.1 C.2.1 hd (fun q => h0 ((i64_inj (n1 hn) (by unfold r64; omega)).mp q)) ((i64_rem (n1 (n2 hn)) (n1 hn)).symm ▸ h)
theorem ev_lshl {x y : Int} (hd : decode (mC M) pc = .ok (.lshl, 1)) (k : Ev G l M R Z cs sl (pc + 1) L (vJ (lShl x y) :: S) μ) : Ev G l M R Z cs sl pc L (vI y :: vJ x :: S) μ := by
  intro p e s m args below meth c H locs ls C hs hS hw hn hl
  have h := k p e s m args below meth c H locs ls C hs hS hw (nc (t64_r _) (n2 (n2 hn))) hl
  exact lv_lshl C.1 C.2.1 hd b64 h
theorem ev_lcmp {x y : Int} (hd : decode (mC M) pc = .ok (.lcmp, 1)) (k : Ev G l M R Z cs sl (pc + 1) L (vI (cmp3 x y) :: S) μ) : Ev G l M R Z cs sl pc L (vJ y :: vJ x :: S) μ := by
  intro p e s m args below meth c H locs ls C hs hS hw hn hl
  have h := k p e s m args below meth c H locs ls C hs hS hw (nc (cmp3_r _ _) (n2 (n2 hn))) hl
  exact W.lcmp C.1 C.2.1 hd ((lg_cmp3 (n1 (n2 hn)) (n1 hn)).symm ▸ h)
theorem ev_i2l {x : Int} (hd : decode (mC M) pc = .ok (.i2l, 1)) (k : Ev G l M R Z cs sl (pc + 1) L (vJ x :: S) μ) : Ev G l M R Z cs sl pc L (vI x :: S) μ := by
  intro p e s m args below meth c H locs ls C hs hS hw hn hl
  have h := k p e s m args below meth c H locs ls C hs hS hw (nc (r32_64 (n1 hn)) (n2 hn)) hl
  exact lv_i2l C.1 C.2.1 hd (i2l_is (n1 hn)) h
theorem ev_l2i {x : Int} (hd : decode (mC M) pc = .ok (.l2i, 1)) (k : Ev G l M R Z cs sl (pc + 1) L (vI (w32 x) :: S) μ) : Ev G l M R Z cs sl pc L (vJ x :: S) μ := by
  intro p e s m args below meth c H locs ls C hs hS hw hn hl
  have h := k p e s m args below meth c H locs ls C hs hS hw (nc (w32_r _) (n2 hn)) hl
  exact lv_l2i C.1 C.2.1 hd (l2i_is (n1 hn)) h
theorem ev_i2b {x : Int} (hd : decode (mC M) pc = .ok (.i2b, 1)) (k : Ev G l M R Z cs sl (pc + 1) L (vI (w8 x) :: S) μ) : Ev G l M R Z cs sl pc L (vI x :: S) μ := by
  intro p e s m args below meth c H locs ls C hs hS hw hn hl
  have h := k p e s m args below meth c H locs ls C hs hS hw (nc (w8_r _) (n2 hn)) hl
  exact lv_i2b C.1 C.2.1 hd (i2b_is (n1 hn)) h
theorem ev_i2s {x : Int} (hd : decode (mC M) pc = .ok (.i2s, 1)) (k : Ev G l M R Z cs sl (pc + 1) L (vI (w16 x) :: S) μ) : Ev G l M R Z cs sl pc L (vI x :: S) μ := by
  intro p e s m args below meth c H locs ls C hs hS hw hn hl
  have h := k p e s m args below meth c H locs ls C hs hS hw (nc (w16_r _) (n2 hn)) hl
  exact lv_i2s C.1 C.2.1 hd (i2s_is (n1 hn)) h
theorem ev_dupI {x : Int} (hd : decode (mC M) pc = .ok (.dup, 1)) (k : Ev G l M R Z cs sl (pc + 1) L (vI x :: vI x :: S) μ) : Ev G l M R Z cs sl pc L (vI x :: S) μ := by
  intro p e s m args below meth c H locs ls C hs hS hw hn hl
  have h := k p e s m args below meth c H locs ls C hs hS hw (nc (n1 hn) hn) hl
  exact lv_dup C.1 C.2.1 hd rfl h
theorem ev_dupR {x : Nat} (hd : decode (mC M) pc = .ok (.dup, 1)) (k : Ev G l M R Z cs sl (pc + 1) L (vR x :: vR x :: S) μ) : Ev G l M R Z cs sl pc L (vR x :: S) μ := by
  intro p e s m args below meth c H locs ls C hs hS hw hn hl
  have h := k p e s m args below meth c H locs ls C hs hS hw (nc (n1 hn) hn) hl
  exact lv_dup C.1 C.2.1 hd rfl h
theorem ev_popI {x : Int} (hd : decode (mC M) pc = .ok (.pop, 1)) (k : Ev G l M R Z cs sl (pc + 1) L (S) μ) : Ev G l M R Z cs sl pc L (vI x :: S) μ := by
  intro p e s m args below meth c H locs ls C hs hS hw hn hl
  have h := k p e s m args below meth c H locs ls C hs hS hw (n2 hn) hl
  exact lv_pop C.1 C.2.1 hd rfl h
theorem ev_dup2IR {x : Int} {a : Nat} (hd : decode (mC M) pc = .ok (.dup2, 1)) (k : Ev G l M R Z cs sl (pc + 1) L (vI x :: vR a :: vI x :: vR a :: S) μ) : Ev G l M R Z cs sl pc L (vI x :: vR a :: S) μ := by
  intro p e s m args below meth c H locs ls C hs hS hw hn hl
  have h := k p e s m args below meth c H locs ls C hs hS hw (nc (n1 hn) (nc (n1 (n2 hn)) hn)) hl
  exact lv_dup2_11 C.1 C.2.1 hd rfl rfl h
theorem ev_goto {off : Int} {tgt : Nat} (hd : decode (mC M) pc = .ok (.goto off, 3)) (ht : (pc : Int) + off = (tgt : Int)) (k : Ev G l M R Z cs sl tgt L S μ) : Ev G l M R Z cs sl pc L S μ := by
  intro p e s m args below meth c H locs ls C hs hS hw hn hl
  exact lv_goto C.1 C.2.1 hd ht (k p e s m args below meth c H locs ls C hs hS hw hn hl)
theorem ev_if_eq {x : Int} {off : Int} {tgt : Nat} (hd : decode (mC M) pc = .ok (.ifCond .eq off, 3)) (ht : (pc : Int) + off = (tgt : Int)) (kt : x = 0 → Ev G l M R Z cs sl tgt L S μ) (kf : ¬ (x = 0) → Ev G l M R Z cs sl (pc + 3) L S μ) : Ev G l M R Z cs sl pc L (vI x :: S) μ := by
  intro p e s m args below meth c H locs ls C hs hS hw hn hl
  exact lv_if_eq C.1 C.2.1 hd ht (fun q => kt ((i32_inj (n1 hn) r32_0).mp q) p e s m args below meth c H locs ls C hs hS hw (n2 hn) hl) (fun q => kf (fun z => q ((i32_inj (n1 hn) r32_0).mpr z)) p e s m args below meth c H locs ls C hs hS hw (n2 hn) hl)
theorem ev_if_ne {x : Int} {off : Int} {tgt : Nat} (hd : decode (mC M) pc = .ok (.ifCond .ne off, 3)) (ht : (pc : Int) + off = (tgt : Int)) (kt : ¬ x = 0 → Ev G l M R Z cs sl tgt L S μ) (kf : x = 0 → Ev G l M R Z cs sl (pc + 3) L S μ) : Ev G l M R Z cs sl pc L (vI x :: S) μ := by
  intro p e s m args below meth c H locs ls C hs hS hw hn hl
  exact lv_if_ne C.1 C.2.1 hd ht (fun q => kt ((not_congr (i32_inj (n1 hn) r32_0)).mp q) p e s m args below meth c H locs ls C hs hS hw (n2 hn) hl) (fun q => kf ((i32_inj (n1 hn) r32_0).mp q) p e s m args below meth c H locs ls C hs hS hw (n2 hn) hl)
theorem ev_if_lt {x : Int} {off : Int} {tgt : Nat} (hd : decode (mC M) pc = .ok (.ifCond .lt off, 3)) (ht : (pc : Int) + off = (tgt : Int)) (kt : x < 0 → Ev G l M R Z cs sl tgt L S μ) (kf : ¬ (x < 0) → Ev G l M R Z cs sl (pc + 3) L S μ) : Ev G l M R Z cs sl pc L (vI x :: S) μ := by
  intro p e s m args below meth c H locs ls C hs hS hw hn hl
  exact lv_if_lt C.1 C.2.1 hd ht (fun q => kt ((i32_lt (n1 hn) r32_0).mp q) p e s m args below meth c H locs ls C hs hS hw (n2 hn) hl) (fun q => kf (fun z => q ((i32_lt (n1 hn) r32_0).mpr z)) p e s m args below meth c H locs ls C hs hS hw (n2 hn) hl)
theorem ev_if_ge {x : Int} {off : Int} {tgt : Nat} (hd : decode (mC M) pc = .ok (.ifCond .ge off, 3)) (ht : (pc : Int) + off = (tgt : Int)) (kt : 0 ≤ x → Ev G l M R Z cs sl tgt L S μ) (kf : ¬ (0 ≤ x) → Ev G l M R Z cs sl (pc + 3) L S μ) : Ev G l M R Z cs sl pc L (vI x :: S) μ := by
  intro p e s m args below meth c H locs ls C hs hS hw hn hl
  exact lv_if_ge C.1 C.2.1 hd ht (fun q => kt ((i32_le r32_0 (n1 hn)).mp q) p e s m args below meth c H locs ls C hs hS hw (n2 hn) hl) (fun q => kf (fun z => q ((i32_le r32_0 (n1 hn)).mpr z)) p e s m args below meth c H locs ls C hs hS hw (n2 hn) hl)
theorem ev_if_gt {x : Int} {off : Int} {tgt : Nat} (hd : decode (mC M) pc = .ok (.ifCond .gt off, 3)) (ht : (pc : Int) + off = (tgt : Int)) (kt : 0 < x → Ev G l M R Z cs sl tgt L S μ) (kf : ¬ (0 < x) → Ev G l M R Z cs sl (pc + 3) L S μ) : Ev G l M R Z cs sl pc L (vI x :: S) μ := by
  intro p e s m args below meth c H locs ls C hs hS hw hn hl
  exact lv_if_gt C.1 C.2.1 hd ht (fun q => kt ((i32_lt r32_0 (n1 hn)).mp q) p e s m args below meth c H locs ls C hs hS hw (n2 hn) hl) (fun q => kf (fun z => q ((i32_lt r32_0 (n1 hn)).mpr z)) p e s m args below meth c H locs ls C hs hS hw (n2 hn) hl)
theorem ev_if_le {x : Int} {off : Int} {tgt : Nat} (hd : decode (mC M) pc = .ok (.ifCond .le off, 3)) (ht : (pc : Int) + off = (tgt : Int)) (kt : x ≤ 0 → Ev G l M R Z cs sl tgt L S μ) (kf : ¬ (x ≤ 0) → Ev G l M R Z cs sl (pc + 3) L S μ) : Ev G l M R Z cs sl pc L (vI x :: S) μ := by
  intro p e s m args below meth c H locs ls C hs hS hw hn hl
  exact lv_if_le C.1 C.2.1 hd ht (fun q => kt ((i32_le (n1 hn) r32_0).mp q) p e s m args below meth c H locs ls C hs hS hw (n2 hn) hl) (fun q => kf (fun z => q ((i32_le (n1 hn) r32_0).mpr z)) p e s m args below meth c H locs ls C hs hS hw (n2 hn) hl)
theorem ev_icmp_eq {x y : Int} {off : Int} {tgt : Nat} (hd : decode (mC M) pc = .ok (.if_icmp .eq off, 3)) (ht : (pc : Int) + off = (tgt : Int)) (kt : x = y → Ev G l M R Z cs sl tgt L S μ) (kf : ¬ (x = y) → Ev G l M R Z cs sl (pc + 3) L S μ) : Ev G l M R Z cs sl pc L (vI y :: vI x :: S) μ := by
  intro p e s m args below meth c H locs ls C hs hS hw hn hl
  exact lv_icmp_eq C.1 C.2.1 hd ht (fun q => kt ((i32_inj (n1 (n2 hn)) (n1 hn)).mp q) p e s m args below meth c H locs ls C hs hS hw (n2 (n2 hn)) hl) (fun q => kf (fun z => q ((i32_inj (n1 (n2 hn)) (n1 hn)).mpr z)) p e s m args below meth c H locs ls C hs hS hw (n2 (n2 hn)) hl)
theorem ev_icmp_ne {x y : Int} {off : Int} {tgt : Nat} (hd : decode (mC M) pc = .ok (.if_icmp .ne off, 3)) (ht : (pc : Int) + off = (tgt : Int)) (kt : ¬ x = y → Ev G l M R Z cs sl tgt L S μ) (kf : x = y → Ev G l M R Z cs sl (pc + 3) L S μ) : Ev G l M R Z cs sl pc L (vI y :: vI x :: S) μ := by
  intro p e s m args below meth c H locs ls C hs hS hw hn hl
  exact lv_icmp_ne C.1 C.2.1 hd ht (fun q => kt ((not_congr (i32_inj (n1 (n2 hn)) (n1 hn))).mp q) p e s m args below meth c H locs ls C hs hS hw (n2 (n2 hn)) hl) (fun q => kf ((i32_inj (n1 (n2 hn)) (n1 hn)).mp q) p e s m args below meth c H locs ls C hs hS hw (n2 (n2 hn)) hl)
theorem ev_icmp_lt {x y : Int} {off : Int} {tgt : Nat} (hd : decode (mC M) pc = .ok (.if_icmp .lt off, 3)) (ht : (pc : Int) + off = (tgt : Int)) (kt : x < y → Ev G l M R Z cs sl tgt L S μ) (kf : ¬ (x < y) → Ev G l M R Z cs sl (pc + 3) L S μ) : Ev G l M R Z cs sl pc L (vI y :: vI x :: S) μ := by
  intro p e s m args below meth c H locs ls C hs hS hw hn hl
  exact lv_icmp_lt C.1 C.2.1 hd ht (fun q => kt ((i32_lt (n1 (n2 hn)) (n1 hn)).mp q) p e s m args below meth c H locs ls C hs hS hw (n2 (n2 hn)) hl) (fun q => kf (fun z => q ((i32_lt (n1 (n2 hn)) (n1 hn)).mpr z)) p e s m args below meth c H locs ls C hs hS hw (n2 (n2 hn)) hl)
theorem ev_icmp_ge {x y : Int} {off : Int} {tgt : Nat} (hd : decode (mC M) pc = .ok (.if_icmp .ge off, 3)) (ht : (pc : Int) + off = (tgt : Int)) (kt : y ≤ x → Ev G l M R Z cs sl tgt L S μ) (kf : ¬ (y ≤ x) → Ev G l M R Z cs sl (pc + 3) L S μ) : Ev G l M R Z cs sl pc L (vI y :: vI x :: S) μ := by
  intro p e s m args below meth c H locs ls C hs hS hw hn hl
  exact lv_icmp_ge C.1 C.2.1 hd ht (fun q => kt ((i32_le (n1 hn) (n1 (n2 hn))).mp q) p e s m args below meth c H locs ls C hs hS hw (n2 (n2 hn)) hl) (fun q => kf (fun z => q ((i32_le (n1 hn) (n1 (n2 hn))).mpr z)) p e s m args below meth c H locs ls C hs hS hw (n2 (n2 hn)) hl)
theorem ev_icmp_gt {x y : Int} {off : Int} {tgt : Nat} (hd : decode (mC M) pc = .ok (.if_icmp .gt off, 3)) (ht : (pc : Int) + off = (tgt : Int)) (kt : y < x → Ev G l M R Z cs sl tgt L S μ) (kf : ¬ (y < x) → Ev G l M R Z cs sl (pc + 3) L S μ) : Ev G l M R Z cs sl pc L (vI y :: vI x :: S) μ := by
  intro p e s m args below meth c H locs ls C hs hS hw hn hl
  exact lv_icmp_gt C.1 C.2.1 hd ht (fun q => kt ((i32_lt (n1 hn) (n1 (n2 hn))).mp q) p e s m args below meth c H locs ls C hs hS hw (n2 (n2 hn)) hl) (fun q => kf (fun z => q ((i32_lt (n1 hn) (n1 (n2 hn))).mpr z)) p e s m args below meth c H locs ls C hs hS hw (n2 (n2 hn)) hl)
theorem ev_icmp_le {x y : Int} {off : Int} {tgt : Nat} (hd : decode (mC M) pc = .ok (.if_icmp .le off, 3)) (ht : (pc : Int) + off = (tgt : Int)) (kt : x ≤ y → Ev G l M R Z cs sl tgt L S μ) (kf : ¬ (x ≤ y) → Ev G l M R Z cs sl (pc + 3) L S μ) : Ev G l M R Z cs sl pc L (vI y :: vI x :: S) μ := by
  intro p e s m args below meth c H locs ls C hs hS hw hn hl
  exact lv_icmp_le C.1 C.2.1 hd ht (fun q => kt ((i32_le (n1 (n2 hn)) (n1 hn)).mp q) p e s m args below meth c H locs ls C hs hS hw (n2 (n2 hn)) hl) (fun q => kf (fun z => q ((i32_le (n1 (n2 hn)) (n1 hn)).mpr z)) p e s m args below meth c H locs ls C hs hS hw (n2 (n2 hn)) hl)
end Rules

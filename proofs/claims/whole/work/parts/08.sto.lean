/-! rows: writing; the script; the end of methods; calls -/
theorem nar_byte {x : Int} (h : r32 x) : vp_nar .byte (i32 x) = i32 (w8 x) := by
  show (i32 x).toInt8.toInt32 = _
  exact i2b_is h
theorem cell_up {k i : Nat} {x : Int} {f : Mm} {a : Nat} : up f a i x a = fun j => if j = i then x else f a j := up_at
section Sto
variable {G : GT} {l : Launch} {M : MT} {R : Room} {Z : List Frame → Array Value → State → State → Prop} {cs sl pc : Nat} {L : List (Option AV)} {S : List AV} {sh : Sh} {rf : Rf} {f : Mm}
theorem gA_a (G : GT) (a : Nat) : gA G (gN G + a) := by unfold gA; omega
theorem ev_iast {a n : Nat} {i x : Int} (hd : decode (mC M) pc = .ok (.iastore, 1)) (ha : sh[a]? = some (0, n)) (h0 : 0 ≤ i) (h1 : i < n) (kk : Ev G l M R Z cs sl (pc + 1) L S (sh, rf, up f a i.toNat x)) : Ev G l M R Z cs sl pc L (vI x :: vI i :: vR a :: S) (sh, rf, f) := by
  intro p e s m args below meth c H locs ls C hs hS hw hn hl
  have hi := n1 (n2 hn)
  have hin := i32_in hi h0 h1
  have hcl : (i32 i).toNatClampNeg = i.toNat := i32_clamp hi
  show W p l e R s m args below meth c H locs cs sl (Z below args s) (F0 m pc ls (vO G (vI x) :: vO G (vI i) :: (vR a :: S).map (vO G)))
  rw [st_R (pre := []) hw ha]
  refine W.iast C.1 C.2.1 (hw.1 a _ (wO_get ha)) ((hs.1.2 0 _ rfl).1 n (fun j => .int (i32 (f a j)))) (fun q => by cases q) (by show ¬ (i32 i < 0 ∨ (arrV _ _ _).slots.size ≤ _); rw [arrV_size]; exact hin) rfl rfl hd fun H1 e1 z oq => ?_
  rw [hcl] at e1
  have hat : va_at (gD G) kls (gN G + a, cO G 0 n (up f a i.toNat x a) (rf a)) H1 := by
    show H1[gN G + a]? = some (vp_cell _ _)
    rw [e1, up_at]
    show some ((arrV (gC G 0) n (fun j => .int (i32 (f a j)))).setSlot i.toNat (.int (i32 x))) = some (arrV (gC G 0) n (fun j => .int (i32 (if j = i.toNat then x else f a j))))
    rw [arrV_store]
    congr 2
    funext q
    by_cases hq : q = i.toNat
    · simp [updV, hq]
    · simp [updV, hq]
  exact kk p e s m args below meth c H1 _ ls C hs (hS.put z oq (gA_a G a)) (Wh_put hw ha up_off hat z oq (nM_up hw.2.2.1 ha (show r32 x from n1 hn))) (n2 (n2 (n2 hn))) hl
theorem ev_last {a n : Nat} {i x : Int} (hd : decode (mC M) pc = .ok (.lastore, 1)) (ha : sh[a]? = some (3, n)) (h0 : 0 ≤ i) (h1 : i < n) (kk : Ev G l M R Z cs sl (pc + 1) L S (sh, rf, up f a i.toNat x)) : Ev G l M R Z cs sl pc L (vJ x :: vI i :: vR a :: S) (sh, rf, f) := by
  intro p e s m args below meth c H locs ls C hs hS hw hn hl
  have hi := n1 (n2 hn)
  have hin := i32_in hi h0 h1
  have hcl : (i32 i).toNatClampNeg = i.toNat := i32_clamp hi
  show W p l e R s m args below meth c H locs cs sl (Z below args s) (F0 m pc ls (vO G (vJ x) :: vO G (vI i) :: (vR a :: S).map (vO G)))
  rw [st_R (pre := []) hw ha]
  refine W.last C.1 C.2.1 (hw.1 a _ (wO_get ha)) ((hs.1.2 3 _ rfl).1 n (fun j => .long (i64 (f a j)))) (fun q => by cases q) (by show ¬ (i32 i < 0 ∨ (arrV _ _ _).slots.size ≤ _); rw [arrV_size]; exact hin) rfl rfl hd fun H1 e1 z oq => ?_
  rw [hcl] at e1
  have hat : va_at (gD G) kls (gN G + a, cO G 3 n (up f a i.toNat x a) (rf a)) H1 := by
    show H1[gN G + a]? = some (vp_cell _ _)
    rw [e1, up_at]
    show some ((arrV (gC G 3) n (fun j => .long (i64 (f a j)))).setSlot i.toNat (.long (i64 x))) = some (arrV (gC G 3) n (fun j => .long (i64 (if j = i.toNat then x else f a j))))
    rw [arrV_store]
    congr 2
    funext q
    by_cases hq : q = i.toNat
    · simp [updV, hq]
    · simp [updV, hq]
  exact kk p e s m args below meth c H1 _ ls C hs (hS.put z oq (gA_a G a)) (Wh_put hw ha up_off hat z oq (nM_up hw.2.2.1 ha (show r64 x from n1 hn))) (n2 (n2 (n2 hn))) hl
theorem ev_bast {a n : Nat} {i x : Int} (hd : decode (mC M) pc = .ok (.bastore, 1)) (ha : sh[a]? = some (1, n)) (h0 : 0 ≤ i) (h1 : i < n) (kk : Ev G l M R Z cs sl (pc + 1) L S (sh, rf, up f a i.toNat (w8 x))) : Ev G l M R Z cs sl pc L (vI x :: vI i :: vR a :: S) (sh, rf, f) := by
  intro p e s m args below meth c H locs ls C hs hS hw hn hl
  have hi := n1 (n2 hn)
  have hin := i32_in hi h0 h1
  have hcl : (i32 i).toNatClampNeg = i.toNat := i32_clamp hi
  show W p l e R s m args below meth c H locs cs sl (Z below args s) (F0 m pc ls (vO G (vI x) :: vO G (vI i) :: (vR a :: S).map (vO G)))
  rw [st_R (pre := []) hw ha]
  refine W.bast C.1 C.2.1 (hw.1 a _ (wO_get ha)) ((hs.1.2 1 _ rfl).1 n (fun j => .int (i32 (f a j)))) (fun q => by cases q) (by show ¬ (i32 i < 0 ∨ (arrV _ _ _).slots.size ≤ _); rw [arrV_size]; exact hin) rfl rfl hd fun H1 e1 z oq => ?_
  rw [hcl] at e1
  have hat : va_at (gD G) kls (gN G + a, cO G 1 n (up f a i.toNat (w8 x) a) (rf a)) H1 := by
    show H1[gN G + a]? = some (vp_cell _ _)
    rw [e1, up_at]
    show some ((arrV (gC G 1) n (fun j => .int (i32 (f a j)))).setSlot i.toNat (.int ((i32 x).toInt8.toInt32))) = some (arrV (gC G 1) n (fun j => .int (i32 (if j = i.toNat then w8 x else f a j))))
    rw [arrV_store, i2b_is (n1 hn)]
    congr 2
    funext q
    by_cases hq : q = i.toNat
    · simp [updV, hq]
    · simp [updV, hq]
  exact kk p e s m args below meth c H1 _ ls C hs (hS.put z oq (gA_a G a)) (Wh_put hw ha up_off hat z oq (nM_up hw.2.2.1 ha (show -128 ≤ w8 x ∧ w8 x < 128 by unfold w8; omega))) (n2 (n2 (n2 hn))) hl
theorem ev_zast {a n : Nat} {i x : Int} (hd : decode (mC M) pc = .ok (.bastore, 1)) (ha : sh[a]? = some (2, n)) (h0 : 0 ≤ i) (h1 : i < n) (h01 : x = 0 ∨ x = 1) (kk : Ev G l M R Z cs sl (pc + 1) L S (sh, rf, up f a i.toNat x)) : Ev G l M R Z cs sl pc L (vI x :: vI i :: vR a :: S) (sh, rf, f) := by
  intro p e s m args below meth c H locs ls C hs hS hw hn hl
  have hi := n1 (n2 hn)
  have hin := i32_in hi h0 h1
  have hcl : (i32 i).toNatClampNeg = i.toNat := i32_clamp hi
  show W p l e R s m args below meth c H locs cs sl (Z below args s) (F0 m pc ls (vO G (vI x) :: vO G (vI i) :: (vR a :: S).map (vO G)))
  rw [st_R (pre := []) hw ha]
  refine W.zast C.1 C.2.1 (hw.1 a _ (wO_get ha)) ((hs.1.2 2 _ rfl).1 n (fun j => .int (i32 (f a j)))) (fun q => by cases q) (by show ¬ (i32 i < 0 ∨ (arrV _ _ _).slots.size ≤ _); rw [arrV_size]; exact hin) rfl rfl hd fun H1 e1 z oq => ?_
  rw [hcl] at e1
  have hat : va_at (gD G) kls (gN G + a, cO G 2 n (up f a i.toNat x a) (rf a)) H1 := by
    show H1[gN G + a]? = some (vp_cell _ _)
    have hx : narrow .boolean (.int (i32 x)) = .int (i32 x) := by rcases h01 with rfl | rfl <;> rfl
    rw [e1, up_at]
    show some ((arrV (gC G 2) n (fun j => .int (i32 (f a j)))).setSlot i.toNat _) = some (arrV (gC G 2) n (fun j => .int (i32 (if j = i.toNat then x else f a j))))
    rw [arrV_store]
    congr 2
    funext q
    by_cases hq : q = i.toNat
    · simp only [updV, hq, if_true]
      first | exact hx | (rcases h01 with rfl | rfl <;> rfl)
    · simp [updV, hq]
  exact kk p e s m args below meth c H1 _ ls C hs (hS.put z oq (gA_a G a)) (Wh_put hw ha up_off hat z oq (nM_up hw.2.2.1 ha (show x = 0 ∨ x = 1 from h01))) (n2 (n2 (n2 hn))) hl
/-- the script -/
theorem aO_b (G : GT) : aO G 100000 = gB G := rfl
theorem ev_sld {i : Int} {μ : Mem} (hd : decode (mC M) pc = .ok (.iaload, 1)) (h0 : 0 ≤ i) (h1 : i < gL G) (kk : Ev G l M R Z cs sl (pc + 1) L (vI (gX G i.toNat).toInt :: S) μ) : Ev G l M R Z cs sl pc L (vI i :: vR 100000 :: S) μ := by
  intro p e s m args below meth c H locs ls C hs hS hw hn hl
  have h := kk p e s m args below meth c H locs ls C hs hS hw (nc (t32_r _) (n2 (n2 hn))) hl
  obtain ⟨-, ⟨hX, hb, -⟩, hsz, -⟩ := id hs
  refine va_sld C.1 C.2.1 (i := i32 i) hX (Nat.lt_of_lt_of_le hb hsz) (fun q => by unfold gA at q; omega) hS (i32_in (n1 hn) h0 h1) hd ?_
  rw [i32_clamp (n1 hn), b32 (a := gX G i.toNat)]
  exact h
theorem ev_slen {μ : Mem} (hd : decode (mC M) pc = .ok (.arraylength, 1)) (kk : Ev G l M R Z cs sl (pc + 1) L (vI (gL G) :: S) μ) : Ev G l M R Z cs sl pc L (vR 100000 :: S) μ := by
  intro p e s m args below meth c H locs ls C hs hS hw hn hl
  obtain ⟨-, ⟨hX, hb, hLn⟩, hsz, -⟩ := id hs
  have h := kk p e s m args below meth c H locs ls C hs hS hw (nc (by show r32 _; unfold r32; omega) (n2 hn)) hl
  exact va_slen (b := gB G) C.1 C.2.1 hX (Nat.lt_of_lt_of_le hb hsz) (fun q => by unfold gA at q; omega) hS hd h
/-- a text -/
theorem ev_ldcS {i idx : Nat} {tx : String} {μ : Mem} (hM : (mY M).cls = RX4) (hd : decode (mC M) pc = .ok (.ldc idx, 2)) (ht : txS[i]? = some (idx, tx)) (kk : Ev G l M R Z cs sl (pc + 2) L (vR (100001 + i) :: S) μ) : Ev G l M R Z cs sl pc L S μ := by
  intro p e s m args below meth c H locs ls C hs hS hw hn hl
  have h := kk p e s m args below meth c H locs ls C hs hS hw (nc trivial hn) hl
  have hi16 : i < 16 := (List.getElem?_eq_some_iff.mp ht).1
  have ea : aO G (100001 + i) = gK G i := by unfold aO; rw [if_neg (by omega), if_neg (by omega), if_pos (by omega), Nat.add_sub_cancel_left]
  have hown := C.2.2.2.2.1
  rw [hM] at hown
  refine va_ldcS C.1 C.2.1 hown (hs.2.2.2.2.1.2.1 i _ ht) hd ?_
  have e2 : (vR (100001 + i) :: S).map (vO G) = .ref (gK G i) :: S.map (vO G) := by show Value.ref (aO G (100001 + i)) :: _ = _; rw [ea]
  rw [e2] at h
  exact h
theorem va_SF {A : Nat → Prop} {s t : State} {H : Heap} {locs : List Loc} (h : va_S A s.heap H locs) (ht : t.heap = H) : va_F A s t := ⟨by rw [ht]; exact h.1, fun q h1 h2 => by rw [ht]; exact h.2.1 q h1 h2⟩
/-- the end of a method -/
theorem ev_vret {Q : Option AV → Mem → Prop} {μ : Mem} (hr : mR M = none) (hd : decode (mC M) pc = .ok (.return_, 1)) (hq : Q none μ) : Ev G l M R (ZM G Q cs sl) cs sl pc L [] μ := by
  intro p e s m args below meth c H locs ls C hs hS hw hn hl
  exact W.vret C.1 C.2.1 (C.2.2.1.trans hr) (fun t ht _ => ⟨⟨none, μ, rfl, hq, by rw [ht]; exact hw, fun v h => by cases h⟩, va_SF hS ht⟩) hS.2.2 hd C.2.2.2.2.2.2.1
theorem ev_iret {Q : Option AV → Mem → Prop} {μ : Mem} {x : Int} (hr : mR M = some .int) (hd : decode (mC M) pc = .ok (.ireturn, 1)) (hq : Q (some (vI x)) μ) : Ev G l M R (ZM G Q cs sl) cs sl pc L [vI x] μ := by
  intro p e s m args below meth c H locs ls C hs hS hw hn hl
  exact W.iret C.1 C.2.1 (C.2.2.1.trans hr) (fun t ht _ => ⟨⟨some (vI x), μ, rfl, hq, by rw [ht]; exact hw, fun v h => by cases h; exact n1 hn⟩, va_SF hS ht⟩) hS.2.2 hd C.2.2.2.2.2.2.1
theorem ev_zret {Q : Option AV → Mem → Prop} {μ : Mem} {x : Int} (hr : mR M = some .boolean) (h01 : x = 0 ∨ x = 1) (hd : decode (mC M) pc = .ok (.ireturn, 1)) (hq : Q (some (vI x)) μ) : Ev G l M R (ZM G Q cs sl) cs sl pc L [vI x] μ := by
  intro p e s m args below meth c H locs ls C hs hS hw hn hl
  exact W.zret C.1 C.2.1 (C.2.2.1.trans hr) (by rcases h01 with rfl | rfl <;> rfl) (fun t ht _ => ⟨⟨some (vI x), μ, rfl, hq, by rw [ht]; exact hw, fun v h => by cases h; exact n1 hn⟩, va_SF hS ht⟩) hS.2.2 hd C.2.2.2.2.2.2.1
theorem ev_lret {Q : Option AV → Mem → Prop} {μ : Mem} {x : Int} (hr : mR M = some .long) (hd : decode (mC M) pc = .ok (.lreturn, 1)) (hq : Q (some (vJ x)) μ) : Ev G l M R (ZM G Q cs sl) cs sl pc L [vJ x] μ := by
  intro p e s m args below meth c H locs ls C hs hS hw hn hl
  exact W.lret C.1 C.2.1 (C.2.2.1.trans hr) (fun t ht _ => ⟨⟨some (vJ x), μ, rfl, hq, by rw [ht]; exact hw, fun v h => by cases h; exact n1 hn⟩, va_SF hS ht⟩) hS.2.2 hd C.2.2.2.2.2.2.1
theorem ev_aret {Q : Option AV → Mem → Prop} {μ : Mem} {x : Nat} {nm : String} (hr : mR M = some (.object nm)) (hd : decode (mC M) pc = .ok (.areturn, 1)) (hq : Q (some (vR x)) μ) : Ev G l M R (ZM G Q cs sl) cs sl pc L [vR x] μ := by
  intro p e s m args below meth c H locs ls C hs hS hw hn hl
  exact W.aret C.1 C.2.1 (C.2.2.1.trans hr) (Or.inl ⟨nm, rfl⟩) (Or.inr ⟨_, rfl⟩) (fun t ht _ => ⟨⟨some (vR x), μ, rfl, hq, by rw [ht]; exact hw, fun v h => by cases h; trivial⟩, va_SF hS ht⟩) hS.2.2 hd C.2.2.2.2.2.2.1
end Sto
/-- the locals with which a method begins -/
def enL : List AV → List (Option AV)
  | [] => []
  | v :: vs => if isJ v then some v :: none :: enL vs else some v :: enL vs
theorem enL_args (G : GT) : ∀ (vs : List AV) (i j : Nat) (w : AV), (enL vs)[j]? = some (some w) → (i + j, vO G w) ∈ lv_args i (vs.map (vO G))
  | [], _, _, _, h => by simp [enL] at h
  | v :: vs, i, j, w, h => by
    have hc := cat_vO G v
    show (i + j, vO G w) ∈ (i, vO G v) :: lv_args (if (vO G v).category = 2 then i + 2 else i + 1) (vs.map (vO G))
    cases hJ : isJ v
    · simp only [enL, hJ] at h
      rw [hc, hJ]
      cases j with
      | zero => simp at h; subst h; exact List.mem_cons_self
      | succ j =>
        simp at h
        have := enL_args G vs (i + 1) j w h
        rw [show i + (j + 1) = i + 1 + j by omega]
        exact List.mem_cons_of_mem _ (by simpa using this)
    · simp only [enL, hJ] at h
      rw [hc, hJ]
      match j, h with
      | 0, h => simp at h; subst h; exact List.mem_cons_self
      | 1, h => simp at h
      | j + 2, h =>
        simp at h
        have := enL_args G vs (i + 2) j w h
        rw [show i + (j + 2) = i + 2 + j by omega]
        exact List.mem_cons_of_mem _ (by simpa using this)
theorem enL_nV : ∀ (vs : List AV) (j : Nat) (w : AV), (∀ v ∈ vs, nV v) → (enL vs)[j]? = some (some w) → nV w
  | [], _, _, _, h => by simp [enL] at h
  | v :: vs, j, w, hv, h => by
    cases hJ : isJ v
    · simp only [enL, hJ] at h
      cases j with
      | zero => simp at h; subst h; exact n1 hv
      | succ j => simp at h; exact enL_nV vs j w (n2 hv) h
    · simp only [enL, hJ] at h
      match j, h with
      | 0, h => simp at h; subst h; exact n1 hv
      | 1, h => simp at h
      | j + 2, h => simp at h; exact enL_nV vs j w (n2 hv) h
theorem enL_len (G : GT) : ∀ vs : List AV, (enL vs).length = (lg_sl (vs.map (vO G))).length
  | [] => rfl
  | v :: vs => by
    have hc := cat_vO G v
    have ih := enL_len G vs
    cases hJ : isJ v
    · rw [hJ] at hc
      simp [enL, hJ, lg_sl, hc, ih]
    · rw [hJ] at hc
      simp [enL, hJ, lg_sl, hc, ih]
theorem get_app_none {L : List (Option AV)} {k j : Nat} {w : AV} (h : (L ++ List.replicate k none)[j]? = some (some w)) : L[j]? = some (some w) := by
  by_cases hj : j < L.length
  · rwa [List.getElem?_append_left hj] at h
  · rw [List.getElem?_append_right (by omega)] at h
    rw [List.getElem?_replicate] at h
    split at h <;> cases h
/-- a method's contract out of a walk of its body -/
theorem ret_of {G : GT} {l : Launch} {M : MT} {d mc ms : Nat} {av : List AV} {μ : Mem} {Q : Option AV → Mem → Prop} {L : List (Option AV)} (hy : plainName (mY M).cls = true) (hL : enL av ++ List.replicate (mL M - (enL av).length) none = L) (hm : (enL av).length ≤ mL M)
    (k : Ev G l M (Rm d mc ms) (ZM G Q mc ms) 0 0 0 L [] μ) : Ret G l M d mc ms av μ Q := by
  subst hL
  refine Met.ofW (cc := mC M) (maxL := mL M) (ret := mR M) hy rfl ?_
  intro p e s m args below meth c s₁ B hml hv
  obtain ⟨rfl, hs, hw, hn⟩ := hv
  have hts := atoms_spec (ws := wsM M) B.pre
  have hown : s.vm.findClass (mY M).cls = some m.cls := findClass_of_methodNamed B.named
  have hin : meth.name = (mY M).name := (name_of_methodNamed B.named B.method).1
  have hlen := enL_len G av
  have hlv := lv_entry (av.map (vO G)) (n := mL M) (by rw [← hlen]; exact hm)
  rw [lg_entry_eq]
  refine k p e s m _ below meth c s.heap [] _ ⟨B.exec, B.bytes, B.returns, hml, hown, fun w h => hts w (List.mem_cons_of_mem _ h), B.notSynchronized, hin⟩ hs va_S.rf hw (fun v h => by cases h) ⟨hlv.1, hlv.2.1, by simp; omega, fun i v h => ?_, fun i v h => enL_nV av i v hn (get_app_none h)⟩
  have := enL_args G av 0 i v (get_app_none h)
  rw [Nat.zero_add] at this
  exact hlv.2.2 _ this

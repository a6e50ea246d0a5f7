/-! fields and rows: reading and writing -/
theorem tcode_0 {t : FieldType} (h : tcode t = 0) : t = .int := by cases t <;> first | rfl | cases h
theorem tcode_1 {t : FieldType} (h : tcode t = 1) : t = .long := by cases t <;> first | rfl | cases h
theorem tcode_3 {t : FieldType} (h : tcode t = 3) : t = .boolean := by cases t <;> first | rfl | cases h
theorem nk_0 {ci k : Nat} {x : Int} (h : nk (10 + ci) k x) (ht : fty ci k = 0) : r32 x := by
  unfold nk at h
  rw [if_neg (by omega), if_neg (by omega), if_neg (by omega), if_neg (by omega), Nat.add_sub_cancel_left, if_neg (by omega), if_neg (by omega)] at h
  exact h
theorem nk_1 {ci k : Nat} {x : Int} (h : nk (10 + ci) k x) (ht : fty ci k = 1) : r64 x := by
  unfold nk at h
  rw [if_neg (by omega), if_neg (by omega), if_neg (by omega), if_neg (by omega), Nat.add_sub_cancel_left, if_pos ht] at h
  exact h
theorem nk_3 {ci k : Nat} {x : Int} (h : nk (10 + ci) k x) (ht : fty ci k = 3) : x = 0 ∨ x = 1 := by
  unfold nk at h
  rw [if_neg (by omega), if_neg (by omega), if_neg (by omega), if_neg (by omega), Nat.add_sub_cancel_left, if_neg (by omega), if_pos ht] at h
  exact h
theorem nk_0i {ci k : Nat} {x : Int} (h : r32 x) (ht : fty ci k = 0) : nk (10 + ci) k x := by
  unfold nk
  rw [if_neg (by omega), if_neg (by omega), if_neg (by omega), if_neg (by omega), Nat.add_sub_cancel_left, if_neg (by omega), if_neg (by omega)]
  exact h
theorem nk_1i {ci k : Nat} {x : Int} (h : r64 x) (ht : fty ci k = 1) : nk (10 + ci) k x := by
  unfold nk
  rw [if_neg (by omega), if_neg (by omega), if_neg (by omega), if_neg (by omega), Nat.add_sub_cancel_left, if_pos ht]
  exact h
theorem nk_3i {ci k : Nat} {x : Int} (h : x = 0 ∨ x = 1) (ht : fty ci k = 3) : nk (10 + ci) k x := by
  unfold nk
  rw [if_neg (by omega), if_neg (by omega), if_neg (by omega), if_neg (by omega), Nat.add_sub_cancel_left, if_neg (by omega), if_pos ht]
  exact h
theorem r32_01 {x : Int} (h : x = 0 ∨ x = 1) : r32 x := by unfold r32; omega
/-- a store into one cell -/
theorem Wh_put {G : GT} {sh : Sh} {rf : Rf} {f g : Mm} {a k n : Nat} {H H1 : Heap} (hw : Wh G (sh, rf, f) H) (ha : sh[a]? = some (k, n)) (hg : ∀ b, b ≠ a → g b = f b) (hat : va_at (gD G) kls (gN G + a, cO G k n (g a) (rf a)) H1) (z : H1.size = H.size) (oq : ∀ q : Nat, q ≠ gN G + a → H1[q]? = H[q]?) (hn : nM (sh, rf, g)) : Wh G (sh, rf, g) H1 := by
  refine ⟨?_, z.trans hw.2.1, hn, hw.2.2.2⟩
  rw [← wO_set ha hg]
  exact hw.1.set (wO_D G _) (wO_get ha) hat oq
section Acc
variable {G : GT} {l : Launch} {M : MT} {R : Room} {Z : List Frame → Array Value → State → State → Prop} {cs sl pc : Nat} {L : List (Option AV)} {S : List AV} {sh : Sh} {rf : Rf} {f : Mm}
theorem a_lt {a : Nat} {q : Nat × Nat} {H : Heap} (hw : Wh G (sh, rf, f) H) (ha : sh[a]? = some q) : aO G a = gN G + a := aO_lt (Nat.lt_of_lt_of_le (List.getElem?_eq_some_iff.mp ha).1 hw.2.2.2)
theorem st_R {a : Nat} {q : Nat × Nat} {H : Heap} {pre : List Value} (hw : Wh G (sh, rf, f) H) (ha : sh[a]? = some q) : (vR a :: S).map (vO G) = .ref (gN G + a) :: S.map (vO G) := by
  show Value.ref (aO G a) :: _ = _
  rw [a_lt hw ha]
theorem ev_getV {a k n ci idx : Nat} {v : AV} (hd : decode (mC M) pc = .ok (.getfield idx, 3)) (hf : FL (mY M).cls idx ci k) (ha : sh[a]? = some (10 + ci, n)) (hk : k < n) (hv : fO G (fty ci k) (f a k) (rf a k) = vO G v) (hnv : nM (sh, rf, f) → nV v) (kk : Ev G l M R Z cs sl (pc + 3) L (v :: S) (sh, rf, f)) : Ev G l M R Z cs sl pc L (vR a :: S) (sh, rf, f) := by
  intro p e s m args below meth c H locs ls C hs hS hw hn hl
  obtain ⟨C', T, N, h1, h2, h3, h4, h5⟩ := hf
  have he := wO_get (G := G) (rf := rf) (f := f) ha
  rw [cO_obj] at he
  have h := kk p e s m args below meth c H locs ls C hs hS hw (nc (hnv hw.2.2.1) (n2 hn)) hl
  rw [st_R (pre := []) hw ha]
  refine va_get C.1 C.2.1 C.2.2.2.2.2.1 h3.1 C.2.2.2.2.1 hs.1 hw.1 a he h1 k h2 (C.2.2.2.2.2.1 _ h4) (fun _ q => q) (fs_get hk) hd ?_
  rw [hv]
  exact h
theorem ev_getI {a k n ci idx : Nat} (hd : decode (mC M) pc = .ok (.getfield idx, 3)) (hf : FL (mY M).cls idx ci k) (ha : sh[a]? = some (10 + ci, n)) (hk : k < n) (ht : fty ci k = 0) (kk : Ev G l M R Z cs sl (pc + 3) L (vI (f a k) :: S) (sh, rf, f)) : Ev G l M R Z cs sl pc L (vR a :: S) (sh, rf, f) :=
  ev_getV (v := vI (f a k)) hd hf ha hk (by rw [ht]; rfl) (fun h => nk_0 (h a _ ha k) ht) kk
theorem ev_getZ {a k n ci idx : Nat} (hd : decode (mC M) pc = .ok (.getfield idx, 3)) (hf : FL (mY M).cls idx ci k) (ha : sh[a]? = some (10 + ci, n)) (hk : k < n) (ht : fty ci k = 3) (kk : Ev G l M R Z cs sl (pc + 3) L (vI (f a k) :: S) (sh, rf, f)) : Ev G l M R Z cs sl pc L (vR a :: S) (sh, rf, f) :=
  ev_getV (v := vI (f a k)) hd hf ha hk (by rw [ht]; rfl) (fun h => r32_01 (nk_3 (h a _ ha k) ht)) kk
theorem ev_getJ {a k n ci idx : Nat} (hd : decode (mC M) pc = .ok (.getfield idx, 3)) (hf : FL (mY M).cls idx ci k) (ha : sh[a]? = some (10 + ci, n)) (hk : k < n) (ht : fty ci k = 1) (kk : Ev G l M R Z cs sl (pc + 3) L (vJ (f a k) :: S) (sh, rf, f)) : Ev G l M R Z cs sl pc L (vR a :: S) (sh, rf, f) :=
  ev_getV (v := vJ (f a k)) hd hf ha hk (by rw [ht]; rfl) (fun h => nk_1 (h a _ ha k) ht) kk
theorem ev_getR {a k n ci idx b : Nat} (hd : decode (mC M) pc = .ok (.getfield idx, 3)) (hf : FL (mY M).cls idx ci k) (ha : sh[a]? = some (10 + ci, n)) (hk : k < n) (ht : fty ci k = 2) (hb : rf a k = some b) (kk : Ev G l M R Z cs sl (pc + 3) L (vR b :: S) (sh, rf, f)) : Ev G l M R Z cs sl pc L (vR a :: S) (sh, rf, f) :=
  ev_getV (v := vR b) hd hf ha hk (by rw [ht, hb]; rfl) (fun _ => trivial) kk
theorem ev_putV {a k n ci idx : Nat} {v : AV} {x : Int} {ty : FieldType} (hd : decode (mC M) pc = .ok (.putfield idx, 3)) (hf : FL (mY M).cls idx ci k) (ha : sh[a]? = some (10 + ci, n)) (hk : k < n) (ht : fty ci k ≠ 2) (hty : ftab ci k = ty) (hv : vO G v = fO G (fty ci k) x (rf a k)) (hna : narrow ty (vO G v) = vO G v) (hfi : fits ty (vO G v) = true) (hx : nV v → nk (10 + ci) k x) (kk : Ev G l M R Z cs sl (pc + 3) L S (sh, rf, up f a k x)) : Ev G l M R Z cs sl pc L (v :: vR a :: S) (sh, rf, f) := by
  intro p e s m args below meth c H locs ls C hs hS hw hn hl
  obtain ⟨C', T, N, h1, h2, h3, h4, h5⟩ := hf
  have he := wO_get (G := G) (rf := rf) (f := f) ha
  rw [cO_obj] at he
  have hts := C.2.2.2.2.2.1
  have hfin : (T k).2.2.2 = false := by
    cases hb : (T k).2.2.2
    · rfl
    · exact absurd (h5 hb) ht
  have hpar : parseFieldDescriptor (T k).2.2.1 = some ty := by rw [h3.2.1 k h2, hty]
  have hap := va_apart (own := (mY M).cls) hts h3.1 (ftab ci) h3.2.1 h3.2.2 hs.1 h1
  obtain ⟨r, g1, cell, q1, q2, q3, q4⟩ := hw.1 a _ he
  have hr : r = (C', T, N) := Option.some.inj (g1.symm.trans h1)
  subst hr
  obtain ⟨hSl, hfc, kC, hkC, hkind⟩ := hs.1.1 ci _ h1
  obtain ⟨cf, kf, fi, fd, hi, hsl⟩ := hSl k h2
  have hlay := hts _ (h3.1 _ (u_in_lay h2))
  unfold u_lay at hlay
  rw [if_neg (by rw [hfin]; decide)] at hlay
  have hst := (u_facts hfc hkC (u_lays hts h3.1 h2) hi).1
  have h6 := u_store hfc hkC hkind hlay hi hpar hna hfi
  show W p l e R s m args below meth c H locs cs sl (Z below args s) (F0 m pc ls (vO G v :: (vR a :: S).map (vO G)))
  rw [st_R (pre := []) hw ha]
  refine W.putK C.1 C.2.1 (f := fd) ⟨C.2.2.2.2.1, hts _ h4, ⟨_, _, _, hi⟩, hst⟩ (by rw [q2]; exact h6) q1 q3 (by rw [hsl]; exact k2_hasslot (q4 k h2)) rfl rfl hd fun H' e1 e2 e3 => ?_
  rw [hsl] at e1
  have hat : va_at (gD G) kls (gN G + a, cO G (10 + ci) n (up f a k x a) (rf a)) H' := by
    rw [cO_obj, up_at]
    refine ⟨_, h1, t_OB.to (V := updV (vp_V ((List.range n).map (fun j => fO G (fty ci j) (f a j) (rf a j)))) k (vO G v)) ⟨_, e1, q2, q3, t_set q4 hap h2 (vO G v)⟩ (fun j _ => ?_)⟩
    rw [vp_updV_set (by simpa using hk), hv, fs_set ht]
  have hw' : Wh G (sh, rf, up f a k x) H' := Wh_put hw ha up_off hat e2 e3 (nM_up hw.2.2.1 ha (hx (n1 hn)))
  exact kk p e s m args below meth c H' _ ls C hs (hS.put e2 e3 (show gA G (gN G + a) by unfold gA; omega)) hw' (n2 (n2 hn)) hl
theorem ev_putI {a k n ci idx : Nat} {x : Int} (hd : decode (mC M) pc = .ok (.putfield idx, 3)) (hf : FL (mY M).cls idx ci k) (ha : sh[a]? = some (10 + ci, n)) (hk : k < n) (ht : fty ci k = 0) (kk : Ev G l M R Z cs sl (pc + 3) L S (sh, rf, up f a k x)) : Ev G l M R Z cs sl pc L (vI x :: vR a :: S) (sh, rf, f) :=
  ev_putV hd hf ha hk (by rw [ht]; decide) (tcode_0 ht) (by rw [ht]; rfl) rfl rfl (fun h => nk_0i h ht) kk
theorem ev_putJ {a k n ci idx : Nat} {x : Int} (hd : decode (mC M) pc = .ok (.putfield idx, 3)) (hf : FL (mY M).cls idx ci k) (ha : sh[a]? = some (10 + ci, n)) (hk : k < n) (ht : fty ci k = 1) (kk : Ev G l M R Z cs sl (pc + 3) L S (sh, rf, up f a k x)) : Ev G l M R Z cs sl pc L (vJ x :: vR a :: S) (sh, rf, f) :=
  ev_putV hd hf ha hk (by rw [ht]; decide) (tcode_1 ht) (by rw [ht]; rfl) rfl rfl (fun h => nk_1i h ht) kk
theorem ev_putZ {a k n ci idx : Nat} {x : Int} (hd : decode (mC M) pc = .ok (.putfield idx, 3)) (hf : FL (mY M).cls idx ci k) (ha : sh[a]? = some (10 + ci, n)) (hk : k < n) (ht : fty ci k = 3) (h01 : x = 0 ∨ x = 1) (kk : Ev G l M R Z cs sl (pc + 3) L S (sh, rf, up f a k x)) : Ev G l M R Z cs sl pc L (vI x :: vR a :: S) (sh, rf, f) :=
  ev_putV hd hf ha hk (by rw [ht]; decide) (tcode_3 ht) (by rw [ht]; rfl) (by rcases h01 with rfl | rfl <;> rfl) (by rcases h01 with rfl | rfl <;> rfl) (fun _ => nk_3i h01 ht) kk
theorem ev_iald {a n : Nat} {i : Int} (hd : decode (mC M) pc = .ok (.iaload, 1)) (ha : sh[a]? = some (0, n)) (h0 : 0 ≤ i) (h1 : i < n) (kk : Ev G l M R Z cs sl (pc + 1) L (vI (f a i.toNat) :: S) (sh, rf, f)) : Ev G l M R Z cs sl pc L (vI i :: vR a :: S) (sh, rf, f) := by
  intro p e s m args below meth c H locs ls C hs hS hw hn hl
  have hr : r32 (f a i.toNat) := hw.2.2.1 a _ ha i.toNat
  have h := kk p e s m args below meth c H locs ls C hs hS hw (nc hr (n2 (n2 hn))) hl
  show W p l e R s m args below meth c H locs cs sl (Z below args s) (F0 m pc ls (vO G (vI i) :: (vR a :: S).map (vO G)))
  rw [st_R (pre := []) hw ha]
  refine va_iald C.1 C.2.1 hs.1 hw.1 a 0 (wO_get ha) rfl (i32_in (n1 hn) h0 h1) hd ?_
  rw [i32_clamp (n1 hn)]
  exact h
theorem ev_bald {a n : Nat} {i : Int} (hd : decode (mC M) pc = .ok (.baload, 1)) (ha : sh[a]? = some (1, n)) (h0 : 0 ≤ i) (h1 : i < n) (kk : Ev G l M R Z cs sl (pc + 1) L (vI (f a i.toNat) :: S) (sh, rf, f)) : Ev G l M R Z cs sl pc L (vI i :: vR a :: S) (sh, rf, f) := by
  intro p e s m args below meth c H locs ls C hs hS hw hn hl
  have hr : -128 ≤ f a i.toNat ∧ f a i.toNat < 128 := hw.2.2.1 a _ ha i.toNat
  have h := kk p e s m args below meth c H locs ls C hs hS hw (nc (by show r32 _; unfold r32; omega) (n2 (n2 hn))) hl
  show W p l e R s m args below meth c H locs cs sl (Z below args s) (F0 m pc ls (vO G (vI i) :: (vR a :: S).map (vO G)))
  rw [st_R (pre := []) hw ha]
  refine va_bald C.1 C.2.1 hs.1 hw.1 a 1 (wO_get ha) rfl (i32_in (n1 hn) h0 h1) hd ?_
  rw [i32_clamp (n1 hn)]
  exact h
theorem ev_zald {a n : Nat} {i : Int} (hd : decode (mC M) pc = .ok (.baload, 1)) (ha : sh[a]? = some (2, n)) (h0 : 0 ≤ i) (h1 : i < n) (kk : Ev G l M R Z cs sl (pc + 1) L (vI (f a i.toNat) :: S) (sh, rf, f)) : Ev G l M R Z cs sl pc L (vI i :: vR a :: S) (sh, rf, f) := by
  intro p e s m args below meth c H locs ls C hs hS hw hn hl
  have hr : f a i.toNat = 0 ∨ f a i.toNat = 1 := hw.2.2.1 a _ ha i.toNat
  have h := kk p e s m args below meth c H locs ls C hs hS hw (nc (r32_01 hr) (n2 (n2 hn))) hl
  show W p l e R s m args below meth c H locs cs sl (Z below args s) (F0 m pc ls (vO G (vI i) :: (vR a :: S).map (vO G)))
  rw [st_R (pre := []) hw ha]
  refine va_zald C.1 C.2.1 hs.1 hw.1 a 2 (wO_get ha) rfl (i32_in (n1 hn) h0 h1) hd ?_
  rw [i32_clamp (n1 hn)]
  exact h
theorem ev_lald {a n : Nat} {i : Int} (hd : decode (mC M) pc = .ok (.laload, 1)) (ha : sh[a]? = some (3, n)) (h0 : 0 ≤ i) (h1 : i < n) (kk : Ev G l M R Z cs sl (pc + 1) L (vJ (f a i.toNat) :: S) (sh, rf, f)) : Ev G l M R Z cs sl pc L (vI i :: vR a :: S) (sh, rf, f) := by
  intro p e s m args below meth c H locs ls C hs hS hw hn hl
  have hr : r64 (f a i.toNat) := hw.2.2.1 a _ ha i.toNat
  have h := kk p e s m args below meth c H locs ls C hs hS hw (nc hr (n2 (n2 hn))) hl
  show W p l e R s m args below meth c H locs cs sl (Z below args s) (F0 m pc ls (vO G (vI i) :: (vR a :: S).map (vO G)))
  rw [st_R (pre := []) hw ha]
  refine va_lald C.1 C.2.1 hs.1 hw.1 a 3 (wO_get ha) rfl (i32_in (n1 hn) h0 h1) hd ?_
  rw [i32_clamp (n1 hn)]
  exact h
theorem ev_aald {a n b q : Nat} {i : Int} (hd : decode (mC M) pc = .ok (.aaload, 1)) (hq : q = 4 ∨ q = 5 ∨ q = 6) (ha : sh[a]? = some (q, n)) (h0 : 0 ≤ i) (h1 : i < n) (hb : rf a i.toNat = some b) (kk : Ev G l M R Z cs sl (pc + 1) L (vR b :: S) (sh, rf, f)) : Ev G l M R Z cs sl pc L (vI i :: vR a :: S) (sh, rf, f) := by
  intro p e s m args below meth c H locs ls C hs hS hw hn hl
  have h := kk p e s m args below meth c H locs ls C hs hS hw (nc trivial (n2 (n2 hn))) hl
  show W p l e R s m args below meth c H locs cs sl (Z below args s) (F0 m pc ls (vO G (vI i) :: (vR a :: S).map (vO G)))
  rw [st_R (pre := []) hw ha]
  have hin := i32_in (n1 hn) h0 h1
  have hlt : (i32 i).toNatClampNeg < n := Nat.not_le.mp fun z => hin (Or.inr z)
  have hcl : (i32 i).toNatClampNeg = i.toNat := i32_clamp (n1 hn)
  have key : ∀ (t0 : Nat) (ty : FieldType), ty.isReference = true → (tO G)[t0]? = some (gC G q, ty) → cO G q n (f a) (rf a) = .inl (gC G q, n, .inr (.inr (.inr (.inr (fun j => rO G (rf a j)))))) → W p l e R s m args below meth c H locs cs sl (Z below args s) (F0 m pc ls (vO G (vI i) :: .ref (gN G + a) :: S.map (vO G))) := by
    intro t0 ty hrf ht hc
    have he := wO_get (G := G) (rf := rf) (f := f) ha
    rw [hc] at he
    refine W.aald (v := va_rf (rO G (rf a (i32 i).toNatClampNeg))) (ty := ty) C.1 C.2.1 (hw.1 a _ he) ((hs.1.2 t0 _ ht).1 n (fun j => va_rf (rO G (rf a j)))) hrf (fun z => by cases z) (by show ¬ (i32 i < 0 ∨ (arrV _ _ _).slots.size ≤ _); rw [arrV_size]; exact hin) (by show (arrV _ _ _).slots[_]? = _; rw [arrV_read _ _ hlt]) rfl rfl hd ?_
    rw [hcl, hb]
    exact h
  rcases hq with rfl | rfl | rfl
  · exact key 4 _ rfl rfl rfl
  · exact key 5 _ rfl rfl rfl
  · exact key 6 _ rfl rfl rfl
theorem ev_alen {a n q : Nat} (hd : decode (mC M) pc = .ok (.arraylength, 1)) (hq : q < 7) (ha : sh[a]? = some (q, n)) (hr : r32 (n : Int)) (kk : Ev G l M R Z cs sl (pc + 1) L (vI n :: S) (sh, rf, f)) : Ev G l M R Z cs sl pc L (vR a :: S) (sh, rf, f) := by
  intro p e s m args below meth c H locs ls C hs hS hw hn hl
  have h := kk p e s m args below meth c H locs ls C hs hS hw (nc hr (n2 hn)) hl
  rw [st_R (pre := []) hw ha]
  have key : ∀ (t0 : Nat) (ty : FieldType) (x : vp_A), (tO G)[t0]? = some (gC G q, ty) → cO G q n (f a) (rf a) = .inl (gC G q, x) → x.1 = n → W p l e R s m args below meth c H locs cs sl (Z below args s) (F0 m pc ls (.ref (gN G + a) :: S.map (vO G))) := by
    intro t0 ty x ht hc hx
    have he := wO_get (G := G) (rf := rf) (f := f) ha
    rw [hc] at he
    exact va_alen C.1 C.2.1 hs.1 hw.1 a t0 he ht (v := i32 n) (by rw [hx]; rfl) hd h
  match q, hq with
  | 0, _ => exact key 0 _ _ rfl rfl rfl
  | 1, _ => exact key 1 _ _ rfl rfl rfl
  | 2, _ => exact key 2 _ _ rfl rfl rfl
  | 3, _ => exact key 3 _ _ rfl rfl rfl
  | 4, _ => exact key 4 _ _ rfl rfl rfl
  | 5, _ => exact key 5 _ _ rfl rfl rfl
  | 6, _ => exact key 6 _ _ rfl rfl rfl
end Acc

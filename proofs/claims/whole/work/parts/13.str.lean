/-! texts: their length, their signs -/
def isS (a : Nat) : Bool := decide (100001 ≤ a) && decide (a < 100017)
def slen (a : Nat) : Nat := lenS.getD (a - 100001) 0
def sch (a j : Nat) : Int := ((bytS.getD (a - 100001) []).getD j 0 &&& 255).toInt
theorem isS_of {a : Nat} (h : isS a = true) : ∃ i, i < 16 ∧ a = 100001 + i := by
  simp only [isS, Bool.and_eq_true, decide_eq_true_eq] at h
  exact ⟨a - 100001, by omega, by omega⟩
theorem str_ok : ∀ i, i < 16 → lenS.getD i 0 < 100 ∧ lenS.getD i 0 = (bytS.getD i []).length ∧ ∀ b ∈ bytS.getD i [], 0 ≤ b.toInt ∧ b.toInt < 128 := by decide +kernel
theorem aO_K {G : GT} {i : Nat} (h : i < 16) : aO G (100001 + i) = gK G i := by
  unfold aO
  rw [if_neg (by omega), if_neg (by omega), if_pos (by omega), Nat.add_sub_cancel_left]
theorem aO_V (G : GT) (i : Nat) : aO G (200000 + i) = gV G i := by
  unfold aO
  rw [if_neg (by omega), if_neg (by omega), if_neg (by omega), Nat.add_sub_cancel_left]
section Str
variable {G : GT} {l : Launch} {M Mc : MT} {R : Room} {Z : List Frame → Array Value → State → State → Prop} {cs sl pc : Nat} {L : List (Option AV)} {S : List AV} {μ : Mem} {d idx n : Nat} {av : List AV} {Q' : Option AV → Mem → Prop}
theorem st_K {i : Nat} (h : i < 16) : (vR (100001 + i) :: S).map (vO G) = .ref (gK G i) :: S.map (vO G) := by
  show Value.ref (aO G (100001 + i)) :: _ = _
  rw [aO_K h]
theorem st_V {i : Nat} : (vR (200000 + i) :: S).map (vO G) = .ref (gV G i) :: S.map (vO G) := by
  show Value.ref (aO G (200000 + i)) :: _ = _
  rw [aO_V]
theorem ev_strV {i : Nat} (hi : i < 16) (hd : decode (mC M) pc = .ok (.getfield 9, 3)) (hlk : Cond.fieldLink (mY M).cls 9 "java/lang/String" "value" "[B" ∈ tblG) (kk : Ev G l M R Z cs sl (pc + 3) L (vR (200000 + i) :: S) μ) : Ev G l M R Z cs sl pc L (vR (100001 + i) :: S) μ := by
  intro p e s m args below meth c H locs ls C hs hS hw hn hl
  have h := kk p e s m args below meth c H locs ls C hs hS hw (nc trivial (n2 hn)) hl
  rw [st_V] at h
  rw [st_K hi]
  exact vk_getf C.1 C.2.1 (hs.2.2.2.2.1.1.1 i hi).2.2.1 hS C.2.2.2.2.1 (C.2.2.2.2.2.1 _ hlk) (fun _ q => q) hd h
theorem ev_strC {i : Nat} (hi : i < 16) (hd : decode (mC M) pc = .ok (.getfield 15, 3)) (hlk : Cond.fieldLink (mY M).cls 15 "java/lang/String" "coder" "B" ∈ tblG) (kk : Ev G l M R Z cs sl (pc + 3) L (vI 0 :: S) μ) : Ev G l M R Z cs sl pc L (vR (100001 + i) :: S) μ := by
  intro p e s m args below meth c H locs ls C hs hS hw hn hl
  have h := kk p e s m args below meth c H locs ls C hs hS hw (nc r32_0 (n2 hn)) hl
  rw [st_K hi]
  exact vk_getf C.1 C.2.1 (hs.2.2.2.2.1.1.1 i hi).2.1 hS C.2.2.2.2.1 (C.2.2.2.2.2.1 _ hlk) (fun _ q => q) hd h
theorem ev_strP (hd : decode (mC M) pc = .ok (.getstatic 38, 3)) (hlk : Cond.fieldLink (mY M).cls 38 "java/lang/String" "COMPACT_STRINGS" "Z" ∈ tblG) (kk : Ev G l M R Z cs sl (pc + 3) L (vI 1 :: S) μ) : Ev G l M R Z cs sl pc L S μ := by
  intro p e s m args below meth c H locs ls C hs hS hw hn hl
  have h := kk p e s m args below meth c H locs ls C hs hS hw (nc (r32c rfl) hn) hl
  exact va_gets C.1 C.2.1 hs.2.2.2.2.1.2.2.1 hS C.2.2.2.2.1 (C.2.2.2.2.2.1 _ hlk) (fun _ q => q) hd h
theorem ev_strL {i : Nat} (hi : i < 16) (hd : decode (mC M) pc = .ok (.arraylength, 1)) (kk : Ev G l M R Z cs sl (pc + 1) L (vI (lenS.getD i 0) :: S) μ) : Ev G l M R Z cs sl pc L (vR (200000 + i) :: S) μ := by
  intro p e s m args below meth c H locs ls C hs hS hw hn hl
  have hb := (str_ok i hi).1
  have h := kk p e s m args below meth c H locs ls C hs hS hw (nc (by show r32 _; unfold r32; omega) (n2 hn)) hl
  rw [st_V]
  obtain ⟨scr, h1, h2, h3, h4, h5, h6, h7⟩ := ((hs.2.2.2.2.1.1.1 i hi).2.2.2).kept hS.2.1
  exact W.alen (n := i32 (lenS.getD i 0)) C.1 C.2.1 h1 h2 h5 rfl rfl hd h
theorem ev_strB {i : Nat} {j : Int} (hi : i < 16) (h0 : 0 ≤ j) (h1 : j < lenS.getD i 0) (hd : decode (mC M) pc = .ok (.baload, 1)) (kk : Ev G l M R Z cs sl (pc + 1) L (vI ((bytS.getD i []).getD j.toNat 0).toInt :: S) μ) : Ev G l M R Z cs sl pc L (vI j :: vR (200000 + i) :: S) μ := by
  intro p e s m args below meth c H locs ls C hs hS hw hn hl
  have h := kk p e s m args below meth c H locs ls C hs hS hw (nc (t32_r _) (n2 (n2 hn))) hl
  show W p l e R s m args below meth c H locs cs sl (Z below args s) (F0 m pc ls (vO G (vI j) :: (vR (200000 + i) :: S).map (vO G)))
  rw [st_V]
  obtain ⟨scr, q1, q2, q3, q4, q5, q6, q7⟩ := ((hs.2.2.2.2.1.1.1 i hi).2.2.2).kept hS.2.1
  have hcl : (i32 j).toNatClampNeg = j.toNat := i32_clamp (n1 hn)
  have hlt : j.toNat < lenS.getD i 0 := by omega
  refine W.bald (v := .int ((bytS.getD i []).getD j.toNat 0)) C.1 C.2.1 q1 q2 q3 ?_ ?_ rfl rfl hd ?_
  · rintro (z | z)
    · rw [i32_0, i32_lt (n1 hn) r32_0] at z
      omega
    · rw [hcl] at z
      omega
  · rw [hcl]
    exact q6 _ hlt
  · rw [b32 (a := (bytS.getD i []).getD j.toNat 0)]
    exact h
theorem ev_callT {i : Nat} (hi : i < 16) (hcl : (mY Mc).cls = "java/lang/String") (hd : decode (mC M) pc = .ok (.invokevirtual idx, 3)) (hret : Ret G l Mc d 0 0 (vR (100001 + i) :: av) μ Q') (hco : CO Mc n) (hlk : Cond.methodLink (mY M).cls idx (mY Mc) ∈ tblG) (hin : Cond.instanceMethod (mY Mc) ∈ tblG) (hse : Cond.selects (mY Mc).cls (mY Mc) (mY Mc) ∈ tblG)
    (hav : av.length = n) (hR : RR R Mc d) (hst : ((S.map (vO G)).map fun v => v.category).sum ≤ 8) (hcm : cs + 0 ≤ R.cells ∧ sl + 0 ≤ R.slots)
    (kk : ∀ (r : Option AV) (μ' : Mem), Q' r μ' → Ev G l M R Z (cs + 0) (sl + 0) (pc + 3) L (r.toList ++ S) μ') : Ev G l M R Z cs sl pc L (av.reverse ++ vR (100001 + i) :: S) μ := by
  intro p e s m args below meth c H locs ls C hs hS hw hn hl
  have hts := C.2.2.2.2.2.1
  have hrec := vk_recv hs.2.2.2.2.1.1 hi hS
  obtain ⟨hn1, hn2⟩ := nV_app hn
  rw [st_app]
  refine ev_back (va_runV (As := av.map (vO G)) (rest := S.map (vO G)) (b := aO G (100001 + i)) (C := (mY Mc).cls) ⟨C.1, C.2.1, C.2.2.2.1, C.2.2.2.2.1, hts⟩ hret ⟨CO_B hco hts hlk hR, hts _ hin, hts _ hse⟩ ⟨Pcc_blind G _ _, by rw [aO_K hi, hcl]; exact hrec, fun U hU hW => ⟨rfl, hs.go hW (by rw [hU]; exact hS), by rw [hU]; exact hw, nc trivial hn1⟩⟩ rfl (by simpa using hav) hl.1 rfl (lv_room hst) hd hcm) C hs hS (n2 hn2) hl kk
theorem ev_bret {Q : Option AV → Mem → Prop} {x : Int} (hr : mR M = some .byte) (hx : -128 ≤ x ∧ x < 128) (hd : decode (mC M) pc = .ok (.ireturn, 1)) (hq : Q (some (vI x)) μ) : Ev G l M R (ZM G Q cs sl) cs sl pc L [vI x] μ := by
  intro p e s m args below meth c H locs ls C hs hS hw hn hl
  exact W.zret C.1 C.2.1 (C.2.2.1.trans hr) (by show Value.int (i32 x).toInt8.toInt32 = .int (i32 x); rw [i2b_is (n1 hn)]; congr 2; unfold w8; omega) (fun t ht _ => ⟨⟨some (vI x), μ, rfl, hq, by rw [ht]; exact hw, fun v h => by cases h; exact n1 hn⟩, va_SF hS ht⟩) hS.2.2 hd C.2.2.2.2.2.2.1
theorem i2c_is {x : Int} (h0 : 0 ≤ x) (h1 : x < 65536) : ((i32 x).toUInt32 % 65536).toInt32 = i32 x := lg_i2c_word (by rw [i32_to (by unfold r32; omega)]; exact h0) (by rw [i32_to (by unfold r32; omega)]; exact h1)
theorem ev_i2cs {x : Int} (h0 : 0 ≤ x) (h1 : x < 65536) (hd : decode (mC M) pc = .ok (.i2c, 1)) (k : Ev G l M R Z cs sl (pc + 1) L (vI x :: S) μ) : Ev G l M R Z cs sl pc L (vI x :: S) μ := by
  intro p e s m args below meth c H locs ls C hs hS hw hn hl
  exact lv_i2c C.1 C.2.1 hd (i2c_is h0 h1) (k p e s m args below meth c H locs ls C hs hS hw hn hl)
theorem ev_cret {Q : Option AV → Mem → Prop} {x : Int} (hr : mR M = some .char) (h0 : 0 ≤ x) (h1 : x < 65536) (hd : decode (mC M) pc = .ok (.ireturn, 1)) (hq : Q (some (vI x)) μ) : Ev G l M R (ZM G Q cs sl) cs sl pc L [vI x] μ := by
  intro p e s m args below meth c H locs ls C hs hS hw hn hl
  exact W.zret C.1 C.2.1 (C.2.2.1.trans hr) (by show Value.int ((i32 x).toUInt32.toUInt16.toUInt32.toInt32) = .int (i32 x); rw [← lg_i2c_nf, i2c_is h0 h1]) (fun t ht _ => ⟨⟨some (vI x), μ, rfl, hq, by rw [ht]; exact hw, fun v h => by cases h; exact n1 hn⟩, va_SF hS ht⟩) hS.2.2 hd C.2.2.2.2.2.2.1
end Str
/-- a stretch of a row of longs put to another -/
def cpy (f : Mm) (a0 sp a1 dp n : Nat) : Mm := fun b j => if b = a1 ∧ dp ≤ j ∧ j < dp + n then f a0 (sp + (j - dp)) else f b j
theorem cpy_off {f : Mm} {a0 sp a1 dp n : Nat} : ∀ b, b ≠ a1 → cpy f a0 sp a1 dp n b = f b := fun b hb => by
  funext j
  unfold cpy
  rw [if_neg (fun q => hb q.1)]
theorem ev_acopy {G : GT} {l : Launch} {M : MT} {R : Room} {Z : List Frame → Array Value → State → State → Prop} {pc : Nat} {L : List (Option AV)} {S : List AV} {sh : Sh} {rf : Rf} {f : Mm} {a0 a1 z0 z1 idx : Nat} {sp dp n : Int}
    (hd : decode (mC M) pc = .ok (.invokestatic idx, 3)) (hlk : Cond.methodLink (mY M).cls idx arraycopyName ∈ tblG) (hna : Cond.native arraycopyName ∈ tblG) (hsta : Cond.static arraycopyName ∈ tblG) (hini : Cond.initialized "java/lang/System" ∈ tblG) (g0 : sh[a0]? = some (3, z0)) (g1 : sh[a1]? = some (3, z1)) (h0 : 0 ≤ sp) (h1 : 0 ≤ dp) (h2 : 0 ≤ n) (h3 : sp + n ≤ z0) (h4 : dp + n ≤ z1) (hfr : 1 ≤ R.frames) (hlo : ((S.map (vO G)).map fun v => v.category).sum + (nativeFrameWords "java/lang/System" "arraycopy" 5 + 11) ≤ R.locals)
    (kk : Ev G l M R Z 0 0 (pc + 3) L S (sh, rf, cpy f a0 sp.toNat a1 dp.toNat n.toNat)) : Ev G l M R Z 0 0 pc L (vI n :: vI dp :: vR a1 :: vI sp :: vR a0 :: S) (sh, rf, f) := by
  intro p e s m args below meth c H locs ls C hs hS hw hn hl
  have hts := C.2.2.2.2.2.1
  have rn := n1 hn
  have rd := n1 (n2 hn)
  have rs := n1 (n2 (n2 (n2 hn)))
  have hnn : ∀ v ∈ S, nV v := n2 (n2 (n2 (n2 (n2 hn))))
  have es : (vI n :: vI dp :: vR a1 :: vI sp :: vR a0 :: S).map (vO G) = .int (i32 n) :: .int (i32 dp) :: .ref (gN G + a1) :: .int (i32 sp) :: .ref (gN G + a0) :: S.map (vO G) := by
    show Value.int (i32 n) :: .int (i32 dp) :: .ref (aO G a1) :: .int (i32 sp) :: .ref (aO G a0) :: _ = _
    rw [a_lt hw g1, a_lt hw g0]
  rw [es]
  have neg : ∀ z : Int, r32 z → 0 ≤ z → ¬ i32 z < 0 := fun z hz h q => by
    rw [i32_0, i32_lt hz r32_0] at q
    omega
  refine va_copyl C.1 C.2.1 (C.2.2.2.1.trans hl.1.symm) C.2.2.2.2.1 (hts _ hlk) (hts _ hna) (hts _ hsta) (hts _ hini) hs.1 hw.1 (wO_D G _) hS a0 a1 3 3 (ty := .long) (wO_get g0) (wO_get g1) rfl rfl rfl (neg _ rs h0) (neg _ rd h1) (neg _ rn h2) (by rw [i32_clamp rs, i32_clamp rn]; omega) (by rw [i32_clamp rd, i32_clamp rn]; omega) (fun _ _ => rfl) hfr hlo hd fun H1 locs1 hP1 hD1 hS1 => ?_
  rw [i32_clamp rs, i32_clamp rd, i32_clamp rn] at hP1
  have e1 : (wO G (sh, rf, f)).set a1 (gN G + a1, .inl (gC G 3, z1, .inr (.inl (va_cpy (fun j => i64 (f a0 j)) (fun j => i64 (f a1 j)) sp.toNat dp.toNat n.toNat)))) = wO G (sh, rf, cpy f a0 sp.toNat a1 dp.toNat n.toNat) := by
    rw [← wO_set (g := cpy f a0 sp.toNat a1 dp.toNat n.toNat) g1 cpy_off]
    congr 2
    show _ = cO G 3 z1 _ _
    unfold cO
    rw [if_neg (by decide), if_pos rfl]
    congr 5
    funext j
    unfold va_cpy cpy
    by_cases hj : dp.toNat ≤ j ∧ j < dp.toNat + n.toNat
    · rw [if_pos hj, if_pos ⟨rfl, hj⟩]
    · rw [if_neg hj, if_neg (fun q => hj q.2)]
  rw [e1] at hP1
  have hnM : nM (sh, rf, cpy f a0 sp.toNat a1 dp.toNat n.toNat) := by
    intro b q hb j
    show nk q.1 j (cpy f a0 sp.toNat a1 dp.toNat n.toNat b j)
    unfold cpy
    by_cases hc : b = a1 ∧ dp.toNat ≤ j ∧ j < dp.toNat + n.toNat
    · rw [if_pos hc]
      obtain ⟨rfl, -⟩ := hc
      cases hb.symm.trans g1
      exact hw.2.2.1 a0 _ g0 _
    · rw [if_neg hc]
      exact hw.2.2.1 b q hb j
  intro T hT X
  have hsz : H1.size = gN G + sh.length := by
    have u1 : T.heap.size ≤ s.heap.size + 0 := X.heapSize
    rw [hT] at u1
    have u2 := hS.1
    have u3 : H.size = gN G + sh.length := hw.2.1
    have hlt : a1 < sh.length := (List.getElem?_eq_some_iff.mp g1).1
    have hlast : sh.length - 1 < sh.length := by omega
    obtain ⟨q, hq⟩ : ∃ q, sh[sh.length - 1]? = some q := ⟨_, List.getElem?_eq_getElem hlast⟩
    obtain ⟨k', n'⟩ := q
    have := (hP1 _ _ (wO_get hq)).lt
    dsimp only at this
    omega
  exact kk p e s m args below meth c H1 locs1 ls C hs hS1 ⟨hP1, hsz, hnM, hw.2.2.2⟩ hnn hl T hT X

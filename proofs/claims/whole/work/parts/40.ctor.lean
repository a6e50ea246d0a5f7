/-! making of objects and rows -/
theorem wO_app {G : GT} {sh : Sh} {rf : Rf} {f : Mm} {k n : Nat} : wO G (sh ++ [(k, n)], rf, f) = wO G (sh, rf, f) ++ [(gN G + sh.length, cO G k n (f sh.length) (rf sh.length))] := by
  apply List.ext_getElem?
  intro i
  by_cases hi : i < sh.length
  · rw [List.getElem?_append_left (by rw [wO_len]; exact hi)]
    obtain ⟨q, hq⟩ : ∃ q, sh[i]? = some q := ⟨_, List.getElem?_eq_getElem hi⟩
    obtain ⟨k', n'⟩ := q
    rw [wO_get hq, wO_get (by rw [List.getElem?_append_left hi]; exact hq)]
  · by_cases he : i = sh.length
    · subst he
      rw [List.getElem?_append_right (by rw [wO_len]; exact Nat.le_refl _)]
      rw [wO_get (k := k) (n := n) (by rw [List.getElem?_append_right (Nat.le_refl _)]; simp)]
      show _ = [_][sh.length - (wO G (sh, rf, f)).length]?
      rw [wO_len]
      simp
    · rw [List.getElem?_eq_none (by rw [wO_len]; show (sh ++ [(k, n)]).length ≤ i; simp; omega), List.getElem?_eq_none (by simp [wO_len]; omega)]
theorem nk_zero (k j : Nat) : nk k j 0 := by
  unfold nk r32 r64
  repeat (first | (split; (try omega)) | omega)
theorem nM_app {sh : Sh} {rf : Rf} {f : Mm} {q : Nat × Nat} (h : nM (sh, rf, f)) (hf : ∀ j, f sh.length j = 0) : nM (sh ++ [q], rf, f) := by
  intro a q' ha j
  by_cases hi : a < sh.length
  · have ha' : (sh ++ [q])[a]? = some q' := ha
    rw [List.getElem?_append_left hi] at ha'
    exact h a q' ha' j
  · have hlen : a < (sh ++ [q]).length := (List.getElem?_eq_some_iff.mp ha).1
    have he : a = sh.length := by simp at hlen; omega
    subst he
    show nk q'.1 j (f sh.length j)
    rw [hf j]
    exact nk_zero _ _
theorem Wh_push {G : GT} {sh : Sh} {rf : Rf} {f : Mm} {k n : Nat} {H H1 : Heap} (hw : Wh G (sh, rf, f) H) (hat : va_at (gD G) kls (gN G + sh.length, cO G k n (f sh.length) (rf sh.length)) H1) (z : H1.size = H.size + 1) (oq : ∀ q : Nat, q < H.size → H1[q]? = H[q]?) (hf : ∀ j, f sh.length j = 0) (hl : sh.length < 100000) : Wh G (sh ++ [(k, n)], rf, f) H1 := by
  refine ⟨?_, by rw [z, hw.2.1]; simp; omega, nM_app hw.2.2.1 hf, by simp; omega⟩
  rw [wO_app]
  refine (hw.1.kept (fun k x hx => oq x.1 ((hw.1 k x hx).lt))).app (fun i x hx => ?_)
  have h0 : i < 1 := (List.getElem?_eq_some_iff.mp hx).1
  rw [show i = 0 by omega] at hx
  cases hx
  exact hat
theorem va_S_push {A : Nat → Prop} {H0 H H1 : Heap} {locs : List Loc} (h : va_S A H0 H locs) (z : H1.size = H.size + 1) (oq : ∀ q : Nat, q < H.size → H1[q]? = H[q]?) : va_S A H0 H1 locs := ⟨by have := h.1; omega, fun q g1 g2 => (oq q (Nat.lt_of_lt_of_le g1 h.1)).trans (h.2.1 q g1 g2), h.2.2⟩
def okT : FieldType → Bool
  | .int => true
  | .long => true
  | .boolean => true
  | .object _ => true
  | .array _ => true
  | _ => false
theorem dv_okT {G : GT} {t : FieldType} (h : okT t = true) : defaultValue t = fO G (tcode t) 0 none := by cases t <;> first | rfl | cases h
/-- one reference of the memory -/
def upr (r : Rf) (a k b : Nat) : Rf := fun a' k' => if a' = a ∧ k' = k then some b else r a' k'
section Ctor
variable {G : GT} {l : Launch} {M Mc : MT} {R : Room} {Z : List Frame → Array Value → State → State → Prop} {cs sl pc : Nat} {L : List (Option AV)} {S : List AV} {sh : Sh} {rf : Rf} {f : Mm}
theorem st_new {H : Heap} (hl : sh.length < 100000) (hz : H.size = gN G + sh.length) : (vR sh.length :: S).map (vO G) = .ref H.size :: S.map (vO G) := by
  show Value.ref (aO G sh.length) :: _ = _
  rw [aO_lt hl, hz]
theorem ev_new {ci N idx : Nat} {C0 : String} {T : u_T} (hd : decode (mC M) pc = .ok (.new idx, 3)) (hcl : Cond.classLink (mY M).cls idx C0 ∈ tblG) (hins : Cond.instantiable C0 N ∈ tblG) (hini : Cond.initialized C0 ∈ tblG) (hkl : kls[ci]? = some (C0, T, N)) (hko : KOK ci C0 T N) (hok : ∀ k, k < N → okT (ftab ci k) = true) (hf : ∀ j, f sh.length j = 0) (hr : ∀ j, rf sh.length j = none) (hlen : sh.length < 100000) (hc : cs + 1 ≤ R.cells) (hsl : sl + N ≤ R.slots)
    (kk : Ev G l M R Z (cs + 1) (sl + N) (pc + 3) L (vR sh.length :: S) (sh ++ [(10 + ci, N)], rf, f)) : Ev G l M R Z cs sl pc L S (sh, rf, f) := by
  intro p e s m args below meth c H locs ls C hs hS hw hn hl
  have hts := C.2.2.2.2.2.1
  have hKn := hs.1.1 ci _ hkl
  refine W.newcK C.1 C.2.1 C.2.2.2.2.1 (hts _ hcl) (hts _ hins) (hts _ hini) rfl hd hc hsl hKn.2.1 rfl fun H1 kC hkC e1 z1 o1 => ?_
  have hat : va_at (gD G) kls (gN G + sh.length, cO G (10 + ci) N (f sh.length) (rf sh.length)) H1 := by
    rw [cO_obj]
    refine ⟨_, hkl, (u_born (ftab ci) hts hko.1 hKn hkC (o := gN G + sh.length) (by rw [← hw.2.1]; exact e1) hko.2.1).to (fun j hj => ?_)⟩
    show defaultValue (ftab ci j) = vp_V _ j
    unfold vp_V
    rw [List.getD_eq_getElem?_getD, fs_get hj, hf j, hr j]
    exact dv_okT (hok j hj)
  have h := kk p e s m args below meth c H1 locs ls C hs (va_S_push hS z1 o1) (Wh_push hw hat z1 o1 hf hlen) (nc trivial hn) hl
  rw [st_new hlen hw.2.1] at h
  exact h
theorem ev_newa {k n : Nat} {x : Int} {at0 : ArrayType} {ty : FieldType} (hk : (k = 0 ∧ ty = .int) ∨ (k = 1 ∧ ty = .byte) ∨ (k = 2 ∧ ty = .boolean) ∨ (k = 3 ∧ ty = .long)) (hd : decode (mC M) pc = .ok (.newarray at0, 2)) (hty : newarray.typeOf at0 = ty) (harr : Cond.arrayClass ty ∈ tblG) (hx : x = n) (hn0 : n < 10000) (hf : ∀ j, f sh.length j = 0) (hlen : sh.length < 100000) (hc : cs + 1 ≤ R.cells) (hsl : sl + n ≤ R.slots)
    (kk : Ev G l M R Z (cs + 1) (sl + n) (pc + 2) L (vR sh.length :: S) (sh ++ [(k, n)], rf, f)) : Ev G l M R Z cs sl pc L (vI x :: S) (sh, rf, f) := by
  intro p e s m args below meth c H locs ls C hs hS hw hn hl
  have hts := C.2.2.2.2.2.1
  subst hx
  subst hty
  have hr : r32 (n : Int) := n1 hn
  refine va_newaK (n := i32 n) (N := n) C.1 C.2.1 (hts _ harr) rfl hd rfl (fun q => by rw [i32_0, i32_lt hr r32_0] at q; omega) (by rw [i32_clamp hr]; simp) (by cases at0 <;> simp [newarray.typeOf, componentBytes] <;> omega) hc hsl rfl fun H1 cA e1 z1 o1 hAr hNm => ?_
  have key : ∀ (t0 : Nat), (tO G)[t0]? = some (gC G k, newarray.typeOf at0) → (∀ C : String, newarray.typeOf at0 ≠ .object C) → cA = gC G k := by
    intro t0 ht hne
    have h2 := (hs.1.2 t0 _ ht).2
    have h3 : s.vm.findClass ("[" ++ (newarray.typeOf at0).toString) = some (gC G k) := by
      cases hq : newarray.typeOf at0 with
      | object C => exact absurd hq (hne C)
      | _ => rw [hq] at h2; exact h2
    exact Option.some.inj (hNm.symm.trans h3)
  have hfz : f sh.length = fun _ => 0 := funext hf
  have hat : va_at (gD G) kls (gN G + sh.length, cO G k n (f sh.length) (rf sh.length)) H1 := by
    rw [hfz]
    rcases hk with ⟨rfl, h⟩ | ⟨rfl, h⟩ | ⟨rfl, h⟩ | ⟨rfl, h⟩
    · have hA := key 0 (by rw [h]; rfl) (fun C q => by rw [h] at q; cases q)
      show H1[gN G + sh.length]? = some (vp_cell _ _)
      rw [← hw.2.1, e1, hA, h]; rfl
    · have hA := key 1 (by rw [h]; rfl) (fun C q => by rw [h] at q; cases q)
      show H1[gN G + sh.length]? = some (vp_cell _ _)
      rw [← hw.2.1, e1, hA, h]; rfl
    · have hA := key 2 (by rw [h]; rfl) (fun C q => by rw [h] at q; cases q)
      show H1[gN G + sh.length]? = some (vp_cell _ _)
      rw [← hw.2.1, e1, hA, h]; rfl
    · have hA := key 3 (by rw [h]; rfl) (fun C q => by rw [h] at q; cases q)
      show H1[gN G + sh.length]? = some (vp_cell _ _)
      rw [← hw.2.1, e1, hA, h]; rfl
  have h := kk p e s m args below meth c H1 locs ls C hs (va_S_push hS z1 o1) (Wh_push hw hat z1 o1 hf hlen) (nc trivial (n2 hn)) hl
  rw [st_new hlen hw.2.1] at h
  exact h
theorem ev_anew {n idx : Nat} {x : Int} (hd : decode (mC M) pc = .ok (.anewarray idx, 3)) (hcl : Cond.classLink (mY M).cls idx RX0 ∈ tblG) (hx : x = n) (hn0 : n < 10000) (hf : ∀ j, f sh.length j = 0) (hr0 : ∀ j, rf sh.length j = none) (hlen : sh.length < 100000) (hc : cs + 1 ≤ R.cells) (hsl : sl + n ≤ R.slots)
    (kk : Ev G l M R Z (cs + 1) (sl + n) (pc + 3) L (vR sh.length :: S) (sh ++ [(6, n)], rf, f)) : Ev G l M R Z cs sl pc L (vI x :: S) (sh, rf, f) := by
  intro p e s m args below meth c H locs ls C hs hS hw hn hl
  have hts := C.2.2.2.2.2.1
  subst hx
  have hr : r32 (n : Int) := n1 hn
  have hcn : (i32 n).toNatClampNeg = n := by rw [i32_clamp hr]; simp
  refine W.anew (n := i32 n) C.1 C.2.1 C.2.2.2.2.1 (hts _ hcl) (va_AO.use hs.2.2.2.2.2.1) rfl hd rfl (fun q => by rw [i32_0, i32_lt hr r32_0] at q; omega) (by rw [hcn]; omega) hc (by rw [hcn]; exact hsl) fun cA kA comp f1 f2 f3 f4 => ?_
  rw [hcn]
  generalize hH1 : H.push ({ cls := cA, slots := Array.replicate n .null, vm := .none } : Cell) = H1
  have z1 : H1.size = H.size + 1 := by rw [← hH1, Array.size_push]
  have e1 : H1[H.size]? = some (arrV cA n (fun _ => .null)) := by rw [← hH1, Array.getElem?_push_size, ← arrV_new]
  have o1 : ∀ q : Nat, q < H.size → H1[q]? = H[q]? := fun q hq => by rw [← hH1, Array.getElem?_push, if_neg (Nat.ne_of_lt hq)]
  have hA : cA = gC G 6 := by
    obtain ⟨_, _, -, -, -, h4⟩ := (hs.1.2 6 _ rfl).2
    exact Option.some.inj (f1.symm.trans h4)
  have hat : va_at (gD G) kls (gN G + sh.length, cO G 6 n (f sh.length) (rf sh.length)) H1 := by
    show H1[gN G + sh.length]? = some (vp_cell _ _)
    have hrz : rf sh.length = fun _ => none := funext hr0
    rw [← hw.2.1, e1, hA, hrz]
    rfl
  have h := kk p e s m args below meth c H1 locs ls C hs (va_S_push hS z1 o1) (Wh_push hw hat z1 o1 hf hlen) (nc trivial (n2 hn)) hl
  rw [st_new hlen hw.2.1] at h
  exact h
theorem fs_setR {ci n k b : Nat} {f : Nat → Int} {r : Nat → Option Nat} (hk : fty ci k = 2) : ((List.range n).map (fun j => fO G (fty ci j) (f j) (r j))).set k (.ref (aO G b)) = (List.range n).map (fun j => fO G (fty ci j) (f j) (if j = k then some b else r j)) := by
  apply List.ext_getElem?
  intro i
  by_cases hi : i = k
  · subst hi
    by_cases hl : i < n
    · rw [List.getElem?_set_self (by simpa using hl), List.getElem?_map, List.getElem?_range hl]
      simp [hk, fO, rO, va_rf]
    · rw [List.getElem?_eq_none (by simp; omega), List.getElem?_eq_none (by simp; omega)]
  · rw [List.getElem?_set_ne (Ne.symm hi)]
    simp only [List.getElem?_map]
    by_cases hl : i < n
    · rw [List.getElem?_range hl]
      simp [hi]
    · rw [List.getElem?_eq_none (by simp; omega)]
      rfl
theorem wO_setR {a k n : Nat} {rf' : Rf} (h : sh[a]? = some (k, n)) (hg : ∀ b, b ≠ a → rf' b = rf b) : (wO G (sh, rf, f)).set a (gN G + a, cO G k n (f a) (rf' a)) = wO G (sh, rf', f) := by
  have hl : a < sh.length := (List.getElem?_eq_some_iff.mp h).1
  apply List.ext_getElem?
  intro i
  by_cases hi : i = a
  · subst hi
    rw [List.getElem?_set_self (by rw [wO_len]; exact hl), wO_get h]
  · rw [List.getElem?_set_ne (Ne.symm hi)]
    by_cases hil : i < sh.length
    · obtain ⟨q, hq⟩ : ∃ q, sh[i]? = some q := ⟨_, List.getElem?_eq_getElem hil⟩
      obtain ⟨k', n'⟩ := q
      rw [wO_get hq, wO_get hq, hg i hi]
    · rw [List.getElem?_eq_none (by rw [wO_len]; exact Nat.not_lt.mp hil), List.getElem?_eq_none (by rw [wO_len]; exact Nat.not_lt.mp hil)]
theorem Wh_putR {a k n : Nat} {rf' : Rf} {H H1 : Heap} (hw : Wh G (sh, rf, f) H) (ha : sh[a]? = some (k, n)) (hg : ∀ b, b ≠ a → rf' b = rf b) (hat : va_at (gD G) kls (gN G + a, cO G k n (f a) (rf' a)) H1) (z : H1.size = H.size) (oq : ∀ q : Nat, q ≠ gN G + a → H1[q]? = H[q]?) : Wh G (sh, rf', f) H1 := by
  refine ⟨?_, z.trans hw.2.1, hw.2.2.1, hw.2.2.2⟩
  rw [← wO_setR ha hg]
  exact hw.1.set (wO_D G _) (wO_get ha) hat oq
theorem upr_off {a k b : Nat} : ∀ x, x ≠ a → upr rf a k b x = rf x := fun x hx => by
  funext j
  unfold upr
  rw [if_neg (fun q => hx q.1)]
theorem upr_at {a k b : Nat} : upr rf a k b a = fun j => if j = k then some b else rf a j := by
  funext j
  simp [upr]
/-- the link of a final field, in the making of its own object -/
def FF (own : String) (idx ci k : Nat) : Prop := ∃ (C : String) (T : u_T) (N : Nat), kls[ci]? = some (C, T, N) ∧ k < N ∧ KOK ci C T N ∧ Cond.fieldLink own idx (T k).1 (T k).2.1 (T k).2.2.1 ∈ tblG ∧ (T k).2.2.2 = true ∧ (T k).1 = own
theorem ev_putR {a k n ci idx b : Nat} (hd : decode (mC M) pc = .ok (.putfield idx, 3)) (hf : FF (mY M).cls idx ci k) (hnm : (mY M).name = "<init>") (ha : sh[a]? = some (10 + ci, n)) (hk : k < n) (ht : fty ci k = 2) (hty : okT (ftab ci k) = true) (kk : Ev G l M R Z cs sl (pc + 3) L S (sh, upr rf a k b, f)) : Ev G l M R Z cs sl pc L (vR b :: vR a :: S) (sh, rf, f) := by
  intro p e s m args below meth c H locs ls C hs hS hw hn hl
  obtain ⟨C', T, N, h1, h2, h3, h4, hfin, hdecl⟩ := hf
  have he := wO_get (G := G) (rf := rf) (f := f) ha
  rw [cO_obj] at he
  have hts := C.2.2.2.2.2.1
  have hpar : parseFieldDescriptor (T k).2.2.1 = some (ftab ci k) := h3.2.1 k h2
  have hap := va_apart (own := (mY M).cls) hts h3.1 (ftab ci) h3.2.1 h3.2.2 hs.1 h1
  obtain ⟨r, g1, cell, q1, q2, q3, q4⟩ := hw.1 a _ he
  have hr : r = (C', T, N) := Option.some.inj (g1.symm.trans h1)
  subst hr
  obtain ⟨hSl, hfc, kC, hkC, hkind⟩ := hs.1.1 ci _ h1
  obtain ⟨cf, kf, fi, fd, hi, hsl⟩ := hSl k h2
  have hlay := hts _ (h3.1 _ (u_in_lay h2))
  unfold u_lay at hlay
  rw [if_pos hfin] at hlay
  have hst := (u_facts hfc hkC (u_lays hts h3.1 h2) hi).1
  have hown := C.2.2.2.2.1
  have hcf : m.cls = cf := by
    obtain ⟨_, _, c', _, _, _, -, -, hf', -, -, -, hown2, -⟩ := Cond.laysFinal_spec hlay
    have e1 : c' = cf := by have := hi.symm.trans hf'; simp at this; exact this.1.symm
    rw [hdecl] at hown2
    rw [← e1]; exact Option.some.inj (hown.symm.trans hown2)
  have hnar : narrow (ftab ci k) (.ref (aO G b)) = .ref (aO G b) := by
    cases hq : ftab ci k <;> rw [hq] at hty <;> first | rfl | cases hty
  have hfit : fits (ftab ci k) (.ref (aO G b)) = true := by
    have ht' : tcode (ftab ci k) = 2 := ht
    cases hq : ftab ci k <;> rw [hq] at hty ht' <;> first | rfl | exact absurd hty (by decide) | exact absurd ht' (by decide)
  have h6 := u_fits hfc hkC hkind (Or.inr hlay) hi hpar hnar hfit
  show W p l e R s m args below meth c H locs cs sl (Z below args s) (F0 m pc ls (.ref (aO G b) :: (vR a :: S).map (vO G)))
  rw [st_R (pre := []) hw ha]
  refine W.putFinK C.1 C.2.1 hown (hts _ h4) hi hst hcf (C.2.2.2.2.2.2.2.trans hnm) (by rw [q2]; exact h6) q1 q3 (by rw [hsl]; exact k2_hasslot (q4 k h2)) rfl rfl hd fun H' e1 e2 e3 => ?_
  rw [hsl] at e1
  have hat : va_at (gD G) kls (gN G + a, cO G (10 + ci) n (f a) (upr rf a k b a)) H' := by
    rw [cO_obj, upr_at]
    refine ⟨_, h1, t_OB.to (V := updV (vp_V ((List.range n).map (fun j => fO G (fty ci j) (f a j) (rf a j)))) k (.ref (aO G b))) ⟨_, e1, q2, q3, t_set q4 hap h2 (.ref (aO G b))⟩ (fun j _ => ?_)⟩
    rw [vp_updV_set (by simpa using hk), fs_setR ht]
  exact kk p e s m args below meth c H' _ ls C hs (hS.put e2 e3 (gA_a G a)) (Wh_putR hw ha upr_off hat e2 e3) (n2 (n2 hn)) hl
theorem ev_aast {a b n N : Nat} {i : Int} (hd : decode (mC M) pc = .ok (.aastore, 1)) (ha : sh[a]? = some (6, n)) (hb : sh[b]? = some (10 + 0, N)) (h0 : 0 ≤ i) (h1 : i < n) (kk : Ev G l M R Z cs sl (pc + 1) L S (sh, upr rf a i.toNat b, f)) : Ev G l M R Z cs sl pc L (vR b :: vI i :: vR a :: S) (sh, rf, f) := by
  intro p e s m args below meth c H locs ls C hs hS hw hn hl
  have hi := n1 (n2 hn)
  have hin := i32_in hi h0 h1
  have hcl : (i32 i).toNatClampNeg = i.toNat := i32_clamp hi
  have hlt : (i32 i).toNatClampNeg < n := Nat.not_le.mp fun q => hin (Or.inr q)
  have h0' : ¬ i32 i < 0 := fun q => hin (Or.inl q)
  have heb := wO_get (G := G) (rf := rf) (f := f) hb
  rw [cO_obj] at heb
  obtain ⟨r', hr', cellV, g1, g2, g3, -⟩ := hw.1 b _ heb
  have hcls := (hs.1.1 0 _ rfl).2
  obtain ⟨kA, comp, k1, k2, k3, -⟩ := (hs.1.2 6 _ rfl).2
  have hcomp : comp = (gD G).1 0 := Option.some.inj (k3.symm.trans hcls.1)
  subst hcomp
  obtain ⟨kC, hkC, -⟩ := hcls.2
  show W p l e R s m args below meth c H locs cs sl (Z below args s) (F0 m pc ls (.ref (aO G b) :: vO G (vI i) :: (vR a :: S).map (vO G)))
  rw [st_R (pre := []) hw ha, a_lt hw hb]
  refine W.aast C.1 C.2.1 (hw.1 a _ (wO_get ha)) (fun q h => by cases h) (fun h => by cases h) k1 k2 rfl hkC ⟨h0', by show _ < (arrV _ _ _).slots.size; rw [arrV_size]; exact hlt⟩ g1 (fun q h => by rw [g3] at h; cases h) (by rw [g2]; exact hkC) (by rw [g2]; exact va_assign hcls) rfl rfl hd fun H1 e1 z oq => ?_
  rw [hcl] at e1
  have hat : va_at (gD G) kls (gN G + a, cO G 6 n (f a) (upr rf a i.toNat b a)) H1 := by
    show H1[gN G + a]? = some (vp_cell _ _)
    rw [e1, upr_at]
    show some ((arrV (gC G 6) n (fun j => va_rf (rO G (rf a j)))).setSlot i.toNat (.ref (gN G + b))) = some (arrV (gC G 6) n (fun j => va_rf (rO G (if j = i.toNat then some b else rf a j))))
    rw [arrV_store]
    congr 2
    funext q
    by_cases hq : q = i.toNat
    · simp [updV, hq, rO, va_rf, a_lt hw hb]
    · simp [updV, hq]
  exact kk p e s m args below meth c H1 _ ls C hs (hS.put z oq (gA_a G a)) (Wh_putR hw ha upr_off hat z oq) (n2 (n2 (n2 hn))) hl
theorem ev_oinit {a idx : Nat} {μ : Mem} (hd : decode (mC M) pc = .ok (.invokespecial idx, 3)) (hlk : Cond.methodLink (mY M).cls idx objectInit ∈ tblG) (him : Cond.instanceMethod objectInit ∈ tblG) (hco : Cond.code objectInit ⟨#[0xb1]⟩ 1 none ∈ tblG) (hfr : 1 ≤ R.frames) (hlo : ((S.map (vO G)).map fun v => v.category).sum + 12 ≤ R.locals) (kk : Ev G l M R Z cs sl (pc + 3) L S μ) : Ev G l M R Z cs sl pc L (vR a :: S) μ := by
  intro p e s m args below meth c H locs ls C hs hS hw hn hl
  have hts := C.2.2.2.2.2.1
  have h := kk p e s m args below meth c H locs ls C hs hS hw (n2 hn) hl
  exact W.objInit C.1 C.2.1 C.2.2.2.2.1 (hts _ hlk) (hts _ him) (hts _ hco) (g := F0 m pc ls ((vR a :: S).map (vO G))) rfl (hl.1.trans C.2.2.2.1.symm) rfl hd hfr (by show 2 * 0 + _ + 12 ≤ _; omega) h
end Ctor
section CallI
variable {G : GT} {l : Launch} {M Mc : MT} {R : Room} {Z : List Frame → Array Value → State → State → Prop} {cs sl pc : Nat} {L : List (Option AV)} {S : List AV} {μ : Mem} {d mc ms idx : Nat} {Q' : Option AV → Mem → Prop}
theorem ev_callI {b : Nat} (hd : decode (mC M) pc = .ok (.invokespecial idx, 3)) (hret : Ret G l Mc d mc ms [vR b] μ Q') (hmr : mR Mc = none) (hnm : (mY Mc).name = "<init>") (hco : CO Mc 0) (hlk : Cond.methodLink (mY M).cls idx (mY Mc) ∈ tblG) (hin : Cond.instanceMethod (mY Mc) ∈ tblG) (hR : RR R Mc d) (hst : ((S.map (vO G)).map fun v => v.category).sum ≤ 8) (hcm : cs + mc ≤ R.cells ∧ sl + ms ≤ R.slots)
    (kk : ∀ (r : Option AV) (μ' : Mem), Q' r μ' → Ev G l M R Z (cs + mc) (sl + ms) (pc + 3) L (r.toList ++ S) μ') : Ev G l M R Z cs sl pc L (vR b :: S) μ := by
  intro p e s m args below meth c H locs ls C hs hS hw hn hl
  have hts := C.2.2.2.2.2.1
  have hB := CO_B (M := M) (mc := mc) (ms := ms) hco hts hlk hR
  rw [hmr] at hB
  refine ev_back (va_runI (As := []) (rest := S.map (vO G)) (b := aO G b) ⟨C.1, C.2.1, C.2.2.2.1, C.2.2.2.2.1, hts⟩ hret ⟨hB, hnm, hts _ hin⟩ ⟨Pcc_blind G _ _, fun U hU hW => ⟨rfl, hs.go hW (by rw [hU]; exact hS), by rw [hU]; exact hw, nc trivial (fun v h => by cases h)⟩⟩ rfl rfl hl.1 rfl (lv_room hst) hd hcm) C hs hS (n2 hn) hl kk
theorem ev_callIN {b : Nat} (hd : decode (mC M) pc = .ok (.invokespecial idx, 3)) (hret : Ret G l Mc d mc ms [vR b] μ Q') (hmr : mR Mc = none) (hnm : (mY Mc).name = "<init>") (hco : CO Mc 0) (hlk : Cond.methodLinkNest (mY M).cls idx (mY Mc) RX10 ∈ nstW) (hin : Cond.instanceMethod (mY Mc) ∈ tblG) (hR : RR R Mc d) (hst : ((S.map (vO G)).map fun v => v.category).sum ≤ 8) (hcm : cs + mc ≤ R.cells ∧ sl + ms ≤ R.slots)
    (kk : ∀ (r : Option AV) (μ' : Mem), Q' r μ' → Ev G l M R Z (cs + mc) (sl + ms) (pc + 3) L (r.toList ++ S) μ') : Ev G l M R Z cs sl pc L (vR b :: S) μ := by
  intro p e s m args below meth c H locs ls C hs hS hw hn hl
  have hts := C.2.2.2.2.2.1
  have hB := va_cnB (own := (mY M).cls) (host := RX10) (index := idx) (mc := mc) (ms := ms) (rm := Rm d mc ms) (y := mY Mc) (bytes := mC Mc) (maxL := mL Mc) (ret := mR Mc) (R := R) 0 hts (CO_ws hco) rfl rfl rfl (hs.2.2.2.1 _ hlk) (hts _ hco.2.1) ⟨hco.2.2.1.1, hco.2.2.1.2, hco.2.2.2⟩ hR
  rw [hmr] at hB
  refine ev_back (va_runIN (As := []) (rest := S.map (vO G)) (b := aO G b) ⟨C.1, C.2.1, C.2.2.2.1, C.2.2.2.2.1, hts⟩ hret ⟨hB, hnm, hts _ hin⟩ ⟨Pcc_blind G _ _, fun U hU hW => ⟨rfl, hs.go hW (by rw [hU]; exact hS), by rw [hU]; exact hw, nc trivial (fun v h => by cases h)⟩⟩ rfl rfl hl.1 rfl (lv_room hst) hd hcm) C hs hS (n2 hn) hl kk
end CallI

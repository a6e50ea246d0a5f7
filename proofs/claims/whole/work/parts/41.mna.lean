/-! rows of rows: one instruction makes them all -/
section Mna
def mzI (comp : ClassId) (n : Nat) (dv : Value) : Cell := { cls := comp, slots := Array.replicate n dv, vm := .none }
def mzO (c : ClassId) (n h0 i : Nat) : Cell := arrV c n (fun j => va_rf (if j < i then some (h0 + 1 + j) else none))
theorem mzO_0 (c : ClassId) (n h0 : Nat) : ({ cls := c, slots := Array.replicate n .null, vm := .none } : Cell) = mzO c n h0 0 := by
  rw [arrV_new]
  unfold mzO
  congr 1
theorem mzO_s (c : ClassId) (n h0 i : Nat) : (mzO c n h0 i).setSlot i (.ref (h0 + 1 + i)) = mzO c n h0 (i + 1) := by
  unfold mzO
  rw [arrV_store]
  congr 1
  funext j
  by_cases hj : j = i
  · subst hj
    simp [updV, va_rf]
  · by_cases h : j < i
    · simp [updV, hj, h, show j < i + 1 by omega]
    · simp [updV, hj, h, show ¬ j < i + 1 by omega]
def mzF (s : State) (c comp : ClassId) (n k : Nat) (dv : Value) : Nat → State
  | 0 => s.pushCell (mzO c n s.heap.size 0)
  | i + 1 => ((mzF s c comp n k dv i).pushCell (mzI comp k dv)).setCell s.heap.size (mzO c n s.heap.size (i + 1))
theorem mzF_is (s : State) (c comp : ClassId) (n k : Nat) (dv : Value) : ∀ i, (mzF s c comp n k dv i).heap.size = s.heap.size + 1 + i ∧ (mzF s c comp n k dv i).heap[s.heap.size]? = some (mzO c n s.heap.size i) ∧ (mzF s c comp n k dv i).vm = s.vm ∧ (mzF s c comp n k dv i).slotsUsed = s.slotsUsed + n + i * k
  | 0 => ⟨by simp [mzF], by simp [mzF], rfl, by simp [mzF, mzO, arrV_size]⟩
  | i + 1 => by
    obtain ⟨a, b, d, u⟩ := mzF_is s c comp n k dv i
    have hlt : s.heap.size < (mzF s c comp n k dv i).heap.size := by omega
    have hb : ((mzF s c comp n k dv i).pushCell (mzI comp k dv)).heap[s.heap.size]? = some (mzO c n s.heap.size i) := by rw [State.heap_pushCell_of_lt (h := hlt)]; exact b
    refine ⟨?_, State.heap_setCell_self hb, by simp [mzF, d], ?_⟩
    · simp [mzF, State.setCell, a]; omega
    · simp [mzF, u, mzI, Nat.succ_mul]; omega
theorem mzF_top (s : State) (g : JFrame) (c comp : ClassId) (n k : Nat) (dv : Value) : ∀ i, mzF (s.setTop g) c comp n k dv i = (mzF s c comp n k dv i).setTop g
  | 0 => rfl
  | i + 1 => by simp only [mzF, mzF_top s g c comp n k dv i, State.heap_setTop, State.pushCell_setTop, State.setCell_setTop]
theorem mzF_old (s : State) (c comp : ClassId) (n k : Nat) (dv : Value) {a : Addr} (ha : a < s.heap.size) : ∀ i, (mzF s c comp n k dv i).heap[a]? = s.heap[a]?
  | 0 => State.heap_pushCell_of_lt _ _ ha
  | i + 1 => by
    have f1 := (mzF_is s c comp n k dv i).1
    have hlt : a < (mzF s c comp n k dv i).heap.size := Nat.lt_of_lt_of_le ha (by rw [f1]; omega)
    show (((mzF s c comp n k dv i).pushCell (mzI comp k dv)).setCell s.heap.size _).heap[a]? = _
    rw [State.heap_setCell_other (Nat.ne_of_gt ha), State.heap_pushCell_of_lt (h := hlt)]
    exact mzF_old s c comp n k dv ha i
theorem mzF_row (s : State) (c comp : ClassId) (n k : Nat) (dv : Value) : ∀ i j, j < i → (mzF s c comp n k dv i).heap[s.heap.size + 1 + j]? = some (mzI comp k dv)
  | 0, _, h => absurd h (Nat.not_lt_zero _)
  | i + 1, j, h => by
    have f1 := (mzF_is s c comp n k dv i).1
    show (((mzF s c comp n k dv i).pushCell (mzI comp k dv)).setCell s.heap.size _).heap[s.heap.size + 1 + j]? = _
    rw [State.heap_setCell_other (show s.heap.size ≠ s.heap.size + 1 + j by omega)]
    by_cases hj : j < i
    · have hlt : s.heap.size + 1 + j < (mzF s c comp n k dv i).heap.size := by rw [f1]; omega
      rw [State.heap_pushCell_of_lt (h := hlt)]
      exact mzF_row s c comp n k dv i j hj
    · have e : j = i := by omega
      subst e
      rw [← f1]
      exact State.heap_pushCell_size _ _
theorem mz_ref {t : FieldType} (h : t.isReference = true) (v : Value) (hv : v = .null ∨ ∃ a, v = .ref a) : fits t v = true := by
  rcases hv with rfl | ⟨a, rfl⟩ <;> cases t <;> simp [FieldType.isReference] at h <;> rfl
variable {E : CtlPost} {e : Env} {d : Bool} {acts : List Action} {s : State}
theorem mz_new {c comp : ClassId} {k : Class} {ty : FieldType} {n : Nat} {init : Value} (hk : s.vm.classes[c]? = some k) (hkind : k.kind = .array comp ty) (hlimit : ¬ n > e.platform.arrayLengthLimit) (hheap : ¬ n * componentBytes ty > e.platform.maxHeapBytes) (hfit : fits ty init = true) (hdef : init.isDefault = true) {Q : Addr → Pre}
    (h1 : s.heap.size < e.platform.maxCells) (h2 : s.slotsUsed + n ≤ e.platform.maxSlots) (hq : Q s.heap.size d acts (s.pushCell { cls := c, slots := Array.replicate n init, vm := .none })) : wp (Jvm.newArray c n init) Q E e d acts s := by
  have hfits : ∀ i v, (Array.replicate n init)[i]? = some v → s.fitsSlot c .none i v = true := by
    intro i v hv
    simp only [Array.getElem?_replicate] at hv
    split at hv
    · cases hv; simp [State.fitsSlot, State.slotType?, hk, hkind, hfit]
    · cases hv
  have hda : allocActs (Array.replicate n init) s.heap.size acts = acts := by
    have hall : ((Array.replicate n init).all (·.isDefault)) = true := by
      rw [Array.all_replicate]; split <;> simp [hdef]
    unfold allocActs; rw [if_pos hall]
  simp only [Jvm.newArray, Jvm.arrayFits, wp_bind', W.ask, W.ite, hlimit, if_false, wp_pure', W.theClass, hk, hkind, hheap, W.alloc, W.stop, Option.some.injEq, exists_eq_left', Array.size_replicate, hda]
  rw [if_neg (by omega)]
  exact ⟨h1, h2, hfits, hq⟩
theorem mz_make1 {comp cc : ClassId} {kc : Class} {ty : FieldType} {k : Int32} (hkc : s.vm.classes[comp]? = some kc) (hkindc : kc.kind = .array cc ty) (hm : ¬ k < 0) (hl2 : ¬ k.toNatClampNeg > e.platform.arrayLengthLimit) (hh2 : ¬ k.toNatClampNeg * componentBytes ty > e.platform.maxHeapBytes) (hdf : fits ty (defaultValue ty) = true) (hdd : (defaultValue ty).isDefault = true) (h1 : s.heap.size < e.platform.maxCells) (h2 : s.slotsUsed + k.toNatClampNeg ≤ e.platform.maxSlots)
    {Q : Addr → Pre} (hq : Q s.heap.size d acts (s.pushCell (mzI comp k.toNatClampNeg (defaultValue ty)))) : wp (multianewarray.make comp [k]) Q E e d acts s := by
  rw [multianewarray.make]
  simp only [wp_bind', W.ite, hm, if_false, wp_pure', W.theClass, hkc, hkindc, Option.some.injEq, exists_eq_left']
  exact mz_new hkc hkindc hl2 hh2 hdf hdd h1 h2 hq
theorem mz_make2 {c comp cc : ClassId} {kA kc : Class} {t0 ty : FieldType} {n k : Int32} (hk : s.vm.classes[c]? = some kA) (hkind : kA.kind = .array comp t0) (href : t0.isReference = true) (hkc : s.vm.classes[comp]? = some kc) (hkindc : kc.kind = .array cc ty) (hn : ¬ n < 0) (hm : ¬ k < 0)
    (hl1 : ¬ n.toNatClampNeg > e.platform.arrayLengthLimit) (hh1 : ¬ n.toNatClampNeg * componentBytes t0 > e.platform.maxHeapBytes) (hl2 : ¬ k.toNatClampNeg > e.platform.arrayLengthLimit) (hh2 : ¬ k.toNatClampNeg * componentBytes ty > e.platform.maxHeapBytes) (hdf : fits ty (defaultValue ty) = true) (hdd : (defaultValue ty).isDefault = true)
    (hc : s.heap.size + 1 + n.toNatClampNeg ≤ e.platform.maxCells) (hs : s.slotsUsed + n.toNatClampNeg + n.toNatClampNeg * k.toNatClampNeg ≤ e.platform.maxSlots)
    {Q : Addr → Pre} (hq : ∀ d' acts', Q s.heap.size d' acts' (mzF s c comp n.toNatClampNeg k.toNatClampNeg (defaultValue ty) n.toNatClampNeg)) : wp (multianewarray.make c [n, k]) Q E e d acts s := by
  have hfind : ([k].find? (· < 0)) = none := by simp [hm]
  rw [multianewarray.make]
  simp only [wp_bind', W.ite, hn, if_false, wp_pure', W.theClass, hk, hkind, Option.some.injEq, exists_eq_left']
  refine mz_new hk hkind hl1 hh1 (mz_ref href _ (Or.inl rfl)) rfl (by omega) (by have := Nat.zero_le (n.toNatClampNeg * k.toNatClampNeg); omega) ?_
  rw [mzO_0 c n.toNatClampNeg s.heap.size]
  simp only [hfind]
  rw [ite_self, wp_bind', Std.Legacy.Range.forIn_eq_forIn_range']
  have hsz : ([:n.toNatClampNeg] : Std.Legacy.Range).size = n.toNatClampNeg := by simp [Std.Legacy.Range.size]
  rw [hsz]
  show wp (forIn (List.range' 0 n.toNatClampNeg 1) PUnit.unit _) _ E e d acts _
  refine wp_forIn_inv (fun rest s' => ∃ i, i ≤ n.toNatClampNeg ∧ rest = List.range' i (n.toNatClampNeg - i) ∧ s' = mzF s c comp n.toNatClampNeg k.toNatClampNeg (defaultValue ty) i) _ _ ⟨0, Nat.zero_le _, rfl, rfl⟩ ?_ ?_
  · rintro x rest s' d' acts' Q' ⟨i, hi, hl, rfl⟩ hnext
    have hlt : i < n.toNatClampNeg := by
      rcases Nat.lt_or_ge i n.toNatClampNeg with h | h
      · exact h
      · rw [show n.toNatClampNeg - i = 0 from by omega] at hl; simp at hl
    obtain ⟨rfl, hrest⟩ : x = i ∧ rest = List.range' (i + 1) (n.toNatClampNeg - (i + 1)) := by
      rw [show n.toNatClampNeg - i = (n.toNatClampNeg - (i + 1)) + 1 from by omega, List.range'_succ] at hl
      exact ⟨(List.cons.inj hl).1, (List.cons.inj hl).2⟩
    obtain ⟨f1, f2, f3, f4⟩ := mzF_is s c comp n.toNatClampNeg k.toNatClampNeg (defaultValue ty) x
    have hmul : x * k.toNatClampNeg + k.toNatClampNeg ≤ n.toNatClampNeg * k.toNatClampNeg := by
      have := Nat.mul_le_mul_right k.toNatClampNeg (show x + 1 ≤ n.toNatClampNeg from hlt)
      rw [Nat.succ_mul] at this; exact this
    simp only [wp_bind']
    refine mz_make1 (by rw [f3]; exact hkc) hkindc hm hl2 hh2 hdf hdd (by rw [f1]; omega) (by rw [f4]; omega) ?_
    have hlt0 : s.heap.size < (mzF s c comp n.toNatClampNeg k.toNatClampNeg (defaultValue ty) x).heap.size := by rw [f1]; omega
    simp only [wp_bind', W.writeLoc, wp_pure']
    refine ⟨mzO c n.toNatClampNeg s.heap.size x, by rw [State.heap_pushCell_of_lt (h := hlt0)]; exact f2, (fun h => (by cases h)), (by unfold mzO; rw [arrV_size]; exact hlt), ?_, hnext _ _ _ ⟨x + 1, hlt, hrest, ?_⟩⟩
    · show State.fitsSlot _ c .none x _ = true
      simp [State.fitsSlot, State.slotType?, f3, hk, hkind, mz_ref href _ (Or.inr ⟨_, rfl⟩)]
    · rw [f1]
      show (State.setCell _ _ ((mzO c n.toNatClampNeg s.heap.size x).setSlot x (.ref (s.heap.size + 1 + x)))) = _
      rw [mzO_s]
      rfl
  · rintro s' d' acts' ⟨i, hi, hl, rfl⟩
    have hiN : i = n.toNatClampNeg := by
      rcases Nat.lt_or_ge i n.toNatClampNeg with h | h
      · rw [show n.toNatClampNeg - i = (n.toNatClampNeg - (i + 1)) + 1 from by omega, List.range'_succ] at hl; cases hl
      · omega
    subst hiN
    simp only [wp_pure']
    exact hq _ _
end Mna
section MnaS
variable {p : Program} {l : Launch} {e : Env} {R : Room} {s : State} {m : MethodId} {args : Array Value} {below : List Frame} {meth : Method} {c : Code} {T : State} {locs : List Loc} {cells slots : Nat}
theorem mz_stand (X : Stand p l e R s m args below meth c T locs cells slots) (cA comp : ClassId) (n k : Nat) (dv : Value) : ∀ i, Stand p l e R s m args below meth c (mzF T cA comp n k dv i) (locs ++ (List.range i).map fun j => ⟨T.heap.size, j⟩) (cells + 1 + i) (slots + n + i * k)
  | 0 => by
    have h := X.pushed (mzO cA n T.heap.size 0)
    have e1 : (mzO cA n T.heap.size 0).slots.size = n := by unfold mzO; rw [arrV_size]
    rw [e1] at h
    simpa [mzF] using h
  | i + 1 => by
    have Xi := mz_stand X cA comp n k dv i
    obtain ⟨f1, f2, f3, f4⟩ := mzF_is T cA comp n k dv i
    have hlt0 : T.heap.size < (mzF T cA comp n k dv i).heap.size := by rw [f1]; omega
    have hcell : ((mzF T cA comp n k dv i).pushCell (mzI comp k dv)).heap[T.heap.size]? = some (mzO cA n T.heap.size i) := by rw [State.heap_pushCell_of_lt (h := hlt0)]; exact f2
    have h := (Xi.pushed (mzI comp k dv)).stored hcell i (.ref (T.heap.size + 1 + i))
    have e1 : (mzI comp k dv).slots.size = k := by simp [mzI]
    rw [e1, mzO_s] at h
    have e2 : (locs ++ (List.range (i + 1)).map fun j => (⟨T.heap.size, j⟩ : Loc)) = (locs ++ (List.range i).map fun j => (⟨T.heap.size, j⟩ : Loc)) ++ [⟨T.heap.size, i⟩] := by simp [List.range_succ, List.append_assoc]
    have e3 : slots + n + (i + 1) * k = slots + n + i * k + k := by rw [Nat.succ_mul]; omega
    rw [e2, e3]
    exact h
theorem mz_step (X : Stand p l e R s m args below meth c T locs cells slots) (hexec : p.tables.exec = Jvm.exec) {own : String} {index : Nat} {ty : FieldType}
    (hown : s.vm.findClass own = some m.cls) (hclink : (Cond.classLink own index ("[" ++ (FieldType.array ty).toString)).before args s = true) (hover : aoA ty s) (harr : (Cond.arrayClass ty).before args s = true)
    {g : JFrame} (hg : g.method = m) (hdg : decode c.code g.pc = .ok (.multianewarray index 2, 4)) {n k : Int32} {rest : List Value} (hstack : g.stack = .int k :: .int n :: rest)
    (hn : ¬ n < 0) (hk : ¬ k < 0) (hb1 : n.toNatClampNeg * 4 ≤ 536870912) (hb2 : k.toNatClampNeg * componentBytes ty ≤ 536870912) (hb3 : k.toNatClampNeg ≤ 536870912) (hdf : fits ty (defaultValue ty) = true) (hdd : (defaultValue ty).isDefault = true)
    (hcells : cells + (1 + n.toNatClampNeg) ≤ R.cells) (hslots : slots + (n.toNatClampNeg + n.toNatClampNeg * k.toNatClampNeg) ≤ R.slots) :
    ∃ (vm₁ : Vm) (cA comp : ClassId), s.vm.findClass ("[" ++ (FieldType.array ty).toString) = some cA ∧ s.vm.findClass (FieldType.array ty).toString = some comp ∧
      Stand p l e R s m args below meth c (mzF (T.setVm vm₁) cA comp n.toNatClampNeg k.toNatClampNeg (defaultValue ty) n.toNatClampNeg) (locs ++ (List.range n.toNatClampNeg).map fun j => ⟨T.heap.size, j⟩) (cells + 1 + n.toNatClampNeg) (slots + n.toNatClampNeg + n.toNatClampNeg * k.toNatClampNeg) ∧
      ∀ target, Steps p.tables e below ((mzF (T.setVm vm₁) cA comp n.toNatClampNeg k.toNatClampNeg (defaultValue ty) n.toNatClampNeg).setTop { g with pc := g.pc + 4, stack := .ref T.heap.size :: rest }) target → Steps p.tables e below (T.setTop g) target := by
  subst hg
  have hpl : e.platform.magicAccessors = ({} : Platform).magicAccessors := by rw [X.admits.platform]
  obtain ⟨comp, cA, kA, hcomp, -, hkA, hkindA, hnameA⟩ := aoA_spec hover
  obtain ⟨comp', kC, cc, hcomp', hkC, hkindC⟩ := Cond.arrayClass_spec harr
  have ecomp : comp' = comp := Option.some.inj (hcomp'.symm.trans hcomp)
  subst ecomp
  obtain ⟨c0, hfc0, hcl⟩ := Cond.classLink_spec hown hclink e.platform hpl
  cases hnameA.symm.trans hfc0
  obtain ⟨hg₁, hwarm₁, hready₁⟩ := State.classEntry (e := e) X.warmed hcl
  generalize T.vm.noted g.method.cls index (.cls cA) = vm₁ at hg₁ hwarm₁ hready₁
  have hal : s.vm.Alike vm₁ := hwarm₁.alike
  obtain ⟨kA₁, hkA₁, heA⟩ := hal.2.2 _ _ hkA
  obtain ⟨kC₁, hkC₁, heC⟩ := hal.2.2 _ _ hkC
  have hkindA₁ : kA₁.kind = .array comp' (.array ty) := by rw [heA]; exact hkindA
  have hkindC₁ : kC₁.kind = .array cc ty := by rw [heC]; exact hkindC
  have X₁ := X.noted hwarm₁
  obtain ⟨hr1, hr2⟩ := X.roomAbove hcells hslots
  refine ⟨vm₁, cA, comp', hnameA, hcomp, mz_stand X₁ cA comp' _ _ _ _, fun target hrest => ?_⟩
  have hl1 : ¬ n.toNatClampNeg > e.platform.arrayLengthLimit := by rw [Launch.admits_arrayLengthLimit X.admits]; omega
  have hh1 : ¬ n.toNatClampNeg * componentBytes (.array ty) > e.platform.maxHeapBytes := by
    rw [Launch.admits_maxHeapBytes X.admits]; show ¬ n.toNatClampNeg * 4 > 536870912; omega
  have hl2 : ¬ k.toNatClampNeg > e.platform.arrayLengthLimit := by rw [Launch.admits_arrayLengthLimit X.admits]; omega
  have hh2 : ¬ k.toNatClampNeg * componentBytes ty > e.platform.maxHeapBytes := by rw [Launch.admits_maxHeapBytes X.admits]; omega
  jvm_step X.here [hexec, hdg]
  simp only [multianewarray.sem, wp_bind', W.resolveClassAt_links (State.method?_setTop g X.here.top) hg₁]
  rw [W.popN, if_neg (by decide)]
  refine ⟨g, State.topJava?_setTop' (s := T.setVm vm₁) g X.here.top, [.int n, .int k], rest, rfl, hstack, ?_⟩
  simp only [List.mapM_cons, List.mapM_nil, wp_bind', wp_pure']
  refine mz_make2 (kA := kA₁) (kc := kC₁) (comp := comp') (cc := cc) (t0 := .array ty) (ty := ty) hkA₁ hkindA₁ rfl hkC₁ hkindC₁ hn hk hl1 hh1 hl2 hh2 hdf hdd (by show T.heap.size + 1 + _ ≤ _; omega) (by show T.slotsUsed + _ + _ ≤ _; omega) (fun d' acts' => ?_)
  have XF := mz_stand X₁ cA comp' n.toNatClampNeg k.toNatClampNeg (defaultValue ty) n.toNatClampNeg
  have eS : ((T.setTop g).setVm vm₁).setTop { g with stack := rest } = (T.setVm vm₁).setTop { g with stack := rest } := by
    show ((T.setVm vm₁).setTop g).setTop _ = _
    rw [State.setTop_setTop]
  rw [eS, mzF_top]
  simp only [wp_bind', W.mark, W.pushRef, State.topJava?_setTop' _ XF.here.top, Option.some.injEq, exists_eq_left', State.setTop_setTop, State.heap_setTop]
  intro acts
  simp [jvm, XF.here.top]
  exact hrest
end MnaS
theorem wO_inv {G : GT} {μ : Mem} {i : Nat} {q : Nat × va_E} (h : (wO G μ)[i]? = some q) : ∃ z : Nat × Nat, μ.1[i]? = some z ∧ q = (gN G + i, cO G z.1 z.2 (μ.2.2 i) (μ.2.1 i)) := by
  obtain ⟨sh, rf, f⟩ := μ
  have hl : i < sh.length := by
    have := (List.getElem?_eq_some_iff.mp h).1
    rwa [wO_len] at this
  obtain ⟨z, hz⟩ : ∃ z, sh[i]? = some z := ⟨_, List.getElem?_eq_getElem hl⟩
  obtain ⟨k, n⟩ := z
  rw [wO_get hz] at h
  exact ⟨(k, n), hz, (Option.some.inj h).symm⟩
/-- the references of an outer row -/
def urow (r : Rf) (o n : Nat) : Rf := fun a k => if a = o ∧ k < n then some (o + 1 + k) else r a k
theorem ev_mna {G : GT} {l : Launch} {M : MT} {R : Room} {Z : List Frame → Array Value → State → State → Prop} {cs sl pc : Nat} {L : List (Option AV)} {S : List AV} {sh : Sh} {rf : Rf} {f : Mm} {kO kI N K idx : Nat} {x y : Int} {ty : FieldType}
    (hkd : (kO = 4 ∧ kI = 0 ∧ ty = .int) ∨ (kO = 5 ∧ kI = 3 ∧ ty = .long)) (hd : decode (mC M) pc = .ok (.multianewarray idx 2, 4)) (hcl : Cond.classLink (mY M).cls idx ("[" ++ (FieldType.array ty).toString) ∈ tblG) (harr : Cond.arrayClass ty ∈ tblG) (hx : x = N) (hy : y = K) (hN : N < 10000) (hK : K < 10000) (hf : ∀ a, sh.length ≤ a → ∀ j, f a j = 0) (hr : ∀ a, sh.length ≤ a → ∀ j, rf a j = none) (hlen : sh.length + 1 + N ≤ 100000) (hc : cs + (1 + N) ≤ R.cells) (hsl : sl + (N + N * K) ≤ R.slots)
    (kk : Ev G l M R Z (cs + 1 + N) (sl + N + N * K) (pc + 4) L (vR sh.length :: S) (sh ++ (kO, N) :: List.replicate N (kI, K), urow rf sh.length N, f)) : Ev G l M R Z cs sl pc L (vI y :: vI x :: S) (sh, rf, f) := by
  intro p e s m args below meth c H locs ls C hs hS hw hn hl
  have hts := C.2.2.2.2.2.1
  subst hx
  subst hy
  have rK : r32 (K : Int) := n1 hn
  have rN : r32 (N : Int) := n1 (n2 hn)
  have cN : (i32 N).toNatClampNeg = N := by rw [i32_clamp rN]; simp
  have cK : (i32 K).toNatClampNeg = K := by rw [i32_clamp rK]; simp
  have ng : ∀ z : Nat, r32 (z : Int) → ¬ i32 z < 0 := fun z hz q => by
    rw [i32_0, i32_lt hz r32_0] at q
    omega
  have hov : aoA ty s := by
    rcases hkd with ⟨-, -, rfl⟩ | ⟨-, -, rfl⟩
    · exact hs.2.2.2.2.2.2.1
    · exact hs.2.2.2.2.2.2.2
  have hdv : fits ty (defaultValue ty) = true ∧ (defaultValue ty).isDefault = true ∧ componentBytes ty ≤ 8 := by
    rcases hkd with ⟨-, -, rfl⟩ | ⟨-, -, rfl⟩ <;> exact ⟨rfl, rfl, by decide⟩
  intro T hT X
  have hKb : K * componentBytes ty ≤ 536870912 := by
    have := Nat.mul_le_mul (Nat.le_of_lt hK) hdv.2.2
    omega
  obtain ⟨vm₁, cA, comp, fA, fC, X', step⟩ := mz_step X C.1 C.2.2.2.2.1 (hts _ hcl) hov (hts _ harr) (g := F0 m pc ls ((vI (K : Int) :: vI (N : Int) :: S).map (vO G))) rfl (by rw [C.2.1]; exact hd) (n := i32 N) (k := i32 K) (rest := S.map (vO G)) rfl (ng N rN) (ng K rK) (by rw [cN]; omega) (by rw [cK]; exact hKb) (by rw [cK]; omega) hdv.1 hdv.2.1 (by rw [cN]; exact hc) (by rw [cN, cK]; exact hsl)
  rw [cN, cK] at X' step
  obtain ⟨f1, f2, -, -⟩ := mzF_is (T.setVm vm₁) cA comp N K (defaultValue ty) N
  have hTh : (T.setVm vm₁).heap = H := hT
  rw [hTh] at f1 f2
  have hsz : H.size = gN G + sh.length := hw.2.1
  generalize hF : mzF (T.setVm vm₁) cA comp N K (defaultValue ty) N = F at X' step f1 f2
  have fo : ∀ a : Nat, a < H.size → F.heap[a]? = H[a]? := fun a ha => by
    have := mzF_old (T.setVm vm₁) cA comp N K (defaultValue ty) (a := a) (by rw [hTh]; exact ha) N
    rw [hF, hTh] at this
    exact this
  have fr : ∀ j : Nat, j < N → F.heap[H.size + 1 + j]? = some (mzI comp K (defaultValue ty)) := fun j hj => by
    have := mzF_row (T.setVm vm₁) cA comp N K (defaultValue ty) N j hj
    rw [hF, hTh] at this
    exact this
  have hcA : cA = gC G kO := by
    rcases hkd with ⟨rfl, -, rfl⟩ | ⟨rfl, -, rfl⟩
    · exact Option.some.inj (fA.symm.trans (hs.1.2 4 _ rfl).2)
    · exact Option.some.inj (fA.symm.trans (hs.1.2 5 _ rfl).2)
  have hcC : comp = gC G kI := by
    rcases hkd with ⟨-, rfl, rfl⟩ | ⟨-, rfl, rfl⟩
    · exact Option.some.inj (fC.symm.trans (hs.1.2 0 _ rfl).2)
    · exact Option.some.inj (fC.symm.trans (hs.1.2 3 _ rfl).2)
  have hwn : Wh G (sh ++ (kO, N) :: List.replicate N (kI, K), urow rf sh.length N, f) F.heap := by
    refine ⟨fun i q hq => ?_, by rw [f1, hsz]; simp; omega, fun a q ha j => ?_, by simp; omega⟩
    · obtain ⟨z, hz, rfl⟩ := wO_inv hq
      have hz' : (sh ++ (kO, N) :: List.replicate N (kI, K))[i]? = some z := hz
      by_cases h1 : i < sh.length
      · rw [List.getElem?_append_left h1] at hz'
        have ho : urow rf sh.length N i = rf i := by
          funext k
          unfold urow
          rw [if_neg (by omega)]
        show va_at (gD G) kls (gN G + i, cO G z.1 z.2 (f i) (urow rf sh.length N i)) F.heap
        rw [ho]
        exact (hw.1 i _ (wO_get (k := z.1) (n := z.2) hz')).kept (fo (gN G + i) (by omega))
      · rw [List.getElem?_append_right (by omega)] at hz'
        by_cases h2 : i = sh.length
        · subst h2
          rw [Nat.sub_self] at hz'
          cases hz'
          have e1 : cO G kO N (f sh.length) (urow rf sh.length N sh.length) = .inl (gC G kO, N, .inr (.inr (.inr (.inr (fun j => rO G (urow rf sh.length N sh.length j)))))) := by
            rcases hkd with ⟨rfl, -⟩ | ⟨rfl, -⟩ <;> rfl
          show va_at (gD G) kls (gN G + sh.length, cO G kO N (f sh.length) (urow rf sh.length N sh.length)) F.heap
          rw [e1]
          show F.heap[gN G + sh.length]? = some (vp_cell _ _)
          rw [← hsz, f2, hcA, vp_cell_q]
          unfold mzO
          congr 2
          funext j
          unfold urow
          by_cases hj : j < N
          · rw [if_pos hj, if_pos ⟨rfl, hj⟩]
            simp only [rO, Option.map_some]
            rw [aO_lt (by omega), hsz]
            congr 1
            simp
            omega
          · rw [if_neg hj, if_neg (fun q => hj q.2), hr sh.length (Nat.le_refl _) j]
            rfl
        · obtain ⟨j, rfl⟩ : ∃ j, i = sh.length + 1 + j := ⟨i - sh.length - 1, by omega⟩
          rw [show sh.length + 1 + j - sh.length = j + 1 by omega, List.getElem?_cons_succ, List.getElem?_replicate] at hz'
          by_cases hj : j < N
          · rw [if_pos hj] at hz'
            cases hz'
            have e1 : F.heap[gN G + (sh.length + 1 + j)]? = some (mzI comp K (defaultValue ty)) := by
              rw [show gN G + (sh.length + 1 + j) = H.size + 1 + j by omega]
              exact fr j hj
            have hfz : f (sh.length + 1 + j) = fun _ => 0 := funext (hf _ (by omega))
            show va_at (gD G) kls (gN G + (sh.length + 1 + j), cO G kI K (f (sh.length + 1 + j)) (urow rf sh.length N (sh.length + 1 + j))) F.heap
            rw [hfz]
            rcases hkd with ⟨-, rfl, rfl⟩ | ⟨-, rfl, rfl⟩
            · show F.heap[gN G + (sh.length + 1 + j)]? = some (vp_cell _ _)
              rw [e1, hcC]
              unfold mzI
              rw [arrV_new]
              rfl
            · show F.heap[gN G + (sh.length + 1 + j)]? = some (vp_cell _ _)
              rw [e1, hcC]
              unfold mzI
              rw [arrV_new]
              rfl
          · rw [if_neg hj] at hz'
            cases hz'
    · have ha' : (sh ++ (kO, N) :: List.replicate N (kI, K))[a]? = some q := ha
      by_cases h1 : a < sh.length
      · rw [List.getElem?_append_left h1] at ha'
        exact hw.2.2.1 a q ha' j
      · show nk q.1 j (f a j)
        rw [hf a (by omega) j]
        exact nk_zero _ _
  have hS' : va_S (gA G) s.heap F.heap (locs ++ (List.range N).map fun j => ⟨T.heap.size, j⟩) := ⟨by have := hS.1; omega, fun q g1 g2 => (fo q (Nat.lt_of_lt_of_le g1 hS.1)).trans (hS.2.1 q g1 g2), fun q hq => by
    rcases List.mem_append.mp hq with h | h
    · exact hS.2.2 q h
    · obtain ⟨j, -, rfl⟩ := List.mem_map.mp h
      show gN G ≤ T.heap.size
      rw [hT, hsz]
      omega⟩
  have h := kk p e s m args below meth c F.heap _ ls C hs hS' hwn (nc trivial (n2 (n2 hn))) hl F rfl X'
  obtain ⟨t, a1, b1⟩ := h
  rw [st_new (H := H) (by omega) hsz, ← hT] at a1
  exact ⟨t, step t a1, b1⟩

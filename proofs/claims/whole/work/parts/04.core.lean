/-! the words of a small machine: values, memory, worlds -/
abbrev AV : Type := Int ⊕ (Int ⊕ Nat)
abbrev vI (x : Int) : AV := .inl x
abbrev vJ (x : Int) : AV := .inr (.inl x)
abbrev vR (a : Nat) : AV := .inr (.inr a)
/-- of a cell: its kind (0 int row, 1 byte row, 2 boolean row, 3 long row, 4 rows of ints, 5 rows of longs, 6 row of bridges, 10 and on objects), its length -/
abbrev Sh : Type := List (Nat × Nat)
abbrev Rf : Type := Nat → Nat → Option Nat
abbrev Mm : Type := Nat → Nat → Int
abbrev Mem : Type := Sh × (Rf × Mm)
/-- what is fixed in a run: numbers of kinds and slots, where the cells begin, the script, the texts, the kinds of rows -/
abbrev GT : Type := va_G × (Nat × ((Nat × (Nat × (Nat → Int32))) × (((Nat → Nat) × (Nat → Nat)) × (Nat → ClassId))))
abbrev gD (G : GT) : va_G := G.1
abbrev gN (G : GT) : Nat := G.2.1
abbrev gB (G : GT) : Nat := G.2.2.1.1
abbrev gL (G : GT) : Nat := G.2.2.1.2.1
abbrev gX (G : GT) : Nat → Int32 := G.2.2.1.2.2
abbrev gK (G : GT) : Nat → Nat := G.2.2.2.1.1
abbrev gV (G : GT) : Nat → Nat := G.2.2.2.1.2
abbrev gC (G : GT) : Nat → ClassId := G.2.2.2.2
def gA (G : GT) : Nat → Prop := fun q => gN G ≤ q
/-- the address of a told cell: below 100000 a cell of the world, 100000 the script, above: the texts -/
def aO (G : GT) (a : Nat) : Nat := if a < 100000 then gN G + a else if a = 100000 then gB G else if a < 200000 then gK G (a - 100001) else gV G (a - 200000)
def vO (G : GT) : AV → Value
  | .inl x => .int (i32 x)
  | .inr (.inl x) => .long (i64 x)
  | .inr (.inr a) => .ref (aO G a)
def rO (G : GT) (r : Option Nat) : Option Nat := r.map (aO G)
/-- the type of a field: 0 int, 1 long, 2 a reference, 3 boolean -/
def tcode : FieldType → Nat
  | .int => 0
  | .long => 1
  | .boolean => 3
  | _ => 2
def ftab (ci : Nat) : Nat → FieldType := match ci with
  | 0 => tyX0
  | 1 => tyX1
  | 2 => tyX2
  | 3 => tyX3
  | 4 => tyX4
  | 5 => tyX5
  | 6 => tyX6
  | 7 => tyX7
  | 8 => tyX8
  | 9 => tyX9
  | 10 => tyX10
  | _ => tyX11
def fty (ci k : Nat) : Nat := tcode (ftab ci k)
def fO (G : GT) (t : Nat) (x : Int) (r : Option Nat) : Value := match t with
  | 1 => .long (i64 x)
  | 2 => va_rf (rO G r)
  | _ => .int (i32 x)
def cO (G : GT) (k n : Nat) (f : Nat → Int) (r : Nat → Option Nat) : va_E :=
  if k < 3 then .inl (gC G k, n, .inl (fun j => i32 (f j)))
  else if k = 3 then .inl (gC G k, n, .inr (.inl (fun j => i64 (f j))))
  else if k < 10 then .inl (gC G k, n, .inr (.inr (.inr (.inr (fun j => rO G (r j))))))
  else .inr (k - 10, (List.range n).map (fun j => fO G (fty (k - 10) j) (f j) (r j)))
def wO (G : GT) (μ : Mem) : va_W := (List.range μ.1.length).map (fun a => (gN G + a, cO G (μ.1.getD a (0, 0)).1 (μ.1.getD a (0, 0)).2 (μ.2.2 a) (μ.2.1 a)))
def tO (G : GT) : List (ClassId × FieldType) := [(gC G 0, .int), (gC G 1, .byte), (gC G 2, .boolean), (gC G 3, .long), (gC G 4, .array .int), (gC G 5, .array .long), (gC G 6, .object RX0)]
/-- what numbers a cell of a kind may hold at a place -/
def nk (k j : Nat) (x : Int) : Prop :=
  if k = 1 then -128 ≤ x ∧ x < 128 else if k = 2 then x = 0 ∨ x = 1 else if k = 3 then r64 x else if k < 10 then r32 x
  else if fty (k - 10) j = 1 then r64 x else if fty (k - 10) j = 3 then x = 0 ∨ x = 1 else r32 x
def nM (μ : Mem) : Prop := ∀ a : Nat, ∀ q : Nat × Nat, μ.1[a]? = some q → ∀ j : Nat, nk q.1 j (μ.2.2 a j)
def nV : AV → Prop
  | .inl x => r32 x
  | .inr (.inl x) => r64 x
  | .inr (.inr _) => True
/-- the heap holds the memory -/
def Wh (G : GT) (μ : Mem) (H : Heap) : Prop := va_P (gD G) kls (wO G μ) H ∧ H.size = gN G + μ.1.length ∧ nM μ ∧ μ.1.length ≤ 100000
/-- the texts -/
def txS : List (Nat × String) := [(61, "bridge"), (67, "days"), (79, "feels"), (81, "cools"), (86, "odds"), (43, "deed"), (101, "by"), (103, "costs"), (105, "takes"), (107, "gives"), (109, "cart"), (117, "on"), (119, "wide"), (121, "from"), (123, "due"), (125, "pays")]
def lenS : List Nat := [6, 4, 5, 5, 4, 4, 2, 5, 5, 5, 4, 2, 4, 4, 3, 4]
def bytS : List (List Int32) := [[98, 114, 105, 100, 103, 101], [100, 97, 121, 115], [102, 101, 101, 108, 115], [99, 111, 111, 108, 115], [111, 100, 100, 115], [100, 101, 101, 100], [98, 121], [99, 111, 115, 116, 115], [116, 97, 107, 101, 115], [103, 105, 118, 101, 115], [99, 97, 114, 116], [111, 110], [119, 105, 100, 101], [102, 114, 111, 109], [100, 117, 101], [112, 97, 121, 115]]
/-- links of nest mates -/
def nstW : List Cond := [.methodLinkNest RX10 9 yX4_init RX10, .methodLinkNest RX4 17 yX7_init RX10, .methodLinkNest RX10 18 yX0_init RX10, .methodLinkNest RX10 43 yX1_init RX10, .methodLinkNest RX10 50 yX3_init RX10, .methodLinkNest RX10 57 yX2_init RX10, .methodLinkNest RX10 64 yX5_init RX10, .methodLinkNest RX10 71 yX9_init RX10, .methodLinkNest RX1 85 yX10_bounded RX10, .methodLinkNest RX1 74 yX10_holds RX10, .methodLinkNest RX0 77 yX10_holds RX10, .methodLinkNest RX3 114 yX10_holds RX10, .methodLinkNest RX6 27 yX10_holds RX10, .methodLinkNest RX8 33 yX10_holds RX10]
/-- rows over rows of a type are there -/
def aoA (t : FieldType) (U : State) : Prop := (Cond.arrayOver (.array t)).before #[] U = true
theorem aoA_spec {t : FieldType} {U : State} (h : aoA t U) : ∃ (comp c : ClassId) (k : Class), U.vm.findClass (FieldType.array t).toString = some comp ∧ (U.vm.classes.findIdx? fun (x : Class) => match x.kind with | .array component _ => component == comp | _ => false) = some c ∧ U.vm.classes[c]? = some k ∧ k.kind = .array comp (.array t) ∧ U.vm.findClass ("[" ++ (FieldType.array t).toString) = some c := by
  unfold aoA Cond.before at h
  simp only [Cond.holds, Cond.value, beq_iff_eq] at h
  cases hc : U.vm.findClass (FieldType.array t).toString with
  | none => simp [hc] at h
  | some comp =>
    simp only [hc, Option.bind_some, Option.bind_eq_some_iff, Option.map_eq_some_iff] at h
    obtain ⟨c, hi, k, hk, hb⟩ := h
    obtain ⟨hlt, hp, -⟩ := Array.findIdx?_eq_some_iff_getElem.mp hi
    have hkk : U.vm.classes[c] = k := (Array.getElem?_eq_some_iff.mp hk).2
    rw [hkk] at hp
    cases hkind : k.kind with
    | array component ty =>
      rw [hkind] at hb hp
      simp at hb hp
      exact ⟨comp, c, k, rfl, hi, hk, by rw [hkind, hp, hb.1], hb.2⟩
    | _ => rw [hkind] at hb; simp at hb
theorem aoA_bare (vm : Vm) (comp : ClassId) : (vm.bare.classes.findIdx? fun (x : Class) => match x.kind with | .array component _ => component == comp | _ => false) = (vm.classes.findIdx? fun (x : Class) => match x.kind with | .array component _ => component == comp | _ => false) := by
  simp only [Vm.bare, Array.findIdx?_map]
  rfl
theorem aoA_moved {t : FieldType} {u U : State} (hvm : u.vm.Alike U.vm) (h : aoA t u) : aoA t U := by
  obtain ⟨comp, c, k, h1, h2, h3, h4, h5⟩ := aoA_spec h
  obtain ⟨k', hk', he⟩ := hvm.2.2 _ _ h3
  have hi : (U.vm.classes.findIdx? fun (x : Class) => match x.kind with | .array component _ => component == comp | _ => false) = some c := by
    rw [← aoA_bare]
    first | rw [hvm.bare_eq] | rw [← hvm.bare_eq]
    rw [aoA_bare]
    exact h2
  have hkind : k'.kind = .array comp (.array t) := by rw [he]; exact h4
  have f1 : U.vm.findClass (FieldType.array t).toString = some comp := by rw [hvm.findClass]; exact h1
  have f2 : U.vm.findClass ("[" ++ (FieldType.array t).toString) = some c := by rw [hvm.findClass]; exact h5
  unfold aoA Cond.before Cond.holds
  simp only [Cond.value]
  rw [f1, Option.bind_some]
  refine (congrArg (fun o : Option Nat => (o.bind (fun c => (U.vm.classes[c]?).map fun (k : Class) => match k.kind with | .array _ ty => decide (ty = FieldType.array t) && decide (U.vm.findClass ("[" ++ (FieldType.array t).toString) = some c) | _ => false) == some true)) hi).trans ?_
  simp [hk', hkind, f2]
/-- what holds of the start of every method: it lasts -/
def St (G : GT) (U : State) : Prop :=
  va_K (gD G) kls (tO G) U ∧ (va_X (gB G) (gL G) (gX G) U U.heap ∧ gB G < gN G ∧ gL G ≤ 3072) ∧ gN G ≤ U.heap.size ∧ (∀ w ∈ nstW, va_Nw w U) ∧
  (vk_S 16 lenS bytS (gK G) (gV G) (gA G) U U.heap ∧ (∀ (i : Nat) (q : Nat × String), txS[i]? = some q → vk_R RX4 q.1 q.2 (gK G i) U) ∧ va_Z "java/lang/String" "COMPACT_STRINGS" "Z" (.int 1) (gA G) U U.heap ∧ va_Zq "jdk/internal/util/Preconditions" "SIOOBE_FORMATTER" "Ljava/util/function/BiFunction;" (gA G) U U.heap) ∧
  (va_AO RX0 U ∧ aoA .int U ∧ aoA .long U)
theorem St.go {G : GT} {s U : State} (h : St G s) (hW : s.WarmedH U.vm) {locs : List Loc} (hS : va_S (gA G) s.heap U.heap locs) : St G U := by
  obtain ⟨h1, ⟨h2, h3, h4⟩, h5, h6, ⟨h7, h8, h9, h9b⟩, h10, h11, h12⟩ := h
  have hal := hW.alike
  refine ⟨va_K.moved hal h1, ⟨(va_X.moved hal h2).kept (hS.2.1 _ (by omega) (fun q => by unfold gA at q; omega)), h3, h4⟩, Nat.le_trans h5 hS.1, fun w hw => ?_, ⟨(vk_S.moved hal h7).kept hS.2.1, fun i q hq => vk_R.warm hW (h8 i q hq), (va_Z.moved hal h9).kept hS.2.1, (va_Zq.moved hal h9b).kept hS.2.1⟩, va_AO.moved hal h10, aoA_moved hal h11, aoA_moved hal h12⟩
  have := h6 w hw
  simp only [nstW, List.mem_cons, List.not_mem_nil, or_false] at hw
  rcases hw with rfl | rfl | rfl | rfl | rfl | rfl | rfl | rfl | rfl | rfl | rfl | rfl | rfl | rfl <;> exact va_Nw.warmM hW this
theorem St.calling {G : GT} {U : State} (h : St G U) (g : JFrame) (mk : MethodId) (a : Array Value) : St G (U.calling g mk a) := by
  obtain ⟨h1, ⟨h2, h3, h4⟩, h5, h6, ⟨h7, h8, h9, h9b⟩, h10, h11, h12⟩ := h
  have hal : U.vm.Alike (U.calling g mk a).vm := Vm.Alike.refl U.vm
  refine ⟨va_K.moved hal h1, ⟨va_X.moved hal h2, h3, h4⟩, h5, fun w hw => ?_, ⟨vk_S.moved hal h7, fun i q hq => vk_R.same rfl (h8 i q hq), va_Z.moved hal h9, va_Zq.moved hal h9b⟩, va_AO.moved hal h10, aoA_moved hal h11, aoA_moved hal h12⟩
  have := h6 w hw
  simp only [nstW, List.mem_cons, List.not_mem_nil, or_false] at hw
  rcases hw with rfl | rfl | rfl | rfl | rfl | rfl | rfl | rfl | rfl | rfl | rfl | rfl | rfl | rfl <;> exact va_Nw.same rfl rfl this
/-- a method: its name, bytes, locals, answer -/
abbrev MT : Type := MethodName × (ByteArray × (Nat × Option FieldType))
abbrev mY (M : MT) : MethodName := M.1
abbrev mC (M : MT) : ByteArray := M.2.1
abbrev mL (M : MT) : Nat := M.2.2.1
abbrev mR (M : MT) : Option FieldType := M.2.2.2
def CF (p : Program) (s : State) (m : MethodId) (args : Array Value) (meth : Method) (c : Code) (M : MT) : Prop :=
  p.tables.exec = Jvm.exec ∧ c.code = mC M ∧ meth.sig.returnType = mR M ∧ c.maxLocals = mL M ∧ s.vm.findClass (mY M).cls = some m.cls ∧ (∀ w ∈ tblG, w.before args s = true) ∧ meth.locks = false ∧ meth.name = (mY M).name
/-- the locals -/
def LR (G : GT) (ls : Array Slot) (n : Nat) (L : List (Option AV)) : Prop := ls.size = n ∧ lv_wf ls ∧ L.length = n ∧ (∀ (i : Nat) (v : AV), L[i]? = some (some v) → ls[i]? = some (.val (vO G v))) ∧ ∀ (i : Nat) (v : AV), L[i]? = some (some v) → nV v
def Ev (G : GT) (l : Launch) (M : MT) (R : Room) (Z : List Frame → Array Value → State → State → Prop) (cs sl : Nat) (pc : Nat) (L : List (Option AV)) (S : List AV) (μ : Mem) : Prop :=
  ∀ (p : Program) (e : Env) (s : State) (m : MethodId) (args : Array Value) (below : List Frame) (meth : Method) (c : Code) (H : Heap) (locs : List Loc) (ls : Array Slot),
    CF p s m args meth c M → St G s → va_S (gA G) s.heap H locs → Wh G μ H → (∀ v ∈ S, nV v) → LR G ls (mL M) L →
    W p l e R s m args below meth c H locs cs sl (Z below args s) (F0 m pc ls (S.map (vO G)))
def Rm (d mc ms : Nat) : Room := { frames := d, cells := mc, slots := ms, locals := 40 * d }
def wsM (M : MT) : List Cond := .code (mY M) (mC M) (mL M) (mR M) :: tblG
def Pcc (G : GT) (av : List AV) (μ : Mem) : Array Value → State → Prop := fun a U => a = (av.map (vO G)).toArray ∧ St G U ∧ Wh G μ U.heap ∧ ∀ v ∈ av, nV v
def Qcc (G : GT) (Q : Option AV → Mem → Prop) : Array Value → State → Outcome → State → Prop := fun _ st o t => (∃ (r : Option AV) (μ : Mem), o = .returned (r.map (vO G)) ∧ Q r μ ∧ Wh G μ t.heap ∧ ∀ v, r = some v → nV v) ∧ va_F (gA G) st t
/-- the contract of a method at one start -/
def Ret (G : GT) (l : Launch) (M : MT) (d mc ms : Nat) (av : List AV) (μ : Mem) (Q : Option AV → Mem → Prop) : Prop := Met l (mY M) (wsM M) (Rm d mc ms) (Pcc G av μ) (Qcc G Q) mc ms (gA G)
/-- the end of a method -/
def ZM (G : GT) (Q : Option AV → Mem → Prop) (mc ms : Nat) : List Frame → Array Value → State → State → Prop := fun below args s => MQ below (Qcc G Q) args s mc ms (gA G)
theorem wO_len (G : GT) (μ : Mem) : (wO G μ).length = μ.1.length := by simp [wO]
theorem wO_get {G : GT} {sh : Sh} {rf : Rf} {f : Mm} {a k n : Nat} (h : sh[a]? = some (k, n)) : (wO G (sh, rf, f))[a]? = some (gN G + a, cO G k n (f a) (rf a)) := by
  have hl : a < sh.length := (List.getElem?_eq_some_iff.mp h).1
  simp only [wO, List.getElem?_map, List.getElem?_range hl, Option.map_some]
  simp [List.getD_eq_getElem?_getD, h]
theorem wO_D (G : GT) (μ : Mem) : va_D (gA G) (wO G μ) := by
  have key : ∀ (i : Nat) (p : Nat × va_E), (wO G μ)[i]? = some p → p.1 = gN G + i := by
    intro i p h
    have hl : i < μ.1.length := by
      have := (List.getElem?_eq_some_iff.mp h).1
      rwa [wO_len] at this
    simp only [wO, List.getElem?_map, List.getElem?_range hl, Option.map_some] at h
    cases h
    rfl
  refine ⟨fun i j p q hp hq he => ?_, fun k q hq => ?_⟩
  · have h1 := key i p hp
    have h2 := key j q hq
    omega
  · have h1 := key k q hq
    unfold gA
    omega
/-- one number of the memory -/
def up (f : Mm) (a i : Nat) (x : Int) : Mm := fun b j => if b = a ∧ j = i then x else f b j
theorem wO_set {G : GT} {sh : Sh} {rf : Rf} {f g : Mm} {a k n : Nat} (h : sh[a]? = some (k, n)) (hg : ∀ b, b ≠ a → g b = f b) : (wO G (sh, rf, f)).set a (gN G + a, cO G k n (g a) (rf a)) = wO G (sh, rf, g) := by
  have hl : a < sh.length := (List.getElem?_eq_some_iff.mp h).1
  apply List.ext_getElem?
  intro i
  by_cases hi : i = a
  · subst hi
    rw [List.getElem?_set_self (by rw [wO_len]; exact hl), wO_get h]
  · rw [List.getElem?_set_ne (Ne.symm hi)]
    by_cases hil : i < sh.length
    · obtain ⟨q, hq⟩ : ∃ q, sh[i]? = some q := ⟨_, List.getElem?_eq_getElem hil⟩
      obtain ⟨k', n'⟩ := q
      rw [wO_get hq, wO_get hq, hg i hi]
    · rw [List.getElem?_eq_none (by rw [wO_len]; exact Nat.not_lt.mp hil), List.getElem?_eq_none (by rw [wO_len]; exact Nat.not_lt.mp hil)]

theorem mco_max : Cond.code Lib.Math.max.name Lib.Math.max.code 2 (some .int) ∈ tblG := tg_3 103 rfl rfl
theorem mst_max : Cond.static Lib.Math.max.name ∈ tblG := tg_3 102 rfl rfl
theorem mco_min : Cond.code Lib.Math.min.name Lib.Math.min.code 2 (some .int) ∈ tblG := tg_2 186 rfl rfl
theorem mst_min : Cond.static Lib.Math.min.name ∈ tblG := tg_2 185 rfl rfl
theorem mco_abs : Cond.code Lib.Math.abs.name Lib.Math.abs.code 1 (some .int) ∈ tblG := tg_4 87 rfl rfl
theorem mst_abs : Cond.static Lib.Math.abs.name ∈ tblG := tg_4 86 rfl rfl
theorem min_i : Cond.initialized "java/lang/Math" ∈ tblG := tg_1 12 rfl rfl
def jMax (x y : Int) : Int := if x < y then y else x
def jMin (x y : Int) : Int := if y < x then y else x
def jAbs (x : Int) : Int := if 0 ≤ x then x else w32 (0 - x)
section MathR
variable {G : GT} {l : Launch} {M : MT} {R : Room} {Z : List Frame → Array Value → State → State → Prop} {cs sl pc : Nat} {L : List (Option AV)} {S : List AV} {μ : Mem} {idx : Nat}
theorem ev_mmax {x y : Int} (hd : decode (mC M) pc = .ok (.invokestatic idx, 3)) (hlk : Cond.methodLink (mY M).cls idx Lib.Math.max.name ∈ tblG) (h1 : 1 ≤ R.frames) (h2 : ((S.map (vO G)).map fun v => v.category).sum + 13 ≤ R.locals) (h3 : cs ≤ R.cells) (h4 : sl ≤ R.slots) (kk : Ev G l M R Z cs sl (pc + 3) L (vI (jMax x y) :: S) μ) : Ev G l M R Z cs sl pc L (vI y :: vI x :: S) μ := by
  intro p e s m args below meth c H locs ls C hs hS hw hn hl
  have hts := C.2.2.2.2.2.1
  have hr : r32 (jMax x y) := by
    unfold jMax
    split
    · exact n1 hn
    · exact n1 (n2 hn)
  have h := kk p e s m args below meth c H locs ls C hs hS hw (nc hr (n2 (n2 hn))) hl
  refine va_mmax C.1 C.2.1 (C.2.2.2.1.trans hl.1.symm) C.2.2.2.2.1 (hts _ hlk) (hts _ mst_max) (hts _ min_i) (hts _ mco_max) h1 h2 h3 h4 (x := i32 x) (y := i32 y) hd ?_
  have e1 : (if i32 x < i32 y then i32 y else i32 x) = i32 (jMax x y) := by
    unfold jMax
    simp only [i32_lt (n1 (n2 hn)) (n1 hn)]
    split <;> rfl
  rw [e1]
  exact h
theorem ev_mmin {x y : Int} (hd : decode (mC M) pc = .ok (.invokestatic idx, 3)) (hlk : Cond.methodLink (mY M).cls idx Lib.Math.min.name ∈ tblG) (h1 : 1 ≤ R.frames) (h2 : ((S.map (vO G)).map fun v => v.category).sum + 13 ≤ R.locals) (h3 : cs ≤ R.cells) (h4 : sl ≤ R.slots) (kk : Ev G l M R Z cs sl (pc + 3) L (vI (jMin x y) :: S) μ) : Ev G l M R Z cs sl pc L (vI y :: vI x :: S) μ := by
  intro p e s m args below meth c H locs ls C hs hS hw hn hl
  have hts := C.2.2.2.2.2.1
  have hr : r32 (jMin x y) := by
    unfold jMin
    split
    · exact n1 hn
    · exact n1 (n2 hn)
  have h := kk p e s m args below meth c H locs ls C hs hS hw (nc hr (n2 (n2 hn))) hl
  refine va_mmin C.1 C.2.1 (C.2.2.2.1.trans hl.1.symm) C.2.2.2.2.1 (hts _ hlk) (hts _ mst_min) (hts _ min_i) (hts _ mco_min) h1 h2 h3 h4 (x := i32 x) (y := i32 y) hd ?_
  have e1 : (if i32 y < i32 x then i32 y else i32 x) = i32 (jMin x y) := by
    unfold jMin
    simp only [i32_lt (n1 hn) (n1 (n2 hn))]
    split <;> rfl
  rw [e1]
  exact h
theorem ev_mabs {x : Int} (hd : decode (mC M) pc = .ok (.invokestatic idx, 3)) (hlk : Cond.methodLink (mY M).cls idx Lib.Math.abs.name ∈ tblG) (h1 : 1 ≤ R.frames) (h2 : ((S.map (vO G)).map fun v => v.category).sum + 13 ≤ R.locals) (h3 : cs ≤ R.cells) (h4 : sl ≤ R.slots) (kk : Ev G l M R Z cs sl (pc + 3) L (vI (jAbs x) :: S) μ) : Ev G l M R Z cs sl pc L (vI x :: S) μ := by
  intro p e s m args below meth c H locs ls C hs hS hw hn hl
  have hts := C.2.2.2.2.2.1
  have hr : r32 (jAbs x) := by
    unfold jAbs
    split
    · exact n1 hn
    · exact w32_r _
  have h := kk p e s m args below meth c H locs ls C hs hS hw (nc hr (n2 hn)) hl
  refine va_mabs C.1 C.2.1 (C.2.2.2.1.trans hl.1.symm) C.2.2.2.2.1 (hts _ hlk) (hts _ mst_abs) (hts _ min_i) (hts _ mco_abs) h1 h2 h3 h4 (x := i32 x) hd ?_
  have e1 : (if 0 ≤ i32 x then i32 x else 0 - i32 x) = i32 (jAbs x) := by
    unfold jAbs
    simp only [i32_0, i32_le r32_0 (n1 hn), i32_sub]
    split <;> rfl
  rw [e1]
  exact h
end MathR

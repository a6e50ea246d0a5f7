/-! what both compute, over the model's cells -/
theorem up_eq (f : Mm) (a i : Nat) (x : Int) (b j : Nat) : up f a i x b j = if b = a ∧ j = i then x else f b j := rfl
theorem b2_some {β : Type} (x : Int) (f : Mm) (K : Int → Mm → Option β) : b2 (some (x, f)) K = K x f := rfl
theorem w32s {x : Int} (h : -2147483648 ≤ x) (h2 : x < 2147483648) : w32 x = x := w32_of ⟨h, h2⟩
theorem w64s {x : Int} (h : -9223372036854775808 ≤ x) (h2 : x < 9223372036854775808) : w64 x = x := w64_of ⟨h, h2⟩
/-- a feeling within its bounds -/
def clp (x : Int) : Int := if x < 0 then 0 else if 60 < x then 60 else x
theorem clp_r (x : Int) : 0 ≤ clp x ∧ clp x ≤ 60 := by unfold clp; split <;> (try split) <;> omega
theorem clp_lo {x : Int} (h : x ≤ 60) : clp x = jMax 0 x := by unfold clp jMax; split <;> (try split) <;> omega
/-- days, feelings, cooling, odds, deeds, carts, acts of the model's bridge -/
def bD (f : Mm) : Int := f 157 0
def bA (f : Mm) : Int := f 157 7
/-- the model's bridge is well told -/
def WB (f : Mm) : Prop :=
  (0 ≤ f 157 0 ∧ f 157 0 ≤ 6) ∧ (0 ≤ f 157 1 ∧ f 157 1 ≤ 60) ∧ (0 ≤ f 157 2 ∧ f 157 2 ≤ 60) ∧ (0 ≤ f 157 3 ∧ f 157 3 ≤ 9) ∧ (0 ≤ f 157 4 ∧ f 157 4 ≤ 10) ∧ (0 ≤ f 157 5 ∧ f 157 5 ≤ 4) ∧ (0 ≤ f 157 6 ∧ f 157 6 ≤ 6) ∧ (0 ≤ f 157 7 ∧ f 157 7 ≤ 40) ∧
  (∀ d : Nat, (d : Int) < f 157 5 → (f 158 (4 * d) = 0 ∨ f 158 (4 * d) = 1) ∧ (0 ≤ f 158 (4 * d + 1) ∧ f 158 (4 * d + 1) ≤ 99) ∧ (-30 ≤ f 158 (4 * d + 2) ∧ f 158 (4 * d + 2) ≤ 30) ∧ (-30 ≤ f 158 (4 * d + 3) ∧ f 158 (4 * d + 3) ≤ 30)) ∧
  (∀ c : Nat, (c : Int) < f 157 6 → (f 159 (5 * c) = 0 ∨ f 159 (5 * c) = 1) ∧ (1 ≤ f 159 (5 * c + 1) ∧ f 159 (5 * c + 1) ≤ 40) ∧ (0 ≤ f 159 (5 * c + 2) ∧ f 159 (5 * c + 2) ≤ 9) ∧ (0 ≤ f 159 (5 * c + 3) ∧ f 159 (5 * c + 3) ≤ 9) ∧ (0 ≤ f 159 (5 * c + 4) ∧ f 159 (5 * c + 4) ≤ 999)) ∧
  (∀ k : Nat, (k : Int) < f 157 7 → (0 ≤ f 160 (2 * k) ∧ f 160 (2 * k) < f 157 0) ∧ (-1 ≤ f 160 (2 * k + 1) ∧ f 160 (2 * k + 1) < f 157 5))
/-- a choice of deeds, day by day -/
def WD (f : Mm) (do_ : Nat → Int) : Prop := ∀ d, d < 6 → -1 ≤ do_ d ∧ do_ d < f 157 5
/-- what k acts leave done on a day -/
def dO (f : Mm) : Nat → Nat → Int
  | 0, _ => -1
  | k + 1, d => if f 160 (2 * k) = (d : Int) then f 160 (2 * k + 1) else dO f k d
/-- a deed's work on a feeling -/
def mv (f : Mm) (w : Int) (s : Nat) (x : Int) : Int := if w = -1 then x else clp (x + f 158 (4 * w.toNat + 2 + s))
def hbit (x : Int) (k : Nat) : Bool := decide (bAnd (bShr x (k : Int)) 1 = 1)
/-- the feeling on a day, out of what it begins with -/
def fdy (f : Mm) (do_ : Nat → Int) (t2 tw tmp : Int) (d s : Nat) (x : Int) : Int :=
  let y := mv f (do_ d) s x
  let z := if (d : Int) = t2 then mv f tw s y else y
  if hbit tmp d then jMax 0 (z - 5) else z
/-- what a day begins with -/
def fbg (f : Mm) (do_ : Nat → Int) (t2 tw tmp co : Int) (s : Nat) : Nat → Int
  | 0 => f 157 (1 + s)
  | d + 1 => jMax 0 (fdy f do_ t2 tw tmp d s (fbg f do_ t2 tw tmp co s d) - co)
def fl (f : Mm) (do_ : Nat → Int) (t2 tw tmp co : Int) (s d : Nat) : Int := fdy f do_ t2 tw tmp d s (fbg f do_ t2 tw tmp co s d)
def wd (f : Mm) (do_ : Nat → Int) (t2 tw tmp co : Int) (d : Nat) : Int := jMin (fl f do_ t2 tw tmp co 0 d) (fl f do_ t2 tw tmp co 1 d)
/-- one cart at the bridge: (what is left, who passed when) -/
def pst (f : Mm) (d : Nat) (c : Nat) (q : Int × (Nat → Int)) : Int × (Nat → Int) :=
  if q.2 c = -1 ∧ f 159 (5 * c + 2) ≤ (d : Int) ∧ f 159 (5 * c + 1) ≤ q.1 then (q.1 - f 159 (5 * c + 1), fun b => if b = c then (d : Int) else q.2 b) else q
/-- the first i carts of an order on a day -/
def pcs (f : Mm) (od : Nat → Nat) (d : Nat) : Nat → Int × (Nat → Int) → Int × (Nat → Int)
  | 0, q => q
  | i + 1, q => pst f d (od i) (pcs f od d i q)
/-- who passed when, ahead of a day -/
def pas (f : Mm) (od : Nat → Nat) (w : Nat → Int) : Nat → Nat → Int
  | 0 => fun _ => -1
  | d + 1 => (pcs f od d (f 157 6).toNat (w d, pas f od w d)).2
def lft (f : Mm) (od : Nat → Nat) (w : Nat → Int) (d : Nat) : Int := (pcs f od d (f 157 6).toNat (w d, pas f od w d)).1
def inT (f : Mm) (p : Nat → Int) (c : Nat) : Bool := decide (p c ≠ -1 ∧ p c ≤ f 159 (5 * c + 3))
/-- bits of those that are so -/
def bts (p : Nat → Bool) : Nat → Int
  | 0 => 0
  | n + 1 => if p n then bOr (bts p n) (bShl 1 (n : Int)) else bts p n
def sm (g : Nat → Int) : Nat → Int
  | 0 => 0
  | n + 1 => sm g n + g n
/-- bits within 128 -/
theorem bt_or : ∀ x : Fin 128, ∀ k : Fin 7, 0 ≤ bOr (x : Int) (bShl 1 (k : Int)) ∧ bOr (x : Int) (bShl 1 (k : Int)) < 128 := by decide +kernel
theorem bt_orb : ∀ x : Fin 128, ∀ k j : Fin 7, hbit (bOr (x : Int) (bShl 1 (k : Int))) j = (hbit (x : Int) j || decide (j = k)) := by decide +kernel
theorem bt_and : ∀ x : Fin 128, ∀ k : Fin 7, (bAnd (x : Int) (bShl 1 (k : Int)) = 0 ↔ hbit (x : Int) k = false) := by decide +kernel
theorem bt_ext : ∀ x y : Fin 128, (∀ k : Fin 7, hbit (x : Int) k = hbit (y : Int) k) → x = y := by decide +kernel

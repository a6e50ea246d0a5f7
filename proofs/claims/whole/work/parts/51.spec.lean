/-! what both compute, over a bridge B: its row 0 holds days, two feelings, cooling, odds, deeds, carts, acts, lines; rows 10 on the deeds, rows 20 on the carts, rows 1 and 2 the acts -/
def clp (x : Int) : Int := if x < 0 then 0 else if 60 < x then 60 else x
theorem clp_r (x : Int) : 0 ≤ clp x ∧ clp x ≤ 60 := by unfold clp; split <;> (try split) <;> omega
theorem clp_lo {x : Int} (h : x ≤ 60) : clp x = jMax 0 x := by unfold clp jMax; split <;> (try split) <;> omega
def nD (B : Mm) : Nat := (B 0 0).toNat
def nK (B : Mm) : Nat := (B 0 5).toNat
def nC (B : Mm) : Nat := (B 0 6).toNat
def nA (B : Mm) : Nat := (B 0 7).toNat
def WF (B : Mm) : Prop :=
  (0 ≤ B 0 0 ∧ B 0 0 ≤ 6) ∧ (0 ≤ B 0 1 ∧ B 0 1 ≤ 60) ∧ (0 ≤ B 0 2 ∧ B 0 2 ≤ 60) ∧ (0 ≤ B 0 3 ∧ B 0 3 ≤ 9) ∧ (0 ≤ B 0 4 ∧ B 0 4 ≤ 10) ∧ (0 ≤ B 0 5 ∧ B 0 5 ≤ 4) ∧ (0 ≤ B 0 6 ∧ B 0 6 ≤ 6) ∧ (0 ≤ B 0 7 ∧ B 0 7 ≤ 40) ∧ (0 ≤ B 0 8 ∧ B 0 8 ≤ 900) ∧ ((0 < B 0 8 → 0 < B 0 0) ∧ (0 < B 0 0 → 0 < B 0 8) ∧ (0 < B 0 6 → 0 < B 0 8) ∧ (0 < B 0 5 → 0 < B 0 8)) ∧
  (∀ d, d < nK B → (B (10 + d) 0 = 0 ∨ B (10 + d) 0 = 1) ∧ (0 ≤ B (10 + d) 1 ∧ B (10 + d) 1 ≤ 99) ∧ (-30 ≤ B (10 + d) 2 ∧ B (10 + d) 2 ≤ 30) ∧ (-30 ≤ B (10 + d) 3 ∧ B (10 + d) 3 ≤ 30)) ∧
  (∀ c, c < nC B → (B (20 + c) 0 = 0 ∨ B (20 + c) 0 = 1) ∧ (1 ≤ B (20 + c) 1 ∧ B (20 + c) 1 ≤ 40) ∧ (0 ≤ B (20 + c) 2 ∧ B (20 + c) 2 ≤ 9) ∧ (0 ≤ B (20 + c) 3 ∧ B (20 + c) 3 ≤ 9) ∧ (0 ≤ B (20 + c) 4 ∧ B (20 + c) 4 ≤ 999)) ∧
  (∀ k, k < nA B → (0 ≤ B 1 k ∧ B 1 k < B 0 0) ∧ (-1 ≤ B 2 k ∧ B 2 k < B 0 5))
/-- a choice of deeds, day by day -/
def WD (B : Mm) (ch : Nat → Int) : Prop := ∀ d, d < 6 → -1 ≤ ch d ∧ ch d < B 0 5
/-- what k acts leave done on a day -/
def dO (B : Mm) : Nat → Nat → Int
  | 0, _ => -1
  | k + 1, d => if B 1 k = (d : Int) then B 2 k else dO B k d
def dn (B : Mm) : Nat → Int := dO B (nA B)
theorem dO_r {B : Mm} (h : WF B) : ∀ k d, k ≤ nA B → -1 ≤ dO B k d ∧ dO B k d < B 0 5 := by
  obtain ⟨_, _, _, _, _, h5, _, h7, _, _, _, _, h12⟩ := h
  intro k
  induction k with
  | zero => intro d _; unfold dO; omega
  | succ k ih =>
    intro d hk
    unfold dO
    have := h12 k (by omega)
    have := ih d (by omega)
    split <;> omega
theorem dn_W {B : Mm} (h : WF B) : WD B (dn B) := fun d _ => dO_r h (nA B) d (Nat.le_refl _)
/-- a deed's work on a feeling -/
def mv (B : Mm) (w : Int) (s : Nat) (x : Int) : Int := if w = -1 then x else clp (x + B (10 + w.toNat) (2 + s))
def hbit (x : Int) (k : Nat) : Bool := decide (bAnd (bShr x (k : Int)) 1 = 1)
/-- the feeling on a day, out of what it begins with -/
def fdy (B : Mm) (ch : Nat → Int) (t2 tw tm : Int) (d s : Nat) (x : Int) : Int :=
  if hbit tm d = true then jMax 0 ((if (d : Int) = t2 then mv B tw s (mv B (ch d) s x) else mv B (ch d) s x) - 5) else (if (d : Int) = t2 then mv B tw s (mv B (ch d) s x) else mv B (ch d) s x)
/-- what a day begins with -/
def fbg (B : Mm) (ch : Nat → Int) (t2 tw tm co : Int) (s : Nat) : Nat → Int
  | 0 => B 0 (1 + s)
  | d + 1 => jMax 0 (fdy B ch t2 tw tm d s (fbg B ch t2 tw tm co s d) - co)
def fl (B : Mm) (ch : Nat → Int) (t2 tw tm co : Int) (s d : Nat) : Int := fdy B ch t2 tw tm d s (fbg B ch t2 tw tm co s d)
def wd (B : Mm) (ch : Nat → Int) (t2 tw tm co : Int) (d : Nat) : Int := jMin (fl B ch t2 tw tm co 0 d) (fl B ch t2 tw tm co 1 d)
theorem mv_r {B : Mm} {w : Int} {s : Nat} {x : Int} (h : 0 ≤ x ∧ x ≤ 60) : 0 ≤ mv B w s x ∧ mv B w s x ≤ 60 := by
  unfold mv
  split
  · exact h
  · exact clp_r _
theorem fdy_r {B : Mm} {ch : Nat → Int} {t2 tw tm : Int} {d s : Nat} {x : Int} (h : 0 ≤ x ∧ x ≤ 60) : 0 ≤ fdy B ch t2 tw tm d s x ∧ fdy B ch t2 tw tm d s x ≤ 60 := by
  unfold fdy
  have h1 := mv_r (B := B) (w := ch d) (s := s) h
  have h2 := mv_r (B := B) (w := tw) (s := s) h1
  unfold jMax
  grind
theorem fbg_r {B : Mm} {ch : Nat → Int} {t2 tw tm co : Int} {s : Nat} (h : 0 ≤ B 0 (1 + s) ∧ B 0 (1 + s) ≤ 60) (hc : 0 ≤ co) : ∀ d, 0 ≤ fbg B ch t2 tw tm co s d ∧ fbg B ch t2 tw tm co s d ≤ 60
  | 0 => h
  | d + 1 => by
    have h1 := fdy_r (B := B) (ch := ch) (t2 := t2) (tw := tw) (tm := tm) (d := d) (s := s) (fbg_r (ch := ch) (t2 := t2) (tw := tw) (tm := tm) h hc d)
    have e : fbg B ch t2 tw tm co s (d + 1) = jMax 0 (fdy B ch t2 tw tm d s (fbg B ch t2 tw tm co s d) - co) := rfl
    rw [e]
    unfold jMax
    split <;> omega
theorem fl_r {B : Mm} (hB : WF B) {ch : Nat → Int} {t2 tw tm co : Int} (hc : 0 ≤ co) {s d : Nat} (hs : s < 2) : 0 ≤ fl B ch t2 tw tm co s d ∧ fl B ch t2 tw tm co s d ≤ 60 := by
  refine fdy_r (fbg_r ?_ hc d)
  rcases (show s = 0 ∨ s = 1 by omega) with rfl | rfl
  · exact hB.2.1
  · exact hB.2.2.1
theorem wd_r {B : Mm} (hB : WF B) {ch : Nat → Int} {t2 tw tm co : Int} (hc : 0 ≤ co) (d : Nat) : 0 ≤ wd B ch t2 tw tm co d ∧ wd B ch t2 tw tm co d ≤ 60 := by
  have h0 := fl_r hB (ch := ch) (t2 := t2) (tw := tw) (tm := tm) hc (s := 0) (d := d) (by decide)
  have h1 := fl_r hB (ch := ch) (t2 := t2) (tw := tw) (tm := tm) hc (s := 1) (d := d) (by decide)
  unfold wd jMin
  split <;> omega
/-- one cart at the bridge: (what is left, who passed when) -/
def pst (B : Mm) (d : Nat) (c : Nat) (q : Int × (Nat → Int)) : Int × (Nat → Int) :=
  if q.2 c = -1 ∧ B (20 + c) 2 ≤ (d : Int) ∧ B (20 + c) 1 ≤ q.1 then (q.1 - B (20 + c) 1, fun b => if b = c then (d : Int) else q.2 b) else q
/-- the first i carts of an order on a day -/
def pcs (B : Mm) (od : Nat → Nat) (d : Nat) (q : Int × (Nat → Int)) : Nat → Int × (Nat → Int)
  | 0 => q
  | i + 1 => pst B d (od i) (pcs B od d q i)
/-- who passed when, ahead of a day -/
def pas (B : Mm) (od : Nat → Nat) (w : Nat → Int) : Nat → Nat → Int
  | 0 => fun _ => -1
  | d + 1 => (pcs B od d (w d, pas B od w d) (nC B)).2
def lft (B : Mm) (od : Nat → Nat) (w : Nat → Int) (d : Nat) : Int := (pcs B od d (w d, pas B od w d) (nC B)).1
def inT (B : Mm) (p : Nat → Int) (c : Nat) : Bool := decide (p c ≠ -1 ∧ p c ≤ B (20 + c) 3)
def hs1 (p : Nat → Int) (c : Nat) : Bool := decide (p c ≠ -1)
/-- bits of those that are so -/
def bts (p : Nat → Bool) : Nat → Int
  | 0 => 0
  | n + 1 => if p n = true then bOr (bts p n) (bShl 1 (n : Int)) else bts p n
def sm (g : Nat → Int) : Nat → Int
  | 0 => 0
  | n + 1 => sm g n + g n
/-- bits within 128 -/
theorem bt_t : ∀ x : Fin 128, ∀ k : Fin 7, hbit (x : Int) k = Nat.testBit x.val k.val := by decide +kernel
theorem bt_hs : ∀ x : Fin 128, ∀ k : Fin 7, bAnd (bShr (x : Int) (k : Int)) 1 = if hbit (x : Int) k then 1 else 0 := by decide +kernel
theorem bt_or : ∀ x : Fin 128, ∀ k : Fin 7, bOr (x : Int) (bShl 1 (k : Int)) = ((x.val ||| 2 ^ k.val : Nat) : Int) := by decide +kernel
theorem bt_anb : ∀ x : Fin 128, ∀ k : Fin 7, (bAnd (x : Int) (bShl 1 (k : Int)) = 0 ↔ hbit (x : Int) k = false) := by decide +kernel
theorem bt_or0 : ∀ x : Fin 128, bOr (x : Int) 0 = x := by decide +kernel
theorem i32n (x : Nat) : (i32 (x : Int)).toBitVec = BitVec.ofNat 32 x := by
  show BitVec.ofInt 32 (x : Int) = _
  exact BitVec.ofInt_natCast 32 x
theorem bAnd_n {x y : Nat} (hx : x < 2147483648) (hy : y < 2147483648) : bAnd (x : Int) (y : Int) = ((x &&& y : Nat) : Int) := by
  unfold bAnd
  have e : (i32 (x : Int) &&& i32 (y : Int)).toBitVec = BitVec.ofNat 32 x &&& BitVec.ofNat 32 y := by rw [Int32.toBitVec_and, i32n, i32n]
  have en : (i32 (x : Int) &&& i32 (y : Int)).toBitVec.toNat = x &&& y := by
    rw [e, BitVec.toNat_and, BitVec.toNat_ofNat, BitVec.toNat_ofNat, Nat.mod_eq_of_lt (by omega), Nat.mod_eq_of_lt (by omega)]
  have hl : x &&& y ≤ x := Nat.and_le_left
  show (i32 (x : Int) &&& i32 (y : Int)).toBitVec.toInt = _
  rw [BitVec.toInt_eq_toNat_of_lt (by rw [en]; omega), en]
theorem bAnx_n {x y : Nat} (hx : x < 2147483648) (hy : y < 2147483648) : bAnd (x : Int) (bXor (y : Int) (-1)) = ((x &&& (y ^^^ 4294967295) : Nat) : Int) := by
  unfold bAnd
  have e2 : i32 (bXor (y : Int) (-1)) = i32 (y : Int) ^^^ i32 (-1) := Int32.ofInt_toInt _
  have e : (i32 (x : Int) &&& i32 (bXor (y : Int) (-1))).toBitVec = BitVec.ofNat 32 x &&& (BitVec.ofNat 32 y ^^^ BitVec.ofNat 32 4294967295) := by rw [e2, Int32.toBitVec_and, Int32.toBitVec_xor, i32n, i32n]; rfl
  have en : (i32 (x : Int) &&& i32 (bXor (y : Int) (-1))).toBitVec.toNat = x &&& (y ^^^ 4294967295) := by
    rw [e, BitVec.toNat_and, BitVec.toNat_xor, BitVec.toNat_ofNat, BitVec.toNat_ofNat, BitVec.toNat_ofNat, Nat.mod_eq_of_lt (by omega), Nat.mod_eq_of_lt (by omega), Nat.mod_eq_of_lt (by omega)]
  have hl : x &&& (y ^^^ 4294967295) ≤ x := Nat.and_le_left
  show (i32 (x : Int) &&& i32 (bXor (y : Int) (-1))).toBitVec.toInt = _
  rw [BitVec.toInt_eq_toNat_of_lt (by rw [en]; omega), en]
/-- a small set -/
def sS (x : Int) : Prop := 0 ≤ x ∧ x < 128
theorem sS_n {x : Int} (h : sS x) : ∃ n : Nat, n < 128 ∧ x = (n : Int) := ⟨x.toNat, by unfold sS at h; omega, by unfold sS at h; omega⟩
theorem hb_t {n : Nat} (h : n < 128) {k : Nat} (hk : k < 7) : hbit (n : Int) k = n.testBit k := bt_t ⟨n, h⟩ ⟨k, hk⟩
theorem sS_ext {x y : Int} (hx : sS x) (hy : sS y) (h : ∀ k, k < 7 → hbit x k = hbit y k) : x = y := by
  obtain ⟨n, hn, rfl⟩ := sS_n hx
  obtain ⟨m, hm, rfl⟩ := sS_n hy
  congr 1
  apply Nat.eq_of_testBit_eq
  intro i
  rcases Nat.lt_or_ge i 7 with hi | hi
  · rw [← hb_t hn hi, ← hb_t hm hi]; exact h i hi
  · have h2 : 2 ^ 7 ≤ 2 ^ i := Nat.pow_le_pow_right (by decide) hi
    rw [Nat.testBit_lt_two_pow (by omega), Nat.testBit_lt_two_pow (by omega)]
theorem sS_or {x : Int} (hx : sS x) {k : Nat} (hk : k < 7) : sS (bOr x (bShl 1 (k : Int))) ∧ ∀ j, j < 7 → hbit (bOr x (bShl 1 (k : Int))) j = (hbit x j || decide (j = k)) := by
  obtain ⟨n, hn, rfl⟩ := sS_n hx
  have e := bt_or ⟨n, hn⟩ ⟨k, hk⟩
  have h2 : 2 ^ k ≤ 2 ^ 6 := Nat.pow_le_pow_right (by decide) (by omega)
  have h3 : n ||| 2 ^ k < 2 ^ 7 := Nat.or_lt_two_pow (by omega) (by omega)
  simp only at e
  rw [e]
  refine ⟨⟨by omega, by omega⟩, fun j hj => ?_⟩
  rw [hb_t (by omega) hj, hb_t hn hj, Nat.testBit_or, Nat.testBit_two_pow]
  by_cases h : k = j
  · subst h; simp
  · rw [decide_eq_false h, decide_eq_false (fun q => h q.symm)]
theorem sS_0 : sS 0 := ⟨by decide, by decide⟩
theorem hb_0 {k : Nat} (hk : k < 7) : hbit 0 k = false := by
  have := hb_t (n := 0) (by decide) hk
  rw [Nat.zero_testBit] at this
  exact this
theorem sS_and {x y : Int} (hx : sS x) (hy : sS y) : sS (bAnd x y) ∧ ∀ j, j < 7 → hbit (bAnd x y) j = (hbit x j && hbit y j) := by
  obtain ⟨n, hn, rfl⟩ := sS_n hx
  obtain ⟨m, hm, rfl⟩ := sS_n hy
  rw [bAnd_n (by omega) (by omega)]
  have hl : n &&& m ≤ n := Nat.and_le_left
  refine ⟨⟨by omega, by omega⟩, fun j hj => ?_⟩
  rw [hb_t (by omega) hj, hb_t hn hj, hb_t hm hj, Nat.testBit_and]
theorem sS_anx {x y : Int} (hx : sS x) (hy : sS y) : sS (bAnd x (bXor y (-1))) ∧ ∀ j, j < 7 → hbit (bAnd x (bXor y (-1))) j = (hbit x j && !hbit y j) := by
  obtain ⟨n, hn, rfl⟩ := sS_n hx
  obtain ⟨m, hm, rfl⟩ := sS_n hy
  rw [bAnx_n (by omega) (by omega)]
  have hl : n &&& (m ^^^ 4294967295) ≤ n := Nat.and_le_left
  refine ⟨⟨by omega, by omega⟩, fun j hj => ?_⟩
  rw [hb_t (by omega) hj, hb_t hn hj, hb_t hm hj, Nat.testBit_and, Nat.testBit_xor]
  have e : (4294967295 : Nat).testBit j = true := by
    have := Nat.testBit_two_pow_sub_one 32 j
    rw [show 2 ^ 32 - 1 = 4294967295 from rfl] at this
    rw [this]
    exact decide_eq_true (by omega)
  rw [e]
  simp
theorem sS_bit {x : Int} (hx : sS x) {k : Nat} (hk : k < 7) : bAnd (bShr x (k : Int)) 1 = if hbit x k = true then 1 else 0 := by
  obtain ⟨n, hn, rfl⟩ := sS_n hx
  exact bt_hs ⟨n, hn⟩ ⟨k, hk⟩
theorem sS_anb {x : Int} (hx : sS x) {k : Nat} (hk : k < 7) : bAnd x (bShl 1 (k : Int)) = 0 ↔ hbit x k = false := by
  obtain ⟨n, hn, rfl⟩ := sS_n hx
  exact bt_anb ⟨n, hn⟩ ⟨k, hk⟩
theorem sS_or0 {x : Int} (hx : sS x) : bOr x 0 = x := by
  obtain ⟨n, hn, rfl⟩ := sS_n hx
  exact bt_or0 ⟨n, hn⟩
theorem bts_s {p : Nat → Bool} : ∀ n, n ≤ 7 → sS (bts p n) ∧ ∀ j, j < 7 → hbit (bts p n) j = (decide (j < n) && p j)
  | 0, _ => ⟨sS_0, fun j hj => by
      rw [show bts p 0 = 0 from rfl, hb_0 hj]
      simp⟩
  | n + 1, h => by
    obtain ⟨h1, h2⟩ := bts_s (p := p) n (by omega)
    unfold bts
    by_cases hp : p n = true
    · rw [if_pos hp]
      obtain ⟨h3, h4⟩ := sS_or h1 (k := n) (by omega)
      refine ⟨h3, fun j hj => ?_⟩
      rw [h4 j hj, h2 j hj]
      by_cases hj2 : j = n
      · subst hj2; simp [hp]
      · have : decide (j < n + 1) = decide (j < n) := by apply decide_eq_decide.mpr; omega
        rw [this, decide_eq_false hj2, Bool.or_false]
    · rw [if_neg hp]
      refine ⟨h1, fun j hj => ?_⟩
      rw [h2 j hj]
      by_cases hj2 : j = n
      · subst hj2; simp [hp]
      · have : decide (j < n + 1) = decide (j < n) := by apply decide_eq_decide.mpr; omega
        rw [this]
theorem bts_is {p : Nat → Bool} {n : Nat} (hn : n ≤ 7) {x : Int} (hx : sS x) (h : ∀ j, j < 7 → hbit x j = (decide (j < n) && p j)) : x = bts p n :=
  sS_ext hx (bts_s n hn).1 (fun k hk => by rw [h k hk, (bts_s n hn).2 k hk])
theorem bts_congr {p q : Nat → Bool} {n : Nat} (hn : n ≤ 7) (h : ∀ j, j < n → p j = q j) : bts p n = bts q n :=
  bts_is hn (bts_s n hn).1 (fun j hj => by
    rw [(bts_s n hn).2 j hj]
    by_cases hj2 : j < n
    · rw [h j hj2]
    · rw [decide_eq_false hj2, Bool.false_and, Bool.false_and])

/-! orders of passing: all rows, least first -/
def pL (n : Nat) : Nat → List Nat → List (List Nat)
  | 0, p => [p]
  | r + 1, p => (List.range n).flatMap (fun c => if p.contains c = true then [] else pL n r (p ++ [c]))
def oL (l : List Nat) (i : Nat) : Nat := l.getD i 0
def hm (l : List Nat) : Mm := fun a j => if a = 50 then ((if j < l.length then l.getD j 0 else j : Nat) : Int) else 0
def nxOk (n : Nat) (l l' : List Nat) : Bool := match FX2_turnOrder_50 (n : Int) (hm l) with
  | some r => (List.range 6).all (fun j => decide (r 50 j = hm l' 50 j))
  | none => false
def chk (n : Nat) : List (List Nat) → Bool
  | [] => true
  | [l] => (FX2_turnOrder_50 (n : Int) (hm l)).isSome
  | l :: l' :: t => nxOk n l l' && chk n (l' :: t)
def okL (n : Nat) (l : List Nat) : Bool := decide (l.length = n) && l.all (fun c => decide (c < n))
def fac : Nat → Nat
  | 0 => 1
  | n + 1 => fac n * (n + 1)
theorem chk_all : ∀ n : Fin 7, (n.val = 0 ∨ chk n.val (pL n.val n.val []) = true) ∧ (pL n.val n.val []).length = fac n.val ∧ (pL n.val n.val []).all (okL n.val) = true := by decide +kernel
theorem pL_head : ∀ n : Fin 7, n.val = 0 ∨ (pL n.val n.val []).head? = some (List.range n.val) := by decide +kernel
/-- what a turn does hangs on the row alone -/
def EQ6 (r r' : Mm) : Prop := ∀ j, j < 6 → r 50 j = r' 50 j
def RO (g : Mm) (o o' : Option Mm) : Prop := ∀ r', o' = some r' → ∃ r, o = some r ∧ EQ6 r r' ∧ ∀ a j, a ≠ 50 → r a j = g a j
theorem RO_t {g g1 : Mm} {o o' : Option Mm} (h : RO g1 o o') (hk : ∀ a j, a ≠ 50 → g1 a j = g a j) : RO g o o' := fun r' e => by
  obtain ⟨r, h1, h2, h3⟩ := h r' e
  exact ⟨r, h1, h2, fun a j q => by rw [h3 a j q, hk a j q]⟩
theorem RO_b {g : Mm} {o o' : Option Mm} {K K' : Mm → Option Mm} (h : RO g o o') (hk : ∀ r r', EQ6 r r' → (∀ a j, a ≠ 50 → r a j = g a j) → RO g (K r) (K' r')) : RO g (o.bind K) (o'.bind K') := fun r' e => by
  cases ho : o' with
  | none => rw [ho] at e; cases e
  | some q' =>
    obtain ⟨q, h1, h2, h3⟩ := h q' ho
    rw [ho] at e
    rw [h1]
    exact hk q q' h2 h3 r' e
theorem RO_s {g : Mm} {r r' : Mm} (h : EQ6 r r') (h2 : ∀ a j, a ≠ 50 → r a j = g a j) : RO g (some r) (some r') := fun q e => by
  cases e
  exact ⟨r, rfl, h, h2⟩
theorem RO_n {g : Mm} {o : Option Mm} : RO g o none := fun q e => by cases e
theorem RO_i {g : Mm} {c : Prop} [Decidable c] {a b a' b' : Option Mm} (h1 : c → RO g a a') (h2 : ¬ c → RO g b b') : RO g (if c then a else b) (if c then a' else b') := by
  by_cases h : c
  · rw [if_pos h, if_pos h]; exact h1 h
  · rw [if_neg h, if_neg h]; exact h2 h
theorem swap_RO {g h : Mm} (e : EQ6 g h) (x y : Int) : RO g (FX2_swap_50 x y g) (FX2_swap_50 x y h) := by
  unfold FX2_swap_50 FX2_swap_50_0
  refine RO_i (fun c1 => RO_i (fun c2 => RO_i (fun _ => RO_i (fun _ => RO_s (fun j hj => ?_) (fun a j q => ?_)) (fun _ => RO_n)) (fun _ => RO_n)) (fun _ => RO_n)) (fun _ => RO_n)
  · rw [up_eq, up_eq, up_eq, up_eq, e j hj, e x.toNat (by omega), e y.toNat (by omega)]
  · rw [up_n (by omega), up_n (by omega)]
theorem t70_RO : ∀ (n : Nat) {g h : Mm}, EQ6 g h → ∀ x y : Int, RO g (FX2_turnOrder_50_70 n x y g) (FX2_turnOrder_50_70 n x y h) := by
  intro n
  induction n with
  | zero => intro g h _ x y; exact RO_n
  | succ n ih =>
    intro g h e x y
    rw [FX2_turnOrder_50_70, FX2_turnOrder_50_70]
    exact RO_i (fun _ => RO_s e (fun _ _ _ => rfl)) (fun _ => RO_b (swap_RO e x y) (fun r r' h1 h2 => RO_t (ih h1 _ _) h2))
theorem t54_RO {g h : Mm} (e : EQ6 g h) (x y z : Int) : RO g (FX2_turnOrder_50_54 x y z g) (FX2_turnOrder_50_54 x y z h) := by
  unfold FX2_turnOrder_50_54
  exact RO_b (swap_RO e y z) (fun r r' h1 h2 => RO_t (t70_RO fu h1 _ _) h2)
theorem t34_RO {g h : Mm} (e : EQ6 g h) : ∀ (n : Nat) (x y z : Int), RO g (FX2_turnOrder_50_34 n x y z g) (FX2_turnOrder_50_34 n x y z h) := by
  intro n
  induction n with
  | zero => intro x y z; exact RO_n
  | succ n ih =>
    intro x y z
    rw [FX2_turnOrder_50_34, FX2_turnOrder_50_34]
    refine RO_i (fun _ => t54_RO e _ _ _) (fun _ => RO_i (fun c1 => RO_i (fun c2 => ?_) (fun _ => RO_n)) (fun _ => RO_n))
    rw [e y.toNat (by omega), e z.toNat (by omega)]
    exact RO_i (fun _ => t54_RO e _ _ _) (fun _ => ih _ _ _)
theorem t25_RO {g h : Mm} (e : EQ6 g h) (x y : Int) : RO g (FX2_turnOrder_50_25 x y g) (FX2_turnOrder_50_25 x y h) := by
  unfold FX2_turnOrder_50_25
  exact RO_i (fun _ => t34_RO e _ _ _ _) (fun _ => RO_s e (fun _ _ _ => rfl))
theorem t4_RO {g h : Mm} (e : EQ6 g h) : ∀ (n : Nat) (x y : Int), RO g (FX2_turnOrder_50_4 n x y g) (FX2_turnOrder_50_4 n x y h) := by
  intro n
  induction n with
  | zero => intro x y; exact RO_n
  | succ n ih =>
    intro x y
    rw [FX2_turnOrder_50_4, FX2_turnOrder_50_4]
    refine RO_i (fun _ => t25_RO e _ _) (fun _ => RO_i (fun c1 => RO_i (fun c2 => ?_) (fun _ => RO_n)) (fun _ => RO_n))
    rw [e y.toNat (by omega), e (w32 (y + 1)).toNat (by omega)]
    exact RO_i (fun _ => t25_RO e _ _) (fun _ => ih _ _)
theorem turn_RO {g h : Mm} (e : EQ6 g h) (x : Int) : RO g (FX2_turnOrder_50 x g) (FX2_turnOrder_50 x h) := t4_RO e _ _ _
/-- the row as it lies: six places -/
def OR (l : List Nat) (g : Mm) : Prop := ∀ j, j < 6 → g 50 j = hm l 50 j
/-! what an order brings -/
def la (p : Nat → Int) : Nat → Int
  | 0 => 0
  | c + 1 => if p c = -1 then 10000000 else jMax (la p c) (p c)
def pO (B : Mm) (l : List Nat) : Nat → Int := pas B (oL l) (wN B) (nD B)
def stO (B : Mm) (s : Int × Int × List Nat) (l : List Nat) : Int × Int × List Nat :=
  if la (pO B l) (nC B) < s.1 then (la (pO B l) (nC B), jMax s.2.1 (sumf B 4 (bts (inT B (pO B l)) (nC B))), l) else (s.1, jMax s.2.1 (sumf B 4 (bts (inT B (pO B l)) (nC B))), s.2.2)
def qS (B : Mm) : Int × Int × List Nat := (pL (nC B) (nC B) []).foldl (stO B) (10000000, 0, [])
theorem la_is {p : Nat → Int} {D : Nat} (hD : 0 < D) (hD6 : D ≤ 6) : ∀ n, (∀ c, c < n → p c = -1 ∨ (0 ≤ p c ∧ p c < (D : Int))) → ((la p n = 10000000 ∧ ∃ c, c < n ∧ p c = -1) ∨ (0 ≤ la p n ∧ la p n < (D : Int) ∧ (∀ c, c < n → p c ≠ -1 ∧ p c ≤ la p n) ∧ (la p n = 0 ∨ ∃ c, c < n ∧ p c = la p n)))
  | 0, _ => Or.inr ⟨by unfold la; omega, by unfold la; omega, fun c h => by omega, Or.inl rfl⟩
  | n + 1, h => by
    have ih := la_is hD hD6 n (fun c hc => h c (by omega))
    have hn := h n (by omega)
    have e : la p (n + 1) = if p n = -1 then 10000000 else jMax (la p n) (p n) := rfl
    rw [e]
    by_cases q : p n = -1
    · rw [if_pos q]
      exact Or.inl ⟨rfl, n, by omega, q⟩
    · rw [if_neg q]
      unfold jMax
      rcases ih with ⟨i1, c, i2, i3⟩ | ⟨i1, i2, i3, i4⟩
      · left
        rw [if_neg (by omega)]
        exact ⟨i1, c, by omega, i3⟩
      · right
        by_cases q2 : la p n < p n
        · rw [if_pos q2]
          refine ⟨by omega, by omega, fun c hc => ?_, Or.inr ⟨n, by omega, rfl⟩⟩
          by_cases hcn : c = n
          · subst hcn; exact ⟨q, Int.le_refl _⟩
          · have := i3 c (by omega); exact ⟨this.1, by omega⟩
        · rw [if_neg q2]
          refine ⟨i1, i2, fun c hc => ?_, ?_⟩
          · by_cases hcn : c = n
            · subst hcn; exact ⟨q, by omega⟩
            · exact i3 c (by omega)
          · rcases i4 with i4 | ⟨c, c1, c2⟩
            · exact Or.inl i4
            · exact Or.inr ⟨c, by omega, c2⟩
theorem bts_all {p : Nat → Bool} {n : Nat} (hn : n ≤ 6) : bAnd (bts p n) (bts (fun _ => true) n) = bts (fun _ => true) n ↔ ∀ c, c < n → p c = true := by
  have s1 := bts_s (p := p) n (by omega)
  have s2 := bts_s (p := fun _ => true) n (by omega)
  have s3 := sS_and s1.1 s2.1
  constructor
  · intro h c hc
    have := s3.2 c (by omega)
    rw [h, s2.2 c (by omega), s1.2 c (by omega), decide_eq_true hc] at this
    simpa using this.symm
  · intro h
    refine sS_ext s3.1 s2.1 (fun j hj => ?_)
    rw [s3.2 j hj, s1.2 j hj, s2.2 j hj]
    by_cases q : j < n
    · rw [h j q]; simp [q]
    · simp [q]
theorem allC_b (B : Mm) : allC B = bts (fun _ => true) (nC B) := rfl
theorem dayOfAll_e {B : Mm} (hB : WF B) {g : Mm} (hC : CT B g) (hD0 : 0 < nD B) {l : List Nat} (h : PK B (oL l) (wN B) (nD B) g) : FX1_dayOfAll_48_4 (allC B) g = some (if la (pO B l) (nC B) < 10000000 then la (pO B l) (nC B) else -1, g) := by
  obtain ⟨hD6, hDe⟩ := WF_D hB
  have hC6 := (WF_C hB).1
  have e1 : g 4 1 = (nD B : Int) := by rw [hC.1.2.1, hDe]
  have hla := la_is (p := pO B l) (D := nD B) hD0 hD6 (nC B) (fun c _ => pas_r (nD B))
  unfold FX1_dayOfAll_48_4 FX1_dayOfAll_48_4_0
  refine forR (fun n x (_ : Unit) => FX1_dayOfAll_48_4_2 n (allC B) x g) (fun i _ => ¬ (la (pO B l) (nC B) < (i : Int))) (fun o => o = some (if la (pO B l) (nC B) < 10000000 then la (pO B l) (nC B) else -1, g)) (nD B) ?_ ?_ fu 0 () (by rcases hla with q | q <;> omega) (by omega) (by have := fub; omega)
  · rintro n s hs
    rw [FX1_dayOfAll_48_4_2, if_pos (by omega), if_neg (by rcases hla with q | q <;> omega)]
  · rintro n i s hi hs
    have hk : bAnd (g 55 (i + 1)) (allC B) = allC B ↔ la (pO B l) (nC B) ≤ (i : Int) := by
      rw [(h.2 (i + 1) (by omega)).1, allC_b, bts_all hC6]
      unfold hs1
      simp only [decide_eq_true_eq]
      constructor
      · intro q
        rcases hla with ⟨i1, c, i2, i3⟩ | ⟨i1, i2, i3, i4⟩
        · have := (pas_lt (B := B) (od := oL l) (w := wN B) (b := c) (e := i + 1) (D := nD B) (by omega)).mp (q c i2)
          exact absurd i3 this.1
        · rcases i4 with i4 | ⟨c, c1, c2⟩
          · omega
          · have := (pas_lt (B := B) (od := oL l) (w := wN B) (b := c) (e := i + 1) (D := nD B) (by omega)).mp (q c c1)
            have e : pO B l c = pas B (oL l) (wN B) (nD B) c := rfl
            omega
      · intro q c hc
        rcases hla with ⟨i1, _⟩ | ⟨i1, i2, i3, i4⟩
        · omega
        · have := i3 c hc
          have e : pO B l c = pas B (oL l) (wN B) (nD B) c := rfl
          exact (pas_lt (B := B) (od := oL l) (w := wN B) (b := c) (e := i + 1) (D := nD B) (by omega)).mpr ⟨by rw [← e]; exact this.1, by omega⟩
    rw [FX1_dayOfAll_48_4_2, if_neg (by omega), w32n (x := (i : Int) + 1) (n := i + 1) (by omega) (by omega), if_pos (by omega), Int.toNat_natCast]
    by_cases q : la (pO B l) (nC B) ≤ (i : Int)
    · right
      rw [if_pos (hk.mpr q), if_pos (by omega)]
      congr 2
      omega
    · left
      rw [if_neg (fun h => q (hk.mp h))]
      exact ⟨(), rfl, by omega⟩
/-- as the class keeps it -/
def RC (n : Nat) (s : Int × Int × List Nat) (g : Mm) : Prop := g 67 0 = (if s.1 < 10000000 then s.1 else -1) ∧ g 67 1 = s.2.1 ∧ (0 ≤ s.1 ∧ s.1 ≤ 10000000) ∧ (s.1 < 10000000 → ∀ j, j < n → g 68 j = hm s.2.2 50 j)
theorem la_r {B : Mm} (hB : WF B) (hD0 : 0 < nD B) (l : List Nat) : 0 ≤ la (pO B l) (nC B) ∧ la (pO B l) (nC B) ≤ 10000000 := by
  have hD6 := (WF_D hB).1
  rcases la_is (p := pO B l) (D := nD B) hD0 hD6 (nC B) (fun c _ => pas_r (nD B)) with q | q <;> omega
theorem keepIf_W {B : Mm} (hB : WF B) (hD0 : 0 < nD B) {s : Int × Int × List Nat} {l : List Nat} {g : Mm} (hO : OR l g) (h0 : g 67 0 = (if s.1 < 10000000 then s.1 else -1)) (h1 : g 67 1 = jMax s.2.1 (sumf B 4 (bts (inT B (pO B l)) (nC B)))) (h2 : 0 ≤ s.1 ∧ s.1 ≤ 10000000) (h3 : s.1 < 10000000 → ∀ j, j < nC B → g 68 j = hm s.2.2 50 j) :
    Wp (FX2_keepIfSooner_67_48 (if la (pO B l) (nC B) < 10000000 then la (pO B l) (nC B) else -1) g) (fun g' => Kp (fun a j => a = 68 ∨ (a = 67 ∧ j = 0)) g g' ∧ RC (nC B) (stO B s l) g') := by
  have hl := la_r hB hD0 l
  have stay : ¬ la (pO B l) (nC B) < s.1 → RC (nC B) (stO B s l) g := fun q => by
    unfold stO
    rw [if_neg q]
    exact ⟨h0, h1, h2, h3⟩
  have go : la (pO B l) (nC B) < s.1 → Wp (FX2_keepIfSooner_67_48_22 (la (pO B l) (nC B)) g) (fun g' => Kp (fun a j => a = 68 ∨ (a = 67 ∧ j = 0)) g g' ∧ RC (nC B) (stO B s l) g') := fun q => by
    unfold FX2_keepIfSooner_67_48_22
    refine forX (fun n x (t : Mm) => FX2_keepIfSooner_67_48_29 n x t) (fun i t => Kp (fun a _ => a = 68) (up g 67 0 (la (pO B l) (nC B))) t ∧ ∀ j, j < i → t 68 j = hm l 50 j) _ 6 ?_ ?_ fu 0 _ ⟨Kp_r _ _, fun j hj => by omega⟩ (by omega) (by have := fub; omega)
    · rintro n t ⟨i1, i2⟩
      rw [FX2_keepIfSooner_67_48_29, if_pos (by omega)]
      refine Wp_some ⟨fun a j h => by rw [i1 a j (by omega), up_n (by omega)], ?_⟩
      unfold stO
      rw [if_pos q]
      refine ⟨?_, ?_, hl, fun _ j hj => i2 j (by have := (WF_C hB).1; omega)⟩
      · show t 67 0 = if la (pO B l) (nC B) < 10000000 then la (pO B l) (nC B) else -1
        rw [i1 67 0 (by omega), up_s, if_pos (by omega)]
      · show t 67 1 = _
        rw [i1 67 1 (by omega), up_n (by omega), h1]
    · rintro n i t hi ⟨i1, i2⟩
      left
      have e : t 50 i = hm l 50 i := by rw [i1 50 i (by omega), up_n (by omega)]; exact hO i hi
      refine ⟨up t 68 i (hm l 50 i), ?_, Kp_u i1 rfl, fun j hj => ?_⟩
      · show FX2_keepIfSooner_67_48_29 (n + 1) (i : Int) t = _
        rw [FX2_keepIfSooner_67_48_29, if_neg (by omega), if_pos (by omega), if_pos (by omega), nx i (by omega), Int.toNat_natCast, e]
      · by_cases h : j = i
        · subst h; rw [up_s]
        · rw [up_n (by omega)]; exact i2 j (by omega)
  unfold FX2_keepIfSooner_67_48 FX2_keepIfSooner_67_48_0
  rw [h0]
  by_cases q1 : la (pO B l) (nC B) < 10000000
  · rw [if_pos q1, if_neg (by omega)]
    by_cases q2 : s.1 < 10000000
    · rw [if_pos q2, if_neg (by omega)]
      by_cases q3 : la (pO B l) (nC B) < s.1
      · rw [if_pos q3]; exact go q3
      · rw [if_neg q3]; exact Wp_some ⟨Kp_r _ _, stay q3⟩
    · rw [if_neg q2, if_pos rfl]
      exact go (by omega)
  · rw [if_neg q1, if_pos rfl]
    exact Wp_some ⟨Kp_r _ _, stay (by omega)⟩

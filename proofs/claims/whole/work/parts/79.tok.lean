/-! the TAPE read: TOKENS -/
def ltr (x : Int) : Bool := decide (97 ≤ x ∧ x ≤ 122)
def dgt (x : Int) : Bool := decide (48 ≤ x ∧ x ≤ 57)
def blk (x : Int) : Bool := decide (x = 32 ∨ x = 10)
def runT (c : Int → Bool) (T : Nat → Int) (n : Nat) : Nat → Nat → Nat
  | 0, p => p
  | k + 1, p => if p < n ∧ c (T p) = true then runT c T n k (p + 1) else p
def endp (c : Int → Bool) (T : Nat → Int) (n p : Nat) : Nat := runT c T n (n - p) p
theorem endp_s {c : Int → Bool} {T : Nat → Int} {n p : Nat} (h : p < n) (hc : c (T p) = true) : endp c T n p = endp c T n (p + 1) := by
  unfold endp
  obtain ⟨k, hk⟩ : ∃ k, n - p = k + 1 := ⟨n - p - 1, by omega⟩
  rw [hk, show n - (p + 1) = k by omega]
  show (if p < n ∧ c (T p) = true then runT c T n k (p + 1) else p) = _
  rw [if_pos ⟨h, hc⟩]
theorem endp_e {c : Int → Bool} {T : Nat → Int} {n p : Nat} (h : ¬ (p < n ∧ c (T p) = true)) : endp c T n p = p := by
  unfold endp
  cases hk : n - p with
  | zero => rfl
  | succ k =>
    show (if p < n ∧ c (T p) = true then runT c T n k (p + 1) else p) = _
    rw [if_neg h]
theorem endp_r {c : Int → Bool} {T : Nat → Int} {n : Nat} : ∀ (k p : Nat), n - p = k → p ≤ n → p ≤ endp c T n p ∧ endp c T n p ≤ n ∧ (∀ i, p ≤ i → i < endp c T n p → c (T i) = true) ∧ ¬ (endp c T n p < n ∧ c (T (endp c T n p)) = true) := by
  intro k
  induction k with
  | zero =>
    intro p hk hp
    rw [endp_e (by omega)]
    exact ⟨Nat.le_refl _, hp, fun i h1 h2 => by omega, by omega⟩
  | succ k ih =>
    intro p hk hp
    by_cases h : c (T p) = true
    · obtain ⟨h1, h2, h3, h4⟩ := ih (p + 1) (by omega) (by omega)
      rw [endp_s (by omega) h]
      refine ⟨by omega, h2, fun i q1 q2 => ?_, h4⟩
      by_cases q : i = p
      · rw [q]; exact h
      · exact h3 i (by omega) q2
    · rw [endp_e (fun q => h q.2)]
      exact ⟨Nat.le_refl _, hp, fun i h1 h2 => by omega, fun q => h q.2⟩
theorem endp_b {c : Int → Bool} {T : Nat → Int} {n p : Nat} (h : p ≤ n) : p ≤ endp c T n p ∧ endp c T n p ≤ n := ⟨(endp_r _ p rfl h).1, (endp_r _ p rfl h).2.1⟩
def tkd (T : Nat → Int) (n q : Nat) : Int := if q < n then (if ltr (T q) = true then 1 else if dgt (T q) = true then 2 else if T q = 59 then 3 else 4) else 0
def en (T : Nat → Int) (n q : Nat) : Nat := if q < n then (if ltr (T q) = true then endp ltr T n q else if dgt (T q) = true then endp dgt T n q else q + 1) else q
theorem en_r {T : Nat → Int} {n q : Nat} (h : q ≤ n) : q ≤ en T n q ∧ en T n q ≤ n ∧ (q < n → q < en T n q) := by
  unfold en
  by_cases h1 : q < n
  · rw [if_pos h1]
    by_cases h2 : ltr (T q) = true
    · rw [if_pos h2, endp_s h1 h2]
      have := endp_b (c := ltr) (T := T) (n := n) (p := q + 1) (by omega)
      omega
    · rw [if_neg h2]
      by_cases h3 : dgt (T q) = true
      · rw [if_pos h3, endp_s h1 h3]
        have := endp_b (c := dgt) (T := T) (n := n) (p := q + 1) (by omega)
        omega
      · rw [if_neg h3]; omega
  · rw [if_neg h1]; omega
def acF (T : Nat → Int) (q : Nat) : Nat → Int
  | 0 => 0
  | k + 1 => jMin 100000 (acF T q k * 10 + T (q + k) - 48)
def avF (T : Nat → Int) (q : Nat) : Nat → Int
  | 0 => 0
  | k + 1 => if avF T q k ≤ 100000 then 10 * avF T q k + T (q + k) - 48 else 1000000
def awF (T : Nat → Int) (q : Nat) : Nat → Int
  | 0 => 0
  | k + 1 => if k ≤ 11 then 27 * awF T q k + T (q + k) - 96 else -1
def cam (T : Nat → Int) (n q : Nat) : Int := if tkd T n q = 2 then acF T q (en T n q - q) else 0
def vam (T : Nat → Int) (n q : Nat) : Int := if tkd T n q = 2 then avF T q (en T n q - q) else 0
def wam (T : Nat → Int) (n q : Nat) : Int := if tkd T n q = 1 then awF T q (en T n q - q) else 0
def nxt (T : Nat → Int) (n q : Nat) : Nat := endp blk T n (en T n q)
theorem nxt_r {T : Nat → Int} {n q : Nat} (h : q ≤ n) : q ≤ nxt T n q ∧ nxt T n q ≤ n ∧ (q < n → q < nxt T n q) := by
  have h1 := en_r (T := T) h
  have h2 := endp_b (c := blk) (T := T) (n := n) (p := en T n q) h1.2.1
  unfold nxt
  omega
theorem ac_r {T : Nat → Int} {q : Nat} : ∀ k, (∀ i, i < k → 48 ≤ T (q + i) ∧ T (q + i) ≤ 57) → (0 ≤ acF T q k ∧ acF T q k ≤ 100000) ∧ (0 ≤ avF T q k ∧ avF T q k ≤ 1000009) ∧ ((acF T q k = avF T q k ∧ avF T q k < 100000) ∨ (acF T q k = 100000 ∧ 100000 ≤ avF T q k))
  | 0, _ => by unfold acF avF; omega
  | k + 1, h => by
    obtain ⟨h1, h2, h3⟩ := ac_r (T := T) (q := q) k (fun i hi => h i (by omega))
    have hk := h k (by omega)
    have e1 : acF T q (k + 1) = jMin 100000 (acF T q k * 10 + T (q + k) - 48) := rfl
    have e2 : avF T q (k + 1) = if avF T q k ≤ 100000 then 10 * avF T q k + T (q + k) - 48 else 1000000 := rfl
    rw [e1, e2]
    unfold jMin
    split <;> split <;> omega
/-- the class's hold on the TAPE -/
def TPc (T : Nat → Int) (n : Nat) (f : Mm) : Prop := f 2 1 = (n : Int) ∧ ∀ j, j < n → f 3 j = T j
def TPm (T : Nat → Int) (n : Nat) (f : Mm) : Prop := f 150 6 = (n : Int) ∧ ∀ j, j < n → f 155 j = T j
def S1c (a j : Nat) : Prop := a = 1 ∧ 3 ≤ j ∧ j ≤ 6
theorem TPc_k {T : Nat → Int} {n : Nat} {f g : Mm} (h : TPc T n f) (hk : ∀ a j, 2 ≤ a → a ≤ 3 → g a j = f a j) : TPc T n g := ⟨by rw [hk 2 1 (by decide) (by decide)]; exact h.1, fun j hj => by rw [hk 3 j (by decide) (by decide)]; exact h.2 j hj⟩
theorem TPm_k {T : Nat → Int} {n : Nat} {f g : Mm} (h : TPm T n f) (h1 : g 150 6 = f 150 6) (hk : ∀ j, g 155 j = f 155 j) : TPm T n g := ⟨by rw [h1]; exact h.1, fun j hj => by rw [hk j]; exact h.2 j hj⟩
theorem byteAt_e {T : Nat → Int} {n : Nat} {f : Mm} (h : TPc T n f) (hn : n ≤ 800) {p : Nat} (hp : p < n) : FX4_byteAt (p : Int) f = some (T p, f) := by
  unfold FX4_byteAt FX4_byteAt_0
  rw [if_neg (by omega), if_neg (by omega), if_pos (by omega), Int.toNat_natCast, h.2 p hp]
theorem isLetter_e (x : Int) (f : Mm) : FX4_isLetter x f = some (if ltr x = true then 1 else 0, f) := by
  unfold FX4_isLetter FX4_isLetter_0 ltr
  simp only [decide_eq_true_eq]
  grind
theorem isDigit_e (x : Int) (f : Mm) : FX4_isDigit x f = some (if dgt x = true then 1 else 0, f) := by
  unfold FX4_isDigit FX4_isDigit_0 dgt
  simp only [decide_eq_true_eq]
  grind
theorem isBlank_e (x : Int) (f : Mm) : FX4_isBlank x f = some (if blk x = true then 1 else 0, f) := by
  unfold FX4_isBlank FX4_isBlank_0 FX4_isBlank_12 blk
  simp only [decide_eq_true_eq]
  grind
theorem n16_C {T : Nat → Int} {n : Nat} (hn : n ≤ 800) : ∀ (k p m : Nat) (f : Mm), n - p = k → p ≤ n → k < m → TPc T n f → f 1 4 = (p : Int) → ∃ g, FX4_next_16 m f = FX4_next_57 g ∧ g 1 4 = (endp blk T n p : Int) ∧ Kp (fun a j => a = 1 ∧ j = 4) f g := by
  intro k
  induction k with
  | zero =>
    intro p m f hk hp hm ht h4
    obtain ⟨m', rfl⟩ : ∃ m', m = m' + 1 := ⟨m - 1, by omega⟩
    refine ⟨f, ?_, by rw [endp_e (by omega)]; exact h4, Kp_r _ _⟩
    rw [FX4_next_16, ht.1, h4, if_pos (by omega)]
  | succ k ih =>
    intro p m f hk hp hm ht h4
    obtain ⟨m', rfl⟩ : ∃ m', m = m' + 1 := ⟨m - 1, by omega⟩
    rw [FX4_next_16, ht.1, h4, if_neg (by omega), byteAt_e ht hn (by omega), b2_some, isBlank_e, b2_some, h4]
    by_cases q : blk (T p) = true
    · rw [if_pos q, if_neg (show ¬ (1 : Int) = 0 by decide), nx p (by omega), endp_s (by omega) q]
      obtain ⟨g, e1, e2, e3⟩ := ih (p + 1) m' (up f 1 4 ((p + 1 : Nat) : Int)) (by omega) (by omega) (by omega) (TPc_k ht (fun a j h1 h2 => up_n (by omega))) (up_s _ _ _ _)
      exact ⟨g, e1, e2, fun a j h => by rw [e3 a j h, up_n h]⟩
    · rw [if_neg q, if_pos (show (0 : Int) = 0 from rfl)]
      exact ⟨f, rfl, by rw [endp_e (fun w => q w.2)]; exact h4, Kp_r _ _⟩
theorem n111_C {T : Nat → Int} {n : Nat} (hn : n ≤ 800) : ∀ (k p m : Nat) (f : Mm), n - p = k → p ≤ n → k < m → TPc T n f → f 1 5 = (p : Int) → Wp (FX4_next_111 m f) (fun g => g 1 5 = (endp ltr T n p : Int) ∧ Kp (fun a j => a = 1 ∧ j = 5) f g) := by
  intro k
  induction k with
  | zero =>
    intro p m f hk hp hm ht h4
    obtain ⟨m', rfl⟩ : ∃ m', m = m' + 1 := ⟨m - 1, by omega⟩
    rw [FX4_next_111, ht.1, h4, if_pos (by omega)]
    exact Wp_some ⟨by rw [endp_e (by omega)]; exact h4, Kp_r _ _⟩
  | succ k ih =>
    intro p m f hk hp hm ht h4
    obtain ⟨m', rfl⟩ : ∃ m', m = m' + 1 := ⟨m - 1, by omega⟩
    rw [FX4_next_111, ht.1, h4, if_neg (by omega), byteAt_e ht hn (by omega), b2_some, isLetter_e, b2_some, h4]
    by_cases q : ltr (T p) = true
    · rw [if_pos q, if_neg (show ¬ (1 : Int) = 0 by decide), nx p (by omega), endp_s (by omega) q]
      refine Wp_mono (ih (p + 1) m' (up f 1 5 ((p + 1 : Nat) : Int)) (by omega) (by omega) (by omega) (TPc_k ht (fun a j h1 h2 => up_n (by omega))) (up_s _ _ _ _)) (fun g ⟨e2, e3⟩ => ⟨e2, fun a j h => by rw [e3 a j h, up_n h]⟩)
    · rw [if_neg q, if_pos (show (0 : Int) = 0 from rfl)]
      exact Wp_some ⟨by rw [endp_e (fun w => q w.2)]; exact h4, Kp_r _ _⟩
theorem n160_C {T : Nat → Int} {n q0 : Nat} (hn : n ≤ 800) : ∀ (k p m : Nat) (f : Mm), n - p = k → p ≤ n → k < m → TPc T n f → f 1 5 = (p : Int) → q0 ≤ p → (∀ i, q0 ≤ i → i < p → dgt (T i) = true) → f 1 6 = acF T q0 (p - q0) → Wp (FX4_next_160 m f) (fun g => g 1 5 = (endp dgt T n p : Int) ∧ g 1 6 = acF T q0 (endp dgt T n p - q0) ∧ Kp (fun a j => a = 1 ∧ (j = 5 ∨ j = 6)) f g) := by
  intro k
  induction k with
  | zero =>
    intro p m f hk hp hm ht h4 hq hd h6
    obtain ⟨m', rfl⟩ : ∃ m', m = m' + 1 := ⟨m - 1, by omega⟩
    rw [FX4_next_160, ht.1, h4, if_pos (by omega)]
    have e : endp dgt T n p = p := endp_e (by omega)
    exact Wp_some ⟨by rw [e]; exact h4, by rw [e]; exact h6, Kp_r _ _⟩
  | succ k ih =>
    intro p m f hk hp hm ht h4 hq hd h6
    obtain ⟨m', rfl⟩ : ∃ m', m = m' + 1 := ⟨m - 1, by omega⟩
    rw [FX4_next_160, ht.1, h4, if_neg (by omega), byteAt_e ht hn (by omega), b2_some, isDigit_e, b2_some, h4, byteAt_e ht hn (by omega), b2_some, h4]
    by_cases q : dgt (T p) = true
    · have hr := (ac_r (T := T) (q := q0) (p - q0) (fun i hi => of_decide_eq_true (hd (q0 + i) (by omega) (by omega)))).1
      have hb := of_decide_eq_true q
      have e : acF T q0 (p + 1 - q0) = jMin 100000 (acF T q0 (p - q0) * 10 + T p - 48) := by
        rw [show p + 1 - q0 = (p - q0) + 1 by omega]
        show jMin 100000 (acF T q0 (p - q0) * 10 + T (q0 + (p - q0)) - 48) = _
        rw [show q0 + (p - q0) = p by omega]
      rw [if_pos q, if_neg (show ¬ (1 : Int) = 0 by decide), nx p (by omega), endp_s (by omega) q, h6, w32s (x := acF T q0 (p - q0) * 10) (by omega) (by omega), w32s (x := acF T q0 (p - q0) * 10 + T p) (by omega) (by omega), w32s (by omega) (by omega), ← e]
      refine Wp_mono (ih (p + 1) m' (up (up f 1 6 (acF T q0 (p + 1 - q0))) 1 5 ((p + 1 : Nat) : Int)) (by omega) (by omega) (by omega) (TPc_k ht (fun a j h1 h2 => by rw [up_n (by omega), up_n (by omega)])) (up_s _ _ _ _) (by omega) (fun i h1 h2 => ?_) (by rw [up_n (by omega), up_s])) (fun g ⟨e2, e3, e4⟩ => ⟨e2, e3, fun a j h => by rw [e4 a j h, up_n (by omega), up_n (by omega)]⟩)
      by_cases w : i = p
      · rw [w]; exact q
      · exact hd i h1 (by omega)
    · rw [if_neg q, if_pos (show (0 : Int) = 0 from rfl)]
      have e : endp dgt T n p = p := endp_e (fun w => q w.2)
      exact Wp_some ⟨by rw [e]; exact h4, by rw [e]; exact h6, Kp_r _ _⟩
/-- the class stands at a TOKEN -/
def CU (T : Nat → Int) (n q : Nat) (f : Mm) : Prop := q ≤ n ∧ f 1 3 = tkd T n q ∧ f 1 4 = (q : Int) ∧ f 1 5 = (en T n q : Int) ∧ f 1 6 = cam T n q
theorem tokenOf_e (x : Int) (f : Mm) : FX4_tokenOf x f = some (if ltr x = true then 1 else if dgt x = true then 2 else if x = 59 then 3 else 4, f) := by
  unfold FX4_tokenOf FX4_tokenOf_0
  rw [isLetter_e, b2_some, isDigit_e, b2_some]
  by_cases h1 : ltr x = true
  · rw [if_pos h1, if_pos h1, if_neg (show ¬ (1 : Int) = 0 by decide)]
  · rw [if_neg h1, if_neg h1, if_pos (show (0 : Int) = 0 from rfl)]
    by_cases h2 : dgt x = true
    · rw [if_pos h2, if_pos h2, if_neg (show ¬ (1 : Int) = 0 by decide)]
    · rw [if_neg h2, if_neg h2, if_pos (show (0 : Int) = 0 from rfl)]
      by_cases h3 : x = 59
      · rw [if_pos h3, if_pos h3]
      · rw [if_neg h3, if_neg h3]
theorem n87_C {T : Nat → Int} {n : Nat} (hn : n ≤ 800) {q : Nat} (hq : q ≤ n) {f : Mm} (ht : TPc T n f) (h4 : f 1 4 = (q : Int)) : Wp (FX4_next_87 (tkd T n q) f) (fun g => CU T n q g ∧ Kp (fun a j => a = 1 ∧ (j = 3 ∨ j = 5 ∨ j = 6)) f g) := by
  unfold FX4_next_87
  rw [h4]
  have k1 : Kp (fun a j => a = 1 ∧ (j = 3 ∨ j = 5 ∨ j = 6)) f (up (up (up f 1 3 (tkd T n q)) 1 5 (q : Int)) 1 6 0) := Kp_u (Kp_u (Kp_u (Kp_r _ _) (by omega)) (by omega)) (by omega)
  have v3 : up (up (up f 1 3 (tkd T n q)) 1 5 (q : Int)) 1 6 0 1 3 = tkd T n q := by rw [up_n (by omega), up_n (by omega), up_s]
  have v4 : up (up (up f 1 3 (tkd T n q)) 1 5 (q : Int)) 1 6 0 1 4 = (q : Int) := by rw [k1 1 4 (by omega)]; exact h4
  have v5 : up (up (up f 1 3 (tkd T n q)) 1 5 (q : Int)) 1 6 0 1 5 = (q : Int) := by rw [up_n (by omega), up_s]
  have v6 : up (up (up f 1 3 (tkd T n q)) 1 5 (q : Int)) 1 6 0 1 6 = 0 := by rw [up_s]
  have ht1 : TPc T n (up (up (up f 1 3 (tkd T n q)) 1 5 (q : Int)) 1 6 0) := TPc_k ht (fun a j h1 h2 => k1 a j (by omega))
  generalize up (up (up f 1 3 (tkd T n q)) 1 5 (q : Int)) 1 6 0 = g at *
  by_cases c0 : q < n
  · by_cases c1 : ltr (T q) = true
    · have ek : tkd T n q = 1 := by unfold tkd; rw [if_pos c0, if_pos c1]
      have ee : en T n q = endp ltr T n q := by unfold en; rw [if_pos c0, if_pos c1]
      have ec : cam T n q = 0 := by unfold cam; rw [ek, if_neg (by decide)]
      rw [ek, if_pos (show (1 : Int) = 1 from rfl)]
      refine Wp_mono (n111_C hn _ q fu g rfl hq (by have := fub; omega) ht1 v5) (fun g2 ⟨e1, e2⟩ => ⟨⟨hq, by rw [e2 1 3 (by omega)]; exact v3, by rw [e2 1 4 (by omega)]; exact v4, by rw [ee]; exact e1, by rw [e2 1 6 (by omega), ec]; exact v6⟩, Kp_t k1 (Kp_m e2 (fun a j h => by omega))⟩)
    · by_cases c2 : dgt (T q) = true
      · have ek : tkd T n q = 2 := by unfold tkd; rw [if_pos c0, if_neg c1, if_pos c2]
        have ee : en T n q = endp dgt T n q := by unfold en; rw [if_pos c0, if_neg c1, if_pos c2]
        have ec : cam T n q = acF T q (endp dgt T n q - q) := by unfold cam; rw [ek, if_pos rfl, ee]
        rw [ek, if_neg (by decide), if_pos (show (2 : Int) = 2 from rfl)]
        refine Wp_mono (n160_C (q0 := q) hn _ q fu g rfl hq (by have := fub; omega) ht1 v5 (Nat.le_refl _) (fun i h1 h2 => by omega) (by rw [v6, Nat.sub_self]; rfl)) (fun g2 ⟨e1, e3, e2⟩ => ⟨⟨hq, by rw [e2 1 3 (by omega)]; exact v3, by rw [e2 1 4 (by omega)]; exact v4, by rw [ee]; exact e1, by rw [ec]; exact e3⟩, Kp_t k1 (Kp_m e2 (fun a j h => by omega))⟩)
      · have ee : en T n q = q + 1 := by unfold en; rw [if_pos c0, if_neg c1, if_neg c2]
        have hk : tkd T n q = 3 ∨ tkd T n q = 4 := by unfold tkd; rw [if_pos c0, if_neg c1, if_neg c2]; split; exact Or.inl rfl; exact Or.inr rfl
        have ec : cam T n q = 0 := by unfold cam; rw [if_neg (by omega)]
        rw [if_neg (by omega), if_neg (by omega), if_neg (by omega), nx q (by omega)]
        exact Wp_some ⟨⟨hq, by rw [up_n (by omega)]; exact v3, by rw [up_n (by omega)]; exact v4, by rw [up_s, ee], by rw [up_n (by omega), ec]; exact v6⟩, Kp_u k1 (by omega)⟩
  · have ek : tkd T n q = 0 := by unfold tkd; rw [if_neg c0]
    have ee : en T n q = q := by unfold en; rw [if_neg c0]
    have ec : cam T n q = 0 := by unfold cam; rw [ek, if_neg (by decide)]
    rw [ek, if_neg (by decide), if_neg (by decide), if_pos (show (0 : Int) = 0 from rfl)]
    exact Wp_some ⟨⟨hq, v3, v4, by rw [ee]; exact v5, by rw [ec]; exact v6⟩, k1⟩
theorem next_C {T : Nat → Int} {n : Nat} (hn : n ≤ 800) {p : Nat} (hp : p ≤ n) {f : Mm} (ht : TPc T n f) (h0 : f 1 0 = 0) (h5 : f 1 5 = (p : Int)) : Wp (FX4_next f) (fun g => CU T n (endp blk T n p) g ∧ Kp S1c f g) := by
  unfold FX4_next FX4_next_0
  rw [if_pos h0, h5]
  obtain ⟨g, e1, e2, e3⟩ := n16_C hn (n - p) p fu (up f 1 4 (p : Int)) rfl hp (by have := fub; omega) (TPc_k ht (fun a j h1 h2 => up_n (by omega))) (up_s _ _ _ _)
  have hq := endp_b (c := blk) (T := T) hp
  have k1 : Kp S1c f g := fun a j h => by unfold S1c at h; rw [e3 a j (by omega), up_n (by omega)]
  have ht1 : TPc T n g := TPc_k ht (fun a j h1 h2 => k1 a j (by unfold S1c; omega))
  rw [e1]
  unfold FX4_next_57
  generalize endp blk T n p = q at *
  have fin := n87_C hn hq.2 ht1 e2
  rw [ht1.1, e2]
  by_cases c : q < n
  · have ek : tkd T n q = if ltr (T q) = true then 1 else if dgt (T q) = true then 2 else if T q = 59 then 3 else 4 := by unfold tkd; rw [if_pos c]
    rw [if_neg (by omega), byteAt_e ht1 hn c, b2_some, tokenOf_e, b2_some, ← ek]
    exact Wp_mono fin (fun g2 ⟨h1, h2⟩ => ⟨h1, Kp_t k1 (Kp_m h2 (fun a j h => by unfold S1c; omega))⟩)
  · have ek : tkd T n q = 0 := by unfold tkd; rw [if_neg c]
    rw [if_pos (by omega), ← ek]
    exact Wp_mono fin (fun g2 ⟨h1, h2⟩ => ⟨h1, Kp_t k1 (Kp_m h2 (fun a j h => by unfold S1c; omega))⟩)

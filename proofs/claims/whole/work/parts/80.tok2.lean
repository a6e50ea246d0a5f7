/-! TOKENS: the model; words -/
def S1m (a j : Nat) : Prop := a = 150 ∧ 7 ≤ j ∧ j ≤ 11
theorem isByte_e {T : Nat → Int} {n : Nat} {f : Mm} (h : TPm T n f) (hn : n ≤ 800) {p : Nat} (hp : p ≤ n) (lo hi : Int) : FX11_isByte (p : Int) lo hi f = some (if p < n ∧ lo ≤ T p ∧ T p ≤ hi then 1 else 0, f) := by
  unfold FX11_isByte FX11_isByte_0
  rw [h.1]
  by_cases c : p < n
  · have hI : (0 : Int) ≤ (p : Int) ∧ (p : Int) < 800 := by omega
    rw [if_neg (by omega)]
    simp only [if_pos hI]
    rw [Int.toNat_natCast, h.2 p c]
    by_cases q1 : T p < lo
    · rw [if_pos q1, if_neg (by omega)]
    · rw [if_neg q1]
      by_cases q2 : hi < T p
      · rw [if_pos q2, if_neg (by omega)]
      · rw [if_neg q2, if_pos (by omega)]
  · rw [if_pos (by omega), if_neg (fun w => c w.1)]
theorem n0_M {T : Nat → Int} {n : Nat} (hn : n ≤ 800) : ∀ (k p m : Nat) (f : Mm), n - p = k → p ≤ n → k < m → TPm T n f → f 150 7 = (p : Int) → ∃ g, FX11_next_0 m f = FX11_next_43 g ∧ g 150 7 = (endp blk T n p : Int) ∧ Kp (fun a j => a = 150 ∧ j = 7) f g := by
  intro k
  induction k with
  | zero =>
    intro p m f hk hp hm ht h4
    obtain ⟨m', rfl⟩ : ∃ m', m = m' + 1 := ⟨m - 1, by omega⟩
    refine ⟨f, ?_, by rw [endp_e (by omega)]; exact h4, Kp_r _ _⟩
    rw [FX11_next_0, h4, isByte_e ht hn hp, b2_some, h4, isByte_e ht hn hp, b2_some, if_neg (show ¬ (p < n ∧ 32 ≤ T p ∧ T p ≤ 32) by omega), if_pos (show (0 : Int) = 0 from rfl), if_neg (show ¬ (p < n ∧ 10 ≤ T p ∧ T p ≤ 10) by omega), if_pos (show (0 : Int) = 0 from rfl)]
  | succ k ih =>
    intro p m f hk hp hm ht h4
    obtain ⟨m', rfl⟩ : ∃ m', m = m' + 1 := ⟨m - 1, by omega⟩
    rw [FX11_next_0, h4, isByte_e ht hn hp, b2_some, h4, isByte_e ht hn hp, b2_some]
    unfold FX11_next_30
    rw [h4, nx p (by omega)]
    have go : blk (T p) = true → ∃ g, FX11_next_0 m' (up f 150 7 ((p + 1 : Nat) : Int)) = FX11_next_43 g ∧ g 150 7 = (endp blk T n p : Int) ∧ Kp (fun a j => a = 150 ∧ j = 7) f g := fun q => by
      rw [endp_s (by omega) q]
      obtain ⟨g, e1, e2, e3⟩ := ih (p + 1) m' (up f 150 7 ((p + 1 : Nat) : Int)) (by omega) (by omega) (by omega) (TPm_k ht (up_n (by omega)) (fun j => up_n (by omega))) (up_s _ _ _ _)
      exact ⟨g, e1, e2, fun a j h => by rw [e3 a j h, up_n h]⟩
    by_cases q1 : T p = 32
    · rw [if_pos (show p < n ∧ 32 ≤ T p ∧ T p ≤ 32 by omega), if_neg (show ¬ (1 : Int) = 0 by decide)]
      exact go (decide_eq_true (Or.inl q1))
    · rw [if_neg (show ¬ (p < n ∧ 32 ≤ T p ∧ T p ≤ 32) by omega), if_pos (show (0 : Int) = 0 from rfl)]
      by_cases q2 : T p = 10
      · rw [if_pos (show p < n ∧ 10 ≤ T p ∧ T p ≤ 10 by omega), if_neg (show ¬ (1 : Int) = 0 by decide)]
        exact go (decide_eq_true (Or.inr q2))
      · rw [if_neg (show ¬ (p < n ∧ 10 ≤ T p ∧ T p ≤ 10) by omega), if_pos (show (0 : Int) = 0 from rfl)]
        have hb : ¬ (p < n ∧ blk (T p) = true) := fun w => by
          have := of_decide_eq_true w.2
          omega
        exact ⟨f, rfl, by rw [endp_e hb]; exact h4, Kp_r _ _⟩
theorem p27 {k : Nat} (h : k ≤ 12) : (27 : Int) ^ k ≤ 150094635296999121 := by
  rcases (show k = 0 ∨ k = 1 ∨ k = 2 ∨ k = 3 ∨ k = 4 ∨ k = 5 ∨ k = 6 ∨ k = 7 ∨ k = 8 ∨ k = 9 ∨ k = 10 ∨ k = 11 ∨ k = 12 by omega) with rfl | rfl | rfl | rfl | rfl | rfl | rfl | rfl | rfl | rfl | rfl | rfl | rfl <;> decide
theorem aw_r {T : Nat → Int} {q : Nat} : ∀ k, k ≤ 12 → (∀ i, i < k → 97 ≤ T (q + i) ∧ T (q + i) ≤ 122) → 0 ≤ awF T q k ∧ awF T q k < 27 ^ k
  | 0, _, _ => by unfold awF; decide
  | k + 1, hk, h => by
    have ih := aw_r (T := T) (q := q) k (by omega) (fun i hi => h i (by omega))
    have hb := h k (by omega)
    have e : awF T q (k + 1) = 27 * awF T q k + T (q + k) - 96 := by
      show (if k ≤ 11 then 27 * awF T q k + T (q + k) - 96 else -1) = _
      rw [if_pos (by omega)]
    have e2 : (27 : Int) ^ (k + 1) = 27 ^ k * 27 := Int.pow_succ 27 k
    rw [e, e2]
    omega
theorem n102_M {T : Nat → Int} {n q0 : Nat} (hn : n ≤ 800) : ∀ (k p m : Nat) (f : Mm), n - p = k → p ≤ n → k < m → TPm T n f → f 150 7 = (p : Int) → q0 ≤ p → (∀ i, q0 ≤ i → i < p → ltr (T i) = true) → f 150 11 = awF T q0 (p - q0) → Wp (FX11_next_102 m ((p - q0 : Nat) : Int) f) (fun g => g 150 7 = (endp ltr T n p : Int) ∧ g 150 11 = awF T q0 (endp ltr T n p - q0) ∧ Kp (fun a j => a = 150 ∧ (j = 7 ∨ j = 11)) f g) := by
  intro k
  induction k with
  | zero =>
    intro p m f hk hp hm ht h4 hq hd h6
    obtain ⟨m', rfl⟩ : ∃ m', m = m' + 1 := ⟨m - 1, by omega⟩
    rw [FX11_next_102, h4, isByte_e ht hn hp, b2_some, if_neg (show ¬ (p < n ∧ 97 ≤ T p ∧ T p ≤ 122) by omega), if_pos (show (0 : Int) = 0 from rfl)]
    have e : endp ltr T n p = p := endp_e (by omega)
    exact Wp_some ⟨by rw [e]; exact h4, by rw [e]; exact h6, Kp_r _ _⟩
  | succ k ih =>
    intro p m f hk hp hm ht h4 hq hd h6
    obtain ⟨m', rfl⟩ : ∃ m', m = m' + 1 := ⟨m - 1, by omega⟩
    rw [FX11_next_102, h4, isByte_e ht hn hp, b2_some]
    by_cases q : ltr (T p) = true
    · have hb := of_decide_eq_true q
      rw [if_pos (show p < n ∧ 97 ≤ T p ∧ T p ≤ 122 by omega), if_neg (show ¬ (1 : Int) = 0 by decide), endp_s (by omega) q]
      have rcs : ∀ f1 : Mm, Kp (fun a j => a = 150 ∧ j = 11) f f1 → f1 150 11 = awF T q0 (p + 1 - q0) → Wp (FX11_next_169 (FX11_next_102 m') ((p - q0 : Nat) : Int) f1) (fun g => g 150 7 = (endp ltr T n (p + 1) : Int) ∧ g 150 11 = awF T q0 (endp ltr T n (p + 1) - q0) ∧ Kp (fun a j => a = 150 ∧ (j = 7 ∨ j = 11)) f g) := by
        intro f1 kf e11
        unfold FX11_next_169
        have e7 : f1 150 7 = (p : Int) := by rw [kf 150 7 (by omega)]; exact h4
        rw [e7, nx p (by omega), nx (p - q0) (by omega), show p - q0 + 1 = p + 1 - q0 by omega]
        refine Wp_mono (ih (p + 1) m' (up f1 150 7 ((p + 1 : Nat) : Int)) (by omega) (by omega) (by omega) (TPm_k ht (by rw [up_n (by omega), kf 150 6 (by omega)]) (fun j => by rw [up_n (by omega), kf 155 j (by omega)])) (up_s _ _ _ _) (by omega) (fun i h1 h2 => ?_) (by rw [up_n (by omega)]; exact e11)) (fun g ⟨e2, e3, e4⟩ => ⟨e2, e3, fun a j h => by rw [e4 a j h, up_n (by omega), kf a j (by omega)]⟩)
        by_cases w : i = p
        · rw [w]; exact q
        · exact hd i h1 (by omega)
      have ea : awF T q0 (p + 1 - q0) = if p - q0 ≤ 11 then 27 * awF T q0 (p - q0) + T p - 96 else -1 := by
        rw [show p + 1 - q0 = (p - q0) + 1 by omega]
        show (if p - q0 ≤ 11 then 27 * awF T q0 (p - q0) + T (q0 + (p - q0)) - 96 else -1) = _
        rw [show q0 + (p - q0) = p by omega]
      by_cases c : p - q0 ≤ 11
      · have hr := aw_r (T := T) (q := q0) (p - q0) (by omega) (fun i hi => of_decide_eq_true (hd (q0 + i) (by omega) (by omega)))
        have hp27 := p27 (k := p - q0) (by omega)
        rw [if_pos c] at ea
        rw [if_pos (by omega), h4, if_pos (by omega), Int.toNat_natCast, ht.2 p (by omega), h6, w64s (x := 27 * awF T q0 (p - q0)) (by omega) (by omega), w64s (x := 27 * awF T q0 (p - q0) + T p) (by omega) (by omega), w64s (by omega) (by omega), ← ea]
        unfold FX11_next_153
        rw [if_pos (by omega)]
        exact rcs _ (Kp_u (Kp_r _ _) (by omega)) (up_s _ _ _ _)
      · rw [if_neg c] at ea
        rw [if_neg (by omega)]
        unfold FX11_next_153
        rw [if_neg (by omega)]
        exact rcs _ (Kp_u (Kp_u (Kp_r _ _) (by omega)) (by omega)) (by rw [up_s, ea])
    · have hb : ¬ (97 ≤ T p ∧ T p ≤ 122) := of_decide_eq_false (by cases h : ltr (T p); exact h; exact absurd h q)
      rw [if_neg (show ¬ (p < n ∧ 97 ≤ T p ∧ T p ≤ 122) by omega), if_pos (show (0 : Int) = 0 from rfl)]
      have e : endp ltr T n p = p := endp_e (fun w => q w.2)
      exact Wp_some ⟨by rw [e]; exact h4, by rw [e]; exact h6, Kp_r _ _⟩
theorem n208_M {T : Nat → Int} {n q0 : Nat} (hn : n ≤ 800) : ∀ (k p m : Nat) (f : Mm), n - p = k → p ≤ n → k < m → TPm T n f → f 150 7 = (p : Int) → q0 ≤ p → (∀ i, q0 ≤ i → i < p → dgt (T i) = true) → f 150 10 = avF T q0 (p - q0) → Wp (FX11_next_208 m f) (fun g => g 150 7 = (endp dgt T n p : Int) ∧ g 150 10 = avF T q0 (endp dgt T n p - q0) ∧ Kp (fun a j => a = 150 ∧ (j = 7 ∨ j = 10)) f g) := by
  intro k
  induction k with
  | zero =>
    intro p m f hk hp hm ht h4 hq hd h6
    obtain ⟨m', rfl⟩ : ∃ m', m = m' + 1 := ⟨m - 1, by omega⟩
    rw [FX11_next_208, h4, isByte_e ht hn hp, b2_some, if_neg (show ¬ (p < n ∧ 48 ≤ T p ∧ T p ≤ 57) by omega), if_pos (show (0 : Int) = 0 from rfl)]
    have e : endp dgt T n p = p := endp_e (by omega)
    exact Wp_some ⟨by rw [e]; exact h4, by rw [e]; exact h6, Kp_r _ _⟩
  | succ k ih =>
    intro p m f hk hp hm ht h4 hq hd h6
    obtain ⟨m', rfl⟩ : ∃ m', m = m' + 1 := ⟨m - 1, by omega⟩
    rw [FX11_next_208, h4, isByte_e ht hn hp, b2_some]
    by_cases q : dgt (T p) = true
    · have hb := of_decide_eq_true q
      have hr := (ac_r (T := T) (q := q0) (p - q0) (fun i hi => of_decide_eq_true (hd (q0 + i) (by omega) (by omega)))).2.1
      rw [if_pos (show p < n ∧ 48 ≤ T p ∧ T p ≤ 57 by omega), if_neg (show ¬ (1 : Int) = 0 by decide), endp_s (by omega) q]
      have ea : avF T q0 (p + 1 - q0) = if avF T q0 (p - q0) ≤ 100000 then 10 * avF T q0 (p - q0) + T p - 48 else 1000000 := by
        rw [show p + 1 - q0 = (p - q0) + 1 by omega]
        show (if avF T q0 (p - q0) ≤ 100000 then 10 * avF T q0 (p - q0) + T (q0 + (p - q0)) - 48 else 1000000) = _
        rw [show q0 + (p - q0) = p by omega]
      have rcs : Wp (FX11_next_258 (FX11_next_208 m') (avF T q0 (p + 1 - q0)) f) (fun g => g 150 7 = (endp dgt T n (p + 1) : Int) ∧ g 150 10 = avF T q0 (endp dgt T n (p + 1) - q0) ∧ Kp (fun a j => a = 150 ∧ (j = 7 ∨ j = 10)) f g) := by
        unfold FX11_next_258
        rw [h4, nx p (by omega)]
        refine Wp_mono (ih (p + 1) m' (up (up f 150 10 (avF T q0 (p + 1 - q0))) 150 7 ((p + 1 : Nat) : Int)) (by omega) (by omega) (by omega) (TPm_k ht (by rw [up_n (by omega), up_n (by omega)]) (fun j => by rw [up_n (by omega), up_n (by omega)])) (up_s _ _ _ _) (by omega) (fun i h1 h2 => ?_) (by rw [up_n (by omega), up_s])) (fun g ⟨e2, e3, e4⟩ => ⟨e2, e3, fun a j h => by rw [e4 a j h, up_n (by omega), up_n (by omega)]⟩)
        by_cases w : i = p
        · rw [w]; exact q
        · exact hd i h1 (by omega)
      rw [h6]
      by_cases c : avF T q0 (p - q0) ≤ 100000
      · rw [if_pos c] at ea
        rw [if_pos c, h4, if_pos (by omega), Int.toNat_natCast, ht.2 p (by omega), w32s (x := 10 * avF T q0 (p - q0)) (by omega) (by omega), w32s (x := 10 * avF T q0 (p - q0) + T p) (by omega) (by omega), w32s (by omega) (by omega), ← ea]
        exact rcs
      · rw [if_neg c] at ea
        rw [if_neg c, ← ea]
        exact rcs
    · have hb : ¬ (48 ≤ T p ∧ T p ≤ 57) := of_decide_eq_false (by cases h : dgt (T p); exact h; exact absurd h q)
      rw [if_neg (show ¬ (p < n ∧ 48 ≤ T p ∧ T p ≤ 57) by omega), if_pos (show (0 : Int) = 0 from rfl)]
      have e : endp dgt T n p = p := endp_e (fun w => q w.2)
      exact Wp_some ⟨by rw [e]; exact h4, by rw [e]; exact h6, Kp_r _ _⟩
def MU (T : Nat → Int) (n q : Nat) (f : Mm) : Prop := q ≤ n ∧ f 150 8 = tkd T n q ∧ f 150 9 = (q : Int) ∧ f 150 7 = (en T n q : Int) ∧ f 150 10 = vam T n q ∧ f 150 11 = wam T n q
theorem next_M {T : Nat → Int} {n : Nat} (hn : n ≤ 800) {p : Nat} (hp : p ≤ n) {f : Mm} (ht : TPm T n f) (h7 : f 150 7 = (p : Int)) : Wp (FX11_next f) (fun g => MU T n (endp blk T n p) g ∧ Kp S1m f g) := by
  unfold FX11_next
  obtain ⟨g, e1, e2, e3⟩ := n0_M hn (n - p) p fu f rfl hp (by have := fub; omega) ht h7
  have hq := endp_b (c := blk) (T := T) hp
  rw [e1]
  generalize endp blk T n p = q at *
  have ht1 : TPm T n g := TPm_k ht (e3 150 6 (by omega)) (fun j => e3 155 j (by omega))
  have k1 : Kp S1m f (up (up (up g 150 9 (q : Int)) 150 10 0) 150 11 0) := Kp_u (Kp_u (Kp_u (Kp_m e3 (fun a j h => by unfold S1m; omega)) (by unfold S1m; omega)) (by unfold S1m; omega)) (by unfold S1m; omega)
  have v7 : up (up (up g 150 9 (q : Int)) 150 10 0) 150 11 0 150 7 = (q : Int) := by rw [up_n (by omega), up_n (by omega), up_n (by omega)]; exact e2
  have v9 : up (up (up g 150 9 (q : Int)) 150 10 0) 150 11 0 150 9 = (q : Int) := by rw [up_n (by omega), up_n (by omega), up_s]
  have v10 : up (up (up g 150 9 (q : Int)) 150 10 0) 150 11 0 150 10 = 0 := by rw [up_n (by omega), up_s]
  have v11 : up (up (up g 150 9 (q : Int)) 150 10 0) 150 11 0 150 11 = 0 := by rw [up_s]
  have ht2 : TPm T n (up (up (up g 150 9 (q : Int)) 150 10 0) 150 11 0) := TPm_k ht1 (by rw [up_n (by omega), up_n (by omega), up_n (by omega)]) (fun j => by rw [up_n (by omega), up_n (by omega), up_n (by omega)])
  unfold FX11_next_43
  rw [e2, ht1.1]
  generalize up (up (up g 150 9 (q : Int)) 150 10 0) 150 11 0 = G at *
  by_cases c0 : q < n
  · rw [if_neg (by omega), isByte_e ht2 hn hq.2, b2_some, v7, isByte_e ht2 hn hq.2, b2_some]
    by_cases c1 : ltr (T q) = true
    · have hb := of_decide_eq_true c1
      have ek : tkd T n q = 1 := by unfold tkd; rw [if_pos c0, if_pos c1]
      have ee : en T n q = endp ltr T n q := by unfold en; rw [if_pos c0, if_pos c1]
      have ev : vam T n q = 0 := by unfold vam; rw [ek, if_neg (by decide)]
      have ew : wam T n q = awF T q (endp ltr T n q - q) := by unfold wam; rw [ek, if_pos rfl, ee]
      rw [if_pos (show q < n ∧ 97 ≤ T q ∧ T q ≤ 122 by omega), if_neg (show ¬ (1 : Int) = 0 by decide)]
      have hh := n102_M (q0 := q) hn (n - q) q fu (up G 150 8 1) rfl hq.2 (by have := fub; omega) (TPm_k ht2 (up_n (by omega)) (fun j => up_n (by omega))) (by rw [up_n (by omega)]; exact v7) (Nat.le_refl _) (fun i h1 h2 => by omega) (by rw [up_n (by omega), v11, Nat.sub_self]; rfl)
      rw [Nat.sub_self] at hh
      refine Wp_mono hh (fun g2 ⟨a1, a2, a3⟩ => ⟨⟨hq.2, by rw [a3 150 8 (by omega), up_s, ek], by rw [a3 150 9 (by omega), up_n (by omega)]; exact v9, by rw [ee]; exact a1, by rw [a3 150 10 (by omega), up_n (by omega), ev]; exact v10, by rw [ew]; exact a2⟩, ?_⟩)
      exact Kp_t (Kp_u k1 (by unfold S1m; omega)) (Kp_m a3 (fun a j h => by unfold S1m; omega))
    · have hb : ¬ (97 ≤ T q ∧ T q ≤ 122) := of_decide_eq_false (by cases h : ltr (T q); exact h; exact absurd h c1)
      rw [if_neg (show ¬ (q < n ∧ 97 ≤ T q ∧ T q ≤ 122) by omega), if_pos (show (0 : Int) = 0 from rfl)]
      by_cases c2 : dgt (T q) = true
      · have hb2 := of_decide_eq_true c2
        have ek : tkd T n q = 2 := by unfold tkd; rw [if_pos c0, if_neg c1, if_pos c2]
        have ee : en T n q = endp dgt T n q := by unfold en; rw [if_pos c0, if_neg c1, if_pos c2]
        have ev : vam T n q = avF T q (endp dgt T n q - q) := by unfold vam; rw [ek, if_pos rfl, ee]
        have ew : wam T n q = 0 := by unfold wam; rw [ek, if_neg (by decide)]
        rw [if_pos (show q < n ∧ 48 ≤ T q ∧ T q ≤ 57 by omega), if_neg (show ¬ (1 : Int) = 0 by decide)]
        have hh := n208_M (q0 := q) hn (n - q) q fu (up G 150 8 2) rfl hq.2 (by have := fub; omega) (TPm_k ht2 (up_n (by omega)) (fun j => up_n (by omega))) (by rw [up_n (by omega)]; exact v7) (Nat.le_refl _) (fun i h1 h2 => by omega) (by rw [up_n (by omega), v10, Nat.sub_self]; rfl)
        refine Wp_mono hh (fun g2 ⟨a1, a2, a3⟩ => ⟨⟨hq.2, by rw [a3 150 8 (by omega), up_s, ek], by rw [a3 150 9 (by omega), up_n (by omega)]; exact v9, by rw [ee]; exact a1, by rw [ev]; exact a2, by rw [a3 150 11 (by omega), up_n (by omega), ew]; exact v11⟩, ?_⟩)
        exact Kp_t (Kp_u k1 (by unfold S1m; omega)) (Kp_m a3 (fun a j h => by unfold S1m; omega))
      · have hb2 : ¬ (48 ≤ T q ∧ T q ≤ 57) := of_decide_eq_false (by cases h : dgt (T q); exact h; exact absurd h c2)
        have ee : en T n q = q + 1 := by unfold en; rw [if_pos c0, if_neg c1, if_neg c2]
        have fin : ∀ z, tkd T n q = z → z ≠ 1 → z ≠ 2 → Wp (FX11_next_294 z G) (fun g => MU T n q g ∧ Kp S1m f g) := fun z hz h1 h2 => by
          have ev : vam T n q = 0 := by unfold vam; rw [hz, if_neg h2]
          have ew : wam T n q = 0 := by unfold wam; rw [hz, if_neg h1]
          unfold FX11_next_294
          rw [v7, nx q (by omega)]
          exact Wp_some ⟨⟨hq.2, by rw [up_n (by omega), up_s, hz], by rw [up_n (by omega), up_n (by omega)]; exact v9, by rw [up_s, ee], by rw [up_n (by omega), up_n (by omega), ev]; exact v10, by rw [up_n (by omega), up_n (by omega), ew]; exact v11⟩, Kp_u (Kp_u k1 (by unfold S1m; omega)) (by unfold S1m; omega)⟩
        rw [if_neg (show ¬ (q < n ∧ 48 ≤ T q ∧ T q ≤ 57) by omega), if_pos (show (0 : Int) = 0 from rfl), v7, if_pos (by omega), Int.toNat_natCast, ht2.2 q c0]
        by_cases c3 : T q = 59
        · rw [if_pos c3]
          exact fin 3 (by unfold tkd; rw [if_pos c0, if_neg c1, if_neg c2, if_pos c3]) (by decide) (by decide)
        · rw [if_neg c3]
          exact fin 4 (by unfold tkd; rw [if_pos c0, if_neg c1, if_neg c2, if_neg c3]) (by decide) (by decide)
  · have ek : tkd T n q = 0 := by unfold tkd; rw [if_neg c0]
    have ee : en T n q = q := by unfold en; rw [if_neg c0]
    have ev : vam T n q = 0 := by unfold vam; rw [ek, if_neg (by decide)]
    have ew : wam T n q = 0 := by unfold wam; rw [ek, if_neg (by decide)]
    rw [if_pos (by omega)]
    exact Wp_some ⟨⟨hq.2, by rw [up_s, ek], by rw [up_n (by omega)]; exact v9, by rw [up_n (by omega), ee]; exact v7, by rw [up_n (by omega), ev]; exact v10, by rw [up_n (by omega), ew]; exact v11⟩, Kp_u k1 (by unfold S1m; omega)⟩
/-! words -/
def cod (u : Nat → Int) : Nat → Int
  | 0 => 0
  | k + 1 => 27 * cod u k + u k
theorem cod_0 {u : Nat → Int} : ∀ k, (∀ i, i < k → 1 ≤ u i ∧ u i ≤ 26) → 0 ≤ cod u k
  | 0, _ => Int.le_refl _
  | k + 1, h => by
    have := cod_0 (u := u) k (fun i hi => h i (by omega))
    have := h k (by omega)
    unfold cod
    omega
theorem cod_i {u v : Nat → Int} : ∀ k k', (∀ i, i < k → 1 ≤ u i ∧ u i ≤ 26) → (∀ i, i < k' → 1 ≤ v i ∧ v i ≤ 26) → cod u k = cod v k' → k = k' ∧ ∀ i, i < k → u i = v i
  | 0, 0, _, _, _ => ⟨rfl, fun i h => by omega⟩
  | 0, k' + 1, _, hv, e => by
    have h1 := cod_0 (u := v) k' (fun i hi => hv i (by omega))
    have h2 := hv k' (by omega)
    have e2 : (0 : Int) = 27 * cod v k' + v k' := e
    omega
  | k + 1, 0, hu, _, e => by
    have h1 := cod_0 (u := u) k (fun i hi => hu i (by omega))
    have h2 := hu k (by omega)
    have e2 : 27 * cod u k + u k = (0 : Int) := e
    omega
  | k + 1, k' + 1, hu, hv, e => by
    have h2 := hu k (by omega)
    have h3 := hv k' (by omega)
    have e2 : 27 * cod u k + u k = 27 * cod v k' + v k' := e
    have e3 : cod u k = cod v k' := by omega
    obtain ⟨h4, h5⟩ := cod_i (u := u) (v := v) k k' (fun i hi => hu i (by omega)) (fun i hi => hv i (by omega)) e3
    subst h4
    refine ⟨rfl, fun i hi => ?_⟩
    by_cases q : i = k
    · subst q; omega
    · exact h5 i (by omega)
def wcode (a : Nat) : Int := ([38444009, 80155, 3291049, 1900846, 298288, 82516, 79, 1903978, 10656676, 3913426, 60284, 419, 459383, 131638, 3488, 316351] : List Int).getD (a - 100001) 0
theorem wc_d : ∀ i : Fin 16, wcode (100001 + i.val) = cod (fun j => sch (100001 + i.val) j - 96) (slen (100001 + i.val)) ∧ 1 ≤ slen (100001 + i.val) ∧ slen (100001 + i.val) ≤ 6 ∧ ∀ j : Fin 6, j.val < slen (100001 + i.val) → 97 ≤ sch (100001 + i.val) j.val ∧ sch (100001 + i.val) j.val ≤ 122 := by decide +kernel
def wI (T : Nat → Int) (n a q : Nat) : Bool := decide (tkd T n q = 1 ∧ en T n q = q + slen a ∧ ff (fun i => decide (T (q + i) ≠ sch a i)) (slen a) = -1)
theorem aw_c {T : Nat → Int} {q : Nat} : ∀ k, k ≤ 12 → awF T q k = cod (fun i => T (q + i) - 96) k
  | 0, _ => rfl
  | k + 1, h => by
    show (if k ≤ 11 then 27 * awF T q k + T (q + k) - 96 else -1) = 27 * cod (fun i => T (q + i) - 96) k + (T (q + k) - 96)
    rw [if_pos (by omega), aw_c k (by omega)]
    omega
theorem aw_n {T : Nat → Int} {q : Nat} {k : Nat} (h : 13 ≤ k) : awF T q k = -1 := by
  obtain ⟨j, rfl⟩ : ∃ j, k = j + 1 := ⟨k - 1, by omega⟩
  show (if j ≤ 11 then 27 * awF T q j + T (q + j) - 96 else -1) = -1
  rw [if_neg (by omega)]
theorem wI_core {T : Nat → Int} {n q : Nat} (hq : q ≤ n) {sc : Nat → Int} {L : Nat} {W : Int} (d1 : W = cod (fun j => sc j - 96) L) (d2 : 1 ≤ L) (d3 : L ≤ 6) (d4 : ∀ j, j < L → 97 ≤ sc j ∧ sc j ≤ 122) : (tkd T n q = 1 ∧ en T n q = q + L ∧ ff (fun i => decide (T (q + i) ≠ sc i)) L = -1) ↔ (tkd T n q = 1 ∧ wam T n q = W) := by
  by_cases hk : tkd T n q = 1
  · have hqn : q < n := by
      by_cases h : q < n
      · exact h
      · unfold tkd at hk; rw [if_neg h] at hk; cases hk
    have hl : ltr (T q) = true := by
      by_cases h : ltr (T q) = true
      · exact h
      · unfold tkd at hk
        rw [if_pos hqn, if_neg h] at hk
        split at hk
        · cases hk
        · split at hk <;> cases hk
    have ee : en T n q = endp ltr T n q := by unfold en; rw [if_pos hqn, if_pos hl]
    obtain ⟨r1, r2, r3, r4⟩ := endp_r (c := ltr) (T := T) (n := n) _ q rfl hq
    rw [← ee] at r1 r2 r3
    have hu : ∀ j, j < en T n q - q → 1 ≤ (fun i => T (q + i) - 96) j ∧ (fun i => T (q + i) - 96) j ≤ 26 := fun j hj => by
      have := of_decide_eq_true (r3 (q + j) (by omega) (by omega))
      (try simp only)
      omega
    have hv : ∀ j, j < L → 1 ≤ (fun j => sc j - 96) j ∧ (fun j => sc j - 96) j ≤ 26 := fun j hj => by
      have := d4 j hj
      (try simp only at this ⊢)
      omega
    have ew : wam T n q = awF T q (en T n q - q) := by unfold wam; rw [if_pos hk]
    constructor
    · rintro ⟨_, e1, e2⟩
      refine ⟨hk, ?_⟩
      rw [ew, show en T n q - q = L by omega, aw_c _ (by omega), d1]
      have hall := (ff_all _).mp e2
      have : ∀ k, k ≤ L → cod (fun i => T (q + i) - 96) k = cod (fun j => sc j - 96) k := by
        intro k
        induction k with
        | zero => intro _; rfl
        | succ k ih =>
          intro hk2
          have := of_decide_eq_false (hall k (by omega))
          show 27 * cod (fun i => T (q + i) - 96) k + (T (q + k) - 96) = 27 * cod (fun j => sc j - 96) k + (sc k - 96)
          rw [ih (by omega)]
          omega
      exact this _ (Nat.le_refl _)
    · rintro ⟨_, e⟩
      have hle : en T n q - q ≤ 12 := by
        by_cases h : en T n q - q ≤ 12
        · exact h
        · have h0 := cod_0 (u := fun j => sc j - 96) (L) hv
          rw [ew, aw_n (by omega), d1] at e
          omega
      rw [ew, aw_c _ hle, d1] at e
      obtain ⟨c1, c2⟩ := cod_i _ _ hu hv e
      refine ⟨hk, by omega, (ff_all _).mpr (fun j hj => decide_eq_false (fun w => w ?_))⟩
      have := c2 j (by omega)
      (try simp only at this)
      omega
  · exact ⟨fun h => absurd h.1 hk, fun h => absurd h.1 hk⟩
theorem wc_e {a : Nat} (ha : isS a = true) : wcode a = cod (fun j => sch a j - 96) (slen a) ∧ 1 ≤ slen a ∧ slen a ≤ 6 ∧ ∀ j, j < slen a → 97 ≤ sch a j ∧ sch a j ≤ 122 := by
  obtain ⟨i, hi, rfl⟩ := isS_of ha
  have h := wc_d ⟨i, hi⟩
  exact ⟨h.1, h.2.1, h.2.2.1, fun j hj => h.2.2.2 ⟨j, Nat.lt_of_lt_of_le hj h.2.2.1⟩ hj⟩
theorem wI_w {T : Nat → Int} {n a q : Nat} (hq : q ≤ n) (ha : isS a = true) : wI T n a q = true ↔ (tkd T n q = 1 ∧ wam T n q = wcode a) := by
  have h := wc_e ha
  unfold wI
  rw [decide_eq_true_eq]
  exact wI_core hq h.1 h.2.1 h.2.2.1 h.2.2.2

/-! what reading does to (fault, its place, the TOKEN's place) -/
def skS (T : Nat → Int) (n a : Nat) (σ : Int × Int × Nat) : Int × Int × Nat := if σ.1 = 0 then (if wI T n a σ.2.2 = true then (0, σ.2.1, nxt T n σ.2.2) else (1, (σ.2.2 : Int), σ.2.2)) else σ
def nuS (T : Nat → Int) (n : Nat) (lo hi : Int) (σ : Int × Int × Nat) : Int × Int × Nat := if σ.1 = 0 then (if tkd T n σ.2.2 = 2 then (if lo ≤ vam T n σ.2.2 ∧ vam T n σ.2.2 ≤ hi then (0, σ.2.1, nxt T n σ.2.2) else (2, (σ.2.2 : Int), σ.2.2)) else (1, (σ.2.2 : Int), σ.2.2)) else σ
def sgS (T : Nat → Int) (n : Nat) (σ : Int × Int × Nat) : Int × Int × Nat := if σ.1 = 0 then (if tkd T n σ.2.2 = 3 then (0, σ.2.1, nxt T n σ.2.2) else (1, (σ.2.2 : Int), σ.2.2)) else σ
def faS (k : Int) (σ : Int × Int × Nat) : Int × Int × Nat := if σ.1 = 0 then (k, (σ.2.2 : Int), σ.2.2) else σ
def nam (T : Nat → Int) (n a : Nat) (lo hi : Int) (σ : Int × Int × Nat) : Int × Int × Nat := nuS T n lo hi (skS T n a σ)
def vlS (T : Nat → Int) (n a : Nat) (σ : Int × Int × Nat) : Int := vam T n (skS T n a σ).2.2
theorem skS_k {T : Nat → Int} {n a : Nat} {σ : Int × Int × Nat} (h : (skS T n a σ).1 = 0) : σ.1 = 0 := by
  by_cases q : σ.1 = 0
  · exact q
  · unfold skS at h; rw [if_neg q] at h; exact h
theorem nuS_k {T : Nat → Int} {n : Nat} {lo hi : Int} {σ : Int × Int × Nat} (h : (nuS T n lo hi σ).1 = 0) : σ.1 = 0 := by
  by_cases q : σ.1 = 0
  · exact q
  · unfold nuS at h; rw [if_neg q] at h; exact h
theorem sgS_k {T : Nat → Int} {n : Nat} {σ : Int × Int × Nat} (h : (sgS T n σ).1 = 0) : σ.1 = 0 := by
  by_cases q : σ.1 = 0
  · exact q
  · unfold sgS at h; rw [if_neg q] at h; exact h
theorem nam_k {T : Nat → Int} {n a : Nat} {lo hi : Int} {σ : Int × Int × Nat} (h : (nam T n a lo hi σ).1 = 0) : σ.1 = 0 := skS_k (nuS_k h)
/-- a number that was taken is within its bounds -/
theorem nam_v {T : Nat → Int} {n a : Nat} {lo hi : Int} {σ : Int × Int × Nat} (h : (nam T n a lo hi σ).1 = 0) : lo ≤ vlS T n a σ ∧ vlS T n a σ ≤ hi := by
  have h1 := nuS_k h
  unfold nam nuS at h
  rw [if_pos h1] at h
  by_cases c : tkd T n (skS T n a σ).2.2 = 2
  · rw [if_pos c] at h
    by_cases d : lo ≤ vam T n (skS T n a σ).2.2 ∧ vam T n (skS T n a σ).2.2 ≤ hi
    · exact d
    · rw [if_neg d] at h; cases h
  · rw [if_neg c] at h; cases h
/-- places go on -/
def QL (n : Nat) (σ : Int × Int × Nat) (τ : Int × Int × Nat) : Prop := τ.1 = 0 → σ.1 = 0 ∧ σ.2.2 ≤ τ.2.2 ∧ τ.2.1 = σ.2.1
theorem skS_q {T : Nat → Int} {n a : Nat} {σ : Int × Int × Nat} (hq : σ.1 = 0 → σ.2.2 ≤ n) : QL n σ (skS T n a σ) ∧ ((skS T n a σ).1 = 0 → (skS T n a σ).2.2 ≤ n) := by
  by_cases q : σ.1 = 0
  · have hr := nxt_r (T := T) (hq q)
    unfold QL skS
    rw [if_pos q]
    by_cases c : wI T n a σ.2.2 = true
    · rw [if_pos c]; exact ⟨fun _ => ⟨q, hr.1, rfl⟩, fun _ => hr.2.1⟩
    · rw [if_neg c]; exact ⟨fun h => (by cases h), fun h => (by cases h)⟩
  · unfold QL skS
    rw [if_neg q]
    exact ⟨fun h => absurd h q, fun h => absurd h q⟩
theorem nuS_q {T : Nat → Int} {n : Nat} {lo hi : Int} {σ : Int × Int × Nat} (hq : σ.1 = 0 → σ.2.2 ≤ n) : QL n σ (nuS T n lo hi σ) ∧ ((nuS T n lo hi σ).1 = 0 → (nuS T n lo hi σ).2.2 ≤ n) := by
  by_cases q : σ.1 = 0
  · have hr := nxt_r (T := T) (hq q)
    unfold QL nuS
    rw [if_pos q]
    by_cases c : tkd T n σ.2.2 = 2
    · rw [if_pos c]
      by_cases d : lo ≤ vam T n σ.2.2 ∧ vam T n σ.2.2 ≤ hi
      · rw [if_pos d]; exact ⟨fun _ => ⟨q, hr.1, rfl⟩, fun _ => hr.2.1⟩
      · rw [if_neg d]; exact ⟨fun h => (by cases h), fun h => (by cases h)⟩
    · rw [if_neg c]; exact ⟨fun h => (by cases h), fun h => (by cases h)⟩
  · unfold QL nuS
    rw [if_neg q]
    exact ⟨fun h => absurd h q, fun h => absurd h q⟩
theorem QL_t {n : Nat} {a b c : Int × Int × Nat} (h1 : QL n a b) (h2 : QL n b c) : QL n a c := fun h => by
  obtain ⟨x1, x2, x3⟩ := h2 h
  obtain ⟨y1, y2, y3⟩ := h1 x1
  exact ⟨y1, by omega, by rw [x3, y3]⟩
theorem nam_q {T : Nat → Int} {n a : Nat} {lo hi : Int} {σ : Int × Int × Nat} (hq : σ.1 = 0 → σ.2.2 ≤ n) : QL n σ (nam T n a lo hi σ) ∧ ((nam T n a lo hi σ).1 = 0 → (nam T n a lo hi σ).2.2 ≤ n) := by
  have h1 := skS_q (T := T) (a := a) hq
  have h2 := nuS_q (T := T) (lo := lo) (hi := hi) h1.2
  exact ⟨QL_t h1.1 h2.1, h2.2⟩
/-! the class -/
def CZ (T : Nat → Int) (n : Nat) (σ : Int × Int × Nat) (f : Mm) : Prop := TPc T n f ∧ f 1 0 = σ.1 ∧ f 1 1 = σ.2.1 ∧ (σ.1 = 0 → CU T n σ.2.2 f)
def K1 (a _ : Nat) : Prop := a = 1
theorem CZ_k {T : Nat → Int} {n : Nat} {σ : Int × Int × Nat} {f g : Mm} (h : CZ T n σ f) (hk : ∀ a j, a ≤ 3 → g a j = f a j) : CZ T n σ g := by
  obtain ⟨h1, h2, h3, h4⟩ := h
  refine ⟨TPc_k h1 (fun a j _ q => hk a j q), by rw [hk 1 0 (by decide)]; exact h2, by rw [hk 1 1 (by decide)]; exact h3, fun q => ?_⟩
  obtain ⟨c1, c2, c3, c4, c5⟩ := h4 q
  exact ⟨c1, by rw [hk 1 3 (by decide)]; exact c2, by rw [hk 1 4 (by decide)]; exact c3, by rw [hk 1 5 (by decide)]; exact c4, by rw [hk 1 6 (by decide)]; exact c5⟩
theorem nextC_ok {T : Nat → Int} {n : Nat} (hn : n ≤ 800) {σ : Int × Int × Nat} {f : Mm} (h : CZ T n σ f) (h0 : σ.1 = 0) : Wp (FX4_next f) (fun g => CZ T n (0, σ.2.1, nxt T n σ.2.2) g ∧ Kp K1 f g) := by
  obtain ⟨h1, h2, h3, h4⟩ := h
  obtain ⟨c1, c2, c3, c4, c5⟩ := h4 h0
  refine Wp_mono (next_C hn (en_r (T := T) c1).2.1 h1 (by rw [h2, h0]) c4) (fun g ⟨e1, e2⟩ => ⟨⟨TPc_k h1 (fun a j q1 q2 => e2 a j (by unfold S1c; omega)), by rw [e2 1 0 (by unfold S1c; omega), h2, h0], by rw [e2 1 1 (by unfold S1c; omega)]; exact h3, fun _ => e1⟩, Kp_m e2 (fun a j q => q.1)⟩)
theorem nextC_no {T : Nat → Int} {n : Nat} {σ : Int × Int × Nat} {f : Mm} (h : CZ T n σ f) (h0 : σ.1 ≠ 0) : FX4_next f = some f := by
  unfold FX4_next FX4_next_0
  rw [if_neg (by rw [h.2.1]; exact h0)]
theorem failC {T : Nat → Int} {n : Nat} {σ : Int × Int × Nat} {f : Mm} (h : CZ T n σ f) {k : Int} (hk : k ≠ 0) : Wp (FX4_fail k f) (fun g => CZ T n (faS k σ) g ∧ Kp K1 f g) := by
  obtain ⟨h1, h2, h3, h4⟩ := h
  unfold FX4_fail FX4_fail_0 faS
  rw [h2]
  by_cases q : σ.1 = 0
  · obtain ⟨c1, c2, c3, c4, c5⟩ := h4 q
    rw [if_pos q, if_pos q, c3]
    exact Wp_some ⟨⟨TPc_k h1 (fun a j q1 q2 => by rw [up_n (by omega), up_n (by omega)]), by rw [up_n (by omega), up_s], by rw [up_s], fun w => absurd w hk⟩, Kp_u (Kp_u (Kp_r K1 f) (show K1 1 0 from rfl)) (show K1 1 1 from rfl)⟩
  · rw [if_neg q, if_neg q]
    exact Wp_some ⟨⟨h1, h2, h3, h4⟩, Kp_r _ _⟩
theorem byteAt_t (x : Int) (f : Mm) : ∃ r, FX4_byteAt x f = some (r, f) := by
  unfold FX4_byteAt FX4_byteAt_0
  by_cases h1 : x < 0
  · rw [if_pos h1]; exact ⟨_, rfl⟩
  · rw [if_neg h1]
    by_cases h2 : 800 ≤ x
    · rw [if_pos h2]; exact ⟨_, rfl⟩
    · rw [if_neg h2, if_pos (by omega)]; exact ⟨_, rfl⟩
theorem isWord_t {a : Nat} (ha : isS a = true) (f : Mm) : ∃ r, FX4_isWord a f = some (r, f) := by
  have hw := wc_e ha
  have hL := hw.2.2.1
  unfold FX4_isWord FX4_isWord_0
  rw [if_pos ha]
  by_cases h1 : f 1 3 = 1
  · rw [if_pos h1]
    by_cases h2 : w32 (f 1 5 - f 1 4) = ((slen a : Nat) : Int)
    · rw [if_pos h2]
      generalize hLL : slen a = L at *
      refine forR (fun k x (_ : Unit) => FX4_isWord_28 k a x f) (fun _ _ => True) (fun o => ∃ r, o = some (r, f)) L ?_ ?_ fu 0 () trivial (by omega) (by have := fub; omega)
      · rintro k _ _
        show ∃ r, FX4_isWord_28 (k + 1) a _ f = _
        rw [FX4_isWord_28, if_pos ha, hLL, if_pos (by omega)]
        exact ⟨_, rfl⟩
      · rintro k i _ hi _
        show (∃ s', FX4_isWord_28 (k + 1) a (i : Int) f = _ ∧ _) ∨ ∃ r, FX4_isWord_28 (k + 1) a (i : Int) f = _
        obtain ⟨r, hr⟩ := byteAt_t (w32 (f 1 4 + (i : Int))) f
        rw [FX4_isWord_28, if_pos ha, hLL, if_neg (by omega), hr, b2_some, if_pos ⟨ha, by omega, by omega⟩]
        by_cases q : r = sch a (i : Int).toNat
        · left
          rw [if_pos q, nx i (by omega)]
          exact ⟨(), rfl, trivial⟩
        · right
          rw [if_neg q]
          exact ⟨_, rfl⟩
    · rw [if_neg h2]; exact ⟨_, rfl⟩
  · rw [if_neg h1]; exact ⟨_, rfl⟩
theorem n_ne (i : Nat) : ¬ ((i : Int) = -1) := by omega
theorem isWord_C {T : Nat → Int} {n : Nat} (hn : n ≤ 800) {σ : Int × Int × Nat} {f : Mm} (h : CZ T n σ f) (h0 : σ.1 = 0) {a : Nat} (ha : isS a = true) : FX4_isWord a f = some (if wI T n a σ.2.2 = true then 1 else 0, f) := by
  obtain ⟨h1, h2, h3, h4⟩ := h
  obtain ⟨c1, c2, c3, c4, c5⟩ := h4 h0
  have hw := wc_e ha
  have hL := hw.2.2.1
  have hen := en_r (T := T) c1
  have hwi : wI T n a σ.2.2 = decide (tkd T n σ.2.2 = 1 ∧ en T n σ.2.2 = σ.2.2 + slen a ∧ ff (fun i => decide (T (σ.2.2 + i) ≠ sch a i)) (slen a) = -1) := rfl
  unfold FX4_isWord FX4_isWord_0
  rw [if_pos ha, c2, c3, c4, w32s (by omega) (by omega), hwi]
  simp only [decide_eq_true_eq]
  by_cases q1 : tkd T n σ.2.2 = 1
  · rw [if_pos q1]
    by_cases q2 : en T n σ.2.2 = σ.2.2 + slen a
    · rw [if_pos (by omega)]
      refine forR (fun k x (_ : Unit) => FX4_isWord_28 k a x f) (fun i _ => ff (fun i => decide (T (σ.2.2 + i) ≠ sch a i)) i = -1) (fun o => o = some (if tkd T n σ.2.2 = 1 ∧ en T n σ.2.2 = σ.2.2 + slen a ∧ ff (fun i => decide (T (σ.2.2 + i) ≠ sch a i)) (slen a) = -1 then 1 else 0, f)) (slen a) ?_ ?_ fu 0 () rfl (by omega) (by have := fub; omega)
      · rintro k _ hk
        rw [FX4_isWord_28, if_pos ha, if_pos (Int.le_refl _), if_pos ⟨q1, q2, hk⟩]
      · rintro k i _ hi hk
        rw [FX4_isWord_28, if_pos ha, if_neg (by omega), c3, w32n (x := (σ.2.2 : Int) + (i : Int)) (n := σ.2.2 + i) (by omega) (by omega), byteAt_e h1 hn (by omega), b2_some, if_pos ⟨ha, by omega, by omega⟩, Int.toNat_natCast]
        by_cases w : T (σ.2.2 + i) = sch a i
        · left
          rw [if_pos w, nx i (by omega)]
          exact ⟨(), rfl, ff_no hk (decide_eq_false (fun z => z w))⟩
        · right
          have e : ff (fun i => decide (T (σ.2.2 + i) ≠ sch a i)) (slen a) = (i : Int) := ff_hit (p := fun i => decide (T (σ.2.2 + i) ≠ sch a i)) hk (decide_eq_true w) (slen a) hi
          rw [if_neg w, if_neg (fun z => n_ne i (e.symm.trans z.2.2))]
    · rw [if_neg (by omega), if_neg (fun z => q2 z.2.1)]
  · rw [if_neg q1, if_neg (fun z => q1 z.1)]
theorem skipWord_C {T : Nat → Int} {n : Nat} (hn : n ≤ 800) {σ : Int × Int × Nat} {f : Mm} (h : CZ T n σ f) {a : Nat} (ha : isS a = true) : Wp (FX4_skipWord a f) (fun g => CZ T n (skS T n a σ) g ∧ Kp K1 f g) := by
  unfold FX4_skipWord FX4_skipWord_0 FX4_skipWord_13
  by_cases q : σ.1 = 0
  · rw [isWord_C hn h q ha, b2_some]
    unfold skS
    rw [if_pos q]
    by_cases c : wI T n a σ.2.2 = true
    · rw [if_pos c, if_neg (show ¬ (1 : Int) = 0 by decide), if_pos c]
      exact Wp_bind (nextC_ok hn h q) (fun g hg => Wp_some hg)
    · rw [if_neg c, if_pos (show (0 : Int) = 0 from rfl), if_neg c]
      refine Wp_bind (failC h (k := 1) (by decide)) (fun g ⟨g1, g2⟩ => ?_)
      have ef : faS 1 σ = (1, (σ.2.2 : Int), σ.2.2) := by unfold faS; rw [if_pos q]
      rw [ef] at g1
      rw [nextC_no g1 (show (1 : Int) ≠ 0 by decide)]
      exact Wp_some ⟨g1, g2⟩
  · obtain ⟨r, hr⟩ := isWord_t ha f
    have ef : faS 1 σ = σ := by unfold faS; rw [if_neg q]
    have es : skS T n a σ = σ := by unfold skS; rw [if_neg q]
    rw [hr, b2_some, es]
    by_cases c : r = 0
    · rw [if_pos c]
      refine Wp_bind (failC h (k := 1) (by decide)) (fun g ⟨g1, g2⟩ => ?_)
      rw [ef] at g1
      rw [nextC_no g1 q]
      exact Wp_some ⟨g1, g2⟩
    · rw [if_neg c, nextC_no h q]
      exact Wp_some ⟨h, Kp_r _ _⟩
theorem cam_v {T : Nat → Int} {n q : Nat} (hq : q ≤ n) {lo hi : Int} (hhi : hi < 100000) : (lo ≤ cam T n q ∧ cam T n q ≤ hi ↔ lo ≤ vam T n q ∧ vam T n q ≤ hi) ∧ (vam T n q ≤ hi → cam T n q = vam T n q) := by
  unfold cam vam
  by_cases hk : tkd T n q = 2
  · rw [if_pos hk, if_pos hk]
    have hqn : q < n := by
      by_cases h : q < n
      · exact h
      · unfold tkd at hk; rw [if_neg h] at hk; cases hk
    have hl : ¬ ltr (T q) = true := fun h => by unfold tkd at hk; rw [if_pos hqn, if_pos h] at hk; cases hk
    have hd : dgt (T q) = true := by
      by_cases h : dgt (T q) = true
      · exact h
      · unfold tkd at hk
        rw [if_pos hqn, if_neg hl, if_neg h] at hk
        split at hk <;> cases hk
    have ee : en T n q = endp dgt T n q := by unfold en; rw [if_pos hqn, if_neg hl, if_pos hd]
    obtain ⟨r1, r2, r3, r4⟩ := endp_r (c := dgt) (T := T) (n := n) _ q rfl hq
    rw [← ee] at r3
    have := (ac_r (T := T) (q := q) (en T n q - q) (fun i hi => of_decide_eq_true (r3 (q + i) (by omega) (by omega)))).2.2
    generalize acF T q (en T n q - q) = A at *
    generalize avF T q (en T n q - q) = V at *
    constructor
    · constructor <;> intro h <;> omega
    · intro h; omega
  · rw [if_neg hk, if_neg hk]
    exact ⟨Iff.rfl, fun _ => rfl⟩
theorem named_C {T : Nat → Int} {n : Nat} (hn : n ≤ 800) {σ : Int × Int × Nat} {f : Mm} (h : CZ T n σ f) {a : Nat} (ha : isS a = true) {lo hi : Int} (hhi : hi < 100000) :
    Wp (FX4_named a lo hi f) (fun p => CZ T n (nam T n a lo hi σ) p.2 ∧ Kp K1 f p.2 ∧ p.1 = (if (nam T n a lo hi σ).1 = 0 then vlS T n a σ else 0)) := by
  have key : Wp (FX4_skipWord a f) (fun g => CZ T n (skS T n a σ) g ∧ Kp K1 f g) := skipWord_C hn h ha
  have h54 : ∀ {τ : Int × Int × Nat} {g : Mm}, CZ T n τ g → τ.1 ≠ 0 → FX4_named_54 g = some (0, g) := fun {τ g} hg hne => by
    unfold FX4_named_54
    rw [nextC_no hg hne]
    simp only [Option.bind_some]
    rw [if_neg (by rw [hg.2.1]; exact hne)]
  have main : ∀ g, CZ T n (skS T n a σ) g → Wp (if g 1 3 = 2 then (if g 1 6 < lo then FX4_named_49 g else (if g 1 6 ≤ hi then FX4_named_54 g else FX4_named_49 g)) else ((FX4_fail 1 g).bind fun f4 => FX4_named_54 f4)) (fun p => CZ T n (nam T n a lo hi σ) p.2 ∧ Kp K1 g p.2 ∧ p.1 = (if (nam T n a lo hi σ).1 = 0 then vlS T n a σ else 0)) := by
    intro g hg
    have en1 : nam T n a lo hi σ = nuS T n lo hi (skS T n a σ) := rfl
    have ev : vlS T n a σ = vam T n (skS T n a σ).2.2 := rfl
    rw [en1, ev]
    generalize skS T n a σ = τ at *
    by_cases q : τ.1 = 0
    · obtain ⟨c1, c2, c3, c4, c5⟩ := hg.2.2.2 q
      obtain ⟨w1, w2⟩ := cam_v (T := T) c1 (lo := lo) hhi
      have bad : ∀ k : Int, k ≠ 0 → nuS T n lo hi τ = (k, (τ.2.2 : Int), τ.2.2) → Wp ((FX4_fail k g).bind fun f4 => FX4_named_54 f4) (fun p => CZ T n (nuS T n lo hi τ) p.2 ∧ Kp K1 g p.2 ∧ p.1 = (if (nuS T n lo hi τ).1 = 0 then vam T n τ.2.2 else 0)) := by
        intro k hk e
        refine Wp_bind (failC hg hk) (fun g2 ⟨g1, gk⟩ => ?_)
        have ef : faS k τ = (k, (τ.2.2 : Int), τ.2.2) := by unfold faS; rw [if_pos q]
        rw [ef] at g1
        rw [h54 g1 hk, e, if_neg hk]
        exact Wp_some ⟨g1, gk, rfl⟩
      have good : nuS T n lo hi τ = (0, τ.2.1, nxt T n τ.2.2) → cam T n τ.2.2 = vam T n τ.2.2 → Wp (FX4_named_54 g) (fun p => CZ T n (nuS T n lo hi τ) p.2 ∧ Kp K1 g p.2 ∧ p.1 = (if (nuS T n lo hi τ).1 = 0 then vam T n τ.2.2 else 0)) := by
        intro e ec
        unfold FX4_named_54
        refine Wp_bind (nextC_ok hn hg q) (fun g2 ⟨g1, gk⟩ => ?_)
        have z0 : g2 1 0 = 0 := g1.2.1
        rw [if_pos z0, e, if_pos rfl, c5, ec]
        exact Wp_some ⟨g1, gk, rfl⟩
      rw [c2, c5]
      have ee : nuS T n lo hi τ = (if tkd T n τ.2.2 = 2 then (if lo ≤ vam T n τ.2.2 ∧ vam T n τ.2.2 ≤ hi then (0, τ.2.1, nxt T n τ.2.2) else (2, (τ.2.2 : Int), τ.2.2)) else (1, (τ.2.2 : Int), τ.2.2)) := by unfold nuS; rw [if_pos q]
      by_cases k2 : tkd T n τ.2.2 = 2
      · rw [if_pos k2] at ee ⊢
        by_cases b1 : cam T n τ.2.2 < lo
        · rw [if_neg (fun z => by have := w1.mpr z; omega)] at ee
          rw [if_pos b1]
          exact bad 2 (by decide) ee
        · rw [if_neg b1]
          by_cases b2' : cam T n τ.2.2 ≤ hi
          · have z := w1.mp ⟨by omega, b2'⟩
            rw [if_pos z] at ee
            rw [if_pos b2']
            exact good ee (w2 z.2)
          · rw [if_neg (fun z => by have := w1.mpr z; omega)] at ee
            rw [if_neg b2']
            exact bad 2 (by decide) ee
      · rw [if_neg k2] at ee ⊢
        exact bad 1 (by decide) ee
    · have es : nuS T n lo hi τ = τ := by unfold nuS; rw [if_neg q]
      rw [es, if_neg q]
      have viaF : ∀ k : Int, k ≠ 0 → Wp ((FX4_fail k g).bind fun f4 => FX4_named_54 f4) (fun p => CZ T n τ p.2 ∧ Kp K1 g p.2 ∧ p.1 = 0) := fun k hk => by
        refine Wp_bind (failC hg hk) (fun g2 ⟨g1, gk⟩ => ?_)
        have ef : faS k τ = τ := by unfold faS; rw [if_neg q]
        rw [ef] at g1
        rw [h54 g1 q]
        exact Wp_some ⟨g1, gk, rfl⟩
      have via54 : Wp (FX4_named_54 g) (fun p => CZ T n τ p.2 ∧ Kp K1 g p.2 ∧ p.1 = 0) := by
        rw [h54 hg q]
        exact Wp_some ⟨hg, Kp_r _ _, rfl⟩
      by_cases k2 : g 1 3 = 2
      · rw [if_pos k2]
        by_cases b1 : g 1 6 < lo
        · rw [if_pos b1]; exact viaF 2 (by decide)
        · rw [if_neg b1]
          by_cases b2' : g 1 6 ≤ hi
          · rw [if_pos b2']; exact via54
          · rw [if_neg b2']; exact viaF 2 (by decide)
      · rw [if_neg k2]; exact viaF 1 (by decide)
  unfold FX4_skipWord FX4_skipWord_0 FX4_skipWord_13 at key
  unfold FX4_named FX4_named_0 FX4_named_13
  obtain ⟨r, hr⟩ := isWord_t ha f
  rw [hr, b2_some] at key ⊢
  have stepb : ∀ g0, Wp ((FX4_next g0).bind fun f1 => some f1) (fun g => CZ T n (skS T n a σ) g ∧ Kp K1 f g) → Wp ((FX4_next g0).bind fun f1 => (if f1 1 3 = 2 then (if f1 1 6 < lo then FX4_named_49 f1 else (if f1 1 6 ≤ hi then FX4_named_54 f1 else FX4_named_49 f1)) else ((FX4_fail 1 f1).bind fun f4 => FX4_named_54 f4))) (fun p => CZ T n (nam T n a lo hi σ) p.2 ∧ Kp K1 f p.2 ∧ p.1 = (if (nam T n a lo hi σ).1 = 0 then vlS T n a σ else 0)) := by
    intro g0 hg0
    cases e : FX4_next g0 with
    | none => rw [e] at hg0; obtain ⟨b, hb, _⟩ := hg0; cases hb
    | some g1 =>
      rw [e] at hg0
      obtain ⟨b, hb, hb2⟩ := hg0
      cases hb
      simp only [Option.bind_some]
      exact Wp_mono (main g1 hb2.1) (fun p ⟨z1, z2, z3⟩ => ⟨z1, Kp_t hb2.2 z2, z3⟩)
  by_cases c : r = 0
  · rw [if_pos c] at key ⊢
    cases e : FX4_fail 1 f with
    | none => rw [e] at key; obtain ⟨b, hb, _⟩ := key; cases hb
    | some g1 =>
      rw [e] at key
      simp only [Option.bind_some] at key ⊢
      exact stepb g1 key
  · rw [if_neg c] at key ⊢
    exact stepb f key
theorem skipSign_C {T : Nat → Int} {n : Nat} (hn : n ≤ 800) {σ : Int × Int × Nat} {f : Mm} (h : CZ T n σ f) : Wp (FX4_skipSign f) (fun g => CZ T n (sgS T n σ) g ∧ Kp K1 f g) := by
  unfold FX4_skipSign FX4_skipSign_0 FX4_skipSign_13 sgS
  by_cases q : σ.1 = 0
  · obtain ⟨c1, c2, c3, c4, c5⟩ := h.2.2.2 q
    rw [if_pos q, c2]
    by_cases c : tkd T n σ.2.2 = 3
    · rw [if_pos c, if_pos c]
      exact Wp_bind (nextC_ok hn h q) (fun g hg => Wp_some hg)
    · rw [if_neg c, if_neg c]
      refine Wp_bind (failC h (k := 1) (by decide)) (fun g ⟨g1, g2⟩ => ?_)
      have ef : faS 1 σ = (1, (σ.2.2 : Int), σ.2.2) := by unfold faS; rw [if_pos q]
      rw [ef] at g1
      rw [nextC_no g1 (show (1 : Int) ≠ 0 by decide)]
      exact Wp_some ⟨g1, g2⟩
  · have ef : faS 1 σ = σ := by unfold faS; rw [if_neg q]
    rw [if_neg q]
    by_cases c : f 1 3 = 3
    · rw [if_pos c, nextC_no h q]
      exact Wp_some ⟨h, Kp_r _ _⟩
    · rw [if_neg c]
      refine Wp_bind (failC h (k := 1) (by decide)) (fun g ⟨g1, g2⟩ => ?_)
      rw [ef] at g1
      rw [nextC_no g1 q]
      exact Wp_some ⟨g1, g2⟩
/-! the model -/
def MZ (T : Nat → Int) (n : Nat) (σ : Int × Int × Nat) (f : Mm) : Prop := TPm T n f ∧ f 150 12 = σ.1 ∧ f 150 13 = σ.2.1 ∧ (σ.1 = 0 → MU T n σ.2.2 f)
def K2 (a j : Nat) : Prop := a = 150 ∧ 7 ≤ j ∧ j ≤ 13
theorem MZ_k {T : Nat → Int} {n : Nat} {σ : Int × Int × Nat} {f g : Mm} (h : MZ T n σ f) (hk : ∀ a j, a = 155 ∨ (a = 150 ∧ 6 ≤ j ∧ j ≤ 13) → g a j = f a j) : MZ T n σ g := by
  obtain ⟨h1, h2, h3, h4⟩ := h
  refine ⟨TPm_k h1 (hk 150 6 (by omega)) (fun j => hk 155 j (by omega)), by rw [hk 150 12 (by omega)]; exact h2, by rw [hk 150 13 (by omega)]; exact h3, fun q => ?_⟩
  obtain ⟨c1, c2, c3, c4, c5, c6⟩ := h4 q
  exact ⟨c1, by rw [hk 150 8 (by omega)]; exact c2, by rw [hk 150 9 (by omega)]; exact c3, by rw [hk 150 7 (by omega)]; exact c4, by rw [hk 150 10 (by omega)]; exact c5, by rw [hk 150 11 (by omega)]; exact c6⟩
theorem nextM_ok {T : Nat → Int} {n : Nat} (hn : n ≤ 800) {σ : Int × Int × Nat} {f : Mm} (h : MZ T n σ f) (h0 : σ.1 = 0) : Wp (FX11_next f) (fun g => MZ T n (0, σ.2.1, nxt T n σ.2.2) g ∧ Kp K2 f g) := by
  obtain ⟨h1, h2, h3, h4⟩ := h
  obtain ⟨c1, c2, c3, c4, c5, c6⟩ := h4 h0
  refine Wp_mono (next_M hn (en_r (T := T) c1).2.1 h1 c4) (fun g ⟨e1, e2⟩ => ⟨⟨TPm_k h1 (e2 150 6 (by unfold S1m; omega)) (fun j => e2 155 j (by unfold S1m; omega)), by rw [e2 150 12 (by unfold S1m; omega), h2, h0], by rw [e2 150 13 (by unfold S1m; omega)]; exact h3, fun _ => e1⟩, Kp_m e2 (fun a j q => by unfold S1m at q; unfold K2; omega)⟩)
theorem failsM {T : Nat → Int} {n : Nat} {σ : Int × Int × Nat} {f : Mm} (h : MZ T n σ f) {k : Int} (hk : k ≠ 0) : Wp (FX11_fails k f) (fun g => MZ T n (faS k σ) g ∧ Kp K2 f g) := by
  obtain ⟨h1, h2, h3, h4⟩ := h
  unfold FX11_fails FX11_fails_0 faS
  rw [h2]
  by_cases q : σ.1 = 0
  · obtain ⟨c1, c2, c3, c4, c5, c6⟩ := h4 q
    rw [if_pos q, if_pos q, c3]
    exact Wp_some ⟨⟨TPm_k h1 (by rw [up_n (by omega), up_n (by omega)]) (fun j => by rw [up_n (by omega), up_n (by omega)]), by rw [up_n (by omega), up_s], by rw [up_s], fun w => absurd w hk⟩, Kp_u (Kp_u (Kp_r _ _) (by unfold K2; omega)) (by unfold K2; omega)⟩
  · rw [if_neg q, if_neg q]
    exact Wp_some ⟨⟨h1, h2, h3, h4⟩, Kp_r _ _⟩
theorem isM {T : Nat → Int} {n : Nat} {σ : Int × Int × Nat} {f : Mm} (h : MZ T n σ f) {a : Nat} (ha : isS a = true) {w : Int} (hw : w = wcode a) : FX11_is w f = some (if σ.1 = 0 ∧ wI T n a σ.2.2 = true then 1 else 0, f) := by
  obtain ⟨h1, h2, h3, h4⟩ := h
  unfold FX11_is FX11_is_0
  rw [h2]
  by_cases q : σ.1 = 0
  · obtain ⟨c1, c2, c3, c4, c5, c6⟩ := h4 q
    have hwi := wI_w (T := T) c1 ha
    rw [if_pos q, c2, c6, hw]
    simp only [cmp_0]
    by_cases q1 : tkd T n σ.2.2 = 1
    · rw [if_pos q1]
      by_cases q2 : wam T n σ.2.2 = wcode a
      · rw [if_pos q2, if_pos ⟨q, hwi.mpr ⟨q1, q2⟩⟩]
      · rw [if_neg q2, if_neg (fun z => q2 (hwi.mp z.2).2)]
    · rw [if_neg q1, if_neg (fun z => q1 (hwi.mp z.2).1)]
  · rw [if_neg q, if_neg (fun z => q z.1)]
theorem asks_M {T : Nat → Int} {n : Nat} (hn : n ≤ 800) {σ : Int × Int × Nat} {f : Mm} (h : MZ T n σ f) {a : Nat} (ha : isS a = true) {w : Int} (hw : w = wcode a) : Wp (FX11_asks w f) (fun g => MZ T n (skS T n a σ) g ∧ Kp K2 f g) := by
  unfold FX11_asks FX11_asks_0 FX11_takes FX11_takes_0
  rw [isM h ha hw, b2_some]
  by_cases q : σ.1 = 0 ∧ wI T n a σ.2.2 = true
  · have es : skS T n a σ = (0, σ.2.1, nxt T n σ.2.2) := by unfold skS; rw [if_pos q.1, if_pos q.2]
    rw [if_pos q, if_neg (show ¬ (1 : Int) = 0 by decide), es]
    obtain ⟨g, e1, e2⟩ := nextM_ok hn h q.1
    rw [e1]
    simp only [Option.bind_some]
    rw [b2_some, if_neg (show ¬ (1 : Int) = 0 by decide)]
    exact Wp_some e2
  · have es : skS T n a σ = faS 1 σ := by
      unfold skS faS
      by_cases q1 : σ.1 = 0
      · rw [if_pos q1, if_pos q1, if_neg (fun z => q ⟨q1, z⟩)]
      · rw [if_neg q1, if_neg q1]
    rw [if_neg q, if_pos (show (0 : Int) = 0 from rfl), b2_some, if_pos (show (0 : Int) = 0 from rfl), es]
    exact Wp_bind (failsM h (by decide)) (fun g hg => Wp_some hg)
theorem number_M {T : Nat → Int} {n : Nat} (hn : n ≤ 800) {σ : Int × Int × Nat} {f : Mm} (h : MZ T n σ f) (lo hi : Int) : Wp (FX11_number lo hi f) (fun p => MZ T n (nuS T n lo hi σ) p.2 ∧ Kp K2 f p.2 ∧ p.1 = (if (nuS T n lo hi σ).1 = 0 then vam T n σ.2.2 else lo)) := by
  unfold FX11_number FX11_number_0
  rw [h.2.1]
  by_cases q : σ.1 = 0
  · obtain ⟨c1, c2, c3, c4, c5, c6⟩ := h.2.2.2 q
    have ee : nuS T n lo hi σ = (if tkd T n σ.2.2 = 2 then (if lo ≤ vam T n σ.2.2 ∧ vam T n σ.2.2 ≤ hi then (0, σ.2.1, nxt T n σ.2.2) else (2, (σ.2.2 : Int), σ.2.2)) else (1, (σ.2.2 : Int), σ.2.2)) := by unfold nuS; rw [if_pos q]
    have bad : ∀ k : Int, k ≠ 0 → nuS T n lo hi σ = (k, (σ.2.2 : Int), σ.2.2) → Wp ((FX11_fails k f).bind fun f3 => some (lo, f3)) (fun p => MZ T n (nuS T n lo hi σ) p.2 ∧ Kp K2 f p.2 ∧ p.1 = (if (nuS T n lo hi σ).1 = 0 then vam T n σ.2.2 else lo)) := by
      intro k hk e
      refine Wp_bind (failsM h hk) (fun g2 ⟨g1, gk⟩ => ?_)
      have ef : faS k σ = (k, (σ.2.2 : Int), σ.2.2) := by unfold faS; rw [if_pos q]
      rw [ef] at g1
      rw [e, if_neg hk]
      exact Wp_some ⟨g1, gk, rfl⟩
    rw [if_pos q, c2, c5, in_e, b2_some]
    by_cases k2 : tkd T n σ.2.2 = 2
    · rw [if_pos k2] at ee ⊢
      by_cases b : lo ≤ vam T n σ.2.2 ∧ vam T n σ.2.2 ≤ hi
      · rw [if_pos b] at ee ⊢
        rw [if_neg (show ¬ (1 : Int) = 0 by decide), ee, if_pos rfl]
        exact Wp_bind (nextM_ok hn h q) (fun g hg => Wp_some ⟨hg.1, hg.2, c5⟩)
      · rw [if_neg b] at ee ⊢
        rw [if_pos (show (0 : Int) = 0 from rfl)]
        exact bad 2 (by decide) ee
    · rw [if_neg k2] at ee ⊢
      exact bad 1 (by decide) ee
  · have es : nuS T n lo hi σ = σ := by unfold nuS; rw [if_neg q]
    rw [if_neg q, es, if_neg q]
    exact Wp_some ⟨h, Kp_r _ _, rfl⟩
theorem num_M {T : Nat → Int} {n : Nat} (hn : n ≤ 800) {σ : Int × Int × Nat} {f : Mm} (h : MZ T n σ f) {a : Nat} (ha : isS a = true) {w : Int} (hw : w = wcode a) (lo hi : Int) : Wp (FX11_number_ w lo hi f) (fun p => MZ T n (nam T n a lo hi σ) p.2 ∧ Kp K2 f p.2 ∧ p.1 = (if (nam T n a lo hi σ).1 = 0 then vlS T n a σ else lo)) := by
  unfold FX11_number_ FX11_number__0
  refine Wp_bind (asks_M hn h ha hw) (fun g ⟨g1, gk⟩ => ?_)
  refine Wp_b2 (number_M hn g1 lo hi) (fun r g2 ⟨z1, z2, z3⟩ => ?_)
  exact Wp_some ⟨z1, Kp_t gk z2, z3⟩
theorem ends_M {T : Nat → Int} {n : Nat} (hn : n ≤ 800) {σ : Int × Int × Nat} {f : Mm} (h : MZ T n σ f) (q : σ.1 = 0) : Wp (FX11_ends f) (fun g => MZ T n (sgS T n σ) g ∧ Kp K2 f g) := by
  obtain ⟨c1, c2, c3, c4, c5, c6⟩ := h.2.2.2 q
  unfold FX11_ends FX11_ends_0 FX11_ends_13 sgS
  rw [if_pos q, c2]
  by_cases c : tkd T n σ.2.2 = 3
  · rw [if_pos c, if_pos c, if_pos (by rw [h.2.1]; exact q)]
    exact Wp_bind (nextM_ok hn h q) (fun g hg => Wp_some hg)
  · rw [if_neg c, if_neg c]
    refine Wp_bind (failsM h (k := 1) (by decide)) (fun g ⟨g1, g2⟩ => ?_)
    have ef : faS 1 σ = (1, (σ.2.2 : Int), σ.2.2) := by unfold faS; rw [if_pos q]
    rw [ef] at g1
    have z : g 150 12 = 1 := g1.2.1
    rw [if_neg (by rw [z]; decide)]
    exact Wp_some ⟨g1, g2⟩

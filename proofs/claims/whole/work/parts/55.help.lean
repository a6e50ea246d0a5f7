/-! helpers on both sides -/
theorem forF {σ β : Type} (L : Nat → Int → σ → Option β) (st : Nat → σ → σ) (J : Nat → σ → Prop) (b D : Nat) (s0 : σ) (h0 : J b s0) (hb : b ≤ D)
    (hs : ∀ n i s, b ≤ i → i < D → J i s → L (n + 1) (i : Int) s = L n ((i + 1 : Nat) : Int) (st i s) ∧ J (i + 1) (st i s)) :
    ∀ n, D - b < n → ∃ m, L n (b : Int) s0 = L (m + 1) (D : Int) (fo (fun i => st (b + i)) s0 (D - b)) ∧ J D (fo (fun i => st (b + i)) s0 (D - b)) := by
  have key : ∀ k, b + k ≤ D → ∀ n, ∃ s, s = fo (fun i => st (b + i)) s0 k ∧ J (b + k) s ∧ L (n + k) (b : Int) s0 = L n ((b + k : Nat) : Int) s := by
    intro k
    induction k with
    | zero => intro _ n; exact ⟨s0, rfl, h0, rfl⟩
    | succ k ih =>
      intro hk n
      obtain ⟨s, e, hJ, hL⟩ := ih (by omega) (n + 1)
      obtain ⟨h1, h2⟩ := hs n (b + k) s (by omega) (by omega) hJ
      refine ⟨st (b + k) s, by rw [e]; rfl, h2, ?_⟩
      rw [show n + (k + 1) = n + 1 + k by omega, hL]
      exact h1
  intro n hn
  obtain ⟨s, e, hJ, hL⟩ := key (D - b) (by omega) (n - (D - b) - 1 + 1)
  rw [show n - (D - b) - 1 + 1 + (D - b) = n by omega, show b + (D - b) = D by omega] at hL
  rw [show b + (D - b) = D by omega] at hJ
  refine ⟨n - (D - b) - 1, ?_, by rw [← e]; exact hJ⟩
  rw [← e]
  exact hL
/-- the first that is so -/
def ff (p : Nat → Bool) : Nat → Int
  | 0 => -1
  | n + 1 => if ff p n = -1 then (if p n = true then (n : Int) else -1) else ff p n
theorem ff_hit {p : Nat → Bool} {i : Nat} (h0 : ff p i = -1) (hp : p i = true) : ∀ D, i < D → ff p D = (i : Int) := by
  intro D
  induction D with
  | zero => intro h; omega
  | succ D ih =>
    intro h
    unfold ff
    by_cases hD : i = D
    · subst hD
      rw [if_pos h0, if_pos hp]
    · have := ih (by omega)
      rw [this, if_neg (by omega)]
theorem ff_no {p : Nat → Bool} {i : Nat} (h0 : ff p i = -1) (hp : p i = false) : ff p (i + 1) = -1 := by
  unfold ff
  rw [if_pos h0, if_neg (by rw [hp]; decide)]
theorem sm_r {g : Nat → Int} {M : Int} : ∀ n, (∀ i, i < n → 0 ≤ g i ∧ g i ≤ M) → 0 ≤ sm g n ∧ sm g n ≤ n * M
  | 0, _ => by unfold sm; omega
  | n + 1, h => by
    have h1 := sm_r n (fun i hi => h i (by omega))
    have h2 := h n (by omega)
    unfold sm
    rw [show ((n + 1 : Nat) : Int) * M = n * M + M by rw [Int.natCast_add, Int.add_mul]; omega]
    omega
theorem sm_congr {g g' : Nat → Int} : ∀ n, (∀ i, i < n → g i = g' i) → sm g n = sm g' n
  | 0, _ => rfl
  | n + 1, h => by unfold sm; rw [sm_congr n (fun i hi => h i (by omega)), h n (by omega)]
theorem fo_sm {g : Nat → Int} (n : Nat) : fo (fun i s => s + g i) 0 n = sm g n := by
  induction n with
  | zero => rfl
  | succ n ih => unfold fo sm; rw [ih]
/-- what a set's carts have in a field -/
def sumf (B : Mm) (j : Nat) (x : Int) : Int := sm (fun c => if hbit x c = true then B (20 + c) j else 0) (nC B)
theorem sumf_r {B : Mm} (hB : WF B) (x : Int) : (0 ≤ sumf B 4 x ∧ sumf B 4 x ≤ 5994) ∧ (0 ≤ sumf B 1 x ∧ sumf B 1 x ≤ 240) := by
  have hc := WF_c hB
  have h6 := (WF_C hB).1
  unfold sumf
  have h1 := sm_r (g := fun c => if hbit x c = true then B (20 + c) 4 else 0) (M := 999) (nC B) (fun i hi => by have := hc i hi; split <;> omega)
  have h2 := sm_r (g := fun c => if hbit x c = true then B (20 + c) 1 else 0) (M := 40) (nC B) (fun i hi => by have := hc i hi; split <;> omega)
  omega
theorem sm_part {g : Nat → Int} {M : Int} {n : Nat} (h : ∀ i, i < n → 0 ≤ g i ∧ g i ≤ M) (hM : 0 ≤ M) {i : Nat} (hi : i ≤ n) : 0 ≤ sm g i ∧ sm g i ≤ i * M := sm_r i (fun j hj => h j (by omega))
/-- what a deed costs -/
def cst (B : Mm) (w : Int) : Int := if w = -1 then 0 else B (10 + w.toNat) 1
def csts (B : Mm) (ch : Nat → Int) : Int := sm (fun d => cst B (ch d)) (nD B)
theorem cst_r {B : Mm} (hB : WF B) {w : Int} (hw : -1 ≤ w ∧ w < B 0 5) : 0 ≤ cst B w ∧ cst B w ≤ 99 := by
  have := (WF_K hB).2
  unfold cst
  split
  · omega
  · have := WF_d hB w.toNat (by omega)
    omega
theorem csts_r {B : Mm} (hB : WF B) {ch : Nat → Int} (hw : WD B ch) : 0 ≤ csts B ch ∧ csts B ch ≤ 594 := by
  have h6 := (WF_D hB).1
  have := sm_r (g := fun d => cst B (ch d)) (M := 99) (nD B) (fun i hi => cst_r hB (hw i (by omega)))
  unfold csts
  omega
/-! the class's helpers -/
theorem sumOf_e {B f : Mm} (hB : WF B) (hC : CT B f) (x : Int) {j : Nat} (hj : j = 1 ∨ j = 4) : FX0_sumOf_4 x (j : Int) f = some (sumf B j x, f) := by
  obtain ⟨h6, he⟩ := WF_C hB
  have hc := WF_c hB
  have e5 : f 4 5 = (nC B : Int) := by rw [hC.1.2.2.2.2.2.1, he]
  have hb : ∀ i, i < nC B → 0 ≤ (if hbit x i = true then B (20 + i) j else 0) ∧ (if hbit x i = true then B (20 + i) j else 0) ≤ 999 := fun i hi => by
    have := hc i hi
    rcases hj with rfl | rfl <;> split <;> omega
  unfold FX0_sumOf_4 FX0_sumOf_4_0
  obtain ⟨m, e, -⟩ := forF (fun n y (s : Int) => FX0_sumOf_4_5 n x (j : Int) s y f) (fun i s => s + (if hbit x i = true then B (20 + i) j else 0)) (fun i s => s = sm (fun c => if hbit x c = true then B (20 + c) j else 0) i) 0 (nC B) 0 rfl (by omega) (fun n i s _ hi hJ => by
    have hp := sm_part hb (by omega) (i := i) (by omega)
    have hbi := hb i hi
    have q := hC.2.2.2.1 i hi j (by omega)
    refine ⟨?_, by rw [hJ]; rfl⟩
    rw [FX0_sumOf_4_5, if_neg (by omega), holds_e, b2_some]
    unfold FX0_sumOf_4_35
    rw [nx i (by omega)]
    by_cases h : hbit x i = true
    · rw [if_pos h] at hbi
      rw [if_pos h, if_neg (by decide), if_pos (by omega), if_pos (by omega), Int.toNat_natCast, Int.toNat_natCast, q, w32s (by omega) (by omega), if_pos h]
    · rw [if_neg h, if_pos rfl, if_neg h, Int.add_zero]) fu (by have := fub; omega)
  refine e.trans ?_
  rw [FX0_sumOf_4_5, if_pos (by omega)]
  simp only [Nat.zero_add, Nat.sub_zero]
  rw [fo_sm]
  rfl
theorem payOf_e {B f : Mm} (hB : WF B) (hC : CT B f) (x : Int) : FX0_payOf_4 x f = some (sumf B 4 x, f) := by
  unfold FX0_payOf_4 FX0_payOf_4_0
  have e := sumOf_e hB hC x (j := 4) (Or.inr rfl)
  rw [show FX0_sumOf_4 x 4 f = some (sumf B 4 x, f) from e, b2_some]
theorem wideOf_e {B f : Mm} (hB : WF B) (hC : CT B f) (x : Int) : FX0_wideOf_4 x f = some (sumf B 1 x, f) := by
  unfold FX0_wideOf_4 FX0_wideOf_4_0
  have e := sumOf_e hB hC x (j := 1) (Or.inl rfl)
  rw [show FX0_sumOf_4 x 1 f = some (sumf B 1 x, f) from e, b2_some]
theorem costOf_e {B f : Mm} (hB : WF B) (hC : CT B f) {w : Int} (hw : -1 ≤ w ∧ w < B 0 5) : FX0_costOf_4 w f = some (cst B w, f) := by
  obtain ⟨h4, he⟩ := WF_K hB
  unfold FX0_costOf_4 FX0_costOf_4_0 cst
  rw [hasDeed_e, b2_some, hC.1.2.2.2.2.1]
  by_cases hn : w = -1
  · rw [if_neg (show ¬ (0 ≤ w ∧ w < B 0 5) by omega), if_pos rfl, if_pos hn]
  · have q := hC.2.2.1 w.toNat (by omega) 1 (by omega)
    rw [if_pos (show 0 ≤ w ∧ w < B 0 5 by omega), if_neg (by decide), if_pos (by omega), if_neg hn, q]
theorem costOfAll18_e {B f : Mm} (hB : WF B) (hC : CT B f) : FX0_costOfAll_4_18 f = some (csts B (dn B), f) := by
  obtain ⟨h6, he⟩ := WF_D hB
  have e1 : f 4 1 = (nD B : Int) := by rw [hC.1.2.1, he]
  have hb : ∀ i, i < nD B → 0 ≤ cst B (dn B i) ∧ cst B (dn B i) ≤ 99 := fun i hi => cst_r hB (dn_W hB i (by omega))
  unfold FX0_costOfAll_4_18 FX0_costOfAll_4_18_0
  obtain ⟨m, e, -⟩ := forF (fun n y (s : Int) => FX0_costOfAll_4_18_4 n s y f) (fun i s => s + cst B (dn B i)) (fun i s => s = sm (fun d => cst B (dn B d)) i) 0 (nD B) 0 rfl (by omega) (fun n i s _ hi hJ => by
    have hp := sm_part hb (by omega) (i := i) (by omega)
    have hbi := hb i hi
    refine ⟨?_, by rw [hJ]; rfl⟩
    rw [FX0_costOfAll_4_18_4, if_neg (by omega), if_neg (by omega), if_pos (by omega), Int.toNat_natCast, hC.2.2.2.2.1 i (by omega), costOf_e hB hC (dn_W hB i (by omega)), b2_some, nx i (by omega), w32s (by omega) (by omega)]) fu (by have := fub; omega)
  refine e.trans ?_
  rw [FX0_costOfAll_4_18_4, if_pos (by omega)]
  simp only [Nat.zero_add, Nat.sub_zero]
  rw [fo_sm]
  rfl
theorem costOfAll49_e {B f : Mm} (hB : WF B) (hC : CT B f) {ch : Nat → Int} (hW : WD B ch) (hX : ∀ d, d < 6 → f 49 d = ch d) : FX0_costOfAll_4_49 f = some (csts B ch, f) := by
  obtain ⟨h6, he⟩ := WF_D hB
  have e1 : f 4 1 = (nD B : Int) := by rw [hC.1.2.1, he]
  have hb : ∀ i, i < nD B → 0 ≤ cst B (ch i) ∧ cst B (ch i) ≤ 99 := fun i hi => cst_r hB (hW i (by omega))
  unfold FX0_costOfAll_4_49 FX0_costOfAll_4_49_0
  obtain ⟨m, e, -⟩ := forF (fun n y (s : Int) => FX0_costOfAll_4_49_4 n s y f) (fun i s => s + cst B (ch i)) (fun i s => s = sm (fun d => cst B (ch d)) i) 0 (nD B) 0 rfl (by omega) (fun n i s _ hi hJ => by
    have hp := sm_part hb (by omega) (i := i) (by omega)
    have hbi := hb i hi
    refine ⟨?_, by rw [hJ]; rfl⟩
    rw [FX0_costOfAll_4_49_4, if_neg (by omega), if_neg (by omega), if_pos (by omega), Int.toNat_natCast, hX i (by omega), costOf_e hB hC (hW i (by omega)), b2_some, nx i (by omega), w32s (by omega) (by omega)]) fu (by have := fub; omega)
  refine e.trans ?_
  rw [FX0_costOfAll_4_49_4, if_pos (by omega)]
  simp only [Nat.zero_add, Nat.sub_zero]
  rw [fo_sm]
  rfl
theorem widthOn_e {B : Mm} {ch : Nat → Int} {t2 tw tm co : Int} {i : Nat} {g : Mm} (h : FK B ch t2 tw tm co i g) {d : Nat} (hd : d < i) (h6 : d < 6) : FX1_widthOn (d : Int) g = some (wd B ch t2 tw tm co d, g) := by
  unfold FX1_widthOn FX1_widthOn_0
  rw [if_pos (by omega), if_pos (by omega), Int.toNat_natCast, wd_is h hd]
/-- all carts -/
def allC (B : Mm) : Int := bts (fun _ => true) (nC B)
theorem allC_n : ∀ c : Fin 7, w32 (bShl 1 (c.val : Int) - 1) = 2 ^ c.val - 1 ∧ bts (fun _ => true) c.val = 2 ^ c.val - 1 := by decide +kernel
theorem allCarts_e {B f : Mm} (hB : WF B) (hC : CT B f) : FX0_allCarts_4 f = some (allC B, f) := by
  obtain ⟨h6, he⟩ := WF_C hB
  have h := allC_n ⟨nC B, by omega⟩
  unfold FX0_allCarts_4 FX0_allCarts_4_0 allC
  rw [hC.1.2.2.2.2.2.1, he, h.1, h.2]
theorem allC_r {B : Mm} (hB : WF B) : 0 ≤ allC B ∧ allC B < 64 ∧ allC B + 1 = 2 ^ nC B := by
  have h6 := (WF_C hB).1
  have h := allC_n ⟨nC B, by omega⟩
  have h2 : (1 : Nat) ≤ 2 ^ nC B ∧ 2 ^ nC B ≤ 2 ^ 6 := ⟨Nat.one_le_two_pow, Nat.pow_le_pow_right (by decide) h6⟩
  have h3 : ((2 : Int) ^ nC B) = ((2 ^ nC B : Nat) : Int) := by simp
  unfold allC
  rw [h.2]
  simp only
  omega
/-! who passed when -/
theorem pst_o {B : Mm} {d c : Nat} {q : Int × (Nat → Int)} {b : Nat} : (q.2 b ≠ -1 → (pst B d c q).2 b = q.2 b) ∧ (q.2 b = -1 → (pst B d c q).2 b = -1 ∨ (pst B d c q).2 b = (d : Int)) := by
  unfold pst
  constructor
  · intro h
    split
    · next hc =>
      show (if b = c then (d : Int) else q.2 b) = q.2 b
      by_cases hb : b = c
      · subst hb; exact absurd hc.1 h
      · rw [if_neg hb]
    · rfl
  · intro h
    split
    · show (if b = c then (d : Int) else q.2 b) = -1 ∨ (if b = c then (d : Int) else q.2 b) = (d : Int)
      by_cases hb : b = c
      · rw [if_pos hb]; exact Or.inr rfl
      · rw [if_neg hb]; exact Or.inl h
    · exact Or.inl h
theorem pcs_o {B : Mm} {od : Nat → Nat} {d : Nat} {q : Int × (Nat → Int)} {b : Nat} : ∀ i, (q.2 b ≠ -1 → (pcs B od d q i).2 b = q.2 b) ∧ (q.2 b = -1 → (pcs B od d q i).2 b = -1 ∨ (pcs B od d q i).2 b = (d : Int))
  | 0 => ⟨fun _ => rfl, fun h => Or.inl h⟩
  | i + 1 => by
    obtain ⟨h1, h2⟩ := pcs_o (B := B) (od := od) (d := d) (q := q) (b := b) i
    obtain ⟨h3, h4⟩ := pst_o (B := B) (d := d) (c := od i) (q := pcs B od d q i) (b := b)
    have e : pcs B od d q (i + 1) = pst B d (od i) (pcs B od d q i) := rfl
    rw [e]
    refine ⟨fun h => ?_, fun h => ?_⟩
    · have := h1 h
      rw [h3 (by rw [this]; exact h), this]
    · rcases h2 h with h5 | h5
      · exact h4 h5
      · exact Or.inr (by rw [h3 (by rw [h5]; omega), h5])
theorem pas_s {B : Mm} {od : Nat → Nat} {w : Nat → Int} {b : Nat} (d : Nat) : (pas B od w d b ≠ -1 → pas B od w (d + 1) b = pas B od w d b) ∧ (pas B od w d b = -1 → pas B od w (d + 1) b = -1 ∨ pas B od w (d + 1) b = (d : Int)) :=
  pcs_o (q := (w d, pas B od w d)) (nC B)
theorem pas_r {B : Mm} {od : Nat → Nat} {w : Nat → Int} {b : Nat} : ∀ d, pas B od w d b = -1 ∨ (0 ≤ pas B od w d b ∧ pas B od w d b < (d : Int))
  | 0 => Or.inl rfl
  | d + 1 => by
    have h := pas_s (B := B) (od := od) (w := w) (b := b) d
    by_cases h1 : pas B od w d b = -1
    · rcases h.2 h1 with h2 | h2
      · exact Or.inl h2
      · right; omega
    · have := h.1 h1
      rcases pas_r (B := B) (od := od) (w := w) (b := b) d with h3 | h3
      · exact absurd h3 h1
      · right; omega
/-- by a day's end it has passed just if its day is no later -/
theorem pas_le {B : Mm} {od : Nat → Nat} {w : Nat → Int} {b e : Nat} : ∀ k, (pas B od w e b ≠ -1 ↔ (pas B od w (e + k) b ≠ -1 ∧ pas B od w (e + k) b < (e : Int))) ∧ (pas B od w e b ≠ -1 → pas B od w (e + k) b = pas B od w e b)
  | 0 => by
    have := pas_r (B := B) (od := od) (w := w) (b := b) e
    rw [Nat.add_zero]
    exact ⟨⟨fun h => ⟨h, by omega⟩, fun h => h.1⟩, fun _ => rfl⟩
  | k + 1 => by
    obtain ⟨h1, h2⟩ := pas_le (B := B) (od := od) (w := w) (b := b) (e := e) k
    obtain ⟨h3, h4⟩ := pas_s (B := B) (od := od) (w := w) (b := b) (e + k)
    rw [show e + (k + 1) = e + k + 1 by omega]
    refine ⟨⟨fun h => ?_, fun h => ?_⟩, fun h => ?_⟩
    · have := h1.mp h
      rw [h3 this.1]
      exact this
    · by_cases h5 : pas B od w (e + k) b = -1
      · rcases h4 h5 with h6 | h6
        · exact absurd h6 h.1
        · have := h.2
          omega
      · rw [h3 h5] at h
        exact h1.mpr h
    · have := h1.mp h
      rw [h3 this.1, h2 h]
theorem pas_lt {B : Mm} {od : Nat → Nat} {w : Nat → Int} {b e D : Nat} (h : e ≤ D) : pas B od w e b ≠ -1 ↔ (pas B od w D b ≠ -1 ∧ pas B od w D b < (e : Int)) := by
  have := (pas_le (B := B) (od := od) (w := w) (b := b) (e := e) (D - e)).1
  rw [show e + (D - e) = D by omega] at this
  exact this
theorem pas_out {B : Mm} {od : Nat → Nat} (hO : OD B od) {w : Nat → Int} {b : Nat} (hb : nC B ≤ b) : ∀ d, pas B od w d b = -1
  | 0 => rfl
  | d + 1 => by
    have h := pas_out hO (w := w) hb d
    have key : ∀ i, i ≤ nC B → (pcs B od d (w d, pas B od w d) i).2 b = -1 := by
      intro i
      induction i with
      | zero => intro _; exact h
      | succ i ih =>
        intro hi
        have := hO i (by omega)
        have e : pcs B od d (w d, pas B od w d) (i + 1) = pst B d (od i) (pcs B od d (w d, pas B od w d) i) := rfl
        rw [e]
        unfold pst
        split
        · show (if b = od i then (d : Int) else (pcs B od d (w d, pas B od w d) i).2 b) = -1
          rw [if_neg (by omega)]
          exact ih (by omega)
        · exact ih (by omega)
    exact key (nC B) (Nat.le_refl _)
theorem passedOn_e {B : Mm} (hB : WF B) {od : Nat → Nat} {w : Nat → Int} {i : Nat} {g : Mm} (h : PK B od w i g) {d : Nat} (hd : d < i) (h6 : d < 6) : FX1_passedOn (d : Int) g = some (bts (fun c => decide (pas B od w i c = (d : Int))) (nC B), g) := by
  have hC := (WF_C hB).1
  unfold FX1_passedOn FX1_passedOn_0
  rw [w32n (x := (d : Int) + 1) (n := d + 1) (by omega) (by omega), if_pos (by omega), if_pos (by omega), Int.toNat_natCast, Int.toNat_natCast, (h.2 (d + 1) (by omega)).1, (h.2 d (by omega)).1]
  have s1 := bts_s (p := hs1 (pas B od w (d + 1))) (nC B) (by omega)
  have s2 := bts_s (p := hs1 (pas B od w d)) (nC B) (by omega)
  have s3 := sS_anx s1.1 s2.1
  have e : bAnd (bts (hs1 (pas B od w (d + 1))) (nC B)) (bXor (bts (hs1 (pas B od w d)) (nC B)) (-1)) = bts (fun c => decide (pas B od w i c = (d : Int))) (nC B) := by
    refine bts_is (by omega) s3.1 (fun j hj => ?_)
    rw [s3.2 j hj, s1.2 j hj, s2.2 j hj]
    by_cases hjn : j < nC B
    · have a1 := pas_lt (B := B) (od := od) (w := w) (b := j) (e := d + 1) (D := i) (by omega)
      have a2 := pas_lt (B := B) (od := od) (w := w) (b := j) (e := d) (D := i) (by omega)
      have a3 := pas_r (B := B) (od := od) (w := w) (b := j) i
      unfold hs1
      simp only [hjn, decide_true, Bool.true_and]
      by_cases hq : pas B od w i j = (d : Int)
      · rw [decide_eq_true (a1.mpr (by omega)), decide_eq_false (p := pas B od w d j ≠ -1) (fun q => by have := a2.mp q; omega), decide_eq_true hq]
        rfl
      · rw [decide_eq_false hq]
        by_cases hw2 : pas B od w d j ≠ -1
        · rw [decide_eq_true hw2]; simp
        · rw [decide_eq_false (p := pas B od w (d + 1) j ≠ -1) (fun q => by have := a1.mp q; have := mt a2.mpr hw2; omega)]
          rfl
    · simp [hjn]
  rw [e]

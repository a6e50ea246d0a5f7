/-! looks at the table: the class -/
theorem bts_lt {p : Nat → Bool} {n : Nat} (h : n ≤ 6) : ∃ m : Nat, bts p n = (m : Int) ∧ m < 2 ^ n := by
  have h1 := bts_s (p := p) n (by omega)
  obtain ⟨m, hm, e⟩ := sS_n h1.1
  refine ⟨m, e, ?_⟩
  apply Nat.lt_pow_two_of_testBit
  intro i hi
  rcases Nat.lt_or_ge i 7 with h7 | h7
  · have h2 := h1.2 i h7
    rw [e, hb_t hm h7, decide_eq_false (by omega), Bool.false_and] at h2
    exact h2
  · exact Nat.testBit_lt_two_pow (Nat.lt_of_lt_of_le (show m < 2 ^ 7 from hm) (Nat.pow_le_pow_right (by decide) (by omega)))
theorem kp_c {B : Mm} (hB : WF B) (k : Nat) : kp B k < cPow B := by
  obtain ⟨m, e, h⟩ := bts_lt (p := inT B (pp B k)) (WF_C hB).1
  unfold kp kpI
  rw [e, Int.toNat_natCast]
  exact h
theorem sct_n {q : Nat → Nat} {co : Nat → Int} {N m : Nat} (hc : ∀ k, k < N → 0 ≤ co k) : 0 < sct q N m ↔ scm q co N m ≠ -1 := by
  rw [(scm_n hc).1]
  unfold sct
  rw [cnt_p]
  constructor
  · rintro ⟨k, h1, h2⟩
    exact ⟨k, h1, of_decide_eq_true h2⟩
  · rintro ⟨k, h1, h2⟩
    exact ⟨k, h1, decide_eq_true h2⟩
/-- the best, if sets pay P -/
def vW (B : Mm) (P : Int → Int) (k : Nat) : Int := (10000 - P (kp B k : Int)) + pco B k
def bW (B : Mm) (P : Int → Int) : Int := mn (fun _ => true) (vW B P) (nP B)
def PR (P : Int → Int) : Prop := ∀ x, 0 ≤ P x ∧ P x ≤ 5994
theorem mn_b {B : Mm} (hB : WF B) {P : Int → Int} (hP : PR P) : mn (fun m => decide (scm (kp B) (pco B) (nP B) m ≠ -1)) (fun m => (10000 - P (m : Int)) + scm (kp B) (pco B) (nP B) m) (cPow B) = bW B P := by
  have h := mn_comp (kp := kp B) (co := pco B) (A := fun m => 10000 - P (m : Int)) (N := nP B) (M := cPow B) (q := fun _ => true) (fun k _ => kp_c hB k) (fun k _ => (pco_r hB k).1) (fun m _ => by have := hP (m : Int); (try simp only); omega)
  simp only [Bool.true_and] at h
  exact h
def payS (B : Mm) (u : Int) (x : Int) : Int := sumf B 4 (if u = -1 then x else bAnd x (bXor (bShl 1 u) (-1)))
theorem payS_r {B : Mm} (hB : WF B) (u : Int) : PR (payS B u) := fun x => (sumf_r hB _).1
theorem bestGain_e {B g : Mm} (hB : WF B) (hC : CT B g) (hF : PF B g) (u : Int) : FX3_bestGain_57_4 u g = some (if bW B (payS B u) = -1 then -1000000 else 10000 - bW B (payS B u), g) := by
  obtain ⟨f1, f2, f3, f4, f5⟩ := hF
  obtain ⟨c1, c2, c3, c4⟩ := cPow_r hB
  have hco : ∀ k, k < nP B → 0 ≤ pco B k := fun k _ => (pco_r hB k).1
  unfold FX3_bestGain_57_4 FX3_bestGain_57_4_0
  have hr : ∀ i, -1 ≤ mn (fun m => decide (scm (kp B) (pco B) (nP B) m ≠ -1)) (fun m => (10000 - payS B u (m : Int)) + scm (kp B) (pco B) (nP B) m) i ∧ mn (fun m => decide (scm (kp B) (pco B) (nP B) m ≠ -1)) (fun m => (10000 - payS B u (m : Int)) + scm (kp B) (pco B) (nP B) m) i ≤ 20000 := fun i => mn_r (fun m _ h => by
    have := payS_r hB u (m : Int)
    have := scm_r hB (kp B) (nP B) m
    have := (scm_n (kp := kp B) (co := pco B) (N := nP B) (m := m) hco).2 (of_decide_eq_true h)
    try simp only
    omega) (by decide)
  have key := forX (fun n x (s : Int) => FX3_bestGain_57_4_6 n u s x g) (fun i s => s = if mn (fun m => decide (scm (kp B) (pco B) (nP B) m ≠ -1)) (fun m => (10000 - payS B u (m : Int)) + scm (kp B) (pco B) (nP B) m) i = -1 then -1000000 else 10000 - mn (fun m => decide (scm (kp B) (pco B) (nP B) m ≠ -1)) (fun m => (10000 - payS B u (m : Int)) + scm (kp B) (pco B) (nP B) m) i) (fun p => p = (if bW B (payS B u) = -1 then -1000000 else 10000 - bW B (payS B u), g)) (cPow B) ?_ ?_ fu 0 (-1000000) rfl (by omega) (by have := fub; omega)
  · obtain ⟨b, q1, q2⟩ := key
    rw [← q2]
    exact q1
  · rintro n s hs
    rw [FX3_bestGain_57_4_6, allCarts_e hB hC, b2_some, if_pos (by omega), hs, mn_b hB (payS_r hB u)]
    exact Wp_some rfl
  · rintro n i s hi hs
    left
    have t := f3.1 i (by omega)
    have hn := sct_n (q := kp B) (m := i) hco
    have rs := scm_r hB (kp B) (nP B) i
    have rp := payS_r hB u (i : Int)
    have ri := hr i
    have em : mn (fun m => decide (scm (kp B) (pco B) (nP B) m ≠ -1)) (fun m => (10000 - payS B u (m : Int)) + scm (kp B) (pco B) (nP B) m) (i + 1) = if scm (kp B) (pco B) (nP B) i ≠ -1 ∧ (mn (fun m => decide (scm (kp B) (pco B) (nP B) m ≠ -1)) (fun m => (10000 - payS B u (m : Int)) + scm (kp B) (pco B) (nP B) m) i = -1 ∨ (10000 - payS B u (i : Int)) + scm (kp B) (pco B) (nP B) i < mn (fun m => decide (scm (kp B) (pco B) (nP B) m ≠ -1)) (fun m => (10000 - payS B u (m : Int)) + scm (kp B) (pco B) (nP B) m) i) then (10000 - payS B u (i : Int)) + scm (kp B) (pco B) (nP B) i else mn (fun m => decide (scm (kp B) (pco B) (nP B) m ≠ -1)) (fun m => (10000 - payS B u (m : Int)) + scm (kp B) (pco B) (nP B) m) i := by
      show (if decide (scm (kp B) (pco B) (nP B) i ≠ -1) = true ∧ _ then _ else _) = _
      simp only [decide_eq_true_eq]
    rw [em]
    generalize mn (fun m => decide (scm (kp B) (pco B) (nP B) m ≠ -1)) (fun m => (10000 - payS B u (m : Int)) + scm (kp B) (pco B) (nP B) m) i = M at *
    have h43 : ∀ y, y = (if u = -1 then (i : Int) else bAnd (i : Int) (bXor (bShl 1 u) (-1))) → FX3_bestGain_57_4_43 (FX3_bestGain_57_4_6 n) u s (i : Int) y g = FX3_bestGain_57_4_6 n u (jMax s (payS B u (i : Int) - scm (kp B) (pco B) (nP B) i)) ((i + 1 : Nat) : Int) g := by
      intro y hy
      unfold FX3_bestGain_57_4_43 FX3_bestGain_57_4_64
      rw [payOf_e hB hC, b2_some, if_pos (by omega), nx i (by omega), Int.toNat_natCast, t.2.1, hy]
      rw [show sumf B 4 (if u = -1 then (i : Int) else bAnd (i : Int) (bXor (bShl 1 u) (-1))) = payS B u (i : Int) from rfl, w32s (by omega) (by omega)]
    rw [FX3_bestGain_57_4_6, allCarts_e hB hC, b2_some, if_neg (by omega), if_pos (by omega), Int.toNat_natCast, t.1]
    by_cases hz : scm (kp B) (pco B) (nP B) i = -1
    · rw [if_pos (by omega)]
      unfold FX3_bestGain_57_4_64
      rw [nx i (by omega)]
      refine ⟨s, rfl, ?_⟩
      rw [if_neg (show ¬ (scm (kp B) (pco B) (nP B) i ≠ -1 ∧ (M = -1 ∨ (10000 - payS B u (i : Int)) + scm (kp B) (pco B) (nP B) i < M)) from fun h => h.1 hz)]
      exact hs
    · rw [if_neg (by omega)]
      have e2 : (if u = -1 then FX3_bestGain_57_4_43 (FX3_bestGain_57_4_6 n) u s (i : Int) (i : Int) g else FX3_bestGain_57_4_43 (FX3_bestGain_57_4_6 n) u s (i : Int) (bAnd (i : Int) (bXor (bShl 1 u) (-1))) g) = FX3_bestGain_57_4_6 n u (jMax s (payS B u (i : Int) - scm (kp B) (pco B) (nP B) i)) ((i + 1 : Nat) : Int) g := by
        by_cases hu : u = -1
        · rw [if_pos hu]; exact h43 _ (by rw [if_pos hu])
        · rw [if_neg hu]; exact h43 _ (by rw [if_neg hu])
      refine ⟨_, e2, ?_⟩
      rw [hs]
      unfold jMax
      by_cases hM : M = -1
      · rw [if_pos hM, if_pos (show scm (kp B) (pco B) (nP B) i ≠ -1 ∧ (M = -1 ∨ (10000 - payS B u (i : Int)) + scm (kp B) (pco B) (nP B) i < M) from ⟨hz, Or.inl hM⟩), if_pos (by omega), if_neg (by omega)]
        omega
      · rw [if_neg hM]
        by_cases hlt : (10000 - payS B u (i : Int)) + scm (kp B) (pco B) (nP B) i < M
        · rw [if_pos (show scm (kp B) (pco B) (nP B) i ≠ -1 ∧ (M = -1 ∨ (10000 - payS B u (i : Int)) + scm (kp B) (pco B) (nP B) i < M) from ⟨hz, Or.inr hlt⟩), if_pos (by omega), if_neg (by omega)]
          omega
        · rw [if_neg (show ¬ (scm (kp B) (pco B) (nP B) i ≠ -1 ∧ (M = -1 ∨ (10000 - payS B u (i : Int)) + scm (kp B) (pco B) (nP B) i < M)) by omega), if_neg (by omega), if_neg hM]
theorem bW_r {B : Mm} (hB : WF B) {P : Int → Int} (hP : PR P) : 0 ≤ bW B P ∧ bW B P ≤ 20000 := by
  have hN := nP_r hB
  have h : ∀ k, 0 ≤ vW B P k ∧ vW B P k ≤ 20000 := fun k => by
    have := hP (kp B k : Int)
    have := pco_r hB k
    unfold vW
    omega
  unfold bW
  rcases mn_is (p := fun _ => true) (c := vW B P) (nP B) (fun k _ _ => (h k).1) with ⟨q1, q⟩ | ⟨k, q1, q2, q3, q4, q5⟩
  · have := q 0 (by omega); cases this
  · have := h k; omega
def S_best (B : Mm) : Int := if 0 < B 0 8 then 10000 - bW B (sumf B 4) else -1000000
theorem payS_n (B : Mm) : payS B (-1) = sumf B 4 := by funext x; unfold payS; rw [if_pos rfl]
theorem bestGain_n {B g : Mm} (hB : WF B) (hC : CT B g) (hF : PF B g) : FX3_bestGain_57_4 (-1) g = some (10000 - bW B (sumf B 4), g) := by
  rw [bestGain_e hB hC hF, payS_n, if_neg]
  have := bW_r hB (P := sumf B 4) (fun x => (sumf_r hB x).1)
  omega
theorem pq_best {B : Mm} (hB : WF B) : QP B FX10_best (S_best B) := by
  rintro f ⟨hC, h0⟩ hP
  unfold FX10_best FX10_best_0 S_best
  rw [stands_e, b2_some, hC.1.1]
  by_cases h : 0 < B 0 8
  · rw [if_pos h, if_pos h, if_neg (by decide)]
    refine Wp_bind (weighed_W hB hC h0 hP) (fun g ⟨k, pf⟩ => ?_)
    rw [bestGain_n hB (CT_w hB hC k) pf, b2_some]
    exact Wp_some ⟨rfl, k, fun _ => pf⟩
  · rw [if_neg h, if_neg h, if_pos rfl]
    exact Wp_some ⟨rfl, Kp_r _ _, hP⟩
def S_value (B : Mm) (x : Int) : Int := if 0 ≤ x ∧ x < (nC B : Int) then bW B (payS B x) - bW B (sumf B 4) else -2
theorem pq_value {B : Mm} (hB : WF B) (x : Int) : QP B (FX10_value x) (S_value B x) := by
  rintro f ⟨hC, h0⟩ hP
  obtain ⟨hC6, hCe⟩ := WF_C hB
  unfold FX10_value FX10_value_0 S_value
  rw [hasCart_e, b2_some, hC.1.2.2.2.2.2.1, hCe]
  by_cases h : 0 ≤ x ∧ x < (nC B : Int)
  · rw [if_pos h, if_pos h, if_neg (by decide)]
    refine Wp_bind (weighed_W hB hC h0 hP) (fun g ⟨k, pf⟩ => ?_)
    have r1 := bW_r hB (P := sumf B 4) (fun x => (sumf_r hB x).1)
    have r2 := bW_r hB (payS_r hB x)
    rw [bestGain_n hB (CT_w hB hC k) pf, b2_some, bestGain_e hB (CT_w hB hC k) pf x, b2_some, if_neg (by omega), w32s (by omega) (by omega)]
    exact Wp_some ⟨by omega, k, fun _ => pf⟩
  · rw [if_neg h, if_neg h, if_pos rfl]
    exact Wp_some ⟨rfl, Kp_r _ _, hP⟩
theorem isBest_e {B g : Mm} (hB : WF B) (hC : CT B g) (hF : PF B g) {i : Nat} (hi : i < 64) (v : Int) : FX3_isBest_57_4 (i : Int) (10000 - v) g = some (if scm (kp B) (pco B) (nP B) i ≠ -1 ∧ (10000 - sumf B 4 (i : Int)) + scm (kp B) (pco B) (nP B) i = v then 1 else 0, g) := by
  have t := hF.2.2.1.1 i hi
  have hn := sct_n (q := kp B) (co := pco B) (N := nP B) (m := i) (fun k _ => (pco_r hB k).1)
  have rs := scm_r hB (kp B) (nP B) i
  have rp := (sumf_r hB (i : Int)).1
  unfold FX3_isBest_57_4 FX3_isBest_57_4_0
  rw [if_pos (by omega), Int.toNat_natCast, t.1]
  by_cases hz : scm (kp B) (pco B) (nP B) i = -1
  · rw [if_pos (by omega), if_neg (fun h => h.1 hz)]
  · rw [if_neg (by omega), payOf_e hB hC, b2_some, if_pos (by omega), t.2.1, w32s (by omega) (by omega)]
    by_cases he : sumf B 4 (i : Int) - scm (kp B) (pco B) (nP B) i = 10000 - v
    · rw [if_pos he, if_pos (by omega)]
    · rw [if_neg he, if_neg (by omega)]
def v_ways (B : Mm) : Int := wy (fun _ => true) (vW B (sumf B 4)) (nP B)
def v_first (B : Mm) : Int := fm (fun _ => true) (vW B (sumf B 4)) (nP B)
theorem sfm_r {B : Mm} (k m : Nat) : -1 ≤ sfm (kp B) (pco B) k m ∧ sfm (kp B) (pco B) k m ≤ k := by
  induction k with
  | zero => unfold sfm fm; omega
  | succ k ih =>
    rw [sfm_s]
    split <;> omega
theorem bestFirst_e {B g : Mm} (hB : WF B) (hC : CT B g) (hF : PF B g) : FX3_bestFirst_57_4 g = some (v_first B, g) := by
  obtain ⟨c1, c2, c3, c4⟩ := cPow_r hB
  have hco : ∀ k, k < nP B → 0 ≤ pco B k := fun k _ => (pco_r hB k).1
  have hfin := fm_comp (kp := kp B) (co := pco B) (A := fun m => 10000 - sumf B 4 (m : Int)) (N := nP B) (M := cPow B) (q := fun _ => true) (v := bW B (sumf B 4)) (fun k _ => kp_c hB k) hco (fun m _ => by have := (sumf_r hB (m : Int)).1; (try simp only); omega) rfl
  simp only [Bool.true_and] at hfin
  unfold FX3_bestFirst_57_4 FX3_bestFirst_57_4_0
  rw [bestGain_n hB hC hF, b2_some]
  have key := forX (fun n x (s : Int) => FX3_bestFirst_57_4_12 n (10000 - bW B (sumf B 4)) s x g) (fun i s => s = mn (fun m => decide (scm (kp B) (pco B) (nP B) m ≠ -1 ∧ (10000 - sumf B 4 (m : Int)) + scm (kp B) (pco B) (nP B) m = bW B (sumf B 4))) (fun m => sfm (kp B) (pco B) (nP B) m) i) (fun p => p = (v_first B, g)) (cPow B) ?_ ?_ fu 0 (-1) rfl (by omega) (by have := fub; omega)
  · obtain ⟨b, q1, q2⟩ := key
    rw [← q2]
    exact q1
  · rintro n s hs
    rw [FX3_bestFirst_57_4_12, allCarts_e hB hC, b2_some, if_pos (by omega), hs]
    exact Wp_some (by rw [hfin]; rfl)
  · rintro n i s hi hs
    left
    have t := hF.2.2.1.1 i (by omega)
    have em : ∀ (p : Nat → Bool) (c : Nat → Int), mn p c (i + 1) = if p i = true ∧ (mn p c i = -1 ∨ c i < mn p c i) then c i else mn p c i := fun p c => rfl
    rw [em]
    rw [← hs]
    rw [FX3_bestFirst_57_4_12, allCarts_e hB hC, b2_some, if_neg (by omega), isBest_e hB hC hF (by omega), b2_some]
    unfold FX3_bestFirst_57_4_48 FX3_bestFirst_57_4_56
    rw [nx i (by omega), if_pos (show (0 : Int) ≤ (i : Int) ∧ (i : Int) < 64 by omega), if_pos (show (0 : Int) ≤ (i : Int) ∧ (i : Int) < 64 by omega), Int.toNat_natCast, t.2.2.2]
    simp only [decide_eq_true_eq]
    by_cases hb : scm (kp B) (pco B) (nP B) i ≠ -1 ∧ (10000 - sumf B 4 (i : Int)) + scm (kp B) (pco B) (nP B) i = bW B (sumf B 4)
    · rw [if_pos hb, if_neg (by decide)]
      by_cases h1 : s = -1
      · rw [if_pos h1, if_pos ⟨hb, Or.inl h1⟩]
        exact ⟨_, rfl, rfl⟩
      · rw [if_neg h1]
        by_cases h2 : s ≤ sfm (kp B) (pco B) (nP B) i
        · rw [if_pos h2, if_neg (by omega)]
          exact ⟨_, rfl, rfl⟩
        · rw [if_neg h2, if_pos ⟨hb, Or.inr (by omega)⟩]
          exact ⟨_, rfl, rfl⟩
    · rw [if_neg hb, if_pos rfl, if_neg (fun q => hb q.1)]
      exact ⟨_, rfl, rfl⟩
theorem bestWays_e {B g : Mm} (hB : WF B) (hC : CT B g) (hF : PF B g) : FX3_bestWays_57_4 g = some (v_ways B, g) := by
  obtain ⟨c1, c2, c3, c4⟩ := cPow_r hB
  have hN := nP_r hB
  have hco : ∀ k, k < nP B → 0 ≤ pco B k := fun k _ => (pco_r hB k).1
  have hfin := wy_comp (kp := kp B) (co := pco B) (A := fun m => 10000 - sumf B 4 (m : Int)) (N := nP B) (M := cPow B) (q := fun _ => true) (v := bW B (sumf B 4)) (fun k _ => kp_c hB k) hco (fun m _ => by have := (sumf_r hB (m : Int)).1; (try simp only); omega) rfl
  simp only [Bool.true_and, decide_eq_true_eq] at hfin
  have hb : ∀ m, m < cPow B → 0 ≤ (if scm (kp B) (pco B) (nP B) m ≠ -1 ∧ (10000 - sumf B 4 (m : Int)) + scm (kp B) (pco B) (nP B) m = bW B (sumf B 4) then swy (kp B) (pco B) (nP B) m else 0) ∧ (if scm (kp B) (pco B) (nP B) m ≠ -1 ∧ (10000 - sumf B 4 (m : Int)) + scm (kp B) (pco B) (nP B) m = bW B (sumf B 4) then swy (kp B) (pco B) (nP B) m else 0) ≤ 15625 := fun m _ => by
    have := swy_r (kp B) (pco B) m (nP B)
    split <;> omega
  unfold FX3_bestWays_57_4 FX3_bestWays_57_4_0
  rw [bestGain_n hB hC hF, b2_some]
  have key := forX (fun n x (s : Int) => FX3_bestWays_57_4_12 n (10000 - bW B (sumf B 4)) s x g) (fun i s => s = sm (fun m => if scm (kp B) (pco B) (nP B) m ≠ -1 ∧ (10000 - sumf B 4 (m : Int)) + scm (kp B) (pco B) (nP B) m = bW B (sumf B 4) then swy (kp B) (pco B) (nP B) m else 0) i) (fun p => p = (v_ways B, g)) (cPow B) ?_ ?_ fu 0 0 rfl (by omega) (by have := fub; omega)
  · obtain ⟨b, q1, q2⟩ := key
    rw [← q2]
    exact q1
  · rintro n s hs
    rw [FX3_bestWays_57_4_12, allCarts_e hB hC, b2_some, if_pos (by omega), hs]
    exact Wp_some (by
      have e : sm (fun m => if scm (kp B) (pco B) (nP B) m ≠ -1 ∧ (10000 - sumf B 4 (m : Int)) + scm (kp B) (pco B) (nP B) m = bW B (sumf B 4) then swy (kp B) (pco B) (nP B) m else 0) (cPow B) = v_ways B := hfin
      rw [e])
  · rintro n i s hi hs
    left
    have t := hF.2.2.1.1 i (by omega)
    have hpt := sm_part hb (by omega) (i := i) (by omega)
    have hbi := hb i hi
    refine ⟨s + (if scm (kp B) (pco B) (nP B) i ≠ -1 ∧ (10000 - sumf B 4 (i : Int)) + scm (kp B) (pco B) (nP B) i = bW B (sumf B 4) then swy (kp B) (pco B) (nP B) i else 0), ?_, by rw [hs]; rfl⟩
    rw [FX3_bestWays_57_4_12, allCarts_e hB hC, b2_some, if_neg (by omega), isBest_e hB hC hF (by omega), b2_some]
    unfold FX3_bestWays_57_4_42
    rw [nx i (by omega), if_pos (show (0 : Int) ≤ (i : Int) ∧ (i : Int) < 64 by omega), Int.toNat_natCast, t.2.2.1]
    by_cases hq : scm (kp B) (pco B) (nP B) i ≠ -1 ∧ (10000 - sumf B 4 (i : Int)) + scm (kp B) (pco B) (nP B) i = bW B (sumf B 4)
    · rw [if_pos hq] at hbi
      rw [if_pos hq, if_neg (by decide), if_pos hq, w32s (by omega) (by omega)]
    · rw [if_neg hq, if_pos rfl, if_neg hq, Int.add_zero]
theorem pch_e {B : Mm} (k d : Nat) (hd : d < nD B) : pch B k d = ((k / (nK B + 1) ^ (nD B - 1 - d) % (nK B + 1) : Nat) : Int) - 1 := by unfold pch dg; rw [if_pos hd]
theorem iRem_n {a b : Nat} : iRem (a : Int) (b : Int) = ((a % b : Nat) : Int) := tmod_n a b
theorem deedOn_e {B g : Mm} (hB : WF B) (hF : PF B g) {k d : Nat} (hk : k < 20000) (hd : d < nD B) : FX3_deedOn (k : Int) (d : Int) g = some (pch B k d, g) := by
  obtain ⟨hD6, hDe⟩ := WF_D hB
  have hK := (WF_K hB).1
  unfold FX3_deedOn FX3_deedOn_0
  rw [if_neg (by omega), if_pos (by rw [hF.2.1]; omega), hF.1, w32n (x := (nD B : Int) - 1) (n := nD B - 1) (by omega) (by omega)]
  have key : ∀ (j n : Nat), j < n → d + j = nD B - 1 - (nD B - 1 - d - j) → d + j ≤ nD B - 1 → FX3_deedOn_23 n (d : Int) (((k / (nK B + 1) ^ (nD B - 1 - d - j)) : Nat) : Int) ((d + j : Nat) : Int) g = some (pch B k d, g) := by
    intro j
    induction j with
    | zero =>
      intro n hn _ _
      obtain ⟨m, rfl⟩ : ∃ m, n = m + 1 := ⟨n - 1, by omega⟩
      have hr : k / (nK B + 1) ^ (nD B - 1 - d) % (nK B + 1) < nK B + 1 := Nat.mod_lt _ (by omega)
      rw [FX3_deedOn_23, if_pos (by omega), hF.2.1, if_pos (by omega), show ((nK B : Int) + 1) = ((nK B + 1 : Nat) : Int) by omega, iRem_n, Nat.sub_zero, w32s (by omega) (by omega), pch_e k d hd]
    | succ j ih =>
      intro n hn h1 h2
      obtain ⟨m, rfl⟩ : ∃ m, n = m + 1 := ⟨n - 1, by omega⟩
      have hle : k / (nK B + 1) ^ (nD B - 1 - d - (j + 1)) ≤ k := Nat.div_le_self _ _
      rw [FX3_deedOn_23, if_neg (by omega), hF.2.1, if_pos (by omega), show ((nK B : Int) + 1) = ((nK B + 1 : Nat) : Int) by omega, iDiv_n (by omega), Nat.div_div_eq_div_mul, ← Nat.pow_succ, show (nD B - 1 - d - (j + 1)).succ = nD B - 1 - d - j by omega, w32n (x := ((d + (j + 1) : Nat) : Int) + -1) (n := d + j) (by omega) (by omega)]
      exact ih m (by omega) (by omega) (by omega)
  have := key (nD B - 1 - d) fu (by have := fub; omega) (by omega) (by omega)
  rw [show nD B - 1 - d - (nD B - 1 - d) = 0 by omega, Nat.pow_zero, Nat.div_one, show d + (nD B - 1 - d) = nD B - 1 by omega] at this
  exact this
theorem vW_r {B : Mm} (hB : WF B) (k : Nat) : 0 ≤ vW B (sumf B 4) k := by
  have := (sumf_r hB (kp B k : Int)).1
  have := pco_r hB k
  unfold vW
  omega
theorem v_first_r {B : Mm} (hB : WF B) : ∃ k : Nat, k < nP B ∧ v_first B = (k : Int) := by
  have hN := nP_r hB
  rcases (fm_is (p := fun _ => true) (c := vW B (sumf B 4)) (nP B) (fun k _ _ => vW_r hB k)).1 with ⟨q1, q⟩ | ⟨k, q1, q2, _⟩
  · have := q 0 (by omega); cases this
  · exact ⟨k, q1, q2⟩
def S_plan (B : Mm) (x : Int) : Int := if 0 ≤ x ∧ x < (nD B : Int) then pch B (v_first B).toNat x.toNat else -2
theorem pq_plan {B : Mm} (hB : WF B) (x : Int) : QP B (FX10_plan x) (S_plan B x) := by
  rintro f ⟨hC, h0⟩ hP
  obtain ⟨hD6, hDe⟩ := WF_D hB
  have hN := nP_r hB
  unfold FX10_plan FX10_plan_0 S_plan
  rw [hasDay_e, b2_some, hC.1.2.1, hDe]
  by_cases h : 0 ≤ x ∧ x < (nD B : Int)
  · rw [if_pos h, if_pos h, if_neg (by decide)]
    obtain ⟨d, rfl⟩ : ∃ d : Nat, x = (d : Int) := ⟨x.toNat, by omega⟩
    refine Wp_bind (weighed_W hB hC h0 hP) (fun g ⟨k, pf⟩ => ?_)
    obtain ⟨l, l1, l2⟩ := v_first_r hB
    rw [bestFirst_e hB (CT_w hB hC k) pf, b2_some, l2, deedOn_e hB pf (by omega) (by omega), b2_some]
    exact Wp_some ⟨by rw [Int.toNat_natCast, Int.toNat_natCast], k, fun _ => pf⟩
  · rw [if_neg h, if_neg h, if_pos rfl]
    exact Wp_some ⟨rfl, Kp_r _ _, hP⟩
def S_ways (B : Mm) : Int := if 0 < B 0 8 then v_ways B else -2
theorem pq_ways {B : Mm} (hB : WF B) : QP B FX10_ways (S_ways B) := by
  rintro f ⟨hC, h0⟩ hP
  unfold FX10_ways FX10_ways_0 S_ways
  rw [stands_e, b2_some, hC.1.1]
  by_cases h : 0 < B 0 8
  · rw [if_pos h, if_pos h, if_neg (by decide)]
    refine Wp_bind (weighed_W hB hC h0 hP) (fun g ⟨k, pf⟩ => ?_)
    rw [bestWays_e hB (CT_w hB hC k) pf, b2_some]
    exact Wp_some ⟨rfl, k, fun _ => pf⟩
  · rw [if_neg h, if_neg h, if_pos rfl]
    exact Wp_some ⟨rfl, Kp_r _ _, hP⟩

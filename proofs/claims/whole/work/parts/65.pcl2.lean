/-! more looks at the table: the class -/
theorem mn_no {p : Nat → Bool} {c : Nat → Int} : ∀ n, (∀ k, k < n → p k = false) → mn p c n = -1
  | 0, _ => rfl
  | n + 1, h => by
    show (if p n = true ∧ _ then _ else mn p c n) = -1
    rw [if_neg (fun q => by rw [h n (by omega)] at q; cases q.1)]
    exact mn_no n (fun k hk => h k (by omega))
theorem mn_comp0 {kp : Nat → Nat} {co : Nat → Int} {N M : Nat} {q : Nat → Bool} (hk : ∀ k, k < N → kp k < M) (hc : ∀ k, k < N → 0 ≤ co k) :
    mn (fun m => q m && decide (scm kp co N m ≠ -1)) (fun m => scm kp co N m) M = mn (fun k => q (kp k)) co N := by
  have h := mn_comp (kp := kp) (co := co) (A := fun _ => 0) (N := N) (M := M) (q := q) hk hc (fun _ _ => Int.le_refl _)
  simp only [Int.zero_add] at h
  exact h
theorem fm_comp0 {kp : Nat → Nat} {co : Nat → Int} {N M : Nat} {q : Nat → Bool} {v : Int} (hk : ∀ k, k < N → kp k < M) (hc : ∀ k, k < N → 0 ≤ co k) (hv : v = mn (fun k => q (kp k)) co N) :
    mn (fun m => q m && decide (scm kp co N m ≠ -1 ∧ scm kp co N m = v)) (fun m => sfm kp co N m) M = fm (fun k => q (kp k)) co N := by
  have h := fm_comp (kp := kp) (co := co) (A := fun _ => 0) (N := N) (M := M) (q := q) (v := v) hk hc (fun _ _ => Int.le_refl _) (by simp only [Int.zero_add]; exact hv)
  simp only [Int.zero_add] at h
  exact h
/-- the rows of choices by which a set is kept -/
def sub (B : Mm) (s k : Nat) : Bool := decide (bAnd (kp B k : Int) (s : Int) = (s : Int))
def chc (B : Mm) (s : Nat) : Int := mn (sub B s) (pco B) (nP B)
def chf (B : Mm) (s : Nat) : Int := fm (sub B s) (pco B) (nP B)
theorem sup_lt {m s : Nat} (hs : s < 64) (h : m < s) : decide (bAnd (m : Int) (s : Int) = (s : Int)) = false := by
  apply decide_eq_false
  rw [bAnd_n (by omega) (by omega)]
  have : m &&& s ≤ m := Nat.and_le_left
  omega
theorem cheapCost_e {B g : Mm} (hB : WF B) (hF : PF B g) {s : Nat} (hs : s < 64) : FX3_cheapCost (s : Int) g = some (chc B s, g) := by
  have hco : ∀ k, k < nP B → 0 ≤ pco B k := fun k _ => (pco_r hB k).1
  have hfin := mn_comp0 (kp := kp B) (co := pco B) (N := nP B) (M := 64) (q := fun m => decide (bAnd (m : Int) (s : Int) = (s : Int))) (fun k _ => (kp_r hB k).1) hco
  unfold FX3_cheapCost FX3_cheapCost_0
  have key := forX (fun n x (v : Int) => FX3_cheapCost_4 n (s : Int) v x g) (fun i v => v = mn (fun m => decide (bAnd (m : Int) (s : Int) = (s : Int)) && decide (scm (kp B) (pco B) (nP B) m ≠ -1)) (fun m => scm (kp B) (pco B) (nP B) m) i) (fun p => p = (chc B s, g)) 64 ?_ ?_ fu s (-1) ?_ (by omega) (by have := fub; omega)
  · obtain ⟨b, q1, q2⟩ := key
    rw [← q2]
    exact q1
  · rintro n v hv
    rw [FX3_cheapCost_4, if_pos (by omega), hv, hfin]
    exact Wp_some rfl
  · rintro n i v hi hv
    left
    have t := hF.2.2.1.1 i hi
    have hn := sct_n (q := kp B) (m := i) hco
    have em : ∀ (p : Nat → Bool) (c : Nat → Int), mn p c (i + 1) = if p i = true ∧ (mn p c i = -1 ∨ c i < mn p c i) then c i else mn p c i := fun p c => rfl
    rw [em, ← hv]
    have hI : (0 : Int) ≤ (i : Int) ∧ (i : Int) < 64 := by omega
    rw [FX3_cheapCost_4]
    unfold FX3_cheapCost_41 FX3_cheapCost_48
    rw [if_neg (by omega), nx i (by omega)]
    simp only [if_pos hI]
    rw [Int.toNat_natCast, t.1, t.2.1]
    simp only [Bool.and_eq_true, decide_eq_true_eq]
    by_cases h1 : bAnd (i : Int) (s : Int) = (s : Int)
    · rw [if_pos h1]
      by_cases h2 : scm (kp B) (pco B) (nP B) i = -1
      · rw [if_pos (by omega), if_neg (fun q => q.1.2 h2)]
        exact ⟨_, rfl, rfl⟩
      · rw [if_neg (by omega)]
        by_cases h3 : v = -1
        · rw [if_pos h3, if_pos ⟨⟨h1, h2⟩, Or.inl h3⟩]
          exact ⟨_, rfl, rfl⟩
        · rw [if_neg h3]
          by_cases h4 : v ≤ scm (kp B) (pco B) (nP B) i
          · rw [if_pos h4, if_neg (by omega)]
            exact ⟨_, rfl, rfl⟩
          · rw [if_neg h4, if_pos ⟨⟨h1, h2⟩, Or.inr (by omega)⟩]
            exact ⟨_, rfl, rfl⟩
    · rw [if_neg h1, if_neg (fun q => h1 q.1.1)]
      exact ⟨_, rfl, rfl⟩
  · exact (mn_no s (fun m hm => by rw [sup_lt hs hm, Bool.false_and])).symm
theorem cheapFirst_e {B g : Mm} (hB : WF B) (hF : PF B g) {s : Nat} (hs : s < 64) : FX3_cheapFirst (s : Int) g = some (chf B s, g) := by
  have hco : ∀ k, k < nP B → 0 ≤ pco B k := fun k _ => (pco_r hB k).1
  have hfin := fm_comp0 (kp := kp B) (co := pco B) (N := nP B) (M := 64) (q := fun m => decide (bAnd (m : Int) (s : Int) = (s : Int))) (v := chc B s) (fun k _ => (kp_r hB k).1) hco rfl
  unfold FX3_cheapFirst FX3_cheapFirst_0
  rw [cheapCost_e hB hF hs, b2_some]
  have key := forX (fun n x (v : Int) => FX3_cheapFirst_11 n (s : Int) (chc B s) v x g) (fun i v => v = mn (fun m => decide (bAnd (m : Int) (s : Int) = (s : Int)) && decide (scm (kp B) (pco B) (nP B) m ≠ -1 ∧ scm (kp B) (pco B) (nP B) m = chc B s)) (fun m => sfm (kp B) (pco B) (nP B) m) i) (fun p => p = (chf B s, g)) 64 ?_ ?_ fu s (-1) ?_ (by omega) (by have := fub; omega)
  · obtain ⟨b, q1, q2⟩ := key
    rw [← q2]
    exact q1
  · rintro n v hv
    rw [FX3_cheapFirst_11, if_pos (by omega), hv, hfin]
    exact Wp_some rfl
  · rintro n i v hi hv
    left
    have t := hF.2.2.1.1 i hi
    have hn := sct_n (q := kp B) (m := i) hco
    have em : ∀ (p : Nat → Bool) (c : Nat → Int), mn p c (i + 1) = if p i = true ∧ (mn p c i = -1 ∨ c i < mn p c i) then c i else mn p c i := fun p c => rfl
    rw [em, ← hv]
    have hI : (0 : Int) ≤ (i : Int) ∧ (i : Int) < 64 := by omega
    rw [FX3_cheapFirst_11]
    unfold FX3_cheapFirst_63 FX3_cheapFirst_71
    rw [if_neg (by omega), nx i (by omega)]
    simp only [if_pos hI]
    rw [Int.toNat_natCast, t.1, t.2.1, t.2.2.2]
    simp only [Bool.and_eq_true, decide_eq_true_eq]
    by_cases h1 : bAnd (i : Int) (s : Int) = (s : Int)
    · rw [if_pos h1]
      by_cases h2 : scm (kp B) (pco B) (nP B) i = -1
      · rw [if_pos (by omega), if_neg (fun q => q.1.2.1 h2)]
        exact ⟨_, rfl, rfl⟩
      · rw [if_neg (by omega)]
        by_cases h5 : scm (kp B) (pco B) (nP B) i = chc B s
        · rw [if_pos h5]
          by_cases h3 : v = -1
          · rw [if_pos h3, if_pos ⟨⟨h1, h2, h5⟩, Or.inl h3⟩]
            exact ⟨_, rfl, rfl⟩
          · rw [if_neg h3]
            by_cases h4 : v ≤ sfm (kp B) (pco B) (nP B) i
            · rw [if_pos h4, if_neg (by omega)]
              exact ⟨_, rfl, rfl⟩
            · rw [if_neg h4, if_pos ⟨⟨h1, h2, h5⟩, Or.inr (by omega)⟩]
              exact ⟨_, rfl, rfl⟩
        · rw [if_neg h5, if_neg (fun q => h5 q.1.2.2)]
          exact ⟨_, rfl, rfl⟩
    · rw [if_neg h1, if_neg (fun q => h1 q.1.1)]
      exact ⟨_, rfl, rfl⟩
  · exact (mn_no s (fun m hm => by rw [sup_lt hs hm, Bool.false_and])).symm
theorem hasSet_e {B f : Mm} (hB : WF B) (hC : CT B f) (x : Int) : FX0_hasSet_4 x f = some (if 0 < B 0 8 ∧ 0 ≤ x ∧ x < (cPow B : Int) then 1 else 0, f) := by
  obtain ⟨c1, c2, c3, c4⟩ := cPow_r hB
  unfold FX0_hasSet_4 FX0_hasSet_4_0
  rw [stands_e, b2_some, hC.1.1, allCarts_e hB hC, b2_some]
  by_cases h1 : 0 < B 0 8
  · rw [if_pos h1, if_neg (by decide)]
    by_cases h2 : x < 0
    · rw [if_pos h2, if_neg (by omega)]
    · rw [if_neg h2]
      by_cases h3 : allC B < x
      · rw [if_pos h3, if_neg (by omega)]
      · rw [if_neg h3, if_pos (by omega)]
  · rw [if_neg h1, if_pos rfl, if_neg (fun q => h1 q.1)]
def S_cheap (B : Mm) (x : Int) : Int := if 0 < B 0 8 ∧ 0 ≤ x ∧ x < (cPow B : Int) then chc B x.toNat else -2
theorem pq_cheap {B : Mm} (hB : WF B) (x : Int) : QP B (FX10_cheap x) (S_cheap B x) := by
  rintro f ⟨hC, h0⟩ hP
  obtain ⟨c1, c2, c3, c4⟩ := cPow_r hB
  unfold FX10_cheap FX10_cheap_0 S_cheap
  rw [hasSet_e hB hC, b2_some]
  by_cases h : 0 < B 0 8 ∧ 0 ≤ x ∧ x < (cPow B : Int)
  · rw [if_pos h, if_pos h, if_neg (by decide)]
    obtain ⟨s, rfl⟩ : ∃ s : Nat, x = (s : Int) := ⟨x.toNat, by omega⟩
    refine Wp_bind (weighed_W hB hC h0 hP) (fun g ⟨k, pf⟩ => ?_)
    rw [cheapCost_e hB pf (by omega), b2_some]
    exact Wp_some ⟨by rw [Int.toNat_natCast], k, fun _ => pf⟩
  · rw [if_neg h, if_neg h, if_pos rfl]
    exact Wp_some ⟨rfl, Kp_r _ _, hP⟩
def S_cheaply (B : Mm) (x y : Int) : Int := if (0 < B 0 8 ∧ 0 ≤ x ∧ x < (cPow B : Int)) ∧ 0 ≤ y ∧ y < (nD B : Int) then (if chf B x.toNat = -1 then -1 else pch B (chf B x.toNat).toNat y.toNat) else -2
theorem fm_r {p : Nat → Bool} {c : Nat → Int} : ∀ n, fm p c n = -1 ∨ ∃ k : Nat, k < n ∧ fm p c n = (k : Int)
  | 0 => Or.inl rfl
  | n + 1 => by
    have e : fm p c (n + 1) = if p n = true ∧ (mn p c n = -1 ∨ c n < mn p c n) then (n : Int) else fm p c n := rfl
    rw [e]
    split
    · exact Or.inr ⟨n, by omega, rfl⟩
    · rcases fm_r (p := p) (c := c) n with h | ⟨k, h1, h2⟩
      · exact Or.inl h
      · exact Or.inr ⟨k, by omega, h2⟩
theorem pq_cheaply {B : Mm} (hB : WF B) (x y : Int) : QP B (FX10_cheaply x y) (S_cheaply B x y) := by
  rintro f ⟨hC, h0⟩ hP
  obtain ⟨c1, c2, c3, c4⟩ := cPow_r hB
  obtain ⟨hD6, hDe⟩ := WF_D hB
  have hN := nP_r hB
  unfold FX10_cheaply FX10_cheaply_0 S_cheaply
  rw [hasSet_e hB hC, b2_some]
  by_cases h : 0 < B 0 8 ∧ 0 ≤ x ∧ x < (cPow B : Int)
  · rw [if_pos h, if_neg (by decide), hasDay_e, b2_some, hC.1.2.1, hDe]
    by_cases h2 : 0 ≤ y ∧ y < (nD B : Int)
    · rw [if_pos h2, if_neg (by decide), if_pos ⟨h, h2⟩]
      obtain ⟨s, rfl⟩ : ∃ s : Nat, x = (s : Int) := ⟨x.toNat, by omega⟩
      obtain ⟨d, rfl⟩ : ∃ d : Nat, y = (d : Int) := ⟨y.toNat, by omega⟩
      refine Wp_bind (weighed_W hB hC h0 hP) (fun g ⟨k, pf⟩ => ?_)
      rw [cheapFirst_e hB pf (by omega), b2_some, Int.toNat_natCast, Int.toNat_natCast]
      rcases fm_r (p := sub B s) (c := pco B) (nP B) with h3 | ⟨l, h3, h4⟩
      · have h3' : chf B s = -1 := h3
        rw [if_pos h3', if_pos h3']
        exact Wp_some ⟨rfl, k, fun _ => pf⟩
      · have h4' : chf B s = (l : Int) := h4
        rw [h4', if_neg (by omega), if_neg (by omega), deedOn_e hB pf (by omega) (by omega), b2_some]
        exact Wp_some ⟨by rw [Int.toNat_natCast], k, fun _ => pf⟩
    · rw [if_neg h2, if_pos rfl, if_neg (fun q => h2 q.2)]
      exact Wp_some ⟨rfl, Kp_r _ _, hP⟩
  · rw [if_neg h, if_pos rfl, if_neg (fun q => h q.1)]
    exact Wp_some ⟨rfl, Kp_r _ _, hP⟩
def S_sets (B : Mm) : Int := if 0 < B 0 8 then sm (fun s => if chc B s = -1 then 0 else 1) (cPow B) else -2
theorem sets_r (B : Mm) (i : Nat) : 0 ≤ sm (fun s => if chc B s = -1 then 0 else 1) i ∧ sm (fun s => if chc B s = -1 then 0 else 1) i ≤ i := by
  have := sm_r (g := fun s => if chc B s = -1 then (0 : Int) else 1) (M := 1) i (fun j _ => by split <;> omega)
  omega
theorem pq_sets {B : Mm} (hB : WF B) : QP B FX10_sets (S_sets B) := by
  rintro f ⟨hC, h0⟩ hP
  obtain ⟨c1, c2, c3, c4⟩ := cPow_r hB
  unfold FX10_sets FX10_sets_0 S_sets
  rw [stands_e, b2_some, hC.1.1]
  by_cases h : 0 < B 0 8
  · rw [if_pos h, if_pos h, if_neg (by decide)]
    refine Wp_bind (weighed_W hB hC h0 hP) (fun g ⟨k, pf⟩ => ?_)
    have hC' := CT_w hB hC k
    refine forX (fun n x (v : Int) => FX10_sets_22 n v x g) (fun i v => v = sm (fun s => if chc B s = -1 then 0 else 1) i) _ (cPow B) ?_ ?_ fu 0 0 rfl (by omega) (by have := fub; omega)
    · rintro n v hv
      rw [FX10_sets_22, allCarts_e hB hC', b2_some, if_pos (by omega), hv]
      exact Wp_some ⟨rfl, k, fun _ => pf⟩
    · rintro n i v hi hv
      left
      have hr := sets_r B i
      refine ⟨v + (if chc B i = -1 then 0 else 1), ?_, by rw [hv]; rfl⟩
      rw [FX10_sets_22, allCarts_e hB hC', b2_some, if_neg (by omega), cheapCost_e hB pf (by omega), b2_some]
      unfold FX10_sets_45
      rw [nx i (by omega)]
      by_cases h2 : chc B i = -1
      · rw [if_pos h2, if_pos h2, Int.add_zero]
      · rw [if_neg h2, if_neg h2, w32s (by omega) (by omega)]
  · rw [if_neg h, if_neg h, if_pos rfl]
    exact Wp_some ⟨rfl, Kp_r _ _, hP⟩
def v_often (B : Mm) (c : Nat) : Int := cnt (fun k => hbit (kp B k : Int) c) (nP B)
def S_often (B : Mm) (x : Int) : Int := if 0 ≤ x ∧ x < (nC B : Int) then v_often B x.toNat else -2
theorem plansKeeping_e {B g : Mm} (hB : WF B) (hF : PF B g) {c : Nat} : FX3_plansKeeping (c : Int) g = some (v_often B c, g) := by
  have hN := nP_r hB
  have hfin := cnt_ex (kp := kp B) (q := fun m => hbit (m : Int) c) (r := fun _ => true) (M := 64) (nP B) (fun k _ => (kp_r hB k).1)
  simp only [Bool.and_true] at hfin
  have hb : ∀ m : Nat, m < 64 → 0 ≤ (if hbit (m : Int) c = true then sct (kp B) (nP B) m else 0) ∧ (if hbit (m : Int) c = true then sct (kp B) (nP B) m else 0) ≤ 15625 := fun m _ => by
    have := cnt_r (p := fun k => decide (kp B k = m)) (nP B)
    have e : sct (kp B) (nP B) m = cnt (fun k => decide (kp B k = m)) (nP B) := rfl
    split <;> omega
  unfold FX3_plansKeeping FX3_plansKeeping_0
  have key := forX (fun n x (v : Int) => FX3_plansKeeping_4 n (c : Int) v x g) (fun i v => v = sm (fun m => if hbit (m : Int) c = true then sct (kp B) (nP B) m else 0) i) (fun p => p = (v_often B c, g)) 64 ?_ ?_ fu 0 0 rfl (by omega) (by have := fub; omega)
  · obtain ⟨b, q1, q2⟩ := key
    rw [← q2]
    exact q1
  · rintro n v hv
    rw [FX3_plansKeeping_4, if_pos (by omega), hv]
    exact Wp_some (by
      have e : sm (fun m => if hbit (m : Int) c = true then sct (kp B) (nP B) m else 0) 64 = v_often B c := hfin
      rw [e])
  · rintro n i v hi hv
    left
    have t := hF.2.2.1.1 i hi
    have hpt := sm_part hb (by omega) (i := i) (by omega)
    have hbi := hb i hi
    refine ⟨v + (if hbit (i : Int) c = true then sct (kp B) (nP B) i else 0), ?_, by rw [hv]; rfl⟩
    rw [FX3_plansKeeping_4, if_neg (by omega), holds_e, b2_some]
    unfold FX3_plansKeeping_27
    rw [nx i (by omega), if_pos (show (0 : Int) ≤ (i : Int) ∧ (i : Int) < 64 by omega), Int.toNat_natCast, t.1]
    by_cases hq : hbit (i : Int) c = true
    · rw [if_pos hq] at hbi
      rw [if_pos hq, if_neg (by decide), if_pos hq, w32s (by omega) (by omega)]
    · rw [if_neg hq, if_pos rfl, if_neg hq, Int.add_zero]
theorem pq_often {B : Mm} (hB : WF B) (x : Int) : QP B (FX10_often x) (S_often B x) := by
  rintro f ⟨hC, h0⟩ hP
  obtain ⟨hC6, hCe⟩ := WF_C hB
  unfold FX10_often FX10_often_0 S_often
  rw [hasCart_e, b2_some, hC.1.2.2.2.2.2.1, hCe]
  by_cases h : 0 ≤ x ∧ x < (nC B : Int)
  · rw [if_pos h, if_pos h, if_neg (by decide)]
    obtain ⟨c, rfl⟩ : ∃ c : Nat, x = (c : Int) := ⟨x.toNat, by omega⟩
    refine Wp_bind (weighed_W hB hC h0 hP) (fun g ⟨k, pf⟩ => ?_)
    rw [plansKeeping_e hB pf, b2_some]
    exact Wp_some ⟨by rw [Int.toNat_natCast], k, fun _ => pf⟩
  · rw [if_neg h, if_neg h, if_pos rfl]
    exact Wp_some ⟨rfl, Kp_r _ _, hP⟩
def S_soonest (B : Mm) (x : Int) : Int := if 0 ≤ x ∧ x < (nC B : Int) then fdk B (nP B) x.toNat else -2
theorem pq_soonest {B : Mm} (hB : WF B) (x : Int) : QP B (FX10_soonest x) (S_soonest B x) := by
  rintro f ⟨hC, h0⟩ hP
  obtain ⟨hC6, hCe⟩ := WF_C hB
  unfold FX10_soonest FX10_soonest_0 S_soonest
  rw [hasCart_e, b2_some, hC.1.2.2.2.2.2.1, hCe]
  by_cases h : 0 ≤ x ∧ x < (nC B : Int)
  · rw [if_pos h, if_pos h, if_neg (by decide)]
    refine Wp_bind (weighed_W hB hC h0 hP) (fun g ⟨k, pf⟩ => ?_)
    rw [if_pos (by omega), pf.2.2.2.2 x.toNat (by omega)]
    exact Wp_some ⟨rfl, k, fun _ => pf⟩
  · rw [if_neg h, if_neg h, if_pos rfl]
    exact Wp_some ⟨rfl, Kp_r _ _, hP⟩
def S_most (B : Mm) (x : Int) : Int := if 0 ≤ x ∧ x < (nD B : Int) then mxw (fun j => pw B j x.toNat) (nP B) else -2
theorem pq_most {B : Mm} (hB : WF B) (x : Int) : QP B (FX10_most x) (S_most B x) := by
  rintro f ⟨hC, h0⟩ hP
  obtain ⟨hD6, hDe⟩ := WF_D hB
  unfold FX10_most FX10_most_0 S_most
  rw [hasDay_e, b2_some, hC.1.2.1, hDe]
  by_cases h : 0 ≤ x ∧ x < (nD B : Int)
  · rw [if_pos h, if_pos h, if_neg (by decide)]
    refine Wp_bind (weighed_W hB hC h0 hP) (fun g ⟨k, pf⟩ => ?_)
    rw [if_pos (by omega), pf.2.2.2.1 x.toNat (by omega)]
    exact Wp_some ⟨rfl, k, fun _ => pf⟩
  · rw [if_neg h, if_neg h, if_pos rfl]
    exact Wp_some ⟨rfl, Kp_r _ _, hP⟩
def v_hold (B : Mm) (n : Nat) : Int := mn (fun k => decide (n ≤ lsN B k)) (pco B) (nP B)
def S_hold (B : Mm) (x : Int) : Int := if 0 < B 0 8 ∧ 0 ≤ x ∧ x ≤ 60 then v_hold B x.toNat else -2
theorem holdCost_e {B g : Mm} (hB : WF B) (hF : PF B g) {w : Nat} (hw : w ≤ 60) : FX3_holdCost (w : Int) g = some (v_hold B w, g) := by
  have hco : ∀ k, k < nP B → 0 ≤ pco B k := fun k _ => (pco_r hB k).1
  have hfin := mn_comp0 (kp := lsN B) (co := pco B) (N := nP B) (M := 61) (q := fun m => decide (w ≤ m)) (fun k _ => (ls_r hB k).1) hco
  unfold FX3_holdCost FX3_holdCost_0
  have key := forX (fun n x (v : Int) => FX3_holdCost_4 n v x g) (fun i v => w ≤ i ∧ v = mn (fun m => decide (w ≤ m) && decide (scm (lsN B) (pco B) (nP B) m ≠ -1)) (fun m => scm (lsN B) (pco B) (nP B) m) i) (fun p => p = (v_hold B w, g)) 61 ?_ ?_ fu w (-1) ⟨Nat.le_refl _, ?_⟩ (by omega) (by have := fub; omega)
  · obtain ⟨b, q1, q2⟩ := key
    rw [← q2]
    exact q1
  · rintro n v ⟨_, hv⟩
    rw [FX3_holdCost_4, if_pos (by omega), hv, hfin]
    exact Wp_some rfl
  · rintro n i v hi ⟨hwi, hv⟩
    left
    have t := hF.2.2.1.2 i hi
    have em : ∀ (p : Nat → Bool) (c : Nat → Int), mn p c (i + 1) = if p i = true ∧ (mn p c i = -1 ∨ c i < mn p c i) then c i else mn p c i := fun p c => rfl
    rw [em, ← hv]
    have hI : (0 : Int) ≤ (i : Int) ∧ (i : Int) < 61 := by omega
    rw [FX3_holdCost_4]
    unfold FX3_holdCost_35 FX3_holdCost_42
    rw [if_neg (by omega), nx i (by omega)]
    simp only [if_pos hI]
    rw [Int.toNat_natCast, t]
    simp only [Bool.and_eq_true, decide_eq_true_eq]
    by_cases h2 : scm (lsN B) (pco B) (nP B) i = -1
    · rw [if_pos h2, if_neg (fun q => q.1.2 h2)]
      exact ⟨_, rfl, by omega, rfl⟩
    · rw [if_neg h2]
      by_cases h3 : v = -1
      · rw [if_pos h3, if_pos ⟨⟨hwi, h2⟩, Or.inl h3⟩]
        exact ⟨_, rfl, by omega, rfl⟩
      · rw [if_neg h3]
        by_cases h4 : v ≤ scm (lsN B) (pco B) (nP B) i
        · rw [if_pos h4, if_neg (by omega)]
          exact ⟨_, rfl, by omega, rfl⟩
        · rw [if_neg h4, if_pos ⟨⟨hwi, h2⟩, Or.inr (by omega)⟩]
          exact ⟨_, rfl, by omega, rfl⟩
  · exact (mn_no w (fun m hm => by rw [decide_eq_false (by omega), Bool.false_and])).symm
theorem pq_hold {B : Mm} (hB : WF B) (x : Int) : QP B (FX10_hold x) (S_hold B x) := by
  rintro f ⟨hC, h0⟩ hP
  unfold FX10_hold FX10_hold_0 S_hold
  rw [stands_e, b2_some, hC.1.1]
  by_cases h : 0 < B 0 8
  · rw [if_pos h, if_neg (by decide), isFeeling_e, b2_some]
    by_cases h2 : 0 ≤ x ∧ x ≤ 60
    · rw [if_pos h2, if_neg (by decide), if_pos ⟨h, h2⟩]
      obtain ⟨w, rfl⟩ : ∃ w : Nat, x = (w : Int) := ⟨x.toNat, by omega⟩
      refine Wp_bind (weighed_W hB hC h0 hP) (fun g ⟨k, pf⟩ => ?_)
      rw [holdCost_e hB pf (by omega), b2_some]
      exact Wp_some ⟨by rw [Int.toNat_natCast], k, fun _ => pf⟩
    · rw [if_neg h2, if_pos rfl, if_neg (fun q => h2 q.2)]
      exact Wp_some ⟨rfl, Kp_r _ _, hP⟩
  · rw [if_neg h, if_pos rfl, if_neg (fun q => h q.1)]
    exact Wp_some ⟨rfl, Kp_r _ _, hP⟩
theorem mxw_is {g : Nat → Int} : ∀ N, (∀ k, k < N → g k ≤ mxw g N) ∧ 0 ≤ mxw g N ∧ (mxw g N = 0 ∨ ∃ k, k < N ∧ g k = mxw g N)
  | 0 => ⟨fun k h => by omega, Int.le_refl _, Or.inl rfl⟩
  | N + 1 => by
    obtain ⟨h1, h2, h3⟩ := mxw_is (g := g) N
    have e : mxw g (N + 1) = if mxw g N < g N then g N else mxw g N := rfl
    rw [e]
    by_cases h : mxw g N < g N
    · rw [if_pos h]
      refine ⟨fun k hk => ?_, by omega, Or.inr ⟨N, by omega, rfl⟩⟩
      by_cases hkn : k = N
      · rw [hkn]; exact Int.le_refl _
      · have := h1 k (by omega); omega
    · rw [if_neg h]
      refine ⟨fun k hk => ?_, h2, ?_⟩
      · by_cases hkn : k = N
        · rw [hkn]; omega
        · exact h1 k (by omega)
      · rcases h3 with q | ⟨k, q1, q2⟩
        · exact Or.inl q
        · exact Or.inr ⟨k, by omega, q2⟩
def v_wid (B : Mm) : Int := mxw (fun k => lsI B k) (nP B)
def S_widest (B : Mm) : Int := if 0 < B 0 8 then v_wid B else -2
theorem widestLeast_e {B g : Mm} (hB : WF B) (hF : PF B g) : FX3_widestLeast g = some (v_wid B, g) := by
  have hN := nP_r hB
  have hco : ∀ k, k < nP B → 0 ≤ pco B k := fun k _ => (pco_r hB k).1
  obtain ⟨m1, m2, m3⟩ := mxw_is (g := fun k => lsI B k) (nP B)
  unfold FX3_widestLeast FX3_widestLeast_0
  have key := forX (fun n x (v : Int) => FX3_widestLeast_4 n v x g) (fun i v => (∀ k, k < nP B → lsN B k < i → (lsN B k : Int) ≤ v) ∧ 0 ≤ v ∧ (v = 0 ∨ ∃ k, k < nP B ∧ (lsN B k : Int) = v)) (fun p => p = (v_wid B, g)) 61 ?_ ?_ fu 0 0 ⟨fun k _ h => by omega, by omega, Or.inl rfl⟩ (by omega) (by have := fub; omega)
  · obtain ⟨b, q1, q2⟩ := key
    rw [← q2]
    exact q1
  · rintro n v ⟨h1, h2, h3⟩
    rw [FX3_widestLeast_4, if_pos (by omega)]
    refine Wp_some ?_
    have e : v = v_wid B := by
      unfold v_wid
      have a1 : mxw (fun k => lsI B k) (nP B) ≤ v := by
        rcases m3 with q | ⟨k, q1, q2⟩
        · omega
        · have := h1 k q1 (ls_r hB k).1
          have := (ls_r hB k).2
          try simp only at q2
          omega
      have a2 : v ≤ mxw (fun k => lsI B k) (nP B) := by
        rcases h3 with q | ⟨k, q1, q2⟩
        · omega
        · have := m1 k q1
          have := (ls_r hB k).2
          try simp only at *
          omega
      omega
    rw [e]
  · rintro n i v hi ⟨h1, h2, h3⟩
    left
    have t := hF.2.2.1.2 i hi
    have hs := (scm_n (kp := lsN B) (co := pco B) (N := nP B) (m := i) hco).1
    have hI : (0 : Int) ≤ (i : Int) ∧ (i : Int) < 61 := by omega
    rw [FX3_widestLeast_4]
    unfold FX3_widestLeast_22
    rw [if_neg (by omega), nx i (by omega), if_pos hI, Int.toNat_natCast, t]
    by_cases h4 : scm (lsN B) (pco B) (nP B) i = -1
    · rw [if_pos h4]
      refine ⟨v, rfl, fun k hk hlt => ?_, h2, h3⟩
      by_cases hq : lsN B k = i
      · exact absurd h4 (hs.mpr ⟨k, hk, hq⟩)
      · exact h1 k hk (by omega)
    · rw [if_neg h4]
      obtain ⟨k, hk, hq⟩ := hs.mp h4
      exact ⟨_, rfl, fun l hl hlt => by omega, by omega, Or.inr ⟨k, hk, by omega⟩⟩
theorem pq_widest {B : Mm} (hB : WF B) : QP B FX10_widest (S_widest B) := by
  rintro f ⟨hC, h0⟩ hP
  unfold FX10_widest FX10_widest_0 S_widest
  rw [stands_e, b2_some, hC.1.1]
  by_cases h : 0 < B 0 8
  · rw [if_pos h, if_pos h, if_neg (by decide)]
    refine Wp_bind (weighed_W hB hC h0 hP) (fun g ⟨k, pf⟩ => ?_)
    rw [widestLeast_e hB pf, b2_some]
    exact Wp_some ⟨rfl, k, fun _ => pf⟩
  · rw [if_neg h, if_neg h, if_pos rfl]
    exact Wp_some ⟨rfl, Kp_r _ _, hP⟩

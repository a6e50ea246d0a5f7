/-! leasts, firsts, how many: over all rows of choices -/
def mn (p : Nat → Bool) (c : Nat → Int) : Nat → Int
  | 0 => -1
  | n + 1 => if p n = true ∧ (mn p c n = -1 ∨ c n < mn p c n) then c n else mn p c n
def fm (p : Nat → Bool) (c : Nat → Int) : Nat → Int
  | 0 => -1
  | n + 1 => if p n = true ∧ (mn p c n = -1 ∨ c n < mn p c n) then (n : Int) else fm p c n
def wy (p : Nat → Bool) (c : Nat → Int) : Nat → Int
  | 0 => 0
  | n + 1 => if p n = true ∧ (mn p c n = -1 ∨ c n < mn p c n) then 1 else if p n = true ∧ c n = mn p c n then wy p c n + 1 else wy p c n
def cnt (p : Nat → Bool) (n : Nat) : Int := sm (fun k => if p k = true then 1 else 0) n
def IsM (p : Nat → Bool) (c : Nat → Int) (n : Nat) (v : Int) : Prop := (v = -1 ∧ ∀ k, k < n → p k = false) ∨ (∃ k, k < n ∧ p k = true ∧ c k = v ∧ 0 ≤ v ∧ ∀ j, j < n → p j = true → v ≤ c j)
def IsF (p : Nat → Bool) (c : Nat → Int) (n : Nat) (v : Int) : Prop := (v = -1 ∧ ∀ k, k < n → p k = false) ∨ (∃ k : Nat, k < n ∧ v = (k : Int) ∧ p k = true ∧ (∀ j, j < n → p j = true → c k ≤ c j) ∧ ∀ j, j < k → p j = true → c k < c j)
theorem mn_is {p : Nat → Bool} {c : Nat → Int} : ∀ n, (∀ k, k < n → p k = true → 0 ≤ c k) → IsM p c n (mn p c n)
  | 0, _ => Or.inl ⟨rfl, fun k h => by omega⟩
  | n + 1, hc => by
    have ih := mn_is (p := p) (c := c) n (fun k hk => hc k (by omega))
    have e : mn p c (n + 1) = if p n = true ∧ (mn p c n = -1 ∨ c n < mn p c n) then c n else mn p c n := rfl
    rw [e]
    by_cases h : p n = true ∧ (mn p c n = -1 ∨ c n < mn p c n)
    · rw [if_pos h]
      refine Or.inr ⟨n, by omega, h.1, rfl, hc n (by omega) h.1, fun j hj hp => ?_⟩
      by_cases hjn : j = n
      · subst hjn; exact Int.le_refl _
      · rcases ih with ⟨_, q⟩ | ⟨k, _, _, q3, q4, q5⟩
        · have := q j (by omega); rw [this] at hp; cases hp
        · have := q5 j (by omega) hp
          rcases h.2 with h2 | h2 <;> omega
    · rw [if_neg h]
      rcases ih with ⟨q1, q⟩ | ⟨k, q1, q2, q3, q4, q5⟩
      · refine Or.inl ⟨q1, fun k hk => ?_⟩
        by_cases hkn : k = n
        · subst hkn
          cases hp : p k
          · rfl
          · exact absurd ⟨hp, Or.inl q1⟩ h
        · exact q k (by omega)
      · refine Or.inr ⟨k, by omega, q2, q3, q4, fun j hj hp => ?_⟩
        by_cases hjn : j = n
        · subst hjn
          by_cases h2 : mn p c j ≤ c j
          · exact h2
          · exact absurd ⟨hp, Or.inr (by omega)⟩ h
        · exact q5 j (by omega) hp
theorem IsM_u {p : Nat → Bool} {c : Nat → Int} {n : Nat} {v v' : Int} (h : IsM p c n v) (h' : IsM p c n v') : v = v' := by
  rcases h with ⟨q1, q⟩ | ⟨k, q1, q2, q3, q4, q5⟩ <;> rcases h' with ⟨r1, r⟩ | ⟨l, r1, r2, r3, r4, r5⟩
  · omega
  · have := q l r1; rw [this] at r2; cases r2
  · have := r k q1; rw [this] at q2; cases q2
  · have := q5 l r1 r2
    have := r5 k q1 q2
    omega
theorem mn_r {p : Nat → Bool} {c : Nat → Int} {n : Nat} {M : Int} (hc : ∀ k, k < n → p k = true → 0 ≤ c k ∧ c k ≤ M) (hM : 0 ≤ M) : -1 ≤ mn p c n ∧ mn p c n ≤ M := by
  rcases mn_is (p := p) (c := c) n (fun k h1 h2 => (hc k h1 h2).1) with ⟨q1, q⟩ | ⟨k, q1, q2, q3, q4, q5⟩
  · omega
  · have := hc k q1 q2; omega
theorem fm_is {p : Nat → Bool} {c : Nat → Int} : ∀ n, (∀ k, k < n → p k = true → 0 ≤ c k) → IsF p c n (fm p c n) ∧ (fm p c n = -1 ↔ mn p c n = -1) ∧ (fm p c n ≠ -1 → c (fm p c n).toNat = mn p c n)
  | 0, _ => ⟨Or.inl ⟨rfl, fun k h => by omega⟩, ⟨fun _ => rfl, fun _ => rfl⟩, fun h => absurd rfl h⟩
  | n + 1, hc => by
    obtain ⟨ih, i2, i3⟩ := fm_is (p := p) (c := c) n (fun k hk => hc k (by omega))
    have im := mn_is (p := p) (c := c) n (fun k hk => hc k (by omega))
    have e : fm p c (n + 1) = if p n = true ∧ (mn p c n = -1 ∨ c n < mn p c n) then (n : Int) else fm p c n := rfl
    have e2 : mn p c (n + 1) = if p n = true ∧ (mn p c n = -1 ∨ c n < mn p c n) then c n else mn p c n := rfl
    rw [e, e2]
    by_cases h : p n = true ∧ (mn p c n = -1 ∨ c n < mn p c n)
    · rw [if_pos h, if_pos h]
      have h0 := hc n (by omega) h.1
      have hlt : ∀ j, j < n → p j = true → c n < c j := fun j hj hp => by
        rcases im with ⟨_, q⟩ | ⟨k, _, _, q3, q4, q5⟩
        · have := q j (by omega); rw [this] at hp; cases hp
        · have := q5 j (by omega) hp
          rcases h.2 with h2 | h2 <;> omega
      refine ⟨Or.inr ⟨n, by omega, rfl, h.1, fun j hj hp => ?_, hlt⟩, by omega, fun _ => by rw [Int.toNat_natCast]⟩
      by_cases hjn : j = n
      · subst hjn; exact Int.le_refl _
      · have := hlt j (by omega) hp
        omega
    · rw [if_neg h, if_neg h]
      refine ⟨?_, i2, i3⟩
      rcases ih with ⟨q1, q⟩ | ⟨k, q1, q2, q3, q4, q5⟩
      · refine Or.inl ⟨q1, fun k hk => ?_⟩
        by_cases hkn : k = n
        · subst hkn
          cases hp : p k
          · rfl
          · exact absurd ⟨hp, Or.inl (i2.mp q1)⟩ h
        · exact q k (by omega)
      · refine Or.inr ⟨k, by omega, q2, q3, fun j hj hp => ?_, q5⟩
        by_cases hjn : j = n
        · subst hjn
          have h3 := i3 (by omega)
          rw [q2, Int.toNat_natCast] at h3
          by_cases h2 : mn p c j ≤ c j
          · omega
          · exact absurd ⟨hp, Or.inr (by omega)⟩ h
        · exact q4 j (by omega) hp
theorem IsF_u {p : Nat → Bool} {c : Nat → Int} {n : Nat} {v v' : Int} (h : IsF p c n v) (h' : IsF p c n v') : v = v' := by
  rcases h with ⟨q1, q⟩ | ⟨k, q1, q2, q3, q4, q5⟩ <;> rcases h' with ⟨r1, r⟩ | ⟨l, r1, r2, r3, r4, r5⟩
  · omega
  · have := q l r1; rw [this] at r3; cases r3
  · have := r k q1; rw [this] at q3; cases q3
  · have a1 := q4 l r1 r3
    have a2 := r4 k q1 q3
    rcases Nat.lt_trichotomy k l with h | h | h
    · have := r5 k h q3; omega
    · omega
    · have := q5 l h r3; omega
theorem cnt_r {p : Nat → Bool} (n : Nat) : 0 ≤ cnt p n ∧ cnt p n ≤ n := by
  have := sm_r (g := fun k => if p k = true then (1 : Int) else 0) (M := 1) n (fun i _ => by split <;> omega)
  unfold cnt
  omega
theorem cnt_s {p : Nat → Bool} (n : Nat) : cnt p (n + 1) = cnt p n + (if p n = true then 1 else 0) := rfl
theorem cnt_0 {p : Nat → Bool} : ∀ n, (∀ k, k < n → p k = false) → cnt p n = 0
  | 0, _ => rfl
  | n + 1, h => by rw [cnt_s, cnt_0 n (fun k hk => h k (by omega)), h n (by omega)]; rfl
theorem cnt_p {p : Nat → Bool} : ∀ n, 0 < cnt p n ↔ ∃ k, k < n ∧ p k = true
  | 0 => ⟨fun h => by unfold cnt sm at h; omega, fun ⟨k, h, _⟩ => by omega⟩
  | n + 1 => by
    have ih := cnt_p (p := p) n
    have hr := cnt_r (p := p) n
    rw [cnt_s]
    constructor
    · intro h
      by_cases hp : p n = true
      · exact ⟨n, by omega, hp⟩
      · rw [if_neg hp] at h
        obtain ⟨k, h1, h2⟩ := ih.mp (by omega)
        exact ⟨k, by omega, h2⟩
    · rintro ⟨k, h1, h2⟩
      by_cases hk : k = n
      · subst hk; rw [if_pos h2]; omega
      · have := ih.mpr ⟨k, by omega, h2⟩
        split <;> omega
theorem cnt_c {p q : Nat → Bool} (n : Nat) (h : ∀ k, k < n → p k = q k) : cnt p n = cnt q n := sm_congr n (fun i hi => by rw [h i hi])
theorem wy_is {p : Nat → Bool} {c : Nat → Int} : ∀ n, (∀ k, k < n → p k = true → 0 ≤ c k) → wy p c n = cnt (fun k => p k && decide (c k = mn p c n)) n
  | 0, _ => rfl
  | n + 1, hc => by
    have ih := wy_is (p := p) (c := c) n (fun k hk => hc k (by omega))
    have im := mn_is (p := p) (c := c) n (fun k hk => hc k (by omega))
    have e : wy p c (n + 1) = if p n = true ∧ (mn p c n = -1 ∨ c n < mn p c n) then 1 else if p n = true ∧ c n = mn p c n then wy p c n + 1 else wy p c n := rfl
    have e2 : mn p c (n + 1) = if p n = true ∧ (mn p c n = -1 ∨ c n < mn p c n) then c n else mn p c n := rfl
    rw [e, e2, cnt_s]
    by_cases h : p n = true ∧ (mn p c n = -1 ∨ c n < mn p c n)
    · rw [if_pos h, if_pos h, cnt_0 n (fun k hk => ?_), if_pos (by simp [h.1])]
      · rfl
      · cases hp : p k
        · rfl
        · rw [Bool.true_and]
          apply decide_eq_false
          rcases im with ⟨_, q⟩ | ⟨l, _, _, q3, q4, q5⟩
          · have := q k hk; rw [this] at hp; cases hp
          · have := q5 k hk hp
            rcases h.2 with h2 | h2 <;> omega
    · rw [if_neg h, if_neg h, ih]
      by_cases h2 : p n = true ∧ c n = mn p c n
      · rw [if_pos h2, if_pos (by simp [h2.1, h2.2])]
      · rw [if_neg h2, if_neg (by simpa using h2), Int.add_zero]
theorem sm_add {g h : Nat → Int} : ∀ n, sm (fun i => g i + h i) n = sm g n + sm h n
  | 0 => rfl
  | n + 1 => by unfold sm; rw [sm_add n]; omega
theorem sm_one {x : Nat} {v : Int} : ∀ n, sm (fun m => if m = x then v else 0) n = if x < n then v else 0
  | 0 => rfl
  | n + 1 => by
    unfold sm
    rw [sm_one n]
    by_cases h1 : x < n
    · rw [if_pos h1, if_neg (by omega), if_pos (by omega), Int.add_zero]
    · rw [if_neg h1]
      by_cases h2 : n = x
      · rw [if_pos h2, if_pos (by omega), Int.zero_add]
      · rw [if_neg h2, if_neg (by omega), Int.add_zero]
/-- how many, told apart by sets -/
theorem cnt_ex {kp : Nat → Nat} {q r : Nat → Bool} {M : Nat} : ∀ N, (∀ k, k < N → kp k < M) → sm (fun m => if q m = true then cnt (fun k => decide (kp k = m) && r k) N else 0) M = cnt (fun k => q (kp k) && r k) N
  | 0, _ => by
    show _ = (0 : Int)
    have : ∀ M, sm (fun m => if q m = true then cnt (fun k => decide (kp k = m) && r k) 0 else 0) M = 0 := by
      intro M
      induction M with
      | zero => rfl
      | succ M ih => unfold sm; rw [ih]; split <;> rfl
    exact this M
  | N + 1, h => by
    have ih := cnt_ex (kp := kp) (q := q) (r := r) (M := M) N (fun k hk => h k (by omega))
    rw [cnt_s, ← ih]
    have e : ∀ m, (if q m = true then cnt (fun k => decide (kp k = m) && r k) (N + 1) else 0) = (if q m = true then cnt (fun k => decide (kp k = m) && r k) N else 0) + (if m = kp N then (if (q (kp N) && r N) = true then 1 else 0) else 0) := by
      intro m
      by_cases hq : q m = true
      · rw [if_pos hq, if_pos hq, cnt_s]
        by_cases hm : m = kp N
        · subst hm
          simp [hq]
        · have : ¬ kp N = m := fun e => hm e.symm
          simp [hm, this]
      · rw [if_neg hq, if_neg hq]
        by_cases hm : m = kp N
        · subst hm
          simp [hq]
        · simp [hm]
    rw [sm_congr M (fun i _ => e i), sm_add, sm_one, if_pos (h N (by omega))]
/-! leasts over sets, and over all -/
def scm (kp : Nat → Nat) (co : Nat → Int) (N m : Nat) : Int := mn (fun k => decide (kp k = m)) co N
theorem scm_n {kp : Nat → Nat} {co : Nat → Int} {N m : Nat} (hc : ∀ k, k < N → 0 ≤ co k) : (scm kp co N m ≠ -1 ↔ ∃ k, k < N ∧ kp k = m) ∧ (scm kp co N m ≠ -1 → 0 ≤ scm kp co N m) := by
  unfold scm
  rcases mn_is (p := fun k => decide (kp k = m)) (c := co) N (fun k h _ => hc k h) with ⟨q1, q⟩ | ⟨k, q1, q2, q3, q4, q5⟩
  · refine ⟨⟨fun h => absurd q1 h, fun ⟨k, h1, h2⟩ => ?_⟩, fun h => absurd q1 h⟩
    have := q k h1
    simp [h2] at this
  · exact ⟨⟨fun _ => ⟨k, q1, of_decide_eq_true q2⟩, fun _ => by omega⟩, fun _ => q4⟩
theorem mn_comp {kp : Nat → Nat} {co A : Nat → Int} {N M : Nat} {q : Nat → Bool} (hk : ∀ k, k < N → kp k < M) (hc : ∀ k, k < N → 0 ≤ co k) (hA : ∀ m, m < M → 0 ≤ A m) :
    mn (fun m => q m && decide (scm kp co N m ≠ -1)) (fun m => A m + scm kp co N m) M = mn (fun k => q (kp k)) (fun k => A (kp k) + co k) N := by
  refine IsM_u (p := fun k => q (kp k)) (c := fun k => A (kp k) + co k) (n := N) ?_ (mn_is N (fun k h _ => by have := hA (kp k) (hk k h); have := hc k h; (try simp only); omega))
  rcases mn_is (p := fun m => q m && decide (scm kp co N m ≠ -1)) (c := fun m => A m + scm kp co N m) M (fun m h h2 => by
    simp only [Bool.and_eq_true, decide_eq_true_eq] at h2
    have := (scm_n (m := m) hc).2 h2.2
    have := hA m h
    (try simp only)
    omega) with ⟨q1, qq⟩ | ⟨m, q1, q2, q3, q4, q5⟩
  · refine Or.inl ⟨q1, fun k h => ?_⟩
    cases hq : q (kp k)
    · exact hq
    · have h1 := qq (kp k) (hk k h)
      have h2 := (scm_n (kp := kp) (co := co) (N := N) (m := kp k) hc).1.mpr ⟨k, h, rfl⟩
      simp [hq, h2] at h1
  · simp only [Bool.and_eq_true, decide_eq_true_eq] at q2 q3 q5
    obtain ⟨b1, b2'⟩ := q2
    rcases mn_is (p := fun k => decide (kp k = m)) (c := co) N (fun k h _ => hc k h) with ⟨r1, r⟩ | ⟨k, r1, r2, r3, r4, r5⟩
    · exact absurd r1 b2'
    · have hkm : kp k = m := of_decide_eq_true r2
      refine Or.inr ⟨k, r1, by simp only; rw [hkm]; exact b1, ?_, q4, fun j hj hqj => ?_⟩
      · simp only
        rw [hkm, r3]
        exact q3
      · simp only at hqj ⊢
        have h2 := (scm_n (kp := kp) (co := co) (N := N) (m := kp j) hc).1.mpr ⟨j, hj, rfl⟩
        have h3 := q5 (kp j) (hk j hj) ⟨hqj, h2⟩
        rcases mn_is (p := fun k => decide (kp k = kp j)) (c := co) N (fun k h _ => hc k h) with ⟨t1, t⟩ | ⟨l, t1, t2, t3, t4, t5⟩
        · exact absurd t1 h2
        · have := t5 j hj (decide_eq_true rfl)
          have e : scm kp co N (kp j) = mn (fun k => decide (kp k = kp j)) co N := rfl
          omega
def sfm (kp : Nat → Nat) (co : Nat → Int) (N m : Nat) : Int := fm (fun k => decide (kp k = m)) co N
theorem fm_comp {kp : Nat → Nat} {co A : Nat → Int} {N M : Nat} {q : Nat → Bool} {v : Int} (hk : ∀ k, k < N → kp k < M) (hc : ∀ k, k < N → 0 ≤ co k) (hA : ∀ m, m < M → 0 ≤ A m) (hv : v = mn (fun k => q (kp k)) (fun k => A (kp k) + co k) N) :
    mn (fun m => q m && decide (scm kp co N m ≠ -1 ∧ A m + scm kp co N m = v)) (fun m => sfm kp co N m) M = fm (fun k => q (kp k)) (fun k => A (kp k) + co k) N := by
  have hP : ∀ k, k < N → (fun k => q (kp k)) k = true → 0 ≤ (fun k => A (kp k) + co k) k := fun k h _ => by have := hA (kp k) (hk k h); have := hc k h; (try simp only); omega
  have hM := mn_is (p := fun k => q (kp k)) (c := fun k => A (kp k) + co k) N hP
  rw [← hv] at hM
  have sI : ∀ m, scm kp co N m ≠ -1 → ∃ k : Nat, k < N ∧ kp k = m ∧ sfm kp co N m = (k : Int) ∧ co k = scm kp co N m ∧ (∀ j, j < N → kp j = m → co k ≤ co j) ∧ ∀ j, j < k → kp j = m → co k < co j := by
    intro m hm
    obtain ⟨i1, i2, i3⟩ := fm_is (p := fun k => decide (kp k = m)) (c := co) N (fun k h _ => hc k h)
    rcases i1 with ⟨t1, t⟩ | ⟨k, t1, t2, t3, t4, t5⟩
    · exact absurd (i2.mp t1) hm
    · have h3 := i3 (by omega)
      rw [t2, Int.toNat_natCast] at h3
      exact ⟨k, t1, of_decide_eq_true t3, t2, h3, fun j hj h => t4 j hj (decide_eq_true h), fun j hj h => t5 j hj (decide_eq_true h)⟩
  refine IsF_u (p := fun k => q (kp k)) (c := fun k => A (kp k) + co k) (n := N) ?_ (fm_is N hP).1
  rcases mn_is (p := fun m => q m && decide (scm kp co N m ≠ -1 ∧ A m + scm kp co N m = v)) (c := fun m => sfm kp co N m) M (fun m h h2 => by
    simp only [Bool.and_eq_true, decide_eq_true_eq] at h2
    obtain ⟨k, _, _, h3, _⟩ := sI m h2.2.1
    (try simp only)
    omega) with ⟨q1, qq⟩ | ⟨m, q1, q2, q3, q4, q5⟩
  · refine Or.inl ⟨q1, fun k h => ?_⟩
    cases hq : q (kp k)
    · exact hq
    · exfalso
      rcases hM with ⟨t1, t⟩ | ⟨l, t1, t2, t3, t4, t5⟩
      · have := t k h
        simp [hq] at this
      · simp only at t2 t3 t5
        have h1 := qq (kp l) (hk l t1)
        have h2 := (scm_n (kp := kp) (co := co) (N := N) (m := kp l) hc).1.mpr ⟨l, t1, rfl⟩
        obtain ⟨k', a1, a2, a3, a4, a5, a6⟩ := sI (kp l) h2
        have b1 := a5 l t1 rfl
        have b3 : q (kp k') = true := by rw [a2]; exact t2
        have b2' := t5 k' a1 b3
        rw [a2] at b2'
        have : A (kp l) + scm kp co N (kp l) = v := by omega
        simp [t2, h2, this] at h1
  · simp only [Bool.and_eq_true, decide_eq_true_eq] at q2 q3 q5
    obtain ⟨b1, b2', b3⟩ := q2
    obtain ⟨k, a1, a2, a3, a4, a5, a6⟩ := sI m b2'
    rcases hM with ⟨t1, t⟩ | ⟨l, t1, t2, t3, t4, t5⟩
    · have := t k a1
      simp only at this
      rw [a2, b1] at this
      cases this
    · simp only at t2 t3 t5
      refine Or.inr ⟨k, a1, by omega, by simp only; rw [a2]; exact b1, fun j hj hqj => ?_, fun j hj hqj => ?_⟩
      · simp only at hqj ⊢
        rw [a2]
        have := t5 j hj hqj
        omega
      · simp only at hqj ⊢
        rw [a2]
        have c1 := t5 j (by omega) hqj
        have h2 := (scm_n (kp := kp) (co := co) (N := N) (m := kp j) hc).1.mpr ⟨j, by omega, rfl⟩
        obtain ⟨k', d1, d2, d3, d4, d5, d6⟩ := sI (kp j) h2
        by_cases hlt : A m + co k < A (kp j) + co j
        · exact hlt
        · exfalso
          have c2 := d5 j (by omega) rfl
          have c3 := t5 k' d1 (by rw [d2]; exact hqj)
          rw [d2] at c3
          have c4 := q5 (kp j) (hk j (by omega)) ⟨hqj, h2, by omega⟩
          have : k' ≤ j := by
            rcases Nat.lt_or_ge j k' with h | h
            · have := d6 j h rfl; omega
            · exact h
          omega
theorem wy_comp {kp : Nat → Nat} {co A : Nat → Int} {N M : Nat} {q : Nat → Bool} {v : Int} (hk : ∀ k, k < N → kp k < M) (hc : ∀ k, k < N → 0 ≤ co k) (hA : ∀ m, m < M → 0 ≤ A m) (hv : v = mn (fun k => q (kp k)) (fun k => A (kp k) + co k) N) :
    sm (fun m => if (q m && decide (scm kp co N m ≠ -1 ∧ A m + scm kp co N m = v)) = true then wy (fun k => decide (kp k = m)) co N else 0) M = wy (fun k => q (kp k)) (fun k => A (kp k) + co k) N := by
  have hP : ∀ k, k < N → (fun k => q (kp k)) k = true → 0 ≤ (fun k => A (kp k) + co k) k := fun k h _ => by have := hA (kp k) (hk k h); have := hc k h; (try simp only); omega
  rw [wy_is N hP, ← hv]
  have hM := mn_is (p := fun k => q (kp k)) (c := fun k => A (kp k) + co k) N hP
  rw [← hv] at hM
  have h1 := cnt_ex (kp := kp) (q := q) (r := fun k => decide (A (kp k) + co k = v)) (M := M) N hk
  rw [← h1]
  refine sm_congr M (fun m hm => ?_)
  by_cases hq : q m = true
  · rw [if_pos hq, hq, Bool.true_and]
    by_cases hs : scm kp co N m ≠ -1 ∧ A m + scm kp co N m = v
    · rw [if_pos (decide_eq_true hs), wy_is N (fun k h _ => hc k h)]
      refine cnt_c N (fun k hk' => ?_)
      by_cases hkm : kp k = m
      · have e : scm kp co N m = mn (fun k => decide (kp k = m)) co N := rfl
        simp only [hkm, decide_true, Bool.true_and]
        apply decide_eq_decide.mpr
        omega
      · simp [hkm]
    · rw [if_neg (by rw [decide_eq_true_eq]; exact hs)]
      symm
      refine cnt_0 N (fun k hk' => ?_)
      by_cases hkm : kp k = m
      · rw [decide_eq_true hkm, Bool.true_and]
        apply decide_eq_false
        intro hv2
        apply hs
        have h2 := (scm_n (kp := kp) (co := co) (N := N) (m := m) hc).1.mpr ⟨k, hk', hkm⟩
        refine ⟨h2, ?_⟩
        rcases mn_is (p := fun k => decide (kp k = m)) (c := co) N (fun k h _ => hc k h) with ⟨t1, t⟩ | ⟨l, t1, t2, t3, t4, t5⟩
        · exact absurd t1 h2
        · have c1 := t5 k hk' (decide_eq_true hkm)
          have e : scm kp co N m = mn (fun k => decide (kp k = m)) co N := rfl
          have hl : kp l = m := of_decide_eq_true t2
          rcases hM with ⟨u1, u⟩ | ⟨o, u1, u2, u3, u4, u5⟩
          · have := u k hk'
            simp only at this
            rw [hkm, hq] at this
            cases this
          · have := u5 l t1 (by simp only; rw [hl]; exact hq)
            simp only at this
            rw [hl] at this
            rw [hkm] at hv2
            omega
      · rw [decide_eq_false hkm, Bool.false_and]
  · have hq' : q m = false := by cases h : q m; rfl; exact absurd h hq
    rw [if_neg hq, hq', Bool.false_and, if_neg (by decide)]
/-! digits -/
def dg (b e k : Nat) : Nat := k / b ^ e % b
theorem dg_lt {b e k : Nat} (hb : 0 < b) : dg b e k < b := Nat.mod_lt _ hb
def lowM (b e k : Nat) : Prop := k % b ^ e + 1 = b ^ e
theorem low_0 (b k : Nat) : lowM b 0 k := by unfold lowM; rw [Nat.pow_zero, Nat.mod_one]
theorem mod_ps (b e k : Nat) : k % b ^ (e + 1) = k % b ^ e + b ^ e * (k / b ^ e % b) := by rw [Nat.pow_succ, Nat.mod_mul]
theorem low_s {b e k : Nat} (h : lowM b e k) (hd : dg b e k + 1 = b) : lowM b (e + 1) k := by
  unfold lowM dg at *
  rw [mod_ps, Nat.pow_succ]
  have h2 := Nat.mul_add (b ^ e) (k / b ^ e % b) 1
  rw [hd, Nat.mul_one] at h2
  omega
theorem low_n {b e k : Nat} (hb : 0 < b) (h : lowM b e k) : k + 1 = b ^ e * (k / b ^ e + 1) := by
  unfold lowM at h
  have := Nat.div_add_mod k (b ^ e)
  rw [Nat.mul_add, Nat.mul_one]
  omega
theorem sdiv {a b : Nat} (h : a % b + 1 < b) : (a + 1) / b = a / b ∧ (a + 1) % b = a % b + 1 := by
  have h1 := Nat.div_add_mod a b
  have hb : 0 < b := by omega
  have e : a + 1 = (a % b + 1) + b * (a / b) := by omega
  rw [e, Nat.add_mul_div_left _ _ hb, Nat.add_mul_mod_self_left, Nat.div_eq_of_lt h, Nat.mod_eq_of_lt h, Nat.zero_add]
  exact ⟨rfl, rfl⟩
theorem dg_up {b e k : Nat} (hb : 0 < b) (h : lowM b e k) (hd : dg b e k + 1 < b) : dg b e (k + 1) = dg b e k + 1 ∧ (∀ e', e < e' → dg b e' (k + 1) = dg b e' k) ∧ ∀ e', e' < e → dg b e' (k + 1) = 0 := by
  have hp : 0 < b ^ e := Nat.pow_pos hb
  have hn := low_n hb h
  have hq : (k + 1) / b ^ e = k / b ^ e + 1 := by rw [hn, Nat.mul_div_cancel_left _ hp]
  unfold dg at *
  have hs := sdiv hd
  refine ⟨by rw [hq]; exact hs.2, fun e' he => ?_, fun e' he => ?_⟩
  · obtain ⟨j, rfl⟩ : ∃ j, e' = e + 1 + j := ⟨e' - e - 1, by omega⟩
    have hx : ∀ x, x / b ^ (e + 1 + j) = x / b ^ e / b / b ^ j := fun x => by rw [Nat.pow_add, Nat.pow_succ, Nat.div_div_eq_div_mul, Nat.div_div_eq_div_mul, Nat.mul_assoc]
    rw [hx, hx, hq, hs.1]
  · obtain ⟨j, rfl⟩ : ∃ j, e = e' + 1 + j := ⟨e - e' - 1, by omega⟩
    have hp' : 0 < b ^ e' := Nat.pow_pos hb
    rw [hn, show b ^ (e' + 1 + j) = b ^ e' * (b * b ^ j) by rw [Nat.pow_add, Nat.pow_succ, Nat.mul_assoc], Nat.mul_assoc, Nat.mul_div_cancel_left _ hp', Nat.mul_assoc, Nat.mul_mod_right]
theorem low_all {b e k : Nat} (h : lowM b e k) (hk : k < b ^ e) : k + 1 = b ^ e := by
  unfold lowM at h
  rw [Nat.mod_eq_of_lt hk] at h
  exact h
/-- each row of digits is told by a number -/
theorem dg_all {b : Nat} (hb : 0 < b) (g : Nat → Nat) (hg : ∀ e, g e < b) : ∀ D, ∃ k, k < b ^ D ∧ ∀ e, e < D → dg b e k = g e
  | 0 => ⟨0, by rw [Nat.pow_zero]; decide, fun e h => by omega⟩
  | D + 1 => by
    obtain ⟨k, h1, h2⟩ := dg_all hb g hg D
    have hp : 0 < b ^ D := Nat.pow_pos hb
    have hgD := hg D
    refine ⟨k + b ^ D * g D, ?_, fun e he => ?_⟩
    · rw [Nat.pow_succ]
      have : b ^ D * g D + b ^ D ≤ b ^ D * b := by
        have := Nat.mul_le_mul_left (b ^ D) (show g D + 1 ≤ b from hgD)
        rw [Nat.mul_add, Nat.mul_one] at this
        exact this
      omega
    · by_cases hD : e = D
      · subst hD
        unfold dg
        rw [Nat.add_mul_div_left _ _ hp, Nat.div_eq_of_lt h1, Nat.zero_add, Nat.mod_eq_of_lt hgD]
      · rw [← h2 e (by omega)]
        obtain ⟨j, rfl⟩ : ∃ j, D = e + 1 + j := ⟨D - e - 1, by omega⟩
        have hp' : 0 < b ^ e := Nat.pow_pos hb
        unfold dg
        rw [show b ^ (e + 1 + j) * g (e + 1 + j) = b ^ e * (b * (b ^ j * g (e + 1 + j))) by rw [Nat.pow_add, Nat.pow_succ, Nat.mul_assoc, Nat.mul_assoc], Nat.add_mul_div_left _ _ hp', Nat.add_mul_mod_self_left]

/-! all LINES -/
def lnS (T : Nat → Int) (n : Nat) (σ : Int × Int × Nat) (D : Mm) : Int × Int × Nat :=
  if D 0 8 = 0 then b5S T n σ else if wI T n 100006 σ.2.2 = true then (if nK D < 4 then e4S T n σ else (3, (σ.2.2 : Int), σ.2.2)) else if wI T n 100011 σ.2.2 = true then (if nC D < 6 then c5S T n σ else (3, (σ.2.2 : Int), σ.2.2)) else (1, (σ.2.2 : Int), σ.2.2)
def lnD (T : Nat → Int) (n : Nat) (σ : Int × Int × Nat) (D : Mm) : Mm :=
  if D 0 8 = 0 then brD T n σ D else if wI T n 100006 σ.2.2 = true then deD T n σ D else caD T n σ D
def nxD (T : Nat → Int) (n : Nat) (σ : Int × Int × Nat) (D : Mm) : Mm := up (lnD T n σ D) 0 8 (D 0 8 + 1)
def rdS (T : Nat → Int) (n : Nat) : Nat → (Int × Int × Nat) × Mm → (Int × Int × Nat) × Mm
  | 0, s => s
  | m + 1, s => if s.1.1 = 0 ∧ tkd T n s.1.2.2 ≠ 0 then rdS T n m (sgS T n (lnS T n s.1 s.2), nxD T n s.1 s.2) else s
/-- a draft that is sound so far -/
def DI (n : Nat) (σ : Int × Int × Nat) (D : Mm) : Prop := σ.1 = 0 → (WF D ∧ D 0 7 = 0 ∧ (D 0 8 = 0 → nK D = 0 ∧ nC D = 0) ∧ D 0 8 ≤ (σ.2.2 : Int) ∧ σ.2.2 ≤ n ∧ σ.2.1 = -1)
theorem b5S_q {T : Nat → Int} {n : Nat} {σ : Int × Int × Nat} (hq : σ.1 = 0 → σ.2.2 ≤ n) : QL n σ (b5S T n σ) ∧ ((b5S T n σ).1 = 0 → (b5S T n σ).2.2 ≤ n) := by
  have h0 := skS_q (T := T) (a := 100001) hq
  have h1 := nam_q (T := T) (a := 100002) (lo := 1) (hi := 6) h0.2
  have h2 := nam_q (T := T) (a := 100003) (lo := 0) (hi := 60) h1.2
  have h3 := nam_q (T := T) (a := 100003) (lo := 0) (hi := 60) h2.2
  have h4 := nam_q (T := T) (a := 100004) (lo := 0) (hi := 9) h3.2
  have h5 := nam_q (T := T) (a := 100005) (lo := 0) (hi := 10) h4.2
  exact ⟨QL_t (QL_t (QL_t (QL_t (QL_t h0.1 h1.1) h2.1) h3.1) h4.1) h5.1, h5.2⟩
theorem e4S_q {T : Nat → Int} {n : Nat} {σ : Int × Int × Nat} (hq : σ.1 = 0 → σ.2.2 ≤ n) : QL n σ (e4S T n σ) ∧ ((e4S T n σ).1 = 0 → (e4S T n σ).2.2 ≤ n) := by
  have h0 := skS_q (T := T) (a := 100006) hq
  have h1 := nam_q (T := T) (a := 100007) (lo := 0) (hi := 1) h0.2
  have h2 := nam_q (T := T) (a := 100008) (lo := 0) (hi := 99) h1.2
  have h3 := gvS_q (T := T) h2.2
  have h4 := gvS_q (T := T) h3.2
  exact ⟨QL_t (QL_t (QL_t (QL_t h0.1 h1.1) h2.1) h3.1) h4.1, h4.2⟩
theorem c5S_q {T : Nat → Int} {n : Nat} {σ : Int × Int × Nat} (hq : σ.1 = 0 → σ.2.2 ≤ n) : QL n σ (c5S T n σ) ∧ ((c5S T n σ).1 = 0 → (c5S T n σ).2.2 ≤ n) := by
  have h0 := skS_q (T := T) (a := 100011) hq
  have h1 := nam_q (T := T) (a := 100012) (lo := 0) (hi := 1) h0.2
  have h2 := nam_q (T := T) (a := 100013) (lo := 1) (hi := 40) h1.2
  have h3 := nam_q (T := T) (a := 100014) (lo := 0) (hi := 9) h2.2
  have h4 := nam_q (T := T) (a := 100015) (lo := 0) (hi := 9) h3.2
  have h5 := nam_q (T := T) (a := 100016) (lo := 0) (hi := 999) h4.2
  exact ⟨QL_t (QL_t (QL_t (QL_t (QL_t h0.1 h1.1) h2.1) h3.1) h4.1) h5.1, h5.2⟩
theorem sgS_q {T : Nat → Int} {n : Nat} {σ : Int × Int × Nat} (hq : σ.1 = 0 → σ.2.2 ≤ n) (h : (sgS T n σ).1 = 0) : σ.1 = 0 ∧ σ.2.2 < (sgS T n σ).2.2 ∧ (sgS T n σ).2.2 ≤ n ∧ (sgS T n σ).2.1 = σ.2.1 := by
  have h0 := sgS_k h
  have hr := nxt_r (T := T) (hq h0)
  unfold sgS at h ⊢
  rw [if_pos h0] at h ⊢
  by_cases c : tkd T n σ.2.2 = 3
  · rw [if_pos c]
    have hlt : σ.2.2 < n := by
      by_cases z : σ.2.2 < n
      · exact z
      · unfold tkd at c; rw [if_neg z] at c; cases c
    exact ⟨h0, hr.2.2 hlt, hr.2.1, rfl⟩
  · rw [if_neg c] at h; cases h
theorem lnS_q {T : Nat → Int} {n : Nat} {σ : Int × Int × Nat} {D : Mm} (hq : σ.1 = 0 → σ.2.2 ≤ n) : QL n σ (lnS T n σ D) ∧ ((lnS T n σ D).1 = 0 → (lnS T n σ D).2.2 ≤ n) := by
  have bad : ∀ k : Int, k ≠ 0 → QL n σ (k, (σ.2.2 : Int), σ.2.2) ∧ (((k, (σ.2.2 : Int), σ.2.2) : Int × Int × Nat).1 = 0 → ((k, (σ.2.2 : Int), σ.2.2) : Int × Int × Nat).2.2 ≤ n) := fun k hk => ⟨fun h => absurd h hk, fun h => absurd h hk⟩
  unfold lnS
  by_cases h1 : D 0 8 = 0
  · rw [if_pos h1]; exact b5S_q hq
  · rw [if_neg h1]
    by_cases h2 : wI T n 100006 σ.2.2 = true
    · rw [if_pos h2]
      by_cases h3 : nK D < 4
      · rw [if_pos h3]; exact e4S_q hq
      · rw [if_neg h3]; exact bad 3 (by decide)
    · rw [if_neg h2]
      by_cases h3 : wI T n 100011 σ.2.2 = true
      · rw [if_pos h3]
        by_cases h4 : nC D < 6
        · rw [if_pos h4]; exact c5S_q hq
        · rw [if_neg h4]; exact bad 3 (by decide)
      · rw [if_neg h3]; exact bad 1 (by decide)
theorem WF_br {T : Nat → Int} {n : Nat} {σ : Int × Int × Nat} {D : Mm} (hW : WF D) (h7 : D 0 7 = 0) (hK : nK D = 0) (hC : nC D = 0) (h8 : D 0 8 = 0) (h : (b5S T n σ).1 = 0) : WF (up (brD T n σ D) 0 8 (D 0 8 + 1)) := by
  have o4 := nam_k h
  have o3 := nam_k o4
  have o2 := nam_k o3
  have o1 := nam_k o2
  have v1 := nam_v o1
  have v2 := nam_v o2
  have v3 := nam_v o3
  have v4 := nam_v o4
  have v5 := nam_v h
  have g0 : up (brD T n σ D) 0 8 (D 0 8 + 1) 0 0 = vlS T n 100002 (b0S T n σ) := by unfold brD; rw [up_n (by omega), up_n (by omega), up_n (by omega), up_n (by omega), up_n (by omega), up_s]
  have g1 : up (brD T n σ D) 0 8 (D 0 8 + 1) 0 1 = vlS T n 100003 (b1S T n σ) := by unfold brD; rw [up_n (by omega), up_n (by omega), up_n (by omega), up_n (by omega), up_s]
  have g2 : up (brD T n σ D) 0 8 (D 0 8 + 1) 0 2 = vlS T n 100003 (b2S T n σ) := by unfold brD; rw [up_n (by omega), up_n (by omega), up_n (by omega), up_s]
  have g3 : up (brD T n σ D) 0 8 (D 0 8 + 1) 0 3 = vlS T n 100004 (b3S T n σ) := by unfold brD; rw [up_n (by omega), up_n (by omega), up_s]
  have g4 : up (brD T n σ D) 0 8 (D 0 8 + 1) 0 4 = vlS T n 100005 (b4S T n σ) := by unfold brD; rw [up_n (by omega), up_s]
  have g8 : up (brD T n σ D) 0 8 (D 0 8 + 1) 0 8 = 1 := by rw [up_s, h8]; rfl
  have go : ∀ a j, ¬ (a = 0 ∧ (j ≤ 4 ∨ j = 8)) → up (brD T n σ D) 0 8 (D 0 8 + 1) a j = D a j := fun a j q => by unfold brD; rw [up_n (by omega), up_n (by omega), up_n (by omega), up_n (by omega), up_n (by omega), up_n (by omega)]
  have g5 := go 0 5 (by omega)
  have g6 := go 0 6 (by omega)
  have g7 := go 0 7 (by omega)
  have k5 := (WF_K hW).2
  have k6 := (WF_C hW).2
  have eK : nK (up (brD T n σ D) 0 8 (D 0 8 + 1)) = 0 := by unfold nK; rw [g5]; exact hK
  have eC : nC (up (brD T n σ D) 0 8 (D 0 8 + 1)) = 0 := by unfold nC; rw [g6]; exact hC
  have eA : nA (up (brD T n σ D) 0 8 (D 0 8 + 1)) = 0 := by unfold nA; rw [g7, h7]; rfl
  unfold WF
  rw [eK, eC, eA, g0, g1, g2, g3, g4, g5, g6, g7, g8, h7]
  refine ⟨by omega, by omega, by omega, by omega, by omega, by omega, by omega, by omega, by omega, ⟨fun _ => by omega, fun _ => by omega, fun _ => by omega, fun _ => by omega⟩, fun d hd => by omega, fun d hd => by omega, fun d hd => by omega⟩
theorem WF_de {T : Nat → Int} {n : Nat} {σ : Int × Int × Nat} {D : Mm} (hW : WF D) (h7 : D 0 7 = 0) (hK : nK D < 4) (h8 : 0 < D 0 8) (h9 : D 0 8 ≤ 800) (h : (e4S T n σ).1 = 0) : WF (up (deD T n σ D) 0 8 (D 0 8 + 1)) := by
  have o3 := gvS_k h
  have o2 := gvS_k o3
  have o1 := nam_k o2
  have v1 := nam_v o1
  have v2 := nam_v o2
  have v3 := gvS_v o3
  have v4 := gvS_v h
  have k5 := (WF_K hW).2
  have k6 := (WF_C hW).2
  have go : ∀ a j, a ≠ 10 + nK D → ¬ (a = 0 ∧ (j = 5 ∨ j = 8)) → up (deD T n σ D) 0 8 (D 0 8 + 1) a j = D a j := fun a j q1 q2 => by unfold deD; rw [up_n (by omega), up_n (by omega), up_n (by omega), up_n (by omega), up_n (by omega), up_n (by omega)]
  have g5 : up (deD T n σ D) 0 8 (D 0 8 + 1) 0 5 = (nK D : Int) + 1 := by unfold deD; rw [up_n (by omega), up_s]
  have g8 : up (deD T n σ D) 0 8 (D 0 8 + 1) 0 8 = D 0 8 + 1 := by rw [up_s]
  have r0 : up (deD T n σ D) 0 8 (D 0 8 + 1) (10 + nK D) 0 = vlS T n 100007 (e0S T n σ) := by unfold deD; rw [up_n (by omega), up_n (by omega), up_n (by omega), up_n (by omega), up_n (by omega), up_s]
  have r1 : up (deD T n σ D) 0 8 (D 0 8 + 1) (10 + nK D) 1 = vlS T n 100008 (e1S T n σ) := by unfold deD; rw [up_n (by omega), up_n (by omega), up_n (by omega), up_n (by omega), up_s]
  have r2 : up (deD T n σ D) 0 8 (D 0 8 + 1) (10 + nK D) 2 = gvV T n (e2S T n σ) := by unfold deD; rw [up_n (by omega), up_n (by omega), up_n (by omega), up_s]
  have r3 : up (deD T n σ D) 0 8 (D 0 8 + 1) (10 + nK D) 3 = gvV T n (e3S T n σ) := by unfold deD; rw [up_n (by omega), up_n (by omega), up_s]
  have eK : nK (up (deD T n σ D) 0 8 (D 0 8 + 1)) = nK D + 1 := by
    have : nK (up (deD T n σ D) 0 8 (D 0 8 + 1)) = (up (deD T n σ D) 0 8 (D 0 8 + 1) 0 5).toNat := rfl
    rw [this, g5]; omega
  have g6 := go 0 6 (by omega) (by omega)
  have eC : nC (up (deD T n σ D) 0 8 (D 0 8 + 1)) = nC D := by unfold nC; rw [g6]
  have g7 := go 0 7 (by omega) (by omega)
  have eA : nA (up (deD T n σ D) 0 8 (D 0 8 + 1)) = 0 := by unfold nA; rw [g7, h7]; rfl
  obtain ⟨w1, w2, w3, w4, w5, w6, w7, w8, w9, w10, w11, w12, w13⟩ := hW
  unfold WF
  rw [eK, eC, eA, go 0 0 (by omega) (by omega), go 0 1 (by omega) (by omega), go 0 2 (by omega) (by omega), go 0 3 (by omega) (by omega), go 0 4 (by omega) (by omega), g5, g6, g7, g8, h7]
  refine ⟨w1, w2, w3, w4, w5, by omega, w7, by omega, by omega, ⟨fun _ => w10.1 h8, fun _ => by omega, fun _ => by omega, fun _ => by omega⟩, fun d hd => ?_, fun c hc => ?_, fun d hd => by omega⟩
  · by_cases q : d = nK D
    · rw [q, r0, r1, r2, r3]
      exact ⟨by omega, v2, v3, v4⟩
    · rw [go (10 + d) 0 (by omega) (by omega), go (10 + d) 1 (by omega) (by omega), go (10 + d) 2 (by omega) (by omega), go (10 + d) 3 (by omega) (by omega)]
      exact w11 d (by omega)
  · rw [go (20 + c) 0 (by omega) (by omega), go (20 + c) 1 (by omega) (by omega), go (20 + c) 2 (by omega) (by omega), go (20 + c) 3 (by omega) (by omega), go (20 + c) 4 (by omega) (by omega)]
    exact w12 c hc
theorem WF_ca {T : Nat → Int} {n : Nat} {σ : Int × Int × Nat} {D : Mm} (hW : WF D) (h7 : D 0 7 = 0) (hC : nC D < 6) (h8 : 0 < D 0 8) (h9 : D 0 8 ≤ 800) (h : (c5S T n σ).1 = 0) : WF (up (caD T n σ D) 0 8 (D 0 8 + 1)) := by
  have o4 := nam_k h
  have o3 := nam_k o4
  have o2 := nam_k o3
  have o1 := nam_k o2
  have v1 := nam_v o1
  have v2 := nam_v o2
  have v3 := nam_v o3
  have v4 := nam_v o4
  have v5 := nam_v h
  have k4 := (WF_K hW).1
  have k5 := (WF_K hW).2
  have k6 := (WF_C hW).2
  have go : ∀ a j, a ≠ 20 + nC D → ¬ (a = 0 ∧ (j = 6 ∨ j = 8)) → up (caD T n σ D) 0 8 (D 0 8 + 1) a j = D a j := fun a j q1 q2 => by unfold caD; rw [up_n (by omega), up_n (by omega), up_n (by omega), up_n (by omega), up_n (by omega), up_n (by omega), up_n (by omega)]
  have g6 : up (caD T n σ D) 0 8 (D 0 8 + 1) 0 6 = (nC D : Int) + 1 := by unfold caD; rw [up_n (by omega), up_s]
  have g8 : up (caD T n σ D) 0 8 (D 0 8 + 1) 0 8 = D 0 8 + 1 := by rw [up_s]
  have r0 : up (caD T n σ D) 0 8 (D 0 8 + 1) (20 + nC D) 0 = vlS T n 100012 (c0S T n σ) := by unfold caD; rw [up_n (by omega), up_n (by omega), up_n (by omega), up_n (by omega), up_n (by omega), up_n (by omega), up_s]
  have r1 : up (caD T n σ D) 0 8 (D 0 8 + 1) (20 + nC D) 1 = vlS T n 100013 (c1S T n σ) := by unfold caD; rw [up_n (by omega), up_n (by omega), up_n (by omega), up_n (by omega), up_n (by omega), up_s]
  have r2 : up (caD T n σ D) 0 8 (D 0 8 + 1) (20 + nC D) 2 = vlS T n 100014 (c2S T n σ) := by unfold caD; rw [up_n (by omega), up_n (by omega), up_n (by omega), up_n (by omega), up_s]
  have r3 : up (caD T n σ D) 0 8 (D 0 8 + 1) (20 + nC D) 3 = vlS T n 100015 (c3S T n σ) := by unfold caD; rw [up_n (by omega), up_n (by omega), up_n (by omega), up_s]
  have r4 : up (caD T n σ D) 0 8 (D 0 8 + 1) (20 + nC D) 4 = vlS T n 100016 (c4S T n σ) := by unfold caD; rw [up_n (by omega), up_n (by omega), up_s]
  have eC : nC (up (caD T n σ D) 0 8 (D 0 8 + 1)) = nC D + 1 := by
    have : nC (up (caD T n σ D) 0 8 (D 0 8 + 1)) = (up (caD T n σ D) 0 8 (D 0 8 + 1) 0 6).toNat := rfl
    rw [this, g6]; omega
  have g5 := go 0 5 (by omega) (by omega)
  have eK : nK (up (caD T n σ D) 0 8 (D 0 8 + 1)) = nK D := by unfold nK; rw [g5]
  have g7 := go 0 7 (by omega) (by omega)
  have eA : nA (up (caD T n σ D) 0 8 (D 0 8 + 1)) = 0 := by unfold nA; rw [g7, h7]; rfl
  obtain ⟨w1, w2, w3, w4, w5, w6, w7, w8, w9, w10, w11, w12, w13⟩ := hW
  unfold WF
  rw [eK, eC, eA, go 0 0 (by omega) (by omega), go 0 1 (by omega) (by omega), go 0 2 (by omega) (by omega), go 0 3 (by omega) (by omega), go 0 4 (by omega) (by omega), g5, g6, g7, g8, h7]
  refine ⟨w1, w2, w3, w4, w5, w6, by omega, by omega, by omega, ⟨fun _ => w10.1 h8, fun _ => by omega, fun _ => by omega, fun _ => by omega⟩, fun d hd => ?_, fun c hc => ?_, fun d hd => by omega⟩
  · rw [go (10 + d) 0 (by omega) (by omega), go (10 + d) 1 (by omega) (by omega), go (10 + d) 2 (by omega) (by omega), go (10 + d) 3 (by omega) (by omega)]
    exact w11 d hd
  · by_cases q : c = nC D
    · rw [q, r0, r1, r2, r3, r4]
      exact ⟨by omega, v2, v3, v4, v5⟩
    · rw [go (20 + c) 0 (by omega) (by omega), go (20 + c) 1 (by omega) (by omega), go (20 + c) 2 (by omega) (by omega), go (20 + c) 3 (by omega) (by omega), go (20 + c) 4 (by omega) (by omega)]
      exact w12 c (by omega)
theorem DI_s {T : Nat → Int} {n : Nat} (hn : n ≤ 800) {σ : Int × Int × Nat} {D : Mm} (h0 : σ.1 = 0) (h : DI n σ D) : DI n (sgS T n (lnS T n σ D)) (nxD T n σ D) := by
  intro hok
  obtain ⟨i1, i2, i3, i4, i5, i6⟩ := h h0
  have hl := lnS_q (T := T) (D := D) (σ := σ) (fun _ => i5)
  obtain ⟨s1, s2, s3, s4⟩ := sgS_q hl.2 hok
  obtain ⟨l1, l2, l3⟩ := hl.1 s1
  have w9 := i1.2.2.2.2.2.2.2.2.1
  have e7 : nxD T n σ D 0 7 = 0 := by
    unfold nxD lnD
    rw [up_n (by omega)]
    split
    · unfold brD; rw [up_n (by omega), up_n (by omega), up_n (by omega), up_n (by omega), up_n (by omega)]; exact i2
    · split
      · unfold deD; rw [up_n (by omega), up_n (by omega), up_n (by omega), up_n (by omega), up_n (by omega)]; exact i2
      · unfold caD; rw [up_n (by omega), up_n (by omega), up_n (by omega), up_n (by omega), up_n (by omega), up_n (by omega)]; exact i2
  have e8 : nxD T n σ D 0 8 = D 0 8 + 1 := by unfold nxD; rw [up_s]
  refine ⟨?_, e7, fun z => by omega, by omega, s3, by rw [s4, l3]; exact i6⟩
  unfold nxD lnD
  unfold lnS at s1
  by_cases h1 : D 0 8 = 0
  · rw [if_pos h1] at s1 ⊢
    exact WF_br i1 i2 (i3 h1).1 (i3 h1).2 h1 s1
  · rw [if_neg h1] at s1 ⊢
    by_cases h2 : wI T n 100006 σ.2.2 = true
    · rw [if_pos h2] at s1 ⊢
      by_cases h3 : nK D < 4
      · rw [if_pos h3] at s1
        exact WF_de i1 i2 h3 (by omega) (by omega) s1
      · rw [if_neg h3] at s1; cases s1
    · rw [if_neg h2] at s1 ⊢
      by_cases h3 : wI T n 100011 σ.2.2 = true
      · rw [if_pos h3] at s1
        by_cases h4 : nC D < 6
        · rw [if_pos h4] at s1
          exact WF_ca i1 i2 h4 (by omega) (by omega) s1
        · rw [if_neg h4] at s1; cases s1
      · rw [if_neg h3] at s1; cases s1
theorem rdS_I {T : Nat → Int} {n : Nat} (hn : n ≤ 800) : ∀ (m : Nat) (σ : Int × Int × Nat) (D : Mm), DI n σ D → DI n (rdS T n m (σ, D)).1 (rdS T n m (σ, D)).2
  | 0, _, _, h => h
  | m + 1, σ, D, h => by
    show DI n (if σ.1 = 0 ∧ tkd T n σ.2.2 ≠ 0 then rdS T n m (sgS T n (lnS T n σ D), nxD T n σ D) else (σ, D)).1 (if σ.1 = 0 ∧ tkd T n σ.2.2 ≠ 0 then rdS T n m (sgS T n (lnS T n σ D), nxD T n σ D) else (σ, D)).2
    by_cases c : σ.1 = 0 ∧ tkd T n σ.2.2 ≠ 0
    · rw [if_pos c]
      exact rdS_I hn m _ _ (DI_s hn c.1 h)
    · rw [if_neg c]; exact h
theorem CD_u {D f : Mm} (h : CD D f) (v : Int) : CD (up D 0 8 v) (up f 21 0 v) := by
  obtain ⟨⟨d1, d2, d3, d4, d5, d6, d7⟩, d89, d10, d11, d12⟩ := h
  have nk : nK (up D 0 8 v) = nK D := by unfold nK; rw [up_n (by omega)]
  have nc : nC (up D 0 8 v) = nC D := by unfold nC; rw [up_n (by omega)]
  refine ⟨⟨by rw [up_s, up_s], by rw [up_n (by omega), up_n (by omega)]; exact d2, by rw [up_n (by omega), up_n (by omega)]; exact d3, by rw [up_n (by omega), up_n (by omega)]; exact d4, by rw [up_n (by omega), up_n (by omega)]; exact d5, by rw [up_n (by omega), up_n (by omega)]; exact d6, by rw [up_n (by omega)]; exact d7⟩, fun hz => by rw [up_n (by omega)] at hz; exact ⟨by rw [up_n (by omega), up_n (by omega)]; exact (d89 hz).1, by rw [up_n (by omega), up_n (by omega)]; exact (d89 hz).2⟩, fun d hd j hj => ?_, fun c hc j hj => ?_, fun d hd => by rw [up_n (by omega)]; exact d12 d hd⟩
  · rw [nk] at hd; rw [up_n (by omega), up_n (by omega)]; exact d10 d hd j hj
  · rw [nc] at hc; rw [up_n (by omega), up_n (by omega)]; exact d11 c hc j hj
theorem CD_k {D f g : Mm} (h : CD D f) (hW : nK D ≤ 4 ∧ nC D ≤ 6) (hk : ∀ a j, 21 ≤ a → a ≤ 35 → g a j = f a j) : CD D g := by
  obtain ⟨⟨d1, d2, d3, d4, d5, d6, d7⟩, d89, d10, d11, d12⟩ := h
  refine ⟨⟨by rw [hk 21 0 (by omega) (by omega)]; exact d1, by rw [hk 21 1 (by omega) (by omega)]; exact d2, by rw [hk 21 2 (by omega) (by omega)]; exact d3, by rw [hk 21 3 (by omega) (by omega)]; exact d4, by rw [hk 21 4 (by omega) (by omega)]; exact d5, by rw [hk 21 5 (by omega) (by omega)]; exact d6, by rw [hk 21 6 (by omega) (by omega)]; exact d7⟩, fun hz => ⟨by rw [hk 22 0 (by omega) (by omega)]; exact (d89 hz).1, by rw [hk 22 1 (by omega) (by omega)]; exact (d89 hz).2⟩, fun d hd j hj => by rw [hk _ _ (by omega) (by omega)]; exact d10 d hd j hj, fun c hc j hj => by rw [hk _ _ (by omega) (by omega)]; exact d11 c hc j hj, fun d hd => by rw [hk 35 d (by omega) (by omega)]; exact d12 d hd⟩

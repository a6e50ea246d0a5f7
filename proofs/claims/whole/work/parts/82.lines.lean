/-! LINES: what they say, and the class -/
def b0S (T : Nat → Int) (n : Nat) (σ : Int × Int × Nat) := skS T n 100001 σ
def b1S (T : Nat → Int) (n : Nat) (σ : Int × Int × Nat) := nam T n 100002 1 6 (b0S T n σ)
def b2S (T : Nat → Int) (n : Nat) (σ : Int × Int × Nat) := nam T n 100003 0 60 (b1S T n σ)
def b3S (T : Nat → Int) (n : Nat) (σ : Int × Int × Nat) := nam T n 100003 0 60 (b2S T n σ)
def b4S (T : Nat → Int) (n : Nat) (σ : Int × Int × Nat) := nam T n 100004 0 9 (b3S T n σ)
def b5S (T : Nat → Int) (n : Nat) (σ : Int × Int × Nat) := nam T n 100005 0 10 (b4S T n σ)
def brD (T : Nat → Int) (n : Nat) (σ : Int × Int × Nat) (D : Mm) : Mm := up (up (up (up (up D 0 0 (vlS T n 100002 (b0S T n σ))) 0 1 (vlS T n 100003 (b1S T n σ))) 0 2 (vlS T n 100003 (b2S T n σ))) 0 3 (vlS T n 100004 (b3S T n σ))) 0 4 (vlS T n 100005 (b4S T n σ))
def gvS (T : Nat → Int) (n : Nat) (σ : Int × Int × Nat) : Int × Int × Nat := if σ.1 = 0 ∧ wI T n 100009 σ.2.2 = true then nam T n 100009 0 30 σ else nam T n 100010 0 30 σ
def gvV (T : Nat → Int) (n : Nat) (σ : Int × Int × Nat) : Int := if wI T n 100009 σ.2.2 = true then -(vlS T n 100009 σ) else vlS T n 100010 σ
def e0S (T : Nat → Int) (n : Nat) (σ : Int × Int × Nat) := skS T n 100006 σ
def e1S (T : Nat → Int) (n : Nat) (σ : Int × Int × Nat) := nam T n 100007 0 1 (e0S T n σ)
def e2S (T : Nat → Int) (n : Nat) (σ : Int × Int × Nat) := nam T n 100008 0 99 (e1S T n σ)
def e3S (T : Nat → Int) (n : Nat) (σ : Int × Int × Nat) := gvS T n (e2S T n σ)
def e4S (T : Nat → Int) (n : Nat) (σ : Int × Int × Nat) := gvS T n (e3S T n σ)
def deD (T : Nat → Int) (n : Nat) (σ : Int × Int × Nat) (D : Mm) : Mm := up (up (up (up (up D (10 + nK D) 0 (vlS T n 100007 (e0S T n σ))) (10 + nK D) 1 (vlS T n 100008 (e1S T n σ))) (10 + nK D) 2 (gvV T n (e2S T n σ))) (10 + nK D) 3 (gvV T n (e3S T n σ))) 0 5 ((nK D : Int) + 1)
def c0S (T : Nat → Int) (n : Nat) (σ : Int × Int × Nat) := skS T n 100011 σ
def c1S (T : Nat → Int) (n : Nat) (σ : Int × Int × Nat) := nam T n 100012 0 1 (c0S T n σ)
def c2S (T : Nat → Int) (n : Nat) (σ : Int × Int × Nat) := nam T n 100013 1 40 (c1S T n σ)
def c3S (T : Nat → Int) (n : Nat) (σ : Int × Int × Nat) := nam T n 100014 0 9 (c2S T n σ)
def c4S (T : Nat → Int) (n : Nat) (σ : Int × Int × Nat) := nam T n 100015 0 9 (c3S T n σ)
def c5S (T : Nat → Int) (n : Nat) (σ : Int × Int × Nat) := nam T n 100016 0 999 (c4S T n σ)
def caD (T : Nat → Int) (n : Nat) (σ : Int × Int × Nat) (D : Mm) : Mm := up (up (up (up (up (up D (20 + nC D) 0 (vlS T n 100012 (c0S T n σ))) (20 + nC D) 1 (vlS T n 100013 (c1S T n σ))) (20 + nC D) 2 (vlS T n 100014 (c2S T n σ))) (20 + nC D) 3 (vlS T n 100015 (c3S T n σ))) (20 + nC D) 4 (vlS T n 100016 (c4S T n σ))) 0 6 ((nC D : Int) + 1)
theorem gvS_k {T : Nat → Int} {n : Nat} {σ : Int × Int × Nat} (h : (gvS T n σ).1 = 0) : σ.1 = 0 := by
  unfold gvS at h
  split at h
  · exact nam_k h
  · exact nam_k h
theorem gvS_v {T : Nat → Int} {n : Nat} {σ : Int × Int × Nat} (h : (gvS T n σ).1 = 0) : -30 ≤ gvV T n σ ∧ gvV T n σ ≤ 30 := by
  have h0 := gvS_k h
  unfold gvS at h
  unfold gvV
  by_cases c : wI T n 100009 σ.2.2 = true
  · rw [if_pos ⟨h0, c⟩] at h
    have := nam_v h
    rw [if_pos c]
    omega
  · rw [if_neg (fun z => c z.2)] at h
    have := nam_v h
    rw [if_neg c]
    omega
theorem gvS_q {T : Nat → Int} {n : Nat} {σ : Int × Int × Nat} (hq : σ.1 = 0 → σ.2.2 ≤ n) : QL n σ (gvS T n σ) ∧ ((gvS T n σ).1 = 0 → (gvS T n σ).2.2 ≤ n) := by
  unfold gvS
  split
  · exact nam_q hq
  · exact nam_q hq
/-- the draft, as the class has it -/
def CD (D f : Mm) : Prop :=
  (f 21 0 = D 0 8 ∧ f 21 1 = D 0 0 ∧ f 21 2 = D 0 3 ∧ f 21 3 = D 0 4 ∧ f 21 4 = D 0 5 ∧ f 21 5 = D 0 6 ∧ f 21 6 = 0) ∧
  (0 < D 0 0 → f 22 0 = D 0 1 ∧ f 22 1 = D 0 2) ∧
  (∀ d, d < nK D → ∀ j, j < 4 → f (24 + d) j = D (10 + d) j) ∧
  (∀ c, c < nC D → ∀ j, j < 5 → f (29 + c) j = D (20 + c) j) ∧
  (∀ d, d < 6 → f 35 d = -1)
def Sd (a _ : Nat) : Prop := a = 1 ∨ (21 ≤ a ∧ a ≤ 37)
theorem K1_d {f g : Mm} (h : Kp K1 f g) : Kp Sd f g := Kp_m h (fun a j q => Or.inl q)
theorem readBridge_C {T : Nat → Int} {n : Nat} (hn : n ≤ 800) {σ : Int × Int × Nat} {f : Mm} (h : CZ T n σ f) {D : Mm} (hD : CD D f) (hK : nK D = 0) (hC : nC D = 0) :
    Wp (FX4_readBridge_1_21 f) (fun g => CZ T n (b5S T n σ) g ∧ Kp Sd f g ∧ ((b5S T n σ).1 = 0 → CD (brD T n σ D) g)) := by
  unfold FX4_readBridge_1_21 FX4_readBridge_1_21_0
  refine Wp_bind (skipWord_C hn h (a := 100001) rfl) (fun g0 ⟨z0, k0⟩ => ?_)
  refine Wp_b2 (named_C hn z0 (a := 100002) rfl (lo := 1) (hi := 6) (by decide)) (fun y1 g1 ⟨z1, k1, v1⟩ => ?_)
  simp only at z1 k1 v1
  refine Wp_b2 (named_C hn (CZ_k (g := up g1 21 1 y1) z1 (fun a j q => up_n (by omega))) (a := 100003) rfl (lo := 0) (hi := 60) (by decide)) (fun y2 g2 ⟨z2, k2, v2⟩ => ?_)
  simp only at z2 k2 v2
  refine Wp_b2 (named_C hn (CZ_k (g := up g2 22 0 y2) z2 (fun a j q => up_n (by omega))) (a := 100003) rfl (lo := 0) (hi := 60) (by decide)) (fun y3 g3 ⟨z3, k3, v3⟩ => ?_)
  simp only at z3 k3 v3
  refine Wp_b2 (named_C hn (CZ_k (g := up g3 22 1 y3) z3 (fun a j q => up_n (by omega))) (a := 100004) rfl (lo := 0) (hi := 9) (by decide)) (fun y4 g4 ⟨z4, k4, v4⟩ => ?_)
  simp only at z4 k4 v4
  refine Wp_b2 (named_C hn (CZ_k (g := up g4 21 2 y4) z4 (fun a j q => up_n (by omega))) (a := 100005) rfl (lo := 0) (hi := 10) (by decide)) (fun y5 g5 ⟨z5, k5, v5⟩ => ?_)
  simp only at z5 k5 v5
  have w5 : ∀ a j, a ≠ 1 → g5 a j = up g4 21 2 y4 a j := fun a j q => k5 a j q
  have w4 : ∀ a j, a ≠ 1 → g4 a j = up g3 22 1 y3 a j := fun a j q => k4 a j q
  have w3 : ∀ a j, a ≠ 1 → g3 a j = up g2 22 0 y2 a j := fun a j q => k3 a j q
  have w2 : ∀ a j, a ≠ 1 → g2 a j = up g1 21 1 y1 a j := fun a j q => k2 a j q
  have w1 : ∀ a j, a ≠ 1 → g1 a j = f a j := fun a j q => by rw [k1 a j q, k0 a j q]
  refine Wp_some ⟨CZ_k z5 (fun a j q => up_n (by omega)), fun a j q => ?_, fun hok => ?_⟩
  · unfold Sd at q
    rw [up_n (by omega), w5 a j (by omega), up_n (by omega), w4 a j (by omega), up_n (by omega), w3 a j (by omega), up_n (by omega), w2 a j (by omega), up_n (by omega), w1 a j (by omega)]
  · have o4 := nam_k hok
    have o3 := nam_k o4
    have o2 := nam_k o3
    have o1 := nam_k o2
    have e1 : y1 = vlS T n 100002 (b0S T n σ) := by rw [v1]; exact if_pos o1
    have e2 : y2 = vlS T n 100003 (b1S T n σ) := by rw [v2]; exact if_pos o2
    have e3 : y3 = vlS T n 100003 (b2S T n σ) := by rw [v3]; exact if_pos o3
    have e4 : y4 = vlS T n 100004 (b3S T n σ) := by rw [v4]; exact if_pos o4
    have e5 : y5 = vlS T n 100005 (b4S T n σ) := by rw [v5]; exact if_pos hok
    have nk : nK (brD T n σ D) = 0 := by unfold nK brD; rw [up_n (by omega), up_n (by omega), up_n (by omega), up_n (by omega), up_n (by omega)]; exact hK
    have nc : nC (brD T n σ D) = 0 := by unfold nC brD; rw [up_n (by omega), up_n (by omega), up_n (by omega), up_n (by omega), up_n (by omega)]; exact hC
    obtain ⟨⟨d1, d2, d3, d4, d5, d6, d7⟩, d89, d10, d11, d12⟩ := hD
    have base : ∀ a j, ¬ (a = 1 ∨ (a = 21 ∧ (j = 1 ∨ j = 2 ∨ j = 3)) ∨ (a = 22 ∧ (j = 0 ∨ j = 1))) → up g5 21 3 y5 a j = f a j := fun a j q => by
      rw [up_n (by omega), w5 a j (by omega), up_n (by omega), w4 a j (by omega), up_n (by omega), w3 a j (by omega), up_n (by omega), w2 a j (by omega), up_n (by omega), w1 a j (by omega)]
    refine ⟨⟨?_, ?_, ?_, ?_, ?_, ?_, ?_⟩, fun hz => ⟨?_, ?_⟩, fun d hd => by omega, fun c hc => by omega, fun d hd => ?_⟩
    · rw [base 21 0 (by omega), d1]; unfold brD; rw [up_n (by omega), up_n (by omega), up_n (by omega), up_n (by omega), up_n (by omega)]
    · rw [up_n (by omega), w5 21 1 (by omega), up_n (by omega), w4 21 1 (by omega), up_n (by omega), w3 21 1 (by omega), up_n (by omega), w2 21 1 (by omega), up_s, e1]; unfold brD; rw [up_n (by omega), up_n (by omega), up_n (by omega), up_n (by omega), up_s]
    · rw [up_n (by omega), w5 21 2 (by omega), up_s, e4]; unfold brD; rw [up_n (by omega), up_s]
    · rw [up_s, e5]; unfold brD; rw [up_s]
    · rw [base 21 4 (by omega), d5]; unfold brD; rw [up_n (by omega), up_n (by omega), up_n (by omega), up_n (by omega), up_n (by omega)]
    · rw [base 21 5 (by omega), d6]; unfold brD; rw [up_n (by omega), up_n (by omega), up_n (by omega), up_n (by omega), up_n (by omega)]
    · rw [base 21 6 (by omega), d7]
    · rw [up_n (by omega), w5 22 0 (by omega), up_n (by omega), w4 22 0 (by omega), up_n (by omega), w3 22 0 (by omega), up_s, e2]; unfold brD; rw [up_n (by omega), up_n (by omega), up_n (by omega), up_s]
    · rw [up_n (by omega), w5 22 1 (by omega), up_n (by omega), w4 22 1 (by omega), up_s, e3]; unfold brD; rw [up_n (by omega), up_n (by omega), up_s]
    · rw [base 35 d (by omega)]; exact d12 d hd
theorem gv_C {T : Nat → Int} {n : Nat} (hn : n ≤ 800) {σ : Int × Int × Nat} {g : Mm} (h : CZ T n σ g) {k s : Nat} (hk : k < 4) (hs : s < 2) (m : Nat) :
    ∃ y g', FX4_readDeed_1_21_55 (m + 1) (24 + k) (s : Int) g = FX4_readDeed_1_21_55 m (24 + k) ((s + 1 : Nat) : Int) (up g' (24 + k) (2 + s) y) ∧ CZ T n (gvS T n σ) g' ∧ Kp K1 g g' ∧ ((gvS T n σ).1 = 0 → y = gvV T n σ) := by
  have hSH : SH[24 + k]? = some (0, 4) := by
    rcases (show k = 0 ∨ k = 1 ∨ k = 2 ∨ k = 3 by omega) with rfl | rfl | rfl | rfl <;> rfl
  have h106 : ∀ y g', FX4_readDeed_1_21_106 (FX4_readDeed_1_21_55 m) (24 + k) (s : Int) (24 + k) (w32 (2 + (s : Int))) y g' = FX4_readDeed_1_21_55 m (24 + k) ((s + 1 : Nat) : Int) (up g' (24 + k) (2 + s) y) := fun y g' => by
    unfold FX4_readDeed_1_21_106
    rw [w32n (x := 2 + (s : Int)) (n := 2 + s) (by omega) (by omega), if_pos hSH, if_pos (by omega), nx s (by omega), Int.toNat_natCast]
  have hv : ∀ {a : Nat}, vlS T n a σ = vlS T n a σ := rfl
  rw [FX4_readDeed_1_21_55, if_neg (by omega)]
  by_cases q : σ.1 = 0
  · rw [isWord_C hn h q (a := 100009) rfl, b2_some]
    by_cases c : wI T n 100009 σ.2.2 = true
    · rw [if_pos c, if_neg (show ¬ (1 : Int) = 0 by decide)]
      unfold FX4_readDeed_1_21_81
      obtain ⟨⟨y, g1⟩, q1, z1, k1, v1⟩ := named_C hn h (a := 100009) rfl (lo := 0) (hi := 30) (by decide)
      simp only at z1 k1 v1
      have eg : gvS T n σ = nam T n 100009 0 30 σ := by unfold gvS; rw [if_pos ⟨q, c⟩]
      rw [q1, b2_some, if_neg (show ¬ (1 : Int) = 0 by decide), h106]
      refine ⟨_, g1, rfl, by rw [eg]; exact z1, k1, fun w => ?_⟩
      rw [eg] at w
      have hb := nam_v w
      rw [v1, if_pos w, w32s (by omega) (by omega)]
      unfold gvV
      rw [if_pos c]
    · rw [if_neg c, if_pos (show (0 : Int) = 0 from rfl)]
      unfold FX4_readDeed_1_21_81
      obtain ⟨⟨y, g1⟩, q1, z1, k1, v1⟩ := named_C hn h (a := 100010) rfl (lo := 0) (hi := 30) (by decide)
      simp only at z1 k1 v1
      have eg : gvS T n σ = nam T n 100010 0 30 σ := by unfold gvS; rw [if_neg (fun z => c z.2)]
      rw [q1, b2_some, if_pos (show (0 : Int) = 0 from rfl), h106]
      refine ⟨_, g1, rfl, by rw [eg]; exact z1, k1, fun w => ?_⟩
      rw [eg] at w
      rw [v1, if_pos w]
      unfold gvV
      rw [if_neg c]
  · obtain ⟨r, hr⟩ := isWord_t (a := 100009) rfl g
    have eg : gvS T n σ = σ := by
      unfold gvS nam nuS skS
      rw [if_neg (fun z => q z.1), if_neg q, if_neg q]
    have en' : ∀ a, nam T n a 0 30 σ = σ := fun a => by
      unfold nam nuS skS
      rw [if_neg q, if_neg q]
    rw [hr, b2_some]
    by_cases c : r = 0
    · rw [if_pos c]
      unfold FX4_readDeed_1_21_81
      obtain ⟨⟨y, g1⟩, q1, z1, k1, v1⟩ := named_C hn h (a := 100010) rfl (lo := 0) (hi := 30) (by decide)
      simp only at z1 k1 v1
      rw [q1, b2_some, if_pos c, h106]
      rw [en'] at z1
      exact ⟨_, g1, rfl, by rw [eg]; exact z1, k1, fun w => absurd (gvS_k w) q⟩
    · rw [if_neg c]
      unfold FX4_readDeed_1_21_81
      obtain ⟨⟨y, g1⟩, q1, z1, k1, v1⟩ := named_C hn h (a := 100009) rfl (lo := 0) (hi := 30) (by decide)
      simp only at z1 k1 v1
      rw [q1, b2_some, if_neg c, h106]
      rw [en'] at z1
      exact ⟨_, g1, rfl, by rw [eg]; exact z1, k1, fun w => absurd (gvS_k w) q⟩
theorem readDeed_C {T : Nat → Int} {n : Nat} (hn : n ≤ 800) {σ : Int × Int × Nat} {f : Mm} (h : CZ T n σ f) {D : Mm} (hD : CD D f) (hK : nK D < 4) (hKe : D 0 5 = (nK D : Int)) :
    Wp (FX4_readDeed_1_21 f) (fun g => CZ T n (e4S T n σ) g ∧ Kp Sd f g ∧ ((e4S T n σ).1 = 0 → CD (deD T n σ D) g)) := by
  obtain ⟨mm, hmm⟩ := fum3
  obtain ⟨⟨d1, d2, d3, d4, d5, d6, d7⟩, d89, d10, d11, d12⟩ := hD
  unfold FX4_readDeed_1_21 FX4_readDeed_1_21_0
  rw [d5, hKe, if_pos (by omega), if_pos (by omega), Int.toNat_natCast]
  generalize hk : nK D = k at *
  refine Wp_bind (skipWord_C hn h (a := 100006) rfl) (fun g0 ⟨z0, k0⟩ => ?_)
  refine Wp_b2 (named_C hn z0 (a := 100007) rfl (lo := 0) (hi := 1) (by decide)) (fun y1 g1 ⟨z1, k1, v1⟩ => ?_)
  simp only at z1 k1 v1
  refine Wp_b2 (named_C hn (CZ_k (g := up g1 (24 + k) 0 y1) z1 (fun a j q => up_n (by omega))) (a := 100008) rfl (lo := 0) (hi := 99) (by decide)) (fun y2 g2 ⟨z2, k2, v2⟩ => ?_)
  simp only at z2 k2 v2
  rw [hmm]
  obtain ⟨y3, g3, q3, z3, k3, v3⟩ := gv_C hn (CZ_k (g := up g2 (24 + k) 1 y2) z2 (fun a j q => up_n (by omega))) hK (s := 0) (by decide) (mm + 1 + 1)
  refine Wp_eq q3 ?_
  obtain ⟨y4, g4, q4, z4, k4, v4⟩ := gv_C hn (CZ_k (g := up g3 (24 + k) (2 + 0) y3) z3 (fun a j q => up_n (by omega))) hK (s := 1) (by decide) (mm + 1)
  refine Wp_eq q4 ?_
  rw [FX4_readDeed_1_21_55, if_pos (by decide)]
  unfold FX4_readDeed_1_21_113
  have w4 : ∀ a j, a ≠ 1 → g4 a j = up g3 (24 + k) (2 + 0) y3 a j := fun a j q => k4 a j q
  have w3 : ∀ a j, a ≠ 1 → g3 a j = up g2 (24 + k) 1 y2 a j := fun a j q => k3 a j q
  have w2 : ∀ a j, a ≠ 1 → g2 a j = up g1 (24 + k) 0 y1 a j := fun a j q => k2 a j q
  have w1 : ∀ a j, a ≠ 1 → g1 a j = f a j := fun a j q => by rw [k1 a j q, k0 a j q]
  have base : ∀ a j, ¬ (a = 1 ∨ a = 24 + k) → up g4 (24 + k) (2 + 1) y4 a j = f a j := fun a j q => by
    rw [up_n (by omega), w4 a j (by omega), up_n (by omega), w3 a j (by omega), up_n (by omega), w2 a j (by omega), up_n (by omega), w1 a j (by omega)]
  rw [base 21 4 (by omega), d5, hKe, w32s (by omega) (by omega)]
  refine Wp_some ⟨CZ_k z4 (fun a j q => by rw [up_n (by omega), up_n (by omega)]), fun a j q => ?_, fun hok => ?_⟩
  · unfold Sd at q
    rw [up_n (by omega), base a j (by omega)]
  · have o3 := gvS_k hok
    have o2 := gvS_k o3
    have o1 := nam_k o2
    have e1 : y1 = vlS T n 100007 (e0S T n σ) := by rw [v1]; exact if_pos o1
    have e2 : y2 = vlS T n 100008 (e1S T n σ) := by rw [v2]; exact if_pos o2
    have e3 : y3 = gvV T n (e2S T n σ) := v3 o3
    have e4 : y4 = gvV T n (e3S T n σ) := v4 hok
    have nk : nK (deD T n σ D) = k + 1 := by unfold nK deD; rw [up_s, hk]; omega
    have nc : nC (deD T n σ D) = nC D := by unfold nC deD; rw [hk, up_n (by omega), up_n (by omega), up_n (by omega), up_n (by omega), up_n (by omega)]
    have dR : ∀ j, j ≠ 5 → deD T n σ D 0 j = D 0 j := fun j q => by unfold deD; rw [hk, up_n (by omega), up_n (by omega), up_n (by omega), up_n (by omega), up_n (by omega)]
    have d5' : deD T n σ D 0 5 = (k : Int) + 1 := by unfold deD; rw [up_s, hk]
    have dO' : ∀ a j, a ≠ 0 → a ≠ 10 + k → deD T n σ D a j = D a j := fun a j q1 q2 => by unfold deD; rw [hk, up_n (by omega), up_n (by omega), up_n (by omega), up_n (by omega), up_n (by omega)]
    refine ⟨⟨?_, ?_, ?_, ?_, ?_, ?_, ?_⟩, fun hz => ⟨?_, ?_⟩, fun d hd j hj => ?_, fun c hc j hj => ?_, fun d hd => ?_⟩
    · rw [up_n (by omega), base 21 0 (by omega), d1, dR 8 (by omega)]
    · rw [up_n (by omega), base 21 1 (by omega), d2, dR 0 (by omega)]
    · rw [up_n (by omega), base 21 2 (by omega), d3, dR 3 (by omega)]
    · rw [up_n (by omega), base 21 3 (by omega), d4, dR 4 (by omega)]
    · rw [up_s, d5']
    · rw [up_n (by omega), base 21 5 (by omega), d6, dR 6 (by omega)]
    · rw [up_n (by omega), base 21 6 (by omega), d7]
    · rw [dR 0 (by omega)] at hz; rw [up_n (by omega), base 22 0 (by omega), (d89 hz).1, dR 1 (by omega)]
    · rw [dR 0 (by omega)] at hz; rw [up_n (by omega), base 22 1 (by omega), (d89 hz).2, dR 2 (by omega)]
    · rw [nk] at hd
      by_cases q : d = k
      · subst q
        unfold deD
        rw [hk]
        rcases (show j = 0 ∨ j = 1 ∨ j = 2 ∨ j = 3 by omega) with rfl | rfl | rfl | rfl
        · rw [up_n (by omega), up_n (by omega), w4 _ _ (by omega), up_n (by omega), w3 _ _ (by omega), up_n (by omega), w2 _ _ (by omega), up_s, e1, up_n (by omega), up_n (by omega), up_n (by omega), up_n (by omega), up_s]
        · rw [up_n (by omega), up_n (by omega), w4 _ _ (by omega), up_n (by omega), w3 _ _ (by omega), up_s, e2, up_n (by omega), up_n (by omega), up_n (by omega), up_s]
        · rw [up_n (by omega), up_n (by omega), w4 _ _ (by omega), show (2 : Nat) + 0 = 2 from rfl, up_s, e3, up_n (by omega), up_n (by omega), up_s]
        · rw [up_n (by omega), show (2 : Nat) + 1 = 3 from rfl, up_s, e4, up_n (by omega), up_s]
      · rw [dO' (10 + d) j (by omega) (by omega), up_n (by omega), base (24 + d) j (by omega)]
        exact d10 d (by omega) j hj
    · rw [nc] at hc
      rw [up_n (by omega), base (29 + c) j (by omega), d11 c hc j hj, dO' (20 + c) j (by omega) (by omega)]
    · rw [up_n (by omega), base 35 d (by omega)]; exact d12 d hd
theorem readCart23_C {T : Nat → Int} {n : Nat} (hn : n ≤ 800) {σ : Int × Int × Nat} {f : Mm} (h : CZ T n σ f) {D : Mm} (hD : CD D f) (hC : (c0S T n σ).1 = 0 → nC D < 6) (hCe : D 0 6 = (nC D : Int)) (hK : nK D ≤ 4) :
    Wp (FX4_readCart_1_21_23 f) (fun g => CZ T n (c5S T n σ) g ∧ Kp Sd f g ∧ ((c5S T n σ).1 = 0 → CD (caD T n σ D) g)) := by
  obtain ⟨⟨d1, d2, d3, d4, d5, d6, d7⟩, d89, d10, d11, d12⟩ := hD
  unfold FX4_readCart_1_21_23
  generalize hk : nC D = k at *
  refine Wp_bind (skipWord_C hn h (a := 100011) rfl) (fun g0 ⟨z0, k0⟩ => ?_)
  have z10 : g0 1 0 = (c0S T n σ).1 := z0.2.1
  by_cases q0 : (c0S T n σ).1 = 0
  · have hk6 := hC q0
    have e5 : g0 21 5 = (k : Int) := by rw [k0 21 5 (by unfold K1; omega), d6, hCe]
    rw [if_pos (by rw [z10]; exact q0), e5, if_pos (by omega), Int.toNat_natCast]
    refine Wp_b2 (named_C hn z0 (a := 100012) rfl (lo := 0) (hi := 1) (by decide)) (fun y1 g1 ⟨z1, k1, v1⟩ => ?_)
    simp only at z1 k1 v1
    refine Wp_b2 (named_C hn (CZ_k (g := up g1 (29 + k) 0 y1) z1 (fun a j q => up_n (by omega))) (a := 100013) rfl (lo := 1) (hi := 40) (by decide)) (fun y2 g2 ⟨z2, k2, v2⟩ => ?_)
    simp only at z2 k2 v2
    refine Wp_b2 (named_C hn (CZ_k (g := up g2 (29 + k) 1 y2) z2 (fun a j q => up_n (by omega))) (a := 100014) rfl (lo := 0) (hi := 9) (by decide)) (fun y3 g3 ⟨z3, k3, v3⟩ => ?_)
    simp only at z3 k3 v3
    refine Wp_b2 (named_C hn (CZ_k (g := up g3 (29 + k) 2 y3) z3 (fun a j q => up_n (by omega))) (a := 100015) rfl (lo := 0) (hi := 9) (by decide)) (fun y4 g4 ⟨z4, k4, v4⟩ => ?_)
    simp only at z4 k4 v4
    refine Wp_b2 (named_C hn (CZ_k (g := up g4 (29 + k) 3 y4) z4 (fun a j q => up_n (by omega))) (a := 100016) rfl (lo := 0) (hi := 999) (by decide)) (fun y5 g5 ⟨z5, k5, v5⟩ => ?_)
    simp only at z5 k5 v5
    have w5 : ∀ a j, a ≠ 1 → g5 a j = up g4 (29 + k) 3 y4 a j := fun a j q => k5 a j q
    have w4 : ∀ a j, a ≠ 1 → g4 a j = up g3 (29 + k) 2 y3 a j := fun a j q => k4 a j q
    have w3 : ∀ a j, a ≠ 1 → g3 a j = up g2 (29 + k) 1 y2 a j := fun a j q => k3 a j q
    have w2 : ∀ a j, a ≠ 1 → g2 a j = up g1 (29 + k) 0 y1 a j := fun a j q => k2 a j q
    have w1 : ∀ a j, a ≠ 1 → g1 a j = f a j := fun a j q => by rw [k1 a j q, k0 a j q]
    have base : ∀ a j, ¬ (a = 1 ∨ a = 29 + k) → up g5 (29 + k) 4 y5 a j = f a j := fun a j q => by
      rw [up_n (by omega), w5 a j (by omega), up_n (by omega), w4 a j (by omega), up_n (by omega), w3 a j (by omega), up_n (by omega), w2 a j (by omega), up_n (by omega), w1 a j (by omega)]
    rw [base 21 5 (by omega), d6, hCe, w32s (by omega) (by omega)]
    refine Wp_some ⟨CZ_k z5 (fun a j q => by rw [up_n (by omega), up_n (by omega)]), fun a j q => ?_, fun hok => ?_⟩
    · unfold Sd at q
      rw [up_n (by omega), base a j (by omega)]
    · have o4 := nam_k hok
      have o3 := nam_k o4
      have o2 := nam_k o3
      have o1 := nam_k o2
      have e1 : y1 = vlS T n 100012 (c0S T n σ) := by rw [v1]; exact if_pos o1
      have e2 : y2 = vlS T n 100013 (c1S T n σ) := by rw [v2]; exact if_pos o2
      have e3 : y3 = vlS T n 100014 (c2S T n σ) := by rw [v3]; exact if_pos o3
      have e4 : y4 = vlS T n 100015 (c3S T n σ) := by rw [v4]; exact if_pos o4
      have e5' : y5 = vlS T n 100016 (c4S T n σ) := by rw [v5]; exact if_pos hok
      have nc : nC (caD T n σ D) = k + 1 := by unfold nC caD; rw [up_s, hk]; omega
      have nk : nK (caD T n σ D) = nK D := by unfold nK caD; rw [hk, up_n (by omega), up_n (by omega), up_n (by omega), up_n (by omega), up_n (by omega), up_n (by omega)]
      have dR : ∀ j, j ≠ 6 → caD T n σ D 0 j = D 0 j := fun j q => by unfold caD; rw [hk, up_n (by omega), up_n (by omega), up_n (by omega), up_n (by omega), up_n (by omega), up_n (by omega)]
      have d6' : caD T n σ D 0 6 = (k : Int) + 1 := by unfold caD; rw [up_s, hk]
      have dO' : ∀ a j, a ≠ 0 → a ≠ 20 + k → caD T n σ D a j = D a j := fun a j q1 q2 => by unfold caD; rw [hk, up_n (by omega), up_n (by omega), up_n (by omega), up_n (by omega), up_n (by omega), up_n (by omega)]
      refine ⟨⟨?_, ?_, ?_, ?_, ?_, ?_, ?_⟩, fun hz => ⟨?_, ?_⟩, fun d hd j hj => ?_, fun c hc j hj => ?_, fun d hd => ?_⟩
      · rw [up_n (by omega), base 21 0 (by omega), d1, dR 8 (by omega)]
      · rw [up_n (by omega), base 21 1 (by omega), d2, dR 0 (by omega)]
      · rw [up_n (by omega), base 21 2 (by omega), d3, dR 3 (by omega)]
      · rw [up_n (by omega), base 21 3 (by omega), d4, dR 4 (by omega)]
      · rw [up_n (by omega), base 21 4 (by omega), d5, dR 5 (by omega)]
      · rw [up_s, d6']
      · rw [up_n (by omega), base 21 6 (by omega), d7]
      · rw [dR 0 (by omega)] at hz; rw [up_n (by omega), base 22 0 (by omega), (d89 hz).1, dR 1 (by omega)]
      · rw [dR 0 (by omega)] at hz; rw [up_n (by omega), base 22 1 (by omega), (d89 hz).2, dR 2 (by omega)]
      · rw [nk] at hd
        rw [up_n (by omega), base (24 + d) j (by omega), d10 d hd j hj, dO' (10 + d) j (by omega) (by omega)]
      · rw [nc] at hc
        by_cases q : c = k
        · subst q
          unfold caD
          rw [hk]
          rcases (show j = 0 ∨ j = 1 ∨ j = 2 ∨ j = 3 ∨ j = 4 by omega) with rfl | rfl | rfl | rfl | rfl
          · rw [up_n (by omega), up_n (by omega), w5 _ _ (by omega), up_n (by omega), w4 _ _ (by omega), up_n (by omega), w3 _ _ (by omega), up_n (by omega), w2 _ _ (by omega), up_s, e1, up_n (by omega), up_n (by omega), up_n (by omega), up_n (by omega), up_n (by omega), up_s]
          · rw [up_n (by omega), up_n (by omega), w5 _ _ (by omega), up_n (by omega), w4 _ _ (by omega), up_n (by omega), w3 _ _ (by omega), up_s, e2, up_n (by omega), up_n (by omega), up_n (by omega), up_n (by omega), up_s]
          · rw [up_n (by omega), up_n (by omega), w5 _ _ (by omega), up_n (by omega), w4 _ _ (by omega), up_s, e3, up_n (by omega), up_n (by omega), up_n (by omega), up_s]
          · rw [up_n (by omega), up_n (by omega), w5 _ _ (by omega), up_s, e4, up_n (by omega), up_n (by omega), up_s]
          · rw [up_n (by omega), up_s, e5', up_n (by omega), up_s]
        · rw [dO' (20 + c) j (by omega) (by omega), up_n (by omega), base (29 + c) j (by omega)]
          exact d11 c (by omega) j hj
      · rw [up_n (by omega), base 35 d (by omega)]; exact d12 d hd
  · have hf : ∀ {τ : Int × Int × Nat} {a : Nat} {lo hi : Int}, τ.1 ≠ 0 → nam T n a lo hi τ = τ := fun {τ a lo hi} q => by
      unfold nam nuS skS
      rw [if_neg q, if_neg q]
    have e5 : c5S T n σ = c0S T n σ := by
      unfold c5S c4S c3S c2S c1S
      rw [hf (τ := c0S T n σ) q0, hf (τ := c0S T n σ) q0, hf (τ := c0S T n σ) q0, hf (τ := c0S T n σ) q0, hf (τ := c0S T n σ) q0]
    rw [if_neg (by rw [z10]; exact q0), e5]
    exact Wp_some ⟨z0, K1_d k0, fun w => absurd w q0⟩

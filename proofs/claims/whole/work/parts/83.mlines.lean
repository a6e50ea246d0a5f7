/-! LINES: the model -/
def MD (D f : Mm) : Prop :=
  (f 156 4 = D 0 8 ∧ f 157 32 = D 0 0 ∧ f 157 33 = D 0 1 ∧ f 157 34 = D 0 2 ∧ f 157 35 = D 0 3 ∧ f 157 36 = D 0 4 ∧ f 157 37 = D 0 5 ∧ f 157 38 = D 0 6 ∧ f 157 39 = 0) ∧
  (∀ d, d < nK D → ∀ j, j < 4 → f 158 (64 + 4 * d + j) = D (10 + d) j) ∧
  (∀ c, c < nC D → ∀ j, j < 5 → f 159 (120 + 5 * c + j) = D (20 + c) j)
def Se (a j : Nat) : Prop := (a = 150 ∧ 7 ≤ j ∧ j ≤ 13) ∨ (a = 156 ∧ j = 4) ∨ (a = 157 ∧ 32 ≤ j) ∨ (a = 158 ∧ 64 ≤ j) ∨ (a = 159 ∧ 120 ≤ j)
theorem K2_e {f g : Mm} (h : Kp K2 f g) : Kp Se f g := Kp_m h (fun a j q => Or.inl q)
theorem tells_w (k : Nat) (hk : k < 8) (v : Int) (f : Mm) : FX11_tells (k : Int) v f = some (up f 157 (32 + k) v) := by
  unfold FX11_tells FX11_tells_0
  rw [w32n (x := 32 + (k : Int)) (n := 32 + k) (by omega) (by omega), if_pos (by omega), Int.toNat_natCast]
theorem hasRead_w (k : Nat) (hk : k < 8) (f : Mm) : FX11_hasRead (k : Int) f = some (f 157 (32 + k), f) := by
  unfold FX11_hasRead FX11_hasRead_0
  rw [w32n (x := 32 + (k : Int)) (n := 32 + k) (by omega) (by omega), if_pos (by omega), Int.toNat_natCast]
theorem bridgeLine_M {T : Nat → Int} {n : Nat} (hn : n ≤ 800) {σ : Int × Int × Nat} {f : Mm} (h : MZ T n σ f) {D : Mm} (hD : MD D f) (hK : nK D = 0) (hC : nC D = 0) :
    Wp (FX11_bridgeLine f) (fun g => MZ T n (b5S T n σ) g ∧ Kp Se f g ∧ ((b5S T n σ).1 = 0 → MD (brD T n σ D) g)) := by
  unfold FX11_bridgeLine FX11_bridgeLine_0
  refine Wp_bind (asks_M hn h (a := 100001) rfl rfl) (fun g0 ⟨z0, k0⟩ => ?_)
  refine Wp_b2 (num_M hn z0 (a := 100002) rfl rfl 1 6) (fun y1 g1 ⟨z1, k1, v1⟩ => ?_)
  simp only at z1 k1 v1
  have t0 := tells_w 0 (by decide) y1 g1
  refine Wp_bind (P := fun g => g = up g1 157 32 y1) ⟨_, t0, rfl⟩ (fun h1 e1 => ?_)
  subst e1
  refine Wp_b2 (num_M hn (MZ_k (g := up g1 157 32 y1) z1 (fun a j q => up_n (by omega))) (a := 100003) rfl rfl 0 60) (fun y2 g2 ⟨z2, k2, v2⟩ => ?_)
  simp only at z2 k2 v2
  have t1 := tells_w 1 (by decide) y2 g2
  refine Wp_bind (P := fun g => g = up g2 157 33 y2) ⟨_, t1, rfl⟩ (fun h1 e1 => ?_)
  subst e1
  refine Wp_b2 (num_M hn (MZ_k (g := up g2 157 33 y2) z2 (fun a j q => up_n (by omega))) (a := 100003) rfl rfl 0 60) (fun y3 g3 ⟨z3, k3, v3⟩ => ?_)
  simp only at z3 k3 v3
  have t2 := tells_w 2 (by decide) y3 g3
  refine Wp_bind (P := fun g => g = up g3 157 34 y3) ⟨_, t2, rfl⟩ (fun h1 e1 => ?_)
  subst e1
  refine Wp_b2 (num_M hn (MZ_k (g := up g3 157 34 y3) z3 (fun a j q => up_n (by omega))) (a := 100004) rfl rfl 0 9) (fun y4 g4 ⟨z4, k4, v4⟩ => ?_)
  simp only at z4 k4 v4
  have t3 := tells_w 3 (by decide) y4 g4
  refine Wp_bind (P := fun g => g = up g4 157 35 y4) ⟨_, t3, rfl⟩ (fun h1 e1 => ?_)
  subst e1
  refine Wp_b2 (num_M hn (MZ_k (g := up g4 157 35 y4) z4 (fun a j q => up_n (by omega))) (a := 100005) rfl rfl 0 10) (fun y5 g5 ⟨z5, k5, v5⟩ => ?_)
  simp only at z5 k5 v5
  have t4 := tells_w 4 (by decide) y5 g5
  refine Wp_bind (P := fun g => g = up g5 157 36 y5) ⟨_, t4, rfl⟩ (fun h1 e1 => ?_)
  subst e1
  have w5 : ∀ a j, a ≠ 150 → g5 a j = up g4 157 35 y4 a j := fun a j q => k5 a j (fun z => q z.1)
  have w4 : ∀ a j, a ≠ 150 → g4 a j = up g3 157 34 y3 a j := fun a j q => k4 a j (fun z => q z.1)
  have w3 : ∀ a j, a ≠ 150 → g3 a j = up g2 157 33 y2 a j := fun a j q => k3 a j (fun z => q z.1)
  have w2 : ∀ a j, a ≠ 150 → g2 a j = up g1 157 32 y1 a j := fun a j q => k2 a j (fun z => q z.1)
  have w1 : ∀ a j, a ≠ 150 → g1 a j = f a j := fun a j q => by rw [k1 a j (fun z => q z.1), k0 a j (fun z => q z.1)]
  refine Wp_some ⟨MZ_k z5 (fun a j q => up_n (by omega)), fun a j q => ?_, fun hok => ?_⟩
  · unfold Se at q
    rw [up_n (by omega), k5 a j (by unfold K2; omega), up_n (by omega), k4 a j (by unfold K2; omega), up_n (by omega), k3 a j (by unfold K2; omega), up_n (by omega), k2 a j (by unfold K2; omega), up_n (by omega), k1 a j (by unfold K2; omega), k0 a j (by unfold K2; omega)]
  · have o4 := nam_k hok
    have o3 := nam_k o4
    have o2 := nam_k o3
    have o1 := nam_k o2
    have e1 : y1 = vlS T n 100002 (b0S T n σ) := by rw [v1]; exact if_pos o1
    have e2 : y2 = vlS T n 100003 (b1S T n σ) := by rw [v2]; exact if_pos o2
    have e3 : y3 = vlS T n 100003 (b2S T n σ) := by rw [v3]; exact if_pos o3
    have e4 : y4 = vlS T n 100004 (b3S T n σ) := by rw [v4]; exact if_pos o4
    have e5 : y5 = vlS T n 100005 (b4S T n σ) := by rw [v5]; exact if_pos hok
    have nk : nK (brD T n σ D) = 0 := by unfold nK brD; rw [up_n (by omega), up_n (by omega), up_n (by omega), up_n (by omega), up_n (by omega)]; exact hK
    have nc : nC (brD T n σ D) = 0 := by unfold nC brD; rw [up_n (by omega), up_n (by omega), up_n (by omega), up_n (by omega), up_n (by omega)]; exact hC
    obtain ⟨⟨d1, d2, d3, d4, d5, d6, d7, d8, d9⟩, d10, d11⟩ := hD
    have base : ∀ a j, a ≠ 150 → ¬ (a = 157 ∧ 32 ≤ j ∧ j ≤ 36) → up g5 157 36 y5 a j = f a j := fun a j q q2 => by
      rw [up_n (by omega), w5 a j q, up_n (by omega), w4 a j q, up_n (by omega), w3 a j q, up_n (by omega), w2 a j q, up_n (by omega), w1 a j q]
    refine ⟨⟨?_, ?_, ?_, ?_, ?_, ?_, ?_, ?_, ?_⟩, fun d hd => by omega, fun c hc => by omega⟩
    · rw [base 156 4 (by omega) (by omega), d1]; unfold brD; rw [up_n (by omega), up_n (by omega), up_n (by omega), up_n (by omega), up_n (by omega)]
    · rw [up_n (by omega), w5 157 32 (by omega), up_n (by omega), w4 157 32 (by omega), up_n (by omega), w3 157 32 (by omega), up_n (by omega), w2 157 32 (by omega), up_s, e1]; unfold brD; rw [up_n (by omega), up_n (by omega), up_n (by omega), up_n (by omega), up_s]
    · rw [up_n (by omega), w5 157 33 (by omega), up_n (by omega), w4 157 33 (by omega), up_n (by omega), w3 157 33 (by omega), up_s, e2]; unfold brD; rw [up_n (by omega), up_n (by omega), up_n (by omega), up_s]
    · rw [up_n (by omega), w5 157 34 (by omega), up_n (by omega), w4 157 34 (by omega), up_s, e3]; unfold brD; rw [up_n (by omega), up_n (by omega), up_s]
    · rw [up_n (by omega), w5 157 35 (by omega), up_s, e4]; unfold brD; rw [up_n (by omega), up_s]
    · rw [up_s, e5]; unfold brD; rw [up_s]
    · rw [base 157 37 (by omega) (by omega), d7]; unfold brD; rw [up_n (by omega), up_n (by omega), up_n (by omega), up_n (by omega), up_n (by omega)]
    · rw [base 157 38 (by omega) (by omega), d8]; unfold brD; rw [up_n (by omega), up_n (by omega), up_n (by omega), up_n (by omega), up_n (by omega)]
    · rw [base 157 39 (by omega) (by omega), d9]
theorem givesHere_M {T : Nat → Int} {n : Nat} (hn : n ≤ 800) {σ : Int × Int × Nat} {f : Mm} (h : MZ T n σ f) : Wp (FX11_givesHere f) (fun p => MZ T n (gvS T n σ) p.2 ∧ Kp K2 f p.2 ∧ ((gvS T n σ).1 = 0 → p.1 = gvV T n σ)) := by
  have h21 : ¬ (σ.1 = 0 ∧ wI T n 100009 σ.2.2 = true) → Wp (FX11_givesHere_21 f) (fun p => MZ T n (gvS T n σ) p.2 ∧ Kp K2 f p.2 ∧ ((gvS T n σ).1 = 0 → p.1 = gvV T n σ)) := by
    intro q
    have eg : gvS T n σ = nam T n 100010 0 30 σ := by unfold gvS; rw [if_neg q]
    unfold FX11_givesHere_21 FX11_givesHere_22 FX11_givesHere_34
    rw [if_pos (show (0 : Int) = 0 from rfl)]
    refine Wp_bind (asks_M hn h (a := 100010) rfl rfl) (fun g0 ⟨z0, k0⟩ => ?_)
    refine Wp_b2 (number_M hn z0 0 30) (fun y g1 ⟨z1, k1, v1⟩ => ?_)
    simp only at z1 k1 v1
    rw [if_pos (show (0 : Int) = 0 from rfl)]
    refine Wp_some ⟨by rw [eg]; exact z1, Kp_t k0 k1, fun w => ?_⟩
    rw [eg] at w
    show y = _
    rw [v1]
    have hw : ¬ wI T n 100009 σ.2.2 = true := fun z => q ⟨nam_k w, z⟩
    unfold gvV
    rw [if_neg hw]
    exact if_pos w
  unfold FX11_givesHere FX11_givesHere_0
  by_cases q0 : σ.1 = 0
  · rw [if_pos (by rw [h.2.1]; exact q0)]
    unfold FX11_takes FX11_takes_0
    rw [isM h (a := 100009) rfl (w := 10656676) rfl, b2_some]
    by_cases q : σ.1 = 0 ∧ wI T n 100009 σ.2.2 = true
    · have eg : gvS T n σ = nam T n 100009 0 30 σ := by unfold gvS; rw [if_pos q]
      have es : skS T n 100009 σ = (0, σ.2.1, nxt T n σ.2.2) := by unfold skS; rw [if_pos q.1, if_pos q.2]
      rw [if_pos q, if_neg (show ¬ (1 : Int) = 0 by decide)]
      obtain ⟨g0, e0, z0, k0⟩ := nextM_ok hn h q.1
      rw [← es] at z0
      rw [e0]
      simp only [Option.bind_some]
      rw [b2_some, if_neg (show ¬ (1 : Int) = 0 by decide)]
      unfold FX11_givesHere_22 FX11_givesHere_34
      rw [if_neg (show ¬ (1 : Int) = 0 by decide)]
      refine Wp_b2 (number_M hn z0 0 30) (fun y g1 ⟨z1, k1, v1⟩ => ?_)
      simp only at z1 k1 v1
      rw [if_neg (show ¬ (1 : Int) = 0 by decide)]
      refine Wp_some ⟨by rw [eg]; exact z1, Kp_t k0 k1, fun w => ?_⟩
      rw [eg] at w
      have hb := nam_v w
      have ey : y = vlS T n 100009 σ := by rw [v1]; exact if_pos w
      show w32 (-y) = _
      rw [ey, w32s (by omega) (by omega)]
      unfold gvV
      rw [if_pos q.2]
    · rw [if_neg q, if_pos (show (0 : Int) = 0 from rfl), b2_some, if_pos (show (0 : Int) = 0 from rfl)]
      exact h21 q
  · rw [if_neg (by rw [h.2.1]; exact q0)]
    exact h21 (fun z => q0 z.1)
theorem deedLine_M {T : Nat → Int} {n : Nat} (hn : n ≤ 800) {σ : Int × Int × Nat} {f : Mm} (h : MZ T n (e0S T n σ) f) {D : Mm} (hD : MD D f) (hK : nK D < 4) (hKe : D 0 5 = (nK D : Int)) :
    Wp (FX11_deedLine f) (fun g => MZ T n (e4S T n σ) g ∧ Kp Se f g ∧ ((e4S T n σ).1 = 0 → MD (deD T n σ D) g)) := by
  obtain ⟨⟨d1, d2, d3, d4, d5, d6, d7, d8, d9⟩, d10, d11⟩ := hD
  unfold FX11_deedLine FX11_deedLine_0
  have hr := hasRead_w 5 (by decide) f
  rw [show FX11_hasRead 5 f = some (f 157 37, f) from hr, b2_some, d7, hKe]
  generalize hk : nK D = k at *
  rw [w32n (x := 16 + (k : Int)) (n := 16 + k) (by omega) (by omega), w32n (x := 4 * ((16 + k : Nat) : Int)) (n := 64 + 4 * k) (by omega) (by omega), w32n (x := ((64 + 4 * k : Nat) : Int) + 1) (n := 64 + 4 * k + 1) (by omega) (by omega), w32n (x := ((64 + 4 * k : Nat) : Int) + 2) (n := 64 + 4 * k + 2) (by omega) (by omega), w32n (x := ((64 + 4 * k : Nat) : Int) + 3) (n := 64 + 4 * k + 3) (by omega) (by omega)]
  simp only [Int.toNat_natCast]
  refine Wp_b2 (num_M hn h (a := 100007) rfl rfl 0 1) (fun y1 g1 ⟨z1, k1, v1⟩ => ?_)
  simp only at z1 k1 v1
  rw [if_pos (by omega)]
  refine Wp_b2 (num_M hn (MZ_k (g := up g1 158 (64 + 4 * k) y1) z1 (fun a j q => up_n (by omega))) (a := 100008) rfl rfl 0 99) (fun y2 g2 ⟨z2, k2, v2⟩ => ?_)
  simp only at z2 k2 v2
  rw [if_pos (by omega)]
  refine Wp_b2 (givesHere_M hn (MZ_k (g := up g2 158 (64 + 4 * k + 1) y2) z2 (fun a j q => up_n (by omega)))) (fun y3 g3 ⟨z3, k3, v3⟩ => ?_)
  simp only at z3 k3 v3
  rw [if_pos (by omega)]
  refine Wp_b2 (givesHere_M hn (MZ_k (g := up g3 158 (64 + 4 * k + 2) y3) z3 (fun a j q => up_n (by omega)))) (fun y4 g4 ⟨z4, k4, v4⟩ => ?_)
  simp only at z4 k4 v4
  rw [if_pos (by omega)]
  have w4 : ∀ a j, a ≠ 150 → g4 a j = up g3 158 (64 + 4 * k + 2) y3 a j := fun a j q => k4 a j (fun z => q z.1)
  have w3 : ∀ a j, a ≠ 150 → g3 a j = up g2 158 (64 + 4 * k + 1) y2 a j := fun a j q => k3 a j (fun z => q z.1)
  have w2 : ∀ a j, a ≠ 150 → g2 a j = up g1 158 (64 + 4 * k) y1 a j := fun a j q => k2 a j (fun z => q z.1)
  have w1 : ∀ a j, a ≠ 150 → g1 a j = f a j := fun a j q => k1 a j (fun z => q z.1)
  have base : ∀ a j, a ≠ 150 → ¬ (a = 158 ∧ 64 + 4 * k ≤ j ∧ j ≤ 64 + 4 * k + 3) → up g4 158 (64 + 4 * k + 3) y4 a j = f a j := fun a j q q2 => by
    rw [up_n (by omega), w4 a j q, up_n (by omega), w3 a j q, up_n (by omega), w2 a j q, up_n (by omega), w1 a j q]
  have hr2 := hasRead_w 5 (by decide) (up g4 158 (64 + 4 * k + 3) y4)
  rw [show FX11_hasRead 5 (up g4 158 (64 + 4 * k + 3) y4) = some (up g4 158 (64 + 4 * k + 3) y4 157 37, up g4 158 (64 + 4 * k + 3) y4) from hr2, b2_some, base 157 37 (by omega) (by omega), d7, hKe, w32s (by omega) (by omega)]
  have ht := tells_w 5 (by decide) ((k : Int) + 1) (up g4 158 (64 + 4 * k + 3) y4)
  rw [show FX11_tells 5 ((k : Int) + 1) (up g4 158 (64 + 4 * k + 3) y4) = some (up (up g4 158 (64 + 4 * k + 3) y4) 157 37 ((k : Int) + 1)) from ht]
  simp only [Option.bind_some]
  refine Wp_some ⟨MZ_k z4 (fun a j q => by rw [up_n (by omega), up_n (by omega)]), fun a j q => ?_, fun hok => ?_⟩
  · unfold Se at q
    rw [up_n (by omega), up_n (by omega), k4 a j (by unfold K2; omega), up_n (by omega), k3 a j (by unfold K2; omega), up_n (by omega), k2 a j (by unfold K2; omega), up_n (by omega), k1 a j (by unfold K2; omega)]
  · have o3 := gvS_k hok
    have o2 := gvS_k o3
    have o1 := nam_k o2
    have e1 : y1 = vlS T n 100007 (e0S T n σ) := by rw [v1]; exact if_pos o1
    have e2 : y2 = vlS T n 100008 (e1S T n σ) := by rw [v2]; exact if_pos o2
    have e3 : y3 = gvV T n (e2S T n σ) := v3 o3
    have e4 : y4 = gvV T n (e3S T n σ) := v4 hok
    have nk : nK (deD T n σ D) = k + 1 := by unfold nK deD; rw [up_s, hk]; omega
    have nc : nC (deD T n σ D) = nC D := by unfold nC deD; rw [hk, up_n (by omega), up_n (by omega), up_n (by omega), up_n (by omega), up_n (by omega)]
    have dR : ∀ j, j ≠ 5 → deD T n σ D 0 j = D 0 j := fun j q => by unfold deD; rw [hk, up_n (by omega), up_n (by omega), up_n (by omega), up_n (by omega), up_n (by omega)]
    have d5' : deD T n σ D 0 5 = (k : Int) + 1 := by unfold deD; rw [up_s, hk]
    have dO' : ∀ a j, a ≠ 0 → a ≠ 10 + k → deD T n σ D a j = D a j := fun a j q1 q2 => by unfold deD; rw [hk, up_n (by omega), up_n (by omega), up_n (by omega), up_n (by omega), up_n (by omega)]
    refine ⟨⟨?_, ?_, ?_, ?_, ?_, ?_, ?_, ?_, ?_⟩, fun d hd j hj => ?_, fun c hc j hj => ?_⟩
    · rw [up_n (by omega), base 156 4 (by omega) (by omega), d1, dR 8 (by omega)]
    · rw [up_n (by omega), base 157 32 (by omega) (by omega), d2, dR 0 (by omega)]
    · rw [up_n (by omega), base 157 33 (by omega) (by omega), d3, dR 1 (by omega)]
    · rw [up_n (by omega), base 157 34 (by omega) (by omega), d4, dR 2 (by omega)]
    · rw [up_n (by omega), base 157 35 (by omega) (by omega), d5, dR 3 (by omega)]
    · rw [up_n (by omega), base 157 36 (by omega) (by omega), d6, dR 4 (by omega)]
    · rw [up_s, d5']
    · rw [up_n (by omega), base 157 38 (by omega) (by omega), d8, dR 6 (by omega)]
    · rw [up_n (by omega), base 157 39 (by omega) (by omega), d9]
    · rw [nk] at hd
      by_cases q : d = k
      · subst q
        unfold deD
        rw [hk]
        rcases (show j = 0 ∨ j = 1 ∨ j = 2 ∨ j = 3 by omega) with rfl | rfl | rfl | rfl
        · rw [up_n (by omega), up_n (by omega), w4 _ _ (by omega), up_n (by omega), w3 _ _ (by omega), up_n (by omega), w2 _ _ (by omega), Nat.add_zero, up_s, e1, up_n (by omega), up_n (by omega), up_n (by omega), up_n (by omega), up_s]
        · rw [up_n (by omega), up_n (by omega), w4 _ _ (by omega), up_n (by omega), w3 _ _ (by omega), up_s, e2, up_n (by omega), up_n (by omega), up_n (by omega), up_s]
        · rw [up_n (by omega), up_n (by omega), w4 _ _ (by omega), up_s, e3, up_n (by omega), up_n (by omega), up_s]
        · rw [up_n (by omega), up_s, e4, up_n (by omega), up_s]
      · rw [dO' (10 + d) j (by omega) (by omega), up_n (by omega), base 158 (64 + 4 * d + j) (by omega) (by omega)]
        exact d10 d (by omega) j hj
    · rw [nc] at hc
      rw [up_n (by omega), base 159 (120 + 5 * c + j) (by omega) (by omega), d11 c hc j hj, dO' (20 + c) j (by omega) (by omega)]
theorem cartLine_M {T : Nat → Int} {n : Nat} (hn : n ≤ 800) {σ : Int × Int × Nat} {f : Mm} (h : MZ T n (c0S T n σ) f) {D : Mm} (hD : MD D f) (hC : nC D < 6) (hCe : D 0 6 = (nC D : Int)) (hK : nK D ≤ 4) :
    Wp (FX11_cartLine f) (fun g => MZ T n (c5S T n σ) g ∧ Kp Se f g ∧ ((c5S T n σ).1 = 0 → MD (caD T n σ D) g)) := by
  obtain ⟨⟨d1, d2, d3, d4, d5, d6, d7, d8, d9⟩, d10, d11⟩ := hD
  unfold FX11_cartLine FX11_cartLine_0
  have hr := hasRead_w 6 (by decide) f
  rw [show FX11_hasRead 6 f = some (f 157 38, f) from hr, b2_some, d8, hCe]
  generalize hk : nC D = k at *
  rw [w32n (x := 24 + (k : Int)) (n := 24 + k) (by omega) (by omega), w32n (x := 5 * ((24 + k : Nat) : Int)) (n := 120 + 5 * k) (by omega) (by omega), w32n (x := ((120 + 5 * k : Nat) : Int) + 1) (n := 120 + 5 * k + 1) (by omega) (by omega), w32n (x := ((120 + 5 * k : Nat) : Int) + 2) (n := 120 + 5 * k + 2) (by omega) (by omega), w32n (x := ((120 + 5 * k : Nat) : Int) + 3) (n := 120 + 5 * k + 3) (by omega) (by omega), w32n (x := ((120 + 5 * k : Nat) : Int) + 4) (n := 120 + 5 * k + 4) (by omega) (by omega)]
  simp only [Int.toNat_natCast]
  refine Wp_b2 (num_M hn h (a := 100012) rfl rfl 0 1) (fun y1 g1 ⟨z1, k1, v1⟩ => ?_)
  simp only at z1 k1 v1
  rw [if_pos (by omega)]
  refine Wp_b2 (num_M hn (MZ_k (g := up g1 159 (120 + 5 * k) y1) z1 (fun a j q => up_n (by omega))) (a := 100013) rfl rfl 1 40) (fun y2 g2 ⟨z2, k2, v2⟩ => ?_)
  simp only at z2 k2 v2
  rw [if_pos (by omega)]
  refine Wp_b2 (num_M hn (MZ_k (g := up g2 159 (120 + 5 * k + 1) y2) z2 (fun a j q => up_n (by omega))) (a := 100014) rfl rfl 0 9) (fun y3 g3 ⟨z3, k3, v3⟩ => ?_)
  simp only at z3 k3 v3
  rw [if_pos (by omega)]
  refine Wp_b2 (num_M hn (MZ_k (g := up g3 159 (120 + 5 * k + 2) y3) z3 (fun a j q => up_n (by omega))) (a := 100015) rfl rfl 0 9) (fun y4 g4 ⟨z4, k4, v4⟩ => ?_)
  simp only at z4 k4 v4
  rw [if_pos (by omega)]
  refine Wp_b2 (num_M hn (MZ_k (g := up g4 159 (120 + 5 * k + 3) y4) z4 (fun a j q => up_n (by omega))) (a := 100016) rfl rfl 0 999) (fun y5 g5 ⟨z5, k5, v5⟩ => ?_)
  simp only at z5 k5 v5
  rw [if_pos (by omega)]
  have w5 : ∀ a j, a ≠ 150 → g5 a j = up g4 159 (120 + 5 * k + 3) y4 a j := fun a j q => k5 a j (fun z => q z.1)
  have w4 : ∀ a j, a ≠ 150 → g4 a j = up g3 159 (120 + 5 * k + 2) y3 a j := fun a j q => k4 a j (fun z => q z.1)
  have w3 : ∀ a j, a ≠ 150 → g3 a j = up g2 159 (120 + 5 * k + 1) y2 a j := fun a j q => k3 a j (fun z => q z.1)
  have w2 : ∀ a j, a ≠ 150 → g2 a j = up g1 159 (120 + 5 * k) y1 a j := fun a j q => k2 a j (fun z => q z.1)
  have w1 : ∀ a j, a ≠ 150 → g1 a j = f a j := fun a j q => k1 a j (fun z => q z.1)
  have base : ∀ a j, a ≠ 150 → ¬ (a = 159 ∧ 120 + 5 * k ≤ j ∧ j ≤ 120 + 5 * k + 4) → up g5 159 (120 + 5 * k + 4) y5 a j = f a j := fun a j q q2 => by
    rw [up_n (by omega), w5 a j q, up_n (by omega), w4 a j q, up_n (by omega), w3 a j q, up_n (by omega), w2 a j q, up_n (by omega), w1 a j q]
  have hr2 := hasRead_w 6 (by decide) (up g5 159 (120 + 5 * k + 4) y5)
  rw [show FX11_hasRead 6 (up g5 159 (120 + 5 * k + 4) y5) = some (up g5 159 (120 + 5 * k + 4) y5 157 38, up g5 159 (120 + 5 * k + 4) y5) from hr2, b2_some, base 157 38 (by omega) (by omega), d8, hCe, w32s (by omega) (by omega)]
  have ht := tells_w 6 (by decide) ((k : Int) + 1) (up g5 159 (120 + 5 * k + 4) y5)
  rw [show FX11_tells 6 ((k : Int) + 1) (up g5 159 (120 + 5 * k + 4) y5) = some (up (up g5 159 (120 + 5 * k + 4) y5) 157 38 ((k : Int) + 1)) from ht]
  simp only [Option.bind_some]
  refine Wp_some ⟨MZ_k z5 (fun a j q => by rw [up_n (by omega), up_n (by omega)]), fun a j q => ?_, fun hok => ?_⟩
  · unfold Se at q
    rw [up_n (by omega), up_n (by omega), k5 a j (by unfold K2; omega), up_n (by omega), k4 a j (by unfold K2; omega), up_n (by omega), k3 a j (by unfold K2; omega), up_n (by omega), k2 a j (by unfold K2; omega), up_n (by omega), k1 a j (by unfold K2; omega)]
  · have o4 := nam_k hok
    have o3 := nam_k o4
    have o2 := nam_k o3
    have o1 := nam_k o2
    have e1 : y1 = vlS T n 100012 (c0S T n σ) := by rw [v1]; exact if_pos o1
    have e2 : y2 = vlS T n 100013 (c1S T n σ) := by rw [v2]; exact if_pos o2
    have e3 : y3 = vlS T n 100014 (c2S T n σ) := by rw [v3]; exact if_pos o3
    have e4 : y4 = vlS T n 100015 (c3S T n σ) := by rw [v4]; exact if_pos o4
    have e5 : y5 = vlS T n 100016 (c4S T n σ) := by rw [v5]; exact if_pos hok
    have nc : nC (caD T n σ D) = k + 1 := by unfold nC caD; rw [up_s, hk]; omega
    have nk : nK (caD T n σ D) = nK D := by unfold nK caD; rw [hk, up_n (by omega), up_n (by omega), up_n (by omega), up_n (by omega), up_n (by omega), up_n (by omega)]
    have dR : ∀ j, j ≠ 6 → caD T n σ D 0 j = D 0 j := fun j q => by unfold caD; rw [hk, up_n (by omega), up_n (by omega), up_n (by omega), up_n (by omega), up_n (by omega), up_n (by omega)]
    have d6' : caD T n σ D 0 6 = (k : Int) + 1 := by unfold caD; rw [up_s, hk]
    have dO' : ∀ a j, a ≠ 0 → a ≠ 20 + k → caD T n σ D a j = D a j := fun a j q1 q2 => by unfold caD; rw [hk, up_n (by omega), up_n (by omega), up_n (by omega), up_n (by omega), up_n (by omega), up_n (by omega)]
    refine ⟨⟨?_, ?_, ?_, ?_, ?_, ?_, ?_, ?_, ?_⟩, fun d hd j hj => ?_, fun c hc j hj => ?_⟩
    · rw [up_n (by omega), base 156 4 (by omega) (by omega), d1, dR 8 (by omega)]
    · rw [up_n (by omega), base 157 32 (by omega) (by omega), d2, dR 0 (by omega)]
    · rw [up_n (by omega), base 157 33 (by omega) (by omega), d3, dR 1 (by omega)]
    · rw [up_n (by omega), base 157 34 (by omega) (by omega), d4, dR 2 (by omega)]
    · rw [up_n (by omega), base 157 35 (by omega) (by omega), d5, dR 3 (by omega)]
    · rw [up_n (by omega), base 157 36 (by omega) (by omega), d6, dR 4 (by omega)]
    · rw [up_n (by omega), base 157 37 (by omega) (by omega), d7, dR 5 (by omega)]
    · rw [up_s, d6']
    · rw [up_n (by omega), base 157 39 (by omega) (by omega), d9]
    · rw [nk] at hd
      rw [up_n (by omega), base 158 (64 + 4 * d + j) (by omega) (by omega), d10 d hd j hj, dO' (10 + d) j (by omega) (by omega)]
    · rw [nc] at hc
      by_cases q : c = k
      · subst q
        unfold caD
        rw [hk]
        rcases (show j = 0 ∨ j = 1 ∨ j = 2 ∨ j = 3 ∨ j = 4 by omega) with rfl | rfl | rfl | rfl | rfl
        · rw [up_n (by omega), up_n (by omega), w5 _ _ (by omega), up_n (by omega), w4 _ _ (by omega), up_n (by omega), w3 _ _ (by omega), up_n (by omega), w2 _ _ (by omega), Nat.add_zero, up_s, e1, up_n (by omega), up_n (by omega), up_n (by omega), up_n (by omega), up_n (by omega), up_s]
        · rw [up_n (by omega), up_n (by omega), w5 _ _ (by omega), up_n (by omega), w4 _ _ (by omega), up_n (by omega), w3 _ _ (by omega), up_s, e2, up_n (by omega), up_n (by omega), up_n (by omega), up_n (by omega), up_s]
        · rw [up_n (by omega), up_n (by omega), w5 _ _ (by omega), up_n (by omega), w4 _ _ (by omega), up_s, e3, up_n (by omega), up_n (by omega), up_n (by omega), up_s]
        · rw [up_n (by omega), up_n (by omega), w5 _ _ (by omega), up_s, e4, up_n (by omega), up_n (by omega), up_s]
        · rw [up_n (by omega), up_s, e5, up_n (by omega), up_s]
      · rw [dO' (20 + c) j (by omega) (by omega), up_n (by omega), base 159 (120 + 5 * c + j) (by omega) (by omega)]
        exact d11 c (by omega) j hj

/-! bridge: both -/
def B0 : Mm := fun _ _ => 0
theorem WF_0 : WF B0 := by
  have e : ∀ a j, B0 a j = 0 := fun _ _ => rfl
  refine ⟨⟨Int.le_refl _, by decide⟩, ⟨Int.le_refl _, by decide⟩, ⟨Int.le_refl _, by decide⟩, ⟨Int.le_refl _, by decide⟩, ⟨Int.le_refl _, by decide⟩, ⟨Int.le_refl _, by decide⟩, ⟨Int.le_refl _, by decide⟩, ⟨Int.le_refl _, by decide⟩, ⟨Int.le_refl _, by decide⟩, ⟨fun h => absurd h (Int.lt_irrefl _), fun h => absurd h (Int.lt_irrefl _), fun h => absurd h (Int.lt_irrefl _), fun h => absurd h (Int.lt_irrefl _)⟩, fun d hd => absurd hd (Nat.not_lt_zero d), fun d hd => absurd hd (Nat.not_lt_zero d), fun d hd => absurd hd (Nat.not_lt_zero d)⟩
def CEb (b : Nat) (f : Mm) : Prop := ∀ j, j < 7 → f b j = 0
def s0S (T : Nat → Int) (n : Nat) : Int × Int × Nat := (0, -1, endp blk T n 0)
def RS (T : Nat → Int) (n : Nat) : (Int × Int × Nat) × Mm := rdS T n (n + 1) (s0S T n, B0)
theorem rdS_0 {T : Nat → Int} {n : Nat} : ∀ (k : Nat) (σ : Int × Int × Nat) (D : Mm), (rdS T n k (σ, D)).2 = D ∨ D 0 8 < (rdS T n k (σ, D)).2 0 8
  | 0, _, _ => Or.inl rfl
  | k + 1, σ, D => by
    have er : rdS T n (k + 1) (σ, D) = if σ.1 = 0 ∧ tkd T n σ.2.2 ≠ 0 then rdS T n k (sgS T n (lnS T n σ D), nxD T n σ D) else (σ, D) := rfl
    rw [er]
    by_cases c : σ.1 = 0 ∧ tkd T n σ.2.2 ≠ 0
    · rw [if_pos c]
      right
      have e8 : nxD T n σ D 0 8 = D 0 8 + 1 := by unfold nxD; rw [up_s]
      rcases rdS_0 (T := T) (n := n) k (sgS T n (lnS T n σ D)) (nxD T n σ D) with h | h
      · rw [h]; omega
      · omega
    · rw [if_neg c]; exact Or.inl rfl
theorem DI_0 (T : Nat → Int) (n : Nat) : DI n (s0S T n) B0 := fun _ => ⟨WF_0, rfl, fun _ => ⟨rfl, rfl⟩, by show (0 : Int) ≤ ((endp blk T n 0 : Nat) : Int); omega, (endp_b (c := blk) (T := T) (Nat.zero_le n)).2, rfl⟩
theorem RS_I (T : Nat → Int) {n : Nat} (hn : n ≤ 800) : DI n (RS T n).1 (RS T n).2 := rdS_I hn _ _ _ (DI_0 T n)
def Sbc (a j : Nat) : Prop := a = 1 ∨ (a = 2 ∧ j = 1) ∨ (4 ≤ a ∧ a ≤ 37) ∨ (a = 57 ∧ j = 0)
theorem readAll_C {T : Nat → Int} {n : Nat} (hn : n ≤ 800) {f : Mm} (ht : TPc T n f) : Wp (FX4_readAll_1_21 f) (fun g => CZ T n (RS T n).1 g ∧ Kp Sd f g ∧ ((RS T n).1.1 = 0 → CD (RS T n).2 g)) := by
  unfold FX4_readAll_1_21 FX4_readAll_1_21_0 FX0_clear_21 FX0_clear_21_0 FX0_takeAllBack_21 FX0_takeAllBack_21_0
  have k0 : Kp Sd f (up (up (up f 1 0 0) 1 1 (-1)) 1 5 0) := Kp_u (Kp_u (Kp_u (Kp_r _ _) (by unfold Sd; omega)) (by unfold Sd; omega)) (by unfold Sd; omega)
  have v0 : up (up (up f 1 0 0) 1 1 (-1)) 1 5 0 1 0 = 0 := by rw [up_n (by omega), up_n (by omega), up_s]
  have v1 : up (up (up f 1 0 0) 1 1 (-1)) 1 5 0 1 1 = -1 := by rw [up_n (by omega), up_s]
  have v5 : up (up (up f 1 0 0) 1 1 (-1)) 1 5 0 1 5 = 0 := by rw [up_s]
  generalize up (up (up f 1 0 0) 1 1 (-1)) 1 5 0 = g0 at *
  have k1 : Kp (fun a _ => a = 21) g0 (up (up (up (up (up (up (up g0 21 0 0) 21 1 0) 21 2 0) 21 3 0) 21 4 0) 21 5 0) 21 6 0) := Kp_u (Kp_u (Kp_u (Kp_u (Kp_u (Kp_u (Kp_u (Kp_r _ _) (by omega)) (by omega)) (by omega)) (by omega)) (by omega)) (by omega)) (by omega)
  have w0 : ∀ j, j < 7 → up (up (up (up (up (up (up g0 21 0 0) 21 1 0) 21 2 0) 21 3 0) 21 4 0) 21 5 0) 21 6 0 21 j = 0 := fun j hj => by
    rcases (show j = 0 ∨ j = 1 ∨ j = 2 ∨ j = 3 ∨ j = 4 ∨ j = 5 ∨ j = 6 by omega) with rfl | rfl | rfl | rfl | rfl | rfl | rfl
    · rw [up_n (by omega), up_n (by omega), up_n (by omega), up_n (by omega), up_n (by omega), up_n (by omega), up_s]
    · rw [up_n (by omega), up_n (by omega), up_n (by omega), up_n (by omega), up_n (by omega), up_s]
    · rw [up_n (by omega), up_n (by omega), up_n (by omega), up_n (by omega), up_s]
    · rw [up_n (by omega), up_n (by omega), up_n (by omega), up_s]
    · rw [up_n (by omega), up_n (by omega), up_s]
    · rw [up_n (by omega), up_s]
    · rw [up_s]
  generalize up (up (up (up (up (up (up g0 21 0 0) 21 1 0) 21 2 0) 21 3 0) 21 4 0) 21 5 0) 21 6 0 = g1 at *
  have hcl : Wp (FX0_takeAllBack_21_7 fu 0 g1) (fun g => Kp (fun a _ => a = 35) g1 g ∧ ∀ d, d < 6 → g 35 d = -1) := by
    refine forX (fun n x (s : Mm) => FX0_takeAllBack_21_7 n x s) (fun i s => Kp (fun a _ => a = 35) g1 s ∧ ∀ d, d < i → s 35 d = -1) _ 6 ?_ ?_ fu 0 g1 ⟨Kp_r _ _, fun d hd => by omega⟩ (by omega) (by have := fub; omega)
    · rintro n s ⟨a1, a2⟩
      rw [FX0_takeAllBack_21_7, if_pos (by omega)]
      exact Wp_some ⟨a1, a2⟩
    · rintro n i s hi ⟨a1, a2⟩
      left
      rw [FX0_takeAllBack_21_7, if_neg (by omega), if_pos (by omega), nx i (by omega), Int.toNat_natCast]
      refine ⟨_, rfl, Kp_u a1 rfl, fun d hd => ?_⟩
      by_cases q : d = i
      · subst q; rw [up_s]
      · rw [up_n (by omega)]; exact a2 d (by omega)
  obtain ⟨g2, e2, k2, d2⟩ := hcl
  rw [e2]
  simp only [Option.bind_some]
  have kk : Kp Sd f g2 := Kp_t k0 (Kp_t (Kp_m k1 (fun a j h => by unfold Sd; omega)) (Kp_m k2 (fun a j h => by unfold Sd; omega)))
  have ht2 : TPc T n g2 := TPc_k ht (fun a j h1 h2 => kk a j (by unfold Sd; omega))
  have z0 : ∀ j, g2 1 j = g0 1 j := fun j => by rw [k2 1 j (by omega), k1 1 j (by omega)]
  obtain ⟨g3, e3, c3, k3⟩ := next_C hn (Nat.zero_le n) ht2 (by rw [z0]; exact v0) (by rw [z0]; exact v5)
  rw [e3]
  simp only [Option.bind_some]
  have hz : CZ T n (s0S T n) g3 := ⟨TPc_k ht2 (fun a j h1 h2 => k3 a j (by unfold S1c; omega)), by rw [k3 1 0 (by unfold S1c; omega), z0]; exact v0, by rw [k3 1 1 (by unfold S1c; omega), z0]; exact v1, fun _ => c3⟩
  have m3 : ∀ a j, a ≠ 1 → g3 a j = g2 a j := fun a j q => k3 a j (fun z => q z.1)
  have hcd : CD B0 g3 := by
    have y : ∀ j, j < 7 → g3 21 j = 0 := fun j hj => by rw [m3 21 j (by omega), k2 21 j (by omega)]; exact w0 j hj
    exact ⟨⟨y 0 (by omega), y 1 (by omega), y 2 (by omega), y 3 (by omega), y 4 (by omega), y 5 (by omega), y 6 (by omega)⟩, fun h => absurd h (Int.lt_irrefl _), fun d hd => absurd hd (Nat.not_lt_zero d), fun c hc => absurd hc (Nat.not_lt_zero c), fun d hd => by rw [m3 35 d (by omega)]; exact d2 d hd⟩
  refine Wp_mono (readAll_l hn (n + 1) fu 0 (s0S T n) B0 g3 (fun _ => by omega) (by have := fub; omega) (by omega) hz (fun _ => ⟨hcd, rfl⟩) (DI_0 T n)) (fun g ⟨a1, a2, a3⟩ => ⟨a1, Kp_t kk (Kp_t (Kp_m k3 (fun a j h => by unfold S1c at h; unfold Sd; omega)) a2), a3⟩)
theorem bridge_C {T : Nat → Int} {n : Nat} (hn : n ≤ 800) {f : Mm} (ht : TPc T n f) : Wp (FX10_bridge f) (fun p => p.1 = (if (RS T n).1.1 = 0 then (RS T n).2 0 8 else -4) ∧ p.2 1 0 = (RS T n).1.1 ∧ p.2 1 1 = (RS T n).1.2.1 ∧ p.2 2 1 = 0 ∧ Kp Sbc f p.2 ∧ ((RS T n).1.1 = 0 → p.2 57 0 = 0 ∧ (0 < (RS T n).2 0 8 → CT (RS T n).2 p.2) ∧ ((RS T n).2 = B0 → CEb 4 p.2)) ∧ ((RS T n).1.1 ≠ 0 → ∀ a j, (4 ≤ a ∧ a ≤ 20) ∨ a = 57 → p.2 a j = f a j)) := by
  have hI := RS_I T hn
  unfold FX10_bridge FX10_bridge_0
  refine Wp_bind (readAll_C hn ht) (fun g ⟨a1, a2, a3⟩ => ?_)
  generalize RS T n = R at *
  rw [a1.2.1]
  by_cases q : R.1.1 = 0
  · obtain ⟨i1, i2, i3, i4, i5, i6⟩ := hI q
    obtain ⟨⟨d1, d2, d3, d4, d5, d6, d7⟩, d89, d10, d11, d12⟩ := a3 q
    rw [if_pos q, if_pos q]
    refine Wp_bind (become_4_21 (up g 2 1 0)) (fun g2 ⟨b1, b2'⟩ => ?_)
    show Wp (some ((up g2 57 0 0) 4 0, up g2 57 0 0)) _
    have u : ∀ a j, a ≠ 2 → up g 2 1 0 a j = g a j := fun a j z => up_n (by omega)
    have y4 : ∀ j, j < 7 → up g2 57 0 0 4 j = g 21 j := fun j hj => by rw [up_n (by omega), b1.1 j hj, u 21 j (by omega)]
    refine Wp_some ⟨?_, ?_, ?_, ?_, fun a j z => ?_, fun _ => ⟨by show up g2 57 0 0 57 0 = 0; rw [up_s], fun h8 => ?_, fun h8 j hj => ?_⟩, fun z => absurd q z⟩
    · rw [y4 0 (by omega)]; exact d1
    · show up g2 57 0 0 1 0 = _
      rw [up_n (by omega), b2' 1 0 (by omega), u 1 0 (by omega), a1.2.1]
    · show up g2 57 0 0 1 1 = _
      rw [up_n (by omega), b2' 1 1 (by omega), u 1 1 (by omega), a1.2.2.1]
    · show up g2 57 0 0 2 1 = 0
      rw [up_n (by omega), b2' 2 1 (by omega), up_s]
    · unfold Sbc at z
      show up g2 57 0 0 a j = _
      rw [up_n (by omega), b2' a j (by omega), up_n (by omega), a2 a j (by unfold Sd; omega)]
    · have hD0 := i1.2.2.2.2.2.2.2.2.2.1.1 h8
      have hcb : CB 21 R.2 (up g 2 1 0) := by
        have nA0 : nA R.2 = 0 := by unfold nA; rw [i2]; rfl
        refine ⟨⟨by rw [u 21 0 (by omega)]; exact d1, by rw [u 21 1 (by omega)]; exact d2, by rw [u 21 2 (by omega)]; exact d3, by rw [u 21 3 (by omega)]; exact d4, by rw [u 21 4 (by omega)]; exact d5, by rw [u 21 5 (by omega)]; exact d6, by rw [u 21 6 (by omega), i2]; exact d7⟩, ⟨by show up g 2 1 0 22 0 = _; rw [u 22 0 (by omega)]; exact (d89 hD0).1, by show up g 2 1 0 22 1 = _; rw [u 22 1 (by omega)]; exact (d89 hD0).2⟩, fun d hd j hj => ?_, fun c hc j hj => ?_, fun d hd => ?_, fun k hk => by rw [nA0] at hk; exact absurd hk (Nat.not_lt_zero k)⟩
        · show up g 2 1 0 (24 + d) j = _
          rw [u (24 + d) j (by omega)]; exact d10 d hd j hj
        · show up g 2 1 0 (29 + c) j = _
          rw [u (29 + c) j (by omega)]; exact d11 c hc j hj
        · show up g 2 1 0 35 d = _
          rw [u 35 d (by omega), d12 d hd]
          unfold dn
          rw [nA0]
          rfl
      have hcb4 := CB_c i1 hcb b1
      exact CT_k hcb4 (fun a j z => up_n (by omega)) i1
    · show up g2 57 0 0 4 j = 0
      rw [y4 j hj]
      rw [h8] at d1 d2 d3 d4 d5 d6
      rcases (show j = 0 ∨ j = 1 ∨ j = 2 ∨ j = 3 ∨ j = 4 ∨ j = 5 ∨ j = 6 by omega) with rfl | rfl | rfl | rfl | rfl | rfl | rfl
      · exact d1
      · exact d2
      · exact d3
      · exact d4
      · exact d5
      · exact d6
      · exact d7
  · rw [if_neg q, if_neg q]
    have u : ∀ a j, a ≠ 2 → up g 2 1 0 a j = g a j := fun a j z => up_n (by omega)
    refine Wp_some ⟨rfl, ?_, ?_, by show up g 2 1 0 2 1 = 0; rw [up_s], fun a j z => ?_, fun z => absurd z q, fun _ a j z => ?_⟩
    · show up g 2 1 0 1 0 = _
      rw [u 1 0 (by omega), a1.2.1]
    · show up g 2 1 0 1 1 = _
      rw [u 1 1 (by omega), a1.2.2.1]
    · unfold Sbc at z
      show up g 2 1 0 a j = _
      rw [up_n (by omega), a2 a j (by unfold Sd; omega)]
    · show up g 2 1 0 a j = _
      rw [u a j (by omega), a2 a j (by unfold Sd; omega)]
def Sbm (a j : Nat) : Prop := (a = 150 ∧ (j = 0 ∨ (6 ≤ j ∧ j ≤ 15))) ∨ Rw 0 a j ∨ (a = 156 ∧ j = 4) ∨ (a = 157 ∧ 32 ≤ j) ∨ (a = 158 ∧ 64 ≤ j) ∨ (a = 159 ∧ 120 ≤ j)
theorem Sbm_1 {a j : Nat} (h : a = 150 ∧ 6 ≤ j ∧ j ≤ 15) : Sbm a j := Or.inl ⟨h.1, Or.inr h.2⟩
theorem Sbm_0 {a j : Nat} (h : (a = 150 ∧ j = 0) ∨ (a = 156 ∧ j = 4)) : Sbm a j := by
  rcases h with h | h
  · exact Or.inl ⟨h.1, Or.inl h.2⟩
  · exact Or.inr (Or.inr (Or.inl h))
theorem Sbm_e {a j : Nat} (h : Se a j) : Sbm a j := by
  rcases h with h | h | h | h | h
  · exact Or.inl ⟨h.1, Or.inr ⟨by omega, by omega⟩⟩
  · exact Or.inr (Or.inr (Or.inl h))
  · exact Or.inr (Or.inr (Or.inr (Or.inl h)))
  · exact Or.inr (Or.inr (Or.inr (Or.inr (Or.inl h))))
  · exact Or.inr (Or.inr (Or.inr (Or.inr (Or.inr h))))
theorem Rw0_n {a j : Nat} (h : Rw 0 a j) : ¬ Se a j ∧ a ≠ 150 ∧ ¬ (a = 157 ∧ 32 ≤ j ∧ j < 40) ∧ ¬ ((a = 150 ∧ j = 0) ∨ (a = 156 ∧ j = 4)) := by
  unfold Se
  rcases h with ⟨rfl, h⟩ | ⟨rfl, h⟩ | ⟨rfl, h⟩ | ⟨rfl, h⟩ | ⟨rfl, h⟩ <;> omega
theorem bridge_M {T : Nat → Int} {n : Nat} (hn : n ≤ 800) {f : Mm} (ht : TPm T n f) : Wp (FX11_bridge f) (fun p => p.1 = (if (RS T n).1.1 = 0 then (RS T n).2 0 8 else -4) ∧ p.2 150 14 = (RS T n).1.1 ∧ p.2 150 15 = (RS T n).1.2.1 ∧ p.2 150 6 = 0 ∧ Kp Sbm f p.2 ∧ ((RS T n).1.1 = 0 → MO (RS T n).2 p.2) ∧ ((RS T n).1.1 ≠ 0 → ∀ a j, Rw 0 a j → p.2 a j = f a j)) := by
  have hI := RS_I T hn
  unfold FX11_bridge FX11_bridge_0 FX11_clears FX11_clears_0
  have k0 : Kp (fun a j => (a = 150 ∧ j = 0) ∨ (a = 156 ∧ j = 4)) f (up (up f 150 0 0) 156 4 0) := Kp_u (Kp_u (Kp_r _ _) (by omega)) (by omega)
  have v0 : up (up f 150 0 0) 156 4 0 156 4 = 0 := up_s _ _ _ _
  generalize up (up f 150 0 0) 156 4 0 = g0 at *
  have hcl : Wp (FX11_clears_9 fu 0 g0) (fun g => Kp (fun a j => a = 157 ∧ 32 ≤ j ∧ j < 40) g0 g ∧ ∀ d, d < 8 → g 157 (32 + d) = 0) := by
    refine forX (fun n x (s : Mm) => FX11_clears_9 n x s) (fun i s => Kp (fun a j => a = 157 ∧ 32 ≤ j ∧ j < 40) g0 s ∧ ∀ d, d < i → s 157 (32 + d) = 0) _ 8 ?_ ?_ fu 0 g0 ⟨Kp_r _ _, fun d hd => by omega⟩ (by omega) (by have := fub; omega)
    · rintro n s ⟨a1, a2⟩
      rw [FX11_clears_9, if_pos (by omega)]
      exact Wp_some ⟨a1, a2⟩
    · rintro n i s hi ⟨a1, a2⟩
      left
      rw [FX11_clears_9, if_neg (by omega), tells_w i hi 0 s]
      simp only [Option.bind_some]
      rw [nx i (by omega)]
      refine ⟨_, rfl, Kp_u a1 (by omega), fun d hd => ?_⟩
      by_cases q : d = i
      · subst q; rw [up_s]
      · rw [up_n (by omega)]; exact a2 d (by omega)
  obtain ⟨g1, e1, k1, z1⟩ := hcl
  rw [e1]
  simp only [Option.bind_some]
  unfold FX11_begins FX11_begins_0
  have k2 : Kp (fun a j => a = 150 ∧ (j = 7 ∨ j = 12 ∨ j = 13)) g1 (up (up (up g1 150 12 0) 150 13 (-1)) 150 7 0) := Kp_u (Kp_u (Kp_u (Kp_r _ _) (by omega)) (by omega)) (by omega)
  have v12 : up (up (up g1 150 12 0) 150 13 (-1)) 150 7 0 150 12 = 0 := by rw [up_n (by omega), up_n (by omega), up_s]
  have v13 : up (up (up g1 150 12 0) 150 13 (-1)) 150 7 0 150 13 = -1 := by rw [up_n (by omega), up_s]
  have v7 : up (up (up g1 150 12 0) 150 13 (-1)) 150 7 0 150 7 = ((0 : Nat) : Int) := up_s _ _ _ _
  generalize up (up (up g1 150 12 0) 150 13 (-1)) 150 7 0 = g2 at *
  have ht2 : TPm T n g2 := TPm_k ht (by rw [k2 150 6 (by omega), k1 150 6 (by omega), k0 150 6 (by omega)]) (fun j => by rw [k2 155 j (by omega), k1 155 j (by omega), k0 155 j (by omega)])
  obtain ⟨g3, e3, c3, k3⟩ := next_M hn (Nat.zero_le n) ht2 v7
  rw [e3]
  simp only [Option.bind_some]
  have kk : Kp Sbm f g3 := fun a j q => by
    rw [k3 a j (fun z => q (Sbm_1 ⟨z.1, by have := z.2; omega, by have := z.2; omega⟩)), k2 a j (fun z => q (Sbm_1 ⟨z.1, by have := z.2; omega, by have := z.2; omega⟩)), k1 a j (fun z => q (Or.inr (Or.inr (Or.inr (Or.inl ⟨z.1, z.2.1⟩))))), k0 a j (fun z => q (Sbm_0 z))]
  have k30 : ∀ a j, a ≠ 150 → g3 a j = g1 a j := fun a j q => by rw [k3 a j (fun z => q z.1), k2 a j (by omega)]
  have hz : MZ T n (s0S T n) g3 := ⟨TPm_k ht2 (k3 150 6 (by unfold S1m; omega)) (fun j => k3 155 j (by unfold S1m; omega)), by rw [k3 150 12 (by unfold S1m; omega)]; exact v12, by rw [k3 150 13 (by unfold S1m; omega)]; exact v13, fun _ => c3⟩
  have hmd : MD B0 g3 := by
    have y : ∀ d, d < 8 → g3 157 (32 + d) = 0 := fun d hd => by rw [k30 157 _ (by omega)]; exact z1 d hd
    exact ⟨⟨by rw [k30 156 4 (by omega), k1 156 4 (by omega)]; exact v0, y 0 (by omega), y 1 (by omega), y 2 (by omega), y 3 (by omega), y 4 (by omega), y 5 (by omega), y 6 (by omega), y 7 (by omega)⟩, fun d hd => absurd hd (Nat.not_lt_zero d), fun c hc => absurd hc (Nat.not_lt_zero c)⟩
  obtain ⟨g4, e4, a1, a2, a3⟩ := bridge_l hn (n + 1) fu (s0S T n) B0 g3 (fun _ => by omega) (by have := fub; omega) hz (fun _ => hmd) (DI_0 T n)
  have eR : rdS T n (n + 1) (s0S T n, B0) = RS T n := rfl
  rw [eR] at a1 a3
  rw [e4]
  have k4 : Kp Sbm f g4 := Kp_t kk (Kp_m a2 (fun a j h => Sbm_e h))
  have r0 : ∀ a j, Rw 0 a j → g4 a j = f a j := fun a j h => by
    obtain ⟨n1, n2, n3, n4⟩ := Rw0_n h
    rw [a2 a j n1, k30 a j n2, k1 a j n3, k0 a j n4]
  generalize RS T n = R at *
  unfold FX11_bridge_71 FX11_isOver FX11_isOver_0 FX11_isOver_29
  rw [a1.2.1]
  by_cases q : R.1.1 = 0
  · obtain ⟨i1, i2, i3, i4, i5, i6⟩ := hI q
    rw [if_pos q, if_pos q, q]
    simp only [Option.bind_some]
    have u12 : up (up (up g4 150 6 0) 150 14 0) 150 15 (-1) 150 12 = 0 := by rw [up_n (by omega), up_n (by omega), up_n (by omega), a1.2.1, q]
    rw [if_pos u12]
    have k5 : Kp (fun a j => a = 150 ∧ (j = 6 ∨ j = 14 ∨ j = 15)) g4 (up (up (up g4 150 6 0) 150 14 0) 150 15 (-1)) := Kp_u (Kp_u (Kp_u (Kp_r _ _) (by omega)) (by omega)) (by omega)
    have v6 : up (up (up g4 150 6 0) 150 14 0) 150 15 (-1) 150 6 = 0 := by rw [up_n (by omega), up_n (by omega), up_s]
    have v14 : up (up (up g4 150 6 0) 150 14 0) 150 15 (-1) 150 14 = 0 := by rw [up_n (by omega), up_s]
    have v15 : up (up (up g4 150 6 0) 150 14 0) 150 15 (-1) 150 15 = -1 := up_s _ _ _ _
    generalize up (up (up g4 150 6 0) 150 14 0) 150 15 (-1) = g5 at *
    obtain ⟨g6, e6, k6, m6⟩ := copyBridge_W (a := 4) (b := 0) (by decide) (by decide) (by decide) g5
    rw [show FX11_copyBridge 4 0 g5 = some g6 from e6]
    simp only [Option.bind_some]
    have hmo : MO R.2 g6 := MR_O.mp (m6 R.2 i1 (MR_k (MR_D (a3 q) i2) (fun a j h1 h2 => k5 a j (by omega))))
    refine Wp_some ⟨hmo.1.1, ?_, ?_, ?_, ?_, fun _ => hmo, fun z => absurd rfl z⟩
    · show g6 150 14 = 0
      rw [k6 150 14 (by unfold Rw; omega)]; exact v14
    · show g6 150 15 = R.1.2.1
      rw [k6 150 15 (by unfold Rw; omega), i6]; exact v15
    · show g6 150 6 = 0
      rw [k6 150 6 (by unfold Rw; omega)]; exact v6
    · exact Kp_t k4 (Kp_t (Kp_m k5 (fun a j h => Sbm_1 ⟨h.1, by have := h.2; omega, by have := h.2; omega⟩)) (Kp_m k6 (fun a j h => Or.inr (Or.inl h))))
  · rw [if_neg q, if_neg q]
    simp only [Option.bind_some]
    have u12 : up (up (up g4 150 6 0) 150 14 R.1.1) 150 15 (g4 150 13) 150 12 = R.1.1 := by rw [up_n (by omega), up_n (by omega), up_n (by omega), a1.2.1]
    rw [if_neg (by rw [u12]; exact q)]
    refine Wp_some ⟨rfl, ?_, ?_, ?_, ?_, fun z => absurd z q, fun _ a j h => ?_⟩
    · show up (up (up g4 150 6 0) 150 14 R.1.1) 150 15 (g4 150 13) 150 14 = R.1.1
      rw [up_n (by omega), up_s]
    · show up (up (up g4 150 6 0) 150 14 R.1.1) 150 15 (g4 150 13) 150 15 = R.1.2.1
      rw [up_s]; exact a1.2.2.1
    · show up (up (up g4 150 6 0) 150 14 R.1.1) 150 15 (g4 150 13) 150 6 = 0
      rw [up_n (by omega), up_n (by omega), up_s]
    · exact Kp_u (Kp_u (Kp_u k4 (Sbm_1 ⟨rfl, by decide, by decide⟩)) (Sbm_1 ⟨rfl, by decide, by decide⟩)) (Sbm_1 ⟨rfl, by decide, by decide⟩)
    · show up (up (up g4 150 6 0) 150 14 R.1.1) 150 15 (g4 150 13) a j = f a j
      have h' := (Rw0_n h).2.1
      rw [up_n (by omega), up_n (by omega), up_n (by omega)]
      exact r0 a j h

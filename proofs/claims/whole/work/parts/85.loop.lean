/-! all LINES: both loops -/
theorem nam_f {T : Nat → Int} {n a : Nat} {lo hi : Int} {τ : Int × Int × Nat} (q : τ.1 ≠ 0) : nam T n a lo hi τ = τ := by
  unfold nam nuS skS
  rw [if_neg q, if_neg q]
theorem c5S_f {T : Nat → Int} {n : Nat} {σ : Int × Int × Nat} (q0 : (c0S T n σ).1 ≠ 0) : c5S T n σ = c0S T n σ := by
  unfold c5S c4S c3S c2S c1S
  rw [nam_f (τ := c0S T n σ) q0, nam_f (τ := c0S T n σ) q0, nam_f (τ := c0S T n σ) q0, nam_f (τ := c0S T n σ) q0, nam_f (τ := c0S T n σ) q0]
theorem readCart_C {T : Nat → Int} {n : Nat} (hn : n ≤ 800) {σ : Int × Int × Nat} {f : Mm} (h : CZ T n σ f) (h0 : σ.1 = 0) {D : Mm} (hD : CD D f) (hW : WF D) :
    Wp (FX4_readCart_1_21 f) (fun g => CZ T n (if wI T n 100011 σ.2.2 = true then (if nC D < 6 then c5S T n σ else (3, (σ.2.2 : Int), σ.2.2)) else (1, (σ.2.2 : Int), σ.2.2)) g ∧ Kp Sd f g ∧ ((if wI T n 100011 σ.2.2 = true then (if nC D < 6 then c5S T n σ else (3, (σ.2.2 : Int), σ.2.2)) else (1, (σ.2.2 : Int), σ.2.2)).1 = 0 → CD (caD T n σ D) g)) := by
  obtain ⟨hC6, hCe⟩ := WF_C hW
  have hK4 := (WF_K hW).1
  unfold FX4_readCart_1_21 FX4_readCart_1_21_0
  rw [isWord_C hn h h0 (a := 100011) rfl, b2_some, hD.1.2.2.2.2.2.1, hCe]
  by_cases c : wI T n 100011 σ.2.2 = true
  · rw [if_pos c, if_neg (show ¬ (1 : Int) = 0 by decide), if_pos c]
    by_cases c2 : nC D < 6
    · rw [if_pos (by omega), if_pos c2]
      exact readCart23_C hn h hD (fun _ => c2) hCe hK4
    · rw [if_neg (by omega), if_neg c2]
      refine Wp_bind (failC h (k := 3) (by decide)) (fun g ⟨g1, gk⟩ => ?_)
      have ef : faS 3 σ = (3, (σ.2.2 : Int), σ.2.2) := by unfold faS; rw [if_pos h0]
      rw [ef] at g1
      have e0 : c0S T n (3, (σ.2.2 : Int), σ.2.2) = (3, (σ.2.2 : Int), σ.2.2) := by unfold c0S skS; rw [if_neg (show ¬ (3 : Int) = 0 by decide)]
      have hb : (c0S T n (3, (σ.2.2 : Int), σ.2.2)).1 ≠ 0 := by rw [e0]; exact (show (3 : Int) ≠ 0 by decide)
      have e5 : c5S T n (3, (σ.2.2 : Int), σ.2.2) = (3, (σ.2.2 : Int), σ.2.2) := (c5S_f hb).trans e0
      have := readCart23_C hn g1 (CD_k hD ⟨hK4, hC6⟩ (fun a j q1 q2 => gk a j (by unfold K1; omega))) (fun z => absurd z hb) hCe hK4
      rw [e5] at this
      exact Wp_mono this (fun g2 ⟨a1, a2, a3⟩ => ⟨a1, Kp_t (K1_d gk) a2, fun z => absurd z (show (3 : Int) ≠ 0 by decide)⟩)
  · rw [if_neg c, if_pos (show (0 : Int) = 0 from rfl), if_neg c]
    have e0 : c0S T n σ = (1, (σ.2.2 : Int), σ.2.2) := by unfold c0S skS; rw [if_pos h0, if_neg c]
    have hb : (c0S T n σ).1 ≠ 0 := by rw [e0]; exact (show (1 : Int) ≠ 0 by decide)
    have e5 : c5S T n σ = (1, (σ.2.2 : Int), σ.2.2) := (c5S_f hb).trans e0
    have := readCart23_C hn h hD (fun z => absurd z hb) hCe hK4
    rw [e5] at this
    exact Wp_mono this (fun g2 ⟨a1, a2, a3⟩ => ⟨a1, a2, fun z => absurd z (show (1 : Int) ≠ 0 by decide)⟩)
theorem line_C {T : Nat → Int} {n : Nat} (hn : n ≤ 800) {σ : Int × Int × Nat} {f : Mm} (h : CZ T n σ f) (h0 : σ.1 = 0) {D : Mm} (hD : CD D f) (hI : DI n σ D) (K : Mm → Option Mm) :
    ∃ g1, (if D 0 8 = 0 then ((FX4_readBridge_1_21 f).bind K) else (b2 (FX4_isWord 100006 f) fun y1 f1 => (if y1 = 0 then ((FX4_readCart_1_21 f1).bind K) else ((FX4_readDeed_1_21 f1).bind K)))) = K g1 ∧ CZ T n (lnS T n σ D) g1 ∧ Kp Sd f g1 ∧ ((lnS T n σ D).1 = 0 → CD (lnD T n σ D) g1) := by
  obtain ⟨i1, i2, i3, i4, i5, i6⟩ := hI h0
  obtain ⟨hK4, hKe⟩ := WF_K i1
  unfold lnS lnD
  by_cases c1 : D 0 8 = 0
  · simp only [if_pos c1]
    obtain ⟨g1, e1, a1, a2, a3⟩ := readBridge_C hn h hD (i3 c1).1 (i3 c1).2
    rw [e1]
    exact ⟨g1, rfl, a1, a2, a3⟩
  · simp only [if_neg c1]
    rw [isWord_C hn h h0 (a := 100006) rfl, b2_some]
    by_cases c2 : wI T n 100006 σ.2.2 = true
    · simp only [if_pos c2]
      rw [if_neg (show ¬ (1 : Int) = 0 by decide)]
      by_cases c3 : nK D < 4
      · simp only [if_pos c3]
        obtain ⟨g1, e1, a1, a2, a3⟩ := readDeed_C hn h hD c3 hKe
        rw [e1]
        exact ⟨g1, rfl, a1, a2, a3⟩
      · simp only [if_neg c3]
        obtain ⟨g1, e1, a1, a2⟩ := failC h (k := 3) (by decide)
        have ef : faS 3 σ = (3, (σ.2.2 : Int), σ.2.2) := by unfold faS; rw [if_pos h0]
        rw [ef] at a1
        unfold FX4_readDeed_1_21 FX4_readDeed_1_21_0
        rw [hD.1.2.2.2.2.1, hKe, if_neg (by omega), e1]
        exact ⟨g1, rfl, a1, K1_d a2, fun z => absurd z (show (3 : Int) ≠ 0 by decide)⟩
    · have r0 := readCart_C hn h h0 hD i1
      obtain ⟨g1, e1, a1, a2, a3⟩ := r0
      rw [if_neg c2, if_pos (show (0 : Int) = 0 from rfl), e1, if_neg c2, if_neg c2]
      exact ⟨g1, rfl, a1, a2, a3⟩
theorem readAll_l {T : Nat → Int} {n : Nat} (hn : n ≤ 800) : ∀ (k m l : Nat) (σ : Int × Int × Nat) (D f : Mm), (σ.1 = 0 → n - σ.2.2 < k) → k < m → l < 2000 → CZ T n σ f → (σ.1 = 0 → CD D f ∧ D 0 8 = (l : Int)) → DI n σ D →
    Wp (FX4_readAll_1_21_25 m (l : Int) f) (fun g => CZ T n (rdS T n k (σ, D)).1 g ∧ Kp Sd f g ∧ ((rdS T n k (σ, D)).1.1 = 0 → CD (rdS T n k (σ, D)).2 g)) := by
  intro k
  induction k with
  | zero =>
    intro m l σ D f h1 hm hl h hD hI
    obtain ⟨m', rfl⟩ : ∃ m', m = m' + 1 := ⟨m - 1, by omega⟩
    have hne : σ.1 ≠ 0 := fun z => by have := h1 z; omega
    show Wp _ (fun g => CZ T n σ g ∧ Kp Sd f g ∧ (σ.1 = 0 → CD D g))
    have e : FX4_readAll_1_21_25 (m' + 1) (l : Int) f = some f := by
      rw [FX4_readAll_1_21_25]
      by_cases c1 : 800 < (l : Int)
      · rw [if_pos c1]
      · rw [if_neg c1]
        by_cases c2 : f 1 3 = 0
        · rw [if_pos c2]
        · rw [if_neg c2, if_neg (by rw [h.2.1]; exact hne)]
    exact ⟨f, e, h, Kp_r _ _, fun z => absurd z hne⟩
  | succ k ih =>
    intro m l σ D f h1 hm hl h hD hI
    obtain ⟨m', rfl⟩ : ∃ m', m = m' + 1 := ⟨m - 1, by omega⟩
    have er : rdS T n (k + 1) (σ, D) = if σ.1 = 0 ∧ tkd T n σ.2.2 ≠ 0 then rdS T n k (sgS T n (lnS T n σ D), nxD T n σ D) else (σ, D) := rfl
    by_cases h0 : σ.1 = 0
    · obtain ⟨d1, d2⟩ := hD h0
      obtain ⟨i1, i2, i3, i4, i5, i6⟩ := hI h0
      obtain ⟨c1, c2, c3, c4, c5⟩ := h.2.2.2 h0
      rw [FX4_readAll_1_21_25, if_neg (by omega), c2, h.2.1]
      by_cases ht : tkd T n σ.2.2 = 0
      · rw [if_pos ht, er, if_neg (show ¬ (σ.1 = 0 ∧ tkd T n σ.2.2 ≠ 0) from fun z => z.2 ht)]
        exact Wp_some ⟨h, Kp_r _ _, fun _ => d1⟩
      · rw [if_neg ht, if_pos h0, er, if_pos (show σ.1 = 0 ∧ tkd T n σ.2.2 ≠ 0 from ⟨h0, ht⟩)]
        obtain ⟨g1, e1, a1, a2, a3⟩ := line_C hn h h0 d1 hI (fun f2 => FX4_readAll_1_21_80 (FX4_readAll_1_21_25 m') (D 0 8) f2)
        rw [← d2, e1]
        unfold FX4_readAll_1_21_80
        obtain ⟨g2, e2, b1, b2'⟩ := skipSign_C hn a1
        rw [e2]
        simp only [Option.bind_some]
        rw [d2, nx l (by omega)]
        have hI' := DI_s (T := T) hn h0 hI
        have hlq := lnS_q (T := T) (D := D) (σ := σ) (fun _ => i5)
        have kk : Kp Sd f (up g2 21 0 (w32 (g2 21 0 + 1))) := Kp_u (Kp_t a2 (K1_d b2')) (by unfold Sd; omega)
        refine Wp_mono (ih m' (l + 1) (sgS T n (lnS T n σ D)) (nxD T n σ D) (up g2 21 0 (w32 (g2 21 0 + 1))) (fun z => ?_) (by omega) ?_ (CZ_k b1 (fun a j q => up_n (by omega))) (fun z => ?_) hI') (fun g ⟨z1, z2, z3⟩ => ⟨z1, Kp_t kk z2, z3⟩)
        · obtain ⟨s1, s2, s3, s4⟩ := sgS_q hlq.2 z
          obtain ⟨l1, l2, l3⟩ := hlq.1 s1
          have := h1 h0
          omega
        · omega
        · have s1 := sgS_k z
          obtain ⟨j1, j2, j3, j4, j5, j6⟩ := hI' z
          have hc := a3 s1
          have e8 : lnD T n σ D 0 8 = D 0 8 := by
            unfold lnD
            split
            · unfold brD; rw [up_n (by omega), up_n (by omega), up_n (by omega), up_n (by omega), up_n (by omega)]
            · split
              · unfold deD; rw [up_n (by omega), up_n (by omega), up_n (by omega), up_n (by omega), up_n (by omega)]
              · unfold caD; rw [up_n (by omega), up_n (by omega), up_n (by omega), up_n (by omega), up_n (by omega), up_n (by omega)]
          have eg : g2 21 0 = (l : Int) := by rw [b2' 21 0 (by unfold K1; omega), hc.1.1, e8, d2]
          rw [eg, nx l (by omega)]
          have hk1 : nK (lnD T n σ D) ≤ 4 ∧ nC (lnD T n σ D) ≤ 6 := by
            have e1 : nK (nxD T n σ D) = nK (lnD T n σ D) := by unfold nK nxD; rw [up_n (by omega)]
            have e2 : nC (nxD T n σ D) = nC (lnD T n σ D) := by unfold nC nxD; rw [up_n (by omega)]
            have q1 := (WF_K j1).1
            have q2 := (WF_C j1).1
            omega
          refine ⟨?_, by unfold nxD; rw [up_s]; omega⟩
          have := CD_u (CD_k hc hk1 (fun a j q1 q2 => b2' a j (by unfold K1; omega))) ((l + 1 : Nat) : Int)
          unfold nxD
          rw [d2, show (l : Int) + 1 = ((l + 1 : Nat) : Int) by omega]
          exact this
    · rw [er, if_neg (show ¬ (σ.1 = 0 ∧ tkd T n σ.2.2 ≠ 0) from fun z => h0 z.1)]
      have e : FX4_readAll_1_21_25 (m' + 1) (l : Int) f = some f := by
        rw [FX4_readAll_1_21_25]
        by_cases c1 : 800 < (l : Int)
        · rw [if_pos c1]
        · rw [if_neg c1]
          by_cases c2 : f 1 3 = 0
          · rw [if_pos c2]
          · rw [if_neg c2, if_neg (by rw [h.2.1]; exact h0)]
      exact ⟨f, e, h, Kp_r _ _, fun z => absurd z h0⟩
/-! the model -/
theorem isGood_e (f : Mm) : FX11_isGood f = some (if f 150 12 = 0 then 1 else 0, f) := by
  unfold FX11_isGood FX11_isGood_0
  by_cases h : f 150 12 = 0
  · rw [if_pos h, if_pos h]
  · rw [if_neg h, if_neg h]
theorem MD_k {D f g : Mm} (h : MD D f) (hk : ∀ a j, 156 ≤ a → a ≤ 159 → g a j = f a j) : MD D g := by
  obtain ⟨⟨d1, d2, d3, d4, d5, d6, d7, d8, d9⟩, d10, d11⟩ := h
  exact ⟨⟨by rw [hk 156 4 (by omega) (by omega)]; exact d1, by rw [hk 157 32 (by omega) (by omega)]; exact d2, by rw [hk 157 33 (by omega) (by omega)]; exact d3, by rw [hk 157 34 (by omega) (by omega)]; exact d4, by rw [hk 157 35 (by omega) (by omega)]; exact d5, by rw [hk 157 36 (by omega) (by omega)]; exact d6, by rw [hk 157 37 (by omega) (by omega)]; exact d7, by rw [hk 157 38 (by omega) (by omega)]; exact d8, by rw [hk 157 39 (by omega) (by omega)]; exact d9⟩, fun d hd j hj => by rw [hk 158 _ (by omega) (by omega)]; exact d10 d hd j hj, fun c hc j hj => by rw [hk 159 _ (by omega) (by omega)]; exact d11 c hc j hj⟩
theorem MD_u {D f : Mm} (h : MD D f) (v : Int) : MD (up D 0 8 v) (up f 156 4 v) := by
  obtain ⟨⟨d1, d2, d3, d4, d5, d6, d7, d8, d9⟩, d10, d11⟩ := h
  have nk : nK (up D 0 8 v) = nK D := by unfold nK; rw [up_n (by omega)]
  have nc : nC (up D 0 8 v) = nC D := by unfold nC; rw [up_n (by omega)]
  refine ⟨⟨by rw [up_s, up_s], by rw [up_n (by omega), up_n (by omega)]; exact d2, by rw [up_n (by omega), up_n (by omega)]; exact d3, by rw [up_n (by omega), up_n (by omega)]; exact d4, by rw [up_n (by omega), up_n (by omega)]; exact d5, by rw [up_n (by omega), up_n (by omega)]; exact d6, by rw [up_n (by omega), up_n (by omega)]; exact d7, by rw [up_n (by omega), up_n (by omega)]; exact d8, by rw [up_n (by omega)]; exact d9⟩, fun d hd j hj => ?_, fun c hc j hj => ?_⟩
  · rw [nk] at hd; rw [up_n (by omega), up_n (by omega)]; exact d10 d hd j hj
  · rw [nc] at hc; rw [up_n (by omega), up_n (by omega)]; exact d11 c hc j hj
theorem lineHere_M {T : Nat → Int} {n : Nat} (hn : n ≤ 800) {σ : Int × Int × Nat} {f : Mm} (h : MZ T n σ f) (h0 : σ.1 = 0) {D : Mm} (hD : MD D f) (hW : WF D) (h8 : D 0 8 ≠ 0) :
    Wp (FX11_lineHere f) (fun g => MZ T n (lnS T n σ D) g ∧ Kp Se f g ∧ ((lnS T n σ D).1 = 0 → MD (lnD T n σ D) g)) := by
  obtain ⟨hK4, hKe⟩ := WF_K hW
  obtain ⟨hC6, hCe⟩ := WF_C hW
  have f37 : f 157 37 = (nK D : Int) := by rw [hD.1.2.2.2.2.2.2.1, hKe]
  have f38 : f 157 38 = (nC D : Int) := by rw [hD.1.2.2.2.2.2.2.2.1, hCe]
  have b0 : f 150 12 = 0 := by rw [h.2.1]; exact h0
  unfold FX11_lineHere FX11_lineHere_0 lnS lnD
  rw [isM h (a := 100006) rfl (w := 82516) rfl, b2_some]
  simp only [if_neg h8]
  by_cases c2 : wI T n 100006 σ.2.2 = true
  · rw [if_pos (show σ.1 = 0 ∧ wI T n 100006 σ.2.2 = true from ⟨h0, c2⟩)]
    simp only [if_pos c2]
    unfold FX11_isRoom FX11_isRoom_0
    have hr := hasRead_w 5 (by decide) f
    rw [if_neg (show ¬ (1 : Int) = 0 by decide), show FX11_hasRead 5 f = some (f 157 37, f) from hr, b2_some, f37]
    unfold FX11_isRoom_18 FX11_isRoom_33
    by_cases c3 : nK D < 4
    · rw [if_neg (by omega), if_neg (show ¬ (1 : Int) = 0 by decide), if_pos b0]
      obtain ⟨g1, e1, a1, a2⟩ := nextM_ok hn h h0
      have es : e0S T n σ = (0, σ.2.1, nxt T n σ.2.2) := by unfold e0S skS; rw [if_pos h0, if_pos c2]
      rw [← es] at a1
      have z : g1 150 12 = 0 := by rw [a1.2.1, es]
      rw [e1]
      simp only [Option.bind_some, if_pos c3]
      rw [if_neg (show ¬ (1 : Int) = 0 by decide), if_pos z, b2_some, if_neg (show ¬ (1 : Int) = 0 by decide)]
      refine Wp_bind (deedLine_M hn a1 (MD_k hD (fun a j q1 q2 => a2 a j (by unfold K2; omega))) c3 hKe) (fun g2 ⟨x1, x2, x3⟩ => Wp_some ⟨x1, Kp_t (K2_e a2) x2, x3⟩)
    · simp only [if_neg c3]
      obtain ⟨g1, e1, a1, a2⟩ := failsM h (k := 3) (by decide)
      have ef : faS 3 σ = (3, (σ.2.2 : Int), σ.2.2) := by unfold faS; rw [if_pos h0]
      rw [ef] at a1
      have z : g1 150 12 = 3 := a1.2.1
      rw [if_pos (by omega), e1]
      simp only [Option.bind_some]
      rw [if_neg (show ¬ (1 : Int) = 0 by decide), z, if_neg (show ¬ (3 : Int) = 0 by decide), if_neg (show ¬ (1 : Int) = 0 by decide), if_neg (show ¬ (3 : Int) = 0 by decide), b2_some, if_pos (show (0 : Int) = 0 from rfl), z, if_neg (show ¬ (3 : Int) = 0 by decide)]
      unfold FX11_lineHere_55
      rw [z, if_neg (show ¬ (3 : Int) = 0 by decide)]
      exact Wp_some ⟨a1, K2_e a2, fun w => absurd w (show (3 : Int) ≠ 0 by decide)⟩
  · rw [if_neg (show ¬ (σ.1 = 0 ∧ wI T n 100006 σ.2.2 = true) from fun w => c2 w.2)]
    simp only [if_neg c2]
    unfold FX11_isRoom FX11_isRoom_0 FX11_isRoom_18 FX11_isRoom_33
    rw [if_pos (show (0 : Int) = 0 from rfl), if_pos (show (0 : Int) = 0 from rfl), if_pos (show (0 : Int) = 0 from rfl), b2_some, if_pos (show (0 : Int) = 0 from rfl), if_pos b0, isM h (a := 100011) rfl (w := 60284) rfl, b2_some]
    by_cases c3 : wI T n 100011 σ.2.2 = true
    · rw [if_pos (show σ.1 = 0 ∧ wI T n 100011 σ.2.2 = true from ⟨h0, c3⟩)]
      simp only [if_pos c3]
      have hr := hasRead_w 6 (by decide) f
      rw [if_neg (show ¬ (1 : Int) = 0 by decide), show FX11_hasRead 6 f = some (f 157 38, f) from hr, b2_some, f38]
      by_cases c4 : nC D < 6
      · rw [if_neg (by omega), if_neg (show ¬ (1 : Int) = 0 by decide), if_pos b0]
        obtain ⟨g1, e1, a1, a2⟩ := nextM_ok hn h h0
        have es : c0S T n σ = (0, σ.2.1, nxt T n σ.2.2) := by unfold c0S skS; rw [if_pos h0, if_pos c3]
        rw [← es] at a1
        have z : g1 150 12 = 0 := by rw [a1.2.1, es]
        rw [e1]
        simp only [Option.bind_some, if_pos c4]
        rw [if_neg (show ¬ (1 : Int) = 0 by decide), if_pos z, b2_some, if_neg (show ¬ (1 : Int) = 0 by decide)]
        refine Wp_bind (cartLine_M hn a1 (MD_k hD (fun a j q1 q2 => a2 a j (by unfold K2; omega))) c4 hCe hK4) (fun g2 ⟨x1, x2, x3⟩ => Wp_some ⟨x1, Kp_t (K2_e a2) x2, x3⟩)
      · simp only [if_neg c4]
        obtain ⟨g1, e1, a1, a2⟩ := failsM h (k := 3) (by decide)
        have ef : faS 3 σ = (3, (σ.2.2 : Int), σ.2.2) := by unfold faS; rw [if_pos h0]
        rw [ef] at a1
        have z : g1 150 12 = 3 := a1.2.1
        rw [if_pos (by omega), e1]
        simp only [Option.bind_some]
        rw [if_neg (show ¬ (1 : Int) = 0 by decide), z, if_neg (show ¬ (3 : Int) = 0 by decide), if_neg (show ¬ (1 : Int) = 0 by decide), if_neg (show ¬ (3 : Int) = 0 by decide), b2_some, if_pos (show (0 : Int) = 0 from rfl)]
        unfold FX11_lineHere_55
        rw [z, if_neg (show ¬ (3 : Int) = 0 by decide)]
        exact Wp_some ⟨a1, K2_e a2, fun w => absurd w (show (3 : Int) ≠ 0 by decide)⟩
    · rw [if_neg (show ¬ (σ.1 = 0 ∧ wI T n 100011 σ.2.2 = true) from fun w => c3 w.2)]
      rw [if_pos (show (0 : Int) = 0 from rfl), if_pos (show (0 : Int) = 0 from rfl), if_pos (show (0 : Int) = 0 from rfl), b2_some, if_pos (show (0 : Int) = 0 from rfl)]
      simp only [if_neg c3]
      unfold FX11_lineHere_55
      rw [if_pos b0]
      refine Wp_bind (failsM h (k := 1) (by decide)) (fun g ⟨g1, g2⟩ => ?_)
      have ef : faS 1 σ = (1, (σ.2.2 : Int), σ.2.2) := by unfold faS; rw [if_pos h0]
      rw [ef] at g1
      exact Wp_some ⟨g1, K2_e g2, fun w => absurd w (show (1 : Int) ≠ 0 by decide)⟩
theorem bridge_l {T : Nat → Int} {n : Nat} (hn : n ≤ 800) : ∀ (k m : Nat) (σ : Int × Int × Nat) (D f : Mm), (σ.1 = 0 → n - σ.2.2 < k) → k < m → MZ T n σ f → (σ.1 = 0 → MD D f) → DI n σ D →
    ∃ g, FX11_bridge_13 m f = FX11_bridge_71 g ∧ MZ T n (rdS T n k (σ, D)).1 g ∧ Kp Se f g ∧ ((rdS T n k (σ, D)).1.1 = 0 → MD (rdS T n k (σ, D)).2 g) := by
  intro k
  induction k with
  | zero =>
    intro m σ D f h1 hm h hD hI
    obtain ⟨m', rfl⟩ : ∃ m', m = m' + 1 := ⟨m - 1, by omega⟩
    have hne : σ.1 ≠ 0 := fun z => by have := h1 z; omega
    refine ⟨f, ?_, h, Kp_r _ _, fun z => absurd z hne⟩
    rw [FX11_bridge_13, isGood_e, b2_some, if_neg (show ¬ f 150 12 = 0 by rw [h.2.1]; exact hne), if_pos (show (0 : Int) = 0 from rfl)]
  | succ k ih =>
    intro m σ D f h1 hm h hD hI
    obtain ⟨m', rfl⟩ : ∃ m', m = m' + 1 := ⟨m - 1, by omega⟩
    have er : rdS T n (k + 1) (σ, D) = if σ.1 = 0 ∧ tkd T n σ.2.2 ≠ 0 then rdS T n k (sgS T n (lnS T n σ D), nxD T n σ D) else (σ, D) := rfl
    by_cases h0 : σ.1 = 0
    · have d1 := hD h0
      obtain ⟨i1, i2, i3, i4, i5, i6⟩ := hI h0
      obtain ⟨c1, c2, c3, c4, c5, c6⟩ := h.2.2.2 h0
      have b0 : f 150 12 = 0 := by rw [h.2.1]; exact h0
      rw [FX11_bridge_13, isGood_e, b2_some, if_pos b0, if_neg (show ¬ (1 : Int) = 0 by decide), c2]
      by_cases ht : tkd T n σ.2.2 = 0
      · rw [if_pos ht, er, if_neg (show ¬ (σ.1 = 0 ∧ tkd T n σ.2.2 ≠ 0) from fun z => z.2 ht)]
        exact ⟨f, rfl, h, Kp_r _ _, fun _ => d1⟩
      · rw [if_neg ht, er, if_pos (show σ.1 = 0 ∧ tkd T n σ.2.2 ≠ 0 from ⟨h0, ht⟩), d1.1.1]
        have hl : ∃ g1, (if D 0 8 = 0 then ((FX11_bridgeLine f).bind fun f3 => FX11_bridge_47 (FX11_bridge_13 m') f3) else ((FX11_lineHere f).bind fun f2 => FX11_bridge_47 (FX11_bridge_13 m') f2)) = FX11_bridge_47 (FX11_bridge_13 m') g1 ∧ MZ T n (lnS T n σ D) g1 ∧ Kp Se f g1 ∧ ((lnS T n σ D).1 = 0 → MD (lnD T n σ D) g1) := by
          by_cases q : D 0 8 = 0
          · obtain ⟨g1, e1, x1, x2, x3⟩ := bridgeLine_M hn h d1 (i3 q).1 (i3 q).2
            rw [if_pos q, e1]
            refine ⟨g1, rfl, ?_, x2, ?_⟩
            · unfold lnS; rw [if_pos q]; exact x1
            · unfold lnS lnD; rw [if_pos q, if_pos q]; exact x3
          · obtain ⟨g1, e1, x1, x2, x3⟩ := lineHere_M hn h h0 d1 i1 q
            rw [if_neg q, e1]
            exact ⟨g1, rfl, x1, x2, x3⟩
        obtain ⟨g1, e1, a1, a2, a3⟩ := hl
        rw [e1]
        have hI' := DI_s (T := T) hn h0 hI
        have hlq := lnS_q (T := T) (D := D) (σ := σ) (fun _ => i5)
        have he : ∃ g2, FX11_bridge_47 (FX11_bridge_13 m') g1 = FX11_bridge_13 m' (up g2 156 4 (w32 (g2 156 4 + 1))) ∧ MZ T n (sgS T n (lnS T n σ D)) g2 ∧ Kp K2 g1 g2 := by
          unfold FX11_bridge_47 FX11_bridge_58
          rw [isGood_e, b2_some, a1.2.1]
          by_cases q : (lnS T n σ D).1 = 0
          · obtain ⟨g2, e2, y1, y2⟩ := ends_M hn a1 q
            rw [if_pos q, if_neg (show ¬ (1 : Int) = 0 by decide), e2]
            exact ⟨g2, rfl, y1, y2⟩
          · have es : sgS T n (lnS T n σ D) = lnS T n σ D := by unfold sgS; rw [if_neg q]
            rw [if_neg q, if_pos (show (0 : Int) = 0 from rfl), es]
            exact ⟨g1, rfl, a1, Kp_r _ _⟩
        obtain ⟨g2, e2, b1, b2'⟩ := he
        rw [e2]
        have kk : Kp Se f (up g2 156 4 (w32 (g2 156 4 + 1))) := Kp_u (Kp_t a2 (K2_e b2')) (by unfold Se; omega)
        obtain ⟨g, z0, z1, z2, z3⟩ := ih m' (sgS T n (lnS T n σ D)) (nxD T n σ D) (up g2 156 4 (w32 (g2 156 4 + 1))) (fun z => by
          obtain ⟨s1, s2, s3, s4⟩ := sgS_q hlq.2 z
          obtain ⟨l1, l2, l3⟩ := hlq.1 s1
          have := h1 h0
          omega) (by omega) (MZ_k b1 (fun a j q => up_n (by omega))) (fun z => by
          have s1 := sgS_k z
          have hc := a3 s1
          have e8 : lnD T n σ D 0 8 = D 0 8 := by
            unfold lnD
            split
            · unfold brD; rw [up_n (by omega), up_n (by omega), up_n (by omega), up_n (by omega), up_n (by omega)]
            · split
              · unfold deD; rw [up_n (by omega), up_n (by omega), up_n (by omega), up_n (by omega), up_n (by omega)]
              · unfold caD; rw [up_n (by omega), up_n (by omega), up_n (by omega), up_n (by omega), up_n (by omega), up_n (by omega)]
          have w9 := i1.2.2.2.2.2.2.2.2.1
          have eg : g2 156 4 = D 0 8 := by rw [b2' 156 4 (by unfold K2; omega), hc.1.1, e8]
          rw [eg, w32s (by omega) (by omega)]
          exact MD_u (MD_k hc (fun a j q1 q2 => b2' a j (by unfold K2; omega))) (D 0 8 + 1)) hI'
        exact ⟨g, z0, z1, Kp_t kk z2, z3⟩
    · rw [er, if_neg (show ¬ (σ.1 = 0 ∧ tkd T n σ.2.2 ≠ 0) from fun z => h0 z.1)]
      refine ⟨f, ?_, h, Kp_r _ _, fun z => absurd z h0⟩
      rw [FX11_bridge_13, isGood_e, b2_some, if_neg (show ¬ f 150 12 = 0 by rw [h.2.1]; exact h0), if_pos (show (0 : Int) = 0 from rfl)]

/-! acts -/
theorem Sm_0 : Sm 150 0 := Or.inl ⟨rfl, by decide, by decide, by decide⟩
theorem Kp_m0 (f : Mm) : Kp Sm f (up f 150 0 0) := Kp_u (Kp_r _ _) Sm_0
theorem CM_d {B f : Mm} (hB : WF B) (h : CM B f) : f 4 0 = B 0 8 ∧ f 4 1 = (nD B : Int) ∧ f 4 2 = B 0 3 ∧ f 4 3 = B 0 4 ∧ f 4 4 = (nK B : Int) ∧ f 4 5 = (nC B : Int) ∧ f 4 6 = B 0 7 := by
  rcases h with ⟨h1, ⟨⟨c0, c1, c2, c3, c4, c5, c6⟩, _⟩, h3⟩ | ⟨h1, h2⟩
  · exact ⟨c0, by rw [c1]; exact (WF_D hB).2, c2, c3, by rw [c4]; exact (WF_K hB).2, by rw [c5]; exact (WF_C hB).2, c6⟩
  · subst h1
    exact ⟨h2 0 (by decide), h2 1 (by decide), h2 2 (by decide), h2 3 (by decide), h2 4 (by decide), h2 5 (by decide), h2 6 (by decide)⟩
theorem CM_on {B f : Mm} (h : CM B f) (q : 0 < B 0 8) : CT B f ∧ PT B f := by
  rcases h with ⟨h1, h2, h3⟩ | ⟨h1, h2⟩
  · exact ⟨h2, h3⟩
  · subst h1; exact absurd q (Int.lt_irrefl _)
/-- a call that only looks -/
theorem Iv_l {B Z f h : Mm} {T : Nat → Int} {n : Nat} (hI : Iv B Z T n f) (hk : Kp Sm f h) : Iv B Z T n h := by
  obtain ⟨b1, b2', b3⟩ := hI.1
  exact Iv_b hI (Sb_m hk) b1 (CM_m b1 b2' hk) (MO_s b3 hk)
theorem o_done (x : Int) : Ok (FX10_done x) (FX11_done x) := by
  rintro f ⟨B, Z, T, n, hI⟩
  obtain ⟨b1, b2', b3⟩ := hI.1
  have hD := WF_D b1
  have k0 := Kp_m0 f
  have m0 := MO_s b3 k0
  unfold FX10_done FX10_done_0 FX11_done FX11_done_0
  rw [hasDay_e, b2_some, (CM_d b1 b2').2.1]
  by_cases q : 0 ≤ x ∧ x < (nD B : Int)
  · obtain ⟨d, hd⟩ : ∃ d : Nat, x = (d : Int) := ⟨x.toNat, by omega⟩
    subst hd
    obtain ⟨g, e, k, v1, v2⟩ := lays_W b1 m0
    have h8 : 0 < B 0 8 := b1.2.2.2.2.2.2.2.2.2.1.2.1 (by omega)
    have hc := (CM_on b2' h8).1
    refine ⟨dn B d, f, g, ?_, ?_, B, Z, T, n, Iv_l hI (Kp_t k0 (Kp_m k (fun a j z => by unfold Sm; omega)))⟩
    · rw [if_pos q, if_neg (show ¬ (1 : Int) = 0 by decide), if_pos (by omega), Int.toNat_natCast, hc.2.2.2.2.1 d (by omega)]
    · rw [isDay_e b1 m0, b2_some, if_pos q, if_neg (show ¬ (1 : Int) = 0 by decide), e]
      simp only [Option.bind_some]
      rw [if_pos (by omega), Int.toNat_natCast, v2 d (by omega)]
  · refine ⟨-2, f, _, ?_, ?_, B, Z, T, n, Iv_l hI k0⟩
    · rw [if_neg q, if_pos rfl]
    · rw [isDay_e b1 m0, b2_some, if_neg q, if_pos rfl]
/-- one act more -/
def acB (B : Mm) (x y : Int) : Mm := up (up (up B 1 (nA B) x) 2 (nA B) y) 0 7 (B 0 7 + 1)
theorem acB_a (B : Mm) (x y : Int) : Al B (acB B x y) := fun a j q => by
  unfold acB
  rw [up_n (by omega), up_n (by omega), up_n (by omega)]
theorem acB_n {B : Mm} (hB : WF B) (x y : Int) : nA (acB B x y) = nA B + 1 := by
  have := WF_A hB
  unfold nA
  show (acB B x y 0 7).toNat = _
  have e : acB B x y 0 7 = B 0 7 + 1 := by unfold acB; rw [up_s]
  rw [e]; omega
theorem acB_1 {B : Mm} (x y : Int) {k : Nat} (hk : k < nA B) : acB B x y 1 k = B 1 k ∧ acB B x y 2 k = B 2 k := by
  unfold acB
  constructor
  · rw [up_n (by omega), up_n (by omega), up_n (by omega)]
  · rw [up_n (by omega), up_n (by omega), up_n (by omega)]
theorem acB_2 (B : Mm) (x y : Int) : acB B x y 1 (nA B) = x ∧ acB B x y 2 (nA B) = y := by
  unfold acB
  constructor
  · rw [up_n (by omega), up_n (by omega), up_s]
  · rw [up_n (by omega), up_s]
theorem dO_cong {B B' : Mm} : ∀ (k d : Nat), (∀ i, i < k → B' 1 i = B 1 i ∧ B' 2 i = B 2 i) → dO B' k d = dO B k d
  | 0, _, _ => rfl
  | k + 1, d, h => by
    show (if B' 1 k = (d : Int) then B' 2 k else dO B' k d) = (if B 1 k = (d : Int) then B 2 k else dO B k d)
    rw [(h k (by omega)).1, (h k (by omega)).2, dO_cong k d (fun i hi => h i (by omega))]
theorem WF_al {B B' : Mm} (hB : WF B) (ha : Al B B') (h7 : 0 ≤ B' 0 7 ∧ B' 0 7 ≤ 40) (h4 : ∀ c, c < nC B → 0 ≤ B' (20 + c) 4 ∧ B' (20 + c) 4 ≤ 999) (hk : ∀ k, k < nA B' → (0 ≤ B' 1 k ∧ B' 1 k < B 0 0) ∧ (-1 ≤ B' 2 k ∧ B' 2 k < B 0 5)) : WF B' := by
  obtain ⟨e1, e2, e3⟩ := Al_n ha
  obtain ⟨a0, a1, a2, a3, a4, a5, a6, a7, a8, a9, a10, a11, a12⟩ := hB
  have e0 : ∀ j, j ≠ 7 → B' 0 j = B 0 j := fun j hj => (ha 0 j (by omega)).symm
  refine ⟨by rw [e0 0 (by decide)]; exact a0, by rw [e0 1 (by decide)]; exact a1, by rw [e0 2 (by decide)]; exact a2, by rw [e0 3 (by decide)]; exact a3, by rw [e0 4 (by decide)]; exact a4, by rw [e0 5 (by decide)]; exact a5, by rw [e0 6 (by decide)]; exact a6, h7, by rw [e0 8 (by decide)]; exact a8, by rw [e0 8 (by decide), e0 0 (by decide), e0 6 (by decide), e0 5 (by decide)]; exact a9, fun d hd => ?_, fun c hc => ?_, fun k hq => by rw [e0 0 (by decide), e0 5 (by decide)]; exact hk k hq⟩
  · rw [← e2] at hd
    have hK : d < 4 := by unfold nK at hd; omega
    rw [← ha (10 + d) 0 (by omega), ← ha (10 + d) 1 (by omega), ← ha (10 + d) 2 (by omega), ← ha (10 + d) 3 (by omega)]
    exact a10 d hd
  · rw [← e3] at hc
    rw [← ha (20 + c) 0 (by omega), ← ha (20 + c) 1 (by omega), ← ha (20 + c) 2 (by omega), ← ha (20 + c) 3 (by omega)]
    obtain ⟨z1, z2, z3, z4, z5⟩ := a11 c hc
    exact ⟨z1, z2, z3, z4, h4 c hc⟩
/-- what does not change with the acts -/
theorem CT_al {B B' f g : Mm} (hB : WF B) (h : CT B f) (ha : Al B B') (h4 : ∀ c, c < nC B → B' (20 + c) 4 = B (20 + c) 4) (hk : ∀ a j, ((4 ≤ a ∧ a ≤ 17) ∧ ¬ (a = 4 ∧ j = 6)) → g a j = f a j) (g6 : g 4 6 = B' 0 7) (g18 : ∀ d, d < 6 → g 18 d = dn B' d) (gk : ∀ k, k < nA B' → g 19 k = B' 1 k ∧ g 20 k = dO B' k (B' 1 k).toNat) : CT B' g := by
  obtain ⟨e1, e2, e3⟩ := Al_n ha
  obtain ⟨⟨a1, a2, a3, a4, a5, a6, a7⟩, ⟨b1, b2'⟩, b3, b4, b5, b6⟩ := h
  have hK := (WF_K hB).1
  have hC := (WF_C hB).1
  have e0 : ∀ j, j ≠ 7 → B' 0 j = B 0 j := fun j hj => (ha 0 j (by omega)).symm
  have e4 : ∀ j, j ≠ 6 → g 4 j = f 4 j := fun j hj => hk 4 j (by omega)
  refine ⟨⟨by rw [e4 0 (by decide), e0 8 (by decide)]; exact a1, by rw [e4 1 (by decide), e0 0 (by decide)]; exact a2, by rw [e4 2 (by decide), e0 3 (by decide)]; exact a3, by rw [e4 3 (by decide), e0 4 (by decide)]; exact a4, by rw [e4 4 (by decide), e0 5 (by decide)]; exact a5, by rw [e4 5 (by decide), e0 6 (by decide)]; exact a6, g6⟩, ⟨by rw [hk 5 0 (by omega), e0 1 (by decide)]; exact b1, by rw [hk 5 1 (by omega), e0 2 (by decide)]; exact b2'⟩, fun d hd j hj => ?_, fun c hc j hj => ?_, g18, gk⟩
  · rw [← e2] at hd
    rw [hk (7 + d) j (by omega), ← ha (10 + d) j (by omega)]; exact b3 d hd j hj
  · rw [← e3] at hc
    rw [hk (12 + c) j (by omega)]
    by_cases q : j = 4
    · subst q; rw [h4 c hc]; exact b4 c hc 4 (by omega)
    · rw [← ha (20 + c) j (by omega)]; exact b4 c hc j hj
theorem MO_al {B B' f g : Mm} (h : MO B f) (ha : Al B B') (hB : WF B) (h4 : ∀ c, c < nC B → B' (20 + c) 4 = B (20 + c) 4) (hk : ∀ a j, ((156 ≤ a ∧ a ≤ 159) ∧ ¬ (a = 157 ∧ j = 7)) → g a j = f a j) (g7 : g 157 7 = B' 0 7) (gk : ∀ k, k < nA B' → g 160 (2 * k) = B' 1 k ∧ g 160 (2 * k + 1) = B' 2 k) : MO B' g := by
  obtain ⟨e1, e2, e3⟩ := Al_n ha
  have hK := (WF_K hB).1
  obtain ⟨⟨a0, a1, a2, a3, a4, a5, a6, a7, a8⟩, b1, b2', b3⟩ := h
  have e0 : ∀ j, j ≠ 7 → B' 0 j = B 0 j := fun j hj => (ha 0 j (by omega)).symm
  have e4 : ∀ j, j ≠ 7 → g 157 j = f 157 j := fun j hj => hk 157 j (by omega)
  refine ⟨⟨by rw [hk 156 0 (by omega), e0 8 (by decide)]; exact a0, by rw [e4 0 (by decide), e0 0 (by decide)]; exact a1, by rw [e4 1 (by decide), e0 1 (by decide)]; exact a2, by rw [e4 2 (by decide), e0 2 (by decide)]; exact a3, by rw [e4 3 (by decide), e0 3 (by decide)]; exact a4, by rw [e4 4 (by decide), e0 4 (by decide)]; exact a5, by rw [e4 5 (by decide), e0 5 (by decide)]; exact a6, by rw [e4 6 (by decide), e0 6 (by decide)]; exact a7, g7⟩, fun d hd j hj => ?_, fun c hc j hj => ?_, gk⟩
  · rw [← e2] at hd
    rw [hk 158 _ (by omega), ← ha (10 + d) j (by omega)]; exact b1 d hd j hj
  · rw [← e3] at hc
    rw [hk 159 _ (by omega)]
    by_cases q : j = 4
    · subst q; rw [h4 c hc]; exact b2' c hc 4 (by omega)
    · rw [← ha (20 + c) j (by omega)]; exact b2' c hc j hj
theorem Rw_160 {j : Nat} (h : j < 80) : Rw 0 160 j := Or.inr (Or.inr (Or.inr (Or.inr ⟨rfl, by omega, by omega⟩)))
theorem Rw_157 {j : Nat} (h : j < 8) : Rw 0 157 j := Or.inr (Or.inl ⟨rfl, by omega, by omega⟩)
theorem Rw_159 {j : Nat} (h : j < 30) : Rw 0 159 j := Or.inr (Or.inr (Or.inr (Or.inl ⟨rfl, by omega, by omega⟩)))
theorem Sb_r {a j : Nat} (h : Rw 0 a j) : Sb a j := Or.inr (Or.inr (Or.inr (Or.inr h)))
/-- the class's act -/
theorem act_c {B f : Mm} (hB : WF B) (hC : CM B f) {d : Nat} {y : Int} (hd : d < nD B) (hy : -1 ≤ y ∧ y < (nK B : Int)) (h4 : B 0 7 < 40) : Wp (FX10_does_30 (d : Int) y f) (fun p => p.1 = dn B d ∧ Kp (fun a _ => 4 ≤ a ∧ a ≤ 20) f p.2 ∧ CM (acB B d y) p.2 ∧ WF (acB B d y)) := by
  have hD := WF_D hB
  have hA := WF_A hB
  have hK := WF_K hB
  have h8 : 0 < B 0 8 := hB.2.2.2.2.2.2.2.2.2.1.2.1 (by omega)
  obtain ⟨hc, hp⟩ := CM_on hC h8
  have w6 : f 4 6 = (nA B : Int) := by rw [hc.1.2.2.2.2.2.2]; exact hA.2
  have w18 := hc.2.2.2.2.1 d (by omega)
  unfold FX10_does_30 FX0_act_4 FX0_act_4_0
  rw [if_pos (by omega), hasDay_e, b2_some, (CM_d hB hC).2.1, if_pos (show 0 ≤ (d : Int) ∧ (d : Int) < (nD B : Int) by omega), if_neg (show ¬ (1 : Int) = 0 by decide), if_pos (by omega), if_pos (by omega), if_pos (by omega), if_pos (by omega), if_pos (by omega), b2_some, w6, Int.toNat_natCast, Int.toNat_natCast, w18, w32s (by omega) (by omega)]
  have hW : WF (acB B d y) := by
    refine WF_al hB (acB_a B d y) ?_ (fun c hq => ?_) (fun k hk => ?_)
    · have e : acB B d y 0 7 = B 0 7 + 1 := by unfold acB; rw [up_s]
      omega
    · have e : acB B d y (20 + c) 4 = B (20 + c) 4 := by unfold acB; rw [up_n (by omega), up_n (by omega), up_n (by omega)]
      rw [e]; exact (hB.2.2.2.2.2.2.2.2.2.2.2.1 c hq).2.2.2.2
    · rw [acB_n hB] at hk
      by_cases q : k = nA B
      · subst q; rw [(acB_2 B d y).1, (acB_2 B d y).2]; omega
      · rw [(acB_1 d y (by omega)).1, (acB_1 d y (by omega)).2]; exact hB.2.2.2.2.2.2.2.2.2.2.2.2 k (by omega)
  refine Wp_some ⟨rfl, Kp_u (Kp_u (Kp_u (Kp_u (Kp_r _ _) (by omega)) (by omega)) (by omega)) (by omega), Or.inl ⟨?_, ?_, ?_⟩, hW⟩
  · have e : acB B d y 0 8 = B 0 8 := by unfold acB; rw [up_n (by omega), up_n (by omega), up_n (by omega)]
    rw [e]; exact h8
  · refine CT_al hB hc (acB_a B d y) (fun c hq => ?_) (fun a j q => ?_) ?_ (fun e he => ?_) (fun k hk => ?_)
    · unfold acB; rw [up_n (by omega), up_n (by omega), up_n (by omega)]
    · dsimp only
      rw [up_n (by omega), up_n (by omega), up_n (by omega), up_n (by omega)]
    · dsimp only
      rw [up_n (by omega), up_s]
      unfold acB; rw [up_s]; omega
    · dsimp only
      unfold dn
      rw [acB_n hB]
      show _ = (if acB B d y 1 (nA B) = (e : Int) then acB B d y 2 (nA B) else dO (acB B d y) (nA B) e)
      rw [(acB_2 B d y).1, (acB_2 B d y).2, dO_cong (B := B) (nA B) e (fun i hi => acB_1 d y hi)]
      by_cases q : e = d
      · subst q; rw [up_s, if_pos rfl]
      · rw [up_n (by omega), up_n (by omega), up_n (by omega), up_n (by omega), if_neg (by omega)]; exact hc.2.2.2.2.1 e he
    · rw [acB_n hB] at hk
      rw [dO_cong (B := B) k _ (fun i hi => acB_1 d y (by omega))]
      dsimp only
      by_cases q : k = nA B
      · subst q
        rw [(acB_2 B d y).1]
        refine ⟨?_, ?_⟩
        · rw [up_n (by omega), up_n (by omega), up_n (by omega), up_s]
        · rw [up_n (by omega), up_n (by omega), up_s, Int.toNat_natCast]; rfl
      · rw [(acB_1 d y (by omega)).1, up_n (by omega), up_n (by omega), up_n (by omega), up_n (by omega), up_n (by omega), up_n (by omega), up_n (by omega), up_n (by omega)]
        exact hc.2.2.2.2.2 k (by omega)
  · exact PT_k (Al_PT hB (acB_a B d y) hp) (fun a j q1 q2 => by
      dsimp only
      rw [up_n (by omega), up_n (by omega), up_n (by omega), up_n (by omega)])
theorem act_m {B f : Mm} (hB : WF B) (hM : MO B f) {d : Nat} {y : Int} (hd : d < nD B) (h4 : B 0 7 < 40) : Wp (FX11_does_30 (d : Int) y f) (fun p => p.1 = dn B d ∧ Kp (fun a j => Sm a j ∨ Rw 0 a j) f p.2 ∧ MO (acB B d y) p.2) := by
  have hD := WF_D hB
  have hA := WF_A hB
  have w7 : f 157 7 = (nA B : Int) := by rw [hM.1.2.2.2.2.2.2.2.2]; exact hA.2
  unfold FX11_does_30
  rw [if_neg (by omega)]
  obtain ⟨g, e, k, v1, v2⟩ := lays_W hB hM
  have w7' : g 157 7 = (nA B : Int) := by rw [k 157 7 (by omega)]; exact w7
  have mg : MO B g := MO_k hM (fun a j x z => k a j (by omega))
  rw [e]
  simp only [Option.bind_some]
  rw [w7', w32n (n := 2 * nA B) (by omega) (by omega), w32n (n := 2 * nA B + 1) (by omega) (by omega), if_pos (by omega), if_pos (by omega), if_pos (by omega), Int.toNat_natCast, Int.toNat_natCast, Int.toNat_natCast, v2 d (by omega), w32s (by omega) (by omega)]
  refine Wp_some ⟨rfl, Kp_u (Kp_u (Kp_u (Kp_m k (fun a j z => Or.inl (by unfold Sm; omega))) (Or.inr (Rw_160 (by omega)))) (Or.inr (Rw_160 (by omega)))) (Or.inr (Rw_157 (by omega))), ?_⟩
  refine MO_al mg (acB_a B d y) hB (fun c hq => ?_) (fun a j q => ?_) ?_ (fun i hk => ?_)
  · unfold acB; rw [up_n (by omega), up_n (by omega), up_n (by omega)]
  · dsimp only
    rw [up_n (by omega), up_n (by omega), up_n (by omega)]
  · dsimp only
    rw [up_s]; unfold acB; rw [up_s]; omega
  · rw [acB_n hB] at hk
    dsimp only
    by_cases q : i = nA B
    · subst q
      rw [(acB_2 B d y).1, (acB_2 B d y).2]
      refine ⟨?_, ?_⟩
      · rw [up_n (by omega), up_n (by omega), up_s]
      · rw [up_n (by omega), up_s]
    · rw [(acB_1 d y (by omega)).1, (acB_1 d y (by omega)).2, up_n (by omega), up_n (by omega), up_n (by omega), up_n (by omega), up_n (by omega), up_n (by omega)]
      exact mg.2.2.2 i (by omega)
theorem o_does (x y : Int) : Ok (FX10_does x y) (FX11_does x y) := by
  rintro f ⟨B, Z, T, n, hI⟩
  obtain ⟨b1, b2', b3⟩ := hI.1
  have hD := WF_D b1
  have hA := WF_A b1
  have k0 := Kp_m0 f
  have m0 := MO_s b3 k0
  have cd := CM_d b1 b2'
  unfold FX10_does FX10_does_0 FX11_does FX11_does_0
  rw [hasDay_e, b2_some, cd.2.1]
  by_cases q : 0 ≤ x ∧ x < (nD B : Int)
  · by_cases qy : y = -1 ∨ (0 ≤ y ∧ y < (nK B : Int))
    · have hl : (if y = -1 then FX10_does_30 x y f else b2 (FX0_hasDeed_4 y f) fun y2 f2 => if y2 = 0 then some (-2, f2) else FX10_does_30 x y f2) = FX10_does_30 x y f := by
        by_cases c : y = -1
        · rw [if_pos c]
        · rw [if_neg c, hasDeed_e, b2_some, cd.2.2.2.2.1, if_pos (show 0 ≤ y ∧ y < (nK B : Int) by omega), if_neg (show ¬ (1 : Int) = 0 by decide)]
      have hr : ∀ g, MO B g → (if y = -1 then FX11_does_30 x y g else b2 (FX11_isDeed y g) fun y2 f2 => if y2 = 0 then some (-2, f2) else FX11_does_30 x y f2) = FX11_does_30 x y g := fun g hg => by
        by_cases c : y = -1
        · rw [if_pos c]
        · rw [if_neg c, isDeed_e b1 hg, b2_some, if_pos (show 0 ≤ y ∧ y < (nK B : Int) by omega), if_neg (show ¬ (1 : Int) = 0 by decide)]
      rw [if_pos q, if_neg (show ¬ (1 : Int) = 0 by decide), hl]
      obtain ⟨d, hd⟩ : ∃ d : Nat, x = (d : Int) := ⟨x.toNat, by omega⟩
      subst hd
      by_cases h4 : B 0 7 < 40
      · obtain ⟨⟨v, g⟩, e, r1, r2, r3, r4⟩ := act_c b1 b2' (y := y) (show d < nD B by omega) (by omega) h4
        simp only at r1 r2 r3
        have kg := Kp_m0 g
        have mg : MO B (up g 150 0 0) := MO_s (MO_k b3 (fun a j z1 z2 => r2 a j (by omega))) kg
        obtain ⟨⟨w, h⟩, e2, s1, s2, s3⟩ := act_m b1 mg (y := y) (show d < nD B by omega) h4
        simp only at s1 s2 s3
        subst r1 s1
        refine ⟨_, g, h, e, ?_, acB B d y, Z, T, n, ?_⟩
        · rw [isDay_e b1 mg, b2_some, if_pos q, if_neg (show ¬ (1 : Int) = 0 by decide), hr _ mg]
          exact e2
        · refine Iv_b hI (Kp_t (Kp_m r2 (fun a j z => Or.inl (by omega))) (Kp_t (Sb_m kg) (Kp_m s2 (fun a j z => ?_)))) r4 (CM_k r4 r3 (fun a j z => ?_)) s3
          · rcases z with z | z
            · rcases z with z | z
              · exact Or.inr (Or.inr (Or.inl z))
              · exact Or.inr (Or.inr (Or.inr (Or.inl z)))
            · exact Sb_r z
          · rw [s2 a j (fun z2 => ?_), kg a j (fun z2 => by unfold Sm at z2; omega)]
            rcases z2 with z2 | z2
            · unfold Sm at z2; omega
            · have := Rw_a z2; omega
      · refine ⟨-5, f, up f 150 0 0, ?_, ?_, B, Z, T, n, Iv_l hI k0⟩
        · unfold FX10_does_30; rw [cd.2.2.2.2.2.2, if_neg h4]
        · rw [isDay_e b1 m0, b2_some, if_pos q, if_neg (show ¬ (1 : Int) = 0 by decide), hr _ m0]
          unfold FX11_does_30
          rw [m0.1.2.2.2.2.2.2.2.2, if_pos (by omega)]
    · refine ⟨-2, f, up f 150 0 0, ?_, ?_, B, Z, T, n, Iv_l hI k0⟩
      · rw [if_pos q, if_neg (show ¬ (1 : Int) = 0 by decide), if_neg (show ¬ y = -1 by omega), hasDeed_e, b2_some, cd.2.2.2.2.1, if_neg (show ¬ (0 ≤ y ∧ y < (nK B : Int)) by omega), if_pos rfl]
      · rw [isDay_e b1 m0, b2_some, if_pos q, if_neg (show ¬ (1 : Int) = 0 by decide), if_neg (show ¬ y = -1 by omega), isDeed_e b1 m0, b2_some, if_neg (show ¬ (0 ≤ y ∧ y < (nK B : Int)) by omega), if_pos rfl]
  · refine ⟨-2, f, up f 150 0 0, ?_, ?_, B, Z, T, n, Iv_l hI k0⟩
    · rw [if_neg q, if_pos rfl]
    · rw [isDay_e b1 m0, b2_some, if_neg q, if_pos rfl]

/-! a deed alone: the class, and both -/
def val (B : Mm) (ch : Nat → Int) : Int := (10000 - sumf B 4 (bts (inT B (pas B idn (wd B ch (-1) (-1) 0 (B 0 3)) (nD B))) (nC B))) + csts B ch
theorem val_c {B : Mm} {ch ch' : Nat → Int} (h : ∀ d, d < nD B → ch d = ch' d) : val B ch = val B ch' := by
  have e1 := pas_c (B := B) (od := idn) (w := wd B ch (-1) (-1) 0 (B 0 3)) (w' := wd B ch' (-1) (-1) 0 (B 0 3)) (nD B) (fun e he => wd_c (fun d hd => h d (by omega)))
  have e2 : csts B ch = csts B ch' := sm_congr _ (fun d hd => by rw [h d hd])
  unfold val
  rw [e1, e2]
theorem vW_val {B : Mm} (hB : WF B) (k : Nat) : vW B (sumf B 4) k = val B (pch B k) := by
  unfold vW
  rw [← (kp_r hB k).2]
  rfl
theorem ff_all {p : Nat → Bool} : ∀ n, ff p n = -1 ↔ ∀ d, d < n → p d = false
  | 0 => ⟨fun _ d h => by omega, fun _ => rfl⟩
  | n + 1 => by
    have ih := ff_all (p := p) n
    have e : ff p (n + 1) = if ff p n = -1 then (if p n = true then (n : Int) else -1) else ff p n := rfl
    rw [e]
    by_cases h : ff p n = -1
    · rw [if_pos h]
      by_cases hp : p n = true
      · rw [if_pos hp]
        constructor
        · intro q; omega
        · intro q; have := q n (by omega); rw [hp] at this; cases this
      · rw [if_neg hp]
        refine ⟨fun _ d hd => ?_, fun _ => rfl⟩
        by_cases hd2 : d = n
        · subst hd2; cases q : p d; rfl; exact absurd q hp
        · exact ih.mp h d (by omega)
    · rw [if_neg h]
      exact ⟨fun q => absurd q h, fun q => absurd (ih.mpr (fun d hd => q d (by omega))) h⟩
def gAl (B : Mm) (x : Int) (b : Nat) : Int := val B (alc x b)
theorem val_r {B : Mm} (hB : WF B) {ch : Nat → Int} (h : WD B ch) : 0 ≤ val B ch ∧ val B ch ≤ 20000 := by
  have := (sumf_r hB (bts (inT B (pas B idn (wd B ch (-1) (-1) 0 (B 0 3)) (nD B))) (nC B))).1
  have := csts_r hB h
  unfold val
  omega
theorem alc_W {B : Mm} (hB : WF B) {x : Int} (hx : 0 ≤ x ∧ x < (nK B : Int)) (b : Nat) : WD B (alc x b) := fun d _ => by
  have := (WF_K hB).2
  unfold alc
  split <;> omega
theorem alone_mn {B : Mm} (hB : WF B) {x : Int} (hx : 0 ≤ x ∧ x < (nK B : Int)) : mn okA (gAl B x) (2 ^ nD B) = mn (okP B x) (vW B (sumf B 4)) (nP B) ∧ mn (okP B x) (vW B (sumf B 4)) (nP B) ≠ -1 := by
  have hD6 := (WF_D hB).1
  have hp2 : 1 ≤ 2 ^ nD B := Nat.one_le_two_pow
  have hI := mn_is (p := okA) (c := gAl B x) (2 ^ nD B) (fun b _ _ => (val_r hB (alc_W hB hx b)).1)
  have hJ := mn_is (p := okP B x) (c := vW B (sumf B 4)) (nP B) (fun k _ _ => (vW_rr hB k).1)
  have up1 : ∀ b, b < 2 ^ nD B → ∃ k, k < nP B ∧ okP B x k = true ∧ vW B (sumf B 4) k = gAl B x b := by
    intro b hb
    obtain ⟨k, k1, k2⟩ := dg_all (b := nK B + 1) (by omega) (fun e => if hbit (b : Int) (nD B - 1 - e) = true then x.toNat + 1 else 0) (fun e => by (try simp only); split <;> omega) (nD B)
    have e : ∀ d, d < nD B → pch B k d = alc x b d := fun d hd => by
      have := k2 (nD B - 1 - d) (by omega)
      unfold pch alc
      rw [if_pos hd, this]
      try simp only
      rw [show nD B - 1 - (nD B - 1 - d) = d by omega]
      split <;> omega
    refine ⟨k, k1, decide_eq_true (Or.inr ((ff_all _).mpr (fun d hd => decide_eq_false (fun q => ?_)))), by rw [vW_val hB]; exact val_c e⟩
    rw [e d hd] at q
    unfold alc at q
    by_cases hb2 : hbit (b : Int) d = true
    · rw [if_pos hb2] at q; exact q.2 rfl
    · rw [if_neg hb2] at q; exact q.1 rfl
  have dn1 : ∀ k, k < nP B → okP B x k = true → ∃ b, b < 2 ^ nD B ∧ gAl B x b = vW B (sumf B 4) k := by
    intro k hk ho
    obtain ⟨m, e, hm⟩ := bts_lt (p := fun d => decide (pch B k d ≠ -1)) (n := nD B) hD6
    refine ⟨m, hm, ?_⟩
    rw [vW_val hB]
    refine val_c (fun d hd => ?_)
    have h1 := (bts_s (p := fun d => decide (pch B k d ≠ -1)) (nD B) (by omega)).2 d (by omega)
    rw [e, decide_eq_true hd, Bool.true_and] at h1
    have ho' := of_decide_eq_true ho
    have hf : ff (oth B x k) (nD B) = -1 := by
      rcases ho' with q | q
      · omega
      · exact q
    have h2 := of_decide_eq_false ((ff_all _).mp hf d hd)
    unfold alc
    rw [h1]
    by_cases q : pch B k d = -1
    · rw [if_neg (by rw [decide_eq_true_eq]; exact fun h => h q), q]
    · rw [if_pos (decide_eq_true q)]
      by_cases q2 : pch B k d = x
      · exact q2.symm
      · exact absurd ⟨q, q2⟩ h2
  have hII : IsM (okP B x) (vW B (sumf B 4)) (nP B) (mn okA (gAl B x) (2 ^ nD B)) := by
    rcases hI with ⟨q1, q⟩ | ⟨b, q1, q2, q3, q4, q5⟩
    · have := q 0 (by omega); cases this
    · obtain ⟨k, k1, k2, k3⟩ := up1 b q1
      refine Or.inr ⟨k, k1, k2, by rw [k3, q3], q4, fun j hj ho => ?_⟩
      obtain ⟨b', b1, b2'⟩ := dn1 j hj ho
      rw [← b2']
      exact q5 b' b1 rfl
  have e := IsM_u hII hJ
  refine ⟨e, ?_⟩
  rw [← e]
  rcases hI with ⟨q1, q⟩ | ⟨b, q1, q2, q3, q4, q5⟩
  · have := q 0 (by omega); cases this
  · omega
theorem mq_alone' {B : Mm} (hB : WF B) (x : Int) : QM B (FX11_alone x) (S_alone B x) := mq_alone hB x (fun h => (alone_mn hB h).2)
def AI (B f : Mm) (g : Mm) : Prop := Kp Sc f g ∧ g 48 2 = -1 ∧ g 48 3 = -1 ∧ g 48 4 = B 0 3 ∧ g 48 5 = 0 ∧ (∀ d, nD B ≤ d → d < 6 → g 49 d = -1) ∧ ∀ j, j < 6 → g 50 j = (j : Int)
theorem bwo_s {p : Nat → Bool} {c : Nat → Int} {k : Nat} (hp : p k = true) (h : 0 ≤ c k ∧ c k ≤ 20000) (hm : -1 ≤ mn p c k ∧ mn p c k ≤ 20000) : jMax (bwo (mn p c k)) (10000 - c k) = bwo (mn p c (k + 1)) := by
  have e1 : mn p c (k + 1) = if p k = true ∧ (mn p c k = -1 ∨ c k < mn p c k) then c k else mn p c k := rfl
  by_cases q : mn p c k = -1
  · have e2 : mn p c (k + 1) = c k := by rw [e1, if_pos ⟨hp, Or.inl q⟩]
    rw [e2, q]
    unfold jMax bwo
    rw [if_pos (show (-1 : Int) = -1 from rfl), if_neg (show ¬ c k = -1 by omega), if_pos (by omega)]
  · by_cases q2 : c k < mn p c k
    · have e2 : mn p c (k + 1) = c k := by rw [e1, if_pos ⟨hp, Or.inr q2⟩]
      rw [e2]
      unfold jMax bwo
      rw [if_neg q, if_neg (show ¬ c k = -1 by omega), if_pos (by omega)]
    · have e2 : mn p c (k + 1) = mn p c k := by rw [e1, if_neg (by omega)]
      rw [e2]
      unfold jMax bwo
      rw [if_neg q, if_neg (by omega)]
theorem cq_alone {B : Mm} (hB : WF B) (x : Int) : QC B (FX10_alone x) (S_alone B x) := by
  rintro f ⟨hC, h0⟩
  obtain ⟨hD6, hDe⟩ := WF_D hB
  obtain ⟨hK4, hKe⟩ := WF_K hB
  have hsh := sh_n ⟨nD B, by omega⟩
  try simp only at hsh
  have hp6 : 2 ^ nD B ≤ 2 ^ 6 := Nat.pow_le_pow_right (by decide) hD6
  unfold FX10_alone FX10_alone_0 S_alone
  rw [hasDeed_e, b2_some, hC.1.2.2.2.2.1, hKe]
  by_cases h : 0 ≤ x ∧ x < (nK B : Int)
  · rw [if_pos h, if_pos h, if_neg (by decide)]
    refine Wp_bind (asDone_W hB hC) (fun g0 ⟨k0, x0, o0⟩ => ?_)
    have k0' : Kp Sc f g0 := Kp_m k0 (fun a j h => by unfold Sc; omega)
    obtain ⟨y1, y2, y3, y4, y5, y6, y7, y8⟩ := x0
    have hr : ∀ i, -1 ≤ mn okA (gAl B x) i ∧ mn okA (gAl B x) i ≤ 20000 := fun i => mn_r (fun b _ _ => val_r hB (alc_W hB h b)) (by decide)
    refine forX (fun n y (s : Int × Mm) => FX10_alone_30 n x s.1 y s.2) (fun i s => s.1 = bwo (mn okA (gAl B x) i) ∧ AI B f s.2) _ (2 ^ nD B) ?_ ?_ fu 0 (-1000000, g0) ⟨rfl, k0', y2, y3, y4, y5, fun d hd hd6 => by show g0 49 d = -1; rw [y1 d hd6, dn_out hB hd], o0⟩ (Nat.zero_le _) (by have := fub; omega)
    · rintro n ⟨v, g⟩ ⟨i1, i2⟩
      try simp only at i1 i2 ⊢
      have hC' := CT_s hB hC i2.1
      have e1 : g 4 1 = (nD B : Int) := by rw [hC'.1.2.1, hDe]
      rw [FX10_alone_30, e1, hsh, if_pos (by omega)]
      obtain ⟨m1, m2⟩ := alone_mn hB h
      refine Wp_some ⟨?_, i2.1⟩
      show v = _
      rw [i1, m1]
      unfold bwo
      rw [if_neg m2]
    · rintro n i ⟨v, g⟩ hi ⟨i1, i2⟩
      try simp only at i1 i2 ⊢
      left
      have hC' := CT_s hB hC i2.1
      have e1 : g 4 1 = (nD B : Int) := by rw [hC'.1.2.1, hDe]
      rw [FX10_alone_30, e1, hsh, if_neg (by omega)]
      refine forR (fun n' y (s : Mm) => FX10_alone_46 (FX10_alone_30 n) n' x v (i : Int) y s) (fun e s => Kp (fun a _ => a = 49) g s ∧ (∀ d, d < e → s 49 d = alc x i d) ∧ ∀ d, e ≤ d → s 49 d = g 49 d)
        (fun o => ∃ s' : Int × Mm, o = FX10_alone_30 n x s'.1 ((i + 1 : Nat) : Int) s'.2 ∧ s'.1 = bwo (mn okA (gAl B x) (i + 1)) ∧ AI B f s'.2) (nD B) ?_ ?_ fu 0 g ⟨Kp_r _ _, fun d hd => by omega, fun d _ => rfl⟩ (by omega) (by have := fub; omega)
      · rintro n' s ⟨j1, j2, j3⟩
        have hk : Kp Sc f s := Kp_t i2.1 (Kp_m j1 (fun a j h => by unfold Sc; omega))
        have hC2 := CT_s hB hC hk
        have e2 : s 4 1 = (nD B : Int) := by rw [hC2.1.2.1, hDe]
        have hW : WD B (fun d => if d < nD B then alc x i d else -1) := fun d hd => by
          have := alc_W hB h i d hd
          try simp only
          split <;> omega
        have hX49 : ∀ d, d < 6 → s 49 d = (fun d => if d < nD B then alc x i d else -1) d := fun d hd => by
          try simp only
          by_cases q : d < nD B
          · rw [if_pos q]; exact j2 d q
          · rw [if_neg q, j3 d (by omega)]; exact i2.2.2.2.2.2.1 d (by omega) hd
        have hX : CX B (fun d => if d < nD B then alc x i d else -1) (-1) (-1) 0 (B 0 3) s := by
          refine ⟨hX49, ?_, ?_, ?_, ?_, hW, y7, y8⟩
          · rw [j1 48 2 (by omega)]; exact i2.2.1
          · rw [j1 48 3 (by omega)]; exact i2.2.2.1
          · rw [j1 48 4 (by omega)]; exact i2.2.2.2.1
          · rw [j1 48 5 (by omega)]; exact i2.2.2.2.2.1
        have h50 : ∀ j, j < 6 → s 50 j = (j : Int) := fun j hj => by rw [j1 50 j (by omega)]; exact i2.2.2.2.2.2.2 j hj
        obtain ⟨g2, w1, w2, w3, w4⟩ := walk_W hB hC2 hX (OD_id B) (fun j hj => h50 j (by have := (WF_C hB).1; omega)) ⟨by rw [hk 55 0 (fun q => by unfold Sc at q; omega)]; exact h0.1, by rw [hk 56 0 (fun q => by unfold Sc at q; omega)]; exact h0.2⟩
        have hk2 : Kp Sc f g2 := Kp_t hk (Kp_m w2 (fun _ _ => S5_Sc))
        have hC3 := CT_s hB hC hk2
        have k5 : ∀ a j, a < 52 → g2 a j = s a j := fun a j ha => w2 a j (fun q => by unfold S5 at q; omega)
        have ev : val B (fun d => if d < nD B then alc x i d else -1) = gAl B x i := val_c (fun d hd => by (try simp only); rw [if_pos hd])
        have rv := val_r hB hW
        have rs := (sumf_r hB (bts (inT B (pas B idn (wd B (fun d => if d < nD B then alc x i d else -1) (-1) (-1) 0 (B 0 3)) (nD B))) (nC B))).1
        have rc := csts_r hB hW
        show ∃ s', FX10_alone_46 (FX10_alone_30 n) (n' + 1) x v (i : Int) _ s = _ ∧ _
        rw [FX10_alone_46, if_pos (by omega)]
        unfold FX10_alone_88
        rw [w1]
        simp only [Option.bind_some]
        rw [keptBits_e hB hC3 w4, b2_some, payOf_e hB hC3, b2_some, costOfAll49_e hB hC3 hW (fun d hd => by rw [k5 49 d (by decide)]; exact hX49 d hd), b2_some, w32s (by omega) (by omega), nx i (by omega)]
        refine ⟨(_, g2), rfl, ?_, hk2, ?_, ?_, ?_, ?_, fun d hd hd6 => ?_, fun j hj => ?_⟩
        · show jMax v _ = _
          rw [i1, ← bwo_s (p := okA) (c := gAl B x) (k := i) rfl (by rw [← ev]; exact rv) (hr i), ← ev]
          congr 1
          unfold val
          omega
        · show g2 48 2 = -1
          rw [k5 48 2 (by decide)]; exact hX.2.1
        · show g2 48 3 = -1
          rw [k5 48 3 (by decide)]; exact hX.2.2.1
        · show g2 48 4 = B 0 3
          rw [k5 48 4 (by decide)]; exact hX.2.2.2.1
        · show g2 48 5 = 0
          rw [k5 48 5 (by decide)]; exact hX.2.2.2.2.1
        · show g2 49 d = -1
          rw [k5 49 d (by decide), hX49 d hd6]
          try simp only
          rw [if_neg (by omega)]
        · show g2 50 j = (j : Int)
          rw [k5 50 j (by decide)]; exact h50 j hj
      · rintro n' e s he ⟨j1, j2, j3⟩
        left
        have hk : Kp Sc f s := Kp_t i2.1 (Kp_m j1 (fun a j h => by unfold Sc; omega))
        have hC2 := CT_s hB hC hk
        have e2 : s 4 1 = (nD B : Int) := by rw [hC2.1.2.1, hDe]
        refine ⟨up s 49 e (alc x i e), ?_, Kp_u j1 rfl, fun d hd => ?_, fun d hd => ?_⟩
        · show FX10_alone_46 (FX10_alone_30 n) (n' + 1) x v (i : Int) (e : Int) s = _
          rw [FX10_alone_46, if_neg (by omega), holds_e, b2_some]
          unfold FX10_alone_81 alc
          rw [if_pos (show (0 : Int) ≤ (e : Int) ∧ (e : Int) < 6 by omega), if_pos (show (0 : Int) ≤ (e : Int) ∧ (e : Int) < 6 by omega), nx e (by omega), Int.toNat_natCast]
          by_cases q : hbit (i : Int) e = true
          · rw [if_pos q, if_neg (by decide), if_pos q]
          · rw [if_neg q, if_pos rfl, if_neg q]
        · by_cases q : d = e
          · subst q; rw [up_s]
          · rw [up_n (by omega)]; exact j2 d (by omega)
        · rw [up_n (by omega)]; exact j3 d (by omega)
  · rw [if_neg h, if_neg h, if_pos rfl]
    exact Wp_some ⟨rfl, Kp_r _ _⟩

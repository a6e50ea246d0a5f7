/-! the model's table, PLAN by PLAN -/
theorem vW_rr {B : Mm} (hB : WF B) (k : Nat) : 0 ≤ vW B (sumf B 4) k ∧ vW B (sumf B 4) k ≤ 20000 := by
  have := (sumf_r hB (kp B k : Int)).1
  have := pco_r hB k
  unfold vW
  omega
theorem MT_k {B : Mm} {ok : Nat → Bool} {k : Nat} {f g : Mm} (h : MTb B ok k f) (hk : ∀ a j, ((169 ≤ a ∧ a ≤ 175) ∨ (a = 150 ∧ 31 ≤ j ∧ j ≤ 33)) → g a j = f a j) : MTb B ok k g := by
  obtain ⟨h1, h2, h3, h4, h5, h6, h7, h8⟩ := h
  refine ⟨by rw [hk 150 31 (by omega)]; exact h1, fun q => ?_, fun s hs => ?_, fun n hn => by rw [hk 173 n (by omega)]; exact h4 n hn, fun d hd => by rw [hk 174 d (by omega)]; exact h5 d hd, by rw [hk 150 33 (by omega)]; exact h6, fun c hc => by rw [hk 175 c (by omega)]; exact h7 c hc, fun c hc => by rw [hk 172 c (by omega)]; exact h8 c hc⟩
  · rw [hk 150 32 (by omega)]
    exact ⟨(h2 q).1, fun d hd => by rw [hk 169 d (by omega)]; exact (h2 q).2 d hd⟩
  · rw [hk 170 s (by omega), hk 171 s (by omega)]
    exact h3 s hs
theorem planTells_W {B f : Mm} (hB : WF B) (hM : MO B f) {ok : Nat → Bool} {k : Nat} (hk : k < 20000) (hok : ok k = true) (h162 : ∀ d, d < nD B → f 162 d = pch B k d) (h164 : ∀ e, e < nD B → f 164 e = pw B k e) (hP : MP B idn (pw B k) (nD B) f) (hT : MTb B ok k f) :
    Wp (FX11_planTells (k : Int) f) (fun g => Kp (fun a j => (169 ≤ a ∧ a ≤ 175) ∨ (a = 150 ∧ 31 ≤ j ∧ j ≤ 33)) f g ∧ MTb B ok (k + 1) g) := by
  obtain ⟨hC6, hCe⟩ := WF_C hB
  obtain ⟨hD6, hDe⟩ := WF_D hB
  obtain ⟨t1, t2, t3, t4, t5, t6, t7, t8⟩ := hT
  obtain ⟨p64, pe⟩ := kp_r hB k
  obtain ⟨l61, le⟩ := ls_r hB k
  obtain ⟨c1, c2, c3, c4⟩ := cPow_r hB
  have rc := pco_r hB k
  have rp := (sumf_r hB (kp B k : Int)).1
  have eV : vW B (sumf B 4) k = (10000 - sumf B 4 (kp B k : Int)) + pco B k := rfl
  have ek : bts (inT B (pas B idn (pw B k) (nD B))) (nC B) = kpI B k := rfl
  have mr := mn_r (p := ok) (c := vW B (sumf B 4)) (n := k) (M := 20000) (fun j _ _ => vW_rr hB j) (by decide)
  have wr := wy_r ok (vW B (sumf B 4)) k
  unfold FX11_planTells FX11_planTells_0
  rw [keptNow_e hB hM hP, b2_some, costNow_e hB hM (pch_W hB k) h162, b2_some, mpayOf_e hB hM, b2_some, ek, pe, show csts B (pch B k) = pco B k from rfl, w32s (by omega) (by omega)]
  obtain ⟨g1, e1, k1, a1⟩ := tells22 hB hM (k : Int) (kp B k : Int) (pco B k) (sumf B 4 (kp B k : Int) - pco B k) (fun c hc => by
    rw [t7 c hc]
    have := cnt_r (p := fun j => ok j && hbit (kp B j : Int) c) k
    omega)
  rw [e1]
  have hM1 := MO_k hM (fun a j h1 h2 => k1 a j (by omega))
  have v31 : g1 150 31 = f 150 31 := k1 150 31 (by omega)
  have v32 : g1 150 32 = f 150 32 := k1 150 32 (by omega)
  have hD : (f 150 31 < sumf B 4 (kp B k : Int) - pco B k) ↔ (mn ok (vW B (sumf B 4)) k = -1 ∨ vW B (sumf B 4) k < mn ok (vW B (sumf B 4)) k) := by
    rw [t1]
    unfold bwo
    by_cases q : mn ok (vW B (sumf B 4)) k = -1
    · rw [if_pos q]
      constructor <;> intro h <;> omega
    · rw [if_neg q]
      constructor <;> intro h <;> omega
  obtain ⟨g2, e2, k2, a2, a3, a4⟩ := tells61 hB hM1 (k : Int) (kp B k : Int) (pco B k) (sumf B 4 (kp B k : Int) - pco B k) (fun h => by
    rw [v31] at h
    have hn : mn ok (vW B (sumf B 4)) k ≠ -1 := fun q => by have := hD.mpr (Or.inl q); omega
    rw [v32, (t2 hn).1]
    omega)
  rw [e2]
  have hM2 := MO_k hM1 (fun a j h1 h2 => k2 a j (by unfold S61; omega))
  obtain ⟨g3, e3, k3, a5⟩ := tells139 hB hM2 (k : Int) (kp B k : Int) (pco B k)
  rw [e3]
  have hM3 := MO_k hM2 (fun a j h1 h2 => k3 a j (by omega))
  obtain ⟨g4, e4, k4, a6⟩ := tells202 hB hM3 (pco B k) (w := pw B k) (fun d hd => by rw [k3 164 d (by omega), k2 164 d (by unfold S61; omega), k1 164 d (by omega)]; exact h164 d hd)
  rw [e4, show lsw (pw B k) (nD B) = lsI B k from rfl, le]
  obtain ⟨g5, e5, k5, a7⟩ := tells287 (f := g4) (pco B k) (L := lsN B k) (by omega)
  rw [e5, tells329]
  have hM5 : MO B g5 := MO_k hM3 (fun a j h1 h2 => by rw [k5 a j (by omega), k4 a j (by omega)])
  have hM6 : MO B (up g5 150 33 (jMax (g5 150 33) (lsN B k : Int))) := MO_k hM5 (fun a j h1 h2 => up_n (by omega))
  refine Wp_mono (tells354 hB hM6) (fun g ⟨k7, a8⟩ => ?_)
  have r1 : ∀ a j, a ≠ 175 → ¬ S61 a j → g2 a j = f a j := fun a j h1 h2 => by rw [k2 a j h2, k1 a j h1]
  have r2 : ∀ a j, ¬ (170 ≤ a ∧ a ≤ 174) → ¬ (a = 150 ∧ j = 33) → g a j = g2 a j := fun a j h1 h2 => by rw [k7 a j (by omega), up_n h2, k5 a j (by omega), k4 a j (by omega), k3 a j (by omega)]
  have em : mn ok (vW B (sumf B 4)) (k + 1) = if mn ok (vW B (sumf B 4)) k = -1 ∨ vW B (sumf B 4) k < mn ok (vW B (sumf B 4)) k then vW B (sumf B 4) k else mn ok (vW B (sumf B 4)) k := by
    show (if ok k = true ∧ _ then _ else _) = _
    rw [hok]
    simp only [true_and]
  have ef : fm ok (vW B (sumf B 4)) (k + 1) = if mn ok (vW B (sumf B 4)) k = -1 ∨ vW B (sumf B 4) k < mn ok (vW B (sumf B 4)) k then (k : Int) else fm ok (vW B (sumf B 4)) k := by
    show (if ok k = true ∧ _ then _ else _) = _
    rw [hok]
    simp only [true_and]
  have ew : wy ok (vW B (sumf B 4)) (k + 1) = if mn ok (vW B (sumf B 4)) k = -1 ∨ vW B (sumf B 4) k < mn ok (vW B (sumf B 4)) k then 1 else if vW B (sumf B 4) k = mn ok (vW B (sumf B 4)) k then wy ok (vW B (sumf B 4)) k + 1 else wy ok (vW B (sumf B 4)) k := by
    show (if ok k = true ∧ _ then _ else if ok k = true ∧ _ then _ else _) = _
    rw [hok]
    simp only [true_and]
  have mo : ∀ z w, mxo z ok w (k + 1) = jMax (mxo z ok w k) (w k) := fun z w => by
    show (if ok k = true then jMax (mxo z ok w k) (w k) else mxo z ok w k) = _
    rw [if_pos hok]
  refine ⟨fun a j q => ?_, ?_, fun hn => ?_, fun s hs => ?_, fun n hn => ?_, fun d hd => ?_, ?_, fun c hc => ?_, fun c hc => ?_⟩
  · rw [r2 a j (by omega) (by omega), r1 a j (by omega) (by unfold S61; omega)]
  · rw [r2 150 31 (by omega) (by omega), a2, v31, em]
    by_cases q : f 150 31 < sumf B 4 (kp B k : Int) - pco B k
    · rw [if_pos q, if_pos (hD.mp q)]
      unfold bwo
      rw [if_neg (by omega)]
      omega
    · rw [if_neg q, if_neg (fun h => q (hD.mpr h)), t1]
  · rw [r2 150 32 (by omega) (by omega), a3, v31, v32, ew, ef]
    by_cases q : f 150 31 < sumf B 4 (kp B k : Int) - pco B k
    · rw [if_pos q, if_pos (hD.mp q), if_pos (hD.mp q)]
      refine ⟨rfl, fun d hd => ?_⟩
      rw [r2 169 d (by omega) (by omega), a4 d hd, v31, if_pos q, k1 162 d (by omega), h162 d hd, Int.toNat_natCast]
    · have hnn := mt hD.mpr q
      have h1 : mn ok (vW B (sumf B 4)) k ≠ -1 := fun h => hnn (Or.inl h)
      obtain ⟨u1, u2⟩ := t2 h1
      have e31 : f 150 31 = 10000 - mn ok (vW B (sumf B 4)) k := by rw [t1]; unfold bwo; rw [if_neg h1]
      rw [if_neg q, if_neg hnn, if_neg hnn, u1]
      refine ⟨?_, fun d hd => ?_⟩
      · by_cases q2 : vW B (sumf B 4) k = mn ok (vW B (sumf B 4)) k
        · rw [if_pos q2, if_pos (by omega)]
        · rw [if_neg q2, if_neg (by omega)]
      · rw [r2 169 d (by omega) (by omega), a4 d hd, v31, if_neg q, k1 169 d (by omega)]
        exact u2 d hd
  · have hp : (fun j => ok j && sub B s j) k = decide (bAnd (s : Int) (bXor (kp B k : Int) (-1)) = 0) := by
      have := sub_d ⟨s, by omega⟩ ⟨kp B k, p64⟩
      try simp only at this ⊢
      rw [hok, Bool.true_and]
      unfold sub
      exact decide_eq_decide.mpr this.symm
    obtain ⟨w1, w2, w3⟩ := far_s (p := fun j => ok j && sub B s j) (c := pco B) (k := k) (by omega)
    simp only [hp, decide_eq_true_eq] at w1 w2 w3
    obtain ⟨s1, s2⟩ := a5 s hs
    obtain ⟨z1, z2⟩ := t3 s hs
    have y0 : g2 170 s = f 170 s := r1 170 s (by omega) (by unfold S61; omega)
    have y1 : g2 171 s = f 171 s := r1 171 s (by omega) (by unfold S61; omega)
    have x0 : g 170 s = g3 170 s := by rw [k7 170 s (by omega), up_n (by omega), k5 170 s (by omega), k4 170 s (by omega)]
    have x1 : g 171 s = g3 171 s := by rw [k7 171 s (by omega), up_n (by omega), k5 171 s (by omega), k4 171 s (by omega)]
    rw [y0, z1] at s1 s2
    rw [y1] at s2
    refine ⟨by rw [x0, s1, w1], fun hne => ?_⟩
    rw [x1, s2, w2]
    by_cases q : bAnd (s : Int) (bXor (kp B k : Int) (-1)) = 0 ∧ pco B k < far (mn (fun j => ok j && sub B s j) (pco B) k)
    · rw [if_pos q, if_pos q]
    · rw [if_neg q, if_neg q]
      exact z2 (by rw [← w3 q]; exact hne)
  · obtain ⟨w1, -, -⟩ := far_s (p := fun j => ok j && decide (n ≤ lsN B j)) (c := pco B) (k := k) (by omega)
    simp only [hok, Bool.true_and, decide_eq_true_eq] at w1
    have x0 : g 173 n = g5 173 n := by rw [k7 173 n (by omega), up_n (by omega)]
    have y0 : g4 173 n = f 173 n := by rw [k4 173 n (by omega), k3 173 n (by omega)]; exact r1 173 n (by omega) (by unfold S61; omega)
    rw [x0, a7 n hn, y0, t4 n hn, w1]
  · have x0 : g 174 d = g4 174 d := by rw [k7 174 d (by omega), up_n (by omega), k5 174 d (by omega)]
    have y0 : g3 174 d = f 174 d := by rw [k3 174 d (by omega)]; exact r1 174 d (by omega) (by unfold S61; omega)
    rw [x0, a6 d hd, y0, t5 d hd, mo]
  · have x0 : g5 150 33 = f 150 33 := by rw [k5 150 33 (by omega), k4 150 33 (by omega), k3 150 33 (by omega)]; exact r1 150 33 (by omega) (by unfold S61; omega)
    rw [k7 150 33 (by omega), up_s, x0, t6, mo, le]
  · rw [r2 175 c (by omega) (by omega), k2 175 c (by unfold S61; omega), a1 c hc, t7 c hc, cnt_s, hok, Bool.true_and]
  · have hpr := pas_r (B := B) (od := idn) (w := pw B k) (b := c) (nD B)
    have epp : pp B k c = pas B idn (pw B k) (nD B) c := rfl
    have x0 : up g5 150 33 (jMax (g5 150 33) (lsN B k : Int)) 167 c = pp B k c := by
      rw [up_n (by omega), k5 167 c (by omega), k4 167 c (by omega), k3 167 c (by omega), r1 167 c (by omega) (by unfold S61; omega)]
      exact hP.1 c (by omega)
    have x1 : up g5 150 33 (jMax (g5 150 33) (lsN B k : Int)) 172 c = f 172 c := by
      rw [up_n (by omega), k5 172 c (by omega), k4 172 c (by omega), k3 172 c (by omega), r1 172 c (by omega) (by unfold S61; omega)]
    rw [a8 c hc, x0, x1, t8 c hc]
    by_cases q : pp B k c = -1
    · have t := mn_f (p := fun j => ok j && decide (pp B j c ≠ -1)) (c := fun j => pp B j c) (k := k) (by (try simp only); rw [decide_eq_false (fun h => h q), Bool.and_false])
      rw [if_neg (fun h => h.1 q), t.1]
    · obtain ⟨w1, -, -⟩ := far_s (p := fun j => ok j && decide (pp B j c ≠ -1)) (c := fun j => pp B j c) (k := k) (by (try simp only); omega)
      simp only [hok, Bool.true_and, decide_eq_true_eq] at w1
      rw [w1]
theorem dO_out {B : Mm} (hB : WF B) {d : Nat} (hd : nD B ≤ d) : ∀ k, k ≤ nA B → dO B k d = -1
  | 0, _ => rfl
  | k + 1, h => by
    have h1 := hB.2.2.2.2.2.2.2.2.2.2.2.2 k (by omega)
    have h2 := (WF_D hB).2
    unfold dO
    rw [if_neg (by omega)]
    exact dO_out hB hd k (by omega)
theorem dn_out {B : Mm} (hB : WF B) {d : Nat} (hd : nD B ≤ d) : dn B d = -1 := dO_out hB hd _ (Nat.le_refl _)
theorem MT_0 {B : Mm} {ok : Nat → Bool} {g : Mm} (hB : WF B) (h1 : g 150 31 = -1000000) (h2 : g 150 33 = -1) (h3 : ∀ s, s < 64 → g 170 s = 10000000) (h4 : ∀ s, s < 61 → g 173 s = 10000000) (h5 : ∀ s, s < 6 → g 172 s = 10000000 ∧ g 174 s = 0 ∧ g 175 s = 0) : MTb B ok 0 g := by
  have hC6 := (WF_C hB).1
  have hD6 := (WF_D hB).1
  have hP := (cPow_r hB).2.1
  refine ⟨h1, fun q => absurd rfl q, fun s hs => ⟨h3 s (by omega), fun q => absurd rfl q⟩, h4, fun d hd => (h5 d (by omega)).2.1, h2, fun c hc => (h5 c (by omega)).2.2, fun c hc => (h5 c (by omega)).1⟩
theorem laysPlans_105 {B f : Mm} (hB : WF B) (hM : MO B f) (o : Int) {g0 : Mm} (hk0 : Kp Sm f g0) (h0 : ∀ d, nD B ≤ d → d < 6 → g0 162 d = -1) (h1 : g0 150 23 = -1) (h2 : ∀ i, i < 6 → g0 166 i = (i : Int)) (h3 : MTb B (okP B o) 0 g0) :
    Wp (FX11_laysPlans__105 fu o 0 g0) (fun g => Kp Sm f g ∧ MTb B (okP B o) (nP B) g) := by
  have hN := nP_r hB
  obtain ⟨hD6, hDe⟩ := WF_D hB
  obtain ⟨hC6, hCe⟩ := WF_C hB
  refine forX (fun n x (s : Mm) => FX11_laysPlans__105 n o x s) (fun k g => Kp Sm f g ∧ (∀ d, nD B ≤ d → d < 6 → g 162 d = -1) ∧ g 150 23 = -1 ∧ (∀ i, i < 6 → g 166 i = (i : Int)) ∧ MTb B (okP B o) k g) _ (nP B) ?_ ?_ fu 0 g0 ⟨hk0, h0, h1, h2, h3⟩ (by omega) (by have := fub; omega)
  · rintro n g ⟨i1, i2, i3, i4, i5⟩
    rw [FX11_laysPlans__105, plans_e hB (MO_s hM i1), b2_some, if_pos (by omega)]
    exact Wp_some ⟨i1, i5⟩
  · rintro n k g hk ⟨i1, i2, i3, i4, i5⟩
    left
    obtain ⟨g1, e1, k1, a1, a2⟩ := planIs_W hB (MO_s hM i1) hk
    have k1' : Kp Sm f g1 := Kp_t i1 (Kp_m k1 (fun a j h => by unfold Sm; omega))
    have hM1 := MO_s hM k1'
    have T1 : MTb B (okP B o) k g1 := MT_k i5 (fun a j h => k1 a j (by omega))
    have z1 : ∀ d, nD B ≤ d → d < 6 → g1 162 d = -1 := fun d h h' => by rw [a2 d h]; exact i2 d h h'
    have z2 : g1 150 23 = -1 := by rw [k1 150 23 (by omega)]; exact i3
    have z3 : ∀ i, i < 6 → g1 166 i = (i : Int) := fun i h => by rw [k1 166 i (by omega)]; exact i4 i h
    have run : okP B o k = true → ∃ s', FX11_laysPlans__134 (FX11_laysPlans__105 n) o (k : Int) g1 = FX11_laysPlans__105 n o ((k + 1 : Nat) : Int) s' ∧ Kp Sm f s' ∧ (∀ d, nD B ≤ d → d < 6 → s' 162 d = -1) ∧ s' 150 23 = -1 ∧ (∀ i, i < 6 → s' 166 i = (i : Int)) ∧ MTb B (okP B o) (k + 1) s' := by
      intro hok
      have hX : MX B (pch B k) (-1) (-1) g1 := ⟨fun d hd => by
        by_cases q : d < nD B
        · exact a1 d q
        · rw [z1 d (by omega) hd]; unfold pch; rw [if_neg q], z2, fun h => by omega, pch_W hB k⟩
      obtain ⟨g2, e2, k2, b1⟩ := goes0_W hB hM1 hX
      have hM2 := MO_k hM1 (fun a j h1 h2 => k2 a j (by omega))
      obtain ⟨g3, e3, k3, b2'⟩ := passes_W hB hM2 (OD_id B) (w := pw B k) (fun i hi => by rw [k2 166 i (by omega)]; exact z3 i (by omega)) (fun e he => ⟨(b1 e he).2.2, pw_r hB k e⟩)
      have hM3 := MO_k hM2 (fun a j h1 h2 => k3 a j (by omega))
      obtain ⟨g4, e4, k4, T4⟩ := planTells_W hB hM3 (ok := okP B o) (k := k) (by omega) hok (fun d hd => by rw [k3 162 d (by omega), k2 162 d (by omega)]; exact a1 d hd) (fun e he => by rw [k3 164 e (by omega)]; exact (b1 e he).2.2) b2' (MT_k T1 (fun a j h => by rw [k3 a j (by omega), k2 a j (by omega)]))
      have kk : ∀ a j, ¬ (163 ≤ a ∧ a ≤ 165) → ¬ (167 ≤ a ∧ a ≤ 175) → ¬ (a = 150 ∧ 31 ≤ j ∧ j ≤ 33) → g4 a j = g1 a j := fun a j q1 q2 q3 => by rw [k4 a j (by omega), k3 a j (by omega), k2 a j (by omega)]
      refine ⟨g4, ?_, fun a j q => ?_, fun d h h' => by rw [kk 162 d (by omega) (by omega) (by omega)]; exact z1 d h h', by rw [kk 150 23 (by omega) (by omega) (by omega)]; exact z2, fun i hi => by rw [kk 166 i (by omega) (by omega) (by omega)]; exact z3 i hi, T4⟩
      · unfold FX11_laysPlans__134 FX11_laysPlans__147
        rw [e2]
        simp only [Option.bind_some]
        rw [e3]
        simp only [Option.bind_some]
        rw [e4]
        simp only [Option.bind_some]
        rw [nx k (by omega)]
      · rw [kk a j (fun h => q (by unfold Sm; omega)) (fun h => q (by unfold Sm; omega)) (fun h => q (by unfold Sm; omega)), k1' a j q]
    have e0 : FX11_laysPlans__105 (n + 1) o (k : Int) g = if o = -1 then FX11_laysPlans__134 (FX11_laysPlans__105 n) o (k : Int) g1 else (if ff (oth B o k) (nD B) = -1 then FX11_laysPlans__134 (FX11_laysPlans__105 n) o (k : Int) g1 else FX11_laysPlans__105 n o ((k + 1 : Nat) : Int) g1) := by
      rw [FX11_laysPlans__105, plans_e hB (MO_s hM i1), b2_some, if_neg (by omega), e1]
      simp only [Option.bind_some]
      rw [hasOther_e hB hM1 a1 o, b2_some]
      unfold FX11_laysPlans__147
      rw [nx k (by omega)]
      by_cases q : ff (oth B o k) (nD B) = -1
      · rw [if_pos q, if_pos q, if_pos rfl]
      · rw [if_neg q, if_neg q, if_neg (show ¬ (1 : Int) = 0 by decide)]
    rw [e0]
    by_cases q : o = -1
    · rw [if_pos q]
      exact run (decide_eq_true (Or.inl q))
    · rw [if_neg q]
      by_cases q2 : ff (oth B o k) (nD B) = -1
      · rw [if_pos q2]
        exact run (decide_eq_true (Or.inr q2))
      · rw [if_neg q2]
        refine ⟨g1, rfl, k1', z1, z2, z3, MT_skip T1 (decide_eq_false (fun h => ?_))⟩
        rcases h with h | h
        · exact q h
        · exact q2 h
theorem laysPlans_W {B f : Mm} (hB : WF B) (hM : MO B f) (o : Int) : Wp (FX11_laysPlans_ o f) (fun g => Kp Sm f g ∧ MTb B (okP B o) (nP B) g) := by
  unfold FX11_laysPlans_ FX11_laysPlans__0
  refine Wp_bind (lays_W hB hM) (fun g1 ⟨k1, a1, a2⟩ => ?_)
  have k1' : Kp Sm f g1 := Kp_m k1 (fun a j h => by unfold Sm; omega)
  refine Wp_bind (byNumbers_W g1) (fun g2 ⟨k2, b1⟩ => ?_)
  have k2' : Kp Sm f (up (up g2 150 31 (-1000000)) 150 33 (-1)) := Kp_u (Kp_u (Kp_t k1' (Kp_m k2 (fun a j h => by unfold Sm; omega))) (by unfold Sm; omega)) (by unfold Sm; omega)
  have y1 : ∀ d, nD B ≤ d → d < 6 → up (up g2 150 31 (-1000000)) 150 33 (-1) 162 d = -1 := fun d h h' => by rw [up_n (by omega), up_n (by omega), k2 162 d (by omega), a2 d h', dn_out hB h]
  have y2 : up (up g2 150 31 (-1000000)) 150 33 (-1) 150 23 = -1 := by rw [up_n (by omega), up_n (by omega), k2 150 23 (by omega), a1]
  have y3 : ∀ i, i < 6 → up (up g2 150 31 (-1000000)) 150 33 (-1) 166 i = (i : Int) := fun i h => by rw [up_n (by omega), up_n (by omega)]; exact b1 i h
  have y4 : up (up g2 150 31 (-1000000)) 150 33 (-1) 150 31 = -1000000 := by rw [up_n (by omega), up_s]
  have y5 : up (up g2 150 31 (-1000000)) 150 33 (-1) 150 33 = -1 := by rw [up_s]
  generalize up (up g2 150 31 (-1000000)) 150 33 (-1) = G at *
  refine forX (fun n x (s : Mm) => FX11_laysPlans__22 n o x s) (fun i s => Kp (fun a _ => a = 170) G s ∧ ∀ e, e < i → s 170 e = 10000000) _ 64 ?_ ?_ fu 0 G ⟨Kp_r _ _, fun e he => by omega⟩ (by omega) (by have := fub; omega)
  · rintro n s1 ⟨q1, p1⟩
    rw [FX11_laysPlans__22, if_pos (by omega)]
    unfold FX11_laysPlans__43
    refine forX (fun n x (s : Mm) => FX11_laysPlans__45 n o x s) (fun i s => Kp (fun a _ => a = 173) s1 s ∧ ∀ e, e < i → s 173 e = 10000000) _ 61 ?_ ?_ fu 0 s1 ⟨Kp_r _ _, fun e he => by omega⟩ (by omega) (by have := fub; omega)
    · rintro n s2 ⟨q2, p2⟩
      rw [FX11_laysPlans__45, if_pos (by omega)]
      unfold FX11_laysPlans__66
      refine forX (fun n x (s : Mm) => FX11_laysPlans__68 n o x s) (fun i s => Kp (fun a _ => a = 172 ∨ a = 174 ∨ a = 175) s2 s ∧ ∀ e, e < i → s 172 e = 10000000 ∧ s 174 e = 0 ∧ s 175 e = 0) _ 6 ?_ ?_ fu 0 s2 ⟨Kp_r _ _, fun e he => by omega⟩ (by omega) (by have := fub; omega)
      · rintro n s3 ⟨q3, p3⟩
        rw [FX11_laysPlans__68, if_pos (by omega)]
        unfold FX11_laysPlans__103
        have kk : ∀ a j, ¬ (170 ≤ a ∧ a ≤ 175) → s3 a j = G a j := fun a j h => by rw [q3 a j (by omega), q2 a j (by omega), q1 a j (by omega)]
        refine laysPlans_105 hB hM o (fun a j q => by rw [kk a j (fun h => q (by unfold Sm; omega))]; exact k2' a j q) (fun d h h' => by rw [kk 162 d (by omega)]; exact y1 d h h') (by rw [kk 150 23 (by omega)]; exact y2) (fun i h => by rw [kk 166 i (by omega)]; exact y3 i h) (MT_0 hB (by rw [kk 150 31 (by omega)]; exact y4) (by rw [kk 150 33 (by omega)]; exact y5) (fun s hs => by rw [q3 170 s (by omega), q2 170 s (by omega)]; exact p1 s hs) (fun s hs => by rw [q3 173 s (by omega)]; exact p2 s hs) p3)
      · rintro n i s3 hi ⟨q3, p3⟩
        left
        rw [FX11_laysPlans__68, if_neg (by omega), if_pos (by omega), if_pos (by omega), if_pos (by omega), nx i (by omega), Int.toNat_natCast]
        refine ⟨_, rfl, Kp_u (Kp_u (Kp_u q3 (by omega)) (by omega)) (by omega), fun e he => ?_⟩
        by_cases h : e = i
        · subst h
          refine ⟨?_, ?_, ?_⟩
          · rw [up_n (by omega), up_n (by omega), up_s]
          · rw [up_n (by omega), up_s]
          · rw [up_s]
        · rw [up_n (by omega), up_n (by omega), up_n (by omega), up_n (by omega), up_n (by omega), up_n (by omega), up_n (by omega), up_n (by omega), up_n (by omega)]
          exact p3 e (by omega)
    · rintro n i s2 hi ⟨q2, p2⟩
      left
      rw [FX11_laysPlans__45, if_neg (by omega), if_pos (by omega), nx i (by omega), Int.toNat_natCast]
      refine ⟨_, rfl, Kp_u q2 rfl, fun e he => ?_⟩
      by_cases h : e = i
      · subst h; rw [up_s]
      · rw [up_n (by omega)]; exact p2 e (by omega)
  · rintro n i s1 hi ⟨q1, p1⟩
    left
    rw [FX11_laysPlans__22, if_neg (by omega), if_pos (by omega), nx i (by omega), Int.toNat_natCast]
    refine ⟨_, rfl, Kp_u q1 rfl, fun e he => ?_⟩
    by_cases h : e = i
    · subst h; rw [up_s]
    · rw [up_n (by omega)]; exact p1 e (by omega)
/-- of all -/
def okA : Nat → Bool := fun _ => true
theorem okP_n (B : Mm) : okP B (-1) = okA := by funext k; exact decide_eq_true (Or.inl rfl)
theorem laysPlans0_W {B f : Mm} (hB : WF B) (hM : MO B f) : Wp (FX11_laysPlans f) (fun g => Kp Sm f g ∧ MTb B okA (nP B) g) := by
  unfold FX11_laysPlans FX11_laysPlans_0
  refine Wp_bind (laysPlans_W hB hM (-1)) (fun g ⟨k, t⟩ => ?_)
  rw [okP_n] at t
  exact Wp_some ⟨k, t⟩

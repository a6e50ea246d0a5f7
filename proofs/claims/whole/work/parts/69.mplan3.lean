/-! looks at the table: the model; a deed alone -/
theorem andA {p : Nat → Bool} : (fun j => okA j && p j) = p := by funext j; exact Bool.true_and _
theorem bW_A (B : Mm) : mn okA (vW B (sumf B 4)) (nP B) = bW B (sumf B 4) := rfl
theorem bW_p {B : Mm} (hB : WF B) : 0 ≤ bW B (sumf B 4) ∧ bW B (sumf B 4) ≤ 20000 := bW_r hB (fun x => (sumf_r hB x).1)
theorem far_lt {v : Int} (h : -1 ≤ v ∧ v ≤ 20000) : (far v < 10000000 ↔ v ≠ -1) ∧ (v ≠ -1 → far v = v) ∧ (v = -1 → far v = 10000000) := by
  unfold far
  by_cases q : v = -1
  · rw [if_pos q]; exact ⟨⟨fun h => by omega, fun h => absurd q h⟩, fun h => absurd q h, fun _ => rfl⟩
  · rw [if_neg q]; exact ⟨⟨fun _ => q, fun _ => by omega⟩, fun _ => rfl, fun h => absurd h q⟩
theorem mq_best {B : Mm} (hB : WF B) : QM B FX11_best (S_best B) := by
  intro f hM
  have k0 : Kp Sm f (up f 150 0 0) := Kp_u (Kp_r _ _) (by unfold Sm; omega)
  have hM0 := MO_s hM k0
  have hb := bW_p hB
  unfold FX11_best FX11_best_0 S_best
  rw [isBridge_e hM0, b2_some]
  by_cases h : 0 < B 0 8
  · rw [if_pos h, if_pos h, if_neg (by decide)]
    refine Wp_bind (laysPlans0_W hB hM0) (fun g ⟨k1, t⟩ => Wp_some ⟨?_, Kp_t k0 k1⟩)
    rw [t.1, bW_A]
    unfold bwo
    rw [if_neg (by omega)]
  · rw [if_neg h, if_neg h, if_pos rfl]
    exact Wp_some ⟨rfl, k0⟩
theorem mq_ways {B : Mm} (hB : WF B) : QM B FX11_ways (S_ways B) := by
  intro f hM
  have k0 : Kp Sm f (up f 150 0 0) := Kp_u (Kp_r _ _) (by unfold Sm; omega)
  have hM0 := MO_s hM k0
  have hb := bW_p hB
  unfold FX11_ways FX11_ways_0 S_ways
  rw [isBridge_e hM0, b2_some]
  by_cases h : 0 < B 0 8
  · rw [if_pos h, if_pos h, if_neg (by decide)]
    refine Wp_bind (laysPlans0_W hB hM0) (fun g ⟨k1, t⟩ => Wp_some ⟨?_, Kp_t k0 k1⟩)
    exact (t.2.1 (by rw [bW_A]; omega)).1
  · rw [if_neg h, if_neg h, if_pos rfl]
    exact Wp_some ⟨rfl, k0⟩
theorem mq_plan {B : Mm} (hB : WF B) (x : Int) : QM B (FX11_plan x) (S_plan B x) := by
  intro f hM
  obtain ⟨hD6, hDe⟩ := WF_D hB
  have k0 : Kp Sm f (up f 150 0 0) := Kp_u (Kp_r _ _) (by unfold Sm; omega)
  have hM0 := MO_s hM k0
  have hb := bW_p hB
  unfold FX11_plan FX11_plan_0 S_plan
  rw [isDay_e hB hM0, b2_some]
  by_cases h : 0 ≤ x ∧ x < (nD B : Int)
  · rw [if_pos h, if_pos h, if_neg (by decide)]
    refine Wp_bind (laysPlans0_W hB hM0) (fun g ⟨k1, t⟩ => ?_)
    rw [if_pos (by omega)]
    exact Wp_some ⟨(t.2.1 (by rw [bW_A]; omega)).2 x.toNat (by omega), Kp_t k0 k1⟩
  · rw [if_neg h, if_neg h, if_pos rfl]
    exact Wp_some ⟨rfl, k0⟩
theorem mq_often {B : Mm} (hB : WF B) (x : Int) : QM B (FX11_often x) (S_often B x) := by
  intro f hM
  obtain ⟨hC6, hCe⟩ := WF_C hB
  have k0 : Kp Sm f (up f 150 0 0) := Kp_u (Kp_r _ _) (by unfold Sm; omega)
  have hM0 := MO_s hM k0
  unfold FX11_often FX11_often_0 S_often
  rw [isCart_e hB hM0, b2_some]
  by_cases h : 0 ≤ x ∧ x < (nC B : Int)
  · rw [if_pos h, if_pos h, if_neg (by decide)]
    refine Wp_bind (laysPlans0_W hB hM0) (fun g ⟨k1, t⟩ => ?_)
    rw [if_pos (by omega)]
    refine Wp_some ⟨?_, Kp_t k0 k1⟩
    rw [t.2.2.2.2.2.2.1 x.toNat (by omega), andA]
    rfl
  · rw [if_neg h, if_neg h, if_pos rfl]
    exact Wp_some ⟨rfl, k0⟩
theorem mq_most {B : Mm} (hB : WF B) (x : Int) : QM B (FX11_most x) (S_most B x) := by
  intro f hM
  obtain ⟨hD6, hDe⟩ := WF_D hB
  have k0 : Kp Sm f (up f 150 0 0) := Kp_u (Kp_r _ _) (by unfold Sm; omega)
  have hM0 := MO_s hM k0
  unfold FX11_most FX11_most_0 S_most
  rw [isDay_e hB hM0, b2_some]
  by_cases h : 0 ≤ x ∧ x < (nD B : Int)
  · rw [if_pos h, if_pos h, if_neg (by decide)]
    refine Wp_bind (laysPlans0_W hB hM0) (fun g ⟨k1, t⟩ => ?_)
    rw [if_pos (by omega)]
    refine Wp_some ⟨?_, Kp_t k0 k1⟩
    rw [t.2.2.2.2.1 x.toNat (by omega)]
    exact mxo_0 _ _
  · rw [if_neg h, if_neg h, if_pos rfl]
    exact Wp_some ⟨rfl, k0⟩
theorem mq_widest {B : Mm} (hB : WF B) : QM B FX11_widest (S_widest B) := by
  intro f hM
  have hN := nP_r hB
  have k0 : Kp Sm f (up f 150 0 0) := Kp_u (Kp_r _ _) (by unfold Sm; omega)
  have hM0 := MO_s hM k0
  unfold FX11_widest FX11_widest_0 S_widest
  rw [isBridge_e hM0, b2_some]
  by_cases h : 0 < B 0 8
  · rw [if_pos h, if_pos h, if_neg (by decide)]
    refine Wp_bind (laysPlans0_W hB hM0) (fun g ⟨k1, t⟩ => Wp_some ⟨?_, Kp_t k0 k1⟩)
    have e := mxo_1 (w := lsI B) (fun k => by have := (ls_r hB k).2; omega) (nP B - 1)
    rw [show nP B - 1 + 1 = nP B by omega] at e
    rw [t.2.2.2.2.2.1]
    exact e
  · rw [if_neg h, if_neg h, if_pos rfl]
    exact Wp_some ⟨rfl, k0⟩
theorem areCarts_e {B f : Mm} (hB : WF B) (hM : MO B f) (x : Int) : FX11_areCarts x f = some (if 0 < B 0 8 ∧ 0 ≤ x ∧ x < (cPow B : Int) then 1 else 0, f) := by
  obtain ⟨c1, c2, c3, c4⟩ := cPow_r hB
  have hCe := (WF_C hB).2
  have e6 : f 157 6 = (nC B : Int) := by rw [hM.1.2.2.2.2.2.2.2.1, hCe]
  unfold FX11_areCarts FX11_areCarts_0
  rw [isBridge_e hM, b2_some, carts_e, b2_some, e6, c4, w32s (by omega) (by omega), in_e, b2_some]
  by_cases h : 0 < B 0 8
  · rw [if_pos h, if_neg (by decide)]
    by_cases h2 : 0 ≤ x ∧ x ≤ (cPow B : Int) - 1
    · rw [if_pos h2, if_neg (by decide), if_pos (by omega)]
    · rw [if_neg h2, if_pos rfl, if_neg (by omega)]
  · rw [if_neg h, if_pos rfl, if_neg (by omega)]
theorem chc_r {B : Mm} (hB : WF B) (s : Nat) : -1 ≤ chc B s ∧ chc B s ≤ 20000 := by
  have := mn_r (p := sub B s) (c := pco B) (n := nP B) (M := 594) (fun j _ _ => pco_r hB j) (by decide)
  unfold chc
  omega
theorem MT_ch {B g : Mm} (hB : WF B) (t : MTb B okA (nP B) g) {s : Nat} (hs : s < cPow B) : g 170 s = far (chc B s) ∧ (chc B s ≠ -1 → g 171 s = chf B s) := by
  have h := t.2.2.1 s hs
  rw [andA] at h
  exact h
theorem mq_cheap {B : Mm} (hB : WF B) (x : Int) : QM B (FX11_cheap x) (S_cheap B x) := by
  intro f hM
  obtain ⟨c1, c2, c3, c4⟩ := cPow_r hB
  have k0 : Kp Sm f (up f 150 0 0) := Kp_u (Kp_r _ _) (by unfold Sm; omega)
  have hM0 := MO_s hM k0
  unfold FX11_cheap FX11_cheap_0 S_cheap
  rw [areCarts_e hB hM0, b2_some]
  by_cases h : 0 < B 0 8 ∧ 0 ≤ x ∧ x < (cPow B : Int)
  · rw [if_pos h, if_pos h, if_neg (by decide)]
    refine Wp_bind (laysPlans0_W hB hM0) (fun g ⟨k1, t⟩ => ?_)
    obtain ⟨m1, m2⟩ := MT_ch hB t (s := x.toNat) (by omega)
    obtain ⟨l1, l2, l3⟩ := far_lt (chc_r hB x.toNat)
    simp only [if_pos (show 0 ≤ x ∧ x < 64 by omega)]
    rw [m1]
    by_cases q : chc B x.toNat = -1
    · rw [if_neg (fun h => (l1.mp h) q)]
      exact Wp_some ⟨q.symm, Kp_t k0 k1⟩
    · rw [if_pos (l1.mpr q), l2 q]
      exact Wp_some ⟨rfl, Kp_t k0 k1⟩
  · rw [if_neg h, if_neg h, if_pos rfl]
    exact Wp_some ⟨rfl, k0⟩
theorem mq_soonest {B : Mm} (hB : WF B) (x : Int) : QM B (FX11_soonest x) (S_soonest B x) := by
  intro f hM
  obtain ⟨hC6, hCe⟩ := WF_C hB
  have hD6 := (WF_D hB).1
  have k0 : Kp Sm f (up f 150 0 0) := Kp_u (Kp_r _ _) (by unfold Sm; omega)
  have hM0 := MO_s hM k0
  unfold FX11_soonest FX11_soonest_0 S_soonest
  rw [isCart_e hB hM0, b2_some]
  by_cases h : 0 ≤ x ∧ x < (nC B : Int)
  · rw [if_pos h, if_pos h, if_neg (by decide)]
    refine Wp_bind (laysPlans0_W hB hM0) (fun g ⟨k1, t⟩ => ?_)
    have m1 := t.2.2.2.2.2.2.2 x.toNat (by omega)
    rw [andA] at m1
    have hr := mn_r (p := fun j => decide (pp B j x.toNat ≠ -1)) (c := fun j => pp B j x.toNat) (n := nP B) (M := 20000) (fun j _ hj => by
      rw [decide_eq_true_eq] at hj
      have := pas_r (B := B) (od := idn) (w := pw B j) (b := x.toNat) (nD B)
      have e : pp B j x.toNat = pas B idn (pw B j) (nD B) x.toNat := rfl
      try simp only
      omega) (by decide)
    obtain ⟨l1, l2, l3⟩ := far_lt hr
    simp only [if_pos (show 0 ≤ x ∧ x < 6 by omega)]
    rw [m1]
    show Wp _ (fun p : Int × Mm => p.1 = mn (fun j => decide (pp B j x.toNat ≠ -1)) (fun j => pp B j x.toNat) (nP B) ∧ _)
    by_cases q : mn (fun j => decide (pp B j x.toNat ≠ -1)) (fun j => pp B j x.toNat) (nP B) = -1
    · rw [if_neg (fun h => (l1.mp h) q)]
      exact Wp_some ⟨q.symm, Kp_t k0 k1⟩
    · rw [if_pos (l1.mpr q), l2 q]
      exact Wp_some ⟨rfl, Kp_t k0 k1⟩
  · rw [if_neg h, if_neg h, if_pos rfl]
    exact Wp_some ⟨rfl, k0⟩
theorem mq_hold {B : Mm} (hB : WF B) (x : Int) : QM B (FX11_hold x) (S_hold B x) := by
  intro f hM
  have k0 : Kp Sm f (up f 150 0 0) := Kp_u (Kp_r _ _) (by unfold Sm; omega)
  have hM0 := MO_s hM k0
  unfold FX11_hold FX11_hold_0 S_hold
  rw [misWidth_e hM0, b2_some]
  by_cases h : 0 < B 0 8 ∧ 0 ≤ x ∧ x ≤ 60
  · rw [if_pos h, if_pos h, if_neg (by decide)]
    refine Wp_bind (laysPlans0_W hB hM0) (fun g ⟨k1, t⟩ => ?_)
    have m1 := t.2.2.2.1 x.toNat (by omega)
    rw [andA] at m1
    have hr := mn_r (p := fun j => decide (x.toNat ≤ lsN B j)) (c := pco B) (n := nP B) (M := 20000) (fun j _ _ => by have := pco_r hB j; omega) (by decide)
    obtain ⟨l1, l2, l3⟩ := far_lt hr
    simp only [if_pos (show 0 ≤ x ∧ x < 61 by omega)]
    rw [m1]
    show Wp _ (fun p : Int × Mm => p.1 = mn (fun j => decide (x.toNat ≤ lsN B j)) (pco B) (nP B) ∧ _)
    by_cases q : mn (fun j => decide (x.toNat ≤ lsN B j)) (pco B) (nP B) = -1
    · rw [if_neg (fun h => (l1.mp h) q)]
      exact Wp_some ⟨q.symm, Kp_t k0 k1⟩
    · rw [if_pos (l1.mpr q), l2 q]
      exact Wp_some ⟨rfl, Kp_t k0 k1⟩
  · rw [if_neg h, if_neg h, if_pos rfl]
    exact Wp_some ⟨rfl, k0⟩
theorem mq_sets {B : Mm} (hB : WF B) : QM B FX11_sets (S_sets B) := by
  intro f hM
  obtain ⟨c1, c2, c3, c4⟩ := cPow_r hB
  have hCe := (WF_C hB).2
  have k0 : Kp Sm f (up f 150 0 0) := Kp_u (Kp_r _ _) (by unfold Sm; omega)
  have hM0 := MO_s hM k0
  unfold FX11_sets FX11_sets_0 S_sets
  rw [isBridge_e hM0, b2_some]
  by_cases h : 0 < B 0 8
  · rw [if_pos h, if_pos h, if_neg (by decide)]
    refine Wp_bind (laysPlans0_W hB hM0) (fun g ⟨k1, t⟩ => ?_)
    have k := Kp_t k0 k1
    have hM' := MO_s hM k
    have e6 : g 157 6 = (nC B : Int) := by rw [hM'.1.2.2.2.2.2.2.2.1, hCe]
    refine forX (fun n x (s : Int) => FX11_sets_23 n s x g) (fun i s => s = sm (fun s => if chc B s = -1 then 0 else 1) i) _ (cPow B) ?_ ?_ fu 0 0 rfl (by omega) (by have := fub; omega)
    · rintro n s hs
      rw [FX11_sets_23, carts_e, b2_some, e6, c4, if_pos (by omega)]
      exact Wp_some ⟨hs, k⟩
    · rintro n i s hi hs
      left
      have r := sets_r B i
      obtain ⟨m1, m2⟩ := MT_ch hB t (s := i) hi
      obtain ⟨l1, l2, l3⟩ := far_lt (chc_r hB i)
      have es : sm (fun s => if chc B s = -1 then 0 else 1) (i + 1) = sm (fun s => if chc B s = -1 then 0 else 1) i + (if chc B i = -1 then 0 else 1) := rfl
      rw [FX11_sets_23, carts_e, b2_some, e6, c4, if_neg (by omega), if_pos (by omega), Int.toNat_natCast, m1]
      unfold FX11_sets_51
      rw [nx i (by omega), es, hs]
      by_cases q : chc B i = -1
      · rw [if_pos (by rw [l3 q]; omega), if_pos q, w32s (by omega) (by omega)]
        exact ⟨_, rfl, rfl⟩
      · rw [if_neg (by have := l1.mpr q; omega), if_neg q, w32s (by omega) (by omega)]
        exact ⟨_, rfl, rfl⟩
  · rw [if_neg h, if_neg h, if_pos rfl]
    exact Wp_some ⟨rfl, k0⟩
theorem chf_n {B : Mm} (hB : WF B) (s : Nat) : chf B s = -1 ↔ chc B s = -1 := (fm_is (p := sub B s) (c := pco B) (nP B) (fun k _ _ => (pco_r hB k).1)).2.1
theorem mq_cheaply {B : Mm} (hB : WF B) (x y : Int) : QM B (FX11_cheaply x y) (S_cheaply B x y) := by
  intro f hM
  obtain ⟨c1, c2, c3, c4⟩ := cPow_r hB
  obtain ⟨hD6, hDe⟩ := WF_D hB
  have k0 : Kp Sm f (up f 150 0 0) := Kp_u (Kp_r _ _) (by unfold Sm; omega)
  have hM0 := MO_s hM k0
  unfold FX11_cheaply FX11_cheaply_0 S_cheaply
  rw [areCarts_e hB hM0, b2_some]
  by_cases h : 0 < B 0 8 ∧ 0 ≤ x ∧ x < (cPow B : Int)
  · rw [if_pos h, if_neg (by decide), isDay_e hB hM0, b2_some]
    by_cases h2 : 0 ≤ y ∧ y < (nD B : Int)
    · rw [if_pos h2, if_neg (by decide), if_pos ⟨h, h2⟩]
      refine Wp_bind (laysPlans0_W hB hM0) (fun g ⟨k1, t⟩ => ?_)
      obtain ⟨m1, m2⟩ := MT_ch hB t (s := x.toNat) (by omega)
      obtain ⟨l1, l2, l3⟩ := far_lt (chc_r hB x.toNat)
      simp only [if_pos (show 0 ≤ x ∧ x < 64 by omega)]
      rw [m1]
      by_cases q : chc B x.toNat = -1
      · rw [if_neg (fun h => (l1.mp h) q), if_pos ((chf_n hB _).mpr q)]
        exact Wp_some ⟨rfl, Kp_t k0 k1⟩
      · have qf : chf B x.toNat ≠ -1 := fun e => q ((chf_n hB _).mp e)
        rw [if_pos (l1.mpr q), if_neg qf, m2 q]
        rcases fm_r (p := sub B x.toNat) (c := pco B) (nP B) with e | ⟨l, e1, e2⟩
        · exact absurd e qf
        · have e2' : chf B x.toNat = (l : Int) := e2
          rw [e2', Int.toNat_natCast]
          refine Wp_bind (planIs_W hB (MO_s hM0 k1) e1) (fun g2 ⟨k2, a1, a2⟩ => ?_)
          rw [if_pos (by omega)]
          exact Wp_some ⟨a1 y.toNat (by omega), Kp_t k0 (Kp_t k1 (Kp_m k2 (fun a j h => by unfold Sm; omega)))⟩
    · rw [if_neg h2, if_pos rfl, if_neg (fun q => h2 q.2)]
      exact Wp_some ⟨rfl, k0⟩
  · rw [if_neg h, if_pos rfl, if_neg (fun q => h q.1)]
    exact Wp_some ⟨rfl, k0⟩
theorem MO_pz {B f : Mm} (hB : WF B) (hM : MO B f) {c : Nat} : MO (pz B c) (up f 159 (5 * c + 4) 0) := by
  have e : ∀ j, pz B c 0 j = B 0 j := fun j => pz_o (by omega)
  have eK : nK (pz B c) = nK B := by unfold nK; rw [e]
  have eC : nC (pz B c) = nC B := by unfold nC; rw [e]
  have eA : nA (pz B c) = nA B := by unfold nA; rw [e]
  have hK := (WF_K hB).1
  obtain ⟨h1, h2, h3, h4⟩ := hM
  unfold MO
  rw [eK, eC, eA]
  simp only [e]
  refine ⟨?_, fun d hd j hj => ?_, fun d hd j hj => ?_, fun k hk => ?_⟩
  · rw [up_n (by omega), up_n (by omega), up_n (by omega), up_n (by omega), up_n (by omega), up_n (by omega), up_n (by omega), up_n (by omega), up_n (by omega)]
    exact h1
  · rw [up_n (by omega), pz_o (by omega)]
    exact h2 d hd j hj
  · by_cases q : d = c ∧ j = 4
    · obtain ⟨q1, q2⟩ := q
      subst q1
      subst q2
      unfold pz
      rw [up_s, up_s]
    · rw [up_n (by omega), pz_o (by omega)]
      exact h3 d hd j hj
  · rw [up_n (by omega), up_n (by omega), pz_o (by omega), pz_o (by omega)]
    exact h4 k hk
theorem mq_value {B : Mm} (hB : WF B) (x : Int) : QM B (FX11_value x) (S_value B x) := by
  intro f hM
  obtain ⟨hC6, hCe⟩ := WF_C hB
  have k0 : Kp Sm f (up f 150 0 0) := Kp_u (Kp_r _ _) (by unfold Sm; omega)
  have hM0 := MO_s hM k0
  unfold FX11_value FX11_value_0 S_value
  rw [isCart_e hB hM0, b2_some]
  by_cases h : 0 ≤ x ∧ x < (nC B : Int)
  · rw [if_pos h, if_pos h, if_neg (by decide)]
    obtain ⟨c, rfl⟩ : ∃ c : Nat, x = (c : Int) := ⟨x.toNat, by omega⟩
    refine Wp_bind (laysPlans0_W hB hM0) (fun g ⟨k1, t⟩ => ?_)
    have k := Kp_t k0 k1
    have hM1 := MO_s hM k
    rw [i5 (c := c) (j := 4) (y := 4) rfl rfl (by omega) (by omega), if_pos (by omega), if_pos (by omega), Int.toNat_natCast]
    refine Wp_bind (laysPlans0_W (WF_pz hB) (MO_pz hB hM1)) (fun g2 ⟨k2, t2⟩ => ?_)
    have b1 := bW_p hB
    have b2' := bW_p (WF_pz (c := c) hB)
    have e1 : g 150 31 = 10000 - bW B (sumf B 4) := by rw [t.1, bW_A]; unfold bwo; rw [if_neg (by omega)]
    have e2 : g2 150 31 = 10000 - bW (pz B c) (sumf (pz B c) 4) := by rw [t2.1, bW_A]; unfold bwo; rw [if_neg (by omega)]
    rw [if_pos (by omega), e1, e2, w32s (by omega) (by omega)]
    refine Wp_some ⟨?_, fun a j q => ?_⟩
    · rw [bW_pz hB (by omega)]
      show _ = _
      omega
    · by_cases q2 : a = 159 ∧ j = 5 * c + 4
      · obtain ⟨q3, q4⟩ := q2
        subst q3
        subst q4
        show up g2 159 (5 * c + 4) (g 159 (5 * c + 4)) 159 (5 * c + 4) = _
        rw [up_s, k 159 _ q]
      · show up g2 159 (5 * c + 4) (g 159 (5 * c + 4)) a j = _
        rw [up_n q2, k2 a j q, up_n q2, k a j q]
  · rw [if_neg h, if_neg h, if_pos rfl]
    exact Wp_some ⟨rfl, k0⟩
/-! a deed alone -/
def alc (x : Int) (b d : Nat) : Int := if hbit (b : Int) d = true then x else -1
def S_alone (B : Mm) (x : Int) : Int := if 0 ≤ x ∧ x < (nK B : Int) then 10000 - mn (okP B x) (vW B (sumf B 4)) (nP B) else -1000000
theorem mq_alone {B : Mm} (hB : WF B) (x : Int) (hex : 0 ≤ x ∧ x < (nK B : Int) → mn (okP B x) (vW B (sumf B 4)) (nP B) ≠ -1) : QM B (FX11_alone x) (S_alone B x) := by
  intro f hM
  have k0 : Kp Sm f (up f 150 0 0) := Kp_u (Kp_r _ _) (by unfold Sm; omega)
  have hM0 := MO_s hM k0
  unfold FX11_alone FX11_alone_0 S_alone
  rw [isDeed_e hB hM0, b2_some]
  by_cases h : 0 ≤ x ∧ x < (nK B : Int)
  · rw [if_pos h, if_pos h, if_neg (by decide)]
    refine Wp_bind (laysPlans_W hB hM0 x) (fun g ⟨k1, t⟩ => Wp_some ⟨?_, Kp_t k0 k1⟩)
    rw [t.1]
    unfold bwo
    rw [if_neg (hex h)]
  · rw [if_neg h, if_neg h, if_pos rfl]
    exact Wp_some ⟨rfl, k0⟩

/-! looks at the days as they go: the model -/
theorem in_e (x lo hi : Int) (f : Mm) : FX11_in x lo hi f = some (if lo ≤ x ∧ x ≤ hi then 1 else 0, f) := by
  unfold FX11_in FX11_in_0 cmp3
  by_cases h1 : x < lo
  · rw [if_pos h1, if_pos (by decide), if_neg (by omega)]
  · rw [if_neg h1]
    by_cases h2 : x ≤ hi
    · rw [if_pos (show lo ≤ x ∧ x ≤ hi by omega), if_neg (by split <;> decide), if_neg (by split; decide; split; decide; omega)]
    · rw [if_neg (show ¬ (lo ≤ x ∧ x ≤ hi) by omega), if_neg (by split <;> decide), if_neg (show ¬ x < hi by omega), if_neg (show ¬ x = hi by omega), if_pos (by decide)]
theorem b01 {c : Prop} [Decidable c] {f : Mm} : (if (if c then (1 : Int) else 0) = 0 ∨ (if c then (1 : Int) else 0) = 1 then some ((if c then (1 : Int) else 0), f) else none) = some ((if c then (1 : Int) else 0), f) := by
  split <;> rfl
theorem isDay_e {B f : Mm} (hB : WF B) (hM : MO B f) (x : Int) : FX11_isDay x f = some (if 0 ≤ x ∧ x < (nD B : Int) then 1 else 0, f) := by
  obtain ⟨h6, he⟩ := WF_D hB
  unfold FX11_isDay FX11_isDay_0
  rw [days_e, b2_some, hM.1.2.1, he, w64s (by omega) (by omega), in_e, b2_some, b01]
  have : (0 ≤ x ∧ x ≤ (nD B : Int) - 1) ↔ (0 ≤ x ∧ x < (nD B : Int)) := by omega
  simp only [this]
theorem isCart_e {B f : Mm} (hB : WF B) (hM : MO B f) (x : Int) : FX11_isCart x f = some (if 0 ≤ x ∧ x < (nC B : Int) then 1 else 0, f) := by
  obtain ⟨h6, he⟩ := WF_C hB
  unfold FX11_isCart FX11_isCart_0
  rw [carts_e, b2_some, hM.1.2.2.2.2.2.2.2.1, he, w32s (by omega) (by omega), in_e, b2_some, b01]
  have : (0 ≤ x ∧ x ≤ (nC B : Int) - 1) ↔ (0 ≤ x ∧ x < (nC B : Int)) := by omega
  simp only [this]
theorem isDeed_e {B f : Mm} (hB : WF B) (hM : MO B f) (x : Int) : FX11_isDeed x f = some (if 0 ≤ x ∧ x < (nK B : Int) then 1 else 0, f) := by
  obtain ⟨h6, he⟩ := WF_K hB
  unfold FX11_isDeed FX11_isDeed_0
  rw [hM.1.2.2.2.2.2.2.1, he, w32s (by omega) (by omega), in_e, b2_some, b01]
  have : (0 ≤ x ∧ x ≤ (nK B : Int) - 1) ↔ (0 ≤ x ∧ x < (nK B : Int)) := by omega
  simp only [this]
theorem isHalf_e (x : Int) (f : Mm) : FX11_isHalf x f = some (if 0 ≤ x ∧ x ≤ 1 then 1 else 0, f) := by
  unfold FX11_isHalf FX11_isHalf_0
  rw [in_e, b2_some, b01]
theorem isBridge_e {B f : Mm} (hM : MO B f) : FX11_isBridge f = some (if 0 < B 0 8 then 1 else 0, f) := by
  unfold FX11_isBridge FX11_isBridge_0
  rw [hM.1.1]
  by_cases h : 0 < B 0 8
  · rw [if_neg (by omega), if_pos h]
  · rw [if_pos (by omega), if_neg h]
theorem WD_mx {B f : Mm} (hB : WF B) (h1 : f 150 23 = -1) (h2 : ∀ j, j < 6 → f 162 j = dn B j) : MX B (dn B) (-1) (-1) f := ⟨h2, h1, fun h => by omega, dn_W hB⟩
theorem MX_k {B : Mm} {ch : Nat → Int} {t2 tw : Int} {f g : Mm} (h : MX B ch t2 tw f) (hk : ∀ a j, a = 162 ∨ a = 150 → g a j = f a j) : MX B ch t2 tw g :=
  ⟨fun d hd => by rw [hk _ _ (Or.inl rfl)]; exact h.1 d hd, by rw [hk _ _ (Or.inr rfl)]; exact h.2.1, fun q => by rw [hk _ _ (Or.inr rfl)]; exact h.2.2.1 q, h.2.2.2⟩
theorem goes0_W {B f : Mm} (hB : WF B) (hM : MO B f) {ch : Nat → Int} {t2 tw : Int} (hX : MX B ch t2 tw f) :
    Wp (FX11_goes_ f) (fun g => Kp (fun a _ => 163 ≤ a ∧ a ≤ 165) f g ∧ MK B ch t2 tw 0 (B 0 3) (nD B) g) := by
  unfold FX11_goes_ FX11_goes__0
  rw [hM.1.2.2.2.2.1]
  exact Wp_bind (goes_W hB hM hX hB.2.2.2.1) (fun g hg => Wp_some hg)
theorem laysNow_W {B f : Mm} (hB : WF B) (hM : MO B f) : Wp (FX11_laysNow f) (fun g => Kp Sm f g ∧ MK B (dn B) (-1) (-1) 0 (B 0 3) (nD B) g ∧ MX B (dn B) (-1) (-1) g) := by
  unfold FX11_laysNow FX11_laysNow_0
  refine Wp_bind (lays_W hB hM) (fun g1 ⟨k1, a1, a2⟩ => ?_)
  have k1' : Kp Sm f g1 := Kp_m k1 (fun a j h => by unfold Sm; omega)
  refine Wp_bind (goes0_W hB (MO_s hM k1') (WD_mx hB a1 a2)) (fun g2 ⟨k2, b1⟩ => ?_)
  exact Wp_some ⟨Kp_t k1' (Kp_m k2 (fun a j h => by unfold Sm; omega)), b1, MX_k (WD_mx hB a1 a2) (fun a j h => k2 a j (by omega))⟩
theorem MK_k {B : Mm} {ch : Nat → Int} {t2 tw tm co : Int} {i : Nat} {f g : Mm} (h : MK B ch t2 tw tm co i f) (hk : ∀ a j, a = 163 ∨ a = 164 → g a j = f a j) : MK B ch t2 tw tm co i g :=
  fun e he => by rw [hk _ _ (Or.inl rfl), hk _ _ (Or.inl rfl), hk _ _ (Or.inr rfl)]; exact h e he
theorem laysPassed_W {B f : Mm} (hB : WF B) (hM : MO B f) : Wp (FX11_laysPassed f) (fun g => Kp Sm f g ∧ MK B (dn B) (-1) (-1) 0 (B 0 3) (nD B) g ∧ MX B (dn B) (-1) (-1) g ∧ MP B idn (wN B) (nD B) g) := by
  unfold FX11_laysPassed FX11_laysPassed_0
  refine Wp_bind (laysNow_W hB hM) (fun g1 ⟨k1, a1, a2⟩ => ?_)
  refine Wp_bind (byNumbers_W g1) (fun g2 ⟨k2, b1⟩ => ?_)
  have k2' : Kp Sm g1 g2 := Kp_m k2 (fun a j h => by unfold Sm; omega)
  refine Wp_bind (passes_W hB (MO_s (MO_s hM k1) k2') (OD_id B) (w := wN B) (fun i hi => b1 i (by have := (WF_C hB).1; omega)) (fun e he => ?_)) (fun g3 ⟨k3, c1⟩ => ?_)
  · have hw := wN_r hB e
    rw [k2 164 e (by omega)]
    exact ⟨(a1 e he).2.2, hw.1, hw.2⟩
  · exact Wp_some ⟨Kp_t k1 (Kp_t k2' (Kp_m k3 (fun a j h => by unfold Sm; omega))), MK_k a1 (fun a j h => by rw [k3 a j (by omega), k2 a j (by omega)]), MX_k a2 (fun a j h => by rw [k3 a j (by omega), k2 a j (by omega)]), c1⟩
theorem isInTime_e {B g : Mm} (hB : WF B) (hM : MO B g) {od : Nat → Nat} {w : Nat → Int} (h : MP B od w (nD B) g) {c : Nat} (hc : c < nC B) : FX11_isInTime (c : Int) g = some (if inT B (pas B od w (nD B)) c = true then 1 else 0, g) := by
  have h6 := (WF_C hB).1
  have q := hM.2.2.1 c hc 3 (by omega)
  unfold FX11_isInTime FX11_isInTime_0 inT
  rw [if_pos (by omega), Int.toNat_natCast, h.1 c (by omega), i5 (c := c) (j := 3) (y := 3) rfl rfl (by omega) (by omega), Int.toNat_natCast, q]
  simp only [decide_eq_true_eq]
  by_cases c1 : pas B od w (nD B) c = -1
  · rw [if_pos c1, if_neg (fun q => q.1 c1)]
  · rw [if_neg c1, if_pos (by omega), if_pos (by omega)]
    by_cases c2 : B (20 + c) 3 < pas B od w (nD B) c
    · rw [if_pos c2, if_neg (by omega)]
    · rw [if_neg c2, if_pos (by omega)]
theorem keptNow_e {B g : Mm} (hB : WF B) (hM : MO B g) {od : Nat → Nat} {w : Nat → Int} (h : MP B od w (nD B) g) : FX11_keptNow g = some (bts (inT B (pas B od w (nD B))) (nC B), g) := by
  obtain ⟨h6, he⟩ := WF_C hB
  have e6 : g 157 6 = (nC B : Int) := by rw [hM.1.2.2.2.2.2.2.2.1, he]
  unfold FX11_keptNow FX11_keptNow_0
  have key := forX (fun n x (s : Int) => FX11_keptNow_4 n s x g) (fun i s => s = bts (inT B (pas B od w (nD B))) i) (fun p => p = (bts (inT B (pas B od w (nD B))) (nC B), g)) (nC B) ?_ ?_ fu 0 0 rfl (by omega) (by have := fub; omega)
  · obtain ⟨b, q1, q2⟩ := key
    rw [← q2]
    exact q1
  · intro n s hI
    rw [FX11_keptNow_4, carts_e, b2_some, if_pos (by omega), hI]
    exact Wp_some rfl
  · intro n i s hi hI
    left
    have hs : sS s := by rw [hI]; exact (bts_s _ (by omega)).1
    rw [FX11_keptNow_4, carts_e, b2_some, if_neg (by omega), isInTime_e hB hM h hi, b2_some]
    unfold FX11_keptNow_28
    rw [nx i (by omega)]
    by_cases c : inT B (pas B od w (nD B)) i = true
    · rw [if_pos c, if_neg (by decide)]
      refine ⟨_, rfl, ?_⟩
      unfold bts
      rw [if_pos c, hI]
    · rw [if_neg c, if_pos rfl, sS_or0 hs]
      refine ⟨_, rfl, ?_⟩
      unfold bts
      rw [if_neg c, hI]
theorem mpayOf_e {B f : Mm} (hB : WF B) (hM : MO B f) (x : Int) : FX11_payOf x f = some (sumf B 4 x, f) := by
  obtain ⟨h6, he⟩ := WF_C hB
  have hc := WF_c hB
  have e6 : f 157 6 = (nC B : Int) := by rw [hM.1.2.2.2.2.2.2.2.1, he]
  have hb : ∀ i, i < nC B → 0 ≤ (if hbit x i = true then B (20 + i) 4 else 0) ∧ (if hbit x i = true then B (20 + i) 4 else 0) ≤ 999 := fun i hi => by
    have := hc i hi
    split <;> omega
  unfold FX11_payOf FX11_payOf_0
  obtain ⟨m, e, -⟩ := forF (fun n y (s : Int) => FX11_payOf_4 n x s y f) (fun i s => s + (if hbit x i = true then B (20 + i) 4 else 0)) (fun i s => s = sm (fun c => if hbit x c = true then B (20 + c) 4 else 0) i) 0 (nC B) 0 rfl (by omega) (fun n i s _ hi hJ => by
    have hp := sm_part hb (by omega) (i := i) (by omega)
    have hbi := hb i hi
    have q := hM.2.2.1 i hi 4 (by omega)
    refine ⟨?_, by rw [hJ]; rfl⟩
    rw [FX11_payOf_4, carts_e, b2_some, if_neg (by omega), isBit_e, b2_some, i5 (c := i) (j := 4) (y := 4) rfl rfl (by omega) (by omega)]
    unfold FX11_payOf_35
    rw [nx i (by omega)]
    by_cases h : hbit x i = true
    · rw [if_pos h] at hbi
      rw [if_pos h, if_neg (by decide), if_pos (by omega), Int.toNat_natCast, q, w32s (by omega) (by omega), if_pos h]
    · rw [if_neg h, if_pos rfl, if_neg h, w32s (by omega) (by omega)]) fu (by have := fub; omega)
  refine e.trans ?_
  rw [FX11_payOf_4, carts_e, b2_some, if_pos (by omega)]
  simp only [Nat.zero_add, Nat.sub_zero]
  rw [fo_sm]
  rfl
theorem mwideOf_e {B f : Mm} (hB : WF B) (hM : MO B f) (x : Int) : FX11_wideOf x f = some (sumf B 1 x, f) := by
  obtain ⟨h6, he⟩ := WF_C hB
  have hc := WF_c hB
  have e6 : f 157 6 = (nC B : Int) := by rw [hM.1.2.2.2.2.2.2.2.1, he]
  have hb : ∀ i, i < nC B → 0 ≤ (if hbit x i = true then B (20 + i) 1 else 0) ∧ (if hbit x i = true then B (20 + i) 1 else 0) ≤ 999 := fun i hi => by
    have := hc i hi
    split <;> omega
  unfold FX11_wideOf FX11_wideOf_0
  obtain ⟨m, e, -⟩ := forF (fun n y (s : Int) => FX11_wideOf_4 n x s y f) (fun i s => s + (if hbit x i = true then B (20 + i) 1 else 0)) (fun i s => s = sm (fun c => if hbit x c = true then B (20 + c) 1 else 0) i) 0 (nC B) 0 rfl (by omega) (fun n i s _ hi hJ => by
    have hp := sm_part hb (by omega) (i := i) (by omega)
    have hbi := hb i hi
    have q := hM.2.2.1 i hi 1 (by omega)
    refine ⟨?_, by rw [hJ]; rfl⟩
    rw [FX11_wideOf_4, carts_e, b2_some, if_neg (by omega), isBit_e, b2_some, i5 (c := i) (j := 1) (y := 1) rfl rfl (by omega) (by omega)]
    unfold FX11_wideOf_35
    rw [nx i (by omega)]
    by_cases h : hbit x i = true
    · rw [if_pos h] at hbi
      rw [if_pos h, if_neg (by decide), if_pos (by omega), Int.toNat_natCast, q, w32s (by omega) (by omega), if_pos h]
    · rw [if_neg h, if_pos rfl, if_neg h, w32s (by omega) (by omega)]) fu (by have := fub; omega)
  refine e.trans ?_
  rw [FX11_wideOf_4, carts_e, b2_some, if_pos (by omega)]
  simp only [Nat.zero_add, Nat.sub_zero]
  rw [fo_sm]
  rfl
theorem costNow_e {B f : Mm} (hB : WF B) (hM : MO B f) {ch : Nat → Int} (hW : WD B ch) (hX : ∀ d, d < nD B → f 162 d = ch d) : FX11_costNow f = some (csts B ch, f) := by
  obtain ⟨h6, he⟩ := WF_D hB
  obtain ⟨h4, hKe⟩ := WF_K hB
  have e0 : f 157 0 = (nD B : Int) := by rw [hM.1.2.1, he]
  have hb : ∀ i, i < nD B → 0 ≤ cst B (ch i) ∧ cst B (ch i) ≤ 99 := fun i hi => cst_r hB (hW i (by omega))
  unfold FX11_costNow FX11_costNow_0
  obtain ⟨m, e, -⟩ := forF (fun n y (s : Int) => FX11_costNow_4 n s y f) (fun i s => s + cst B (ch i)) (fun i s => s = sm (fun d => cst B (ch d)) i) 0 (nD B) 0 rfl (by omega) (fun n i s _ hi hJ => by
    have hp := sm_part hb (by omega) (i := i) (by omega)
    have hbi := hb i hi
    have hwi := hW i (by omega)
    refine ⟨?_, by rw [hJ]; rfl⟩
    rw [FX11_costNow_4, days_e, b2_some, if_neg (by omega), if_pos (by omega), Int.toNat_natCast, hX i hi]
    unfold FX11_costNow_42
    rw [nx i (by omega)]
    unfold cst at hbi ⊢
    by_cases h : ch i = -1
    · rw [if_pos h, if_pos h, w32s (by omega) (by omega)]
    · have q := hM.2.1 (ch i).toNat (by omega) 1 (by omega)
      rw [if_neg h] at hbi
      rw [if_neg h, if_pos (by omega), i4 (x := ch i) (c := (ch i).toNat) (j := 1) (y := 1) (by omega) rfl (by omega) (by omega), if_pos (by omega), Int.toNat_natCast, q, if_neg h, w32s (by omega) (by omega)]) fu (by have := fub; omega)
  refine e.trans ?_
  rw [FX11_costNow_4, days_e, b2_some, if_pos (by omega)]
  simp only [Nat.zero_add, Nat.sub_zero]
  rw [fo_sm]
  rfl
theorem mq_width {B : Mm} (hB : WF B) (x : Int) : QM B (FX11_width x) (S_width B x) := by
  intro f hM
  obtain ⟨hD6, hDe⟩ := WF_D hB
  obtain ⟨hC6, hCe⟩ := WF_C hB
  have k0 : Kp Sm f (up f 150 0 0) := Kp_u (Kp_r _ _) (by unfold Sm; omega)
  have hM0 := MO_s hM k0
  unfold FX11_width FX11_width_0 S_width
  rw [isDay_e hB hM0, b2_some]
  by_cases h : 0 ≤ x ∧ x < (nD B : Int)
  · rw [if_pos h, if_pos h, if_neg (by decide)]
    obtain ⟨d, rfl⟩ : ∃ d : Nat, x = (d : Int) := ⟨x.toNat, by omega⟩
    rw [Int.toNat_natCast]
    refine Wp_bind (laysNow_W hB hM0) (fun g ⟨k1, mkk, mxx⟩ => ?_)
    have k := Kp_t k0 k1
    have hM' := MO_s hM k
    have e0 : g 157 0 = (nD B : Int) := by rw [hM'.1.2.1, hDe]
    have e6 : g 157 6 = (nC B : Int) := by rw [hM'.1.2.2.2.2.2.2.2.1, hCe]
    rw [if_pos (by omega)]
    exact Wp_some ⟨(mkk d (by omega)).2.2, k⟩
  · rw [if_neg h, if_neg h, if_pos rfl]
    exact Wp_some ⟨rfl, k0⟩
theorem mq_narrow {B : Mm} (hB : WF B)  : QM B (FX11_narrow ) (S_narrow B ) := by
  intro f hM
  obtain ⟨hD6, hDe⟩ := WF_D hB
  obtain ⟨hC6, hCe⟩ := WF_C hB
  have k0 : Kp Sm f (up f 150 0 0) := Kp_u (Kp_r _ _) (by unfold Sm; omega)
  have hM0 := MO_s hM k0
  unfold FX11_narrow FX11_narrow_0 S_narrow
  rw [isBridge_e hM0, b2_some]
  by_cases h : 0 < B 0 8
  · rw [if_pos h, if_pos h, if_neg (by decide)]
    refine Wp_bind (laysNow_W hB hM0) (fun g ⟨k1, mkk, mxx⟩ => ?_)
    have k := Kp_t k0 k1
    have hM' := MO_s hM k
    have e0 : g 157 0 = (nD B : Int) := by rw [hM'.1.2.1, hDe]
    have e6 : g 157 6 = (nC B : Int) := by rw [hM'.1.2.2.2.2.2.2.2.1, hCe]
    have hD1 : 1 ≤ nD B := by
      have := hB.2.2.2.2.2.2.2.2.2.1.1 h
      omega
    obtain ⟨m, e, hj⟩ := forF (fun n x (s : Int) => FX11_narrow_23 n s x g) (st_narrow B) (fun i s => 0 ≤ s ∧ s < (i : Int)) 1 (nD B) 0 (by decide) (by omega) (fun n i s hb' hi hJ => by
      have a1 := (mkk i hi).2.2
      have a2 := (mkk s.toNat (by omega)).2.2
      refine ⟨?_, by unfold st_narrow; split <;> omega⟩
      rw [FX11_narrow_23, days_e, b2_some, if_neg (by omega), if_pos (by omega), if_pos (by omega), Int.toNat_natCast, a1, a2]
      unfold FX11_narrow_48 st_narrow
      rw [nx i (by omega)]
      rw [show wd B (dn B) (-1) (-1) 0 (B 0 3) = wN B from rfl]
      split <;> split <;> first | rfl | omega) fu (by have := fub; omega)
    refine Wp_eq e ?_
    rw [FX11_narrow_23, days_e, b2_some, if_pos (by omega)]
    exact Wp_some ⟨rfl, k⟩
  · rw [if_neg h, if_neg h, if_pos rfl]
    exact Wp_some ⟨rfl, k0⟩
theorem mq_peak {B : Mm} (hB : WF B)  : QM B (FX11_peak ) (S_peak B ) := by
  intro f hM
  obtain ⟨hD6, hDe⟩ := WF_D hB
  obtain ⟨hC6, hCe⟩ := WF_C hB
  have k0 : Kp Sm f (up f 150 0 0) := Kp_u (Kp_r _ _) (by unfold Sm; omega)
  have hM0 := MO_s hM k0
  unfold FX11_peak FX11_peak_0 S_peak
  rw [isBridge_e hM0, b2_some]
  by_cases h : 0 < B 0 8
  · rw [if_pos h, if_pos h, if_neg (by decide)]
    refine Wp_bind (laysNow_W hB hM0) (fun g ⟨k1, mkk, mxx⟩ => ?_)
    have k := Kp_t k0 k1
    have hM' := MO_s hM k
    have e0 : g 157 0 = (nD B : Int) := by rw [hM'.1.2.1, hDe]
    have e6 : g 157 6 = (nC B : Int) := by rw [hM'.1.2.2.2.2.2.2.2.1, hCe]
    have hD1 : 1 ≤ nD B := by
      have := hB.2.2.2.2.2.2.2.2.2.1.1 h
      omega
    obtain ⟨m, e, hj⟩ := forF (fun n x (s : Int) => FX11_peak_23 n s x g) (st_peak B) (fun i s => 0 ≤ s ∧ s < (i : Int)) 1 (nD B) 0 (by decide) (by omega) (fun n i s hb' hi hJ => by
      have a1 := (mkk i hi).2.2
      have a2 := (mkk s.toNat (by omega)).2.2
      refine ⟨?_, by unfold st_peak; split <;> omega⟩
      rw [FX11_peak_23, days_e, b2_some, if_neg (by omega), if_pos (by omega), if_pos (by omega), Int.toNat_natCast, a1, a2]
      unfold FX11_peak_48 st_peak
      rw [nx i (by omega)]
      rw [show wd B (dn B) (-1) (-1) 0 (B 0 3) = wN B from rfl]
      split <;> split <;> first | rfl | omega) fu (by have := fub; omega)
    refine Wp_eq e ?_
    rw [FX11_peak_23, days_e, b2_some, if_pos (by omega)]
    exact Wp_some ⟨rfl, k⟩
  · rw [if_neg h, if_neg h, if_pos rfl]
    exact Wp_some ⟨rfl, k0⟩
theorem mq_shut {B : Mm} (hB : WF B)  : QM B (FX11_shut ) (S_shut B ) := by
  intro f hM
  obtain ⟨hD6, hDe⟩ := WF_D hB
  obtain ⟨hC6, hCe⟩ := WF_C hB
  have k0 : Kp Sm f (up f 150 0 0) := Kp_u (Kp_r _ _) (by unfold Sm; omega)
  have hM0 := MO_s hM k0
  unfold FX11_shut FX11_shut_0 S_shut
  rw [isBridge_e hM0, b2_some]
  by_cases h : 0 < B 0 8
  · rw [if_pos h, if_pos h, if_neg (by decide)]
    refine Wp_bind (laysNow_W hB hM0) (fun g ⟨k1, mkk, mxx⟩ => ?_)
    have k := Kp_t k0 k1
    have hM' := MO_s hM k
    have e0 : g 157 0 = (nD B : Int) := by rw [hM'.1.2.1, hDe]
    have e6 : g 157 6 = (nC B : Int) := by rw [hM'.1.2.2.2.2.2.2.2.1, hCe]
    refine forX (fun n x (s : Int) => FX11_shut_23 n s x g) (fun i s => s = bts (fun d => decide (wN B d = 0)) i) _ (nD B) ?_ ?_ fu 0 0 rfl (by omega) (by have := fub; omega)
    · intro n s hI
      rw [FX11_shut_23, days_e, b2_some, if_pos (by omega), hI]
      exact Wp_some ⟨rfl, k⟩
    · intro n i s hi hI
      left
      have hs : sS s := by rw [hI]; exact (bts_s _ (by omega)).1
      rw [FX11_shut_23, days_e, b2_some, if_neg (by omega)]
      unfold FX11_shut_48
      rw [nx i (by omega), sS_or0 hs]
      rw [if_pos (by omega), Int.toNat_natCast, (mkk i hi).2.2, show wd B (dn B) (-1) (-1) 0 (B 0 3) = wN B from rfl]
      by_cases c : wN B i = 0
      · rw [if_pos c]
        refine ⟨_, rfl, ?_⟩
        unfold bts
        rw [if_pos (by rw [decide_eq_true_eq]; omega), hI]
      · rw [if_neg c]
        refine ⟨_, rfl, ?_⟩
        unfold bts
        rw [if_neg (by rw [decide_eq_true_eq]; omega), hI]
  · rw [if_neg h, if_neg h, if_pos rfl]
    exact Wp_some ⟨rfl, k0⟩
theorem mq_passes {B : Mm} (hB : WF B) (x : Int) : QM B (FX11_passes_ x) (S_passes B x) := by
  intro f hM
  obtain ⟨hD6, hDe⟩ := WF_D hB
  obtain ⟨hC6, hCe⟩ := WF_C hB
  have k0 : Kp Sm f (up f 150 0 0) := Kp_u (Kp_r _ _) (by unfold Sm; omega)
  have hM0 := MO_s hM k0
  unfold FX11_passes_ FX11_passes__0 S_passes
  rw [isCart_e hB hM0, b2_some]
  by_cases h : 0 ≤ x ∧ x < (nC B : Int)
  · rw [if_pos h, if_pos h, if_neg (by decide)]
    obtain ⟨d, rfl⟩ : ∃ d : Nat, x = (d : Int) := ⟨x.toNat, by omega⟩
    rw [Int.toNat_natCast]
    refine Wp_bind (laysPassed_W hB hM0) (fun g ⟨k1, mkk, mxx, mpp⟩ => ?_)
    have k := Kp_t k0 k1
    have hM' := MO_s hM k
    have e0 : g 157 0 = (nD B : Int) := by rw [hM'.1.2.1, hDe]
    have e6 : g 157 6 = (nC B : Int) := by rw [hM'.1.2.2.2.2.2.2.2.1, hCe]
    rw [if_pos (by omega)]
    exact Wp_some ⟨mpp.1 d (by omega), k⟩
  · rw [if_neg h, if_neg h, if_pos rfl]
    exact Wp_some ⟨rfl, k0⟩
theorem mq_over {B : Mm} (hB : WF B) (x : Int) : QM B (FX11_over x) (S_over B x) := by
  intro f hM
  obtain ⟨hD6, hDe⟩ := WF_D hB
  obtain ⟨hC6, hCe⟩ := WF_C hB
  have k0 : Kp Sm f (up f 150 0 0) := Kp_u (Kp_r _ _) (by unfold Sm; omega)
  have hM0 := MO_s hM k0
  unfold FX11_over FX11_over_0 S_over
  rw [isDay_e hB hM0, b2_some]
  by_cases h : 0 ≤ x ∧ x < (nD B : Int)
  · rw [if_pos h, if_pos h, if_neg (by decide)]
    obtain ⟨d, rfl⟩ : ∃ d : Nat, x = (d : Int) := ⟨x.toNat, by omega⟩
    rw [Int.toNat_natCast]
    refine Wp_bind (laysPassed_W hB hM0) (fun g ⟨k1, mkk, mxx, mpp⟩ => ?_)
    have k := Kp_t k0 k1
    have hM' := MO_s hM k
    have e0 : g 157 0 = (nD B : Int) := by rw [hM'.1.2.1, hDe]
    have e6 : g 157 6 = (nC B : Int) := by rw [hM'.1.2.2.2.2.2.2.2.1, hCe]
    refine forX (fun n x (s : Int) => FX11_over_25 n (d : Int) s x g) (fun i s => s = bts (fun c => decide (pN B c = (d : Int))) i) _ (nC B) ?_ ?_ fu 0 0 rfl (by omega) (by have := fub; omega)
    · intro n s hI
      rw [FX11_over_25, carts_e, b2_some, if_pos (by omega), hI]
      exact Wp_some ⟨rfl, k⟩
    · intro n i s hi hI
      left
      have hs : sS s := by rw [hI]; exact (bts_s _ (by omega)).1
      rw [FX11_over_25, carts_e, b2_some, if_neg (by omega)]
      unfold FX11_over_51
      rw [nx i (by omega), sS_or0 hs]
      rw [if_pos (by omega), Int.toNat_natCast, mpp.1 i (by omega), show pas B idn (wN B) (nD B) = pN B from rfl]
      by_cases c : pN B i = (d : Int)
      · rw [if_pos c]
        refine ⟨_, rfl, ?_⟩
        unfold bts
        rw [if_pos (by rw [decide_eq_true_eq]; omega), hI]
      · rw [if_neg c]
        refine ⟨_, rfl, ?_⟩
        unfold bts
        rw [if_neg (by rw [decide_eq_true_eq]; omega), hI]
  · rw [if_neg h, if_neg h, if_pos rfl]
    exact Wp_some ⟨rfl, k0⟩
theorem mq_waits {B : Mm} (hB : WF B) (x : Int) : QM B (FX11_waits x) (S_waits B x) := by
  intro f hM
  obtain ⟨hD6, hDe⟩ := WF_D hB
  obtain ⟨hC6, hCe⟩ := WF_C hB
  have k0 : Kp Sm f (up f 150 0 0) := Kp_u (Kp_r _ _) (by unfold Sm; omega)
  have hM0 := MO_s hM k0
  unfold FX11_waits FX11_waits_0 S_waits
  rw [isDay_e hB hM0, b2_some]
  by_cases h : 0 ≤ x ∧ x < (nD B : Int)
  · rw [if_pos h, if_pos h, if_neg (by decide)]
    obtain ⟨d, rfl⟩ : ∃ d : Nat, x = (d : Int) := ⟨x.toNat, by omega⟩
    rw [Int.toNat_natCast]
    refine Wp_bind (laysPassed_W hB hM0) (fun g ⟨k1, mkk, mxx, mpp⟩ => ?_)
    have k := Kp_t k0 k1
    have hM' := MO_s hM k
    have e0 : g 157 0 = (nD B : Int) := by rw [hM'.1.2.1, hDe]
    have e6 : g 157 6 = (nC B : Int) := by rw [hM'.1.2.2.2.2.2.2.2.1, hCe]
    refine forX (fun n x (s : Int) => FX11_waits_25 n (d : Int) s x g) (fun i s => s = bts (fun c => decide (B (20 + c) 2 ≤ (d : Int) ∧ (pN B c = -1 ∨ (d : Int) < pN B c))) i) _ (nC B) ?_ ?_ fu 0 0 rfl (by omega) (by have := fub; omega)
    · intro n s hI
      rw [FX11_waits_25, carts_e, b2_some, if_pos (by omega), hI]
      exact Wp_some ⟨rfl, k⟩
    · intro n i s hi hI
      left
      have hs : sS s := by rw [hI]; exact (bts_s _ (by omega)).1
      rw [FX11_waits_25, carts_e, b2_some, if_neg (by omega)]
      unfold FX11_waits_74 FX11_waits_68 FX11_waits_75
      rw [nx i (by omega), sS_or0 hs]
      rw [i5 (c := i) (j := 2) (y := 2) rfl rfl (by omega) (by omega), if_pos (by omega), Int.toNat_natCast, hM'.2.2.1 i hi 2 (by omega), Int.toNat_natCast, mpp.1 i (by omega), show pas B idn (wN B) (nD B) = pN B from rfl]
      by_cases c : (d : Int) < B (20 + i) 2
      · rw [if_pos c]
        refine ⟨_, rfl, ?_⟩
        unfold bts
        rw [if_neg (by rw [decide_eq_true_eq]; omega), hI]
      · rw [if_neg c, if_pos (by omega)]
        by_cases c2 : pN B i = -1
        · rw [if_pos c2]
          refine ⟨_, rfl, ?_⟩
          unfold bts
          rw [if_pos (by rw [decide_eq_true_eq]; omega), hI]
        · rw [if_neg c2, if_pos (by omega)]
          by_cases c3 : pN B i ≤ (d : Int)
          · rw [if_pos c3]
            refine ⟨_, rfl, ?_⟩
            unfold bts
            rw [if_neg (by rw [decide_eq_true_eq]; omega), hI]
          · rw [if_neg c3]
            refine ⟨_, rfl, ?_⟩
            unfold bts
            rw [if_pos (by rw [decide_eq_true_eq]; omega), hI]
  · rw [if_neg h, if_neg h, if_pos rfl]
    exact Wp_some ⟨rfl, k0⟩
theorem mq_room {B : Mm} (hB : WF B) (x : Int) : QM B (FX11_room x) (S_room B x) := by
  intro f hM
  obtain ⟨hD6, hDe⟩ := WF_D hB
  obtain ⟨hC6, hCe⟩ := WF_C hB
  have k0 : Kp Sm f (up f 150 0 0) := Kp_u (Kp_r _ _) (by unfold Sm; omega)
  have hM0 := MO_s hM k0
  unfold FX11_room FX11_room_0 S_room
  rw [isDay_e hB hM0, b2_some]
  by_cases h : 0 ≤ x ∧ x < (nD B : Int)
  · rw [if_pos h, if_pos h, if_neg (by decide)]
    obtain ⟨d, rfl⟩ : ∃ d : Nat, x = (d : Int) := ⟨x.toNat, by omega⟩
    rw [Int.toNat_natCast]
    refine Wp_bind (laysPassed_W hB hM0) (fun g ⟨k1, mkk, mxx, mpp⟩ => ?_)
    have k := Kp_t k0 k1
    have hM' := MO_s hM k
    have e0 : g 157 0 = (nD B : Int) := by rw [hM'.1.2.1, hDe]
    have e6 : g 157 6 = (nC B : Int) := by rw [hM'.1.2.2.2.2.2.2.2.1, hCe]
    rw [if_pos (by omega)]
    exact Wp_some ⟨mpp.2 d (by omega), k⟩
  · rw [if_neg h, if_neg h, if_pos rfl]
    exact Wp_some ⟨rfl, k0⟩
theorem mq_stuck {B : Mm} (hB : WF B)  : QM B (FX11_stuck ) (S_stuck B ) := by
  intro f hM
  obtain ⟨hD6, hDe⟩ := WF_D hB
  obtain ⟨hC6, hCe⟩ := WF_C hB
  have k0 : Kp Sm f (up f 150 0 0) := Kp_u (Kp_r _ _) (by unfold Sm; omega)
  have hM0 := MO_s hM k0
  unfold FX11_stuck FX11_stuck_0 S_stuck
  rw [isBridge_e hM0, b2_some]
  by_cases h : 0 < B 0 8
  · rw [if_pos h, if_pos h, if_neg (by decide)]
    refine Wp_bind (laysPassed_W hB hM0) (fun g ⟨k1, mkk, mxx, mpp⟩ => ?_)
    have k := Kp_t k0 k1
    have hM' := MO_s hM k
    have e0 : g 157 0 = (nD B : Int) := by rw [hM'.1.2.1, hDe]
    have e6 : g 157 6 = (nC B : Int) := by rw [hM'.1.2.2.2.2.2.2.2.1, hCe]
    refine forX (fun n x (s : Unit) => FX11_stuck_21 n x g) (fun i s => ff2 (p_stuck B) (nC B) i = -1) _ (nD B) ?_ ?_ fu 0 () rfl (by omega) (by have := fub; omega)
    · intro n s hI
      (try simp only at hI ⊢)
      rw [FX11_stuck_21, days_e, b2_some, if_pos (by omega), hI]
      exact Wp_some ⟨rfl, k⟩
    · intro n d s hd hI
      (try simp only at hI ⊢)
      rw [FX11_stuck_21, days_e, b2_some, if_neg (by omega)]
      refine forR (fun n' x (s : Unit) => FX11_stuck_31 (FX11_stuck_21 n) n' (d : Int) x g) (fun i s => ff (p_stuck B d) i = -1) (fun o => (∃ s' : Unit, o = FX11_stuck_21 n ((d + 1 : Nat) : Int) g ∧ ff2 (p_stuck B) (nC B) (d + 1) = -1) ∨ Wp o (fun p => p.1 = ff2 (p_stuck B) (nC B) (nD B) ∧ Kp Sm f p.2)) (nC B) ?_ ?_ fu 0 () rfl (by omega) (by have := fub; omega)
      · intro n' s hJ
        (try simp only at hJ ⊢)
        left
        rw [FX11_stuck_31, carts_e, b2_some, if_pos (by omega)]
        unfold FX11_stuck_71
        rw [nx d (by omega)]
        exact ⟨(), rfl, ff2_no hI hJ⟩
      · intro n' c s hc hJ
        (try simp only at hJ ⊢)
        rw [FX11_stuck_31, carts_e, b2_some, if_neg (by omega), i5 (c := c) (j := 2) (y := 2) rfl rfl (by omega) (by omega), if_pos (by omega), Int.toNat_natCast, hM'.2.2.1 c hc 2 (by omega), Int.toNat_natCast, mpp.1 c (by omega), show pas B idn (wN B) (nD B) = pN B from rfl]
        unfold FX11_stuck_65
        rw [nx c (by omega)]
        by_cases c1 : B (20 + c) 2 = (d : Int)
        · rw [if_pos c1, if_pos (by omega)]
          by_cases c2 : pN B c = (d : Int)
          · left
            refine ⟨(), ?_, ff_no hJ ?_⟩
            · rw [if_pos c2]
            · unfold p_stuck; rw [decide_eq_false]; omega
          · right
            right
            rw [if_neg c2]
            refine Wp_some ⟨?_, k⟩
            have hh := ff_hit (p := p_stuck B d) hJ (by unfold p_stuck; rw [decide_eq_true]; exact ⟨c1, c2⟩) (nC B) hc
            exact (ff2_hit hI hh (by omega) _ hd).symm
        · left
          refine ⟨(), ?_, ff_no hJ ?_⟩
          · rw [if_neg c1]
          · unfold p_stuck; rw [decide_eq_false]; omega
  · rw [if_neg h, if_neg h, if_pos rfl]
    exact Wp_some ⟨rfl, k0⟩
theorem mq_lost {B : Mm} (hB : WF B)  : QM B (FX11_lost ) (S_lost B ) := by
  intro f hM
  obtain ⟨hD6, hDe⟩ := WF_D hB
  obtain ⟨hC6, hCe⟩ := WF_C hB
  have k0 : Kp Sm f (up f 150 0 0) := Kp_u (Kp_r _ _) (by unfold Sm; omega)
  have hM0 := MO_s hM k0
  unfold FX11_lost FX11_lost_0 S_lost
  rw [isBridge_e hM0, b2_some]
  by_cases h : 0 < B 0 8
  · rw [if_pos h, if_pos h, if_neg (by decide)]
    refine Wp_bind (laysPassed_W hB hM0) (fun g ⟨k1, mkk, mxx, mpp⟩ => ?_)
    have k := Kp_t k0 k1
    have hM' := MO_s hM k
    have e0 : g 157 0 = (nD B : Int) := by rw [hM'.1.2.1, hDe]
    have e6 : g 157 6 = (nC B : Int) := by rw [hM'.1.2.2.2.2.2.2.2.1, hCe]
    refine forX (fun n x (s : Int) => FX11_lost_23 n s x g) (fun i s => s = bts (fun c => decide (pN B c = -1)) i) _ (nC B) ?_ ?_ fu 0 0 rfl (by omega) (by have := fub; omega)
    · intro n s hI
      rw [FX11_lost_23, carts_e, b2_some, if_pos (by omega), hI]
      exact Wp_some ⟨rfl, k⟩
    · intro n i s hi hI
      left
      have hs : sS s := by rw [hI]; exact (bts_s _ (by omega)).1
      rw [FX11_lost_23, carts_e, b2_some, if_neg (by omega)]
      unfold FX11_lost_49
      rw [nx i (by omega), sS_or0 hs]
      rw [if_pos (by omega), Int.toNat_natCast, mpp.1 i (by omega), show pas B idn (wN B) (nD B) = pN B from rfl]
      by_cases c : pN B i = -1
      · rw [if_pos c]
        refine ⟨_, rfl, ?_⟩
        unfold bts
        rw [if_pos (by rw [decide_eq_true_eq]; omega), hI]
      · rw [if_neg c]
        refine ⟨_, rfl, ?_⟩
        unfold bts
        rw [if_neg (by rw [decide_eq_true_eq]; omega), hI]
  · rw [if_neg h, if_neg h, if_pos rfl]
    exact Wp_some ⟨rfl, k0⟩
theorem mq_kept {B : Mm} (hB : WF B)  : QM B (FX11_kept ) (S_kept B ) := by
  intro f hM
  obtain ⟨hD6, hDe⟩ := WF_D hB
  obtain ⟨hC6, hCe⟩ := WF_C hB
  have k0 : Kp Sm f (up f 150 0 0) := Kp_u (Kp_r _ _) (by unfold Sm; omega)
  have hM0 := MO_s hM k0
  unfold FX11_kept FX11_kept_0 S_kept
  rw [isBridge_e hM0, b2_some]
  by_cases h : 0 < B 0 8
  · rw [if_pos h, if_pos h, if_neg (by decide)]
    refine Wp_bind (laysPassed_W hB hM0) (fun g ⟨k1, mkk, mxx, mpp⟩ => ?_)
    have k := Kp_t k0 k1
    have hM' := MO_s hM k
    have e0 : g 157 0 = (nD B : Int) := by rw [hM'.1.2.1, hDe]
    have e6 : g 157 6 = (nC B : Int) := by rw [hM'.1.2.2.2.2.2.2.2.1, hCe]
    rw [keptNow_e hB hM' mpp, b2_some]
    exact Wp_some ⟨rfl, k⟩
  · rw [if_neg h, if_neg h, if_pos rfl]
    exact Wp_some ⟨rfl, k0⟩
theorem mq_pays {B : Mm} (hB : WF B)  : QM B (FX11_pays ) (S_pays B ) := by
  intro f hM
  obtain ⟨hD6, hDe⟩ := WF_D hB
  obtain ⟨hC6, hCe⟩ := WF_C hB
  have k0 : Kp Sm f (up f 150 0 0) := Kp_u (Kp_r _ _) (by unfold Sm; omega)
  have hM0 := MO_s hM k0
  unfold FX11_pays FX11_pays_0 S_pays
  rw [isBridge_e hM0, b2_some]
  by_cases h : 0 < B 0 8
  · rw [if_pos h, if_pos h, if_neg (by decide)]
    refine Wp_bind (laysPassed_W hB hM0) (fun g ⟨k1, mkk, mxx, mpp⟩ => ?_)
    have k := Kp_t k0 k1
    have hM' := MO_s hM k
    have e0 : g 157 0 = (nD B : Int) := by rw [hM'.1.2.1, hDe]
    have e6 : g 157 6 = (nC B : Int) := by rw [hM'.1.2.2.2.2.2.2.2.1, hCe]
    rw [keptNow_e hB hM' mpp, b2_some, mpayOf_e hB hM', b2_some]
    exact Wp_some ⟨rfl, k⟩
  · rw [if_neg h, if_neg h, if_pos rfl]
    exact Wp_some ⟨rfl, k0⟩
theorem mq_costs {B : Mm} (hB : WF B) : QM B FX11_costs (S_costs B) := by
  intro f hM
  have k0 : Kp Sm f (up f 150 0 0) := Kp_u (Kp_r _ _) (by unfold Sm; omega)
  have hM0 := MO_s hM k0
  unfold FX11_costs FX11_costs_0 S_costs
  rw [isBridge_e hM0, b2_some]
  by_cases h : 0 < B 0 8
  · rw [if_pos h, if_pos h, if_neg (by decide)]
    refine Wp_bind (lays_W hB hM0) (fun g ⟨k1, a1, a2⟩ => ?_)
    have k : Kp Sm f g := Kp_t k0 (Kp_m k1 (fun a j h => by unfold Sm; omega))
    rw [costNow_e hB (MO_s hM k) (dn_W hB) (fun d hd => a2 d (by have := (WF_D hB).1; omega)), b2_some]
    exact Wp_some ⟨rfl, k⟩
  · rw [if_neg h, if_neg h, if_pos rfl]
    exact Wp_some ⟨rfl, k0⟩
theorem mq_lacks {B : Mm} (hB : WF B) (x : Int) : QM B (FX11_lacks x) (S_lacks B x) := by
  intro f hM
  obtain ⟨hD6, hDe⟩ := WF_D hB
  obtain ⟨hC6, hCe⟩ := WF_C hB
  have k0 : Kp Sm f (up f 150 0 0) := Kp_u (Kp_r _ _) (by unfold Sm; omega)
  have hM0 := MO_s hM k0
  unfold FX11_lacks FX11_lacks_0 S_lacks
  rw [isCart_e hB hM0, b2_some]
  by_cases h : 0 ≤ x ∧ x < (nC B : Int)
  · rw [if_pos h, if_pos h, if_neg (by decide)]
    obtain ⟨d, rfl⟩ : ∃ d : Nat, x = (d : Int) := ⟨x.toNat, by omega⟩
    rw [Int.toNat_natCast]
    refine Wp_bind (laysNow_W hB hM0) (fun g ⟨k1, mkk, mxx⟩ => ?_)
    have k := Kp_t k0 k1
    have hM' := MO_s hM k
    have e0 : g 157 0 = (nD B : Int) := by rw [hM'.1.2.1, hDe]
    have e6 : g 157 6 = (nC B : Int) := by rw [hM'.1.2.2.2.2.2.2.2.1, hCe]
    have hd : d < nC B := by omega
    have q1 := hM'.2.2.1 d hd 1 (by omega)
    have q2 := hM'.2.2.1 d hd 2 (by omega)
    have q3 := hM'.2.2.1 d hd 3 (by omega)
    have hcr := WF_c hB d hd
    obtain ⟨m, e, hj⟩ := forF (fun n x (s : Int) => FX11_lacks_24 n (d : Int) s x g) (st_lacks B d) (fun i s => 0 ≤ s ∧ s ≤ 60) 0 (nD B) 0 (by decide) (by omega) (fun n i s hb' hi hJ => by
      have hw := wN_r hB i
      refine ⟨?_, by unfold st_lacks jMax; split <;> (try split) <;> omega⟩
      rw [FX11_lacks_24, days_e, b2_some, if_neg (by omega), i5 (c := d) (j := 2) (y := 2) rfl rfl (by omega) (by omega), i5 (c := d) (j := 3) (y := 3) rfl rfl (by omega) (by omega), if_pos (by omega), Int.toNat_natCast, Int.toNat_natCast, Int.toNat_natCast, q2, q3, (mkk i hi).2.2]
      unfold FX11_lacks_77 st_lacks
      rw [nx i (by omega), show wd B (dn B) (-1) (-1) 0 (B 0 3) = wN B from rfl]
      by_cases c1 : (i : Int) < B (20 + d) 2
      · rw [if_pos c1, if_neg (by omega)]
      · rw [if_neg c1, if_pos (by omega)]
        by_cases c2 : B (20 + d) 3 < (i : Int)
        · rw [if_pos c2, if_neg (by omega)]
        · rw [if_neg c2, if_pos (by omega), if_pos (show B (20 + d) 2 ≤ (i : Int) ∧ (i : Int) ≤ B (20 + d) 3 by omega)]
          unfold jMax
          by_cases c3 : wN B i ≤ s
          · rw [if_pos c3, if_neg (by omega)]
          · rw [if_neg c3, if_pos (by omega), if_pos (by omega)]) fu (by have := fub; omega)
    refine Wp_eq e ?_
    rw [FX11_lacks_24, days_e, b2_some, if_pos (by omega)]
    unfold FX11_lacks_83
    rw [i5 (c := d) (j := 1) (y := 1) rfl rfl (by omega) (by omega), if_pos (by omega), Int.toNat_natCast, q1]
    generalize fo (fun i => st_lacks B d (0 + i)) 0 (nD B - 0) = s at *
    unfold jMax
    by_cases c : B (20 + d) 1 ≤ s
    · rw [if_pos c, if_neg (by omega)]
      exact Wp_some ⟨rfl, k⟩
    · rw [if_neg c, if_pos (show (0 : Int) ≤ ((5 * d + 1 : Nat) : Int) ∧ ((5 * d + 1 : Nat) : Int) < 150 by omega), if_pos (show 0 < B (20 + d) 1 - s by omega), w32s (by omega) (by omega)]
      exact Wp_some ⟨rfl, k⟩
  · rw [if_neg h, if_neg h, if_pos rfl]
    exact Wp_some ⟨rfl, k0⟩
theorem mq_crowd {B : Mm} (hB : WF B)  : QM B (FX11_crowd ) (S_crowd B ) := by
  intro f hM
  obtain ⟨hD6, hDe⟩ := WF_D hB
  obtain ⟨hC6, hCe⟩ := WF_C hB
  have k0 : Kp Sm f (up f 150 0 0) := Kp_u (Kp_r _ _) (by unfold Sm; omega)
  have hM0 := MO_s hM k0
  unfold FX11_crowd FX11_crowd_0 S_crowd
  rw [isBridge_e hM0, b2_some]
  by_cases h : 0 < B 0 8
  · rw [if_pos h, if_pos h, if_neg (by decide)]
    refine Wp_bind (laysPassed_W hB hM0) (fun g ⟨k1, mkk, mxx, mpp⟩ => ?_)
    have k := Kp_t k0 k1
    have hM' := MO_s hM k
    have e0 : g 157 0 = (nD B : Int) := by rw [hM'.1.2.1, hDe]
    have e6 : g 157 6 = (nC B : Int) := by rw [hM'.1.2.2.2.2.2.2.2.1, hCe]
    obtain ⟨m, e, hj⟩ := forF (fun n x (s : Int × Int) => FX11_crowd_25 n s.1 s.2 x g) (st_crowd B) (fun i s => True) 0 (nD B) (-1, 0) trivial (by omega) (fun n i s hb' hi hJ => by
      refine ⟨?_, trivial⟩
      (try simp only)
      rw [FX11_crowd_25, days_e, b2_some, if_neg (by omega)]
      refine forR (fun n' x (c : Int) => FX11_crowd_39 (FX11_crowd_25 n) n' s.1 s.2 (i : Int) c x g) (fun j c => c = sm (fun c => if pN B c = (i : Int) then 1 else 0) j) (fun o => o = FX11_crowd_25 n (st_crowd B i s).1 (st_crowd B i s).2 ((i + 1 : Nat) : Int) g) (nC B) ?_ ?_ fu 0 0 rfl (by omega) (by have := fub; omega)
      · intro n' c hc
        rw [FX11_crowd_39, carts_e, b2_some, if_pos (by omega), hc]
        unfold FX11_crowd_75 FX11_crowd_89
        rw [nx i (by omega)]
        unfold st_crowd n_crowd
        split <;> rfl
      · intro n' j c hj hc
        left
        have hr := sm_r (g := fun c => if pN B c = (i : Int) then 1 else 0) (M := 1) j (fun a ha => by split <;> omega)
        rw [FX11_crowd_39, carts_e, b2_some, if_neg (by omega), if_pos (by omega), Int.toNat_natCast, mpp.1 j (by omega), show pas B idn (wN B) (nD B) = pN B from rfl]
        unfold FX11_crowd_66
        rw [nx j (by omega)]
        by_cases q : pN B j = (i : Int)
        · rw [if_pos q, w32s (by omega) (by omega)]
          refine ⟨_, rfl, ?_⟩
          unfold sm
          rw [if_pos q, hc]
        · rw [if_neg q, w32s (by omega) (by omega)]
          refine ⟨_, rfl, ?_⟩
          unfold sm
          rw [if_neg q, hc]) fu (by have := fub; omega)
    refine Wp_eq e ?_
    (try simp only)
    rw [FX11_crowd_25, days_e, b2_some, if_pos (by omega)]
    exact Wp_some ⟨rfl, k⟩
  · rw [if_neg h, if_neg h, if_pos rfl]
    exact Wp_some ⟨rfl, k0⟩
theorem mq_late {B : Mm} (hB : WF B)  : QM B (FX11_late ) (S_late B ) := by
  intro f hM
  obtain ⟨hD6, hDe⟩ := WF_D hB
  obtain ⟨hC6, hCe⟩ := WF_C hB
  have k0 : Kp Sm f (up f 150 0 0) := Kp_u (Kp_r _ _) (by unfold Sm; omega)
  have hM0 := MO_s hM k0
  unfold FX11_late FX11_late_0 S_late
  rw [isBridge_e hM0, b2_some]
  by_cases h : 0 < B 0 8
  · rw [if_pos h, if_pos h, if_neg (by decide)]
    refine Wp_bind (laysPassed_W hB hM0) (fun g ⟨k1, mkk, mxx, mpp⟩ => ?_)
    have k := Kp_t k0 k1
    have hM' := MO_s hM k
    have e0 : g 157 0 = (nD B : Int) := by rw [hM'.1.2.1, hDe]
    have e6 : g 157 6 = (nC B : Int) := by rw [hM'.1.2.2.2.2.2.2.2.1, hCe]
    refine forX (fun n x (s : Int) => FX11_late_23 n s x g) (fun i s => s = bts (fun c => decide (pN B c ≠ -1) && !inT B (pN B) c) i) _ (nC B) ?_ ?_ fu 0 0 rfl (by omega) (by have := fub; omega)
    · intro n s hI
      rw [FX11_late_23, carts_e, b2_some, if_pos (by omega), hI]
      exact Wp_some ⟨rfl, k⟩
    · intro n i s hi hI
      left
      have hs : sS s := by rw [hI]; exact (bts_s _ (by omega)).1
      rw [FX11_late_23, carts_e, b2_some, if_neg (by omega)]
      unfold FX11_late_56 FX11_late_57
      rw [nx i (by omega), sS_or0 hs]
      rw [if_pos (by omega), Int.toNat_natCast, mpp.1 i (by omega), isInTime_e hB hM' mpp hi, b2_some, show pas B idn (wN B) (nD B) = pN B from rfl]
      by_cases c : pN B i = -1
      · rw [if_pos c]
        refine ⟨_, rfl, ?_⟩
        unfold bts
        rw [if_neg (by simp [c]), hI]
      · rw [if_neg c]
        by_cases c2 : inT B (pN B) i = true
        · rw [if_pos c2, if_neg (by decide)]
          refine ⟨_, rfl, ?_⟩
          unfold bts
          rw [if_neg (by simp [c2]), hI]
        · rw [if_neg c2, if_pos rfl]
          refine ⟨_, rfl, ?_⟩
          unfold bts
          rw [if_pos (by simp [c, c2]), hI]
  · rw [if_neg h, if_neg h, if_pos rfl]
    exact Wp_some ⟨rfl, k0⟩
theorem mq_delay {B : Mm} (hB : WF B)  : QM B (FX11_delay ) (S_delay B ) := by
  intro f hM
  obtain ⟨hD6, hDe⟩ := WF_D hB
  obtain ⟨hC6, hCe⟩ := WF_C hB
  have k0 : Kp Sm f (up f 150 0 0) := Kp_u (Kp_r _ _) (by unfold Sm; omega)
  have hM0 := MO_s hM k0
  unfold FX11_delay FX11_delay_0 S_delay
  rw [isBridge_e hM0, b2_some]
  by_cases h : 0 < B 0 8
  · rw [if_pos h, if_pos h, if_neg (by decide)]
    refine Wp_bind (laysPassed_W hB hM0) (fun g ⟨k1, mkk, mxx, mpp⟩ => ?_)
    have k := Kp_t k0 k1
    have hM' := MO_s hM k
    have e0 : g 157 0 = (nD B : Int) := by rw [hM'.1.2.1, hDe]
    have e6 : g 157 6 = (nC B : Int) := by rw [hM'.1.2.2.2.2.2.2.2.1, hCe]
    refine forX (fun n x (s : Int) => FX11_delay_23 n s x g) (fun i s => s = sm (fun c => if pN B c = -1 then 0 else pN B c - B (20 + c) 2) i) _ (nC B) ?_ ?_ fu 0 0 rfl (by omega) (by have := fub; omega)
    · intro n s hI
      rw [FX11_delay_23, carts_e, b2_some, if_pos (by omega), hI]
      exact Wp_some ⟨rfl, k⟩
    · intro n i s hi hI
      left
      have q2 := hM'.2.2.1 i hi 2 (by omega)
      have r1 := dl_r hB i (by omega)
      have r2 := pN_r hB i
      have r3 := WF_c hB i hi
      rw [FX11_delay_23, carts_e, b2_some, if_neg (by omega), if_pos (by omega), i5 (c := i) (j := 2) (y := 2) rfl rfl (by omega) (by omega), Int.toNat_natCast, Int.toNat_natCast, q2, mpp.1 i (by omega), show pas B idn (wN B) (nD B) = pN B from rfl]
      unfold FX11_delay_63
      rw [nx i (by omega)]
      by_cases c1 : pN B i = -1
      · rw [if_pos c1, w32s (by omega) (by omega)]
        refine ⟨_, rfl, ?_⟩
        unfold sm
        rw [if_pos c1, hI]
      · rw [if_neg c1, if_pos (by omega), if_pos (by omega), w32s (x := pN B i - B (20 + i) 2) (by omega) (by omega), w32s (by omega) (by omega)]
        refine ⟨_, rfl, ?_⟩
        unfold sm
        rw [if_neg c1, hI]
  · rw [if_neg h, if_neg h, if_pos rfl]
    exact Wp_some ⟨rfl, k0⟩
theorem mq_toll {B : Mm} (hB : WF B) (x : Int) : QM B (FX11_toll x) (S_toll B x) := by
  intro f hM
  obtain ⟨hD6, hDe⟩ := WF_D hB
  obtain ⟨hC6, hCe⟩ := WF_C hB
  have k0 : Kp Sm f (up f 150 0 0) := Kp_u (Kp_r _ _) (by unfold Sm; omega)
  have hM0 := MO_s hM k0
  unfold FX11_toll FX11_toll_0 S_toll
  rw [isDay_e hB hM0, b2_some]
  by_cases h : 0 ≤ x ∧ x < (nD B : Int)
  · rw [if_pos h, if_pos h, if_neg (by decide)]
    obtain ⟨d, rfl⟩ : ∃ d : Nat, x = (d : Int) := ⟨x.toNat, by omega⟩
    rw [Int.toNat_natCast]
    refine Wp_bind (laysPassed_W hB hM0) (fun g ⟨k1, mkk, mxx, mpp⟩ => ?_)
    have k := Kp_t k0 k1
    have hM' := MO_s hM k
    have e0 : g 157 0 = (nD B : Int) := by rw [hM'.1.2.1, hDe]
    have e6 : g 157 6 = (nC B : Int) := by rw [hM'.1.2.2.2.2.2.2.2.1, hCe]
    refine forX (fun n x (s : Int) => FX11_toll_25 n (d : Int) s x g) (fun i s => s = sm (fun c => if pN B c = (d : Int) then B (20 + c) 4 else 0) i) _ (nC B) ?_ ?_ fu 0 0 rfl (by omega) (by have := fub; omega)
    · intro n s hI
      rw [FX11_toll_25, carts_e, b2_some, if_pos (by omega), hI]
      exact Wp_some ⟨rfl, k⟩
    · intro n i s hi hI
      left
      have q4 := hM'.2.2.1 i hi 4 (by omega)
      have r3 := WF_c hB i hi
      have r1 := sm_r (g := fun c => if pN B c = (d : Int) then B (20 + c) 4 else 0) (M := 999) i (fun c hc => by
        have := WF_c hB c (by omega)
        split <;> omega)
      rw [FX11_toll_25, carts_e, b2_some, if_neg (by omega), if_pos (by omega), i5 (c := i) (j := 4) (y := 4) rfl rfl (by omega) (by omega), Int.toNat_natCast, Int.toNat_natCast, q4, mpp.1 i (by omega), show pas B idn (wN B) (nD B) = pN B from rfl]
      unfold FX11_toll_58
      rw [nx i (by omega)]
      by_cases c1 : pN B i = (d : Int)
      · rw [if_pos c1, if_pos (by omega), w32s (by omega) (by omega)]
        refine ⟨_, rfl, ?_⟩
        unfold sm
        rw [if_pos c1, hI]
      · rw [if_neg c1, w32s (by omega) (by omega)]
        refine ⟨_, rfl, ?_⟩
        unfold sm
        rw [if_neg c1, hI]
  · rw [if_neg h, if_neg h, if_pos rfl]
    exact Wp_some ⟨rfl, k0⟩
theorem mq_gap {B : Mm} (hB : WF B) (x : Int) : QM B (FX11_gap x) (S_gap B x) := by
  intro f hM
  obtain ⟨hD6, hDe⟩ := WF_D hB
  obtain ⟨hC6, hCe⟩ := WF_C hB
  have k0 : Kp Sm f (up f 150 0 0) := Kp_u (Kp_r _ _) (by unfold Sm; omega)
  have hM0 := MO_s hM k0
  unfold FX11_gap FX11_gap_0 S_gap
  rw [isDay_e hB hM0, b2_some]
  by_cases h : 0 ≤ x ∧ x < (nD B : Int)
  · rw [if_pos h, if_pos h, if_neg (by decide)]
    obtain ⟨d, rfl⟩ : ∃ d : Nat, x = (d : Int) := ⟨x.toNat, by omega⟩
    rw [Int.toNat_natCast]
    refine Wp_bind (laysNow_W hB hM0) (fun g ⟨k1, mkk, mxx⟩ => ?_)
    have k := Kp_t k0 k1
    have hM' := MO_s hM k
    have e0 : g 157 0 = (nD B : Int) := by rw [hM'.1.2.1, hDe]
    have e6 : g 157 6 = (nC B : Int) := by rw [hM'.1.2.2.2.2.2.2.2.1, hCe]
    have r0 := fl_r hB (ch := dn B) (t2 := -1) (tw := -1) (tm := 0) hB.2.2.2.1.1 (s := 0) (d := d) (by decide)
    have r1 := fl_r hB (ch := dn B) (t2 := -1) (tw := -1) (tm := 0) hB.2.2.2.1.1 (s := 1) (d := d) (by decide)
    rw [i2 (c := d) (j := 1) (y := 1) rfl rfl (by omega) (by omega), w32n (x := 2 * (d : Int)) (n := 2 * d) (by omega) (by omega), if_pos (by omega), if_pos (by omega), Int.toNat_natCast, Int.toNat_natCast, (mkk d (by omega)).1, (mkk d (by omega)).2.1]
    rw [show fl B (dn B) (-1) (-1) 0 (B 0 3) = fN B from rfl] at *
    rw [w32s (x := fN B 0 d - fN B 1 d) (by omega) (by omega)]
    unfold jAbs
    by_cases c : 0 ≤ fN B 0 d - fN B 1 d
    · rw [if_pos c, if_pos c]
      exact Wp_some ⟨rfl, k⟩
    · rw [if_neg c, if_neg c, show (0 : Int) - (fN B 0 d - fN B 1 d) = -(fN B 0 d - fN B 1 d) by omega]
      exact Wp_some ⟨rfl, k⟩
  · rw [if_neg h, if_neg h, if_pos rfl]
    exact Wp_some ⟨rfl, k0⟩
theorem mq_kind {B : Mm} (hB : WF B) (x : Int) : QM B (FX11_kind x) (S_kind B x) := by
  intro f hM
  obtain ⟨hD6, hDe⟩ := WF_D hB
  obtain ⟨hC6, hCe⟩ := WF_C hB
  have k0 : Kp Sm f (up f 150 0 0) := Kp_u (Kp_r _ _) (by unfold Sm; omega)
  have hM0 := MO_s hM k0
  unfold FX11_kind FX11_kind_0 S_kind
  rw [isDay_e hB hM0, b2_some]
  by_cases h : 0 ≤ x ∧ x < (nD B : Int)
  · rw [if_pos h, if_pos h, if_neg (by decide)]
    obtain ⟨d, rfl⟩ : ∃ d : Nat, x = (d : Int) := ⟨x.toNat, by omega⟩
    rw [Int.toNat_natCast]
    refine Wp_bind (laysNow_W hB hM0) (fun g ⟨k1, mkk, mxx⟩ => ?_)
    have k := Kp_t k0 k1
    have hM' := MO_s hM k
    have e0 : g 157 0 = (nD B : Int) := by rw [hM'.1.2.1, hDe]
    have e6 : g 157 6 = (nC B : Int) := by rw [hM'.1.2.2.2.2.2.2.2.1, hCe]
    obtain ⟨hK4, hKe⟩ := WF_K hB
    rw [if_pos (by omega), (mkk d (by omega)).2.2]
    refine forX (fun n x (s : Int × Int × Mm) => FX11_kind_33 n (d : Int) s.1 s.2.1 x s.2.2) (fun i s => (s.1, s.2.1) = fo (fun i => st_kind B d i) (-1, wN B d) i ∧ Kp Sm f s.2.2 ∧ ∃ c, MX B (chU (dn B) d c) (-1) (-1) s.2.2) _ (nK B) ?_ ?_ fu 0 (-1, wN B d, g) ⟨rfl, k, dn B d, ?_⟩ (by omega) (by have := fub; omega)
    · rintro n ⟨a, b, g'⟩ ⟨h1, h2, h3⟩
      (try simp only at h1 h2 h3 ⊢)
      have hM2 := MO_s hM h2
      rw [FX11_kind_33, if_pos (by rw [hM2.1.2.2.2.2.2.2.1]; omega), ← h1]
      exact Wp_some ⟨rfl, h2⟩
    · rintro n i ⟨a, b, g'⟩ hi ⟨h1, h2, c0, h3⟩
      (try simp only at h1 h2 h3 ⊢)
      left
      have hM2 := MO_s hM h2
      have k3 : Kp Sm g' (up g' 162 d (i : Int)) := Kp_u (Kp_r _ _) (by unfold Sm; omega)
      have hX3 : MX B (chU (dn B) d (i : Int)) (-1) (-1) (up g' 162 d (i : Int)) := by
        obtain ⟨x1, x2, x3, x4⟩ := h3
        refine ⟨fun e he => ?_, by rw [up_n (by omega)]; exact x2, fun q => by omega, chU_W (dn_W hB) (by omega)⟩
        unfold chU
        by_cases hed : e = d
        · rw [if_pos hed, hed, up_s]
        · rw [if_neg hed, up_n (by omega), x1 e he]
          unfold chU
          rw [if_neg hed]
      obtain ⟨g2, q1, q2, q3⟩ := goes0_W hB (MO_s hM2 k3) hX3
      have e4 : (fo (fun i => st_kind B d i) (-1, wN B d) (i + 1)) = st_kind B d i (a, b) := by rw [h1]; rfl
      rw [FX11_kind_33, if_neg (by rw [hM2.1.2.2.2.2.2.2.1]; omega), if_pos (by omega), Int.toNat_natCast, q1]
      simp only [Option.bind_some]
      rw [if_pos (by omega), (q3 d (by omega)).2.2]
      unfold FX11_kind_79
      rw [nx i (by omega), e4, show wd B (chU (dn B) d (i : Int)) (-1) (-1) 0 (B 0 3) d = w_kind B d i from rfl]
      unfold st_kind
      have kk : Kp Sm f g2 := Kp_t h2 (Kp_t k3 (Kp_m q2 (fun a j h => by unfold Sm; omega)))
      have xx : MX B (chU (dn B) d (i : Int)) (-1) (-1) g2 := MX_k hX3 (fun a j h => q2 a j (by omega))
      (try simp only)
      by_cases c1 : b < w_kind B d i
      · rw [if_pos c1, if_pos (by omega), if_pos c1]
        exact ⟨((i : Int), w_kind B d i, g2), rfl, rfl, kk, _, xx⟩
      · rw [if_neg c1, if_neg c1]
        exact ⟨(a, b, g2), rfl, rfl, kk, _, xx⟩
    · have : chU (dn B) d (dn B d) = dn B := by
        funext e
        unfold chU
        split
        · next he => rw [he]
        · rfl
      rw [this]
      exact mxx
  · rw [if_neg h, if_neg h, if_pos rfl]
    exact Wp_some ⟨rfl, k0⟩
theorem mq_feels {B : Mm} (hB : WF B) (x y : Int) : QM B (FX11_feels x y) (S_feels B x y) := by
  intro f hM
  obtain ⟨hD6, hDe⟩ := WF_D hB
  have k0 : Kp Sm f (up f 150 0 0) := Kp_u (Kp_r _ _) (by unfold Sm; omega)
  have hM0 := MO_s hM k0
  unfold FX11_feels FX11_feels_0 S_feels
  rw [isHalf_e, b2_some, isDay_e hB hM0, b2_some]
  by_cases h : 0 ≤ x ∧ x ≤ 1
  · rw [if_pos h, if_neg (by decide)]
    by_cases h2 : 0 ≤ y ∧ y < (nD B : Int)
    · obtain ⟨s, rfl⟩ : ∃ d : Nat, x = (d : Int) := ⟨x.toNat, by omega⟩
      obtain ⟨d, rfl⟩ : ∃ d : Nat, y = (d : Int) := ⟨y.toNat, by omega⟩
      rw [if_pos h2, if_neg (by decide), if_pos (by omega), Int.toNat_natCast, Int.toNat_natCast]
      refine Wp_bind (laysNow_W hB hM0) (fun g ⟨k1, mkk, mxx⟩ => ?_)
      rw [i2 (c := d) (j := s) rfl rfl (by omega) (by omega), if_pos (by omega), Int.toNat_natCast]
      refine Wp_some ⟨?_, Kp_t k0 k1⟩
      rcases (show s = 0 ∨ s = 1 by omega) with rfl | rfl
      · exact (mkk d (by omega)).1
      · exact (mkk d (by omega)).2.1
    · rw [if_neg h2, if_pos rfl, if_neg (by omega)]
      exact Wp_some ⟨rfl, k0⟩
  · rw [if_neg h, if_pos rfl, if_neg (by omega)]
    exact Wp_some ⟨rfl, k0⟩
theorem mq_deed {B : Mm} (hB : WF B) (x y : Int) : QM B (FX11_deed x y) (S_deed B x y) := by
  intro f hM
  obtain ⟨hK4, hKe⟩ := WF_K hB
  have k0 : Kp Sm f (up f 150 0 0) := Kp_u (Kp_r _ _) (by unfold Sm; omega)
  have hM0 := MO_s hM k0
  unfold FX11_deed FX11_deed_0 S_deed
  rw [isDeed_e hB hM0, b2_some, in_e, b2_some]
  by_cases h : 0 ≤ x ∧ x < (nK B : Int)
  · rw [if_pos h, if_neg (by decide)]
    by_cases h2 : 0 ≤ y ∧ y ≤ 3
    · rw [if_pos h2, if_neg (by decide), i4 (x := x) (y := y) (c := x.toNat) (j := y.toNat) (by omega) (by omega) (by omega) (by omega), if_pos (by omega), if_pos (by omega), Int.toNat_natCast]
      exact Wp_some ⟨hM0.2.1 x.toNat (by omega) y.toNat (by omega), k0⟩
    · rw [if_neg h2, if_pos rfl, if_neg (by omega)]
      exact Wp_some ⟨rfl, k0⟩
  · rw [if_neg h, if_pos rfl, if_neg (by omega)]
    exact Wp_some ⟨rfl, k0⟩
theorem mq_cart {B : Mm} (hB : WF B) (x y : Int) : QM B (FX11_cart x y) (S_cart B x y) := by
  intro f hM
  obtain ⟨hC6, hCe⟩ := WF_C hB
  have k0 : Kp Sm f (up f 150 0 0) := Kp_u (Kp_r _ _) (by unfold Sm; omega)
  have hM0 := MO_s hM k0
  unfold FX11_cart FX11_cart_0 S_cart
  rw [isCart_e hB hM0, b2_some, in_e, b2_some]
  by_cases h : 0 ≤ x ∧ x < (nC B : Int)
  · rw [if_pos h, if_neg (by decide)]
    by_cases h2 : 0 ≤ y ∧ y ≤ 4
    · rw [if_pos h2, if_neg (by decide), i5 (x := x) (y := y) (c := x.toNat) (j := y.toNat) (by omega) (by omega) (by omega) (by omega), if_pos (by omega), if_pos (by omega), Int.toNat_natCast]
      exact Wp_some ⟨hM0.2.2.1 x.toNat (by omega) y.toNat (by omega), k0⟩
    · rw [if_neg h2, if_pos rfl, if_neg (by omega)]
      exact Wp_some ⟨rfl, k0⟩
  · rw [if_neg h, if_pos rfl, if_neg (by omega)]
    exact Wp_some ⟨rfl, k0⟩

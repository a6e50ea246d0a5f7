/-! treaties -/
def mc (B : Mm) (s k : Int) : Bool := decide (k = -1 ∨ (0 ≤ k ∧ k < B 0 5 ∧ B (10 + k.toNat) 0 = s))
theorem mc_r {B : Mm} (hB : WF B) {s k : Int} (h : mc B s k = true) : -1 ≤ k ∧ k < B 0 5 := by
  have := hB.2.2.2.2.2.1
  unfold mc at h
  rw [decide_eq_true_eq] at h
  omega
theorem mayChoose_e {B f : Mm} (hB : WF B) (hC : CT B f) (s k : Int) : FX0_mayChoose_4 s k f = some (if mc B s k = true then 1 else 0, f) := by
  obtain ⟨h4, he⟩ := WF_K hB
  unfold FX0_mayChoose_4 FX0_mayChoose_4_0 FX0_mayChoose_4_25 mc
  rw [hasDeed_e, b2_some, hC.1.2.2.2.2.1]
  simp only [decide_eq_true_eq]
  by_cases h1 : k = -1
  · rw [if_pos h1, if_pos (Or.inl h1)]
  · rw [if_neg h1]
    by_cases h2 : 0 ≤ k ∧ k < B 0 5
    · have q := hC.2.2.1 k.toNat (by omega) 0 (by omega)
      rw [if_pos h2, if_neg (by decide), if_pos (show 0 ≤ k ∧ k < 4 by omega), q]
      by_cases h3 : B (10 + k.toNat) 0 = s
      · rw [if_pos h3, if_pos (by omega)]
      · rw [if_neg h3, if_neg (by omega)]
    · rw [if_neg h2, if_pos rfl, if_neg (by omega)]
theorem isChoice_e {B f : Mm} (hB : WF B) (hM : MO B f) (s k : Int) : FX11_isChoice k s f = some (if mc B s k = true then 1 else 0, f) := by
  obtain ⟨h4, he⟩ := WF_K hB
  unfold FX11_isChoice FX11_isChoice_0 FX11_isChoice_25 mc
  rw [isDeed_e hB hM, b2_some]
  simp only [decide_eq_true_eq]
  by_cases h1 : k = -1
  · rw [if_pos h1, if_pos (Or.inl h1)]
  · rw [if_neg h1]
    by_cases h2 : 0 ≤ k ∧ k < (nK B : Int)
    · have q := hM.2.1 k.toNat (by omega) 0 (by omega)
      rw [Nat.add_zero] at q
      rw [if_pos h2, if_neg (by decide), w32n (x := 4 * k) (n := 4 * k.toNat) (by omega) (by omega), if_pos (by omega), Int.toNat_natCast, q]
      by_cases h3 : B (10 + k.toNat) 0 = s
      · rw [if_pos h3, if_pos (by omega)]
      · rw [if_neg h3, if_neg (by omega)]
    · rw [if_neg h2, if_pos rfl, if_neg (by omega)]
/-- widths, and who passes, by two choices on a day -/
def w_tr (B : Mm) (d : Nat) (one other : Int) : Nat → Int := wd B (chU (dn B) d one) (d : Int) other 0 (B 0 3)
def p_tr (B : Mm) (d : Nat) (one other : Int) : Nat → Int := pas B idn (w_tr B d one other) (nD B)
def sd (B : Mm) (p : Nat → Int) (s : Int) : Nat → Int := sm (fun c => if B (20 + c) 0 = s ∧ inT B p c = true then B (20 + c) 4 else 0)
def hv (B : Mm) (d : Nat) (s one other : Int) : Int := sd B (p_tr B d one other) s (nC B) - cst B (if s = 0 then one else other)
theorem sd_r {B : Mm} (hB : WF B) (p : Nat → Int) (s : Int) {i : Nat} (hi : i ≤ nC B) : 0 ≤ sd B p s i ∧ sd B p s i ≤ 5994 := by
  have h6 := (WF_C hB).1
  have := sm_r (g := fun c => if B (20 + c) 0 = s ∧ inT B p c = true then B (20 + c) 4 else 0) (M := 999) i (fun c hc => by
    have := WF_c hB c (by omega)
    split <;> omega)
  unfold sd
  omega
def S4 (a j : Nat) : Prop := 48 ≤ a ∧ a ≤ 56 ∧ ¬ ((a = 55 ∨ a = 56) ∧ j = 0)
theorem S4_Sc {a j : Nat} (h : S4 a j) : Sc a j := by unfold S4 at h; unfold Sc; omega
theorem agree_W {B f : Mm} (hB : WF B) (hC : CT B f) (h0 : f 55 0 = 0 ∧ f 56 0 = 0) {d : Nat} (hd : d < nD B) {one other : Int} (h1 : -1 ≤ one ∧ one < B 0 5) (h2 : -1 ≤ other ∧ other < B 0 5) :
    Wp (FX9_agree_95_4_48 (d : Int) one other f) (fun g => Kp S4 f g ∧ PK B idn (w_tr B d one other) (nD B) g) := by
  have hD6 := (WF_D hB).1
  have hC6 := (WF_C hB).1
  unfold FX9_agree_95_4_48 FX9_agree_95_4_48_0
  refine Wp_bind (asDone_W hB hC) (fun g ⟨k1, x1, o1⟩ => ?_)
  have k1' : Kp S4 f g := Kp_m k1 (fun a j h => by unfold S4; omega)
  rw [if_pos (by omega), Int.toNat_natCast]
  have k2 : Kp S4 f (up (up (up g 49 d one) 48 2 (d : Int)) 48 3 other) := Kp_u (Kp_u (Kp_u k1' (by unfold S4; omega)) (by unfold S4; omega)) (by unfold S4; omega)
  have hX : CX B (chU (dn B) d one) (d : Int) other 0 (B 0 3) (up (up (up g 49 d one) 48 2 (d : Int)) 48 3 other) := by
    obtain ⟨y1, y2, y3, y4, y5, y6, y7, y8⟩ := x1
    refine ⟨fun e he => ?_, ?_, ?_, ?_, ?_, chU_W (dn_W hB) h1, h2, y8⟩
    · rw [up_n (by omega), up_n (by omega)]
      unfold chU
      by_cases q : e = d
      · rw [if_pos q, q, up_s]
      · rw [if_neg q, up_n (by omega), y1 e he]
    · rw [up_n (by omega), up_s]
    · rw [up_s]
    · rw [up_n (by omega), up_n (by omega), up_n (by omega)]; exact y4
    · rw [up_n (by omega), up_n (by omega), up_n (by omega)]; exact y5
  have ho : ∀ i, i < nC B → up (up (up g 49 d one) 48 2 (d : Int)) 48 3 other 50 i = ((idn i : Nat) : Int) := fun i hi => by
    rw [up_n (by omega), up_n (by omega), up_n (by omega)]
    exact o1 i (by omega)
  generalize up (up (up g 49 d one) 48 2 (d : Int)) 48 3 other = g2 at *
  refine Wp_bind (walk_W hB (CT_s hB hC (Kp_m k2 (fun _ _ => S4_Sc))) hX (OD_id B) ho ⟨by rw [k2 55 0 (by unfold S4; omega)]; exact h0.1, by rw [k2 56 0 (by unfold S4; omega)]; exact h0.2⟩) (fun g3 ⟨k3, f3, p3⟩ => ?_)
  exact Wp_some ⟨Kp_t k2 (Kp_m k3 (fun a j h => by unfold S5 at h; unfold S4; omega)), p3⟩
theorem gainOf_e {B g : Mm} (hB : WF B) (hC : CT B g) {w : Nat → Int} (hP : PK B idn w (nD B) g) (s : Int) {k : Int} (hk : -1 ≤ k ∧ k < B 0 5) : FX9_gainOf_95_4_48 s k g = some (sd B (pas B idn w (nD B)) s (nC B) - cst B k, g) := by
  obtain ⟨hC6, hCe⟩ := WF_C hB
  have e5 : g 4 5 = (nC B : Int) := by rw [hC.1.2.2.2.2.2.1, hCe]
  unfold FX9_gainOf_95_4_48 FX9_gainOf_95_4_48_0
  rw [keptBits_e hB hC hP, b2_some]
  have key := forX (fun n x (o : Int) => FX9_gainOf_95_4_48_13 n s k (bts (inT B (pas B idn w (nD B))) (nC B)) o x g) (fun i o => o = bts (fun c => decide (B (20 + c) 0 = s)) i) (fun p => p = (sd B (pas B idn w (nD B)) s (nC B) - cst B k, g)) (nC B) ?_ ?_ fu 0 0 rfl (by omega) (by have := fub; omega)
  · obtain ⟨b, q1, q2⟩ := key
    rw [← q2]
    exact q1
  · intro n o hI
    have s1 := bts_s (p := inT B (pas B idn w (nD B))) (nC B) (by omega)
    have s2 := bts_s (p := fun c => decide (B (20 + c) 0 = s)) (nC B) (by omega)
    have s3 := sS_and s1.1 s2.1
    have e : bAnd (bts (inT B (pas B idn w (nD B))) (nC B)) (bts (fun c => decide (B (20 + c) 0 = s)) (nC B)) = bts (fun c => inT B (pas B idn w (nD B)) c && decide (B (20 + c) 0 = s)) (nC B) := by
      refine bts_is (by omega) s3.1 (fun j hj => ?_)
      rw [s3.2 j hj, s1.2 j hj, s2.2 j hj]
      by_cases hjn : j < nC B <;> simp [hjn]
    have hr := sd_r hB (pas B idn w (nD B)) s (Nat.le_refl _)
    have hc := cst_r hB hk
    have e2 : sumf B 4 (bts (fun c => inT B (pas B idn w (nD B)) c && decide (B (20 + c) 0 = s)) (nC B)) = sd B (pas B idn w (nD B)) s (nC B) := by
      rw [sumf_bts hB]
      unfold sd
      refine sm_congr _ (fun i hi => ?_)
      by_cases q1 : B (20 + i) 0 = s <;> by_cases q2 : inT B (pas B idn w (nD B)) i = true <;> simp [q1, q2]
    rw [FX9_gainOf_95_4_48_13, if_pos (by omega), hI]
    unfold FX9_gainOf_95_4_48_50
    rw [e, payOf_e hB hC, b2_some, costOf_e hB hC hk, b2_some, e2, w32s (by omega) (by omega)]
    exact Wp_some rfl
  · intro n i o hi hI
    left
    have q := hC.2.2.2.1 i hi 0 (by omega)
    rw [FX9_gainOf_95_4_48_13, if_neg (by omega), if_pos (by omega), Int.toNat_natCast, q]
    unfold FX9_gainOf_95_4_48_44
    rw [nx i (by omega)]
    by_cases c : B (20 + i) 0 = s
    · rw [if_pos c]
      refine ⟨_, rfl, ?_⟩
      unfold bts
      rw [if_pos (decide_eq_true c), hI]
    · rw [if_neg c]
      refine ⟨_, rfl, ?_⟩
      unfold bts
      rw [if_neg (by rw [decide_eq_true_eq]; exact c), hI]
theorem hasBy_W {B f : Mm} (hB : WF B) (hM : MO B f) {d : Nat} (hd : d < nD B) {s one other : Int} (h1 : -1 ≤ one ∧ one < B 0 5) (h2 : -1 ≤ other ∧ other < B 0 5) :
    Wp (FX11_hasBy s one other (d : Int) f) (fun p => p.1 = hv B d s one other ∧ Kp (fun a j => Sm a j ∧ ¬ (a = 150 ∧ j = 51)) f p.2) := by
  obtain ⟨hD6, hDe⟩ := WF_D hB
  obtain ⟨hC6, hCe⟩ := WF_C hB
  obtain ⟨hK4, hKe⟩ := WF_K hB
  unfold FX11_hasBy FX11_hasBy_0
  refine Wp_bind (lays_W hB hM) (fun g1 ⟨k1, a1, a2⟩ => ?_)
  rw [if_pos (by omega), Int.toNat_natCast]
  have k1' : Kp (fun a j => Sm a j ∧ ¬ (a = 150 ∧ j = 51)) f (up (up (up g1 162 d one) 150 23 (d : Int)) 150 24 other) := Kp_u (Kp_u (Kp_u (Kp_m k1 (fun a j h => by unfold Sm; omega)) (by unfold Sm; omega)) (by unfold Sm; omega)) (by unfold Sm; omega)
  have hX : MX B (chU (dn B) d one) (d : Int) other (up (up (up g1 162 d one) 150 23 (d : Int)) 150 24 other) := by
    refine ⟨fun e he => ?_, by rw [up_n (by omega), up_s], fun _ => ⟨by rw [up_s], h2.1, h2.2⟩, chU_W (dn_W hB) h1⟩
    rw [up_n (by omega), up_n (by omega)]
    unfold chU
    by_cases q : e = d
    · rw [if_pos q, q, up_s]
    · rw [if_neg q, up_n (by omega), a2 e he]
  generalize up (up (up g1 162 d one) 150 23 (d : Int)) 150 24 other = g2 at *
  have kS : ∀ {g : Mm}, Kp (fun a j => Sm a j ∧ ¬ (a = 150 ∧ j = 51)) f g → Kp Sm f g := fun h => Kp_m h (fun a j q => q.1)
  refine Wp_bind (goes0_W hB (MO_s hM (kS k1')) hX) (fun g3 ⟨k3, b1⟩ => ?_)
  have k3' := Kp_t k1' (Kp_m k3 (fun a j h => (by unfold Sm; omega : Sm a j ∧ ¬ (a = 150 ∧ j = 51))))
  refine Wp_bind (byNumbers_W g3) (fun g4 ⟨k4, c1⟩ => ?_)
  have k4' := Kp_t k3' (Kp_m k4 (fun a j h => (by unfold Sm; omega : Sm a j ∧ ¬ (a = 150 ∧ j = 51))))
  refine Wp_bind (passes_W hB (MO_s hM (kS k4')) (OD_id B) (w := w_tr B d one other) (fun i hi => c1 i (by omega)) (fun e he => ?_)) (fun g5 ⟨k5, mpp⟩ => ?_)
  · have hw := wd_r hB (ch := chU (dn B) d one) (t2 := (d : Int)) (tw := other) (tm := 0) hB.2.2.2.1.1 e
    rw [k4 164 e (by omega)]
    exact ⟨(b1 e he).2.2, hw.1, hw.2⟩
  have k5' := Kp_t k4' (Kp_m k5 (fun a j h => (by unfold Sm; omega : Sm a j ∧ ¬ (a = 150 ∧ j = 51))))
  have hM5 := MO_s hM (kS k5')
  have e6 : g5 157 6 = (nC B : Int) := by rw [hM5.1.2.2.2.2.2.2.2.1, hCe]
  have key : ∀ n0 : Int, -99 ≤ n0 ∧ n0 ≤ 0 → Wp (FX11_hasBy_68 s n0 g5) (fun p => p.1 = sd B (p_tr B d one other) s (nC B) + n0 ∧ Kp (fun a j => Sm a j ∧ ¬ (a = 150 ∧ j = 51)) f p.2) := by
    intro n0 hn0
    unfold FX11_hasBy_68
    refine forX (fun n x (c : Int) => FX11_hasBy_73 n s c x g5) (fun i c => c = sd B (p_tr B d one other) s i + n0) _ (nC B) ?_ ?_ fu 0 n0 (by unfold sd sm; omega) (by omega) (by have := fub; omega)
    · intro n c hI
      rw [FX11_hasBy_73, carts_e, b2_some, if_pos (by omega)]
      exact Wp_some ⟨hI, k5'⟩
    · intro n i c hi hI
      left
      have hr := sd_r hB (p_tr B d one other) s (i := i) (by omega)
      have q0 := hM5.2.2.1 i hi 0 (by omega)
      rw [Nat.add_zero] at q0
      have q4 := hM5.2.2.1 i hi 4 (by omega)
      have r3 := WF_c hB i hi
      rw [FX11_hasBy_73, carts_e, b2_some, if_neg (by omega), i5 (c := i) (j := 4) (y := 4) rfl rfl (by omega) (by omega), w32n (x := 5 * (i : Int)) (n := 5 * i) (by omega) (by omega), if_pos (by omega), Int.toNat_natCast, Int.toNat_natCast, q0, isInTime_e hB hM5 mpp hi, b2_some, q4]
      unfold FX11_hasBy_120 FX11_hasBy_121
      rw [nx i (by omega), show pas B idn (w_tr B d one other) (nD B) = p_tr B d one other from rfl]
      have e : sd B (p_tr B d one other) s (i + 1) = sd B (p_tr B d one other) s i + (if B (20 + i) 0 = s ∧ inT B (p_tr B d one other) i = true then B (20 + i) 4 else 0) := rfl
      rw [e]
      by_cases c1 : B (20 + i) 0 = s
      · rw [if_pos c1]
        by_cases c2 : inT B (p_tr B d one other) i = true
        · rw [if_pos c2, if_neg (by decide), if_pos (by omega), w32s (by omega) (by omega), if_pos ⟨c1, c2⟩]
          exact ⟨_, rfl, by omega⟩
        · rw [if_neg c2, if_pos rfl, w32s (by omega) (by omega), if_neg (fun q => c2 q.2)]
          exact ⟨_, rfl, by omega⟩
      · rw [if_neg c1, w32s (by omega) (by omega), if_neg (fun q => c1 q.1)]
        exact ⟨_, rfl, by omega⟩
  have fin : ∀ own : Int, -1 ≤ own ∧ own < B 0 5 → own = (if s = 0 then one else other) → Wp (FX11_hasBy_44 s own g5) (fun p => p.1 = hv B d s one other ∧ Kp (fun a j => Sm a j ∧ ¬ (a = 150 ∧ j = 51)) f p.2) := by
    intro own ho heq
    unfold FX11_hasBy_44 hv
    rw [← heq]
    unfold cst
    by_cases c : own = -1
    · rw [if_pos c, if_pos c]
      exact Wp_mono (key 0 (by omega)) (fun p hp => ⟨by omega, hp.2⟩)
    · have q := hM5.2.1 own.toNat (by omega) 1 (by omega)
      have r := WF_d hB own.toNat (by omega)
      rw [if_neg c, if_neg c, i4 (x := own) (y := 1) (c := own.toNat) (j := 1) (by omega) rfl (by omega) (by omega), if_pos (by omega), Int.toNat_natCast, q, w32s (by omega) (by omega)]
      exact Wp_mono (key (-(B (10 + own.toNat) 1)) (by omega)) (fun p hp => ⟨by omega, hp.2⟩)
  by_cases hs : s = 0
  · rw [if_pos hs]
    exact fin one h1 (by rw [if_pos hs])
  · rw [if_neg hs]
    exact fin other h2 (by rw [if_neg hs])
def S_has (B : Mm) (s one other x : Int) : Int := if 0 ≤ s ∧ s ≤ 1 ∧ 0 ≤ x ∧ x < (nD B : Int) ∧ mc B 0 one = true ∧ mc B 1 other = true then hv B x.toNat s one other else -1000000
theorem cq_has {B : Mm} (hB : WF B) (s one other x : Int) : QC B (FX10_has s one other x) (S_has B s one other x) := by
  rintro f ⟨hC, h0⟩
  obtain ⟨hD6, hDe⟩ := WF_D hB
  unfold FX10_has FX10_has_0 S_has
  rw [isSide_e, b2_some, hasDay_e, b2_some, mayChoose_e hB hC, b2_some, mayChoose_e hB hC, b2_some, hC.1.2.1, hDe]
  by_cases h1 : 0 ≤ s ∧ s ≤ 1
  · rw [if_pos h1, if_neg (by decide)]
    by_cases h2 : 0 ≤ x ∧ x < (nD B : Int)
    · rw [if_pos h2, if_neg (by decide)]
      by_cases h3 : mc B 0 one = true
      · rw [if_pos h3, if_neg (by decide)]
        by_cases h4 : mc B 1 other = true
        · obtain ⟨d, rfl⟩ : ∃ d : Nat, x = (d : Int) := ⟨x.toNat, by omega⟩
          rw [if_pos h4, if_neg (by decide), if_pos ⟨h1.1, h1.2, h2.1, h2.2, h3, h4⟩, Int.toNat_natCast]
          refine Wp_bind (agree_W hB hC h0 (d := d) (by omega) (mc_r hB h3) (mc_r hB h4)) (fun g ⟨k, hP⟩ => ?_)
          have kk := Kp_m k (fun _ _ => S4_Sc)
          unfold FX10_has_90 hv
          by_cases hs : s = 0
          · rw [if_pos hs, if_pos hs, gainOf_e hB (CT_s hB hC kk) hP s (mc_r hB h3), b2_some]
            exact Wp_some ⟨rfl, kk⟩
          · rw [if_neg hs, if_neg hs, gainOf_e hB (CT_s hB hC kk) hP s (mc_r hB h4), b2_some]
            exact Wp_some ⟨rfl, kk⟩
        · rw [if_neg h4, if_pos rfl, if_neg (fun q => h4 q.2.2.2.2.2)]
          exact Wp_some ⟨rfl, Kp_r _ _⟩
      · rw [if_neg h3, if_pos rfl, if_neg (fun q => h3 q.2.2.2.2.1)]
        exact Wp_some ⟨rfl, Kp_r _ _⟩
    · rw [if_neg h2, if_pos rfl, if_neg (fun q => h2 ⟨q.2.2.1, q.2.2.2.1⟩)]
      exact Wp_some ⟨rfl, Kp_r _ _⟩
  · rw [if_neg h1, if_pos rfl, if_neg (fun q => h1 ⟨q.1, q.2.1⟩)]
    exact Wp_some ⟨rfl, Kp_r _ _⟩
theorem mq_has {B : Mm} (hB : WF B) (s one other x : Int) : QM B (FX11_has s one other x) (S_has B s one other x) := by
  intro f hM
  obtain ⟨hD6, hDe⟩ := WF_D hB
  have k0 : Kp Sm f (up f 150 0 0) := Kp_u (Kp_r _ _) (by unfold Sm; omega)
  have hM0 := MO_s hM k0
  unfold FX11_has FX11_has_0 S_has
  rw [isHalf_e, b2_some, isDay_e hB hM0, b2_some, isChoice_e hB hM0, b2_some, isChoice_e hB hM0, b2_some]
  by_cases h1 : 0 ≤ s ∧ s ≤ 1
  · rw [if_pos h1, if_neg (by decide)]
    by_cases h2 : 0 ≤ x ∧ x < (nD B : Int)
    · rw [if_pos h2, if_neg (by decide)]
      by_cases h3 : mc B 0 one = true
      · rw [if_pos h3, if_neg (by decide)]
        by_cases h4 : mc B 1 other = true
        · obtain ⟨d, rfl⟩ : ∃ d : Nat, x = (d : Int) := ⟨x.toNat, by omega⟩
          rw [if_pos h4, if_neg (by decide), if_pos ⟨h1.1, h1.2, h2.1, h2.2, h3, h4⟩, Int.toNat_natCast]
          refine Wp_b2 (hasBy_W hB hM0 (d := d) (by omega) (mc_r hB h3) (mc_r hB h4)) (fun r g ⟨e, k⟩ => ?_)
          exact Wp_some ⟨e, Kp_t k0 (Kp_m k (fun a j q => q.1))⟩
        · rw [if_neg h4, if_pos rfl, if_neg (fun q => h4 q.2.2.2.2.2)]
          exact Wp_some ⟨rfl, k0⟩
      · rw [if_neg h3, if_pos rfl, if_neg (fun q => h3 q.2.2.2.2.1)]
        exact Wp_some ⟨rfl, k0⟩
    · rw [if_neg h2, if_pos rfl, if_neg (fun q => h2 ⟨q.2.2.1, q.2.2.2.1⟩)]
      exact Wp_some ⟨rfl, k0⟩
  · rw [if_neg h1, if_pos rfl, if_neg (fun q => h1 ⟨q.1, q.2.1⟩)]
    exact Wp_some ⟨rfl, k0⟩
/-! treaties at rest -/
def bdR (B : Mm) (d : Nat) (one other : Int) (k : Nat) : Bool := (mc B 0 ((k : Int) - 1) && decide (hv B d 0 one other < hv B d 0 ((k : Int) - 1) other)) || (mc B 1 ((k : Int) - 1) && decide (hv B d 1 one other < hv B d 1 one ((k : Int) - 1)))
def isR (B : Mm) (d : Nat) (one other : Int) : Bool := decide (ff (bdR B d one other) (nK B + 1) = -1)
def st_r (B : Mm) (d one other : Nat) (s : Int × Int) : Int × Int := if mc B 0 ((one : Int) - 1) = true ∧ mc B 1 ((other : Int) - 1) = true ∧ isR B d ((one : Int) - 1) ((other : Int) - 1) = true then (s.1 + 1, if s.1 = 0 then 10 * (one : Int) + (other : Int) else s.2) else s
def rIn (B : Mm) (d one : Nat) (s : Int × Int) : Nat → Int × Int := fo (fun other => st_r B d one other) s
def rOu (B : Mm) (d : Nat) : Nat → Int × Int := fo (fun one s => rIn B d one s (nK B + 1)) (0, -1)
theorem rIn_r {B : Mm} {d one : Nat} {s : Int × Int} (h : 0 ≤ s.1) : ∀ k, s.1 ≤ (rIn B d one s k).1 ∧ (rIn B d one s k).1 ≤ s.1 + k
  | 0 => by unfold rIn fo; omega
  | k + 1 => by
    have h1 := rIn_r (B := B) (d := d) (one := one) h k
    have e : rIn B d one s (k + 1) = st_r B d one k (rIn B d one s k) := rfl
    rw [e]
    unfold st_r
    split
    · simp only; omega
    · omega
theorem rOu_r {B : Mm} (hB : WF B) {d : Nat} : ∀ k, 0 ≤ (rOu B d k).1 ∧ (rOu B d k).1 ≤ 5 * k
  | 0 => by unfold rOu fo; simp
  | k + 1 => by
    have h1 := rOu_r hB (d := d) k
    have h2 := rIn_r (B := B) (d := d) (one := k) h1.1 (nK B + 1)
    have h4 := (WF_K hB).1
    have e : rOu B d (k + 1) = rIn B d k (rOu B d k) (nK B + 1) := rfl
    rw [e]
    omega
/-- the class's tables of what each pair brings -/
def TG (B : Mm) (d : Nat) (one other : Nat) (g : Mm) : Prop := ∀ a b, b ≤ 4 → (a < one ∨ (a = one ∧ b < other)) → b ≤ nK B → mc B 0 ((a : Int) - 1) = true → mc B 1 ((b : Int) - 1) = true → g 97 (5 * a + b) = hv B d 0 ((a : Int) - 1) ((b : Int) - 1) ∧ g 98 (5 * a + b) = hv B d 1 ((a : Int) - 1) ((b : Int) - 1)
theorem cisRest_e {B g : Mm} (hB : WF B) (hC : CT B g) {d : Nat} (hT : TG B d (nK B + 1) 0 g) {one other : Nat} (ho : one ≤ nK B) (ht : other ≤ nK B) (m1 : mc B 0 ((one : Int) - 1) = true) (m2 : mc B 1 ((other : Int) - 1) = true) :
    FX9_isRest_95_4 (one : Int) (other : Int) g = some (if isR B d ((one : Int) - 1) ((other : Int) - 1) = true then 1 else 0, g) := by
  obtain ⟨h4, hKe⟩ := WF_K hB
  have e4 : g 4 4 = (nK B : Int) := by rw [hC.1.2.2.2.2.1, hKe]
  have t0 := hT one other (by omega) (by omega) ht m1 m2
  unfold FX9_isRest_95_4 FX9_isRest_95_4_0 isR
  rw [w32n (x := (one : Int) * 5) (n := 5 * one) (by omega) (by omega), w32n (x := ((5 * one : Nat) : Int) + (other : Int)) (n := 5 * one + other) (by omega) (by omega)]
  simp only [decide_eq_true_eq]
  have key := forX (fun n x (s : Unit) => FX9_isRest_95_4_10 n (one : Int) (other : Int) ((5 * one + other : Nat) : Int) x g) (fun i _ => ff (bdR B d ((one : Int) - 1) ((other : Int) - 1)) i = -1) (fun p => p = ((if ff (bdR B d ((one : Int) - 1) ((other : Int) - 1)) (nK B + 1) = -1 then 1 else 0), g)) (nK B + 1) ?_ ?_ fu 0 () rfl (by omega) (by have := fub; omega)
  · obtain ⟨b, q1, q2⟩ := key
    rw [← q2]
    exact q1
  · intro n s hI
    (try simp only at hI ⊢)
    rw [FX9_isRest_95_4_10, if_pos (by omega), if_pos hI]
    exact Wp_some rfl
  · intro n i s hi hI
    (try simp only at hI ⊢)
    rw [FX9_isRest_95_4_10, if_neg (by omega), w32s (x := (i : Int) - 1) (by omega) (by omega), mayChoose_e hB hC, b2_some, w32n (x := (i : Int) * 5) (n := 5 * i) (by omega) (by omega), w32n (x := ((5 * i : Nat) : Int) + (other : Int)) (n := 5 * i + other) (by omega) (by omega), if_pos (show (0 : Int) ≤ ((5 * i + other : Nat) : Int) ∧ ((5 * i + other : Nat) : Int) < 25 by omega), if_pos (show (0 : Int) ≤ ((5 * one + other : Nat) : Int) ∧ ((5 * one + other : Nat) : Int) < 25 by omega), Int.toNat_natCast, Int.toNat_natCast, t0.1]
    unfold FX9_isRest_95_4_58
    rw [w32s (x := (i : Int) - 1) (by omega) (by omega), mayChoose_e hB hC, b2_some, w32n (x := (one : Int) * 5) (n := 5 * one) (by omega) (by omega), w32n (x := ((5 * one : Nat) : Int) + (i : Int)) (n := 5 * one + i) (by omega) (by omega), if_pos (show (0 : Int) ≤ ((5 * one + i : Nat) : Int) ∧ ((5 * one + i : Nat) : Int) < 25 by omega), if_pos (show (0 : Int) ≤ ((5 * one + other : Nat) : Int) ∧ ((5 * one + other : Nat) : Int) < 25 by omega), Int.toNat_natCast, Int.toNat_natCast, t0.2]
    unfold FX9_isRest_95_4_97
    rw [nx i (by omega)]
    have second : mc B 0 ((i : Int) - 1) = false ∨ ¬ hv B d 0 ((one : Int) - 1) ((other : Int) - 1) < hv B d 0 ((i : Int) - 1) ((other : Int) - 1) →
        (∃ s' : Unit, (if (if mc B 1 ((i : Int) - 1) = true then (1 : Int) else 0) = 0 then FX9_isRest_95_4_10 n (one : Int) (other : Int) ((5 * one + other : Nat) : Int) ((i + 1 : Nat) : Int) g else if g 98 (5 * one + i) ≤ hv B d 1 ((one : Int) - 1) ((other : Int) - 1) then FX9_isRest_95_4_10 n (one : Int) (other : Int) ((5 * one + other : Nat) : Int) ((i + 1 : Nat) : Int) g else some (0, g)) = FX9_isRest_95_4_10 n (one : Int) (other : Int) ((5 * one + other : Nat) : Int) ((i + 1 : Nat) : Int) g ∧ ff (bdR B d ((one : Int) - 1) ((other : Int) - 1)) (i + 1) = -1) ∨
        Wp (if (if mc B 1 ((i : Int) - 1) = true then (1 : Int) else 0) = 0 then FX9_isRest_95_4_10 n (one : Int) (other : Int) ((5 * one + other : Nat) : Int) ((i + 1 : Nat) : Int) g else if g 98 (5 * one + i) ≤ hv B d 1 ((one : Int) - 1) ((other : Int) - 1) then FX9_isRest_95_4_10 n (one : Int) (other : Int) ((5 * one + other : Nat) : Int) ((i + 1 : Nat) : Int) g else some (0, g)) (fun p => p = ((if ff (bdR B d ((one : Int) - 1) ((other : Int) - 1)) (nK B + 1) = -1 then 1 else 0), g)) := by
      intro hf
      have hff : (mc B 0 ((i : Int) - 1) && decide (hv B d 0 ((one : Int) - 1) ((other : Int) - 1) < hv B d 0 ((i : Int) - 1) ((other : Int) - 1))) = false := by
        rcases hf with h | h
        · rw [h]; rfl
        · rw [decide_eq_false h, Bool.and_false]
      by_cases c : mc B 1 ((i : Int) - 1) = true
      · have t1 := (hT one i (by omega) (by omega) (by omega) m1 c).2
        rw [if_pos c, if_neg (by decide), t1]
        by_cases c2 : hv B d 1 ((one : Int) - 1) ((i : Int) - 1) ≤ hv B d 1 ((one : Int) - 1) ((other : Int) - 1)
        · left
          rw [if_pos c2]
          refine ⟨(), rfl, ff_no hI ?_⟩
          unfold bdR
          rw [hff, decide_eq_false (show ¬ hv B d 1 ((one : Int) - 1) ((other : Int) - 1) < hv B d 1 ((one : Int) - 1) ((i : Int) - 1) by omega), Bool.and_false]
          rfl
        · right
          have hh := ff_hit (p := bdR B d ((one : Int) - 1) ((other : Int) - 1)) hI (by unfold bdR; rw [c, decide_eq_true (show hv B d 1 ((one : Int) - 1) ((other : Int) - 1) < hv B d 1 ((one : Int) - 1) ((i : Int) - 1) by omega)]; simp) (nK B + 1) hi
          rw [if_neg c2, hh, if_neg (by omega)]
          exact Wp_some rfl
      · left
        rw [if_neg c, if_pos rfl]
        refine ⟨(), rfl, ff_no hI ?_⟩
        unfold bdR
        rw [hff, Bool.eq_false_iff.mpr c]
        rfl
    by_cases c : mc B 0 ((i : Int) - 1) = true
    · have t1 := (hT i other (by omega) (by omega) (by omega) c m2).1
      rw [if_pos c, if_neg (by decide), t1]
      by_cases c2 : hv B d 0 ((i : Int) - 1) ((other : Int) - 1) ≤ hv B d 0 ((one : Int) - 1) ((other : Int) - 1)
      · rw [if_pos c2]
        exact second (Or.inr (by omega))
      · right
        have hh := ff_hit (p := bdR B d ((one : Int) - 1) ((other : Int) - 1)) hI (by unfold bdR; rw [c, decide_eq_true (show hv B d 0 ((one : Int) - 1) ((other : Int) - 1) < hv B d 0 ((i : Int) - 1) ((other : Int) - 1) by omega)]; rfl) (nK B + 1) hi
        rw [if_neg c2, hh, if_neg (by omega)]
        exact Wp_some rfl
    · rw [if_neg c, if_pos rfl]
      exact second (Or.inl (Bool.eq_false_iff.mpr c))
theorem countRests_W {B f : Mm} (hB : WF B) (hC : CT B f) {d : Nat} (hT : TG B d (nK B + 1) 0 f) : Wp (FX9_countRests_95_4 f) (fun g => Kp (fun a _ => a = 95) f g ∧ g 95 0 = (rOu B d (nK B + 1)).1 ∧ g 95 1 = (rOu B d (nK B + 1)).2) := by
  obtain ⟨h4, hKe⟩ := WF_K hB
  have hCk : ∀ {g}, Kp (fun a _ => a = 95) f g → CT B g := fun h => CT_k hC (fun a j q => h a j (by omega)) hB
  have hTk : ∀ {g}, Kp (fun a _ => a = 95) f g → TG B d (nK B + 1) 0 g := fun h a b h1 h2 h3 h4 h5 => by rw [h 97 _ (by omega), h 98 _ (by omega)]; exact hT a b h1 h2 h3 h4 h5
  unfold FX9_countRests_95_4 FX9_countRests_95_4_0
  refine forX (fun n x (s : Mm) => FX9_countRests_95_4_12 n x s) (fun i g => Kp (fun a _ => a = 95) f g ∧ g 95 0 = (rOu B d i).1 ∧ g 95 1 = (rOu B d i).2) _ (nK B + 1) ?_ ?_ fu 0 _ ⟨Kp_u (S := fun a _ => a = 95) (Kp_u (S := fun a _ => a = 95) (Kp_r _ _) rfl) rfl, by rw [up_n (by omega), up_s]; rfl, by rw [up_s]; rfl⟩ (by omega) (by have := fub; omega)
  · rintro n g ⟨h1, h2, h3⟩
    have e4 : g 4 4 = (nK B : Int) := by rw [(hCk h1).1.2.2.2.2.1, hKe]
    rw [FX9_countRests_95_4_12, if_pos (by omega)]
    exact Wp_some ⟨h1, h2, h3⟩
  · rintro n one g ho ⟨h1, h2, h3⟩
    left
    have e4 : g 4 4 = (nK B : Int) := by rw [(hCk h1).1.2.2.2.2.1, hKe]
    have hr := rOu_r hB (d := d) one
    rw [FX9_countRests_95_4_12, if_neg (by omega)]
    refine forR (fun n' x (s : Mm) => FX9_countRests_95_4_22 (FX9_countRests_95_4_12 n) n' (one : Int) x s) (fun j g' => Kp (fun a _ => a = 95) f g' ∧ g' 95 0 = (rIn B d one (rOu B d one) j).1 ∧ g' 95 1 = (rIn B d one (rOu B d one) j).2) (fun o => ∃ s', o = FX9_countRests_95_4_12 n ((one + 1 : Nat) : Int) s' ∧ Kp (fun a _ => a = 95) f s' ∧ s' 95 0 = (rOu B d (one + 1)).1 ∧ s' 95 1 = (rOu B d (one + 1)).2) (nK B + 1) ?_ ?_ fu 0 g ⟨h1, h2, h3⟩ (by omega) (by have := fub; omega)
    · rintro n' g' ⟨k1, k2, k3⟩
      have e4' : g' 4 4 = (nK B : Int) := by rw [(hCk k1).1.2.2.2.2.1, hKe]
      rw [FX9_countRests_95_4_22, if_pos (by omega)]
      unfold FX9_countRests_95_4_95
      rw [nx one (by omega)]
      exact ⟨g', rfl, k1, k2, k3⟩
    · rintro n' other g' hi ⟨k1, k2, k3⟩
      left
      have hC' := hCk k1
      have e4' : g' 4 4 = (nK B : Int) := by rw [hC'.1.2.2.2.2.1, hKe]
      have hr2 := rIn_r (B := B) (d := d) (one := one) hr.1 other
      have eI : rIn B d one (rOu B d one) (other + 1) = st_r B d one other (rIn B d one (rOu B d one) other) := rfl
      rw [FX9_countRests_95_4_22, if_neg (by omega), w32s (x := (one : Int) - 1) (by omega) (by omega), mayChoose_e hB hC', b2_some, w32s (x := (other : Int) - 1) (by omega) (by omega), mayChoose_e hB hC', b2_some, eI]
      unfold FX9_countRests_95_4_79 FX9_countRests_95_4_89
      rw [nx other (by omega)]
      generalize rIn B d one (rOu B d one) other = S at *
      unfold st_r
      by_cases c1 : mc B 0 ((one : Int) - 1) = true
      · rw [if_pos c1, if_neg (by decide)]
        by_cases c2 : mc B 1 ((other : Int) - 1) = true
        · rw [if_pos c2, if_neg (by decide), cisRest_e hB hC' (hTk k1) (by omega) (by omega) c1 c2, b2_some]
          by_cases c3 : isR B d ((one : Int) - 1) ((other : Int) - 1) = true
          · rw [if_pos c3, if_neg (by decide), if_pos (show mc B 0 ((one : Int) - 1) = true ∧ mc B 1 ((other : Int) - 1) = true ∧ isR B d ((one : Int) - 1) ((other : Int) - 1) = true from ⟨c1, c2, c3⟩)]
            by_cases c4 : g' 95 0 = 0
            · rw [if_pos c4, up_n (by omega), w32s (x := g' 95 0 + 1) (by omega) (by omega), w32n (x := 10 * (one : Int)) (n := 10 * one) (by omega) (by omega), w32n (x := ((10 * one : Nat) : Int) + (other : Int)) (n := 10 * one + other) (by omega) (by omega)]
              refine ⟨_, rfl, Kp_u (Kp_u k1 rfl) rfl, ?_, ?_⟩
              · rw [up_s, k2]
              · rw [up_n (by omega), up_s, if_pos (by omega)]; omega
            · rw [if_neg c4, w32s (x := g' 95 0 + 1) (by omega) (by omega)]
              refine ⟨_, rfl, Kp_u k1 rfl, ?_, ?_⟩
              · rw [up_s, k2]
              · rw [up_n (by omega), if_neg (by omega)]; exact k3
          · rw [if_neg c3, if_pos rfl, if_neg (fun q => c3 q.2.2)]
            exact ⟨g', rfl, k1, k2, k3⟩
        · rw [if_neg c2, if_pos rfl, if_neg (fun q => c2 q.2.1)]
          exact ⟨g', rfl, k1, k2, k3⟩
      · rw [if_neg c1, if_pos rfl, if_neg (fun q => c1 q.1)]
        exact ⟨g', rfl, k1, k2, k3⟩
def S97 (a j : Nat) : Prop := S4 a j ∨ a = 97 ∨ a = 98
theorem tryPairs_W {B f : Mm} (hB : WF B) (hC : CT B f) (h0 : f 55 0 = 0 ∧ f 56 0 = 0) {d : Nat} (hd : d < nD B) : Wp (FX9_tryPairs_95_4_48 (d : Int) f) (fun g => Kp Sc f g ∧ g 95 0 = (rOu B d (nK B + 1)).1 ∧ g 95 1 = (rOu B d (nK B + 1)).2) := by
  obtain ⟨h4, hKe⟩ := WF_K hB
  have hkS : ∀ {g}, Kp S97 f g → Kp Sc f g := fun h => Kp_m h (fun a j q => by unfold S97 S4 at q; unfold Sc; omega)
  unfold FX9_tryPairs_95_4_48 FX9_tryPairs_95_4_48_0
  refine forX (fun n x (s : Mm) => FX9_tryPairs_95_4_48_3 n (d : Int) x s) (fun i g => Kp S97 f g ∧ TG B d i 0 g) _ (nK B + 1) ?_ ?_ fu 0 f ⟨Kp_r _ _, fun a b _ h => by omega⟩ (by omega) (by have := fub; omega)
  · rintro n g ⟨h1, h2⟩
    have hC' := CT_s hB hC (hkS h1)
    have e4 : g 4 4 = (nK B : Int) := by rw [hC'.1.2.2.2.2.1, hKe]
    rw [FX9_tryPairs_95_4_48_3, if_pos (by omega)]
    unfold FX9_tryPairs_95_4_48_125
    refine Wp_bind (countRests_W hB hC' h2) (fun g2 ⟨k2, a1, a2⟩ => ?_)
    exact Wp_some ⟨Kp_t (hkS h1) (Kp_m k2 (fun a j q => by unfold Sc; omega)), a1, a2⟩
  · rintro n one g ho ⟨h1, h2⟩
    left
    have e4 : g 4 4 = (nK B : Int) := by rw [(CT_s hB hC (hkS h1)).1.2.2.2.2.1, hKe]
    rw [FX9_tryPairs_95_4_48_3, if_neg (by omega)]
    refine forR (fun n' x (s : Mm) => FX9_tryPairs_95_4_48_15 (FX9_tryPairs_95_4_48_3 n) n' (d : Int) (one : Int) x s) (fun j g' => Kp S97 f g' ∧ TG B d one j g') (fun o => ∃ s', o = FX9_tryPairs_95_4_48_3 n (d : Int) ((one + 1 : Nat) : Int) s' ∧ Kp S97 f s' ∧ TG B d (one + 1) 0 s') (nK B + 1) ?_ ?_ fu 0 g ⟨h1, h2⟩ (by omega) (by have := fub; omega)
    · rintro n' g' ⟨k1, k2⟩
      have e4' : g' 4 4 = (nK B : Int) := by rw [(CT_s hB hC (hkS k1)).1.2.2.2.2.1, hKe]
      rw [FX9_tryPairs_95_4_48_15, if_pos (by omega)]
      unfold FX9_tryPairs_95_4_48_119
      rw [nx one (by omega)]
      exact ⟨g', rfl, k1, fun a b q1 q2 q3 q4 q5 => k2 a b q1 (by omega) q3 q4 q5⟩
    · rintro n' other g' hi ⟨k1, k2⟩
      left
      have hC' := CT_s hB hC (hkS k1)
      have e4' : g' 4 4 = (nK B : Int) := by rw [hC'.1.2.2.2.2.1, hKe]
      rw [FX9_tryPairs_95_4_48_15, if_neg (by omega), w32s (x := (one : Int) - 1) (by omega) (by omega), mayChoose_e hB hC', b2_some, w32s (x := (other : Int) - 1) (by omega) (by omega), mayChoose_e hB hC', b2_some, w32n (x := (one : Int) * 5) (n := 5 * one) (by omega) (by omega), w32n (x := ((5 * one : Nat) : Int) + (other : Int)) (n := 5 * one + other) (by omega) (by omega)]
      unfold FX9_tryPairs_95_4_48_113
      rw [nx other (by omega)]
      by_cases c1 : mc B 0 ((one : Int) - 1) = true
      · rw [if_pos c1, if_neg (by decide)]
        by_cases c2 : mc B 1 ((other : Int) - 1) = true
        · rw [if_pos c2, if_neg (by decide)]
          obtain ⟨g2, q1, q2, q3⟩ := agree_W hB hC' ⟨by rw [k1 55 0 (by unfold S97 S4; omega)]; exact h0.1, by rw [k1 56 0 (by unfold S97 S4; omega)]; exact h0.2⟩ hd (mc_r hB c1) (mc_r hB c2)
          have hC2 := CT_s hB hC' (Kp_m q2 (fun _ _ => S4_Sc))
          rw [q1]
          simp only [Option.bind_some]
          rw [gainOf_e hB hC2 q3 0 (mc_r hB c1), b2_some, if_pos (by omega), Int.toNat_natCast]
          have e0 : sd B (pas B idn (w_tr B d ((one : Int) - 1) ((other : Int) - 1)) (nD B)) 0 (nC B) - cst B ((one : Int) - 1) = hv B d 0 ((one : Int) - 1) ((other : Int) - 1) := rfl
          rw [e0]
          generalize hv0 : hv B d 0 ((one : Int) - 1) ((other : Int) - 1) = v0
          have hC3 : CT B (up g2 97 (5 * one + other) v0) := CT_k hC2 (fun a j q => up_n (by omega)) hB
          have hP3 : PK B idn (w_tr B d ((one : Int) - 1) ((other : Int) - 1)) (nD B) (up g2 97 (5 * one + other) v0) := PK_k q3 (fun a j q q' => up_n (by omega))
          rw [gainOf_e hB hC3 hP3 1 (mc_r hB c2), b2_some, if_pos (by omega)]
          have e1 : sd B (pas B idn (w_tr B d ((one : Int) - 1) ((other : Int) - 1)) (nD B)) 1 (nC B) - cst B ((other : Int) - 1) = hv B d 1 ((one : Int) - 1) ((other : Int) - 1) := rfl
          rw [e1]
          generalize hv1 : hv B d 1 ((one : Int) - 1) ((other : Int) - 1) = v1
          refine ⟨_, rfl, Kp_u (Kp_u (Kp_t k1 (Kp_m q2 (fun a j q => Or.inl q))) (Or.inr (Or.inl rfl))) (Or.inr (Or.inr rfl)), fun a b p1 p2 p3 p4 p5 => ?_⟩
          by_cases hab : a = one ∧ b = other
          · obtain ⟨rfl, rfl⟩ := hab
            exact ⟨by rw [up_n (by omega), up_s, hv0], by rw [up_s, hv1]⟩
          · have hne : 5 * a + b ≠ 5 * one + other := by omega
            rw [up_n (by omega), up_n (by omega), up_n (by omega), up_n (by omega), q2 97 _ (by unfold S4; omega), q2 98 _ (by unfold S4; omega)]
            exact k2 a b p1 (by omega) p3 p4 p5
        · rw [if_neg c2, if_pos rfl]
          refine ⟨g', rfl, k1, fun a b p1 p2 p3 p4 p5 => ?_⟩
          by_cases hab : a = one ∧ b = other
          · obtain ⟨rfl, rfl⟩ := hab
            exact absurd p5 c2
          · exact k2 a b p1 (by omega) p3 p4 p5
      · rw [if_neg c1, if_pos rfl]
        refine ⟨g', rfl, k1, fun a b p1 p2 p3 p4 p5 => ?_⟩
        by_cases hab : a = one
        · subst hab
          exact absurd p4 c1
        · exact k2 a b p1 (by omega) p3 p4 p5
def S_rests (B : Mm) (x : Int) : Int := if 0 ≤ x ∧ x < (nD B : Int) then (rOu B x.toNat (nK B + 1)).1 else -2
def S_rest (B : Mm) (x : Int) : Int := if 0 ≤ x ∧ x < (nD B : Int) then (rOu B x.toNat (nK B + 1)).2 else -2
theorem cq_rests {B : Mm} (hB : WF B) (x : Int) : QC B (FX10_rests x) (S_rests B x) := by
  rintro f ⟨hC, h0⟩
  obtain ⟨hD6, hDe⟩ := WF_D hB
  unfold FX10_rests FX10_rests_0 S_rests
  rw [hasDay_e, b2_some, hC.1.2.1, hDe]
  by_cases h : 0 ≤ x ∧ x < (nD B : Int)
  · obtain ⟨d, rfl⟩ : ∃ d : Nat, x = (d : Int) := ⟨x.toNat, by omega⟩
    rw [if_pos h, if_pos h, if_neg (by decide), Int.toNat_natCast]
    refine Wp_bind (tryPairs_W hB hC h0 (d := d) (by omega)) (fun g ⟨k, a1, a2⟩ => ?_)
    exact Wp_some ⟨a1, k⟩
  · rw [if_neg h, if_neg h, if_pos rfl]
    exact Wp_some ⟨rfl, Kp_r _ _⟩
theorem cq_rest {B : Mm} (hB : WF B) (x : Int) : QC B (FX10_rest x) (S_rest B x) := by
  rintro f ⟨hC, h0⟩
  obtain ⟨hD6, hDe⟩ := WF_D hB
  unfold FX10_rest FX10_rest_0 S_rest
  rw [hasDay_e, b2_some, hC.1.2.1, hDe]
  by_cases h : 0 ≤ x ∧ x < (nD B : Int)
  · obtain ⟨d, rfl⟩ : ∃ d : Nat, x = (d : Int) := ⟨x.toNat, by omega⟩
    rw [if_pos h, if_pos h, if_neg (by decide), Int.toNat_natCast]
    refine Wp_bind (tryPairs_W hB hC h0 (d := d) (by omega)) (fun g ⟨k, a1, a2⟩ => ?_)
    exact Wp_some ⟨a2, k⟩
  · rw [if_neg h, if_neg h, if_pos rfl]
    exact Wp_some ⟨rfl, Kp_r _ _⟩
/-! the model's -/
def Sr (a j : Nat) : Prop := Sm a j ∧ ¬ (a = 150 ∧ j = 51)
theorem Sr_m {a j : Nat} (h : Sr a j) : Sm a j := h.1
theorem misRest_W {B f : Mm} (hB : WF B) (hM : MO B f) {d : Nat} (hd : d < nD B) {one other : Int} (h1 : -1 ≤ one ∧ one < B 0 5) (h2 : -1 ≤ other ∧ other < B 0 5) :
    Wp (FX11_isRest one other (d : Int) f) (fun p => p.1 = (if isR B d one other = true then 1 else 0) ∧ Kp Sr f p.2) := by
  obtain ⟨h4, hKe⟩ := WF_K hB
  have hcr : ∀ {s k : Int}, mc B s k = true → -1 ≤ k ∧ k < B 0 5 := fun h => mc_r hB h
  unfold FX11_isRest FX11_isRest_0
  refine forX (fun n x (g : Mm) => FX11_isRest_3 n one other (d : Int) (x - 1) g) (fun i g => ff (bdR B d one other) i = -1 ∧ Kp Sr f g) _ (nK B + 1) ?_ ?_ fu 0 f ⟨rfl, Kp_r _ _⟩ (by omega) (by have := fub; omega)
  · rintro n g ⟨hI, k⟩
    (try simp only at hI k ⊢)
    have e5 : g 157 5 = (nK B : Int) := by rw [(MO_s hM (Kp_m k (fun _ _ => Sr_m))).1.2.2.2.2.2.2.1, hKe]
    rw [FX11_isRest_3, if_pos (by omega)]
    unfold isR
    refine Wp_some ⟨?_, k⟩
    simp only [decide_eq_true_eq]
    rw [if_pos hI]
  · rintro n i g hi ⟨hI, k⟩
    (try simp only at hI k ⊢)
    have hM' := MO_s hM (Kp_m k (fun _ _ => Sr_m))
    have e5 : g 157 5 = (nK B : Int) := by rw [hM'.1.2.2.2.2.2.2.1, hKe]
    rw [FX11_isRest_3, if_neg (by omega), isChoice_e hB hM', b2_some]
    have bad : ∀ g2, Kp Sr f g2 → bdR B d one other i = true → Wp (some ((0 : Int), g2)) (fun p => p.1 = (if isR B d one other = true then 1 else 0) ∧ Kp Sr f p.2) := by
      intro g2 k2 hb
      have hh := ff_hit hI hb (nK B + 1) hi
      refine Wp_some ⟨?_, k2⟩
      unfold isR
      simp only [decide_eq_true_eq]
      rw [hh, if_neg (by omega)]
    have second : ∀ g2, Kp Sr f g2 → (mc B 0 ((i : Int) - 1) && decide (hv B d 0 one other < hv B d 0 ((i : Int) - 1) other)) = false →
        (∃ s', FX11_isRest_46 (FX11_isRest_3 n) one other (d : Int) ((i : Int) - 1) g2 = FX11_isRest_3 n one other (d : Int) (((i + 1 : Nat) : Int) - 1) s' ∧ ff (bdR B d one other) (i + 1) = -1 ∧ Kp Sr f s') ∨ Wp (FX11_isRest_46 (FX11_isRest_3 n) one other (d : Int) ((i : Int) - 1) g2) (fun p => p.1 = (if isR B d one other = true then 1 else 0) ∧ Kp Sr f p.2) := by
      intro g2 k2 hf
      have hM2 := MO_s hM (Kp_m k2 (fun _ _ => Sr_m))
      unfold FX11_isRest_46 FX11_isRest_78
      rw [isChoice_e hB hM2, b2_some, w32s (x := (i : Int) - 1 + 1) (by omega) (by omega), show (i : Int) - 1 + 1 = ((i + 1 : Nat) : Int) - 1 by omega]
      by_cases c : mc B 1 ((i : Int) - 1) = true
      · rw [if_pos c, if_neg (by decide)]
        obtain ⟨⟨r1, g3⟩, q1, q2, q3⟩ := hasBy_W hB hM2 hd (s := 1) h1 (hcr c)
        have k3 : Kp Sr f g3 := Kp_t k2 q3
        obtain ⟨⟨r2, g4⟩, p1, p2, p3⟩ := hasBy_W hB (MO_s hM (Kp_m k3 (fun _ _ => Sr_m))) hd (s := 1) h1 h2
        have k4 : Kp Sr f g4 := Kp_t k3 p3
        simp only at q2 p2
        rw [q1, b2_some, p1, b2_some, q2, p2]
        by_cases c2 : hv B d 1 one ((i : Int) - 1) ≤ hv B d 1 one other
        · left
          rw [if_pos c2]
          refine ⟨g4, rfl, ff_no hI ?_, k4⟩
          unfold bdR
          rw [hf, decide_eq_false (show ¬ hv B d 1 one other < hv B d 1 one ((i : Int) - 1) by omega), Bool.and_false]
          rfl
        · right
          rw [if_neg c2]
          exact bad g4 k4 (by unfold bdR; rw [c, decide_eq_true (show hv B d 1 one other < hv B d 1 one ((i : Int) - 1) by omega)]; simp)
      · left
        rw [if_neg c, if_pos rfl]
        refine ⟨g2, rfl, ff_no hI ?_, k2⟩
        unfold bdR
        rw [hf, Bool.eq_false_iff.mpr c]
        rfl
    by_cases c : mc B 0 ((i : Int) - 1) = true
    · rw [if_pos c, if_neg (by decide)]
      obtain ⟨⟨r1, g3⟩, q1, q2, q3⟩ := hasBy_W hB hM' hd (s := 0) (hcr c) h2
      have k3 : Kp Sr f g3 := Kp_t k q3
      obtain ⟨⟨r2, g4⟩, p1, p2, p3⟩ := hasBy_W hB (MO_s hM (Kp_m k3 (fun _ _ => Sr_m))) hd (s := 0) h1 h2
      have k4 : Kp Sr f g4 := Kp_t k3 p3
      simp only at q2 p2
      rw [q1, b2_some, p1, b2_some, q2, p2]
      by_cases c2 : hv B d 0 ((i : Int) - 1) other ≤ hv B d 0 one other
      · rw [if_pos c2]
        exact second g4 k4 (by rw [decide_eq_false (show ¬ hv B d 0 one other < hv B d 0 ((i : Int) - 1) other by omega), Bool.and_false])
      · right
        rw [if_neg c2]
        exact bad g4 k4 (by unfold bdR; rw [c, decide_eq_true (show hv B d 0 one other < hv B d 0 ((i : Int) - 1) other by omega)]; rfl)
    · rw [if_neg c, if_pos rfl]
      exact second g k (by rw [Bool.eq_false_iff.mpr c]; rfl)
theorem restsOf_W {B f : Mm} (hB : WF B) (hM : MO B f) {d : Nat} (hd : d < nD B) : Wp (FX11_restsOf (d : Int) f) (fun p => p.1 = (rOu B d (nK B + 1)).1 ∧ p.2 150 51 = (rOu B d (nK B + 1)).2 ∧ Kp Sm f p.2) := by
  obtain ⟨h4, hKe⟩ := WF_K hB
  unfold FX11_restsOf FX11_restsOf_0
  refine forX (fun n x (s : Int × Mm) => FX11_restsOf_9 n (d : Int) s.1 (x - 1) s.2) (fun i s => s.1 = (rOu B d i).1 ∧ s.2 150 51 = (rOu B d i).2 ∧ Kp Sm f s.2) _ (nK B + 1) ?_ ?_ fu 0 (0, up f 150 51 (-1)) ⟨rfl, up_s f 150 51 (-1), Kp_u (Kp_r _ _) (by unfold Sm; omega)⟩ (by omega) (by have := fub; omega)
  · rintro n ⟨s, g⟩ ⟨h1, h2, h3⟩
    (try simp only at h1 h2 h3 ⊢)
    have e5 : g 157 5 = (nK B : Int) := by rw [(MO_s hM h3).1.2.2.2.2.2.2.1, hKe]
    rw [FX11_restsOf_9, if_pos (by omega)]
    exact Wp_some ⟨h1, h2, h3⟩
  · rintro n one ⟨s, g⟩ ho ⟨h1, h2, h3⟩
    (try simp only at h1 h2 h3 ⊢)
    left
    have e5 : g 157 5 = (nK B : Int) := by rw [(MO_s hM h3).1.2.2.2.2.2.2.1, hKe]
    have hr := rOu_r hB (d := d) one
    rw [FX11_restsOf_9, if_neg (by omega)]
    refine forR (fun n' x (s : Int × Mm) => FX11_restsOf_22 (FX11_restsOf_9 n) n' (d : Int) s.1 ((one : Int) - 1) (x - 1) s.2) (fun j s => s.1 = (rIn B d one (rOu B d one) j).1 ∧ s.2 150 51 = (rIn B d one (rOu B d one) j).2 ∧ Kp Sm f s.2) (fun o => ∃ s' : Int × Mm, o = FX11_restsOf_9 n (d : Int) s'.1 (((one + 1 : Nat) : Int) - 1) s'.2 ∧ s'.1 = (rOu B d (one + 1)).1 ∧ s'.2 150 51 = (rOu B d (one + 1)).2 ∧ Kp Sm f s'.2) (nK B + 1) ?_ ?_ fu 0 (s, g) ⟨h1, h2, h3⟩ (by omega) (by have := fub; omega)
    · rintro n' ⟨s', g'⟩ ⟨k1, k2, k3⟩
      (try simp only at k1 k2 k3 ⊢)
      have e5' : g' 157 5 = (nK B : Int) := by rw [(MO_s hM k3).1.2.2.2.2.2.2.1, hKe]
      rw [FX11_restsOf_22, if_pos (by omega)]
      unfold FX11_restsOf_101
      rw [w32s (x := (one : Int) - 1 + 1) (by omega) (by omega), show (one : Int) - 1 + 1 = ((one + 1 : Nat) : Int) - 1 by omega]
      exact ⟨(s', g'), rfl, k1, k2, k3⟩
    · rintro n' other ⟨s', g'⟩ hi ⟨k1, k2, k3⟩
      (try simp only at k1 k2 k3 ⊢)
      left
      have hM' := MO_s hM k3
      have e5' : g' 157 5 = (nK B : Int) := by rw [hM'.1.2.2.2.2.2.2.1, hKe]
      have hr2 := rIn_r (B := B) (d := d) (one := one) hr.1 other
      have eI : rIn B d one (rOu B d one) (other + 1) = st_r B d one other (rIn B d one (rOu B d one) other) := rfl
      rw [FX11_restsOf_22, if_neg (by omega), isChoice_e hB hM', b2_some, isChoice_e hB hM', b2_some, eI]
      unfold FX11_restsOf_89 FX11_restsOf_95
      rw [w32s (x := (other : Int) - 1 + 1) (by omega) (by omega), show (other : Int) - 1 + 1 = ((other + 1 : Nat) : Int) - 1 by omega]
      generalize rIn B d one (rOu B d one) other = S at *
      unfold st_r
      by_cases c1 : mc B 0 ((one : Int) - 1) = true
      · rw [if_pos c1, if_neg (by decide)]
        by_cases c2 : mc B 1 ((other : Int) - 1) = true
        · rw [if_pos c2, if_neg (by decide)]
          obtain ⟨⟨r, g2⟩, q1, q2, q3⟩ := misRest_W hB hM' hd (mc_r hB c1) (mc_r hB c2)
          simp only at q2 q3
          have kk := Kp_t k3 (Kp_m q3 (fun _ _ => Sr_m))
          have e51 : g2 150 51 = g' 150 51 := q3 150 51 (fun q => q.2 ⟨rfl, rfl⟩)
          rw [q1, b2_some, q2]
          by_cases c3 : isR B d ((one : Int) - 1) ((other : Int) - 1) = true
          · rw [if_pos c3, if_neg (by decide), if_pos (show mc B 0 ((one : Int) - 1) = true ∧ mc B 1 ((other : Int) - 1) = true ∧ isR B d ((one : Int) - 1) ((other : Int) - 1) = true from ⟨c1, c2, c3⟩), w32s (x := s' + 1) (by omega) (by omega)]
            by_cases c4 : s' = 0
            · rw [if_pos c4, w32s (x := (one : Int) - 1 + 1) (by omega) (by omega), w32s (x := 10 * ((one : Int) - 1 + 1)) (by omega) (by omega), w32s (x := 10 * ((one : Int) - 1 + 1) + ((other : Int) - 1)) (by omega) (by omega), w32s (by omega) (by omega)]
              refine ⟨(_, _), rfl, ?_, ?_, Kp_u kk (by unfold Sm; omega)⟩
              · show s' + 1 = S.1 + 1
                omega
              · show up g2 150 51 (10 * ((one : Int) - 1 + 1) + ((other : Int) - 1) + 1) 150 51 = if S.1 = 0 then 10 * (one : Int) + (other : Int) else S.2
                rw [up_s, if_pos (by omega)]; omega
            · rw [if_neg c4]
              refine ⟨(_, _), rfl, ?_, ?_, Kp_u kk (by unfold Sm; omega)⟩
              · show s' + 1 = S.1 + 1
                omega
              · show up g2 150 51 (g2 150 51) 150 51 = if S.1 = 0 then 10 * (one : Int) + (other : Int) else S.2
                rw [up_s, if_neg (by omega), e51]; exact k2
          · rw [if_neg c3, if_pos rfl, if_neg (fun q => c3 q.2.2)]
            exact ⟨(s', g2), rfl, k1, by rw [← k2]; exact e51, kk⟩
        · rw [if_neg c2, if_pos rfl, if_neg (fun q => c2 q.2.1)]
          exact ⟨(s', g'), rfl, k1, k2, k3⟩
      · rw [if_neg c1, if_pos rfl, if_neg (fun q => c1 q.1)]
        exact ⟨(s', g'), rfl, k1, k2, k3⟩
theorem mq_rests {B : Mm} (hB : WF B) (x : Int) : QM B (FX11_rests x) (S_rests B x) := by
  intro f hM
  have k0 : Kp Sm f (up f 150 0 0) := Kp_u (Kp_r _ _) (by unfold Sm; omega)
  have hM0 := MO_s hM k0
  unfold FX11_rests FX11_rests_0 S_rests
  rw [isDay_e hB hM0, b2_some]
  by_cases h : 0 ≤ x ∧ x < (nD B : Int)
  · obtain ⟨d, rfl⟩ : ∃ d : Nat, x = (d : Int) := ⟨x.toNat, by omega⟩
    rw [if_pos h, if_pos h, if_neg (by decide), Int.toNat_natCast]
    refine Wp_b2 (restsOf_W hB hM0 (d := d) (by omega)) (fun r g ⟨a1, a2, k⟩ => ?_)
    exact Wp_some ⟨a1, Kp_t k0 k⟩
  · rw [if_neg h, if_neg h, if_pos rfl]
    exact Wp_some ⟨rfl, k0⟩
theorem mq_rest {B : Mm} (hB : WF B) (x : Int) : QM B (FX11_rest x) (S_rest B x) := by
  intro f hM
  have k0 : Kp Sm f (up f 150 0 0) := Kp_u (Kp_r _ _) (by unfold Sm; omega)
  have hM0 := MO_s hM k0
  unfold FX11_rest FX11_rest_0 S_rest
  rw [isDay_e hB hM0, b2_some]
  by_cases h : 0 ≤ x ∧ x < (nD B : Int)
  · obtain ⟨d, rfl⟩ : ∃ d : Nat, x = (d : Int) := ⟨x.toNat, by omega⟩
    rw [if_pos h, if_pos h, if_neg (by decide), Int.toNat_natCast]
    refine Wp_b2 (restsOf_W hB hM0 (d := d) (by omega)) (fun r g ⟨a1, a2, k⟩ => ?_)
    exact Wp_some ⟨a2, Kp_t k0 k⟩
  · rw [if_neg h, if_neg h, if_pos rfl]
    exact Wp_some ⟨rfl, k0⟩

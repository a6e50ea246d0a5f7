/-! the table of all PLANS stands -/
def Sw (a j : Nat) : Prop := Sc a j ∨ (57 ≤ a ∧ a ≤ 66)
/-- what each code begins and ends with -/
def OI (B f : Mm) (k fr : Nat) (g : Mm) : Prop :=
  (Kp Sw f g ∧ g 57 0 = 1 ∧ g 57 1 = (nD B : Int) ∧ g 57 2 = (nK B : Int) + 1) ∧ TB B k g ∧ (∀ d, d < nD B → g 65 d = mxw (fun j => pw B j d) k) ∧ (∀ c, c < nC B → g 66 c = fdk B k c) ∧
  (k < nP B → fr ≤ nD B ∧ CX B (pch B k) (-1) (-1) 0 (B 0 3) g ∧ (∀ j, j < 6 → g 50 j = (j : Int)) ∧ FK B (pch B k) (-1) (-1) 0 (B 0 3) fr g ∧ PK B idn (pw B k) fr g ∧ (∀ e, e ≤ fr → g 58 e = sm (fun d => cst B (pch B k d)) e ∧ g 59 e = lsw (pw B k) e) ∧ (0 < fr → 0 < k ∧ ∀ d, d < fr → pch B k d = pch B (k - 1) d))
def WI (B f : Mm) (k i : Nat) (g : Mm) : Prop :=
  (Kp Sw f g ∧ g 57 0 = 1 ∧ g 57 1 = (nD B : Int) ∧ g 57 2 = (nK B : Int) + 1) ∧ TB B k g ∧ CX B (pch B k) (-1) (-1) 0 (B 0 3) g ∧ (∀ j, j < 6 → g 50 j = (j : Int)) ∧ FK B (pch B k) (-1) (-1) 0 (B 0 3) i g ∧ PK B idn (pw B k) i g ∧ WS B k i g
theorem CT_w {B f g : Mm} (hB : WF B) (h : CT B f) (hk : Kp Sw f g) : CT B g := CT_k h (fun a j ha => hk a j (fun q => by unfold Sw Sc at q; omega)) hB
theorem jMax_le {a b : Int} (h : b ≤ a) : jMax a b = a := by unfold jMax; rw [if_neg (by omega)]
theorem mxw_ge {g : Nat → Int} (k : Nat) : g k ≤ mxw g (k + 1) := by
  show g k ≤ jMax (mxw g k) (g k)
  unfold jMax
  split <;> omega
theorem fdk_is {B : Mm} (k c : Nat) : IsM (fun j => decide (pp B j c ≠ -1)) (fun j => pp B j c) k (fdk B k c) := mn_is k (fun j _ h => by
  rw [decide_eq_true_eq] at h
  rcases pas_r (B := B) (od := idn) (w := pw B j) (b := c) (nD B) with q | q
  · exact absurd q h
  · exact q.1)
theorem OI_WI {B f g : Mm} (hB : WF B) {k fr : Nat} (hk : k < nP B) (h : OI B f k fr g) : fr ≤ nD B ∧ WI B f k fr g := by
  obtain ⟨h1, h2, h3, h4, h5⟩ := h
  obtain ⟨a1, a2, a3, a4, a5, a6, a7⟩ := h5 hk
  refine ⟨a1, h1, h2, a2, a3, a4, a5, a6, fun d hd => ?_, fun c hc => ?_⟩
  · rw [h3 d hd]
    by_cases hdf : d < fr
    · obtain ⟨b1, b2⟩ := a7 (by omega)
      obtain ⟨l, rfl⟩ : ∃ l, k = l + 1 := ⟨k - 1, by omega⟩
      rw [if_pos hdf]
      have e := pw_c b2 d hdf
      rw [show l + 1 - 1 = l by omega] at e
      have q := mxw_ge (g := fun j => pw B j d) l
      show _ = jMax (mxw (fun j => pw B j d) (l + 1)) (pw B (l + 1) d)
      rw [jMax_le (by rw [e]; exact q)]
    · rw [if_neg hdf]
  · rw [h4 c hc]
    by_cases hp : pas B idn (pw B k) fr c = -1
    · rw [if_pos hp]
    · rw [if_neg hp]
      have hf : 0 < fr := by
        rcases Nat.eq_zero_or_pos fr with q | q
        · rw [q] at hp; exact absurd rfl hp
        · exact q
      obtain ⟨b1, b2⟩ := a7 hf
      obtain ⟨l, rfl⟩ : ∃ l, k = l + 1 := ⟨k - 1, by omega⟩
      rw [show l + 1 - 1 = l by omega] at b2
      have e := pas_c (B := B) (od := idn) fr (pw_c b2)
      have q1 : pp B (l + 1) c = pas B idn (pw B (l + 1)) fr c := pas_D a1 hp
      have q2 : pp B l c = pas B idn (pw B (l + 1)) fr c := by
        unfold pp
        rw [pas_D a1 (by rw [← e]; exact hp), e]
      have q3 := fdk_is (B := B) (l + 1) c
      rw [fdk_s B (l + 1) c, if_neg]
      rintro ⟨c1, c2⟩
      rcases q3 with ⟨d1, d2⟩ | ⟨j, d1, d2, d3, d4, d5⟩
      · have := d2 l (by omega)
        rw [decide_eq_false_iff_not] at this
        exact this (by rw [q2]; exact hp)
      · have := d5 l (by omega) (decide_eq_true (by rw [q2]; exact hp))
        simp only at this
        omega
theorem weigh_in {B f : Mm} (hB : WF B) (hC : CT B f) {k : Nat} (hk : k < nP B) {fr : Nat} {g : Mm} (h : OI B f k fr g) (k52 : Int → Int → Int → Mm → Option Mm) (x3 : Int) :
    ∃ (fr' : Nat) (g' : Mm), FX3_weigh_57_4_48_62 k52 fu x3 (k : Int) (fr : Int) g = k52 x3 (fr' : Int) ((k + 1 : Nat) : Int) g' ∧ OI B f (k + 1) fr' g' := by
  obtain ⟨hD6, hDe⟩ := WF_D hB
  obtain ⟨hC6, hCe⟩ := WF_C hB
  have hN := nP_r hB
  obtain ⟨h0, h1⟩ := OI_WI hB hk h
  refine forR (fun n x (s : Mm) => FX3_weigh_57_4_48_62 k52 n x3 (k : Int) x s) (fun i s => WI B f k i s) (fun o => ∃ (fr' : Nat) (g' : Mm), o = k52 x3 (fr' : Int) ((k + 1 : Nat) : Int) g' ∧ OI B f (k + 1) fr' g') (nD B) ?_ ?_ fu fr g h1 h0 (by have := fub; omega)
  · rintro n s ⟨⟨w1, w1a, w1b, w1c⟩, w2, w3, w4, w5, w6, w7⟩
    have hC' := CT_w hB hC w1
    rw [FX3_weigh_57_4_48_62, if_pos (by omega)]
    unfold FX3_weigh_57_4_48_99
    rw [keptBits_e hB hC' w6, b2_some, w1b, if_pos (by omega), if_pos (by omega), Int.toNat_natCast, (w7.1 (nD B) (by omega)).1, (w7.1 (nD B) (by omega)).2]
    obtain ⟨g1, e1, k1, t1⟩ := enter_W hB (k := k) (by omega) w2
    rw [show bts (inT B (pas B idn (pw B k) (nD B))) (nC B) = kpI B k from rfl, show sm (fun d => cst B (pch B k d)) (nD B) = pco B k from rfl, show lsw (pw B k) (nD B) = lsI B k from rfl, e1]
    simp only [Option.bind_some]
    obtain ⟨⟨r, g2⟩, e2, fr', p1, p2, p3, p4⟩ := turnPlan_W hB (g := g1) hk (by rw [k1 57 1 (by omega)]; exact w1b) (by rw [k1 57 2 (by omega)]; exact w1c) (fun d hd => by rw [k1 49 d (by omega)]; exact w3.1 d hd)
    simp only at p1 p3 p4
    rw [e2, b2_some, p1, nx k (by omega)]
    have kk : ∀ a j, a ≠ 49 → ¬ (60 ≤ a ∧ a ≤ 64) → g2 a j = s a j := fun a j q1 q2 => by rw [p3 a j q1, k1 a j q2]
    refine ⟨fr', g2, rfl, ⟨fun a j q => ?_, ?_, ?_, ?_⟩, ?_, fun d hd => ?_, fun c hc => ?_, fun hk1 => ?_⟩
    · rw [kk a j (fun e => q (by unfold Sw Sc; omega)) (fun e => q (by unfold Sw; omega)), w1 a j q]
    · rw [kk 57 0 (by omega) (by omega), w1a]
    · rw [kk 57 1 (by omega) (by omega), w1b]
    · rw [kk 57 2 (by omega) (by omega), w1c]
    · refine ⟨fun m hm => ?_, fun m hm => ?_⟩
      · rw [p3 60 m (by omega), p3 61 m (by omega), p3 62 m (by omega), p3 63 m (by omega)]
        exact t1.1 m hm
      · rw [p3 64 m (by omega)]
        exact t1.2 m hm
    · rw [kk 65 d (by omega) (by omega), w7.2.1 d hd, if_pos hd]
    · rw [kk 66 c (by omega) (by omega), w7.2.2 c hc]
      by_cases hp : pas B idn (pw B k) (nD B) c = -1
      · rw [if_pos hp, fdk_s, if_neg (fun q => q.1 hp)]
      · rw [if_neg hp]
    · obtain ⟨c1, c2⟩ := p4 hk1
      have c3 := pw_c c2
      obtain ⟨x1, x2, x3', x4, x5, x6, x7, x8⟩ := w3
      refine ⟨p2, ⟨c1, ?_, ?_, ?_, ?_, pch_W hB _, x7, x8⟩, fun j hj => ?_, fun e he => ?_, ⟨fun e he => ?_, fun e he => ?_⟩, fun e he => ?_, fun _ => ⟨by omega, fun d hd => ?_⟩⟩
      · rw [kk 48 2 (by omega) (by omega)]; exact x2
      · rw [kk 48 3 (by omega) (by omega)]; exact x3'
      · rw [kk 48 4 (by omega) (by omega)]; exact x4
      · rw [kk 48 5 (by omega) (by omega)]; exact x5
      · rw [kk 50 j (by omega) (by omega)]; exact w4 j hj
      · rw [kk 52 e (by omega) (by omega), kk 53 e (by omega) (by omega), fl_c (ch := pch B (k + 1)) (ch' := pch B k) (s := 0) (fun d hd => c2 d (by omega)), fl_c (ch := pch B (k + 1)) (ch' := pch B k) (s := 1) (fun d hd => c2 d (by omega))]
        exact w5 e (by omega)
      · rw [kk 54 e (by omega) (by omega), lft_c (w := pw B (k + 1)) (w' := pw B k) (fun d hd => c3 d (by omega))]
        exact w6.1 e (by omega)
      · rw [kk 55 e (by omega) (by omega), kk 56 e (by omega) (by omega), pas_c (w := pw B (k + 1)) (w' := pw B k) e (fun d hd => c3 d (by omega))]
        exact w6.2 e (by omega)
      · rw [kk 58 e (by omega) (by omega), kk 59 e (by omega) (by omega), lsw_c (w := pw B (k + 1)) (w' := pw B k) e (fun d hd => c3 d (by omega)), sm_congr (g := fun d => cst B (pch B (k + 1) d)) (g' := fun d => cst B (pch B k d)) e (fun d hd => by rw [c2 d (by omega)])]
        exact w7.1 e (by omega)
      · rw [show k + 1 - 1 = k by omega]; exact c2 d hd
  · rintro n i s hi ⟨⟨w1, w1a, w1b, w1c⟩, w2, w3, w4, w5, w6, w7⟩
    left
    have hC' := CT_w hB hC w1
    rw [FX3_weigh_57_4_48_62, if_neg (by omega)]
    obtain ⟨g1, g2, e1, e2, k1, f1, p1⟩ := day_W hB hC' w3 (OD_id B) (fun j hj => w4 j (by omega)) (i := i) (by omega) w5 w6
    have kS : ∀ a j, ¬ (52 ≤ a ∧ a ≤ 56) → g2 a j = s a j := fun a j q => k1 a j (fun h => by unfold S5 at h; omega)
    have hC2 : CT B g2 := CT_k hC' (fun a j h => kS a j (by omega)) hB
    have w7' : WS B k i g2 := ⟨fun e he => by rw [kS 58 e (by omega), kS 59 e (by omega)]; exact w7.1 e he, fun d hd => by rw [kS 65 d (by omega)]; exact w7.2.1 d hd, fun c hc => by rw [kS 66 c (by omega)]; exact w7.2.2 c hc⟩
    obtain ⟨g3, e3, k3, s3⟩ := note_W hB hC2 (k := k) (i := i) (fun d hd => by rw [kS 49 d (by omega)]; exact w3.1 d hd) f1 p1 hi w7'
    refine ⟨g3, ?_, ?_⟩
    · rw [e1]
      simp only [Option.bind_some]
      rw [e2]
      simp only [Option.bind_some]
      rw [e3]
      simp only [Option.bind_some]
      rw [nx i (by omega)]
    · have kk : ∀ a j, ¬ (52 ≤ a ∧ a ≤ 56) → ¬ (a = 58 ∨ a = 59 ∨ a = 65 ∨ a = 66) → g3 a j = s a j := fun a j q1 q2 => by rw [k3 a j q2, kS a j q1]
      refine ⟨⟨fun a j q => ?_, ?_, ?_, ?_⟩, ⟨fun m hm => ?_, fun m hm => ?_⟩, ?_, fun j hj => ?_, FK_k f1 (fun a j h1 h2 => k3 a j (by omega)), PK_k p1 (fun a j h1 h2 => k3 a j (by omega)), s3⟩
      · rw [k3 a j (fun e => q (by unfold Sw; omega)), k1 a j (fun e => q (Or.inl (S5_Sc e))), w1 a j q]
      · rw [kk 57 0 (by omega) (by omega), w1a]
      · rw [kk 57 1 (by omega) (by omega), w1b]
      · rw [kk 57 2 (by omega) (by omega), w1c]
      · rw [kk 60 m (by omega) (by omega), kk 61 m (by omega) (by omega), kk 62 m (by omega) (by omega), kk 63 m (by omega) (by omega)]
        exact w2.1 m hm
      · rw [kk 64 m (by omega) (by omega)]
        exact w2.2 m hm
      · obtain ⟨x1, x2, x3', x4, x5, x6⟩ := w3
        exact ⟨fun d hd => by rw [kk 49 d (by omega) (by omega)]; exact x1 d hd, by rw [kk 48 2 (by omega) (by omega)]; exact x2, by rw [kk 48 3 (by omega) (by omega)]; exact x3', by rw [kk 48 4 (by omega) (by omega)]; exact x4, by rw [kk 48 5 (by omega) (by omega)]; exact x5, x6⟩
      · rw [kk 50 j (by omega) (by omega)]; exact w4 j hj
/-- the whole table -/
def PF (B g : Mm) : Prop := g 57 1 = (nD B : Int) ∧ g 57 2 = (nK B : Int) + 1 ∧ TB B (nP B) g ∧ (∀ d, d < nD B → g 65 d = mxw (fun j => pw B j d) (nP B)) ∧ (∀ c, c < nC B → g 66 c = fdk B (nP B) c)
def PT (B f : Mm) : Prop := f 57 0 ≠ 0 → PF B f
theorem weigh_46 {B f : Mm} (hB : WF B) (hC : CT B f) {g : Mm} (h : OI B f 0 0 g) : Wp (FX3_weigh_57_4_48_46 ((nP B : Nat) : Int) g) (fun g' => Kp Sw f g' ∧ g' 57 0 = 1 ∧ PF B g') := by
  have hN := nP_r hB
  unfold FX3_weigh_57_4_48_46
  refine forX (fun n x (s : Nat × Mm) => FX3_weigh_57_4_48_52 n ((nP B : Nat) : Int) (s.1 : Int) x s.2) (fun k s => OI B f k s.1 s.2) _ (nP B) ?_ ?_ fu 0 (0, g) h (by omega) (by have := fub; omega)
  · rintro n ⟨fr, s⟩ ⟨h1, h2, h3, h4, h5⟩
    simp only
    rw [FX3_weigh_57_4_48_52, if_pos (by omega)]
    exact Wp_some ⟨h1.1, h1.2.1, h1.2.2.1, h1.2.2.2, h2, h3, h4⟩
  · rintro n k ⟨fr, s⟩ hk hI
    simp only at hI ⊢
    left
    obtain ⟨fr', g', e, h2⟩ := weigh_in hB hC hk hI (FX3_weigh_57_4_48_52 n) ((nP B : Nat) : Int)
    refine ⟨(fr', g'), ?_, h2⟩
    rw [FX3_weigh_57_4_48_52, if_neg (by omega), e]
theorem weigh_24 {B g : Mm} (hB : WF B) (h1 : g 57 1 = (nD B : Int)) (h2 : g 57 2 = (nK B : Int) + 1) : FX3_weigh_57_4_48_24 fu 1 0 g = FX3_weigh_57_4_48_46 ((nP B : Nat) : Int) g := by
  obtain ⟨hD6, hDe⟩ := WF_D hB
  have hK := (WF_K hB).1
  have hN := nP_r hB
  have hpw : ∀ i, i ≤ nD B → (nK B + 1) ^ i ≤ nP B := fun i hi => Nat.pow_le_pow_right (by omega) hi
  refine forR (fun n x (s : Int) => FX3_weigh_57_4_48_24 n s x g) (fun i s => s = (((nK B + 1) ^ i : Nat) : Int)) (fun o => o = FX3_weigh_57_4_48_46 ((nP B : Nat) : Int) g) (nD B) ?_ ?_ fu 0 1 ?_ (by omega) (by have := fub; omega)
  · rintro n s rfl
    show FX3_weigh_57_4_48_24 (n + 1) _ _ g = _
    rw [FX3_weigh_57_4_48_24, if_pos (by omega)]
    rfl
  · rintro n i s hi rfl
    left
    have h3 := hpw (i + 1) (by omega)
    refine ⟨_, ?_, rfl⟩
    show FX3_weigh_57_4_48_24 (n + 1) _ _ g = _
    rw [FX3_weigh_57_4_48_24, if_neg (by omega), h2, nx i (by omega), w32n (n := (nK B + 1) ^ (i + 1)) (by rw [Nat.pow_succ]; simp) (by omega)]
  · show (1 : Int) = _
    rw [Nat.pow_zero]
    rfl
theorem begin_W {B f : Mm} (hB : WF B) (hC : CT B f) (h0 : f 55 0 = 0 ∧ f 56 0 = 0) : Wp (FX3_begin_57_4_48 (up f 57 0 1)) (fun g => OI B f 0 0 g) := by
  obtain ⟨hD6, hDe⟩ := WF_D hB
  obtain ⟨hK4, hKe⟩ := WF_K hB
  unfold FX3_begin_57_4_48 FX3_begin_57_4_48_0
  have e1 : up f 57 0 1 4 1 = (nD B : Int) := by rw [up_n (by omega), hC.1.2.1, hDe]
  have e2 : up f 57 0 1 4 4 = (nK B : Int) := by rw [up_n (by omega), hC.1.2.2.2.2.1, hKe]
  rw [e1, e2, w32s (by omega) (by omega)]
  have kA : Kp (fun a _ => a = 57) f (up (up (up f 57 0 1) 57 1 (nD B : Int)) 57 2 ((nK B : Int) + 1)) := Kp_u (Kp_u (Kp_u (Kp_r _ _) (by omega)) (by omega)) (by omega)
  have v0 : up (up (up f 57 0 1) 57 1 (nD B : Int)) 57 2 ((nK B : Int) + 1) 57 0 = 1 := by rw [up_n (by omega), up_n (by omega), up_s]
  have v1 : up (up (up f 57 0 1) 57 1 (nD B : Int)) 57 2 ((nK B : Int) + 1) 57 1 = (nD B : Int) := by rw [up_n (by omega), up_s]
  have v2 : up (up (up f 57 0 1) 57 1 (nD B : Int)) 57 2 ((nK B : Int) + 1) 57 2 = (nK B : Int) + 1 := by rw [up_s]
  generalize up (up (up f 57 0 1) 57 1 (nD B : Int)) 57 2 ((nK B : Int) + 1) = g0 at *
  refine Wp_bind (asDone_W hB (CT_k hC (fun a j h => kA a j (by omega)) hB)) (fun g1 ⟨k1, x1, o1⟩ => ?_)
  refine forX (fun n x (s : Mm) => FX3_begin_57_4_48_25 n x s) (fun i s => Kp (fun a _ => a = 49 ∨ a = 65) g1 s ∧ ∀ e, e < i → s 49 e = -1 ∧ s 65 e = 0) _ 6 ?_ ?_ fu 0 g1 ⟨Kp_r _ _, fun e he => by omega⟩ (by omega) (by have := fub; omega)
  · rintro n g2 ⟨k2, a2⟩
    rw [FX3_begin_57_4_48_25, if_pos (by omega)]
    unfold FX3_begin_57_4_48_51
    refine forX (fun n x (s : Mm) => FX3_begin_57_4_48_53 n x s) (fun i s => Kp (fun a _ => a = 66) g2 s ∧ ∀ e, e < i → s 66 e = -1) _ 6 ?_ ?_ fu 0 g2 ⟨Kp_r _ _, fun e he => by omega⟩ (by omega) (by have := fub; omega)
    · rintro n g3 ⟨k3, a3⟩
      rw [FX3_begin_57_4_48_53, if_pos (by omega)]
      unfold FX3_begin_57_4_48_72
      refine forX (fun n x (s : Mm) => FX3_begin_57_4_48_74 n x s) (fun i s => Kp (fun a _ => 60 ≤ a ∧ a ≤ 63) g3 s ∧ ∀ e, e < i → s 60 e = 0 ∧ s 61 e = -1 ∧ s 62 e = 0 ∧ s 63 e = -1) _ 64 ?_ ?_ fu 0 g3 ⟨Kp_r _ _, fun e he => by omega⟩ (by omega) (by have := fub; omega)
      · rintro n g4 ⟨k4, a4⟩
        rw [FX3_begin_57_4_48_74, if_pos (by omega)]
        unfold FX3_begin_57_4_48_114
        refine forX (fun n x (s : Mm) => FX3_begin_57_4_48_116 n x s) (fun i s => Kp (fun a _ => a = 64) g4 s ∧ ∀ e, e < i → s 64 e = -1) _ 61 ?_ ?_ fu 0 g4 ⟨Kp_r _ _, fun e he => by omega⟩ (by omega) (by have := fub; omega)
        · rintro n g5 ⟨k5, a5⟩
          rw [FX3_begin_57_4_48_116, if_pos (by omega)]
          unfold FX3_begin_57_4_48_135
          have kz : ∀ a j, ¬ (48 ≤ a ∧ a ≤ 50) → ¬ (58 ≤ a ∧ a ≤ 66) → up (up g5 58 0 0) 59 0 60 a j = g0 a j := fun a j q1 q2 => by
            rw [up_n (by omega), up_n (by omega), k5 a j (by omega), k4 a j (by omega), k3 a j (by omega), k2 a j (by omega), k1 a j (by omega)]
          have k48 : ∀ j, up (up g5 58 0 0) 59 0 60 48 j = g1 48 j := fun j => by
            rw [up_n (by omega), up_n (by omega), k5 48 j (by omega), k4 48 j (by omega), k3 48 j (by omega), k2 48 j (by omega)]
          obtain ⟨y1, y2, y3, y4, y5, y6, y7, y8⟩ := x1
          refine Wp_some ⟨⟨fun a j q => ?_, ?_, ?_, ?_⟩, ⟨fun m hm => ?_, fun m hm => ?_⟩, fun d hd => ?_, fun c hc => ?_, fun _ => ⟨by omega, ⟨fun d hd => ?_, ?_, ?_, ?_, ?_, pch_W hB 0, y7, y8⟩, fun j hj => ?_, fun e he => by omega, PK_0 hB _ _ ?_ ?_, fun e he => ?_, fun h => by omega⟩⟩
          · have hn1 : ¬ (48 ≤ a ∧ a ≤ 50) := fun e => q (by unfold Sw Sc; omega)
            have hn2 : ¬ (57 ≤ a ∧ a ≤ 66) := fun e => q (by unfold Sw; omega)
            rw [kz a j hn1 (by omega), kA a j (by omega)]
          · rw [kz 57 0 (by omega) (by omega), v0]
          · rw [kz 57 1 (by omega) (by omega), v1]
          · rw [kz 57 2 (by omega) (by omega), v2]
          · have := a4 m hm
            rw [up_n (by omega), up_n (by omega), up_n (by omega), up_n (by omega), up_n (by omega), up_n (by omega), up_n (by omega), up_n (by omega), k5 60 m (by omega), k5 61 m (by omega), k5 62 m (by omega), k5 63 m (by omega)]
            exact this
          · rw [up_n (by omega), up_n (by omega)]
            exact a5 m hm
          · rw [up_n (by omega), up_n (by omega), k5 65 d (by omega), k4 65 d (by omega), k3 65 d (by omega)]
            exact (a2 d (by omega)).2
          · have := (WF_C hB).1
            rw [up_n (by omega), up_n (by omega), k5 66 c (by omega), k4 66 c (by omega)]
            exact a3 c (by omega)
          · rw [up_n (by omega), up_n (by omega), k5 49 d (by omega), k4 49 d (by omega), k3 49 d (by omega), (a2 d hd).1]
            unfold pch dg
            rw [Nat.zero_div, Nat.zero_mod]
            split <;> rfl
          · rw [k48]; exact y2
          · rw [k48]; exact y3
          · rw [k48]; exact y4
          · rw [k48]; exact y5
          · rw [up_n (by omega), up_n (by omega), k5 50 j (by omega), k4 50 j (by omega), k3 50 j (by omega), k2 50 j (by omega)]
            exact o1 j hj
          · rw [kz 55 0 (by omega) (by omega), kA 55 0 (by omega)]; exact h0.1
          · rw [kz 56 0 (by omega) (by omega), kA 56 0 (by omega)]; exact h0.2
          · have : e = 0 := by omega
            subst this
            rw [up_n (by omega), up_s, up_s]
            exact ⟨rfl, rfl⟩
        · rintro n i g5 hi ⟨k5, a5⟩
          left
          rw [FX3_begin_57_4_48_116, if_neg (by omega), if_pos (by omega), nx i (by omega), Int.toNat_natCast]
          refine ⟨_, rfl, Kp_u k5 rfl, fun e he => ?_⟩
          by_cases h : e = i
          · subst h; rw [up_s]
          · rw [up_n (by omega)]; exact a5 e (by omega)
      · rintro n i g4 hi ⟨k4, a4⟩
        left
        rw [FX3_begin_57_4_48_74, if_neg (by omega), if_pos (by omega), if_pos (by omega), if_pos (by omega), if_pos (by omega), nx i (by omega), Int.toNat_natCast]
        refine ⟨_, rfl, Kp_u (Kp_u (Kp_u (Kp_u k4 (by omega)) (by omega)) (by omega)) (by omega), fun e he => ?_⟩
        by_cases h : e = i
        · subst h
          refine ⟨?_, ?_, ?_, ?_⟩
          · rw [up_n (by omega), up_n (by omega), up_n (by omega), up_s]
          · rw [up_n (by omega), up_n (by omega), up_s]
          · rw [up_n (by omega), up_s]
          · rw [up_s]
        · rw [up_n (by omega), up_n (by omega), up_n (by omega), up_n (by omega), up_n (by omega), up_n (by omega), up_n (by omega), up_n (by omega), up_n (by omega), up_n (by omega), up_n (by omega), up_n (by omega), up_n (by omega), up_n (by omega), up_n (by omega), up_n (by omega)]
          exact a4 e (by omega)
    · rintro n i g3 hi ⟨k3, a3⟩
      left
      rw [FX3_begin_57_4_48_53, if_neg (by omega), if_pos (by omega), nx i (by omega), Int.toNat_natCast]
      refine ⟨_, rfl, Kp_u k3 rfl, fun e he => ?_⟩
      by_cases h : e = i
      · subst h; rw [up_s]
      · rw [up_n (by omega)]; exact a3 e (by omega)
  · rintro n i g2 hi ⟨k2, a2⟩
    left
    rw [FX3_begin_57_4_48_25, if_neg (by omega), if_pos (by omega), if_pos (by omega), nx i (by omega), Int.toNat_natCast]
    refine ⟨_, rfl, Kp_u (Kp_u k2 (by omega)) (by omega), fun e he => ?_⟩
    by_cases h : e = i
    · subst h
      rw [up_n (by omega), up_s, up_s]
      exact ⟨rfl, rfl⟩
    · rw [up_n (by omega), up_n (by omega), up_n (by omega), up_n (by omega)]
      exact a2 e (by omega)
theorem weighed_W {B f : Mm} (hB : WF B) (hC : CT B f) (h0 : f 55 0 = 0 ∧ f 56 0 = 0) (hP : PT B f) : Wp (FX10_weighed f) (fun g => Kp Sw f g ∧ PF B g) := by
  unfold FX10_weighed FX10_weighed_0 FX3_weigh_57_4_48 FX3_weigh_57_4_48_0
  by_cases h : f 57 0 = 0
  · rw [if_pos h]
    obtain ⟨g, e, hO⟩ := begin_W hB hC h0
    rw [e]
    simp only [Option.bind_some]
    rw [weigh_24 hB hO.1.2.2.1 hO.1.2.2.2]
    refine Wp_bind (weigh_46 hB hC hO) (fun g' ⟨k, q1, q2⟩ => Wp_some ⟨k, q2⟩)
  · rw [if_neg h]
    exact Wp_bind (Wp_some (Q := fun g => g = f) rfl) (fun g e => by subst e; exact Wp_some ⟨Kp_r _ _, hP h⟩)
/-- a look that may make the table -/
def QP (B : Mm) (F : Mm → Option (Int × Mm)) (v : Int) : Prop := ∀ f, CI B f → PT B f → Wp (F f) (fun p => p.1 = v ∧ Kp Sw f p.2 ∧ PT B p.2)

/-! the class: who passes, day by day -/
theorem bts_or {p p' : Nat → Bool} {n c : Nat} (hn : n ≤ 7) (hc : c < n) (h : ∀ j, j < n → p' j = (p j || decide (j = c))) : bOr (bts p n) (bShl 1 (c : Int)) = bts p' n := by
  obtain ⟨h1, h2⟩ := bts_s (p := p) n hn
  obtain ⟨h3, h4⟩ := sS_or h1 (k := c) (by omega)
  refine bts_is hn h3 (fun j hj => ?_)
  rw [h4 j hj, h2 j hj]
  by_cases hjn : j < n
  · rw [h j hjn]
    simp [hjn]
  · have : j ≠ c := by omega
    simp [hjn, this]
theorem WF_C {B : Mm} (h : WF B) : nC B ≤ 6 ∧ B 0 6 = (nC B : Int) := by unfold nC; obtain ⟨_, _, _, _, _, _, q, _⟩ := h; omega
theorem WF_D {B : Mm} (h : WF B) : nD B ≤ 6 ∧ B 0 0 = (nD B : Int) := by unfold nD; obtain ⟨q, _⟩ := h; omega
theorem WF_K {B : Mm} (h : WF B) : nK B ≤ 4 ∧ B 0 5 = (nK B : Int) := by unfold nK; obtain ⟨_, _, _, _, _, q, _⟩ := h; omega
theorem WF_A {B : Mm} (h : WF B) : nA B ≤ 40 ∧ B 0 7 = (nA B : Int) := by unfold nA; obtain ⟨_, _, _, _, _, _, _, q, _⟩ := h; omega
theorem WF_c {B : Mm} (h : WF B) : ∀ c, c < nC B → (B (20 + c) 0 = 0 ∨ B (20 + c) 0 = 1) ∧ (1 ≤ B (20 + c) 1 ∧ B (20 + c) 1 ≤ 40) ∧ (0 ≤ B (20 + c) 2 ∧ B (20 + c) 2 ≤ 9) ∧ (0 ≤ B (20 + c) 3 ∧ B (20 + c) 3 ≤ 9) ∧ (0 ≤ B (20 + c) 4 ∧ B (20 + c) 4 ≤ 999) := h.2.2.2.2.2.2.2.2.2.2.2.1
theorem WF_d {B : Mm} (h : WF B) : ∀ d, d < nK B → (B (10 + d) 0 = 0 ∨ B (10 + d) 0 = 1) ∧ (0 ≤ B (10 + d) 1 ∧ B (10 + d) 1 ≤ 99) ∧ (-30 ≤ B (10 + d) 2 ∧ B (10 + d) 2 ≤ 30) ∧ (-30 ≤ B (10 + d) 3 ∧ B (10 + d) 3 ≤ 30) := h.2.2.2.2.2.2.2.2.2.2.1
/-- an order of the carts -/
def OD (B : Mm) (od : Nat → Nat) : Prop := ∀ i, i < nC B → od i < nC B
theorem passDay_e {B f : Mm} (hB : WF B) (hC : CT B f) {od : Nat → Nat} (hO : OD B od) (ho : ∀ i, i < nC B → f 50 i = (od i : Int)) {d : Nat} (hd : d < 6) {w : Nat → Int} (hw : jMin (f 52 d) (f 53 d) = w d) (hr : 0 ≤ w d ∧ w d ≤ 60)
    (hg : f 55 d = bts (hs1 (pas B od w d)) (nC B)) (hi : f 56 d = bts (inT B (pas B od w d)) (nC B)) :
    FX1_passDay_48_4 (d : Int) f = some (up (up (up f 54 d (lft B od w d)) 55 (d + 1) (bts (hs1 (pas B od w (d + 1))) (nC B))) 56 (d + 1) (bts (inT B (pas B od w (d + 1))) (nC B))) := by
  obtain ⟨c1, c2, c3, c4, c5, c6⟩ := hC
  obtain ⟨hC6, hCe⟩ := WF_C hB
  have hcc := WF_c hB
  unfold FX1_passDay_48_4 FX1_passDay_48_4_0 FX1_widthOn FX1_widthOn_0
  rw [if_pos (by omega), if_pos (by omega), if_pos (by omega), if_pos (by omega), b2_some, Int.toNat_natCast, hw, hg, hi]
  have key := forX (fun n x (s : Int × Int × Int) => FX1_passDay_48_4_25 n (d : Int) s.1 s.2.1 s.2.2 x f)
    (fun i s => s.1 = bts (hs1 (pcs B od d (w d, pas B od w d) i).2) (nC B) ∧ s.2.1 = bts (inT B (pcs B od d (w d, pas B od w d) i).2) (nC B) ∧ s.2.2 = (pcs B od d (w d, pas B od w d) i).1 ∧ 0 ≤ s.2.2 ∧ s.2.2 ≤ 60)
    (fun g => g = up (up (up f 54 d (lft B od w d)) 55 (d + 1) (bts (hs1 (pas B od w (d + 1))) (nC B))) 56 (d + 1) (bts (inT B (pas B od w (d + 1))) (nC B))) (nC B) ?_ ?_ fu 0 (bts (hs1 (pas B od w d)) (nC B), bts (inT B (pas B od w d)) (nC B), w d) ⟨rfl, rfl, rfl, hr.1, hr.2⟩ (by omega) (by have := fub; omega)
  · obtain ⟨g, h1, h2⟩ := key
    rw [← h2]
    exact h1
  · rintro n ⟨a, k, l⟩ ⟨h1, h2, h3, h4⟩
    simp only at h1 h2 h3 h4 ⊢
    rw [FX1_passDay_48_4_25, if_pos (by omega)]
    unfold FX1_passDay_48_4_118
    rw [w32n (x := (d : Int) + 1) (n := d + 1) (by omega) (by omega), if_pos (by omega), if_pos (by omega), if_pos (by omega), Int.toNat_natCast, Int.toNat_natCast]
    refine Wp_some ?_
    rw [h1, h2, h3]
    rfl
  · rintro n i ⟨a, k, l⟩ hi' ⟨h1, h2, h3, h4, h5⟩
    simp only at h1 h2 h3 h4 h5 ⊢
    left
    have hoi := hO i hi'
    have e50 := ho i hi'
    have q0 := c4 (od i) hoi 1 (by omega)
    have q1 := c4 (od i) hoi 2 (by omega)
    have q2 := c4 (od i) hoi 3 (by omega)
    have hcr := hcc (od i) hoi
    have hsa : sS a := by rw [h1]; exact (bts_s _ (by omega)).1
    have hba : bAnd a (bShl 1 (od i : Int)) = 0 ↔ (pcs B od d (w d, pas B od w d) i).2 (od i) = -1 := by
      rw [sS_anb hsa (by omega), h1, (bts_s _ (by omega)).2 _ (by omega)]
      unfold hs1
      simp [hoi]
    rw [FX1_passDay_48_4_25, if_neg (by omega), if_pos (by omega), Int.toNat_natCast, e50, if_pos (by omega), if_pos (by omega), Int.toNat_natCast, q0, q1, q2]
    unfold FX1_passDay_48_4_112
    rw [nx i (by omega)]
    have ep : pcs B od d (w d, pas B od w d) (i + 1) = pst B d (od i) (pcs B od d (w d, pas B od w d) i) := rfl
    rw [ep]
    generalize pcs B od d (w d, pas B od w d) i = Q at *
    unfold pst
    by_cases k1 : Q.2 (od i) = -1
    · rw [if_pos (hba.mpr k1)]
      by_cases k2 : (d : Int) < B (20 + od i) 2
      · rw [if_pos k2, if_neg (by omega)]
        exact ⟨(a, k, l), rfl, h1, h2, h3, h4, h5⟩
      · rw [if_neg k2]
        by_cases k3 : l < B (20 + od i) 1
        · rw [if_pos k3, if_neg (by omega)]
          exact ⟨(a, k, l), rfl, h1, h2, h3, h4, h5⟩
        · rw [if_neg k3, if_pos (show Q.2 (od i) = -1 ∧ B (20 + od i) 2 ≤ (d : Int) ∧ B (20 + od i) 1 ≤ Q.1 by omega), w32s (by omega) (by omega)]
          have g1 : bOr a (bShl 1 (od i : Int)) = bts (hs1 (fun b => if b = od i then (d : Int) else Q.2 b)) (nC B) := by
            rw [h1]
            refine bts_or (by omega) hoi (fun j hj => ?_)
            unfold hs1
            by_cases hj2 : j = od i
            · simp [hj2]
            · simp [hj2]
          by_cases k4 : B (20 + od i) 3 < (d : Int)
          · rw [if_pos k4]
            refine ⟨(_, _, _), rfl, g1, ?_, by simp only; omega, by simp only; omega, by simp only; omega⟩
            simp only
            rw [h2]
            refine bts_congr (by omega) (fun j hj => ?_)
            unfold inT
            by_cases hj2 : j = od i
            · simp [hj2, k1]; omega
            · simp [hj2]
          · rw [if_neg k4]
            refine ⟨(_, _, _), rfl, g1, ?_, by simp only; omega, by simp only; omega, by simp only; omega⟩
            simp only
            rw [h2]
            refine bts_or (by omega) hoi (fun j hj => ?_)
            unfold inT
            by_cases hj2 : j = od i
            · simp [hj2]; omega
            · simp [hj2]
    · rw [if_neg (fun q => k1 (hba.mp q)), if_neg (fun q => k1 q.1)]
      exact ⟨(a, k, l), rfl, h1, h2, h3, h4, h5⟩
/-- days gone through -/
def S5 (a j : Nat) : Prop := 52 ≤ a ∧ a ≤ 56 ∧ ¬ ((a = 55 ∨ a = 56) ∧ j = 0)
/-- feelings of the first i days stand -/
def FK (B : Mm) (ch : Nat → Int) (t2 tw tm co : Int) (i : Nat) (g : Mm) : Prop := ∀ e, e < i → g 52 e = fl B ch t2 tw tm co 0 e ∧ g 53 e = fl B ch t2 tw tm co 1 e
/-- who passed on the first i days stands -/
def PK (B : Mm) (od : Nat → Nat) (w : Nat → Int) (i : Nat) (g : Mm) : Prop := (∀ e, e < i → g 54 e = lft B od w e) ∧ ∀ e, e ≤ i → g 55 e = bts (hs1 (pas B od w e)) (nC B) ∧ g 56 e = bts (inT B (pas B od w e)) (nC B)
theorem bts_no {p : Nat → Bool} {n : Nat} (hn : n ≤ 7) (h : ∀ j, j < n → p j = false) : bts p n = 0 := (bts_is hn sS_0 (fun j hj => by
  rw [hb_0 hj]
  by_cases hj2 : j < n
  · rw [h j hj2, Bool.and_false]
  · rw [decide_eq_false hj2, Bool.false_and])).symm
theorem PK_0 {B : Mm} (hB : WF B) (od : Nat → Nat) (w : Nat → Int) {g : Mm} (h1 : g 55 0 = 0) (h2 : g 56 0 = 0) : PK B od w 0 g := by
  have := (WF_C hB).1
  refine ⟨fun e he => by omega, fun e he => ?_⟩
  have : e = 0 := by omega
  subst this
  rw [h1, h2]
  exact ⟨(bts_no (by omega) (fun j hj => by unfold hs1 pas; simp)).symm, (bts_no (by omega) (fun j hj => by unfold inT pas; simp)).symm⟩
theorem CX_k {B : Mm} {ch : Nat → Int} {t2 tw tm co : Int} {f g : Mm} (h : CX B ch t2 tw tm co f) (hk : Kp S5 f g) : CX B ch t2 tw tm co g := by
  obtain ⟨x1, x2, x3, x4, x5, x6⟩ := h
  have k : ∀ j a, a < 52 → g a j = f a j := fun j a ha => hk a j (fun q => by unfold S5 at q; omega)
  exact ⟨fun d hd => by rw [k _ _ (by decide)]; exact x1 d hd, by rw [k _ _ (by decide)]; exact x2, by rw [k _ _ (by decide)]; exact x3, by rw [k _ _ (by decide)]; exact x4, by rw [k _ _ (by decide)]; exact x5, x6⟩
theorem S5_Sc {a j : Nat} (h : S5 a j) : Sc a j := by unfold S5 at h; unfold Sc; omega
theorem CT_s {B f g : Mm} (hB : WF B) (h : CT B f) (hk : Kp Sc f g) : CT B g := CT_k h (fun a j ha => hk a j (fun q => by unfold Sc at q; omega)) hB
theorem FK_s {B : Mm} {ch : Nat → Int} {t2 tw tm co : Int} {i : Nat} {f : Mm} (h : FK B ch t2 tw tm co i f) : FK B ch t2 tw tm co (i + 1) (up (up f 52 i (fl B ch t2 tw tm co 0 i)) 53 i (fl B ch t2 tw tm co 1 i)) := fun e he => by
  by_cases h1 : e = i
  · subst h1
    exact ⟨by rw [up_n (by omega), up_s], by rw [up_s]⟩
  · rw [up_n (by omega), up_n (by omega), up_n (by omega), up_n (by omega)]
    exact h e (by omega)
theorem PK_s {B : Mm} {od : Nat → Nat} {w : Nat → Int} {i : Nat} {f : Mm} (h : PK B od w i f) : PK B od w (i + 1) (up (up (up f 54 i (lft B od w i)) 55 (i + 1) (bts (hs1 (pas B od w (i + 1))) (nC B))) 56 (i + 1) (bts (inT B (pas B od w (i + 1))) (nC B))) := by
  refine ⟨fun e he => ?_, fun e he => ?_⟩
  · rw [up_n (by omega), up_n (by omega)]
    by_cases h1 : e = i
    · subst h1
      rw [up_s]
    · rw [up_n (by omega)]
      exact h.1 e (by omega)
  · by_cases h1 : e = i + 1
    · subst h1
      exact ⟨by rw [up_n (by omega), up_s], by rw [up_s]⟩
    · rw [up_n (by omega), up_n (by omega), up_n (by omega), up_n (by omega), up_n (by omega), up_n (by omega)]
      exact h.2 e (by omega)
theorem FK_d {B : Mm} {ch : Nat → Int} {t2 tw tm co : Int} {i : Nat} {f : Mm} (h : FK B ch t2 tw tm co i f) : ∀ s, s < 2 → 0 < i → f (52 + s) (i - 1) = fl B ch t2 tw tm co s (i - 1) := fun s hs hi => by
  rcases (show s = 0 ∨ s = 1 by omega) with rfl | rfl
  · exact (h (i - 1) (by omega)).1
  · exact (h (i - 1) (by omega)).2
theorem PK_k {B : Mm} {od : Nat → Nat} {w : Nat → Int} {i : Nat} {f g : Mm} (h : PK B od w i f) (hk : ∀ a j, 54 ≤ a → a ≤ 56 → g a j = f a j) : PK B od w i g :=
  ⟨fun e he => by rw [hk _ _ (by decide) (by decide)]; exact h.1 e he, fun e he => by rw [hk _ _ (by decide) (by decide), hk _ _ (by decide) (by decide)]; exact h.2 e he⟩
theorem FK_k {B : Mm} {ch : Nat → Int} {t2 tw tm co : Int} {i : Nat} {f g : Mm} (h : FK B ch t2 tw tm co i f) (hk : ∀ a j, 52 ≤ a → a ≤ 53 → g a j = f a j) : FK B ch t2 tw tm co i g :=
  fun e he => by rw [hk _ _ (by decide) (by decide), hk _ _ (by decide) (by decide)]; exact h e he
theorem wd_is {B : Mm} {ch : Nat → Int} {t2 tw tm co : Int} {i e : Nat} {g : Mm} (h : FK B ch t2 tw tm co i g) (he : e < i) : jMin (g 52 e) (g 53 e) = wd B ch t2 tw tm co e := by rw [(h e he).1, (h e he).2]; rfl
/-- a day: feelings, then who passes -/
theorem day_W {B g : Mm} (hB : WF B) (hC : CT B g) {ch : Nat → Int} {t2 tw tm co : Int} (hX : CX B ch t2 tw tm co g) {od : Nat → Nat} (hO : OD B od) (ho : ∀ i, i < nC B → g 50 i = (od i : Int)) {i : Nat} (hi : i < 6) (h2 : FK B ch t2 tw tm co i g) (h3 : PK B od (wd B ch t2 tw tm co) i g) :
    ∃ g1 g2, FX1_feelDay_48_4 (i : Int) g = some g1 ∧ FX1_passDay_48_4 (i : Int) g1 = some g2 ∧ Kp S5 g g2 ∧ FK B ch t2 tw tm co (i + 1) g2 ∧ PK B od (wd B ch t2 tw tm co) (i + 1) g2 := by
  have e1 := feelDay_e hB hC hX hi (FK_d h2)
  have k1 : Kp S5 g (up (up g 52 i (fl B ch t2 tw tm co 0 i)) 53 i (fl B ch t2 tw tm co 1 i)) := Kp_u (Kp_u (Kp_r _ _) (by unfold S5; omega)) (by unfold S5; omega)
  have f2 := FK_s h2
  have p2 : PK B od (wd B ch t2 tw tm co) i (up (up g 52 i (fl B ch t2 tw tm co 0 i)) 53 i (fl B ch t2 tw tm co 1 i)) := PK_k h3 (fun a j h _ => by rw [up_n (by omega), up_n (by omega)])
  generalize up (up g 52 i (fl B ch t2 tw tm co 0 i)) 53 i (fl B ch t2 tw tm co 1 i) = g2 at *
  refine ⟨g2, _, e1, passDay_e hB (CT_s hB hC (Kp_m k1 (fun _ _ => S5_Sc))) hO (fun j hj => by rw [k1 50 j (fun q => by unfold S5 at q; omega)]; exact ho j hj) hi (wd_is f2 (by omega)) (wd_r hB hX.2.2.2.2.2.2.2.1 i) (p2.2 i (by omega)).1 (p2.2 i (by omega)).2, ?_, FK_k f2 (fun a j _ h => by rw [up_n (by omega), up_n (by omega), up_n (by omega)]), PK_s p2⟩
  exact Kp_t k1 (Kp_u (Kp_u (Kp_u (Kp_r _ _) (by unfold S5; omega)) (by unfold S5; omega)) (by unfold S5; omega))
theorem walk_W {B f : Mm} (hB : WF B) (hC : CT B f) {ch : Nat → Int} {t2 tw tm co : Int} (hX : CX B ch t2 tw tm co f) {od : Nat → Nat} (hO : OD B od) (ho : ∀ i, i < nC B → f 50 i = (od i : Int)) (h0 : f 55 0 = 0 ∧ f 56 0 = 0) :
    Wp (FX1_walk_48_4 f) (fun g => Kp S5 f g ∧ FK B ch t2 tw tm co (nD B) g ∧ PK B od (wd B ch t2 tw tm co) (nD B) g) := by
  obtain ⟨hD6, hDe⟩ := WF_D hB
  unfold FX1_walk_48_4 FX1_walk_48_4_0
  refine forX (fun n x (s : Mm) => FX1_walk_48_4_2 n x s) (fun i g => Kp S5 f g ∧ FK B ch t2 tw tm co i g ∧ PK B od (wd B ch t2 tw tm co) i g) _ (nD B) ?_ ?_ fu 0 f ⟨Kp_r _ _, fun e he => by omega, PK_0 hB _ _ h0.1 h0.2⟩ (by omega) (by have := fub; omega)
  · rintro n g ⟨h1, h2, h3⟩
    have hC' : CT B g := CT_s hB hC (Kp_m h1 (fun _ _ => S5_Sc))
    rw [FX1_walk_48_4_2, if_pos (by rw [hC'.1.2.1]; omega)]
    exact Wp_some ⟨h1, h2, h3⟩
  · rintro n i g hi ⟨h1, h2, h3⟩
    left
    have hC' : CT B g := CT_s hB hC (Kp_m h1 (fun _ _ => S5_Sc))
    obtain ⟨g1, g2, e1, e2, k, q1, q2⟩ := day_W hB hC' (CX_k hX h1) hO (fun j hj => by rw [h1 50 j (fun q => by unfold S5 at q; omega)]; exact ho j hj) (i := i) (by omega) h2 h3
    refine ⟨g2, ?_, Kp_t h1 k, q1, q2⟩
    rw [FX1_walk_48_4_2, if_neg (by rw [hC'.1.2.1]; omega), e1]
    simp only [Option.bind_some]
    rw [e2]
    simp only [Option.bind_some]
    rw [nx i (by omega)]
theorem feelThrough_W {B f : Mm} (hB : WF B) (hC : CT B f) {ch : Nat → Int} {t2 tw tm co : Int} (hX : CX B ch t2 tw tm co f) {l : Nat} (hl : l < 6) :
    Wp (FX1_feelThrough_48_4 (l : Int) f) (fun g => Kp (fun a _ => a = 52 ∨ a = 53) f g ∧ FK B ch t2 tw tm co (l + 1) g) := by
  unfold FX1_feelThrough_48_4 FX1_feelThrough_48_4_0
  refine forX (fun n x (s : Mm) => FX1_feelThrough_48_4_2 n (l : Int) x s) (fun i g => Kp (fun a _ => a = 52 ∨ a = 53) f g ∧ FK B ch t2 tw tm co i g) _ (l + 1) ?_ ?_ fu 0 f ⟨Kp_r _ _, fun e he => by omega⟩ (by omega) (by have := fub; omega)
  · rintro n g ⟨h1, h2⟩
    rw [FX1_feelThrough_48_4_2, if_pos (by omega)]
    exact Wp_some ⟨h1, h2⟩
  · rintro n i g hi ⟨h1, h2⟩
    left
    have hk : Kp S5 f g := Kp_m h1 (fun a j h => by unfold S5; omega)
    rw [FX1_feelThrough_48_4_2, if_neg (by omega), if_neg (by omega), feelDay_e hB (CT_s hB hC (Kp_m hk (fun _ _ => S5_Sc))) (CX_k hX hk) (by omega) (FK_d h2)]
    simp only [Option.bind_some]
    rw [nx i (by omega)]
    exact ⟨_, rfl, Kp_u (Kp_u h1 (Or.inl rfl)) (Or.inr rfl), FK_s h2⟩
theorem passAll_W {B f : Mm} (hB : WF B) (hC : CT B f) {ch : Nat → Int} {t2 tw tm co : Int} (hc : 0 ≤ co) (hF : FK B ch t2 tw tm co (nD B) f) {od : Nat → Nat} (hO : OD B od) (ho : ∀ i, i < nC B → f 50 i = (od i : Int)) (h0 : f 55 0 = 0 ∧ f 56 0 = 0) :
    Wp (FX1_passAll_48_4 f) (fun g => Kp (fun a j => 54 ≤ a ∧ a ≤ 56 ∧ ¬ ((a = 55 ∨ a = 56) ∧ j = 0)) f g ∧ PK B od (wd B ch t2 tw tm co) (nD B) g) := by
  obtain ⟨hD6, hDe⟩ := WF_D hB
  unfold FX1_passAll_48_4 FX1_passAll_48_4_0
  refine forX (fun n x (s : Mm) => FX1_passAll_48_4_2 n x s) (fun i g => Kp (fun a j => 54 ≤ a ∧ a ≤ 56 ∧ ¬ ((a = 55 ∨ a = 56) ∧ j = 0)) f g ∧ PK B od (wd B ch t2 tw tm co) i g) _ (nD B) ?_ ?_ fu 0 f ⟨Kp_r _ _, PK_0 hB _ _ h0.1 h0.2⟩ (by omega) (by have := fub; omega)
  · rintro n g ⟨h1, h2⟩
    have hC' : CT B g := CT_s hB hC (Kp_m h1 (fun _ _ h => by unfold Sc; omega))
    rw [FX1_passAll_48_4_2, if_pos (by rw [hC'.1.2.1]; omega)]
    exact Wp_some ⟨h1, h2⟩
  · rintro n i g hi ⟨h1, h2⟩
    left
    have hC' : CT B g := CT_s hB hC (Kp_m h1 (fun _ _ h => by unfold Sc; omega))
    have hF' : FK B ch t2 tw tm co (nD B) g := FK_k hF (fun a j _ _ => h1 a j (fun q => by omega))
    rw [FX1_passAll_48_4_2, if_neg (by rw [hC'.1.2.1]; omega), passDay_e hB hC' hO (fun j hj => by rw [h1 50 j (fun q => by omega)]; exact ho j hj) (by omega) (wd_is hF' hi) (wd_r hB hc i) (h2.2 i (by omega)).1 (h2.2 i (by omega)).2]
    simp only [Option.bind_some]
    rw [nx i (by omega)]
    exact ⟨_, rfl, Kp_u (Kp_u (Kp_u h1 (by omega)) (by omega)) (by omega), PK_s h2⟩
theorem asDone_W {B f : Mm} (hB : WF B) (hC : CT B f) : Wp (FX1_asDone_48_4 f) (fun g => Kp (fun a j => 49 ≤ a ∧ a ≤ 50 ∨ a = 48 ∧ 2 ≤ j ∧ j ≤ 5) f g ∧ CX B (dn B) (-1) (-1) 0 (B 0 3) g ∧ ∀ i, i < 6 → g 50 i = (i : Int)) := by
  unfold FX1_asDone_48_4 FX1_asDone_48_4_0
  refine forX (fun n x (s : Mm) => FX1_asDone_48_4_2 n x s) (fun i g => Kp (fun a j => a = 49) f g ∧ ∀ e, e < i → g 49 e = dn B e) _ 6 ?_ ?_ fu 0 f ⟨Kp_r _ _, fun e he => by omega⟩ (by omega) (by have := fub; omega)
  · rintro n g ⟨h1, h2⟩
    rw [FX1_asDone_48_4_2, if_pos (by omega)]
    unfold FX1_asDone_48_4_26
    refine forX (fun n x (s : Mm) => FX1_asDone_48_4_28 n x s) (fun i g' => Kp (fun a j => a = 50) g g' ∧ ∀ e, e < i → g' 50 e = (e : Int)) _ 6 ?_ ?_ fu 0 g ⟨Kp_r _ _, fun e he => by omega⟩ (by omega) (by have := fub; omega)
    · rintro n g' ⟨h3, h4⟩
      rw [FX1_asDone_48_4_28, if_pos (by omega)]
      unfold FX1_asDone_48_4_47
      refine Wp_some ⟨?_, ⟨fun d hd => ?_, ?_, ?_, ?_, ?_, dn_W hB, ⟨by decide, ?_⟩, hB.2.2.2.1⟩, fun i hi => ?_⟩
      · exact Kp_u (Kp_u (Kp_u (Kp_u (Kp_t (Kp_m h1 (fun a j h => by omega)) (Kp_m h3 (fun a j h => by omega))) (by omega)) (by omega)) (by omega)) (by omega)
      · rw [up_n (by omega), up_n (by omega), up_n (by omega), up_n (by omega), h3 49 d (by omega)]
        exact h2 d hd
      · rw [up_n (by omega), up_n (by omega), up_n (by omega), up_s]
      · rw [up_n (by omega), up_n (by omega), up_s]
      · rw [up_n (by omega), up_s, h3 4 2 (by omega), h1 4 2 (by omega)]
        exact hC.1.2.2.1
      · rw [up_s]
      · have := hB.2.2.2.2.2.1
        omega
      · rw [up_n (by omega), up_n (by omega), up_n (by omega), up_n (by omega)]
        exact h4 i hi
    · rintro n i g' hi ⟨h3, h4⟩
      left
      rw [FX1_asDone_48_4_28, if_neg (by omega), if_pos (by omega), nx i (by omega), Int.toNat_natCast]
      refine ⟨_, rfl, Kp_u h3 rfl, fun e he => ?_⟩
      by_cases h : e = i
      · subst h; rw [up_s]
      · rw [up_n (by omega)]; exact h4 e (by omega)
  · rintro n i g hi ⟨h1, h2⟩
    left
    rw [FX1_asDone_48_4_2, if_neg (by omega), if_pos (by omega), if_pos (by omega), nx i (by omega), Int.toNat_natCast]
    refine ⟨_, rfl, Kp_u h1 rfl, fun e he => ?_⟩
    by_cases h : e = i
    · subst h
      rw [up_s, h1 18 e (by omega)]
      exact hC.2.2.2.2.1 e (by omega)
    · rw [up_n (by omega)]; exact h2 e (by omega)
def idn (i : Nat) : Nat := i
theorem OD_id (B : Mm) : OD B idn := fun i hi => hi
/-- as done now: the days, gone through -/
def NW (B g : Mm) : Prop := FK B (dn B) (-1) (-1) 0 (B 0 3) (nD B) g ∧ PK B idn (wd B (dn B) (-1) (-1) 0 (B 0 3)) (nD B) g ∧ CX B (dn B) (-1) (-1) 0 (B 0 3) g
theorem asNow_W {B f : Mm} (hB : WF B) (hC : CT B f) (h0 : f 55 0 = 0 ∧ f 56 0 = 0) : Wp (FX10_asNow f) (fun g => Kp Sc f g ∧ NW B g ∧ ∀ i, i < 6 → g 50 i = (i : Int)) := by
  unfold FX10_asNow FX10_asNow_0
  refine Wp_bind (asDone_W hB hC) (fun g1 ⟨k1, x1, o1⟩ => ?_)
  have k1' : Kp Sc f g1 := Kp_m k1 (fun a j h => by unfold Sc; omega)
  refine Wp_bind (walk_W hB (CT_s hB hC k1') x1 (OD_id B) (fun i hi => o1 i (by have := (WF_C hB).1; omega)) ⟨by rw [k1' 55 0 (by unfold Sc; omega)]; exact h0.1, by rw [k1' 56 0 (by unfold Sc; omega)]; exact h0.2⟩) (fun g2 ⟨k2, f2, p2⟩ => ?_)
  exact Wp_some ⟨Kp_t k1' (Kp_m k2 (fun _ _ => S5_Sc)), ⟨f2, p2, CX_k x1 k2⟩, fun i hi => by rw [k2 50 i (by unfold S5; omega)]; exact o1 i hi⟩

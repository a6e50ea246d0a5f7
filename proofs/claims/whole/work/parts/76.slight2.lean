/-! SLIGHTS: the model -/
def Sf (a j : Nat) : Prop := Sm a j ∧ ¬ (a = 150 ∧ (j = 49 ∨ j = 50))
theorem Sf_m {f g : Mm} (h : Kp Sf f g) : Kp Sm f g := Kp_m h (fun _ _ q => q.1)
def IsW (B : Mm) (s : Nat × (Nat → Nat × Nat)) (a : Nat) (w : Int) : Prop := (∀ v : Nat, v < 61 → cw B s a (v : Int) ≤ w) ∧ 0 ≤ w ∧ (w = 0 ∨ ∃ v : Nat, v < 61 ∧ cw B s a (v : Int) = w)
def RGs (B : Mm) (a : Nat) (s : Nat × (Nat → Nat × Nat)) (g : Mm) : Prop := g 150 45 = (s.1 : Int) ∧ g 150 46 = dbF s ∧ g 150 47 = ffF s ∧ (∀ v : Nat, v < 61 → g 177 v = cw B s a (v : Int)) ∧ IsW B s a (g 150 48)
theorem cw_a (B : Mm) (s : Nat × (Nat → Nat × Nat)) (p : Nat × Nat) (a : Nat) (v : Int) : cw B (adF s p) a v = cw B s a v + (if wF B p a = v then 1 else 0) := by
  show cnt (fun j => decide (wF B ((adF s p).2 j) a = v)) (s.1 + 1) = _
  rw [cnt_s, ad_n, cnt_c (q := fun j => decide (wF B (s.2 j) a = v)) s.1 (fun i hi => by rw [ad_o hi])]
  by_cases q : wF B p a = v
  · rw [if_pos q, if_pos (decide_eq_true q)]; rfl
  · rw [if_neg q, if_neg (by rw [decide_eq_true_eq]; exact q)]; rfl
theorem cw_r (B : Mm) (s : Nat × (Nat → Nat × Nat)) (a : Nat) (v : Int) : 0 ≤ cw B s a v ∧ cw B s a v ≤ s.1 := cnt_r _
theorem IsW_a {B : Mm} {s : Nat × (Nat → Nat × Nat)} {a : Nat} {w : Int} (h : IsW B s a w) {p : Nat × Nat} {v0 : Nat} (hv : wF B p a = (v0 : Int)) (h61 : v0 < 61) : IsW B (adF s p) a (jMax w (cw B s a (v0 : Int) + 1)) := by
  obtain ⟨h1, h2, h3⟩ := h
  have r0 := cw_r B s a (v0 : Int)
  have key : ∀ v : Nat, cw B (adF s p) a (v : Int) = if v = v0 then cw B s a (v0 : Int) + 1 else cw B s a (v : Int) := fun v => by
    rw [cw_a, hv]
    by_cases q : v = v0
    · rw [if_pos q, if_pos (by omega), q]
    · rw [if_neg q, if_neg (by omega), Int.add_zero]
  unfold jMax
  by_cases c : w < cw B s a (v0 : Int) + 1
  · rw [if_pos c]
    refine ⟨fun v h => ?_, by omega, Or.inr ⟨v0, h61, by rw [key, if_pos rfl]⟩⟩
    have := h1 v h
    rw [key]
    split <;> omega
  · rw [if_neg c]
    refine ⟨fun v h => ?_, h2, ?_⟩
    · have := h1 v h
      rw [key]
      split <;> omega
    · rcases h3 with q | ⟨v, q1, q2⟩
      · omega
      · refine Or.inr ⟨v, q1, ?_⟩
        rw [key, if_neg (fun e => by subst e; omega)]
        exact q2
theorem IsW_u {B : Mm} (hB : WF B) {s : Nat × (Nat → Nat × Nat)} {a : Nat} {w : Int} (h : IsW B s a w) : w = woF B s a := by
  obtain ⟨h1, h2, h3⟩ := h
  obtain ⟨m1, m2, m3⟩ := mxw_is (g := fun i => cw B s a (wF B (s.2 i) a)) s.1
  have e : woF B s a = mxw (fun i => cw B s a (wF B (s.2 i) a)) s.1 := rfl
  have a1 : woF B s a ≤ w := by
    rcases m3 with q | ⟨k, q1, q2⟩
    · omega
    · have r := wF_r hB (s.2 k) a
      have := h1 (wF B (s.2 k) a).toNat (by omega)
      rw [show (((wF B (s.2 k) a).toNat : Nat) : Int) = wF B (s.2 k) a by omega] at this
      have q3 : cw B s a (wF B (s.2 k) a) = woF B s a := q2
      omega
  have a2 : w ≤ woF B s a := by
    rcases h3 with q | ⟨v, q1, q2⟩
    · omega
    · by_cases hw : w = 0
      · omega
      · have hp : 0 < cnt (fun j => decide (wF B (s.2 j) a = (v : Int))) s.1 := by
          have : cw B s a (v : Int) = cnt (fun j => decide (wF B (s.2 j) a = (v : Int))) s.1 := rfl
          omega
        obtain ⟨j, j1, j2⟩ := (cnt_p s.1).mp hp
        have ej := of_decide_eq_true j2
        have := m1 j j1
        have q3 : cw B s a (wF B (s.2 j) a) ≤ woF B s a := this
        rw [ej] at q3
        omega
  omega
theorem fit_s {B Z f : Mm} (hB : WF B) {s m : Nat} (hG : GZ B Z s m) (hM : MO B f) (hS : MS Z f) {a : Nat} (ha : a < nD B) {g : Mm} (hk : Kp Sf f g) {k d : Nat} (hk4 : k < nK B) (hd : d < nD B) {t : Nat × (Nat → Nat × Nat)} (hR : RGs B a t g) (ht : t.1 < 24) (k43 : Int → Int → Int → Mm → Option Mm) (n : Nat) :
    ∃ g', FX11_laysFits_56 k43 (n + 1) (s : Int) (a : Int) (k : Int) (d : Int) g = FX11_laysFits_56 k43 n (s : Int) (a : Int) (k : Int) ((d + 1 : Nat) : Int) g' ∧ Kp Sf f g' ∧ RGs B a (stF B (Z s) m k d t) g' := by
  obtain ⟨hD6, hDe⟩ := WF_D hB
  obtain ⟨hK4, hKe⟩ := WF_K hB
  have hM1 := MO_s hM (Sf_m hk)
  have e0 : g 157 0 = (nD B : Int) := by rw [hM1.1.2.1, hDe]
  obtain ⟨g1, q1, k1, a1, a2⟩ := lays_W hB hM1
  have k2 : Kp Sf g (up g1 162 d (k : Int)) := Kp_u (Kp_m k1 (fun a j h => by unfold Sf Sm; omega)) (by unfold Sf Sm; omega)
  have hM2 := MO_s hM (Sf_m (Kp_t hk k2))
  have hX : MX B (chU (dn B) d (k : Int)) (-1) (-1) (up g1 162 d (k : Int)) := by
    refine ⟨fun e he => ?_, by rw [up_n (by omega)]; exact a1, fun h => by omega, chU_W (dn_W hB) (by omega)⟩
    unfold chU
    by_cases q : e = d
    · rw [if_pos q, q, up_s]
    · rw [if_neg q, up_n (by omega), a2 e he]
  obtain ⟨g2, q2, k3, b1⟩ := goes0_W hB hM2 hX
  have kA : Kp Sf f g2 := Kp_t hk (Kp_t k2 (Kp_m k3 (fun a j h => by unfold Sf Sm; omega)))
  have hS2 := MS_s hS (Sf_m kA)
  have kB : ∀ a j, ¬ (162 ≤ a ∧ a ≤ 165) → ¬ (a = 150 ∧ j = 23) → g2 a j = g a j := fun a j h1 h2 => by rw [k3 a j (by omega), up_n (by omega), k1 a j (by omega)]
  obtain ⟨r1, r2, r3, r4, r5⟩ := hR
  have et : wd B (chU (dn B) d (k : Int)) (-1) (-1) 0 (B 0 3) = wF B (k, d) := rfl
  have v45 : g2 150 45 = (t.1 : Int) := by rw [kB 150 45 (by omega) (by omega)]; exact r1
  have v46 : g2 150 46 = dbF t := by rw [kB 150 46 (by omega) (by omega)]; exact r2
  have v47 : g2 150 47 = ffF t := by rw [kB 150 47 (by omega) (by omega)]; exact r3
  have v48 : g2 150 48 = g 150 48 := kB 150 48 (by omega) (by omega)
  have v177 : ∀ v : Nat, v < 61 → g2 177 v = cw B t a (v : Int) := fun v hv => by rw [kB 177 v (by omega) (by omega)]; exact r4 v hv
  have w164 : g2 164 a = wF B (k, d) a := (b1 a ha).2.2
  have rw0 := wF_r hB (k, d) a
  obtain ⟨v0, hv0⟩ : ∃ v0 : Nat, wF B (k, d) a = (v0 : Int) := ⟨(wF B (k, d) a).toNat, by omega⟩
  have haI : (0 : Int) ≤ (a : Int) ∧ (a : Int) < 6 := by omega
  have hvI : (0 : Int) ≤ (v0 : Int) ∧ (v0 : Int) < 61 := by omega
  rw [FX11_laysFits_56, days_e, b2_some, if_neg (by omega), q1]
  simp only [Option.bind_some]
  rw [if_pos (by omega), Int.toNat_natCast, q2]
  simp only [Option.bind_some]
  rw [isSo_e hB hG hS2 b1, b2_some, et]
  by_cases q : tl (wF B (k, d)) (Z s) m = true
  · rw [if_pos q, if_neg (show ¬ (1 : Int) = 0 by decide)]
    unfold stF
    rw [if_pos q]
    have main : ∀ G : Mm, Kp (fun a j => a = 150 ∧ j = 47) g2 G → G 150 47 = ffF (adF t (k, d)) → ∃ g', FX11_laysFits_110 k43 (FX11_laysFits_56 k43 n) (s : Int) (a : Int) (k : Int) (d : Int) G = FX11_laysFits_56 k43 n (s : Int) (a : Int) (k : Int) ((d + 1 : Nat) : Int) g' ∧ Kp Sf f g' ∧ RGs B a (adF t (k, d)) g' := by
      intro G kG hG47
      have u45 : G 150 45 = (t.1 : Int) := by rw [kG 150 45 (by omega)]; exact v45
      have u46 : G 150 46 = dbF t := by rw [kG 150 46 (by omega)]; exact v46
      have u48 : G 150 48 = g 150 48 := by rw [kG 150 48 (by omega)]; exact v48
      have u177 : ∀ v : Nat, v < 61 → G 177 v = cw B t a (v : Int) := fun v hv => by rw [kG 177 v (by omega)]; exact v177 v hv
      have u164 : G 164 a = (v0 : Int) := by rw [kG 164 a (by omega), w164, hv0]
      have rc := cw_r B t a (v0 : Int)
      have e177 : w32 (cw B t a (v0 : Int) + 1) = cw B t a (v0 : Int) + 1 := w32s (by omega) (by omega)
      have e45 : w32 ((t.1 : Int) + 1) = (t.1 : Int) + 1 := w32s (by omega) (by omega)
      have fin : ∀ y, y = jMax (g 150 48) (cw B t a (v0 : Int) + 1) → Kp Sf f (up (up (up (up G 150 45 ((t.1 : Int) + 1)) 150 46 (bOr (dbF t) (bShl 1 (k : Int)))) 177 v0 (cw B t a (v0 : Int) + 1)) 150 48 y) ∧ RGs B a (adF t (k, d)) (up (up (up (up G 150 45 ((t.1 : Int) + 1)) 150 46 (bOr (dbF t) (bShl 1 (k : Int)))) 177 v0 (cw B t a (v0 : Int) + 1)) 150 48 y) := by
        intro y hy
        refine ⟨Kp_u (Kp_u (Kp_u (Kp_u (Kp_t kA (Kp_m kG (fun a j h => by unfold Sf Sm; omega))) (by unfold Sf Sm; omega)) (by unfold Sf Sm; omega)) (by unfold Sf Sm; omega)) (by unfold Sf Sm; omega), ?_, ?_, ?_, fun v hv => ?_, ?_⟩
        · rw [up_n (by omega), up_n (by omega), up_n (by omega), up_s]
          show (t.1 : Int) + 1 = ((t.1 + 1 : Nat) : Int)
          omega
        · rw [up_n (by omega), up_n (by omega), up_s, dbF_a]
        · rw [up_n (by omega), up_n (by omega), up_n (by omega), up_n (by omega)]; exact hG47
        · rw [up_n (by omega), cw_a, hv0]
          by_cases c : v = v0
          · rw [c, up_s, if_pos rfl]
          · rw [up_n (by omega), up_n (by omega), up_n (by omega), u177 v hv, if_neg (by omega), Int.add_zero]
        · rw [up_s, hy]
          exact IsW_a r5 hv0 (by omega)
      unfold FX11_laysFits_110 FX11_laysFits_184 FX11_laysFits_187
      simp only [if_pos haI]
      rw [Int.toNat_natCast, u164]
      simp only [if_pos hvI]
      rw [Int.toNat_natCast, u45, u46, u48, u177 v0 (by omega), e177, e45, up_s, nx d (by omega)]
      by_cases c : cw B t a (v0 : Int) + 1 ≤ g 150 48
      · rw [if_pos c]
        exact ⟨_, rfl, fin _ (by unfold jMax; rw [if_neg (by omega)])⟩
      · rw [if_neg c]
        exact ⟨_, rfl, fin _ (by unfold jMax; rw [if_pos (by omega)])⟩
    rw [v45]
    by_cases c : t.1 = 0
    · rw [if_pos (by omega), w32s (x := 10 * (k : Int)) (by omega) (by omega), w32s (by omega) (by omega)]
      refine main _ (Kp_u (Kp_r _ _) (by omega)) ?_
      rw [up_s, ffF_a, if_pos c]
    · rw [if_neg (by omega)]
      refine main _ (Kp_r _ _) ?_
      rw [v47, ffF_a, if_neg c]
  · rw [if_neg q, if_pos (show (0 : Int) = 0 from rfl)]
    unfold FX11_laysFits_187 stF
    rw [nx d (by omega), if_neg q]
    exact ⟨g2, rfl, kA, v45, v46, v47, v177, by rw [v48]; exact r5⟩
theorem laysFits_W {B Z f : Mm} (hB : WF B) {s m : Nat} (hG : GZ B Z s m) (hM : MO B f) (hS : MS Z f) {a : Nat} (ha : a < nD B) : Wp (FX11_laysFits (s : Int) (a : Int) f) (fun g => Kp Sf f g ∧ RGs B a (fOu B (Z s) m (nK B)) g) := by
  obtain ⟨hD6, hDe⟩ := WF_D hB
  obtain ⟨hK4, hKe⟩ := WF_K hB
  unfold FX11_laysFits FX11_laysFits_0
  have kI : Kp Sf f (up (up (up (up f 150 45 0) 150 46 0) 150 47 (-1)) 150 48 0) := Kp_u (Kp_u (Kp_u (Kp_u (Kp_r _ _) (by unfold Sf Sm; omega)) (by unfold Sf Sm; omega)) (by unfold Sf Sm; omega)) (by unfold Sf Sm; omega)
  have i45 : up (up (up (up f 150 45 0) 150 46 0) 150 47 (-1)) 150 48 0 150 45 = 0 := by rw [up_n (by omega), up_n (by omega), up_n (by omega), up_s]
  have i46 : up (up (up (up f 150 45 0) 150 46 0) 150 47 (-1)) 150 48 0 150 46 = 0 := by rw [up_n (by omega), up_n (by omega), up_s]
  have i47 : up (up (up (up f 150 45 0) 150 46 0) 150 47 (-1)) 150 48 0 150 47 = -1 := by rw [up_n (by omega), up_s]
  have i48 : up (up (up (up f 150 45 0) 150 46 0) 150 47 (-1)) 150 48 0 150 48 = 0 := by rw [up_s]
  generalize up (up (up (up f 150 45 0) 150 46 0) 150 47 (-1)) 150 48 0 = G at *
  refine forX (fun n x (t : Mm) => FX11_laysFits_22 n (s : Int) (a : Int) x t) (fun i t => Kp (fun a _ => a = 177) G t ∧ ∀ e, e < i → t 177 e = 0) _ 61 ?_ ?_ fu 0 G ⟨Kp_r _ _, fun e he => by omega⟩ (by omega) (by have := fub; omega)
  · rintro n g0 ⟨k0, z0⟩
    rw [FX11_laysFits_22, if_pos (by omega)]
    unfold FX11_laysFits_41
    have hw0 : ∀ v : Int, cw B (0, fun _ => (0, 0)) a v = 0 := fun v => rfl
    refine forX (fun n x (t : Mm) => FX11_laysFits_43 n (s : Int) (a : Int) x t) (fun k g => Kp Sf f g ∧ RGs B a (fOu B (Z s) m k) g) _ (nK B) ?_ ?_ fu 0 g0 ⟨Kp_t kI (Kp_m k0 (fun a j h => by unfold Sf Sm; omega)), by rw [k0 150 45 (by omega), i45]; rfl, by rw [k0 150 46 (by omega), i46]; rfl, by rw [k0 150 47 (by omega), i47]; rfl, fun v hv => z0 v hv, by rw [k0 150 48 (by omega), i48]; exact ⟨fun v _ => Int.le_refl _, Int.le_refl _, Or.inl rfl⟩⟩ (by omega) (by have := fub; omega)
    · rintro n g ⟨h1, h2⟩
      have e5 : g 157 5 = (nK B : Int) := by rw [(MO_s hM (Sf_m h1)).1.2.2.2.2.2.2.1, hKe]
      rw [FX11_laysFits_43, if_pos (by omega)]
      exact Wp_some ⟨h1, h2⟩
    · rintro n k g hk ⟨h1, h2⟩
      left
      have e5 : g 157 5 = (nK B : Int) := by rw [(MO_s hM (Sf_m h1)).1.2.2.2.2.2.2.1, hKe]
      rw [FX11_laysFits_43, if_neg (by omega)]
      have hr := fOu_r hB (z := Z s) (m := m) k
      refine forR (fun n' x (t : Mm) => FX11_laysFits_56 (FX11_laysFits_43 n) n' (s : Int) (a : Int) (k : Int) x t) (fun d t => Kp Sf f t ∧ RGs B a (fIn B (Z s) m k (fOu B (Z s) m k) d) t) (fun o => ∃ s', o = FX11_laysFits_43 n (s : Int) (a : Int) ((k + 1 : Nat) : Int) s' ∧ Kp Sf f s' ∧ RGs B a (fOu B (Z s) m (k + 1)) s') (nD B) ?_ ?_ fu 0 g ⟨h1, h2⟩ (by omega) (by have := fub; omega)
      · rintro n' t ⟨j1, j2⟩
        have e0 : t 157 0 = (nD B : Int) := by rw [(MO_s hM (Sf_m j1)).1.2.1, hDe]
        refine ⟨t, ?_, j1, j2⟩
        show FX11_laysFits_56 (FX11_laysFits_43 n) (n' + 1) (s : Int) (a : Int) (k : Int) _ t = _
        rw [FX11_laysFits_56, days_e, b2_some, if_pos (by omega)]
        unfold FX11_laysFits_193
        rw [nx k (by omega)]
      · rintro n' d t hd ⟨j1, j2⟩
        left
        have hr2 := fIn_r (B := B) (z := Z s) (m := m) (k := k) (s := fOu B (Z s) m k) d
        obtain ⟨g', e, a1, a2⟩ := fit_s hB hG hM hS ha j1 hk hd j2 (by omega) (FX11_laysFits_43 n) n'
        exact ⟨g', e, a1, a2⟩
  · rintro n i t hi ⟨k0, z0⟩
    left
    rw [FX11_laysFits_22, if_neg (by omega), if_pos (by omega), nx i (by omega), Int.toNat_natCast]
    refine ⟨_, rfl, Kp_u k0 rfl, fun e he => ?_⟩
    by_cases q : e = i
    · subst q; rw [up_s]
    · rw [up_n (by omega)]; exact z0 e (by omega)
theorem laysAsk_W {B Z f : Mm} (hB : WF B) {s m : Nat} (hG : GZ B Z s m) (hM : MO B f) (hS : MS Z f) : Wp (FX11_laysAsk (s : Int) f) (fun g => Kp Sm f g ∧ g 150 49 = (askF B (fOu B (Z s) m (nK B)) (nD B)).2 ∧ g 150 50 = (askF B (fOu B (Z s) m (nK B)) (nD B)).1) := by
  obtain ⟨hD6, hDe⟩ := WF_D hB
  have hD0 := WF_D0 hB hG.2.2.2.2
  unfold FX11_laysAsk FX11_laysAsk_0
  refine Wp_bind (laysFits_W hB hG hM hS (a := 0) hD0) (fun g1 ⟨k1, r1⟩ => ?_)
  have k1' : Kp Sm f (up (up g1 150 49 (-1)) 150 50 (g1 150 45)) := Kp_u (Kp_u (Sf_m k1) (by unfold Sm; omega)) (by unfold Sm; omega)
  refine forX (fun n x (t : Mm) => FX11_laysAsk_21 n (s : Int) x t) (fun d t => Kp Sm f t ∧ t 150 49 = (askF B (fOu B (Z s) m (nK B)) d).2 ∧ t 150 50 = (askF B (fOu B (Z s) m (nK B)) d).1) _ (nD B) ?_ ?_ fu 0 _ ⟨k1', by rw [up_n (by omega), up_s]; rfl, by rw [up_s, r1.1]; rfl⟩ (by omega) (by have := fub; omega)
  · rintro n t ⟨j1, j2, j3⟩
    have e0 : t 157 0 = (nD B : Int) := by rw [(MO_s hM j1).1.2.1, hDe]
    rw [FX11_laysAsk_21, days_e, b2_some, if_pos (by omega)]
    exact Wp_some ⟨j1, j2, j3⟩
  · rintro n d t hd ⟨j1, j2, j3⟩
    left
    have e0 : t 157 0 = (nD B : Int) := by rw [(MO_s hM j1).1.2.1, hDe]
    obtain ⟨g2, q2, k2, r2⟩ := laysFits_W hB hG (MO_s hM j1) (MS_s hS j1) (a := d) hd
    have hw := IsW_u hB r2.2.2.2.2
    have c49 : g2 150 49 = t 150 49 := k2 150 49 (by unfold Sf; omega)
    have c50 : g2 150 50 = t 150 50 := k2 150 50 (by unfold Sf; omega)
    have kk := Kp_t j1 (Sf_m k2)
    have ea : askF B (fOu B (Z s) m (nK B)) (d + 1) = stA B (fOu B (Z s) m (nK B)) d (askF B (fOu B (Z s) m (nK B)) d) := rfl
    rw [FX11_laysAsk_21, days_e, b2_some, if_neg (by omega), q2]
    simp only [Option.bind_some]
    unfold FX11_laysAsk_62
    rw [nx d (by omega), hw, c50, j3, ea]
    unfold stA
    by_cases q : woF B (fOu B (Z s) m (nK B)) d < (askF B (fOu B (Z s) m (nK B)) d).1
    · simp only [if_pos q]
      exact ⟨_, rfl, Kp_u (Kp_u kk (by unfold Sm; omega)) (by unfold Sm; omega), by rw [up_n (by omega), up_s], by rw [up_s]⟩
    · simp only [if_neg q]
      exact ⟨_, rfl, kk, by rw [c49]; exact j2, by rw [c50]; exact j3⟩
def fD (B Z : Mm) (x : Int) : Nat × (Nat → Nat × Nat) := fOu B (Z x.toNat) (Z x.toNat 100 / 2).toNat (nK B)
def S_zz (B Z : Mm) (x v : Int) : Int := if wW B Z x = 0 then v else wW B Z x
theorem fD_m {B Z : Mm} {s m : Nat} (h : GZ B Z s m) : fD B Z (s : Int) = fOu B (Z s) m (nK B) := by
  unfold fD
  rw [Int.toNat_natCast, h.2.1, show (((2 * m : Nat) : Int) / 2).toNat = m by omega]

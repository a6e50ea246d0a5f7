/-! SLIGHTS: the pairs that fit -/
theorem fo_c {σ : Type} {st st' : Nat → σ → σ} {s : σ} : ∀ n, (∀ i, i < n → ∀ t, st i t = st' i t) → fo st s n = fo st' s n
  | 0, _ => rfl
  | n + 1, h => by
    show st n (fo st s n) = st' n (fo st' s n)
    rw [fo_c n (fun i hi => h i (by omega)), h n (by omega)]
def wF (B : Mm) (p : Nat × Nat) : Nat → Int := wd B (chU (dn B) p.2 (p.1 : Int)) (-1) (-1) 0 (B 0 3)
theorem wF_r {B : Mm} (hB : WF B) (p : Nat × Nat) (d : Nat) : 0 ≤ wF B p d ∧ wF B p d ≤ 60 := wd_r hB hB.2.2.2.1.1 d
def adF (s : Nat × (Nat → Nat × Nat)) (p : Nat × Nat) : Nat × (Nat → Nat × Nat) := (s.1 + 1, fun i => if i = s.1 then p else s.2 i)
def stF (B : Mm) (z : Nat → Int) (m k d : Nat) (s : Nat × (Nat → Nat × Nat)) : Nat × (Nat → Nat × Nat) := if tl (wF B (k, d)) z m = true then adF s (k, d) else s
def fIn (B : Mm) (z : Nat → Int) (m k : Nat) (s : Nat × (Nat → Nat × Nat)) : Nat → Nat × (Nat → Nat × Nat) := fo (fun d s => stF B z m k d s) s
def fOu (B : Mm) (z : Nat → Int) (m : Nat) : Nat → Nat × (Nat → Nat × Nat) := fo (fun k s => fIn B z m k s (nD B)) (0, fun _ => (0, 0))
def dbF (s : Nat × (Nat → Nat × Nat)) : Int := fo (fun i b => bOr b (bShl 1 ((s.2 i).1 : Int))) 0 s.1
def ffF (s : Nat × (Nat → Nat × Nat)) : Int := if s.1 = 0 then -1 else 10 * ((s.2 0).1 : Int) + ((s.2 0).2 : Int)
theorem ad_o {s : Nat × (Nat → Nat × Nat)} {p : Nat × Nat} {i : Nat} (h : i < s.1) : (adF s p).2 i = s.2 i := by
  show (if i = s.1 then p else s.2 i) = s.2 i
  rw [if_neg (by omega)]
theorem ad_n {s : Nat × (Nat → Nat × Nat)} {p : Nat × Nat} : (adF s p).2 s.1 = p := by
  show (if s.1 = s.1 then p else s.2 s.1) = p
  rw [if_pos rfl]
theorem dbF_a (s : Nat × (Nat → Nat × Nat)) (p : Nat × Nat) : dbF (adF s p) = bOr (dbF s) (bShl 1 (p.1 : Int)) := by
  show bOr (fo (fun i b => bOr b (bShl 1 (((adF s p).2 i).1 : Int))) 0 s.1) (bShl 1 (((adF s p).2 s.1).1 : Int)) = _
  rw [ad_n, fo_c (st' := fun i b => bOr b (bShl 1 ((s.2 i).1 : Int))) s.1 (fun i hi t => by rw [ad_o hi])]
  rfl
theorem ffF_a (s : Nat × (Nat → Nat × Nat)) (p : Nat × Nat) : ffF (adF s p) = if s.1 = 0 then 10 * (p.1 : Int) + (p.2 : Int) else ffF s := by
  have e : (adF s p).1 = s.1 + 1 := rfl
  unfold ffF
  rw [e, if_neg (by omega)]
  by_cases h : s.1 = 0
  · have : (adF s p).2 0 = p := by rw [← h]; exact ad_n
    rw [if_pos h, this]
  · rw [if_neg h, if_neg h, ad_o (by omega)]
theorem fIn_r {B : Mm} {z : Nat → Int} {m k : Nat} {s : Nat × (Nat → Nat × Nat)} : ∀ d, (fIn B z m k s d).1 ≤ s.1 + d
  | 0 => Nat.le_refl _
  | d + 1 => by
    have ih := fIn_r (B := B) (z := z) (m := m) (k := k) (s := s) d
    have e : fIn B z m k s (d + 1) = stF B z m k d (fIn B z m k s d) := rfl
    rw [e]
    unfold stF
    split
    · show (fIn B z m k s d).1 + 1 ≤ _
      omega
    · omega
theorem fOu_r {B : Mm} (hB : WF B) {z : Nat → Int} {m : Nat} : ∀ k, (fOu B z m k).1 ≤ 6 * k
  | 0 => Nat.le_refl _
  | k + 1 => by
    have ih := fOu_r hB (z := z) (m := m) k
    have h := fIn_r (B := B) (z := z) (m := m) (k := k) (s := fOu B z m k) (nD B)
    have hD := (WF_D hB).1
    have e : fOu B z m (k + 1) = fIn B z m k (fOu B z m k) (nD B) := rfl
    rw [e]
    omega
def RFs (B : Mm) (s : Nat × (Nat → Nat × Nat)) (g : Mm) : Prop := g 69 0 = (s.1 : Int) ∧ g 69 1 = dbF s ∧ g 69 2 = ffF s ∧ ∀ i, i < s.1 → ∀ e, e < nD B → g (71 + i) e = wF B (s.2 i) e
theorem RFs_k {B : Mm} {s : Nat × (Nat → Nat × Nat)} {f g : Mm} (h : RFs B s f) (hk : ∀ a j, 69 ≤ a → g a j = f a j) : RFs B s g := by
  obtain ⟨h1, h2, h3, h4⟩ := h
  exact ⟨by rw [hk 69 0 (by decide)]; exact h1, by rw [hk 69 1 (by decide)]; exact h2, by rw [hk 69 2 (by decide)]; exact h3, fun i hi e he => by rw [hk (71 + i) e (by omega)]; exact h4 i hi e he⟩
theorem keep_W {B g : Mm} (hB : WF B) (hC : CT B g) {k d : Nat} (hk4 : k < 4) (hd6 : d < 6) (hF : FK B (chU (dn B) d (k : Int)) (-1) (-1) 0 (B 0 3) (nD B) g) {s : Nat × (Nat → Nat × Nat)} (hR : RFs B s g) (hs : s.1 < 24) :
    Wp (FX5_keep_69_4_48 (k : Int) (d : Int) g) (fun g' => Kp (fun a _ => 69 ≤ a ∧ a ≤ 94) g g' ∧ RFs B (adF s (k, d)) g') := by
  obtain ⟨r1, r2, r3, r4⟩ := hR
  obtain ⟨hD6, hDe⟩ := WF_D hB
  have main : ∀ g1 : Mm, Kp (fun a j => a = 69 ∧ j = 2) g g1 → g1 69 2 = ffF (adF s (k, d)) → Wp (FX5_keep_69_4_48_18 (k : Int) g1) (fun g' => Kp (fun a _ => 69 ≤ a ∧ a ≤ 94) g g' ∧ RFs B (adF s (k, d)) g') := by
    intro g1 k1 e2
    unfold FX5_keep_69_4_48_18
    have v1 : g1 69 1 = dbF s := by rw [k1 69 1 (by omega)]; exact r2
    have k2 : Kp (fun a j => a = 69 ∧ (j = 1 ∨ j = 2)) g (up g1 69 1 (bOr (g1 69 1) (bShl 1 (k : Int)))) := Kp_u (Kp_m k1 (fun a j h => by omega)) (by omega)
    have w0 : up g1 69 1 (bOr (g1 69 1) (bShl 1 (k : Int))) 69 0 = (s.1 : Int) := by rw [k2 69 0 (by omega)]; exact r1
    have w1 : up g1 69 1 (bOr (g1 69 1) (bShl 1 (k : Int))) 69 1 = dbF (adF s (k, d)) := by rw [up_s, v1, dbF_a]
    have w2 : up g1 69 1 (bOr (g1 69 1) (bShl 1 (k : Int))) 69 2 = ffF (adF s (k, d)) := by rw [up_n (by omega)]; exact e2
    generalize up g1 69 1 (bOr (g1 69 1) (bShl 1 (k : Int))) = g2 at *
    refine forX (fun n x (t : Mm) => FX5_keep_69_4_48_33 n x t) (fun i t => Kp (fun a _ => a = 71 + s.1) g2 t ∧ ∀ e, e < i → t (71 + s.1) e = wF B (k, d) e) _ (nD B) ?_ ?_ fu 0 g2 ⟨Kp_r _ _, fun e he => by omega⟩ (by omega) (by have := fub; omega)
    · rintro n t ⟨i1, i2⟩
      have e1 : t 4 1 = (nD B : Int) := by rw [i1 4 1 (by omega), k2 4 1 (by omega), hC.1.2.1, hDe]
      have e0 : t 69 0 = (s.1 : Int) := by rw [i1 69 0 (by omega)]; exact w0
      rw [FX5_keep_69_4_48_33, if_pos (by omega)]
      unfold FX5_keep_69_4_48_66
      rw [e0, w32s (by omega) (by omega)]
      refine Wp_some ⟨fun a j h => ?_, ?_, ?_, ?_, fun i hi e he => ?_⟩
      · rw [up_n (by omega), i1 a j (by omega), k2 a j (by omega)]
      · rw [up_s]
        show (s.1 : Int) + 1 = ((s.1 + 1 : Nat) : Int)
        omega
      · rw [up_n (by omega), i1 69 1 (by omega)]; exact w1
      · rw [up_n (by omega), i1 69 2 (by omega)]; exact w2
      · have hi' : i < s.1 + 1 := hi
        rw [up_n (by omega)]
        by_cases q : i = s.1
        · subst q
          rw [ad_n]; exact i2 e he
        · rw [ad_o (by omega), i1 (71 + i) e (by omega), k2 (71 + i) e (by omega)]
          exact r4 i (by omega) e he
    · rintro n i t hi ⟨i1, i2⟩
      left
      have e1 : t 4 1 = (nD B : Int) := by rw [i1 4 1 (by omega), k2 4 1 (by omega), hC.1.2.1, hDe]
      have e0 : t 69 0 = (s.1 : Int) := by rw [i1 69 0 (by omega)]; exact w0
      have hF' : FK B (chU (dn B) d (k : Int)) (-1) (-1) 0 (B 0 3) (nD B) t := FK_k hF (fun a j h1 h2 => by rw [i1 a j (by omega), k2 a j (by omega)])
      refine ⟨up t (71 + s.1) i (wF B (k, d) i), ?_, Kp_u i1 rfl, fun e he => ?_⟩
      · show FX5_keep_69_4_48_33 (n + 1) (i : Int) t = _
        rw [FX5_keep_69_4_48_33, if_neg (by omega), e0, if_pos (by omega), widthOn_e hF' hi (by omega), b2_some, if_pos (by omega), nx i (by omega), Int.toNat_natCast, Int.toNat_natCast]
        rfl
      · by_cases q : e = i
        · subst q; rw [up_s]
        · rw [up_n (by omega)]; exact i2 e (by omega)
  unfold FX5_keep_69_4_48 FX5_keep_69_4_48_0
  rw [r1]
  by_cases h : s.1 = 0
  · rw [if_pos (by omega), w32s (x := 10 * (k : Int)) (by omega) (by omega), w32s (by omega) (by omega)]
    refine main _ (Kp_u (Kp_r _ _) (by omega)) ?_
    rw [up_s, ffF_a, if_pos h]
  · rw [if_neg (by omega)]
    refine main _ (Kp_r _ _) ?_
    rw [r3, ffF_a, if_neg h]
theorem suspect_s {B Z f : Mm} (hB : WF B) {s m : Nat} (hG : GZ B Z s m) (hC : CT B f) (hS : CS Z f) {g : Mm} (hk : Kp Sc f g) {k d : Nat} (hk4 : k < nK B) (hd : d < nD B) {t : Nat × (Nat → Nat × Nat)} (hR : RFs B t g) (ht : t.1 < 24) (k18 : Int → Int → Mm → Option Mm) (n : Nat) :
    ∃ g', FX5_search_69_4_48_40_30 k18 (n + 1) (s : Int) (k : Int) (d : Int) g = FX5_search_69_4_48_40_30 k18 n (s : Int) (k : Int) ((d + 1 : Nat) : Int) g' ∧ Kp Sc f g' ∧ RFs B (stF B (Z s) m k d t) g' := by
  obtain ⟨hD6, hDe⟩ := WF_D hB
  obtain ⟨hK4, hKe⟩ := WF_K hB
  have hC1 := CT_s hB hC hk
  have e1 : g 4 1 = (nD B : Int) := by rw [hC1.1.2.1, hDe]
  obtain ⟨g1, q1, k1, x1, o1⟩ := asDone_W hB hC1
  have hk1 : Kp Sc f g1 := Kp_t hk (Kp_m k1 (fun a j h => by unfold Sc; omega))
  have hk2 : Kp Sc f (up g1 49 d (k : Int)) := Kp_u hk1 (by unfold Sc; omega)
  have hC2 := CT_s hB hC hk2
  have e2 : g1 4 1 = (nD B : Int) := by rw [(CT_s hB hC hk1).1.2.1, hDe]
  have hX : CX B (chU (dn B) d (k : Int)) (-1) (-1) 0 (B 0 3) (up g1 49 d (k : Int)) := by
    obtain ⟨y1, y2, y3, y4, y5, y6, y7, y8⟩ := x1
    refine ⟨fun e he => ?_, by rw [up_n (by omega)]; exact y2, by rw [up_n (by omega)]; exact y3, by rw [up_n (by omega)]; exact y4, by rw [up_n (by omega)]; exact y5, chU_W (dn_W hB) (by omega), y7, y8⟩
    unfold chU
    by_cases q : e = d
    · rw [if_pos q, q, up_s]
    · rw [if_neg q, up_n (by omega), y1 e he]
  obtain ⟨g2, q2, k2, f2⟩ := feelThrough_W hB hC2 hX (l := nD B - 1) (by omega)
  rw [show nD B - 1 + 1 = nD B by omega] at f2
  have hk3 : Kp Sc f g2 := Kp_t hk2 (Kp_m k2 (fun a j h => by unfold Sc; omega))
  have hC3 := CT_s hB hC hk3
  have hS3 := CS_s hS (Sc_w hk3)
  have hR3 : RFs B t g2 := RFs_k hR (fun a j h => by rw [k2 a j (by omega), up_n (by omega), k1 a j (by omega)])
  have et : wd B (chU (dn B) d (k : Int)) (-1) (-1) 0 (B 0 3) = wF B (k, d) := rfl
  rw [FX5_search_69_4_48_40_30, if_neg (by omega), q1]
  simp only [Option.bind_some]
  rw [if_pos (by omega), e2, w32n (x := (nD B : Int) - 1) (n := nD B - 1) (by omega) (by omega), Int.toNat_natCast, q2]
  simp only [Option.bind_some]
  rw [tells_e hB hG hS3 f2, b2_some, et]
  unfold FX5_search_69_4_48_40_84 stF
  rw [nx d (by omega)]
  by_cases q : tl (wF B (k, d)) (Z s) m = true
  · rw [if_pos q, if_neg (show ¬ (1 : Int) = 0 by decide), if_pos q]
    obtain ⟨g3, q3, k3, r3⟩ := keep_W hB hC3 (by omega) (by omega) f2 hR3 ht
    rw [q3]
    simp only [Option.bind_some]
    exact ⟨g3, rfl, Kp_t hk3 (Kp_m k3 (fun a j h => by unfold Sc; omega)), r3⟩
  · rw [if_neg q, if_pos (show (0 : Int) = 0 from rfl), if_neg q]
    exact ⟨g2, rfl, hk3, hR3⟩
theorem suspected_W {B Z f : Mm} (hB : WF B) {s m : Nat} (hG : GZ B Z s m) (hC : CT B f) (hS : CS Z f) : Wp (FX10_suspected (s : Int) f) (fun g => Kp Sc f g ∧ RFs B (fOu B (Z s) m (nK B)) g) := by
  obtain ⟨hD6, hDe⟩ := WF_D hB
  obtain ⟨hK4, hKe⟩ := WF_K hB
  unfold FX10_suspected FX10_suspected_0 FX5_search_69_4_48_40 FX5_search_69_4_48_40_0
  refine Wp_bind (P := fun g => Kp Sc f g ∧ RFs B (fOu B (Z s) m (nK B)) g) ?_ (fun g h => Wp_some h)
  refine forX (fun n x (t : Mm) => FX5_search_69_4_48_40_18 n (s : Int) x t) (fun k g => Kp Sc f g ∧ RFs B (fOu B (Z s) m k) g) _ (nK B) ?_ ?_ fu 0 _ ⟨Kp_u (Kp_u (Kp_u (Kp_r _ _) (by unfold Sc; omega)) (by unfold Sc; omega)) (by unfold Sc; omega), by rw [up_n (by omega), up_n (by omega), up_s]; rfl, by rw [up_n (by omega), up_s]; rfl, by rw [up_s]; rfl, fun i hi => by exact absurd hi (Nat.not_lt_zero i)⟩ (by omega) (by have := fub; omega)
  · rintro n g ⟨h1, h2⟩
    have e4 : g 4 4 = (nK B : Int) := by rw [(CT_s hB hC h1).1.2.2.2.2.1, hKe]
    rw [FX5_search_69_4_48_40_18, if_pos (by omega)]
    exact Wp_some ⟨h1, h2⟩
  · rintro n k g hk ⟨h1, h2⟩
    left
    have e4 : g 4 4 = (nK B : Int) := by rw [(CT_s hB hC h1).1.2.2.2.2.1, hKe]
    rw [FX5_search_69_4_48_40_18, if_neg (by omega)]
    have hr := fOu_r hB (z := Z s) (m := m) k
    refine forR (fun n' x (t : Mm) => FX5_search_69_4_48_40_30 (FX5_search_69_4_48_40_18 n) n' (s : Int) (k : Int) x t) (fun d t => Kp Sc f t ∧ RFs B (fIn B (Z s) m k (fOu B (Z s) m k) d) t) (fun o => ∃ s', o = FX5_search_69_4_48_40_18 n (s : Int) ((k + 1 : Nat) : Int) s' ∧ Kp Sc f s' ∧ RFs B (fOu B (Z s) m (k + 1)) s') (nD B) ?_ ?_ fu 0 g ⟨h1, h2⟩ (by omega) (by have := fub; omega)
    · rintro n' t ⟨j1, j2⟩
      have e1 : t 4 1 = (nD B : Int) := by rw [(CT_s hB hC j1).1.2.1, hDe]
      refine ⟨t, ?_, j1, j2⟩
      show FX5_search_69_4_48_40_30 (FX5_search_69_4_48_40_18 n) (n' + 1) (s : Int) (k : Int) _ t = _
      rw [FX5_search_69_4_48_40_30, if_pos (by omega)]
      unfold FX5_search_69_4_48_40_90
      rw [nx k (by omega)]
    · rintro n' d t hd ⟨j1, j2⟩
      left
      have hr2 := fIn_r (B := B) (z := Z s) (m := m) (k := k) (s := fOu B (Z s) m k) d
      obtain ⟨g', e, a1, a2⟩ := suspect_s hB hG hC hS j1 hk hd j2 (by omega) (FX5_search_69_4_48_40_18 n) n'
      exact ⟨g', e, a1, a2⟩
def cw (B : Mm) (s : Nat × (Nat → Nat × Nat)) (d : Nat) (v : Int) : Int := cnt (fun j => decide (wF B (s.2 j) d = v)) s.1
def woF (B : Mm) (s : Nat × (Nat → Nat × Nat)) (d : Nat) : Int := mxw (fun i => cw B s d (wF B (s.2 i) d)) s.1
theorem worstOn_e {B g : Mm} {s : Nat × (Nat → Nat × Nat)} (hR : RFs B s g) (hs : s.1 ≤ 24) {d : Nat} (hd : d < nD B) (hd6 : d < 6) : FX5_worstOn (d : Int) g = some (woF B s d, g) := by
  obtain ⟨r1, r2, r3, r4⟩ := hR
  have hdI : (0 : Int) ≤ (d : Int) ∧ (d : Int) < 6 := by omega
  unfold FX5_worstOn FX5_worstOn_0
  refine forR (fun n x (v : Int) => FX5_worstOn_4 n (d : Int) v x g) (fun i v => v = mxw (fun i => cw B s d (wF B (s.2 i) d)) i) (fun o => o = some (woF B s d, g)) s.1 ?_ ?_ fu 0 0 rfl (by omega) (by have := fub; omega)
  · rintro n v hv
    show FX5_worstOn_4 (n + 1) (d : Int) v _ g = _
    rw [FX5_worstOn_4, if_pos (by omega), hv]
    rfl
  · rintro n i v hi hv
    left
    refine ⟨mxw (fun i => cw B s d (wF B (s.2 i) d)) (i + 1), ?_, rfl⟩
    show FX5_worstOn_4 (n + 1) (d : Int) v (i : Int) g = _
    rw [FX5_worstOn_4, if_neg (by omega)]
    have hiI : (0 : Int) ≤ (i : Int) ∧ (i : Int) < 24 := by omega
    refine forR (fun n' x (c : Int) => FX5_worstOn_18 (FX5_worstOn_4 n) n' (d : Int) v (i : Int) c x g) (fun j c => c = cnt (fun j => decide (wF B (s.2 j) d = wF B (s.2 i) d)) j) (fun o => o = FX5_worstOn_4 n (d : Int) (mxw (fun i => cw B s d (wF B (s.2 i) d)) (i + 1)) ((i + 1 : Nat) : Int) g) s.1 ?_ ?_ fu 0 0 rfl (by omega) (by have := fub; omega)
    · rintro n' c hc
      show FX5_worstOn_18 (FX5_worstOn_4 n) (n' + 1) (d : Int) v (i : Int) c _ g = _
      rw [FX5_worstOn_18, if_pos (by omega)]
      unfold FX5_worstOn_56
      rw [nx i (by omega), hc, hv]
      rfl
    · rintro n' j c hj hc
      left
      have hjI : (0 : Int) ≤ (j : Int) ∧ (j : Int) < 24 := by omega
      have hr := cnt_r (p := fun j => decide (wF B (s.2 j) d = wF B (s.2 i) d)) j
      refine ⟨_, ?_, rfl⟩
      show FX5_worstOn_18 (FX5_worstOn_4 n) (n' + 1) (d : Int) v (i : Int) c (j : Int) g = _
      rw [FX5_worstOn_18, if_neg (by omega)]
      simp only [if_pos hdI, if_pos hiI, if_pos hjI]
      unfold FX5_worstOn_50
      rw [Int.toNat_natCast, Int.toNat_natCast, Int.toNat_natCast, r4 j hj d hd, r4 i hi d hd, nx j (by omega), cnt_s, hc]
      by_cases q : wF B (s.2 j) d = wF B (s.2 i) d
      · rw [if_pos q, if_pos (decide_eq_true q), w32s (by omega) (by omega)]
      · rw [if_neg q, if_neg (by rw [decide_eq_true_eq]; exact q), Int.add_zero]
def stA (B : Mm) (s : Nat × (Nat → Nat × Nat)) (d : Nat) (p : Int × Int) : Int × Int := if woF B s d < p.1 then (woF B s d, (d : Int)) else p
def askF (B : Mm) (s : Nat × (Nat → Nat × Nat)) : Nat → Int × Int := fo (fun d p => stA B s d p) ((s.1 : Int), -1)
theorem askedDay_e {B g : Mm} (hB : WF B) (hC : CT B g) {s : Nat × (Nat → Nat × Nat)} (hR : RFs B s g) (hs : s.1 ≤ 24) : FX5_askedDay_69_4 g = some ((askF B s (nD B)).2, g) := by
  obtain ⟨hD6, hDe⟩ := WF_D hB
  have e1 : g 4 1 = (nD B : Int) := by rw [hC.1.2.1, hDe]
  unfold FX5_askedDay_69_4 FX5_askedDay_69_4_0
  rw [hR.1]
  refine forR (fun n x (p : Int × Int) => FX5_askedDay_69_4_10 n p.1 p.2 x g) (fun i p => p = askF B s i) (fun o => o = some ((askF B s (nD B)).2, g)) (nD B) ?_ ?_ fu 0 ((s.1 : Int), -1) rfl (by omega) (by have := fub; omega)
  · rintro n p hp
    show FX5_askedDay_69_4_10 (n + 1) p.1 p.2 _ g = _
    rw [FX5_askedDay_69_4_10, if_pos (by omega), hp]
  · rintro n i p hi hp
    left
    refine ⟨askF B s (i + 1), ?_, rfl⟩
    show FX5_askedDay_69_4_10 (n + 1) p.1 p.2 (i : Int) g = _
    have ea : askF B s (i + 1) = stA B s i (askF B s i) := rfl
    rw [FX5_askedDay_69_4_10, if_neg (by omega), worstOn_e hR hs hi (by omega), b2_some, ea, ← hp]
    unfold FX5_askedDay_69_4_39 stA
    rw [nx i (by omega)]
    by_cases q : woF B s i < p.1
    · rw [if_neg (by omega), if_pos q]
    · rw [if_pos (by omega), if_neg q]
theorem askF_i (B : Mm) (s : Nat × (Nat → Nat × Nat)) : ∀ i, ((askF B s i).2 = -1 ∧ (askF B s i).1 = (s.1 : Int)) ∨ ∃ d : Nat, d < i ∧ (askF B s i).2 = (d : Int) ∧ (askF B s i).1 = woF B s d
  | 0 => Or.inl ⟨rfl, rfl⟩
  | i + 1 => by
    have ih := askF_i B s i
    have ea : askF B s (i + 1) = stA B s i (askF B s i) := rfl
    rw [ea]
    unfold stA
    by_cases q : woF B s i < (askF B s i).1
    · rw [if_pos q]
      exact Or.inr ⟨i, by omega, rfl, rfl⟩
    · rw [if_neg q]
      rcases ih with h | ⟨d, h1, h2⟩
      · exact Or.inl h
      · exact Or.inr ⟨d, by omega, h2⟩
theorem leftAtWorst_e {B g : Mm} (hB : WF B) (hC : CT B g) {s : Nat × (Nat → Nat × Nat)} (hR : RFs B s g) (hs : s.1 ≤ 24) : FX5_leftAtWorst_69_4 g = some ((askF B s (nD B)).1, g) := by
  have hD6 := (WF_D hB).1
  unfold FX5_leftAtWorst_69_4 FX5_leftAtWorst_69_4_0
  rw [askedDay_e hB hC hR hs, b2_some]
  rcases askF_i B s (nD B) with ⟨h1, h2⟩ | ⟨d, h1, h2, h3⟩
  · rw [if_pos h1, h2, hR.1]
  · rw [h2, if_neg (by omega), worstOn_e hR hs h1 (by omega), b2_some, h3]

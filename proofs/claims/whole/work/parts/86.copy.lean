/-! rows copied -/
theorem copyRow_W {a b L : Nat} (ka : kd a = 0) (kb : kd b = 0) (la : ln a = L) (lb : ln b = L) (hab : a ≠ b) (hL : L < 1000) (f : Mm) : Wp (FX0_copyRow a b f) (fun g => (∀ j, j < L → g b j = f a j) ∧ Kp (fun x _ => x = b) f g) := by
  unfold FX0_copyRow FX0_copyRow_0
  refine forX (fun n x (s : Mm) => FX0_copyRow_2 n a b x s) (fun i s => (∀ j, j < i → s b j = f a j) ∧ Kp (fun x _ => x = b) f s) _ L ?_ ?_ fu 0 f ⟨fun j hj => by omega, Kp_r _ _⟩ (by omega) (by have := fub; omega)
  · rintro n s ⟨h1, h2⟩
    rw [FX0_copyRow_2, if_pos ka, la, if_pos (by omega)]
    exact Wp_some ⟨h1, h2⟩
  · rintro n i s hi ⟨h1, h2⟩
    left
    have hI : (0 : Int) ≤ (i : Int) ∧ (i : Int) < ((L : Nat) : Int) := by omega
    rw [FX0_copyRow_2, if_pos ka, if_pos kb, la, lb, if_neg (by omega), if_neg (by omega), if_pos hI, if_pos hI, nx i (by omega), Int.toNat_natCast]
    refine ⟨_, rfl, fun j hj => ?_, Kp_u h2 rfl⟩
    by_cases q : j = i
    · subst q; rw [up_s, h2 a j hab]
    · rw [up_n (by omega)]; exact h1 j (by omega)
def BCc (x y : Nat) (f g : Mm) : Prop := (∀ j, j < 7 → g x j = f y j) ∧ (∀ j, j < 2 → g (x + 1) j = f (y + 1) j) ∧ (∀ d, d < 4 → ∀ j, j < 4 → g (x + 3 + d) j = f (y + 3 + d) j) ∧ (∀ c, c < 6 → ∀ j, j < 5 → g (x + 8 + c) j = f (y + 8 + c) j) ∧ (∀ j, j < 6 → g (x + 14) j = f (y + 14) j) ∧ (∀ j, j < 40 → g (x + 15) j = f (y + 15) j ∧ g (x + 16) j = f (y + 16) j)
theorem CB_c {x y : Nat} {B f g : Mm} (hW : WF B) (h : CB y B f) (hc : BCc x y f g) : CB x B g := by
  obtain ⟨⟨a1, a2, a3, a4, a5, a6, a7⟩, ⟨b1, b2'⟩, b3, b4, b5, b6⟩ := h
  obtain ⟨c1, c2, c3, c4, c5, c6⟩ := hc
  have hK := (WF_K hW).1
  have hC := (WF_C hW).1
  have hA := (WF_A hW).1
  refine ⟨⟨by rw [c1 0 (by omega)]; exact a1, by rw [c1 1 (by omega)]; exact a2, by rw [c1 2 (by omega)]; exact a3, by rw [c1 3 (by omega)]; exact a4, by rw [c1 4 (by omega)]; exact a5, by rw [c1 5 (by omega)]; exact a6, by rw [c1 6 (by omega)]; exact a7⟩, ⟨by rw [c2 0 (by omega)]; exact b1, by rw [c2 1 (by omega)]; exact b2'⟩, fun d hd j hj => by rw [c3 d (by omega) j hj]; exact b3 d hd j hj, fun c hc j hj => by rw [c4 c (by omega) j hj]; exact b4 c hc j hj, fun d hd => by rw [c5 d hd]; exact b5 d hd, fun k hk => ?_⟩
  rw [(c6 k (by omega)).1, (c6 k (by omega)).2]
  exact b6 k hk
theorem become_4_21 (f : Mm) : Wp (FX0_become_4_21 f) (fun g => BCc 4 21 f g ∧ Kp (fun a _ => 4 ≤ a ∧ a ≤ 20) f g) := by
  have s4 : ∀ d : Fin 4, kd (24 + d.val) = 0 ∧ kd (7 + d.val) = 0 ∧ ln (24 + d.val) = 4 ∧ ln (7 + d.val) = 4 := by decide
  have s6 : ∀ d : Fin 6, kd (29 + d.val) = 0 ∧ kd (12 + d.val) = 0 ∧ ln (29 + d.val) = 5 ∧ ln (12 + d.val) = 5 := by decide
  unfold FX0_become_4_21 FX0_become_4_21_0
  have k0 : Kp (fun a _ => a = 4) f (up (up (up (up (up (up (up f 4 0 (f 21 0)) 4 1 (f 21 1)) 4 2 (f 21 2)) 4 3 (f 21 3)) 4 4 (f 21 4)) 4 5 (f 21 5)) 4 6 (f 21 6)) := Kp_u (Kp_u (Kp_u (Kp_u (Kp_u (Kp_u (Kp_u (Kp_r _ _) (by omega)) (by omega)) (by omega)) (by omega)) (by omega)) (by omega)) (by omega)
  have v0 : ∀ j, j < 7 → up (up (up (up (up (up (up f 4 0 (f 21 0)) 4 1 (f 21 1)) 4 2 (f 21 2)) 4 3 (f 21 3)) 4 4 (f 21 4)) 4 5 (f 21 5)) 4 6 (f 21 6) 4 j = f 21 j := fun j hj => by
    rcases (show j = 0 ∨ j = 1 ∨ j = 2 ∨ j = 3 ∨ j = 4 ∨ j = 5 ∨ j = 6 by omega) with rfl | rfl | rfl | rfl | rfl | rfl | rfl
    · rw [up_n (by omega), up_n (by omega), up_n (by omega), up_n (by omega), up_n (by omega), up_n (by omega), up_s]
    · rw [up_n (by omega), up_n (by omega), up_n (by omega), up_n (by omega), up_n (by omega), up_s]
    · rw [up_n (by omega), up_n (by omega), up_n (by omega), up_n (by omega), up_s]
    · rw [up_n (by omega), up_n (by omega), up_n (by omega), up_s]
    · rw [up_n (by omega), up_n (by omega), up_s]
    · rw [up_n (by omega), up_s]
    · rw [up_s]
  generalize up (up (up (up (up (up (up f 4 0 (f 21 0)) 4 1 (f 21 1)) 4 2 (f 21 2)) 4 3 (f 21 3)) 4 4 (f 21 4)) 4 5 (f 21 5)) 4 6 (f 21 6) = g0 at *
  refine Wp_bind (copyRow_W (a := 22) (b := 5) (L := 2) rfl rfl rfl rfl (by decide) (by decide) g0) (fun g1 ⟨c1, k1⟩ => ?_)
  refine forX (fun n z (s : Mm) => FX0_become_4_21_69 n z s) (fun i s => (∀ d, d < i → ∀ j, j < 4 → s (7 + d) j = g1 (24 + d) j) ∧ Kp (fun a _ => 7 ≤ a ∧ a ≤ 10) g1 s) _ 4 ?_ ?_ fu 0 g1 ⟨fun d hd => by omega, Kp_r _ _⟩ (by omega) (by have := fub; omega)
  · rintro n g2 ⟨c2, k2⟩
    rw [FX0_become_4_21_69, if_pos (by omega)]
    unfold FX0_become_4_21_95
    refine forX (fun n z (s : Mm) => FX0_become_4_21_97 n z s) (fun i s => (∀ d, d < i → ∀ j, j < 5 → s (12 + d) j = g2 (29 + d) j) ∧ Kp (fun a _ => 12 ≤ a ∧ a ≤ 17) g2 s) _ 6 ?_ ?_ fu 0 g2 ⟨fun d hd => by omega, Kp_r _ _⟩ (by omega) (by have := fub; omega)
    · rintro n g3 ⟨c3, k3⟩
      rw [FX0_become_4_21_97, if_pos (by omega)]
      unfold FX0_become_4_21_124
      refine Wp_bind (copyRow_W (a := 35) (b := 18) (L := 6) rfl rfl rfl rfl (by decide) (by decide) g3) (fun g4 ⟨c4, k4⟩ => ?_)
      refine Wp_bind (copyRow_W (a := 36) (b := 19) (L := 40) rfl rfl rfl rfl (by decide) (by decide) g4) (fun g5 ⟨c5, k5⟩ => ?_)
      refine Wp_bind (copyRow_W (a := 37) (b := 20) (L := 40) rfl rfl rfl rfl (by decide) (by decide) g5) (fun g6 ⟨c6, k6⟩ => ?_)
      have b3 : ∀ a j, ¬ (4 ≤ a ∧ a ≤ 17) → g3 a j = f a j := fun a j q => by rw [k3 a j (by omega), k2 a j (by omega), k1 a j (by omega), k0 a j (by omega)]
      have b6 : ∀ a j, ¬ (18 ≤ a ∧ a ≤ 20) → g6 a j = g3 a j := fun a j q => by rw [k6 a j (by omega), k5 a j (by omega), k4 a j (by omega)]
      refine Wp_some ⟨⟨fun j hj => ?_, fun j hj => ?_, fun d hd j hj => ?_, fun c hc j hj => ?_, fun j hj => ?_, fun j hj => ⟨?_, ?_⟩⟩, fun a j q => by rw [b6 a j (by omega), b3 a j (by omega)]⟩
      · rw [b6 4 j (by omega), k3 4 j (by omega), k2 4 j (by omega), k1 4 j (by omega)]; exact v0 j hj
      · show g6 5 j = f 22 j
        rw [b6 5 j (by omega), k3 5 j (by omega), k2 5 j (by omega), c1 j hj, k0 22 j (by omega)]
      · show g6 (7 + d) j = f (24 + d) j
        rw [b6 (7 + d) j (by omega), k3 (7 + d) j (by omega), c2 d hd j hj, k1 (24 + d) j (by omega), k0 (24 + d) j (by omega)]
      · show g6 (12 + c) j = f (29 + c) j
        rw [b6 (12 + c) j (by omega), c3 c hc j hj, k2 (29 + c) j (by omega), k1 (29 + c) j (by omega), k0 (29 + c) j (by omega)]
      · show g6 18 j = f 35 j
        rw [k6 18 j (by omega), k5 18 j (by omega), c4 j hj, b3 35 j (by omega)]
      · show g6 19 j = f 36 j
        rw [k6 19 j (by omega), c5 j hj, k4 36 j (by omega), b3 36 j (by omega)]
      · show g6 20 j = f 37 j
        rw [c6 j hj, k5 37 j (by omega), k4 37 j (by omega), b3 37 j (by omega)]
    · rintro n i s hi ⟨c3, k3⟩
      left
      have hI : (0 : Int) ≤ (i : Int) ∧ (i : Int) < 6 := by omega
      obtain ⟨q1, q2, q3, q4⟩ := s6 ⟨i, hi⟩
      obtain ⟨g, e, r1, r2⟩ := copyRow_W q1 q2 q3 q4 (by omega) (by decide) s
      simp only at e r1 r2
      rw [FX0_become_4_21_97, if_neg (by omega)]
      simp only [if_pos hI]
      rw [Int.toNat_natCast, e]
      simp only [Option.bind_some]
      rw [nx i (by omega)]
      refine ⟨g, rfl, fun d hd j hj => ?_, Kp_t k3 (Kp_m r2 (fun a j h => by omega))⟩
      by_cases q : d = i
      · subst q; rw [r1 j hj, k3 (29 + d) j (by omega)]
      · rw [r2 (12 + d) j (by omega)]; exact c3 d (by omega) j hj
  · rintro n i s hi ⟨c2, k2⟩
    left
    have hI : (0 : Int) ≤ (i : Int) ∧ (i : Int) < 4 := by omega
    obtain ⟨q1, q2, q3, q4⟩ := s4 ⟨i, hi⟩
    obtain ⟨g, e, r1, r2⟩ := copyRow_W q1 q2 q3 q4 (by omega) (by decide) s
    simp only at e r1 r2
    rw [FX0_become_4_21_69, if_neg (by omega)]
    simp only [if_pos hI]
    rw [Int.toNat_natCast, e]
    simp only [Option.bind_some]
    rw [nx i (by omega)]
    refine ⟨g, rfl, fun d hd j hj => ?_, Kp_t k2 (Kp_m r2 (fun a j h => by omega))⟩
    by_cases q : d = i
    · subst q; rw [r1 j hj, k2 (24 + d) j (by omega)]
    · rw [r2 (7 + d) j (by omega)]; exact c2 d (by omega) j hj
theorem become_99_4 (f : Mm) : Wp (FX0_become_99_4 f) (fun g => BCc 99 4 f g ∧ Kp (fun a _ => 99 ≤ a ∧ a ≤ 115) f g) := by
  have s4 : ∀ d : Fin 4, kd (7 + d.val) = 0 ∧ kd (102 + d.val) = 0 ∧ ln (7 + d.val) = 4 ∧ ln (102 + d.val) = 4 := by decide
  have s6 : ∀ d : Fin 6, kd (12 + d.val) = 0 ∧ kd (107 + d.val) = 0 ∧ ln (12 + d.val) = 5 ∧ ln (107 + d.val) = 5 := by decide
  unfold FX0_become_99_4 FX0_become_99_4_0
  have k0 : Kp (fun a _ => a = 99) f (up (up (up (up (up (up (up f 99 0 (f 4 0)) 99 1 (f 4 1)) 99 2 (f 4 2)) 99 3 (f 4 3)) 99 4 (f 4 4)) 99 5 (f 4 5)) 99 6 (f 4 6)) := Kp_u (Kp_u (Kp_u (Kp_u (Kp_u (Kp_u (Kp_u (Kp_r _ _) (by omega)) (by omega)) (by omega)) (by omega)) (by omega)) (by omega)) (by omega)
  have v0 : ∀ j, j < 7 → up (up (up (up (up (up (up f 99 0 (f 4 0)) 99 1 (f 4 1)) 99 2 (f 4 2)) 99 3 (f 4 3)) 99 4 (f 4 4)) 99 5 (f 4 5)) 99 6 (f 4 6) 99 j = f 4 j := fun j hj => by
    rcases (show j = 0 ∨ j = 1 ∨ j = 2 ∨ j = 3 ∨ j = 4 ∨ j = 5 ∨ j = 6 by omega) with rfl | rfl | rfl | rfl | rfl | rfl | rfl
    · rw [up_n (by omega), up_n (by omega), up_n (by omega), up_n (by omega), up_n (by omega), up_n (by omega), up_s]
    · rw [up_n (by omega), up_n (by omega), up_n (by omega), up_n (by omega), up_n (by omega), up_s]
    · rw [up_n (by omega), up_n (by omega), up_n (by omega), up_n (by omega), up_s]
    · rw [up_n (by omega), up_n (by omega), up_n (by omega), up_s]
    · rw [up_n (by omega), up_n (by omega), up_s]
    · rw [up_n (by omega), up_s]
    · rw [up_s]
  generalize up (up (up (up (up (up (up f 99 0 (f 4 0)) 99 1 (f 4 1)) 99 2 (f 4 2)) 99 3 (f 4 3)) 99 4 (f 4 4)) 99 5 (f 4 5)) 99 6 (f 4 6) = g0 at *
  refine Wp_bind (copyRow_W (a := 5) (b := 100) (L := 2) rfl rfl rfl rfl (by decide) (by decide) g0) (fun g1 ⟨c1, k1⟩ => ?_)
  refine forX (fun n z (s : Mm) => FX0_become_99_4_69 n z s) (fun i s => (∀ d, d < i → ∀ j, j < 4 → s (102 + d) j = g1 (7 + d) j) ∧ Kp (fun a _ => 102 ≤ a ∧ a ≤ 105) g1 s) _ 4 ?_ ?_ fu 0 g1 ⟨fun d hd => by omega, Kp_r _ _⟩ (by omega) (by have := fub; omega)
  · rintro n g2 ⟨c2, k2⟩
    rw [FX0_become_99_4_69, if_pos (by omega)]
    unfold FX0_become_99_4_95
    refine forX (fun n z (s : Mm) => FX0_become_99_4_97 n z s) (fun i s => (∀ d, d < i → ∀ j, j < 5 → s (107 + d) j = g2 (12 + d) j) ∧ Kp (fun a _ => 107 ≤ a ∧ a ≤ 112) g2 s) _ 6 ?_ ?_ fu 0 g2 ⟨fun d hd => by omega, Kp_r _ _⟩ (by omega) (by have := fub; omega)
    · rintro n g3 ⟨c3, k3⟩
      rw [FX0_become_99_4_97, if_pos (by omega)]
      unfold FX0_become_99_4_124
      refine Wp_bind (copyRow_W (a := 18) (b := 113) (L := 6) rfl rfl rfl rfl (by decide) (by decide) g3) (fun g4 ⟨c4, k4⟩ => ?_)
      refine Wp_bind (copyRow_W (a := 19) (b := 114) (L := 40) rfl rfl rfl rfl (by decide) (by decide) g4) (fun g5 ⟨c5, k5⟩ => ?_)
      refine Wp_bind (copyRow_W (a := 20) (b := 115) (L := 40) rfl rfl rfl rfl (by decide) (by decide) g5) (fun g6 ⟨c6, k6⟩ => ?_)
      have b3 : ∀ a j, ¬ (99 ≤ a ∧ a ≤ 112) → g3 a j = f a j := fun a j q => by rw [k3 a j (by omega), k2 a j (by omega), k1 a j (by omega), k0 a j (by omega)]
      have b6 : ∀ a j, ¬ (113 ≤ a ∧ a ≤ 115) → g6 a j = g3 a j := fun a j q => by rw [k6 a j (by omega), k5 a j (by omega), k4 a j (by omega)]
      refine Wp_some ⟨⟨fun j hj => ?_, fun j hj => ?_, fun d hd j hj => ?_, fun c hc j hj => ?_, fun j hj => ?_, fun j hj => ⟨?_, ?_⟩⟩, fun a j q => by rw [b6 a j (by omega), b3 a j (by omega)]⟩
      · rw [b6 99 j (by omega), k3 99 j (by omega), k2 99 j (by omega), k1 99 j (by omega)]; exact v0 j hj
      · show g6 100 j = f 5 j
        rw [b6 100 j (by omega), k3 100 j (by omega), k2 100 j (by omega), c1 j hj, k0 5 j (by omega)]
      · show g6 (102 + d) j = f (7 + d) j
        rw [b6 (102 + d) j (by omega), k3 (102 + d) j (by omega), c2 d hd j hj, k1 (7 + d) j (by omega), k0 (7 + d) j (by omega)]
      · show g6 (107 + c) j = f (12 + c) j
        rw [b6 (107 + c) j (by omega), c3 c hc j hj, k2 (12 + c) j (by omega), k1 (12 + c) j (by omega), k0 (12 + c) j (by omega)]
      · show g6 113 j = f 18 j
        rw [k6 113 j (by omega), k5 113 j (by omega), c4 j hj, b3 18 j (by omega)]
      · show g6 114 j = f 19 j
        rw [k6 114 j (by omega), c5 j hj, k4 19 j (by omega), b3 19 j (by omega)]
      · show g6 115 j = f 20 j
        rw [c6 j hj, k5 20 j (by omega), k4 20 j (by omega), b3 20 j (by omega)]
    · rintro n i s hi ⟨c3, k3⟩
      left
      have hI : (0 : Int) ≤ (i : Int) ∧ (i : Int) < 6 := by omega
      obtain ⟨q1, q2, q3, q4⟩ := s6 ⟨i, hi⟩
      obtain ⟨g, e, r1, r2⟩ := copyRow_W q1 q2 q3 q4 (by omega) (by decide) s
      simp only at e r1 r2
      rw [FX0_become_99_4_97, if_neg (by omega)]
      simp only [if_pos hI]
      rw [Int.toNat_natCast, e]
      simp only [Option.bind_some]
      rw [nx i (by omega)]
      refine ⟨g, rfl, fun d hd j hj => ?_, Kp_t k3 (Kp_m r2 (fun a j h => by omega))⟩
      by_cases q : d = i
      · subst q; rw [r1 j hj, k3 (12 + d) j (by omega)]
      · rw [r2 (107 + d) j (by omega)]; exact c3 d (by omega) j hj
  · rintro n i s hi ⟨c2, k2⟩
    left
    have hI : (0 : Int) ≤ (i : Int) ∧ (i : Int) < 4 := by omega
    obtain ⟨q1, q2, q3, q4⟩ := s4 ⟨i, hi⟩
    obtain ⟨g, e, r1, r2⟩ := copyRow_W q1 q2 q3 q4 (by omega) (by decide) s
    simp only at e r1 r2
    rw [FX0_become_99_4_69, if_neg (by omega)]
    simp only [if_pos hI]
    rw [Int.toNat_natCast, e]
    simp only [Option.bind_some]
    rw [nx i (by omega)]
    refine ⟨g, rfl, fun d hd j hj => ?_, Kp_t k2 (Kp_m r2 (fun a j h => by omega))⟩
    by_cases q : d = i
    · subst q; rw [r1 j hj, k2 (7 + d) j (by omega)]
    · rw [r2 (102 + d) j (by omega)]; exact c2 d (by omega) j hj
theorem become_116_4 (f : Mm) : Wp (FX0_become_116_4 f) (fun g => BCc 116 4 f g ∧ Kp (fun a _ => 116 ≤ a ∧ a ≤ 132) f g) := by
  have s4 : ∀ d : Fin 4, kd (7 + d.val) = 0 ∧ kd (119 + d.val) = 0 ∧ ln (7 + d.val) = 4 ∧ ln (119 + d.val) = 4 := by decide
  have s6 : ∀ d : Fin 6, kd (12 + d.val) = 0 ∧ kd (124 + d.val) = 0 ∧ ln (12 + d.val) = 5 ∧ ln (124 + d.val) = 5 := by decide
  unfold FX0_become_116_4 FX0_become_116_4_0
  have k0 : Kp (fun a _ => a = 116) f (up (up (up (up (up (up (up f 116 0 (f 4 0)) 116 1 (f 4 1)) 116 2 (f 4 2)) 116 3 (f 4 3)) 116 4 (f 4 4)) 116 5 (f 4 5)) 116 6 (f 4 6)) := Kp_u (Kp_u (Kp_u (Kp_u (Kp_u (Kp_u (Kp_u (Kp_r _ _) (by omega)) (by omega)) (by omega)) (by omega)) (by omega)) (by omega)) (by omega)
  have v0 : ∀ j, j < 7 → up (up (up (up (up (up (up f 116 0 (f 4 0)) 116 1 (f 4 1)) 116 2 (f 4 2)) 116 3 (f 4 3)) 116 4 (f 4 4)) 116 5 (f 4 5)) 116 6 (f 4 6) 116 j = f 4 j := fun j hj => by
    rcases (show j = 0 ∨ j = 1 ∨ j = 2 ∨ j = 3 ∨ j = 4 ∨ j = 5 ∨ j = 6 by omega) with rfl | rfl | rfl | rfl | rfl | rfl | rfl
    · rw [up_n (by omega), up_n (by omega), up_n (by omega), up_n (by omega), up_n (by omega), up_n (by omega), up_s]
    · rw [up_n (by omega), up_n (by omega), up_n (by omega), up_n (by omega), up_n (by omega), up_s]
    · rw [up_n (by omega), up_n (by omega), up_n (by omega), up_n (by omega), up_s]
    · rw [up_n (by omega), up_n (by omega), up_n (by omega), up_s]
    · rw [up_n (by omega), up_n (by omega), up_s]
    · rw [up_n (by omega), up_s]
    · rw [up_s]
  generalize up (up (up (up (up (up (up f 116 0 (f 4 0)) 116 1 (f 4 1)) 116 2 (f 4 2)) 116 3 (f 4 3)) 116 4 (f 4 4)) 116 5 (f 4 5)) 116 6 (f 4 6) = g0 at *
  refine Wp_bind (copyRow_W (a := 5) (b := 117) (L := 2) rfl rfl rfl rfl (by decide) (by decide) g0) (fun g1 ⟨c1, k1⟩ => ?_)
  refine forX (fun n z (s : Mm) => FX0_become_116_4_69 n z s) (fun i s => (∀ d, d < i → ∀ j, j < 4 → s (119 + d) j = g1 (7 + d) j) ∧ Kp (fun a _ => 119 ≤ a ∧ a ≤ 122) g1 s) _ 4 ?_ ?_ fu 0 g1 ⟨fun d hd => by omega, Kp_r _ _⟩ (by omega) (by have := fub; omega)
  · rintro n g2 ⟨c2, k2⟩
    rw [FX0_become_116_4_69, if_pos (by omega)]
    unfold FX0_become_116_4_95
    refine forX (fun n z (s : Mm) => FX0_become_116_4_97 n z s) (fun i s => (∀ d, d < i → ∀ j, j < 5 → s (124 + d) j = g2 (12 + d) j) ∧ Kp (fun a _ => 124 ≤ a ∧ a ≤ 129) g2 s) _ 6 ?_ ?_ fu 0 g2 ⟨fun d hd => by omega, Kp_r _ _⟩ (by omega) (by have := fub; omega)
    · rintro n g3 ⟨c3, k3⟩
      rw [FX0_become_116_4_97, if_pos (by omega)]
      unfold FX0_become_116_4_124
      refine Wp_bind (copyRow_W (a := 18) (b := 130) (L := 6) rfl rfl rfl rfl (by decide) (by decide) g3) (fun g4 ⟨c4, k4⟩ => ?_)
      refine Wp_bind (copyRow_W (a := 19) (b := 131) (L := 40) rfl rfl rfl rfl (by decide) (by decide) g4) (fun g5 ⟨c5, k5⟩ => ?_)
      refine Wp_bind (copyRow_W (a := 20) (b := 132) (L := 40) rfl rfl rfl rfl (by decide) (by decide) g5) (fun g6 ⟨c6, k6⟩ => ?_)
      have b3 : ∀ a j, ¬ (116 ≤ a ∧ a ≤ 129) → g3 a j = f a j := fun a j q => by rw [k3 a j (by omega), k2 a j (by omega), k1 a j (by omega), k0 a j (by omega)]
      have b6 : ∀ a j, ¬ (130 ≤ a ∧ a ≤ 132) → g6 a j = g3 a j := fun a j q => by rw [k6 a j (by omega), k5 a j (by omega), k4 a j (by omega)]
      refine Wp_some ⟨⟨fun j hj => ?_, fun j hj => ?_, fun d hd j hj => ?_, fun c hc j hj => ?_, fun j hj => ?_, fun j hj => ⟨?_, ?_⟩⟩, fun a j q => by rw [b6 a j (by omega), b3 a j (by omega)]⟩
      · rw [b6 116 j (by omega), k3 116 j (by omega), k2 116 j (by omega), k1 116 j (by omega)]; exact v0 j hj
      · show g6 117 j = f 5 j
        rw [b6 117 j (by omega), k3 117 j (by omega), k2 117 j (by omega), c1 j hj, k0 5 j (by omega)]
      · show g6 (119 + d) j = f (7 + d) j
        rw [b6 (119 + d) j (by omega), k3 (119 + d) j (by omega), c2 d hd j hj, k1 (7 + d) j (by omega), k0 (7 + d) j (by omega)]
      · show g6 (124 + c) j = f (12 + c) j
        rw [b6 (124 + c) j (by omega), c3 c hc j hj, k2 (12 + c) j (by omega), k1 (12 + c) j (by omega), k0 (12 + c) j (by omega)]
      · show g6 130 j = f 18 j
        rw [k6 130 j (by omega), k5 130 j (by omega), c4 j hj, b3 18 j (by omega)]
      · show g6 131 j = f 19 j
        rw [k6 131 j (by omega), c5 j hj, k4 19 j (by omega), b3 19 j (by omega)]
      · show g6 132 j = f 20 j
        rw [c6 j hj, k5 20 j (by omega), k4 20 j (by omega), b3 20 j (by omega)]
    · rintro n i s hi ⟨c3, k3⟩
      left
      have hI : (0 : Int) ≤ (i : Int) ∧ (i : Int) < 6 := by omega
      obtain ⟨q1, q2, q3, q4⟩ := s6 ⟨i, hi⟩
      obtain ⟨g, e, r1, r2⟩ := copyRow_W q1 q2 q3 q4 (by omega) (by decide) s
      simp only at e r1 r2
      rw [FX0_become_116_4_97, if_neg (by omega)]
      simp only [if_pos hI]
      rw [Int.toNat_natCast, e]
      simp only [Option.bind_some]
      rw [nx i (by omega)]
      refine ⟨g, rfl, fun d hd j hj => ?_, Kp_t k3 (Kp_m r2 (fun a j h => by omega))⟩
      by_cases q : d = i
      · subst q; rw [r1 j hj, k3 (12 + d) j (by omega)]
      · rw [r2 (124 + d) j (by omega)]; exact c3 d (by omega) j hj
  · rintro n i s hi ⟨c2, k2⟩
    left
    have hI : (0 : Int) ≤ (i : Int) ∧ (i : Int) < 4 := by omega
    obtain ⟨q1, q2, q3, q4⟩ := s4 ⟨i, hi⟩
    obtain ⟨g, e, r1, r2⟩ := copyRow_W q1 q2 q3 q4 (by omega) (by decide) s
    simp only at e r1 r2
    rw [FX0_become_116_4_69, if_neg (by omega)]
    simp only [if_pos hI]
    rw [Int.toNat_natCast, e]
    simp only [Option.bind_some]
    rw [nx i (by omega)]
    refine ⟨g, rfl, fun d hd j hj => ?_, Kp_t k2 (Kp_m r2 (fun a j h => by omega))⟩
    by_cases q : d = i
    · subst q; rw [r1 j hj, k2 (7 + d) j (by omega)]
    · rw [r2 (119 + d) j (by omega)]; exact c2 d (by omega) j hj
theorem become_133_4 (f : Mm) : Wp (FX0_become_133_4 f) (fun g => BCc 133 4 f g ∧ Kp (fun a _ => 133 ≤ a ∧ a ≤ 149) f g) := by
  have s4 : ∀ d : Fin 4, kd (7 + d.val) = 0 ∧ kd (136 + d.val) = 0 ∧ ln (7 + d.val) = 4 ∧ ln (136 + d.val) = 4 := by decide
  have s6 : ∀ d : Fin 6, kd (12 + d.val) = 0 ∧ kd (141 + d.val) = 0 ∧ ln (12 + d.val) = 5 ∧ ln (141 + d.val) = 5 := by decide
  unfold FX0_become_133_4 FX0_become_133_4_0
  have k0 : Kp (fun a _ => a = 133) f (up (up (up (up (up (up (up f 133 0 (f 4 0)) 133 1 (f 4 1)) 133 2 (f 4 2)) 133 3 (f 4 3)) 133 4 (f 4 4)) 133 5 (f 4 5)) 133 6 (f 4 6)) := Kp_u (Kp_u (Kp_u (Kp_u (Kp_u (Kp_u (Kp_u (Kp_r _ _) (by omega)) (by omega)) (by omega)) (by omega)) (by omega)) (by omega)) (by omega)
  have v0 : ∀ j, j < 7 → up (up (up (up (up (up (up f 133 0 (f 4 0)) 133 1 (f 4 1)) 133 2 (f 4 2)) 133 3 (f 4 3)) 133 4 (f 4 4)) 133 5 (f 4 5)) 133 6 (f 4 6) 133 j = f 4 j := fun j hj => by
    rcases (show j = 0 ∨ j = 1 ∨ j = 2 ∨ j = 3 ∨ j = 4 ∨ j = 5 ∨ j = 6 by omega) with rfl | rfl | rfl | rfl | rfl | rfl | rfl
    · rw [up_n (by omega), up_n (by omega), up_n (by omega), up_n (by omega), up_n (by omega), up_n (by omega), up_s]
    · rw [up_n (by omega), up_n (by omega), up_n (by omega), up_n (by omega), up_n (by omega), up_s]
    · rw [up_n (by omega), up_n (by omega), up_n (by omega), up_n (by omega), up_s]
    · rw [up_n (by omega), up_n (by omega), up_n (by omega), up_s]
    · rw [up_n (by omega), up_n (by omega), up_s]
    · rw [up_n (by omega), up_s]
    · rw [up_s]
  generalize up (up (up (up (up (up (up f 133 0 (f 4 0)) 133 1 (f 4 1)) 133 2 (f 4 2)) 133 3 (f 4 3)) 133 4 (f 4 4)) 133 5 (f 4 5)) 133 6 (f 4 6) = g0 at *
  refine Wp_bind (copyRow_W (a := 5) (b := 134) (L := 2) rfl rfl rfl rfl (by decide) (by decide) g0) (fun g1 ⟨c1, k1⟩ => ?_)
  refine forX (fun n z (s : Mm) => FX0_become_133_4_69 n z s) (fun i s => (∀ d, d < i → ∀ j, j < 4 → s (136 + d) j = g1 (7 + d) j) ∧ Kp (fun a _ => 136 ≤ a ∧ a ≤ 139) g1 s) _ 4 ?_ ?_ fu 0 g1 ⟨fun d hd => by omega, Kp_r _ _⟩ (by omega) (by have := fub; omega)
  · rintro n g2 ⟨c2, k2⟩
    rw [FX0_become_133_4_69, if_pos (by omega)]
    unfold FX0_become_133_4_95
    refine forX (fun n z (s : Mm) => FX0_become_133_4_97 n z s) (fun i s => (∀ d, d < i → ∀ j, j < 5 → s (141 + d) j = g2 (12 + d) j) ∧ Kp (fun a _ => 141 ≤ a ∧ a ≤ 146) g2 s) _ 6 ?_ ?_ fu 0 g2 ⟨fun d hd => by omega, Kp_r _ _⟩ (by omega) (by have := fub; omega)
    · rintro n g3 ⟨c3, k3⟩
      rw [FX0_become_133_4_97, if_pos (by omega)]
      unfold FX0_become_133_4_124
      refine Wp_bind (copyRow_W (a := 18) (b := 147) (L := 6) rfl rfl rfl rfl (by decide) (by decide) g3) (fun g4 ⟨c4, k4⟩ => ?_)
      refine Wp_bind (copyRow_W (a := 19) (b := 148) (L := 40) rfl rfl rfl rfl (by decide) (by decide) g4) (fun g5 ⟨c5, k5⟩ => ?_)
      refine Wp_bind (copyRow_W (a := 20) (b := 149) (L := 40) rfl rfl rfl rfl (by decide) (by decide) g5) (fun g6 ⟨c6, k6⟩ => ?_)
      have b3 : ∀ a j, ¬ (133 ≤ a ∧ a ≤ 146) → g3 a j = f a j := fun a j q => by rw [k3 a j (by omega), k2 a j (by omega), k1 a j (by omega), k0 a j (by omega)]
      have b6 : ∀ a j, ¬ (147 ≤ a ∧ a ≤ 149) → g6 a j = g3 a j := fun a j q => by rw [k6 a j (by omega), k5 a j (by omega), k4 a j (by omega)]
      refine Wp_some ⟨⟨fun j hj => ?_, fun j hj => ?_, fun d hd j hj => ?_, fun c hc j hj => ?_, fun j hj => ?_, fun j hj => ⟨?_, ?_⟩⟩, fun a j q => by rw [b6 a j (by omega), b3 a j (by omega)]⟩
      · rw [b6 133 j (by omega), k3 133 j (by omega), k2 133 j (by omega), k1 133 j (by omega)]; exact v0 j hj
      · show g6 134 j = f 5 j
        rw [b6 134 j (by omega), k3 134 j (by omega), k2 134 j (by omega), c1 j hj, k0 5 j (by omega)]
      · show g6 (136 + d) j = f (7 + d) j
        rw [b6 (136 + d) j (by omega), k3 (136 + d) j (by omega), c2 d hd j hj, k1 (7 + d) j (by omega), k0 (7 + d) j (by omega)]
      · show g6 (141 + c) j = f (12 + c) j
        rw [b6 (141 + c) j (by omega), c3 c hc j hj, k2 (12 + c) j (by omega), k1 (12 + c) j (by omega), k0 (12 + c) j (by omega)]
      · show g6 147 j = f 18 j
        rw [k6 147 j (by omega), k5 147 j (by omega), c4 j hj, b3 18 j (by omega)]
      · show g6 148 j = f 19 j
        rw [k6 148 j (by omega), c5 j hj, k4 19 j (by omega), b3 19 j (by omega)]
      · show g6 149 j = f 20 j
        rw [c6 j hj, k5 20 j (by omega), k4 20 j (by omega), b3 20 j (by omega)]
    · rintro n i s hi ⟨c3, k3⟩
      left
      have hI : (0 : Int) ≤ (i : Int) ∧ (i : Int) < 6 := by omega
      obtain ⟨q1, q2, q3, q4⟩ := s6 ⟨i, hi⟩
      obtain ⟨g, e, r1, r2⟩ := copyRow_W q1 q2 q3 q4 (by omega) (by decide) s
      simp only at e r1 r2
      rw [FX0_become_133_4_97, if_neg (by omega)]
      simp only [if_pos hI]
      rw [Int.toNat_natCast, e]
      simp only [Option.bind_some]
      rw [nx i (by omega)]
      refine ⟨g, rfl, fun d hd j hj => ?_, Kp_t k3 (Kp_m r2 (fun a j h => by omega))⟩
      by_cases q : d = i
      · subst q; rw [r1 j hj, k3 (12 + d) j (by omega)]
      · rw [r2 (141 + d) j (by omega)]; exact c3 d (by omega) j hj
  · rintro n i s hi ⟨c2, k2⟩
    left
    have hI : (0 : Int) ≤ (i : Int) ∧ (i : Int) < 4 := by omega
    obtain ⟨q1, q2, q3, q4⟩ := s4 ⟨i, hi⟩
    obtain ⟨g, e, r1, r2⟩ := copyRow_W q1 q2 q3 q4 (by omega) (by decide) s
    simp only at e r1 r2
    rw [FX0_become_133_4_69, if_neg (by omega)]
    simp only [if_pos hI]
    rw [Int.toNat_natCast, e]
    simp only [Option.bind_some]
    rw [nx i (by omega)]
    refine ⟨g, rfl, fun d hd j hj => ?_, Kp_t k2 (Kp_m r2 (fun a j h => by omega))⟩
    by_cases q : d = i
    · subst q; rw [r1 j hj, k2 (7 + d) j (by omega)]
    · rw [r2 (136 + d) j (by omega)]; exact c2 d (by omega) j hj
theorem become_4_99 (f : Mm) : Wp (FX0_become_4_99 f) (fun g => BCc 4 99 f g ∧ Kp (fun a _ => 4 ≤ a ∧ a ≤ 20) f g) := by
  have s4 : ∀ d : Fin 4, kd (102 + d.val) = 0 ∧ kd (7 + d.val) = 0 ∧ ln (102 + d.val) = 4 ∧ ln (7 + d.val) = 4 := by decide
  have s6 : ∀ d : Fin 6, kd (107 + d.val) = 0 ∧ kd (12 + d.val) = 0 ∧ ln (107 + d.val) = 5 ∧ ln (12 + d.val) = 5 := by decide
  unfold FX0_become_4_99 FX0_become_4_99_0
  have k0 : Kp (fun a _ => a = 4) f (up (up (up (up (up (up (up f 4 0 (f 99 0)) 4 1 (f 99 1)) 4 2 (f 99 2)) 4 3 (f 99 3)) 4 4 (f 99 4)) 4 5 (f 99 5)) 4 6 (f 99 6)) := Kp_u (Kp_u (Kp_u (Kp_u (Kp_u (Kp_u (Kp_u (Kp_r _ _) (by omega)) (by omega)) (by omega)) (by omega)) (by omega)) (by omega)) (by omega)
  have v0 : ∀ j, j < 7 → up (up (up (up (up (up (up f 4 0 (f 99 0)) 4 1 (f 99 1)) 4 2 (f 99 2)) 4 3 (f 99 3)) 4 4 (f 99 4)) 4 5 (f 99 5)) 4 6 (f 99 6) 4 j = f 99 j := fun j hj => by
    rcases (show j = 0 ∨ j = 1 ∨ j = 2 ∨ j = 3 ∨ j = 4 ∨ j = 5 ∨ j = 6 by omega) with rfl | rfl | rfl | rfl | rfl | rfl | rfl
    · rw [up_n (by omega), up_n (by omega), up_n (by omega), up_n (by omega), up_n (by omega), up_n (by omega), up_s]
    · rw [up_n (by omega), up_n (by omega), up_n (by omega), up_n (by omega), up_n (by omega), up_s]
    · rw [up_n (by omega), up_n (by omega), up_n (by omega), up_n (by omega), up_s]
    · rw [up_n (by omega), up_n (by omega), up_n (by omega), up_s]
    · rw [up_n (by omega), up_n (by omega), up_s]
    · rw [up_n (by omega), up_s]
    · rw [up_s]
  generalize up (up (up (up (up (up (up f 4 0 (f 99 0)) 4 1 (f 99 1)) 4 2 (f 99 2)) 4 3 (f 99 3)) 4 4 (f 99 4)) 4 5 (f 99 5)) 4 6 (f 99 6) = g0 at *
  refine Wp_bind (copyRow_W (a := 100) (b := 5) (L := 2) rfl rfl rfl rfl (by decide) (by decide) g0) (fun g1 ⟨c1, k1⟩ => ?_)
  refine forX (fun n z (s : Mm) => FX0_become_4_99_69 n z s) (fun i s => (∀ d, d < i → ∀ j, j < 4 → s (7 + d) j = g1 (102 + d) j) ∧ Kp (fun a _ => 7 ≤ a ∧ a ≤ 10) g1 s) _ 4 ?_ ?_ fu 0 g1 ⟨fun d hd => by omega, Kp_r _ _⟩ (by omega) (by have := fub; omega)
  · rintro n g2 ⟨c2, k2⟩
    rw [FX0_become_4_99_69, if_pos (by omega)]
    unfold FX0_become_4_99_95
    refine forX (fun n z (s : Mm) => FX0_become_4_99_97 n z s) (fun i s => (∀ d, d < i → ∀ j, j < 5 → s (12 + d) j = g2 (107 + d) j) ∧ Kp (fun a _ => 12 ≤ a ∧ a ≤ 17) g2 s) _ 6 ?_ ?_ fu 0 g2 ⟨fun d hd => by omega, Kp_r _ _⟩ (by omega) (by have := fub; omega)
    · rintro n g3 ⟨c3, k3⟩
      rw [FX0_become_4_99_97, if_pos (by omega)]
      unfold FX0_become_4_99_124
      refine Wp_bind (copyRow_W (a := 113) (b := 18) (L := 6) rfl rfl rfl rfl (by decide) (by decide) g3) (fun g4 ⟨c4, k4⟩ => ?_)
      refine Wp_bind (copyRow_W (a := 114) (b := 19) (L := 40) rfl rfl rfl rfl (by decide) (by decide) g4) (fun g5 ⟨c5, k5⟩ => ?_)
      refine Wp_bind (copyRow_W (a := 115) (b := 20) (L := 40) rfl rfl rfl rfl (by decide) (by decide) g5) (fun g6 ⟨c6, k6⟩ => ?_)
      have b3 : ∀ a j, ¬ (4 ≤ a ∧ a ≤ 17) → g3 a j = f a j := fun a j q => by rw [k3 a j (by omega), k2 a j (by omega), k1 a j (by omega), k0 a j (by omega)]
      have b6 : ∀ a j, ¬ (18 ≤ a ∧ a ≤ 20) → g6 a j = g3 a j := fun a j q => by rw [k6 a j (by omega), k5 a j (by omega), k4 a j (by omega)]
      refine Wp_some ⟨⟨fun j hj => ?_, fun j hj => ?_, fun d hd j hj => ?_, fun c hc j hj => ?_, fun j hj => ?_, fun j hj => ⟨?_, ?_⟩⟩, fun a j q => by rw [b6 a j (by omega), b3 a j (by omega)]⟩
      · rw [b6 4 j (by omega), k3 4 j (by omega), k2 4 j (by omega), k1 4 j (by omega)]; exact v0 j hj
      · show g6 5 j = f 100 j
        rw [b6 5 j (by omega), k3 5 j (by omega), k2 5 j (by omega), c1 j hj, k0 100 j (by omega)]
      · show g6 (7 + d) j = f (102 + d) j
        rw [b6 (7 + d) j (by omega), k3 (7 + d) j (by omega), c2 d hd j hj, k1 (102 + d) j (by omega), k0 (102 + d) j (by omega)]
      · show g6 (12 + c) j = f (107 + c) j
        rw [b6 (12 + c) j (by omega), c3 c hc j hj, k2 (107 + c) j (by omega), k1 (107 + c) j (by omega), k0 (107 + c) j (by omega)]
      · show g6 18 j = f 113 j
        rw [k6 18 j (by omega), k5 18 j (by omega), c4 j hj, b3 113 j (by omega)]
      · show g6 19 j = f 114 j
        rw [k6 19 j (by omega), c5 j hj, k4 114 j (by omega), b3 114 j (by omega)]
      · show g6 20 j = f 115 j
        rw [c6 j hj, k5 115 j (by omega), k4 115 j (by omega), b3 115 j (by omega)]
    · rintro n i s hi ⟨c3, k3⟩
      left
      have hI : (0 : Int) ≤ (i : Int) ∧ (i : Int) < 6 := by omega
      obtain ⟨q1, q2, q3, q4⟩ := s6 ⟨i, hi⟩
      obtain ⟨g, e, r1, r2⟩ := copyRow_W q1 q2 q3 q4 (by omega) (by decide) s
      simp only at e r1 r2
      rw [FX0_become_4_99_97, if_neg (by omega)]
      simp only [if_pos hI]
      rw [Int.toNat_natCast, e]
      simp only [Option.bind_some]
      rw [nx i (by omega)]
      refine ⟨g, rfl, fun d hd j hj => ?_, Kp_t k3 (Kp_m r2 (fun a j h => by omega))⟩
      by_cases q : d = i
      · subst q; rw [r1 j hj, k3 (107 + d) j (by omega)]
      · rw [r2 (12 + d) j (by omega)]; exact c3 d (by omega) j hj
  · rintro n i s hi ⟨c2, k2⟩
    left
    have hI : (0 : Int) ≤ (i : Int) ∧ (i : Int) < 4 := by omega
    obtain ⟨q1, q2, q3, q4⟩ := s4 ⟨i, hi⟩
    obtain ⟨g, e, r1, r2⟩ := copyRow_W q1 q2 q3 q4 (by omega) (by decide) s
    simp only at e r1 r2
    rw [FX0_become_4_99_69, if_neg (by omega)]
    simp only [if_pos hI]
    rw [Int.toNat_natCast, e]
    simp only [Option.bind_some]
    rw [nx i (by omega)]
    refine ⟨g, rfl, fun d hd j hj => ?_, Kp_t k2 (Kp_m r2 (fun a j h => by omega))⟩
    by_cases q : d = i
    · subst q; rw [r1 j hj, k2 (102 + d) j (by omega)]
    · rw [r2 (7 + d) j (by omega)]; exact c2 d (by omega) j hj
theorem become_4_116 (f : Mm) : Wp (FX0_become_4_116 f) (fun g => BCc 4 116 f g ∧ Kp (fun a _ => 4 ≤ a ∧ a ≤ 20) f g) := by
  have s4 : ∀ d : Fin 4, kd (119 + d.val) = 0 ∧ kd (7 + d.val) = 0 ∧ ln (119 + d.val) = 4 ∧ ln (7 + d.val) = 4 := by decide
  have s6 : ∀ d : Fin 6, kd (124 + d.val) = 0 ∧ kd (12 + d.val) = 0 ∧ ln (124 + d.val) = 5 ∧ ln (12 + d.val) = 5 := by decide
  unfold FX0_become_4_116 FX0_become_4_116_0
  have k0 : Kp (fun a _ => a = 4) f (up (up (up (up (up (up (up f 4 0 (f 116 0)) 4 1 (f 116 1)) 4 2 (f 116 2)) 4 3 (f 116 3)) 4 4 (f 116 4)) 4 5 (f 116 5)) 4 6 (f 116 6)) := Kp_u (Kp_u (Kp_u (Kp_u (Kp_u (Kp_u (Kp_u (Kp_r _ _) (by omega)) (by omega)) (by omega)) (by omega)) (by omega)) (by omega)) (by omega)
  have v0 : ∀ j, j < 7 → up (up (up (up (up (up (up f 4 0 (f 116 0)) 4 1 (f 116 1)) 4 2 (f 116 2)) 4 3 (f 116 3)) 4 4 (f 116 4)) 4 5 (f 116 5)) 4 6 (f 116 6) 4 j = f 116 j := fun j hj => by
    rcases (show j = 0 ∨ j = 1 ∨ j = 2 ∨ j = 3 ∨ j = 4 ∨ j = 5 ∨ j = 6 by omega) with rfl | rfl | rfl | rfl | rfl | rfl | rfl
    · rw [up_n (by omega), up_n (by omega), up_n (by omega), up_n (by omega), up_n (by omega), up_n (by omega), up_s]
    · rw [up_n (by omega), up_n (by omega), up_n (by omega), up_n (by omega), up_n (by omega), up_s]
    · rw [up_n (by omega), up_n (by omega), up_n (by omega), up_n (by omega), up_s]
    · rw [up_n (by omega), up_n (by omega), up_n (by omega), up_s]
    · rw [up_n (by omega), up_n (by omega), up_s]
    · rw [up_n (by omega), up_s]
    · rw [up_s]
  generalize up (up (up (up (up (up (up f 4 0 (f 116 0)) 4 1 (f 116 1)) 4 2 (f 116 2)) 4 3 (f 116 3)) 4 4 (f 116 4)) 4 5 (f 116 5)) 4 6 (f 116 6) = g0 at *
  refine Wp_bind (copyRow_W (a := 117) (b := 5) (L := 2) rfl rfl rfl rfl (by decide) (by decide) g0) (fun g1 ⟨c1, k1⟩ => ?_)
  refine forX (fun n z (s : Mm) => FX0_become_4_116_69 n z s) (fun i s => (∀ d, d < i → ∀ j, j < 4 → s (7 + d) j = g1 (119 + d) j) ∧ Kp (fun a _ => 7 ≤ a ∧ a ≤ 10) g1 s) _ 4 ?_ ?_ fu 0 g1 ⟨fun d hd => by omega, Kp_r _ _⟩ (by omega) (by have := fub; omega)
  · rintro n g2 ⟨c2, k2⟩
    rw [FX0_become_4_116_69, if_pos (by omega)]
    unfold FX0_become_4_116_95
    refine forX (fun n z (s : Mm) => FX0_become_4_116_97 n z s) (fun i s => (∀ d, d < i → ∀ j, j < 5 → s (12 + d) j = g2 (124 + d) j) ∧ Kp (fun a _ => 12 ≤ a ∧ a ≤ 17) g2 s) _ 6 ?_ ?_ fu 0 g2 ⟨fun d hd => by omega, Kp_r _ _⟩ (by omega) (by have := fub; omega)
    · rintro n g3 ⟨c3, k3⟩
      rw [FX0_become_4_116_97, if_pos (by omega)]
      unfold FX0_become_4_116_124
      refine Wp_bind (copyRow_W (a := 130) (b := 18) (L := 6) rfl rfl rfl rfl (by decide) (by decide) g3) (fun g4 ⟨c4, k4⟩ => ?_)
      refine Wp_bind (copyRow_W (a := 131) (b := 19) (L := 40) rfl rfl rfl rfl (by decide) (by decide) g4) (fun g5 ⟨c5, k5⟩ => ?_)
      refine Wp_bind (copyRow_W (a := 132) (b := 20) (L := 40) rfl rfl rfl rfl (by decide) (by decide) g5) (fun g6 ⟨c6, k6⟩ => ?_)
      have b3 : ∀ a j, ¬ (4 ≤ a ∧ a ≤ 17) → g3 a j = f a j := fun a j q => by rw [k3 a j (by omega), k2 a j (by omega), k1 a j (by omega), k0 a j (by omega)]
      have b6 : ∀ a j, ¬ (18 ≤ a ∧ a ≤ 20) → g6 a j = g3 a j := fun a j q => by rw [k6 a j (by omega), k5 a j (by omega), k4 a j (by omega)]
      refine Wp_some ⟨⟨fun j hj => ?_, fun j hj => ?_, fun d hd j hj => ?_, fun c hc j hj => ?_, fun j hj => ?_, fun j hj => ⟨?_, ?_⟩⟩, fun a j q => by rw [b6 a j (by omega), b3 a j (by omega)]⟩
      · rw [b6 4 j (by omega), k3 4 j (by omega), k2 4 j (by omega), k1 4 j (by omega)]; exact v0 j hj
      · show g6 5 j = f 117 j
        rw [b6 5 j (by omega), k3 5 j (by omega), k2 5 j (by omega), c1 j hj, k0 117 j (by omega)]
      · show g6 (7 + d) j = f (119 + d) j
        rw [b6 (7 + d) j (by omega), k3 (7 + d) j (by omega), c2 d hd j hj, k1 (119 + d) j (by omega), k0 (119 + d) j (by omega)]
      · show g6 (12 + c) j = f (124 + c) j
        rw [b6 (12 + c) j (by omega), c3 c hc j hj, k2 (124 + c) j (by omega), k1 (124 + c) j (by omega), k0 (124 + c) j (by omega)]
      · show g6 18 j = f 130 j
        rw [k6 18 j (by omega), k5 18 j (by omega), c4 j hj, b3 130 j (by omega)]
      · show g6 19 j = f 131 j
        rw [k6 19 j (by omega), c5 j hj, k4 131 j (by omega), b3 131 j (by omega)]
      · show g6 20 j = f 132 j
        rw [c6 j hj, k5 132 j (by omega), k4 132 j (by omega), b3 132 j (by omega)]
    · rintro n i s hi ⟨c3, k3⟩
      left
      have hI : (0 : Int) ≤ (i : Int) ∧ (i : Int) < 6 := by omega
      obtain ⟨q1, q2, q3, q4⟩ := s6 ⟨i, hi⟩
      obtain ⟨g, e, r1, r2⟩ := copyRow_W q1 q2 q3 q4 (by omega) (by decide) s
      simp only at e r1 r2
      rw [FX0_become_4_116_97, if_neg (by omega)]
      simp only [if_pos hI]
      rw [Int.toNat_natCast, e]
      simp only [Option.bind_some]
      rw [nx i (by omega)]
      refine ⟨g, rfl, fun d hd j hj => ?_, Kp_t k3 (Kp_m r2 (fun a j h => by omega))⟩
      by_cases q : d = i
      · subst q; rw [r1 j hj, k3 (124 + d) j (by omega)]
      · rw [r2 (12 + d) j (by omega)]; exact c3 d (by omega) j hj
  · rintro n i s hi ⟨c2, k2⟩
    left
    have hI : (0 : Int) ≤ (i : Int) ∧ (i : Int) < 4 := by omega
    obtain ⟨q1, q2, q3, q4⟩ := s4 ⟨i, hi⟩
    obtain ⟨g, e, r1, r2⟩ := copyRow_W q1 q2 q3 q4 (by omega) (by decide) s
    simp only at e r1 r2
    rw [FX0_become_4_116_69, if_neg (by omega)]
    simp only [if_pos hI]
    rw [Int.toNat_natCast, e]
    simp only [Option.bind_some]
    rw [nx i (by omega)]
    refine ⟨g, rfl, fun d hd j hj => ?_, Kp_t k2 (Kp_m r2 (fun a j h => by omega))⟩
    by_cases q : d = i
    · subst q; rw [r1 j hj, k2 (119 + d) j (by omega)]
    · rw [r2 (7 + d) j (by omega)]; exact c2 d (by omega) j hj
theorem become_4_133 (f : Mm) : Wp (FX0_become_4_133 f) (fun g => BCc 4 133 f g ∧ Kp (fun a _ => 4 ≤ a ∧ a ≤ 20) f g) := by
  have s4 : ∀ d : Fin 4, kd (136 + d.val) = 0 ∧ kd (7 + d.val) = 0 ∧ ln (136 + d.val) = 4 ∧ ln (7 + d.val) = 4 := by decide
  have s6 : ∀ d : Fin 6, kd (141 + d.val) = 0 ∧ kd (12 + d.val) = 0 ∧ ln (141 + d.val) = 5 ∧ ln (12 + d.val) = 5 := by decide
  unfold FX0_become_4_133 FX0_become_4_133_0
  have k0 : Kp (fun a _ => a = 4) f (up (up (up (up (up (up (up f 4 0 (f 133 0)) 4 1 (f 133 1)) 4 2 (f 133 2)) 4 3 (f 133 3)) 4 4 (f 133 4)) 4 5 (f 133 5)) 4 6 (f 133 6)) := Kp_u (Kp_u (Kp_u (Kp_u (Kp_u (Kp_u (Kp_u (Kp_r _ _) (by omega)) (by omega)) (by omega)) (by omega)) (by omega)) (by omega)) (by omega)
  have v0 : ∀ j, j < 7 → up (up (up (up (up (up (up f 4 0 (f 133 0)) 4 1 (f 133 1)) 4 2 (f 133 2)) 4 3 (f 133 3)) 4 4 (f 133 4)) 4 5 (f 133 5)) 4 6 (f 133 6) 4 j = f 133 j := fun j hj => by
    rcases (show j = 0 ∨ j = 1 ∨ j = 2 ∨ j = 3 ∨ j = 4 ∨ j = 5 ∨ j = 6 by omega) with rfl | rfl | rfl | rfl | rfl | rfl | rfl
    · rw [up_n (by omega), up_n (by omega), up_n (by omega), up_n (by omega), up_n (by omega), up_n (by omega), up_s]
    · rw [up_n (by omega), up_n (by omega), up_n (by omega), up_n (by omega), up_n (by omega), up_s]
    · rw [up_n (by omega), up_n (by omega), up_n (by omega), up_n (by omega), up_s]
    · rw [up_n (by omega), up_n (by omega), up_n (by omega), up_s]
    · rw [up_n (by omega), up_n (by omega), up_s]
    · rw [up_n (by omega), up_s]
    · rw [up_s]
  generalize up (up (up (up (up (up (up f 4 0 (f 133 0)) 4 1 (f 133 1)) 4 2 (f 133 2)) 4 3 (f 133 3)) 4 4 (f 133 4)) 4 5 (f 133 5)) 4 6 (f 133 6) = g0 at *
  refine Wp_bind (copyRow_W (a := 134) (b := 5) (L := 2) rfl rfl rfl rfl (by decide) (by decide) g0) (fun g1 ⟨c1, k1⟩ => ?_)
  refine forX (fun n z (s : Mm) => FX0_become_4_133_69 n z s) (fun i s => (∀ d, d < i → ∀ j, j < 4 → s (7 + d) j = g1 (136 + d) j) ∧ Kp (fun a _ => 7 ≤ a ∧ a ≤ 10) g1 s) _ 4 ?_ ?_ fu 0 g1 ⟨fun d hd => by omega, Kp_r _ _⟩ (by omega) (by have := fub; omega)
  · rintro n g2 ⟨c2, k2⟩
    rw [FX0_become_4_133_69, if_pos (by omega)]
    unfold FX0_become_4_133_95
    refine forX (fun n z (s : Mm) => FX0_become_4_133_97 n z s) (fun i s => (∀ d, d < i → ∀ j, j < 5 → s (12 + d) j = g2 (141 + d) j) ∧ Kp (fun a _ => 12 ≤ a ∧ a ≤ 17) g2 s) _ 6 ?_ ?_ fu 0 g2 ⟨fun d hd => by omega, Kp_r _ _⟩ (by omega) (by have := fub; omega)
    · rintro n g3 ⟨c3, k3⟩
      rw [FX0_become_4_133_97, if_pos (by omega)]
      unfold FX0_become_4_133_124
      refine Wp_bind (copyRow_W (a := 147) (b := 18) (L := 6) rfl rfl rfl rfl (by decide) (by decide) g3) (fun g4 ⟨c4, k4⟩ => ?_)
      refine Wp_bind (copyRow_W (a := 148) (b := 19) (L := 40) rfl rfl rfl rfl (by decide) (by decide) g4) (fun g5 ⟨c5, k5⟩ => ?_)
      refine Wp_bind (copyRow_W (a := 149) (b := 20) (L := 40) rfl rfl rfl rfl (by decide) (by decide) g5) (fun g6 ⟨c6, k6⟩ => ?_)
      have b3 : ∀ a j, ¬ (4 ≤ a ∧ a ≤ 17) → g3 a j = f a j := fun a j q => by rw [k3 a j (by omega), k2 a j (by omega), k1 a j (by omega), k0 a j (by omega)]
      have b6 : ∀ a j, ¬ (18 ≤ a ∧ a ≤ 20) → g6 a j = g3 a j := fun a j q => by rw [k6 a j (by omega), k5 a j (by omega), k4 a j (by omega)]
      refine Wp_some ⟨⟨fun j hj => ?_, fun j hj => ?_, fun d hd j hj => ?_, fun c hc j hj => ?_, fun j hj => ?_, fun j hj => ⟨?_, ?_⟩⟩, fun a j q => by rw [b6 a j (by omega), b3 a j (by omega)]⟩
      · rw [b6 4 j (by omega), k3 4 j (by omega), k2 4 j (by omega), k1 4 j (by omega)]; exact v0 j hj
      · show g6 5 j = f 134 j
        rw [b6 5 j (by omega), k3 5 j (by omega), k2 5 j (by omega), c1 j hj, k0 134 j (by omega)]
      · show g6 (7 + d) j = f (136 + d) j
        rw [b6 (7 + d) j (by omega), k3 (7 + d) j (by omega), c2 d hd j hj, k1 (136 + d) j (by omega), k0 (136 + d) j (by omega)]
      · show g6 (12 + c) j = f (141 + c) j
        rw [b6 (12 + c) j (by omega), c3 c hc j hj, k2 (141 + c) j (by omega), k1 (141 + c) j (by omega), k0 (141 + c) j (by omega)]
      · show g6 18 j = f 147 j
        rw [k6 18 j (by omega), k5 18 j (by omega), c4 j hj, b3 147 j (by omega)]
      · show g6 19 j = f 148 j
        rw [k6 19 j (by omega), c5 j hj, k4 148 j (by omega), b3 148 j (by omega)]
      · show g6 20 j = f 149 j
        rw [c6 j hj, k5 149 j (by omega), k4 149 j (by omega), b3 149 j (by omega)]
    · rintro n i s hi ⟨c3, k3⟩
      left
      have hI : (0 : Int) ≤ (i : Int) ∧ (i : Int) < 6 := by omega
      obtain ⟨q1, q2, q3, q4⟩ := s6 ⟨i, hi⟩
      obtain ⟨g, e, r1, r2⟩ := copyRow_W q1 q2 q3 q4 (by omega) (by decide) s
      simp only at e r1 r2
      rw [FX0_become_4_133_97, if_neg (by omega)]
      simp only [if_pos hI]
      rw [Int.toNat_natCast, e]
      simp only [Option.bind_some]
      rw [nx i (by omega)]
      refine ⟨g, rfl, fun d hd j hj => ?_, Kp_t k3 (Kp_m r2 (fun a j h => by omega))⟩
      by_cases q : d = i
      · subst q; rw [r1 j hj, k3 (141 + d) j (by omega)]
      · rw [r2 (12 + d) j (by omega)]; exact c3 d (by omega) j hj
  · rintro n i s hi ⟨c2, k2⟩
    left
    have hI : (0 : Int) ≤ (i : Int) ∧ (i : Int) < 4 := by omega
    obtain ⟨q1, q2, q3, q4⟩ := s4 ⟨i, hi⟩
    obtain ⟨g, e, r1, r2⟩ := copyRow_W q1 q2 q3 q4 (by omega) (by decide) s
    simp only at e r1 r2
    rw [FX0_become_4_133_69, if_neg (by omega)]
    simp only [if_pos hI]
    rw [Int.toNat_natCast, e]
    simp only [Option.bind_some]
    rw [nx i (by omega)]
    refine ⟨g, rfl, fun d hd j hj => ?_, Kp_t k2 (Kp_m r2 (fun a j h => by omega))⟩
    by_cases q : d = i
    · subst q; rw [r1 j hj, k2 (136 + d) j (by omega)]
    · rw [r2 (7 + d) j (by omega)]; exact c2 d (by omega) j hj
theorem mcopy_156 {m a b : Nat} (hm : m ≤ 80) (ha : a ≤ 4) (hb : b ≤ 4) (hab : a ≠ b) (hla : m * a + m ≤ 5) (hlb : m * b + m ≤ 5) (f : Mm) : Wp (FX11_copyRow_156 (m : Int) (a : Int) (b : Int) f) (fun g => (∀ k, k < m → g 156 (m * b + k) = f 156 (m * a + k)) ∧ Kp (fun x j => x = 156 ∧ m * b ≤ j ∧ j < m * b + m) f g) := by
  have dj : ∀ k l, k < m → l < m → m * b + k ≠ m * a + l := fun k l hk hl e => by
    rcases Nat.lt_or_gt_of_ne hab with h | h
    · have := Nat.mul_le_mul_left m (show a + 1 ≤ b from h)
      rw [Nat.mul_add, Nat.mul_one] at this
      omega
    · have := Nat.mul_le_mul_left m (show b + 1 ≤ a from h)
      rw [Nat.mul_add, Nat.mul_one] at this
      omega
  have ea : (m : Int) * (a : Int) = ((m * a : Nat) : Int) := (Int.natCast_mul m a).symm
  have eb : (m : Int) * (b : Int) = ((m * b : Nat) : Int) := (Int.natCast_mul m b).symm
  unfold FX11_copyRow_156 FX11_copyRow_156_0
  generalize m * a = A at *
  generalize m * b = C at *
  refine forX (fun n x (s : Mm) => FX11_copyRow_156_3 n (m : Int) (a : Int) (b : Int) x s) (fun i s => (∀ k, k < i → s 156 (C + k) = f 156 (A + k)) ∧ Kp (fun x j => x = 156 ∧ C ≤ j ∧ j < C + m) f s) _ m ?_ ?_ fu 0 f ⟨fun j hj => by omega, Kp_r _ _⟩ (by omega) (by have := fub; omega)
  · rintro n s ⟨h1, h2⟩
    rw [FX11_copyRow_156_3, if_pos (by omega)]
    exact Wp_some ⟨h1, h2⟩
  · rintro n i s hi ⟨h1, h2⟩
    left
    rw [FX11_copyRow_156_3, if_neg (by omega), ea, eb, w32s (x := (A : Int)) (by omega) (by omega), w32s (x := (C : Int)) (by omega) (by omega), w32n (x := (A : Int) + (i : Int)) (n := A + i) (by omega) (by omega), w32n (x := (C : Int) + (i : Int)) (n := C + i) (by omega) (by omega), if_pos (by omega), if_pos (by omega), nx i (by omega), Int.toNat_natCast, Int.toNat_natCast]
    refine ⟨_, rfl, fun j hj => ?_, Kp_u h2 (by omega)⟩
    by_cases q : j = i
    · subst q
      rw [up_s]
      have hz : s 156 (A + j) = f 156 (A + j) := h2 156 (A + j) (fun z => by
        have := dj (A + j - C) j (by omega) hi
        omega)
      exact hz
    · rw [up_n (by omega)]; exact h1 j (by omega)
theorem mcopy_157 {m a b : Nat} (hm : m ≤ 80) (ha : a ≤ 4) (hb : b ≤ 4) (hab : a ≠ b) (hla : m * a + m ≤ 40) (hlb : m * b + m ≤ 40) (f : Mm) : Wp (FX11_copyRow_157 (m : Int) (a : Int) (b : Int) f) (fun g => (∀ k, k < m → g 157 (m * b + k) = f 157 (m * a + k)) ∧ Kp (fun x j => x = 157 ∧ m * b ≤ j ∧ j < m * b + m) f g) := by
  have dj : ∀ k l, k < m → l < m → m * b + k ≠ m * a + l := fun k l hk hl e => by
    rcases Nat.lt_or_gt_of_ne hab with h | h
    · have := Nat.mul_le_mul_left m (show a + 1 ≤ b from h)
      rw [Nat.mul_add, Nat.mul_one] at this
      omega
    · have := Nat.mul_le_mul_left m (show b + 1 ≤ a from h)
      rw [Nat.mul_add, Nat.mul_one] at this
      omega
  have ea : (m : Int) * (a : Int) = ((m * a : Nat) : Int) := (Int.natCast_mul m a).symm
  have eb : (m : Int) * (b : Int) = ((m * b : Nat) : Int) := (Int.natCast_mul m b).symm
  unfold FX11_copyRow_157 FX11_copyRow_157_0
  generalize m * a = A at *
  generalize m * b = C at *
  refine forX (fun n x (s : Mm) => FX11_copyRow_157_3 n (m : Int) (a : Int) (b : Int) x s) (fun i s => (∀ k, k < i → s 157 (C + k) = f 157 (A + k)) ∧ Kp (fun x j => x = 157 ∧ C ≤ j ∧ j < C + m) f s) _ m ?_ ?_ fu 0 f ⟨fun j hj => by omega, Kp_r _ _⟩ (by omega) (by have := fub; omega)
  · rintro n s ⟨h1, h2⟩
    rw [FX11_copyRow_157_3, if_pos (by omega)]
    exact Wp_some ⟨h1, h2⟩
  · rintro n i s hi ⟨h1, h2⟩
    left
    rw [FX11_copyRow_157_3, if_neg (by omega), ea, eb, w32s (x := (A : Int)) (by omega) (by omega), w32s (x := (C : Int)) (by omega) (by omega), w32n (x := (A : Int) + (i : Int)) (n := A + i) (by omega) (by omega), w32n (x := (C : Int) + (i : Int)) (n := C + i) (by omega) (by omega), if_pos (by omega), if_pos (by omega), nx i (by omega), Int.toNat_natCast, Int.toNat_natCast]
    refine ⟨_, rfl, fun j hj => ?_, Kp_u h2 (by omega)⟩
    by_cases q : j = i
    · subst q
      rw [up_s]
      have hz : s 157 (A + j) = f 157 (A + j) := h2 157 (A + j) (fun z => by
        have := dj (A + j - C) j (by omega) hi
        omega)
      exact hz
    · rw [up_n (by omega)]; exact h1 j (by omega)
theorem mcopy_158 {m a b : Nat} (hm : m ≤ 80) (ha : a ≤ 4) (hb : b ≤ 4) (hab : a ≠ b) (hla : m * a + m ≤ 80) (hlb : m * b + m ≤ 80) (f : Mm) : Wp (FX11_copyRow_158 (m : Int) (a : Int) (b : Int) f) (fun g => (∀ k, k < m → g 158 (m * b + k) = f 158 (m * a + k)) ∧ Kp (fun x j => x = 158 ∧ m * b ≤ j ∧ j < m * b + m) f g) := by
  have dj : ∀ k l, k < m → l < m → m * b + k ≠ m * a + l := fun k l hk hl e => by
    rcases Nat.lt_or_gt_of_ne hab with h | h
    · have := Nat.mul_le_mul_left m (show a + 1 ≤ b from h)
      rw [Nat.mul_add, Nat.mul_one] at this
      omega
    · have := Nat.mul_le_mul_left m (show b + 1 ≤ a from h)
      rw [Nat.mul_add, Nat.mul_one] at this
      omega
  have ea : (m : Int) * (a : Int) = ((m * a : Nat) : Int) := (Int.natCast_mul m a).symm
  have eb : (m : Int) * (b : Int) = ((m * b : Nat) : Int) := (Int.natCast_mul m b).symm
  unfold FX11_copyRow_158 FX11_copyRow_158_0
  generalize m * a = A at *
  generalize m * b = C at *
  refine forX (fun n x (s : Mm) => FX11_copyRow_158_3 n (m : Int) (a : Int) (b : Int) x s) (fun i s => (∀ k, k < i → s 158 (C + k) = f 158 (A + k)) ∧ Kp (fun x j => x = 158 ∧ C ≤ j ∧ j < C + m) f s) _ m ?_ ?_ fu 0 f ⟨fun j hj => by omega, Kp_r _ _⟩ (by omega) (by have := fub; omega)
  · rintro n s ⟨h1, h2⟩
    rw [FX11_copyRow_158_3, if_pos (by omega)]
    exact Wp_some ⟨h1, h2⟩
  · rintro n i s hi ⟨h1, h2⟩
    left
    rw [FX11_copyRow_158_3, if_neg (by omega), ea, eb, w32s (x := (A : Int)) (by omega) (by omega), w32s (x := (C : Int)) (by omega) (by omega), w32n (x := (A : Int) + (i : Int)) (n := A + i) (by omega) (by omega), w32n (x := (C : Int) + (i : Int)) (n := C + i) (by omega) (by omega), if_pos (by omega), if_pos (by omega), nx i (by omega), Int.toNat_natCast, Int.toNat_natCast]
    refine ⟨_, rfl, fun j hj => ?_, Kp_u h2 (by omega)⟩
    by_cases q : j = i
    · subst q
      rw [up_s]
      have hz : s 158 (A + j) = f 158 (A + j) := h2 158 (A + j) (fun z => by
        have := dj (A + j - C) j (by omega) hi
        omega)
      exact hz
    · rw [up_n (by omega)]; exact h1 j (by omega)
theorem mcopy_159 {m a b : Nat} (hm : m ≤ 80) (ha : a ≤ 4) (hb : b ≤ 4) (hab : a ≠ b) (hla : m * a + m ≤ 150) (hlb : m * b + m ≤ 150) (f : Mm) : Wp (FX11_copyRow_159 (m : Int) (a : Int) (b : Int) f) (fun g => (∀ k, k < m → g 159 (m * b + k) = f 159 (m * a + k)) ∧ Kp (fun x j => x = 159 ∧ m * b ≤ j ∧ j < m * b + m) f g) := by
  have dj : ∀ k l, k < m → l < m → m * b + k ≠ m * a + l := fun k l hk hl e => by
    rcases Nat.lt_or_gt_of_ne hab with h | h
    · have := Nat.mul_le_mul_left m (show a + 1 ≤ b from h)
      rw [Nat.mul_add, Nat.mul_one] at this
      omega
    · have := Nat.mul_le_mul_left m (show b + 1 ≤ a from h)
      rw [Nat.mul_add, Nat.mul_one] at this
      omega
  have ea : (m : Int) * (a : Int) = ((m * a : Nat) : Int) := (Int.natCast_mul m a).symm
  have eb : (m : Int) * (b : Int) = ((m * b : Nat) : Int) := (Int.natCast_mul m b).symm
  unfold FX11_copyRow_159 FX11_copyRow_159_0
  generalize m * a = A at *
  generalize m * b = C at *
  refine forX (fun n x (s : Mm) => FX11_copyRow_159_3 n (m : Int) (a : Int) (b : Int) x s) (fun i s => (∀ k, k < i → s 159 (C + k) = f 159 (A + k)) ∧ Kp (fun x j => x = 159 ∧ C ≤ j ∧ j < C + m) f s) _ m ?_ ?_ fu 0 f ⟨fun j hj => by omega, Kp_r _ _⟩ (by omega) (by have := fub; omega)
  · rintro n s ⟨h1, h2⟩
    rw [FX11_copyRow_159_3, if_pos (by omega)]
    exact Wp_some ⟨h1, h2⟩
  · rintro n i s hi ⟨h1, h2⟩
    left
    rw [FX11_copyRow_159_3, if_neg (by omega), ea, eb, w32s (x := (A : Int)) (by omega) (by omega), w32s (x := (C : Int)) (by omega) (by omega), w32n (x := (A : Int) + (i : Int)) (n := A + i) (by omega) (by omega), w32n (x := (C : Int) + (i : Int)) (n := C + i) (by omega) (by omega), if_pos (by omega), if_pos (by omega), nx i (by omega), Int.toNat_natCast, Int.toNat_natCast]
    refine ⟨_, rfl, fun j hj => ?_, Kp_u h2 (by omega)⟩
    by_cases q : j = i
    · subst q
      rw [up_s]
      have hz : s 159 (A + j) = f 159 (A + j) := h2 159 (A + j) (fun z => by
        have := dj (A + j - C) j (by omega) hi
        omega)
      exact hz
    · rw [up_n (by omega)]; exact h1 j (by omega)
theorem mcopy_160 {m a b : Nat} (hm : m ≤ 80) (ha : a ≤ 4) (hb : b ≤ 4) (hab : a ≠ b) (hla : m * a + m ≤ 400) (hlb : m * b + m ≤ 400) (f : Mm) : Wp (FX11_copyRow_160 (m : Int) (a : Int) (b : Int) f) (fun g => (∀ k, k < m → g 160 (m * b + k) = f 160 (m * a + k)) ∧ Kp (fun x j => x = 160 ∧ m * b ≤ j ∧ j < m * b + m) f g) := by
  have dj : ∀ k l, k < m → l < m → m * b + k ≠ m * a + l := fun k l hk hl e => by
    rcases Nat.lt_or_gt_of_ne hab with h | h
    · have := Nat.mul_le_mul_left m (show a + 1 ≤ b from h)
      rw [Nat.mul_add, Nat.mul_one] at this
      omega
    · have := Nat.mul_le_mul_left m (show b + 1 ≤ a from h)
      rw [Nat.mul_add, Nat.mul_one] at this
      omega
  have ea : (m : Int) * (a : Int) = ((m * a : Nat) : Int) := (Int.natCast_mul m a).symm
  have eb : (m : Int) * (b : Int) = ((m * b : Nat) : Int) := (Int.natCast_mul m b).symm
  unfold FX11_copyRow_160 FX11_copyRow_160_0
  generalize m * a = A at *
  generalize m * b = C at *
  refine forX (fun n x (s : Mm) => FX11_copyRow_160_3 n (m : Int) (a : Int) (b : Int) x s) (fun i s => (∀ k, k < i → s 160 (C + k) = f 160 (A + k)) ∧ Kp (fun x j => x = 160 ∧ C ≤ j ∧ j < C + m) f s) _ m ?_ ?_ fu 0 f ⟨fun j hj => by omega, Kp_r _ _⟩ (by omega) (by have := fub; omega)
  · rintro n s ⟨h1, h2⟩
    rw [FX11_copyRow_160_3, if_pos (by omega)]
    exact Wp_some ⟨h1, h2⟩
  · rintro n i s hi ⟨h1, h2⟩
    left
    rw [FX11_copyRow_160_3, if_neg (by omega), ea, eb, w32s (x := (A : Int)) (by omega) (by omega), w32s (x := (C : Int)) (by omega) (by omega), w32n (x := (A : Int) + (i : Int)) (n := A + i) (by omega) (by omega), w32n (x := (C : Int) + (i : Int)) (n := C + i) (by omega) (by omega), if_pos (by omega), if_pos (by omega), nx i (by omega), Int.toNat_natCast, Int.toNat_natCast]
    refine ⟨_, rfl, fun j hj => ?_, Kp_u h2 (by omega)⟩
    by_cases q : j = i
    · subst q
      rw [up_s]
      have hz : s 160 (A + j) = f 160 (A + j) := h2 160 (A + j) (fun z => by
        have := dj (A + j - C) j (by omega) hi
        omega)
      exact hz
    · rw [up_n (by omega)]; exact h1 j (by omega)
/-- a bridge in the model's rows -/
def MRv (r : Nat) (B f : Mm) : Prop :=
  (f 156 r = B 0 8 ∧ f 157 (8 * r) = B 0 0 ∧ f 157 (8 * r + 1) = B 0 1 ∧ f 157 (8 * r + 2) = B 0 2 ∧ f 157 (8 * r + 3) = B 0 3 ∧ f 157 (8 * r + 4) = B 0 4 ∧ f 157 (8 * r + 5) = B 0 5 ∧ f 157 (8 * r + 6) = B 0 6 ∧ f 157 (8 * r + 7) = B 0 7) ∧
  (∀ d, d < nK B → ∀ j, j < 4 → f 158 (16 * r + 4 * d + j) = B (10 + d) j) ∧
  (∀ c, c < nC B → ∀ j, j < 5 → f 159 (30 * r + 5 * c + j) = B (20 + c) j) ∧
  (∀ k, k < nA B → f 160 (80 * r + 2 * k) = B 1 k ∧ f 160 (80 * r + 2 * k + 1) = B 2 k)
theorem MR_O {B f : Mm} : MRv 0 B f ↔ MO B f := by
  constructor
  · rintro ⟨h1, h2, h3, h4⟩
    refine ⟨h1, fun d hd j hj => ?_, fun c hc j hj => ?_, fun k hk => ?_⟩
    · have := h2 d hd j hj; rw [show 16 * 0 + 4 * d + j = 4 * d + j by omega] at this; exact this
    · have := h3 c hc j hj; rw [show 30 * 0 + 5 * c + j = 5 * c + j by omega] at this; exact this
    · have := h4 k hk; rw [show 80 * 0 + 2 * k = 2 * k by omega] at this; exact this
  · rintro ⟨h1, h2, h3, h4⟩
    refine ⟨h1, fun d hd j hj => ?_, fun c hc j hj => ?_, fun k hk => ?_⟩
    · rw [show 16 * 0 + 4 * d + j = 4 * d + j by omega]; exact h2 d hd j hj
    · rw [show 30 * 0 + 5 * c + j = 5 * c + j by omega]; exact h3 c hc j hj
    · rw [show 80 * 0 + 2 * k = 2 * k by omega]; exact h4 k hk
theorem MR_D {D f : Mm} (h : MD D f) (h7 : D 0 7 = 0) : MRv 4 D f := by
  obtain ⟨⟨d1, d2, d3, d4, d5, d6, d7, d8, d9⟩, d10, d11⟩ := h
  refine ⟨⟨d1, d2, d3, d4, d5, d6, d7, d8, by rw [h7]; exact d9⟩, d10, d11, fun k hk => ?_⟩
  unfold nA at hk
  rw [h7] at hk
  exact absurd hk (Nat.not_lt_zero k)
theorem MR_k {r : Nat} {B f g : Mm} (h : MRv r B f) (hk : ∀ a j, 156 ≤ a → a ≤ 160 → g a j = f a j) : MRv r B g := by
  obtain ⟨⟨a1, a2, a3, a4, a5, a6, a7, a8, a9⟩, h2, h3, h4⟩ := h
  have k6 : ∀ j, g 156 j = f 156 j := fun j => hk 156 j (by decide) (by decide)
  have k7 : ∀ j, g 157 j = f 157 j := fun j => hk 157 j (by decide) (by decide)
  exact ⟨⟨by rw [k6]; exact a1, by rw [k7]; exact a2, by rw [k7]; exact a3, by rw [k7]; exact a4, by rw [k7]; exact a5, by rw [k7]; exact a6, by rw [k7]; exact a7, by rw [k7]; exact a8, by rw [k7]; exact a9⟩, fun d hd j hj => by rw [hk 158 _ (by decide) (by decide)]; exact h2 d hd j hj, fun c hc j hj => by rw [hk 159 _ (by decide) (by decide)]; exact h3 c hc j hj, fun k hq => by rw [hk 160 _ (by decide) (by decide), hk 160 _ (by decide) (by decide)]; exact h4 k hq⟩
/-- what lies in one row of the model's bridges -/
def Rw (r a j : Nat) : Prop := (a = 156 ∧ j = r) ∨ (a = 157 ∧ 8 * r ≤ j ∧ j < 8 * r + 8) ∨ (a = 158 ∧ 16 * r ≤ j ∧ j < 16 * r + 16) ∨ (a = 159 ∧ 30 * r ≤ j ∧ j < 30 * r + 30) ∨ (a = 160 ∧ 80 * r ≤ j ∧ j < 80 * r + 80)
theorem MR_o {r q : Nat} {B f g : Mm} (hW : WF B) (h : MRv r B f) (hk : Kp (Rw q) f g) (hq : q ≠ r) : MRv r B g := by
  obtain ⟨⟨a1, a2, a3, a4, a5, a6, a7, a8, a9⟩, h2, h3, h4⟩ := h
  have hK := (WF_K hW).1
  have hC := (WF_C hW).1
  have hA := (WF_A hW).1
  have kk : ∀ a j, ¬ Rw q a j → g a j = f a j := hk
  refine ⟨⟨by rw [kk 156 r (by unfold Rw; omega)]; exact a1, by rw [kk 157 _ (by unfold Rw; omega)]; exact a2, by rw [kk 157 _ (by unfold Rw; omega)]; exact a3, by rw [kk 157 _ (by unfold Rw; omega)]; exact a4, by rw [kk 157 _ (by unfold Rw; omega)]; exact a5, by rw [kk 157 _ (by unfold Rw; omega)]; exact a6, by rw [kk 157 _ (by unfold Rw; omega)]; exact a7, by rw [kk 157 _ (by unfold Rw; omega)]; exact a8, by rw [kk 157 _ (by unfold Rw; omega)]; exact a9⟩, fun d hd j hj => by rw [kk 158 _ (by unfold Rw; omega)]; exact h2 d hd j hj, fun c hc j hj => by rw [kk 159 _ (by unfold Rw; omega)]; exact h3 c hc j hj, fun k hq2 => by rw [kk 160 _ (by unfold Rw; omega), kk 160 _ (by unfold Rw; omega)]; exact h4 k hq2⟩
theorem copyBridge_W {a b : Nat} (ha : a ≤ 4) (hb : b ≤ 4) (hab : a ≠ b) (f : Mm) : Wp (FX11_copyBridge (a : Int) (b : Int) f) (fun g => Kp (Rw b) f g ∧ ∀ B, WF B → MRv a B f → MRv b B g) := by
  unfold FX11_copyBridge FX11_copyBridge_0
  refine Wp_bind (mcopy_156 (m := 1) (by decide) ha hb hab (by omega) (by omega) f) (fun g1 ⟨c1, k1⟩ => ?_)
  refine Wp_bind (mcopy_157 (m := 8) (by decide) ha hb hab (by omega) (by omega) g1) (fun g2 ⟨c2, k2⟩ => ?_)
  refine Wp_bind (mcopy_158 (m := 16) (by decide) ha hb hab (by omega) (by omega) g2) (fun g3 ⟨c3, k3⟩ => ?_)
  refine Wp_bind (mcopy_159 (m := 30) (by decide) ha hb hab (by omega) (by omega) g3) (fun g4 ⟨c4, k4⟩ => ?_)
  refine Wp_bind (mcopy_160 (m := 80) (by decide) ha hb hab (by omega) (by omega) g4) (fun g5 ⟨c5, k5⟩ => ?_)
  refine Wp_some ⟨fun x j q => ?_, fun B hW h => ?_⟩
  · unfold Rw at q
    rw [k5 x j (by omega), k4 x j (by omega), k3 x j (by omega), k2 x j (by omega), k1 x j (by omega)]
  · obtain ⟨⟨a1, a2, a3, a4, a5, a6, a7, a8, a9⟩, h2, h3, h4⟩ := h
    have hK := (WF_K hW).1
    have hC := (WF_C hW).1
    have hA := (WF_A hW).1
    have z6 : g5 156 b = f 156 a := by
      have := c1 0 (by decide)
      rw [show 1 * b + 0 = b by omega, show 1 * a + 0 = a by omega] at this
      rw [k5 156 b (by omega), k4 156 b (by omega), k3 156 b (by omega), k2 156 b (by omega), this]
    have z7 : ∀ k, k < 8 → g5 157 (8 * b + k) = f 157 (8 * a + k) := fun k hk => by
      rw [k5 157 _ (by omega), k4 157 _ (by omega), k3 157 _ (by omega), c2 k hk, k1 157 _ (by omega)]
    have z8 : ∀ k, k < 16 → g5 158 (16 * b + k) = f 158 (16 * a + k) := fun k hk => by
      rw [k5 158 _ (by omega), k4 158 _ (by omega), c3 k hk, k2 158 _ (by omega), k1 158 _ (by omega)]
    have z9 : ∀ k, k < 30 → g5 159 (30 * b + k) = f 159 (30 * a + k) := fun k hk => by
      rw [k5 159 _ (by omega), c4 k hk, k3 159 _ (by omega), k2 159 _ (by omega), k1 159 _ (by omega)]
    have z0 : ∀ k, k < 80 → g5 160 (80 * b + k) = f 160 (80 * a + k) := fun k hk => by
      rw [c5 k hk, k4 160 _ (by omega), k3 160 _ (by omega), k2 160 _ (by omega), k1 160 _ (by omega)]
    refine ⟨⟨by rw [z6]; exact a1, ?_, by rw [z7 1 (by omega)]; exact a3, by rw [z7 2 (by omega)]; exact a4, by rw [z7 3 (by omega)]; exact a5, by rw [z7 4 (by omega)]; exact a6, by rw [z7 5 (by omega)]; exact a7, by rw [z7 6 (by omega)]; exact a8, by rw [z7 7 (by omega)]; exact a9⟩, fun d hd j hj => ?_, fun c hc j hj => ?_, fun k hk => ⟨?_, ?_⟩⟩
    · have := z7 0 (by omega)
      rw [Nat.add_zero, Nat.add_zero] at this
      rw [this]; exact a2
    · rw [show 16 * b + 4 * d + j = 16 * b + (4 * d + j) by omega, z8 (4 * d + j) (by omega), show 16 * a + (4 * d + j) = 16 * a + 4 * d + j by omega]
      exact h2 d hd j hj
    · rw [show 30 * b + 5 * c + j = 30 * b + (5 * c + j) by omega, z9 (5 * c + j) (by omega), show 30 * a + (5 * c + j) = 30 * a + 5 * c + j by omega]
      exact h3 c hc j hj
    · rw [z0 (2 * k) (by omega)]; exact (h4 k hk).1
    · rw [show 80 * b + 2 * k + 1 = 80 * b + (2 * k + 1) by omega, z0 (2 * k + 1) (by omega), show 80 * a + (2 * k + 1) = 80 * a + 2 * k + 1 by omega]
      exact (h4 k hk).2

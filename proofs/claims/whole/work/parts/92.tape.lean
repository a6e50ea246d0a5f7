/-! counts, the tape, the bridge read -/
theorem MR_g {r : Nat} {B f g : Mm} (hW : WF B) (h : MRv r B f) (hk : ∀ a j, Rw r a j → g a j = f a j) : MRv r B g := by
  obtain ⟨⟨a1, a2, a3, a4, a5, a6, a7, a8, a9⟩, h2, h3, h4⟩ := h
  have hK := (WF_K hW).1
  have hC := (WF_C hW).1
  have hA := (WF_A hW).1
  have e7 : ∀ i, i < 8 → g 157 (8 * r + i) = f 157 (8 * r + i) := fun i hi => hk 157 _ (Or.inr (Or.inl ⟨rfl, by omega, by omega⟩))
  have e9 : ∀ i, i < 80 → g 160 (80 * r + i) = f 160 (80 * r + i) := fun i hi => hk 160 _ (Or.inr (Or.inr (Or.inr (Or.inr ⟨rfl, by omega, by omega⟩))))
  refine ⟨⟨by rw [hk 156 r (Or.inl ⟨rfl, rfl⟩)]; exact a1, by have := e7 0 (by omega); rw [Nat.add_zero] at this; rw [this]; exact a2, by rw [e7 1 (by omega)]; exact a3, by rw [e7 2 (by omega)]; exact a4, by rw [e7 3 (by omega)]; exact a5, by rw [e7 4 (by omega)]; exact a6, by rw [e7 5 (by omega)]; exact a7, by rw [e7 6 (by omega)]; exact a8, by rw [e7 7 (by omega)]; exact a9⟩, fun d hd j hj => ?_, fun c hc j hj => ?_, fun k hq => ?_⟩
  · rw [hk 158 _ (Or.inr (Or.inr (Or.inl ⟨rfl, by omega, by omega⟩)))]; exact h2 d hd j hj
  · rw [hk 159 _ (Or.inr (Or.inr (Or.inr (Or.inl ⟨rfl, by omega, by omega⟩))))]; exact h3 c hc j hj
  · rw [Nat.add_assoc (80 * r) (2 * k) 1, e9 (2 * k) (by omega), e9 (2 * k + 1) (by omega), ← Nat.add_assoc]; exact h4 k hq
theorem BM_g {b r : Nat} {f g : Mm} (h : BM b r f) (hk : ∀ a j, b ≤ a → a ≤ b + 16 → g a j = f a j) (hm : ∀ a j, Rw r a j → g a j = f a j) : BM b r g := by
  obtain ⟨B, h1, h2, h3⟩ := h
  refine ⟨B, h1, MR_g h1 h2 hm, ?_⟩
  rcases h3 with ⟨h3, h4⟩ | ⟨h3, h4⟩
  · exact Or.inl ⟨h3, CB_k h4 hk h1⟩
  · exact Or.inr ⟨h3, fun j hj => by rw [hk b j (by omega) (by omega)]; exact h4 j hj⟩
theorem Sbm_x {r a j : Nat} (hr : 1 ≤ r ∧ r ≤ 3) (h : Rw r a j) : ¬ Sbm a j := by
  have ha := Rw_a h
  rintro (q | q | q | q | q | q)
  · omega
  · unfold Rw at h q; omega
  · unfold Rw at h; omega
  · unfold Rw at h; omega
  · unfold Rw at h; omega
  · unfold Rw at h; omega
/-- all but slots and images -/
def Sz (a j : Nat) : Prop := a ≤ 38 ∨ (48 ≤ a ∧ a ≤ 98 ∧ ¬ ((a = 55 ∨ a = 56) ∧ j = 0)) ∨ a = 150 ∨ a = 154 ∨ a = 155 ∨ 162 ≤ a ∨ Sbm a j
theorem Sbm_a {a j : Nat} (h : Sbm a j) : a = 150 ∨ (156 ≤ a ∧ a ≤ 160) := by
  rcases h with q | q | q | q | q | q
  · exact Or.inl q.1
  · exact Or.inr (Rw_a q)
  · right; omega
  · right; omega
  · right; omega
  · right; omega
theorem Sz_n {a j : Nat} (h : (39 ≤ a ∧ a ≤ 47) ∨ ((a = 55 ∨ a = 56) ∧ j = 0) ∨ (99 ≤ a ∧ a ≤ 149) ∨ (151 ≤ a ∧ a ≤ 153) ∨ a = 161) : ¬ Sz a j := by
  rintro (q | q | q | q | q | q | q)
  · omega
  · omega
  · omega
  · omega
  · omega
  · omega
  · have := Sbm_a q; omega
theorem Iv_z {B B' Z f h : Mm} {T T' : Nat → Int} {n n' : Nat} (hI : Iv B Z T n f) (hk : Kp Sz f h) (hB : WF B') (hC : CM B' h) (hM : MO B' h) (hn : n' ≤ 800) (h1 : TPc T' n' h) (h2 : TPm T' n' h) (hf : h 1 0 = h 150 14 ∧ h 1 1 = h 150 15) : Iv B' Z T' n' h := by
  obtain ⟨_, ⟨a1, a2⟩, a3, ⟨a4, a5, a6⟩, _⟩ := hI
  refine ⟨⟨hB, hC, hM⟩, ⟨by rw [hk 55 0 (Sz_n (by omega))]; exact a1, by rw [hk 56 0 (Sz_n (by omega))]; exact a2⟩, fun k hq => ?_, ⟨a4, CS_k a5 (fun a j x y => hk a j (Sz_n (by omega))), MS_k a6 (fun a j x y => hk a j (Sz_n (by omega)))⟩, ⟨hn, h1, h2⟩, hf⟩
  rw [hk 39 k (Sz_n (by omega)), hk 161 k (Sz_n (by omega))]
  rcases a3 k hq with q | ⟨q1, q2, q3⟩
  · exact Or.inl q
  · refine Or.inr ⟨q1, q2, BM_g q3 (fun a j x y => hk a j (Sz_n (by omega))) (fun a j x => hk a j ?_)⟩
    have hx := Sbm_x (by omega) x
    have ha := Rw_a x
    rintro (q | q | q | q | q | q | q)
    · omega
    · omega
    · omega
    · omega
    · omega
    · omega
    · exact hx q
theorem o_fault (x : Int) : Ok (FX10_fault x) (FX11_fault x) := by
  rintro f ⟨B, Z, T, n, hI⟩
  have k0 := Kp_m0 f
  obtain ⟨e0, e1⟩ := hI.2.2.2.2.2
  unfold FX10_fault FX10_fault_0 FX11_fault FX11_fault_0
  by_cases q0 : x = 0
  · refine ⟨f 1 0, f, up f 150 0 0, ?_, ?_, B, Z, T, n, Iv_l hI k0⟩
    · rw [if_pos q0]
    · rw [if_pos q0, e0]
  · by_cases q1 : x = 1
    · refine ⟨f 1 1, f, up f 150 0 0, ?_, ?_, B, Z, T, n, Iv_l hI k0⟩
      · rw [if_neg q0, if_pos q1]
      · rw [if_neg q0, if_pos q1, e1]
    · refine ⟨-1, f, up f 150 0 0, ?_, ?_, B, Z, T, n, Iv_l hI k0⟩
      · rw [if_neg q0, if_neg q1]
      · rw [if_neg q0, if_neg q1]
def cz (Z : Mm) (s : Nat) : Int := if Z s 100 = -1 then 0 else 1
theorem cz_r (Z : Mm) (s : Nat) : 0 ≤ cz Z s ∧ cz Z s ≤ 1 := by unfold cz; split <;> omega
theorem cz_s (Z : Mm) : ∀ i, 0 ≤ sm (cz Z) i ∧ sm (cz Z) i ≤ (i : Int)
  | 0 => by show 0 ≤ (0 : Int) ∧ (0 : Int) ≤ _; omega
  | i + 1 => by
    have := cz_s Z i
    have := cz_r Z i
    show 0 ≤ sm (cz Z) i + cz Z i ∧ sm (cz Z) i + cz Z i ≤ _
    omega
theorem filled_W {Z f : Mm} (hS : CS Z f) : Wp (FX6_filled f) (fun p => p.1 = sm (cz Z) 4 ∧ p.2 = f) := by
  unfold FX6_filled FX6_filled_0
  refine forX (fun n x (s : Int) => FX6_filled_4 n s x f) (fun i s => s = sm (cz Z) i) _ 4 ?_ ?_ fu 0 0 rfl (by omega) (by have := fub; omega)
  · rintro n s rfl
    rw [FX6_filled_4, if_pos (by omega)]
    exact Wp_some ⟨rfl, rfl⟩
  · rintro n i s hi rfl
    left
    rw [FX6_filled_4, if_neg (by omega), hasRow_e hS hi, b2_some]
    unfold FX6_filled_20
    rw [nx i (by omega)]
    have hb := cz_s Z i
    by_cases q : Z i 100 = -1
    · refine ⟨sm (cz Z) i, ?_, ?_⟩
      · rw [if_pos q, if_pos rfl]
      · show _ = sm (cz Z) i + cz Z i
        unfold cz; rw [if_pos q]; omega
    · refine ⟨sm (cz Z) i + 1, ?_, ?_⟩
      · rw [if_neg q, if_neg (show ¬ (1 : Int) = 0 by decide), w32s (by omega) (by omega)]
      · show _ = sm (cz Z) i + cz Z i
        unfold cz; rw [if_neg q]
theorem count8_W {Z f : Mm} (hZ : WZ Z) (hS : MS Z f) : Wp (FX11_count_118 fu 0 0 f) (fun p => p.1 = sm (cz Z) 4 ∧ p.2 = f) := by
  refine forX (fun n x (s : Int) => FX11_count_118 n s x f) (fun i s => s = sm (cz Z) i) _ 4 ?_ ?_ fu 0 0 rfl (by omega) (by have := fub; omega)
  · rintro n s rfl
    rw [FX11_count_118, if_pos (by omega)]
    exact Wp_some ⟨rfl, rfl⟩
  · rintro n i s hi rfl
    left
    rw [FX11_count_118, if_neg (by omega), if_pos (by omega), Int.toNat_natCast]
    unfold FX11_count_139
    rw [nx i (by omega)]
    have hb := cz_s Z i
    obtain ⟨s1, s2⟩ := hS i hi
    by_cases q : Z i 100 = -1
    · refine ⟨sm (cz Z) i, ?_, ?_⟩
      · rw [if_pos (s1 q), w32s (by omega) (by omega), Int.add_zero]
      · show _ = sm (cz Z) i + cz Z i
        unfold cz; rw [if_pos q]; omega
    · refine ⟨sm (cz Z) i + 1, ?_, ?_⟩
      · have h1 := (s2 q).1
        have h2 := hZ i hi
        rw [if_neg (by omega), w32s (by omega) (by omega)]
      · show _ = sm (cz Z) i + cz Z i
        unfold cz; rw [if_neg q]
theorem o_count (x : Int) : Ok (FX10_count x) (FX11_count x) := by
  rintro f ⟨B, Z, T, n, hI⟩
  have k0 := Kp_m0 f
  obtain ⟨b1, b2', b3⟩ := hI.1
  obtain ⟨z1, z2, z3⟩ := hI.2.2.2.1
  obtain ⟨t1, t2, t3⟩ := hI.2.2.2.2.1
  obtain ⟨c0, c1, c2, c3, c4, c5, c6⟩ := CM_d b1 b2'
  obtain ⟨m8, m0, m1, m2, m3, m4, m5, m6, m7⟩ := b3.1
  have hl := Iv_l hI k0
  obtain ⟨p1, e1, r1, r1'⟩ := filled_W z2
  obtain ⟨p2, e2, r2, r2'⟩ := count8_W z1 (MS_s z3 k0)
  have E1 : FX6_filled f = some (sm (cz Z) 4, f) := by rw [e1, ← r1]; congr 1; rw [← r1']
  have E2 : FX11_count_118 fu 0 0 (up f 150 0 0) = some (sm (cz Z) 4, up f 150 0 0) := by rw [e2, ← r2]; congr 1; rw [← r2']
  have hD := WF_D b1
  have hK := WF_K b1
  have hC := WF_C b1
  have t2' := t2.1
  have t3' := t3.1
  unfold FX10_count FX10_count_0 FX11_count FX11_count_0
  rw [E1, b2_some]
  refine ⟨if x = 0 then f 157 0 else if x = 1 then f 157 3 else if x = 2 then f 157 4 else if x = 3 then f 157 5 else if x = 4 then f 157 6 else if x = 5 then f 157 7 else if x = 6 then f 156 0 else if x = 7 then f 150 6 else if x = 8 then sm (cz Z) 4 else -1, f, up f 150 0 0, ?_, ?_, B, Z, T, n, hl⟩
  · rw [c0, c1, c2, c3, c4, c5, c6, t2', t3', m8, m0, m3, m4, m5, m6, m7, hD.2, hK.2, hC.2]
    repeat' split
    all_goals rfl
  · rw [E2]
    repeat' split
    all_goals rfl
theorem o_end (x : Int) : Ok (FX10_end x) (FX11_end x) := by
  rintro f ⟨B, Z, T, n, hI⟩
  have k0 := Kp_m0 f
  obtain ⟨b1, b2', b3⟩ := hI.1
  obtain ⟨t1, t2, t3⟩ := hI.2.2.2.2.1
  have t2' := t2.1
  have t3' := t3.1
  unfold FX10_end FX10_end_0 FX11_end FX11_end_0
  by_cases q : 0 ≤ x ∧ x ≤ (n : Int)
  · obtain ⟨m, hm⟩ : ∃ m : Nat, x = (m : Int) := ⟨x.toNat, by omega⟩
    subst hm
    have k1 : Kp Sz f (up (up (up f 2 1 (m : Int)) 150 0 0) 150 6 (m : Int)) := Kp_u (Kp_u (Kp_u (Kp_r _ _) (by unfold Sz; omega)) (by unfold Sz; omega)) (by unfold Sz; omega)
    refine ⟨(m : Int), up f 2 1 (m : Int), up (up (up f 2 1 (m : Int)) 150 0 0) 150 6 (m : Int), ?_, ?_, B, Z, T, m, Iv_z hI k1 b1 (CM_k b1 b2' (fun a j z => by rw [up_n (by omega), up_n (by omega), up_n (by omega)])) (MO_k b3 (fun a j y z => by rw [up_n (by omega), up_n (by omega), up_n (by omega)])) (by omega) ⟨by rw [up_n (by omega), up_n (by omega), up_s], fun j hj => by rw [up_n (by omega), up_n (by omega), up_n (by omega)]; exact t2.2 j (by omega)⟩ ⟨by rw [up_s], fun j hj => by rw [up_n (by omega), up_n (by omega), up_n (by omega)]; exact t3.2 j (by omega)⟩ ?_⟩
    · rw [if_neg (by omega), if_pos (by omega)]
    · rw [in_e, b2_some, up_n (by omega), t3', if_pos q, if_neg (show ¬ (1 : Int) = 0 by decide)]
    · obtain ⟨e0, e1⟩ := hI.2.2.2.2.2
      exact ⟨by rw [up_n (by omega), up_n (by omega), up_n (by omega), up_n (by omega), up_n (by omega), up_n (by omega)]; exact e0, by rw [up_n (by omega), up_n (by omega), up_n (by omega), up_n (by omega), up_n (by omega), up_n (by omega)]; exact e1⟩
  · refine ⟨-1, f, up f 150 0 0, ?_, ?_, B, Z, T, n, Iv_l hI k0⟩
    · by_cases c : x < 0
      · rw [if_pos c]
      · rw [if_neg c, if_neg (by omega)]
    · rw [in_e, b2_some, t3', if_neg q, if_pos rfl]
def pu (T : Nat → Int) (n : Nat) (b : Int) : Nat → Int := fun j => if j = n then b else T j
def bt (x s : Int) : Int := w8 (w8 (bShr x s))
def p4 (T : Nat → Int) (n : Nat) (x : Int) : Nat → Int := pu (pu (pu (pu T n (bt x 24)) (n + 1) (bt x 16)) (n + 2) (bt x 8)) (n + 3) (bt x 0)
def Stc (a j : Nat) : Prop := (a = 2 ∧ j = 1) ∨ a = 3
def Stm (a j : Nat) : Prop := (a = 150 ∧ j = 6) ∨ a = 155
theorem add_s {T : Nat → Int} {n : Nat} {f : Mm} (h : TPc T n f) (hn : n < 800) (m : Nat) (x : Int) {s s' : Int} (hs : 0 ≤ s) (hs' : w32 (s + (-8)) = s') : ∃ g, FX7_add_3 (m + 1) x s f = FX7_add_3 m x s' g ∧ TPc (pu T n (bt x s)) (n + 1) g ∧ Kp Stc f g := by
  rw [FX7_add_3, if_neg (by omega), h.1, if_neg (by omega), if_pos (by omega), Int.toNat_natCast, nx n (by omega)]
  unfold FX7_add_40
  rw [hs']
  refine ⟨_, rfl, ⟨by rw [up_s], fun j hj => ?_⟩, Kp_u (Kp_u (Kp_r _ _) (Or.inr rfl)) (Or.inl ⟨rfl, rfl⟩)⟩
  unfold pu
  rw [up_n (by omega)]
  by_cases q : j = n
  · rw [if_pos q, q, up_s]; rfl
  · rw [if_neg q, up_n (by omega)]; exact h.2 j (by omega)
theorem four_s {T : Nat → Int} {n : Nat} {f : Mm} (h : TPm T n f) (hn : n < 800) (m : Nat) (x : Int) {s s' : Int} (hs : 0 ≤ s) (hs' : w32 (s + (-8)) = s') : ∃ g, FX11_four_3 (m + 1) x s f = FX11_four_3 m x s' g ∧ TPm (pu T n (bt x s)) (n + 1) g ∧ Kp Stm f g := by
  rw [FX11_four_3, if_neg (by omega), h.1, if_pos (by omega), Int.toNat_natCast, nx n (by omega)]
  rw [hs']
  refine ⟨_, rfl, ⟨by rw [up_s], fun j hj => ?_⟩, Kp_u (Kp_u (Kp_r _ _) (Or.inr rfl)) (Or.inl ⟨rfl, rfl⟩)⟩
  unfold pu
  rw [up_n (by omega)]
  by_cases q : j = n
  · rw [if_pos q, q, up_s]; rfl
  · rw [if_neg q, up_n (by omega)]; exact h.2 j (by omega)
theorem w_16 : w32 (24 + (-8)) = 16 := by decide
theorem w_8 : w32 (16 + (-8)) = 8 := by decide
theorem w_0 : w32 (8 + (-8)) = 0 := by decide
theorem w_m : w32 (0 + (-8)) = -8 := by decide
theorem fu5 : ∃ m, fu = m + 1 + 1 + 1 + 1 + 1 := ⟨99995, rfl⟩
theorem add_W {T : Nat → Int} {n : Nat} {f : Mm} (h : TPc T n f) (hn : n + 4 ≤ 800) (x : Int) : Wp (FX7_add x f) (fun g => TPc (p4 T n x) (n + 4) g ∧ Kp Stc f g) := by
  obtain ⟨m, hm⟩ := fu5
  unfold FX7_add FX7_add_0
  rw [hm]
  obtain ⟨g1, e1, t1, k1⟩ := add_s h (by omega) (m + 1 + 1 + 1 + 1) x (by decide) w_16
  obtain ⟨g2, e2, t2, k2⟩ := add_s t1 (by omega) (m + 1 + 1 + 1) x (by decide) w_8
  obtain ⟨g3, e3, t3, k3⟩ := add_s t2 (by omega) (m + 1 + 1) x (by decide) w_0
  obtain ⟨g4, e4, t4, k4⟩ := add_s t3 (by omega) (m + 1) x (by decide) w_m
  rw [e1, e2, e3, e4, FX7_add_3, if_pos (by decide)]
  exact Wp_some ⟨t4, Kp_t k1 (Kp_t k2 (Kp_t k3 k4))⟩
theorem four_W {T : Nat → Int} {n : Nat} {f : Mm} (h : TPm T n f) (hn : n + 4 ≤ 800) (x : Int) : Wp (FX11_four x f) (fun g => TPm (p4 T n x) (n + 4) g ∧ Kp Stm f g) := by
  obtain ⟨m, hm⟩ := fu5
  unfold FX11_four FX11_four_0
  rw [hm]
  obtain ⟨g1, e1, t1, k1⟩ := four_s h (by omega) (m + 1 + 1 + 1 + 1) x (by decide) w_16
  obtain ⟨g2, e2, t2, k2⟩ := four_s t1 (by omega) (m + 1 + 1 + 1) x (by decide) w_8
  obtain ⟨g3, e3, t3, k3⟩ := four_s t2 (by omega) (m + 1 + 1) x (by decide) w_0
  obtain ⟨g4, e4, t4, k4⟩ := four_s t3 (by omega) (m + 1) x (by decide) w_m
  rw [e1, e2, e3, e4, FX11_four_3, if_pos (by decide)]
  exact Wp_some ⟨t4, Kp_t k1 (Kp_t k2 (Kp_t k3 k4))⟩
theorem o_feed (x1 x2 x3 x4 x5 : Int) : Ok (FX10_feed x1 x2 x3 x4 x5) (FX11_feed x1 x2 x3 x4 x5) := by
  rintro f ⟨B, Z, T, n, hI⟩
  have k0 := Kp_m0 f
  obtain ⟨b1, b2', b3⟩ := hI.1
  obtain ⟨t1, t2, t3⟩ := hI.2.2.2.2.1
  unfold FX10_feed FX10_feed_0 FX11_feed FX11_feed_0
  rw [t2.1, w32n (x := (n : Int) + 20) (n := n + 20) (by omega) (by omega)]
  by_cases q : n + 20 ≤ 800
  · obtain ⟨g1, e1, c1, k1⟩ := add_W t2 (by omega) x1
    obtain ⟨g2, e2, c2, k2⟩ := add_W c1 (by omega) x2
    obtain ⟨g3, e3, c3, k3⟩ := add_W c2 (by omega) x3
    obtain ⟨g4, e4, c4, k4⟩ := add_W c3 (by omega) x4
    obtain ⟨g5, e5, c5, k5⟩ := add_W c4 (by omega) x5
    have kg : Kp Stc f g5 := Kp_t k1 (Kp_t k2 (Kp_t k3 (Kp_t k4 k5)))
    have tg : TPm T n (up g5 150 0 0) := TPm_k t3 (by rw [up_n (by omega), kg 150 6 (by unfold Stc; omega)]) (fun j => by rw [up_n (by omega), kg 155 j (by unfold Stc; omega)])
    obtain ⟨h1, d1, s1, l1⟩ := four_W tg (by omega) x1
    obtain ⟨h2, d2, s2, l2⟩ := four_W s1 (by omega) x2
    obtain ⟨h3, d3, s3, l3⟩ := four_W s2 (by omega) x3
    obtain ⟨h4, d4, s4, l4⟩ := four_W s3 (by omega) x4
    obtain ⟨h5, d5, s5, l5⟩ := four_W s4 (by omega) x5
    have lh : Kp Stm (up g5 150 0 0) h5 := Kp_t l1 (Kp_t l2 (Kp_t l3 (Kp_t l4 l5)))
    have hh : ∀ a j, ¬ ((a = 2 ∧ j = 1) ∨ a = 3 ∨ (a = 150 ∧ (j = 0 ∨ j = 6)) ∨ a = 155) → h5 a j = f a j := fun a j z => by
      rw [lh a j (by unfold Stm; omega), up_n (by omega), kg a j (by unfold Stc; omega)]
    refine ⟨((n + 4 + 4 + 4 + 4 + 4 : Nat) : Int), g5, h5, ?_, ?_, B, Z, _, _, Iv_z hI (fun a j z => hh a j (fun y => z (by unfold Sz; omega))) b1 (CM_k b1 b2' (fun a j z => hh a j (by omega))) (MO_k b3 (fun a j y z => hh a j (by omega))) (by omega) (TPc_k c5 (fun a j y z => by rw [lh a j (by unfold Stm; omega), up_n (by omega)])) s5 ?_⟩
    · rw [if_pos (by omega), e1]
      simp only [Option.bind_some]
      rw [e2]
      simp only [Option.bind_some]
      rw [e3]
      simp only [Option.bind_some]
      rw [e4]
      simp only [Option.bind_some]
      rw [e5]
      simp only [Option.bind_some]
      rw [c5.1]
    · rw [kg 150 6 (by unfold Stc; omega), t3.1, w32n (x := (n : Int) + 20) (n := n + 20) (by omega) (by omega), if_pos (by omega), d1]
      simp only [Option.bind_some]
      rw [d2]
      simp only [Option.bind_some]
      rw [d3]
      simp only [Option.bind_some]
      rw [d4]
      simp only [Option.bind_some]
      rw [d5]
      simp only [Option.bind_some]
      rw [s5.1]
    · obtain ⟨e0, e1⟩ := hI.2.2.2.2.2
      rw [hh 1 0 (by omega), hh 1 1 (by omega), hh 150 14 (by omega), hh 150 15 (by omega)]
      exact ⟨e0, e1⟩
  · refine ⟨-1, f, up f 150 0 0, ?_, ?_, B, Z, T, n, Iv_l hI k0⟩
    · rw [if_neg (by omega)]
    · rw [t3.1, w32n (x := (n : Int) + 20) (n := n + 20) (by omega) (by omega), if_neg (by omega)]
theorem o_bridge : Ok FX10_bridge FX11_bridge := by
  rintro f ⟨B, Z, T, n, hI⟩
  obtain ⟨b1, b2', b3⟩ := hI.1
  obtain ⟨t1, t2, t3⟩ := hI.2.2.2.2.1
  obtain ⟨⟨v, g⟩, e1, r1, r2, r3, r4, r5, r6, r7⟩ := bridge_C t1 t2
  simp only at r1 r2 r3 r4 r5 r6 r7
  have nbc : ∀ a j, 38 ≤ a → a ≠ 57 → g a j = f a j := fun a j x y => r5 a j (by unfold Sbc; omega)
  obtain ⟨⟨w, h⟩, e2, s1, s2, s3, s4, s5, s6, s7⟩ := bridge_M t1 (TPm_k t3 (nbc 150 6 (by omega) (by omega)) (fun j => nbc 155 j (by omega) (by omega)))
  simp only at s1 s2 s3 s4 s5 s6 s7
  have nbm : ∀ a j, a < 150 → h a j = g a j := fun a j x => s5 a j (fun z => by have := Sbm_a z; omega)
  rw [← r1] at s1
  subst s1
  have kk : Kp Sz f h := Kp_t (Kp_m r5 (fun a j z => by unfold Sbc at z; unfold Sz; omega)) (Kp_m s5 (fun a j z => Or.inr (Or.inr (Or.inr (Or.inr (Or.inr (Or.inr z)))))))
  have tc : TPc T 0 h := ⟨by rw [nbm 2 1 (by omega)]; exact r4, fun j hj => absurd hj (Nat.not_lt_zero j)⟩
  have tm : TPm T 0 h := ⟨s4, fun j hj => absurd hj (Nat.not_lt_zero j)⟩
  have hf : h 1 0 = h 150 14 ∧ h 1 1 = h 150 15 := by rw [nbm 1 0 (by omega), nbm 1 1 (by omega), r2, r3, s2, s3]; exact ⟨rfl, rfl⟩
  by_cases q : (RS T n).1.1 = 0
  · obtain ⟨i1, i2, _⟩ := RS_I T t1 q
    obtain ⟨u1, u2, u3⟩ := r6 q
    have hC : CM (RS T n).2 g := by
      rcases rdS_0 (T := T) (n := n) (n + 1) (s0S T n) B0 with z | z
      · exact Or.inr ⟨z, u3 z⟩
      · have z' : 0 < (RS T n).2 0 8 := z
        exact Or.inl ⟨z', u2 z', fun y => absurd u1 y⟩
    exact ⟨_, g, h, e1, e2, (RS T n).2, Z, T, 0, Iv_z hI kk i1 (CM_k i1 hC (fun a j z => nbm a j (by omega))) (s6 q) (by omega) tc tm hf⟩
  · have hC : CM B h := CM_k b1 b2' (fun a j z => by
      rw [nbm a j (by omega)]
      by_cases c : (4 ≤ a ∧ a ≤ 20) ∨ a = 57
      · exact r7 q a j c
      · exact r5 a j (by unfold Sbc; omega))
    have hM : MO B h := MR_O.1 (MR_g b1 (MR_O.2 b3) (fun a j z => by
      have ha := Rw_a z
      rw [s7 q a j z]; exact nbc a j (by omega) (by omega)))
    exact ⟨_, g, h, e1, e2, B, Z, T, 0, Iv_z hI kk b1 hC hM (by omega) tc tm hf⟩

/-! taking back, and pay -/
def unB (B : Mm) (m : Int) : Mm := up B 0 7 m
theorem unB_a (B : Mm) (m : Int) : Al B (unB B m) := fun a j q => by
  unfold unB
  rw [up_n (by omega)]
theorem unB_k (B : Mm) (m : Int) (k : Nat) : unB B m 1 k = B 1 k ∧ unB B m 2 k = B 2 k := by
  unfold unB
  exact ⟨by rw [up_n (by omega)], by rw [up_n (by omega)]⟩
theorem unB_7 (B : Mm) (m : Int) : unB B m 0 7 = m := by unfold unB; rw [up_s]
theorem unB_8 (B : Mm) (m : Int) : unB B m 0 8 = B 0 8 := by unfold unB; rw [up_n (by omega)]
theorem unB_n (B : Mm) (m : Nat) : nA (unB B (m : Int)) = m := by unfold nA; rw [unB_7]; omega
theorem unB_c (B : Mm) (m : Int) (c : Nat) : unB B m (20 + c) 4 = B (20 + c) 4 := by unfold unB; rw [up_n (by omega)]
theorem unB_w {B : Mm} (hB : WF B) {m : Nat} (hm : m ≤ nA B) : WF (unB B (m : Int)) := by
  have hA := WF_A hB
  refine WF_al hB (unB_a B m) ?_ (fun c hq => ?_) (fun k hk => ?_)
  · rw [unB_7]; omega
  · rw [unB_c]; exact (hB.2.2.2.2.2.2.2.2.2.2.2.1 c hq).2.2.2.2
  · rw [unB_n] at hk
    rw [(unB_k B m k).1, (unB_k B m k).2]; exact hB.2.2.2.2.2.2.2.2.2.2.2.2 k (by omega)
theorem unB_M {B f : Mm} (hB : WF B) (h : MO B f) {m : Nat} (hm : m ≤ nA B) : MO (unB B (m : Int)) (up f 157 7 (m : Int)) := by
  refine MO_al h (unB_a B m) hB (fun c _ => unB_c B m c) (fun a j q => by rw [up_n (by omega)]) (by rw [up_s, unB_7]) (fun k hk => ?_)
  rw [unB_n] at hk
  rw [(unB_k B m k).1, (unB_k B m k).2, up_n (by omega), up_n (by omega)]
  exact h.2.2.2 k (by omega)
/-- a call on both sides that changes the told bridge -/
theorem Ok_b {f g h B B' Z : Mm} {T : Nat → Int} {n : Nat} (hI : Iv B Z T n f) (hW : WF B') (k1 : Kp (fun a _ => 4 ≤ a ∧ a ≤ 20) f g) (hC : CM B' g) (k2 : Kp (fun a j => Sm a j ∨ Rw 0 a j) g h) (hM : MO B' h) : Iv B' Z T n h := by
  refine Iv_b hI (Kp_t (Kp_m k1 (fun a j z => Or.inl (by omega))) (Kp_m k2 (fun a j z => ?_))) hW (CM_k hW hC (fun a j z => ?_)) hM
  · rcases z with z | z
    · rcases z with z | z
      · exact Or.inr (Or.inr (Or.inl z))
      · exact Or.inr (Or.inr (Or.inr (Or.inl z)))
    · exact Sb_r z
  · rw [k2 a j (fun z2 => ?_)]
    rcases z2 with z2 | z2
    · unfold Sm at z2; omega
    · have := Rw_a z2; omega
theorem k0r (g : Mm) {a j : Nat} {x : Int} (h : Rw 0 a j) : Kp (fun a j => Sm a j ∨ Rw 0 a j) g (up (up g 150 0 0) a j x) := Kp_u (Kp_u (Kp_r _ _) (Or.inl Sm_0)) (Or.inr h)
theorem MO_4 {B f g : Mm} (h : MO B f) (hk : Kp (fun a _ => 4 ≤ a ∧ a ≤ 20) f g) : MO B (up g 150 0 0) := MO_s (MO_k h (fun a j x y => hk a j (by omega))) (Kp_m0 g)
theorem o_undo : Ok FX10_undo FX11_undo := by
  rintro f ⟨B, Z, T, n, hI⟩
  obtain ⟨b1, b2', b3⟩ := hI.1
  have hD := WF_D b1
  have hA := WF_A b1
  have k0 := Kp_m0 f
  have m0 := MO_s b3 k0
  have cd := CM_d b1 b2'
  unfold FX10_undo FX10_undo_0 FX11_undo FX11_undo_0
  rw [stands_e, b2_some, cd.1]
  by_cases q : 0 < B 0 8
  · obtain ⟨hc, hp⟩ := CM_on b2' q
    rw [if_pos q, if_neg (show ¬ (1 : Int) = 0 by decide), cd.2.2.2.2.2.2]
    by_cases qa : 0 < B 0 7
    · obtain ⟨m, hm⟩ : ∃ m, nA B = m + 1 := ⟨nA B - 1, by omega⟩
      obtain ⟨t1, t2⟩ := hc.2.2.2.2.2 m (by omega)
      obtain ⟨⟨d0, d1⟩, _⟩ := b1.2.2.2.2.2.2.2.2.2.2.2.2 m (by omega)
      obtain ⟨d, hd⟩ : ∃ d : Nat, B 1 m = (d : Int) := ⟨(B 1 m).toNat, by omega⟩
      rw [hd] at t1 t2
      rw [Int.toNat_natCast] at t2
      have hg : FX0_takeBack_4 f = some (up (up f 4 6 (m : Int)) 18 d (dO B m d)) := by
        unfold FX0_takeBack_4 FX0_takeBack_4_0
        rw [cd.2.2.2.2.2.2, if_neg (by omega), w32n (x := B 0 7 - 1) (n := m) (by omega) (by omega), if_pos (by omega), if_pos (by omega), Int.toNat_natCast, t1, t2, if_pos (by omega), Int.toNat_natCast]
      have e1 : (up (up f 4 6 (m : Int)) 18 d (dO B m d)) 4 6 = (m : Int) := by rw [up_n (by omega), up_s]
      have kg : Kp (fun a _ => 4 ≤ a ∧ a ≤ 20) f (up (up f 4 6 (m : Int)) 18 d (dO B m d)) := Kp_u (Kp_u (Kp_r _ _) (by omega)) (by omega)
      have cg : CM (unB B (m : Int)) (up (up f 4 6 (m : Int)) 18 d (dO B m d)) := by
        refine Or.inl ⟨by rw [unB_8]; exact q, CT_al b1 hc (unB_a B m) (fun c _ => unB_c B m c) (fun a j z => by rw [up_n (by omega), up_n (by omega)]) (by rw [e1, unB_7]) (fun e he => ?_) (fun k hk => ?_), PT_k (Al_PT b1 (unB_a B m) hp) (fun a j q1 q2 => by rw [up_n (by omega), up_n (by omega)])⟩
        · unfold dn
          rw [unB_n, dO_cong (B := B) m e (fun i _ => unB_k B m i)]
          by_cases c : e = d
          · subst c; rw [up_s]
          · rw [up_n (by omega), up_n (by omega), hc.2.2.2.2.1 e he]
            unfold dn
            rw [hm]
            show (if B 1 m = (e : Int) then B 2 m else dO B m e) = _
            rw [if_neg (by omega)]
        · rw [unB_n] at hk
          rw [dO_cong (B := B) k _ (fun i _ => unB_k B m i), (unB_k B m k).1, up_n (by omega), up_n (by omega), up_n (by omega), up_n (by omega)]
          exact hc.2.2.2.2.2 k (by omega)
      generalize up (up f 4 6 (m : Int)) 18 d (dO B m d) = g at *
      have mg := MO_4 b3 kg
      refine ⟨(m : Int), g, up (up g 150 0 0) 157 7 (m : Int), ?_, ?_, unB B (m : Int), Z, T, n, Ok_b hI (unB_w b1 (by omega)) kg cg (k0r g (Rw_157 (by decide))) (unB_M b1 mg (by omega))⟩
      · rw [if_pos qa, hg]
        simp only [Option.bind_some]
        rw [e1]
      · rw [isBridge_e mg, b2_some, if_pos q, if_neg (show ¬ (1 : Int) = 0 by decide), mg.1.2.2.2.2.2.2.2.2, if_neg (by omega), w32n (x := B 0 7 - 1) (n := m) (by omega) (by omega)]
    · refine ⟨-5, f, up f 150 0 0, ?_, ?_, B, Z, T, n, Iv_l hI k0⟩
      · rw [if_neg qa]
      · rw [isBridge_e m0, b2_some, if_pos q, if_neg (show ¬ (1 : Int) = 0 by decide), m0.1.2.2.2.2.2.2.2.2, if_pos (by omega)]
  · refine ⟨-2, f, up f 150 0 0, ?_, ?_, B, Z, T, n, Iv_l hI k0⟩
    · rw [if_neg q, if_pos rfl]
    · rw [isBridge_e m0, b2_some, if_neg q, if_pos rfl]
theorem takeAll_W (g0 : Mm) : Wp (FX0_takeAllBack_4_7 fu 0 g0) (fun g => Kp (fun a _ => a = 18) g0 g ∧ ∀ d, d < 6 → g 18 d = -1) := by
  refine forX (fun n x (s : Mm) => FX0_takeAllBack_4_7 n x s) (fun i s => Kp (fun a _ => a = 18) g0 s ∧ ∀ d, d < i → s 18 d = -1) _ 6 ?_ ?_ fu 0 g0 ⟨Kp_r _ _, fun d hd => by omega⟩ (by omega) (by have := fub; omega)
  · rintro n s ⟨a1, a2⟩
    rw [FX0_takeAllBack_4_7, if_pos (by omega)]
    exact Wp_some ⟨a1, a2⟩
  · rintro n i s hi ⟨a1, a2⟩
    left
    rw [FX0_takeAllBack_4_7, if_neg (by omega), if_pos (by omega), nx i (by omega), Int.toNat_natCast]
    refine ⟨_, rfl, Kp_u a1 rfl, fun d hd => ?_⟩
    by_cases q : d = i
    · subst q; rw [up_s]
    · rw [up_n (by omega)]; exact a2 d (by omega)
theorem o_anew : Ok FX10_anew FX11_anew := by
  rintro f ⟨B, Z, T, n, hI⟩
  obtain ⟨b1, b2', b3⟩ := hI.1
  have hA := WF_A b1
  have k0 := Kp_m0 f
  have m0 := MO_s b3 k0
  have cd := CM_d b1 b2'
  unfold FX10_anew FX10_anew_0 FX11_anew FX11_anew_0
  rw [stands_e, b2_some, cd.1]
  by_cases q : 0 < B 0 8
  · obtain ⟨hc, hp⟩ := CM_on b2' q
    obtain ⟨g, e, k, v⟩ := takeAll_W (up f 4 6 0)
    have e' : FX0_takeAllBack_4 f = some g := e
    have kg : Kp (fun a _ => 4 ≤ a ∧ a ≤ 20) f g := Kp_t (Kp_u (Kp_r _ f) (show 4 ≤ 4 ∧ 4 ≤ 20 by decide)) (Kp_m k (fun a j z => by omega))
    have g6 : g 4 6 = 0 := by rw [k 4 6 (by omega), up_s]
    have cg : CM (unB B ((0 : Nat) : Int)) g := by
      refine Or.inl ⟨by rw [unB_8]; exact q, CT_al b1 hc (unB_a B _) (fun c _ => unB_c B _ c) (fun a j z => by rw [k a j (by omega), up_n (by omega)]) (by rw [g6, unB_7]; rfl) (fun e he => ?_) (fun k hk => ?_), PT_k (Al_PT b1 (unB_a B _) hp) (fun a j q1 q2 => kg a j (by omega))⟩
      · rw [v e he]
        unfold dn
        rw [unB_n]; rfl
      · rw [unB_n] at hk
        omega
    have mg := MO_4 b3 kg
    refine ⟨B 0 7, g, up (up g 150 0 0) 157 7 ((0 : Nat) : Int), ?_, ?_, unB B ((0 : Nat) : Int), Z, T, n, Ok_b hI (unB_w b1 (by omega)) kg cg (k0r g (Rw_157 (by decide))) (unB_M b1 mg (by omega))⟩
    · rw [if_pos q, if_neg (show ¬ (1 : Int) = 0 by decide), e']
      simp only [Option.bind_some]
      rw [cd.2.2.2.2.2.2]
    · rw [isBridge_e mg, b2_some, if_pos q, if_neg (show ¬ (1 : Int) = 0 by decide), mg.1.2.2.2.2.2.2.2.2]
      rfl
  · refine ⟨-2, f, up f 150 0 0, ?_, ?_, B, Z, T, n, Iv_l hI k0⟩
    · rw [if_neg q, if_pos rfl]
    · rw [isBridge_e m0, b2_some, if_neg q, if_pos rfl]
theorem o_rate (x y : Int) : Ok (FX10_rate x y) (FX11_rate x y) := by
  rintro f ⟨B, Z, T, n, hI⟩
  obtain ⟨b1, b2', b3⟩ := hI.1
  have hA := WF_A b1
  have hC := WF_C b1
  have k0 := Kp_m0 f
  have m0 := MO_s b3 k0
  have cd := CM_d b1 b2'
  have hpay : ∀ g, FX10_isPay y g = some (if 0 ≤ y ∧ y ≤ 999 then 1 else 0, g) := fun g => by
    unfold FX10_isPay FX10_isPay_0; grind
  unfold FX10_rate FX10_rate_0 FX11_rate FX11_rate_0
  rw [hasCart_e, b2_some, cd.2.2.2.2.2.1]
  by_cases q : 0 ≤ x ∧ x < (nC B : Int)
  · by_cases qy : 0 ≤ y ∧ y ≤ 999
    · rw [if_pos q, if_neg (show ¬ (1 : Int) = 0 by decide), hpay, b2_some, if_pos qy, if_neg (show ¬ (1 : Int) = 0 by decide), cd.2.2.2.2.2.2]
      by_cases qa : B 0 7 ≤ 0
      · obtain ⟨c, hc⟩ : ∃ c : Nat, x = (c : Int) := ⟨x.toNat, by omega⟩
        subst hc
        have q8 : 0 < B 0 8 := b1.2.2.2.2.2.2.2.2.2.1.2.2.1 (by omega)
        obtain ⟨ht, hp⟩ := CM_on b2' q8
        have ha : Al B (up B (20 + c) 4 y) := fun a j z => by rw [up_n (by omega)]
        have hn := Al_n ha
        have n0 : nA (up B (20 + c) 4 y) = 0 := by unfold nA; rw [up_n (by omega)]; omega
        have hW : WF (up B (20 + c) 4 y) := by
          refine WF_al b1 ha (by rw [up_n (by omega)]; exact b1.2.2.2.2.2.2.2.1) (fun e he => ?_) (fun k hk => by omega)
          by_cases z : e = c
          · subst z; rw [up_s]; exact qy
          · rw [up_n (by omega)]; exact (b1.2.2.2.2.2.2.2.2.2.2.2.1 e he).2.2.2.2
        have kg : Kp (fun a _ => 4 ≤ a ∧ a ≤ 20) f (up f (12 + c) 4 y) := Kp_u (Kp_r _ f) (by omega)
        have cg : CM (up B (20 + c) 4 y) (up f (12 + c) 4 y) := by
          obtain ⟨⟨a1, a2, a3, a4, a5, a6, a7⟩, ⟨c1, c2⟩, c3, c4, c5, c6⟩ := ht
          refine Or.inl ⟨by rw [up_n (by omega)]; exact q8, ⟨⟨by rw [up_n (by omega), up_n (by omega)]; exact a1, by rw [up_n (by omega), up_n (by omega)]; exact a2, by rw [up_n (by omega), up_n (by omega)]; exact a3, by rw [up_n (by omega), up_n (by omega)]; exact a4, by rw [up_n (by omega), up_n (by omega)]; exact a5, by rw [up_n (by omega), up_n (by omega)]; exact a6, by rw [up_n (by omega), up_n (by omega)]; exact a7⟩, ⟨by rw [up_n (by omega), up_n (by omega)]; exact c1, by rw [up_n (by omega), up_n (by omega)]; exact c2⟩, fun d hd j hj => ?_, fun e he j hj => ?_, fun d hd => ?_, fun k hk => by omega⟩, PT_k (Al_PT b1 ha hp) (fun a j q1 q2 => kg a j (by omega))⟩
          · rw [← hn.2.1] at hd
            have hK := (WF_K b1).1
            rw [up_n (by omega), up_n (by omega)]; exact c3 d hd j hj
          · rw [← hn.2.2] at he
            by_cases z : e = c ∧ j = 4
            · rw [z.1, z.2, up_s, up_s]
            · rw [up_n (by omega), up_n (by omega)]; exact c4 e he j hj
          · rw [up_n (by omega), c5 d hd]
            unfold dn
            rw [n0, show nA B = 0 by omega]; rfl
        have v1 : f (12 + c) 4 = B (20 + c) 4 := ht.2.2.2.1 c (by omega) 4 (by omega)
        have hcl : (if B 0 7 ≤ 0 then (if 0 ≤ (c : Int) ∧ (c : Int) < 6 then (if 0 ≤ (c : Int) ∧ (c : Int) < 6 then some ((f (12 + (c : Int).toNat) 4), (up f (12 + (c : Int).toNat) 4 y)) else none) else none) else some ((-5), f)) = some (B (20 + c) 4, up f (12 + c) 4 y) := by
          rw [if_pos qa, if_pos (by omega), if_pos (by omega), Int.toNat_natCast, v1]
        generalize up f (12 + c) 4 y = g at kg cg hcl
        have mg := MO_4 b3 kg
        have v2 : (up g 150 0 0) 159 (5 * c + 4) = B (20 + c) 4 := mg.2.2.1 c (by omega) 4 (by omega)
        have m7 := mg.1.2.2.2.2.2.2.2.2
        have ic := isCart_e b1 mg (c : Int)
        refine ⟨B (20 + c) 4, g, up (up g 150 0 0) 159 (5 * c + 4) y, ?_, ?_, up B (20 + c) 4 y, Z, T, n, Ok_b hI hW kg cg (k0r g (Rw_159 (by omega))) ?_⟩
        · exact hcl
        · rw [ic, b2_some, if_pos q, if_neg (show ¬ (1 : Int) = 0 by decide), in_e, b2_some, if_pos qy, if_neg (show ¬ (1 : Int) = 0 by decide), m7, if_pos qa, i5 (c := c) (j := 4) (x := (c : Int)) (y := 4) rfl rfl (by omega) (by omega), if_pos (by omega), if_pos (by omega), Int.toNat_natCast, v2]
        · obtain ⟨a1, a2, a3, a4⟩ := mg
          refine ⟨?_, fun d hd j hj => ?_, fun e he j hj => ?_, fun k hk => by omega⟩
          · obtain ⟨s0, s1, s2, s3, s4, s5, s6, s7, s8⟩ := a1
            refine ⟨?_, ?_, ?_, ?_, ?_, ?_, ?_, ?_, ?_⟩ <;> rw [up_n (by omega), up_n (b := 0) (by omega)] <;> assumption
          · rw [← hn.2.1] at hd
            have hK := (WF_K b1).1
            rw [up_n (by omega), up_n (b := 10 + d) (by omega)]; exact a2 d hd j hj
          · rw [← hn.2.2] at he
            by_cases z : e = c ∧ j = 4
            · rw [z.1, z.2, up_s, up_s]
            · rw [up_n (by omega), up_n (b := 20 + e) (by omega)]; exact a3 e he j hj
      · refine ⟨-5, f, up f 150 0 0, ?_, ?_, B, Z, T, n, Iv_l hI k0⟩
        · rw [if_neg qa]
        · rw [isCart_e b1 m0, b2_some, if_pos q, if_neg (show ¬ (1 : Int) = 0 by decide), in_e, b2_some, if_pos qy, if_neg (show ¬ (1 : Int) = 0 by decide), m0.1.2.2.2.2.2.2.2.2, if_neg qa]
    · refine ⟨-2, f, up f 150 0 0, ?_, ?_, B, Z, T, n, Iv_l hI k0⟩
      · rw [if_pos q, if_neg (show ¬ (1 : Int) = 0 by decide), hpay, b2_some, if_neg qy, if_pos rfl]
      · rw [isCart_e b1 m0, b2_some, if_pos q, if_neg (show ¬ (1 : Int) = 0 by decide), in_e, b2_some, if_neg qy, if_pos rfl]
  · refine ⟨-2, f, up f 150 0 0, ?_, ?_, B, Z, T, n, Iv_l hI k0⟩
    · rw [if_neg q, if_pos rfl]
    · rw [isCart_e b1 m0, b2_some, if_neg q, if_pos rfl]

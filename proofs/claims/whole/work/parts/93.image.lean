/-! images -/
theorem im_c (f : Mm) {k : Nat} (hk : k < 3) : ∃ g, FX10_image (k : Int) f = some (0, up g 39 k 1) ∧ BCc (99 + 17 * k) 4 f g ∧ Kp (fun a _ => 99 + 17 * k ≤ a ∧ a ≤ 115 + 17 * k) f g := by
  rcases (show k = 0 ∨ k = 1 ∨ k = 2 by omega) with rfl | rfl | rfl
  · obtain ⟨g, e, c, q⟩ := become_99_4 f
    refine ⟨g, ?_, c, Kp_m q (fun a j z => by omega)⟩
    unfold FX10_image FX10_image_0
    rw [if_neg (by decide), if_pos (by decide), if_pos (by decide), e]
    rfl
  · obtain ⟨g, e, c, q⟩ := become_116_4 f
    refine ⟨g, ?_, c, Kp_m q (fun a j z => by omega)⟩
    unfold FX10_image FX10_image_0
    rw [if_neg (by decide), if_pos (by decide), if_neg (by decide), if_pos (by decide), e]
    rfl
  · obtain ⟨g, e, c, q⟩ := become_133_4 f
    refine ⟨g, ?_, c, Kp_m q (fun a j z => by omega)⟩
    unfold FX10_image FX10_image_0
    rw [if_neg (by decide), if_pos (by decide), if_neg (by decide), if_neg (by decide), if_pos (by decide), e]
    rfl
theorem bk_c (f : Mm) {k : Nat} (hk : k < 3) (hz : f 39 k ≠ 0) : ∃ g, FX10_back (k : Int) f = some (0, up g 57 0 0) ∧ BCc 4 (99 + 17 * k) f g ∧ Kp (fun a _ => 4 ≤ a ∧ a ≤ 20) f g := by
  rcases (show k = 0 ∨ k = 1 ∨ k = 2 by omega) with rfl | rfl | rfl
  · obtain ⟨g, e, c, q⟩ := become_4_99 f
    refine ⟨g, ?_, c, Kp_m q (fun a j z => by omega)⟩
    unfold FX10_back FX10_back_0
    rw [if_neg (by decide), if_pos (by decide), if_pos (by decide), Int.toNat_natCast, if_neg hz, if_pos (by decide), e]
    rfl
  · obtain ⟨g, e, c, q⟩ := become_4_116 f
    refine ⟨g, ?_, c, Kp_m q (fun a j z => by omega)⟩
    unfold FX10_back FX10_back_0
    rw [if_neg (by decide), if_pos (by decide), if_pos (by decide), Int.toNat_natCast, if_neg hz, if_neg (by decide), if_pos (by decide), e]
    rfl
  · obtain ⟨g, e, c, q⟩ := become_4_133 f
    refine ⟨g, ?_, c, Kp_m q (fun a j z => by omega)⟩
    unfold FX10_back FX10_back_0
    rw [if_neg (by decide), if_pos (by decide), if_pos (by decide), Int.toNat_natCast, if_neg hz, if_neg (by decide), if_neg (by decide), if_pos (by decide), e]
    rfl
/-- what an image may change -/
def Si (k a j : Nat) : Prop := (99 + 17 * k ≤ a ∧ a ≤ 115 + 17 * k) ∨ (a = 39 ∧ j = k) ∨ (a = 150 ∧ j = 0) ∨ (a = 161 ∧ j = k) ∨ Rw (1 + k) a j
theorem Si_n {k a j : Nat} (hk : k < 3) (h : a < 39 ∨ (40 ≤ a ∧ a ≤ 98) ∨ (a = 150 ∧ j ≠ 0) ∨ (151 ≤ a ∧ a ≤ 155) ∨ 162 ≤ a) : ¬ Si k a j := by
  rintro (q | q | q | q | q)
  · omega
  · omega
  · omega
  · omega
  · have := Rw_a q; omega
theorem Rw_d {r q a j : Nat} (h : Rw r a j) (hq : r ≠ q) : ¬ Rw q a j := by
  rcases h with h | h | h | h | h
  · rintro (z | z | z | z | z) <;> omega
  · rintro (z | z | z | z | z) <;> omega
  · rintro (z | z | z | z | z) <;> omega
  · rintro (z | z | z | z | z) <;> omega
  · rintro (z | z | z | z | z) <;> omega
theorem Iv_i {B Z f h : Mm} {T : Nat → Int} {n k : Nat} (hk : k < 3) (hI : Iv B Z T n f) (hs : Kp (Si k) f h) (h1 : h 39 k ≠ 0) (h2 : h 161 k ≠ 0) (hb : BM (99 + 17 * k) (1 + k) h) : Iv B Z T n h := by
  obtain ⟨⟨b1, b2', b3⟩, ⟨a1, a2⟩, a3, ⟨a4, a5, a6⟩, ⟨a7, a8, a9⟩, a10, a11⟩ := hI
  refine ⟨⟨b1, CM_k b1 b2' (fun a j z => hs a j (Si_n hk (by omega))), ?_⟩, ⟨by rw [hs 55 0 (Si_n hk (by omega))]; exact a1, by rw [hs 56 0 (Si_n hk (by omega))]; exact a2⟩, fun i hi => ?_, ⟨a4, CS_k a5 (fun a j x y => hs a j (Si_n hk (by omega))), MS_k a6 (fun a j x y => hs a j (Si_n hk (by omega)))⟩, ⟨a7, TPc_k a8 (fun a j x y => hs a j (Si_n hk (by omega))), TPm_k a9 (hs 150 6 (Si_n hk (by omega))) (fun j => hs 155 j (Si_n hk (by omega)))⟩, ?_, ?_⟩
  · refine MR_O.1 (MR_g b1 (MR_O.2 b3) (fun a j z => hs a j ?_))
    have ha := Rw_a z
    rintro (q | q | q | q | q)
    · omega
    · omega
    · omega
    · omega
    · exact Rw_d z (by omega) q
  · by_cases c : i = k
    · subst c; exact Or.inr ⟨h1, h2, hb⟩
    · have e1 : h 39 i = f 39 i := hs 39 i (by
        rintro (q | q | q | q | q)
        · omega
        · omega
        · omega
        · omega
        · have := Rw_a q; omega)
      have e2 : h 161 i = f 161 i := hs 161 i (by
        rintro (q | q | q | q | q)
        · omega
        · omega
        · omega
        · omega
        · have := Rw_a q; omega)
      rw [e1, e2]
      rcases a3 i hi with z | ⟨z1, z2, z3⟩
      · exact Or.inl z
      · refine Or.inr ⟨z1, z2, BM_g z3 (fun a j x y => hs a j ?_) (fun a j x => hs a j ?_)⟩
        · rintro (q | q | q | q | q)
          · omega
          · omega
          · omega
          · omega
          · have := Rw_a q; omega
        · have ha := Rw_a x
          rintro (q | q | q | q | q)
          · omega
          · omega
          · omega
          · omega
          · exact Rw_d x (by omega) q
  · rw [hs 1 0 (Si_n hk (by omega)), hs 150 14 (Si_n hk (by omega))]; exact a10
  · rw [hs 1 1 (Si_n hk (by omega)), hs 150 15 (Si_n hk (by omega))]; exact a11
theorem CE_c {x y : Nat} {f g : Mm} (h : CEb y f) (hc : BCc x y f g) : CEb x g := fun j hj => by rw [hc.1 j hj]; exact h j hj
theorem o_image (x : Int) : Ok (FX10_image x) (FX11_image x) := by
  rintro f ⟨B, Z, T, n, hI⟩
  have k0 := Kp_m0 f
  obtain ⟨b1, b2', b3⟩ := hI.1
  by_cases q : 0 ≤ x ∧ x ≤ 2
  · obtain ⟨k, hk⟩ : ∃ k : Nat, x = (k : Int) := ⟨x.toNat, by omega⟩
    subst hk
    have hk : k < 3 := by omega
    obtain ⟨g, e1, c1, k1⟩ := im_c f hk
    obtain ⟨h, e2, k2, m2⟩ := copyBridge_W (a := 0) (b := 1 + k) (by omega) (by omega) (by omega) (up (up g 39 k 1) 150 0 0)
    have ks : Kp (Si k) f (up h 161 k 1) := Kp_u (S := Si k) (Kp_t (S := Si k) (Kp_u (S := Si k) (Kp_u (S := Si k) (Kp_m (T := Si k) k1 (fun a j z => Or.inl z)) (Or.inr (Or.inl ⟨rfl, rfl⟩))) (Or.inr (Or.inr (Or.inl ⟨rfl, rfl⟩)))) (Kp_m (T := Si k) k2 (fun a j z => Or.inr (Or.inr (Or.inr (Or.inr z)))))) (Or.inr (Or.inr (Or.inr (Or.inl ⟨rfl, rfl⟩))))
    have n2 : ∀ a j, a < 156 → h a j = (up (up g 39 k 1) 150 0 0) a j := fun a j z => k2 a j (fun y => by have := Rw_a y; omega)
    refine ⟨0, _, up h 161 k 1, e1, ?_, B, Z, T, n, Iv_i hk hI ks ?_ (by rw [up_s]; decide) ⟨B, b1, ?_, ?_⟩⟩
    · unfold FX11_image FX11_image_0
      rw [in_e, b2_some, if_pos q, if_neg (show ¬ (1 : Int) = 0 by decide), w32n (x := 1 + (k : Int)) (n := 1 + k) (by omega) (by omega)]
      have e2' : FX11_copyBridge 0 ((1 + k : Nat) : Int) (up (up g 39 k 1) 150 0 0) = some h := e2
      rw [e2']
      simp only [Option.bind_some]
      rw [if_pos (by omega), Int.toNat_natCast]
    · rw [up_n (by omega), n2 39 k (by omega), up_n (by omega), up_s]; decide
    · refine MR_k (m2 B b1 (MR_k (MR_O.2 b3) (fun a j y z => ?_))) (fun a j y z => by rw [up_n (by omega)])
      rw [up_n (by omega), up_n (by omega), k1 a j (by omega)]
    · have ng : ∀ a j, 99 + 17 * k ≤ a → a ≤ 99 + 17 * k + 16 → (up h 161 k 1) a j = g a j := fun a j y z => by
        rw [up_n (by omega), n2 a j (by omega), up_n (by omega), up_n (by omega)]
      rcases b2' with ⟨h1, h2, h3⟩ | ⟨h1, h2⟩
      · exact Or.inl ⟨h1, CB_k (CB_c b1 h2 c1) ng b1⟩
      · exact Or.inr ⟨h1, fun j hj => by rw [ng _ j (by omega) (by omega)]; exact CE_c h2 c1 j hj⟩
  · refine ⟨-2, f, up f 150 0 0, ?_, ?_, B, Z, T, n, Iv_l hI k0⟩
    · unfold FX10_image FX10_image_0
      by_cases c : x < 0
      · rw [if_pos c]
      · rw [if_neg c, if_neg (by omega)]
    · unfold FX11_image FX11_image_0
      rw [in_e, b2_some, if_neg q, if_pos rfl]
theorem o_back (x : Int) : Ok (FX10_back x) (FX11_back x) := by
  rintro f ⟨B, Z, T, n, hI⟩
  have k0 := Kp_m0 f
  obtain ⟨b1, b2', b3⟩ := hI.1
  by_cases q : 0 ≤ x ∧ x ≤ 2
  · obtain ⟨k, hk⟩ : ∃ k : Nat, x = (k : Int) := ⟨x.toNat, by omega⟩
    subst hk
    have hk : k < 3 := by omega
    rcases hI.2.2.1 k hk with ⟨z1, z2⟩ | ⟨z1, z2, B', w1, w2, w3⟩
    · refine ⟨-6, f, up f 150 0 0, ?_, ?_, B, Z, T, n, Iv_l hI k0⟩
      · unfold FX10_back FX10_back_0
        rw [if_neg (by omega), if_pos (by omega), if_pos (by omega), Int.toNat_natCast, z1, if_pos rfl]
      · unfold FX11_back FX11_back_0
        rw [in_e, b2_some, if_pos q, if_neg (show ¬ (1 : Int) = 0 by decide), if_pos (by omega), Int.toNat_natCast, up_n (by omega), z2, if_pos rfl]
    · obtain ⟨g, e1, c1, k1⟩ := bk_c f hk z1
      obtain ⟨h, e2, k2, m2⟩ := copyBridge_W (a := 1 + k) (b := 0) (by omega) (by omega) (by omega) (up (up g 57 0 0) 150 0 0)
      have n2 : ∀ a j, a < 156 → h a j = (up (up g 57 0 0) 150 0 0) a j := fun a j z => k2 a j (fun y => by have := Rw_a y; omega)
      have ks : Kp Sb f h := Kp_t (S := Sb) (Kp_u (S := Sb) (Kp_u (S := Sb) (Kp_m (T := Sb) k1 (fun a j z => Or.inl (by omega))) (Or.inr (Or.inl (by omega)))) (Or.inr (Or.inr (Or.inl (by omega))))) (Kp_m (T := Sb) k2 (fun a j z => Sb_r z))
      have ng : ∀ a j, 4 ≤ a → a ≤ 4 + 16 → h a j = g a j := fun a j y z => by
        rw [n2 a j (by omega), up_n (by omega), up_n (by omega)]
      refine ⟨0, _, h, e1, ?_, B', Z, T, n, Iv_b hI ks w1 ?_ (MR_O.1 (m2 B' w1 (MR_k w2 (fun a j y z => ?_))))⟩
      · unfold FX11_back FX11_back_0
        have e3 : (up (up g 57 0 0) 150 0 0) 161 k = f 161 k := by rw [up_n (by omega), up_n (by omega), k1 161 k (by omega)]
        rw [in_e, b2_some, if_pos q, if_neg (show ¬ (1 : Int) = 0 by decide), if_pos (by omega), Int.toNat_natCast, e3, if_neg z2, w32n (x := 1 + (k : Int)) (n := 1 + k) (by omega) (by omega)]
        have e2' : FX11_copyBridge ((1 + k : Nat) : Int) 0 (up (up g 57 0 0) 150 0 0) = some h := e2
        rw [e2']
        rfl
      · rcases w3 with ⟨h1, h2⟩ | ⟨h1, h2⟩
        · refine Or.inl ⟨h1, CB_k (b := 4) (CB_c w1 h2 c1) ng w1, fun y => absurd ?_ y⟩
          rw [n2 57 0 (by omega), up_n (by omega), up_s]
        · exact Or.inr ⟨h1, fun j hj => by rw [ng _ j (by omega) (by omega)]; exact CE_c h2 c1 j hj⟩
      · rw [up_n (by omega), up_n (by omega), k1 a j (by omega)]
  · refine ⟨-2, f, up f 150 0 0, ?_, ?_, B, Z, T, n, Iv_l hI k0⟩
    · unfold FX10_back FX10_back_0
      by_cases c : x < 0
      · rw [if_pos c]
      · rw [if_neg c, if_neg (by omega)]
    · unfold FX11_back FX11_back_0
      rw [in_e, b2_some, if_neg q, if_pos rfl]

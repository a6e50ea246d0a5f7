/-! slots written -/
def Sl (a j : Nat) : Prop := (42 ≤ a ∧ a ≤ 47) ∨ (a = 150 ∧ j = 0) ∨ (151 ≤ a ∧ a ≤ 154)
theorem Iv_s {B Z Z' f h : Mm} {T : Nat → Int} {n : Nat} (hI : Iv B Z T n f) (hk : Kp Sl f h) (hZ : WZ Z') (hC : CS Z' h) (hM : MS Z' h) : Iv B Z' T n h := by
  obtain ⟨⟨b1, b2', b3⟩, ⟨a1, a2⟩, a3, _, ⟨a7, a8, a9⟩, a10, a11⟩ := hI
  have e : ∀ a j, ¬ ((42 ≤ a ∧ a ≤ 47) ∨ (a = 150 ∧ j = 0) ∨ (151 ≤ a ∧ a ≤ 154)) → h a j = f a j := fun a j z => hk a j z
  refine ⟨⟨b1, CM_k b1 b2' (fun a j z => e a j (by omega)), MO_k b3 (fun a j x y => e a j (by omega))⟩, ⟨by rw [e 55 0 (by omega)]; exact a1, by rw [e 56 0 (by omega)]; exact a2⟩, IM_k a3 (fun k => ⟨e 39 k (by omega), e 161 k (by omega)⟩) (fun a j x y => e a j (by omega)) (fun a j x y _ => e a j (by omega)), ⟨hZ, hC, hM⟩, ⟨a7, TPc_k a8 (fun a j x y => e a j (by omega)), TPm_k a9 (e 150 6 (by omega)) (fun j => e 155 j (by omega))⟩, ?_, ?_⟩
  · rw [e 1 0 (by omega), e 150 14 (by omega)]; exact a10
  · rw [e 1 1 (by omega), e 150 15 (by omega)]; exact a11
def roZ (Z : Mm) (s : Nat) (k m : Int) : Mm := fun t i => if t = s then (if i = 100 then m else if i = 101 then k else 0) else Z t i
theorem roZ_s (Z : Mm) (s : Nat) (k m : Int) : roZ Z s k m s 100 = m ∧ roZ Z s k m s 101 = k ∧ ∀ i, i < 100 → roZ Z s k m s i = 0 := by
  unfold roZ
  refine ⟨by rw [if_pos rfl, if_pos rfl], by rw [if_pos rfl, if_neg (by decide), if_pos rfl], fun i hi => by rw [if_pos rfl, if_neg (by omega), if_neg (by omega)]⟩
theorem roZ_n (Z : Mm) {s t : Nat} (h : t ≠ s) (k m : Int) (i : Nat) : roZ Z s k m t i = Z t i := by unfold roZ; rw [if_neg h]
theorem lay_W {s : Nat} (hs : s < 4) (k m : Int) (f : Mm) : Wp (FX6_lay (s : Int) k m f) (fun g => Kp (fun a j => (a = 46 ∧ j = s) ∨ (a = 47 ∧ j = s) ∨ a = 42 + s) f g ∧ g 46 s = m ∧ g 47 s = k ∧ ∀ i, i < 60 → g (42 + s) i = 0) := by
  unfold FX6_lay FX6_lay_0
  rw [if_pos (by omega), if_pos (by omega), Int.toNat_natCast]
  have h0 : Kp (fun a j => (a = 46 ∧ j = s) ∨ (a = 47 ∧ j = s) ∨ a = 42 + s) f (up (up f 46 s m) 47 s k) := Kp_u (Kp_u (Kp_r _ _) (by omega)) (by omega)
  have h1 : (up (up f 46 s m) 47 s k) 46 s = m := by rw [up_n (by omega), up_s]
  have h2 : (up (up f 46 s m) 47 s k) 47 s = k := by rw [up_s]
  generalize up (up f 46 s m) 47 s k = g0 at *
  refine forX (fun n x (t : Mm) => FX6_lay_17 n (s : Int) x t) (fun i t => Kp (fun a j => (a = 46 ∧ j = s) ∨ (a = 47 ∧ j = s) ∨ a = 42 + s) f t ∧ t 46 s = m ∧ t 47 s = k ∧ ∀ j, j < i → t (42 + s) j = 0) _ 60 ?_ ?_ fu 0 g0 ⟨h0, h1, h2, fun j hj => by omega⟩ (by omega) (by have := fub; omega)
  · rintro n t ⟨a1, a2, a3, a4⟩
    rw [FX6_lay_17, if_pos (by omega)]
    exact Wp_some ⟨a1, a2, a3, a4⟩
  · rintro n i t hi ⟨a1, a2, a3, a4⟩
    left
    rw [FX6_lay_17, if_neg (by omega), if_pos (by omega), if_pos (by omega), nx i (by omega), Int.toNat_natCast, Int.toNat_natCast]
    refine ⟨_, rfl, Kp_u a1 (by omega), by rw [up_n (by omega)]; exact a2, by rw [up_n (by omega)]; exact a3, fun j hj => ?_⟩
    by_cases q : j = i
    · subst q; rw [up_s]
    · rw [up_n (by omega)]; exact a4 j (by omega)
theorem mrow_W {s : Nat} (hs : s < 4) {m : Nat} (hm : m ≤ 60) (f : Mm) : Wp (FX11_row_57 fu (s : Int) (m : Int) 0 f) (fun p => p.1 = 0 ∧ Kp (fun a j => a = 153 ∧ 60 * s ≤ j ∧ j < 60 * s + 60) f p.2 ∧ ∀ i, i < m → p.2 153 (60 * s + i) = 0) := by
  refine forX (fun n x (t : Mm) => FX11_row_57 n (s : Int) (m : Int) x t) (fun i t => Kp (fun a j => a = 153 ∧ 60 * s ≤ j ∧ j < 60 * s + 60) f t ∧ ∀ j, j < i → t 153 (60 * s + j) = 0) _ m ?_ ?_ fu 0 f ⟨Kp_r _ _, fun j hj => by omega⟩ (by omega) (by have := fub; omega)
  · rintro n t ⟨a1, a2⟩
    rw [FX11_row_57, if_pos (by omega)]
    exact Wp_some ⟨rfl, a1, a2⟩
  · rintro n i t hi ⟨a1, a2⟩
    left
    rw [FX11_row_57, if_neg (by omega), w32n (x := 60 * (s : Int)) (n := 60 * s) (by omega) (by omega), w32n (x := ((60 * s : Nat) : Int) + (i : Int)) (n := 60 * s + i) (by omega) (by omega), if_pos (by omega), nx i (by omega), Int.toNat_natCast]
    refine ⟨_, rfl, Kp_u a1 (by omega), fun j hj => ?_⟩
    by_cases q : j = i
    · subst q; rw [up_s]
    · rw [up_n (by omega)]; exact a2 j (by omega)
theorem o_row (x y z : Int) : Ok (FX10_row x y z) (FX11_row x y z) := by
  rintro f ⟨B, Z, T, n, hI⟩
  have k0 := Kp_m0 f
  obtain ⟨z1, z2, z3⟩ := hI.2.2.2.1
  unfold FX10_row FX10_row_0 FX11_row FX11_row_0
  rw [isSlot_e, b2_some]
  by_cases q : 0 ≤ x ∧ x < 4
  · rw [if_pos q, if_neg (show ¬ (1 : Int) = 0 by decide)]
    by_cases qy : 0 ≤ y ∧ y ≤ 3
    · rw [if_neg (show ¬ y < 0 by omega), if_neg (show ¬ 4 ≤ y by omega)]
      by_cases qz : z ≤ 60
      · by_cases qw : 0 ≤ z
        · obtain ⟨s, hs⟩ : ∃ s : Nat, x = (s : Int) := ⟨x.toNat, by omega⟩
          obtain ⟨m, hm⟩ : ∃ m : Nat, z = (m : Int) := ⟨z.toNat, by omega⟩
          subst hs hm
          have hs : s < 4 := by omega
          obtain ⟨g, e1, k1, c1, c2, c3⟩ := lay_W hs y (m : Int) f
          obtain ⟨⟨v, h⟩, e2, r2, k2, c4⟩ := mrow_W hs (m := m) (by omega) (up (up (up g 150 0 0) 151 s y) 152 s (m : Int))
          simp only at r2 k2 c4
          subst r2
          refine ⟨0, g, h, ?_, ?_, B, roZ Z s y m, T, n, Iv_s hI ?_ ?_ ?_ ?_⟩
          · rw [if_pos qz, if_pos qw, e1]; rfl
          · rw [misSlot_e, b2_some, if_pos q, if_neg (show ¬ (1 : Int) = 0 by decide), in_e, b2_some, if_pos qy, if_neg (show ¬ (1 : Int) = 0 by decide), if_pos qz, if_pos qw, if_pos q, if_pos q, Int.toNat_natCast]
            exact e2
          · refine Kp_t (S := Sl) (Kp_u (S := Sl) (Kp_u (S := Sl) (Kp_u (S := Sl) (Kp_m (T := Sl) k1 (fun a j w => ?_)) ?_) ?_) ?_) (Kp_m (T := Sl) k2 (fun a j w => ?_))
            · unfold Sl; omega
            · unfold Sl; omega
            · unfold Sl; omega
            · unfold Sl; omega
            · unfold Sl; omega
          · intro t ht
            by_cases c : t = s
            · subst c
              rw [(roZ_s Z t y m).1, (roZ_s Z t y m).2.1]
              right; omega
            · rw [roZ_n Z c, roZ_n Z c]; exact z1 t ht
          · intro t ht
            have eh : ∀ a j, a < 150 → h a j = g a j := fun a j w => by rw [k2 a j (by omega), up_n (by omega), up_n (by omega), up_n (by omega)]
            by_cases c : t = s
            · subst c
              rw [(roZ_s Z t y m).1, (roZ_s Z t y m).2.1, eh 46 t (by omega), eh 47 t (by omega)]
              exact ⟨c1, fun _ => ⟨c2, fun i hi => by rw [(roZ_s Z t y m).2.2 i (by omega), eh _ i (by omega)]; exact c3 i (by omega)⟩⟩
            · rw [roZ_n Z c, roZ_n Z c, eh 46 t (by omega), eh 47 t (by omega), k1 46 t (by omega), k1 47 t (by omega)]
              refine ⟨(z2 t ht).1, fun w => ⟨((z2 t ht).2 w).1, fun i hi => ?_⟩⟩
              rw [roZ_n Z c, eh _ i (by omega), k1 _ i (by omega)]
              exact ((z2 t ht).2 w).2 i hi
          · intro t ht
            by_cases c : t = s
            · subst c
              rw [(roZ_s Z t y m).1, (roZ_s Z t y m).2.1]
              refine ⟨fun w => by omega, fun _ => ⟨by rw [k2 151 t (by omega), up_n (by omega), up_s], by rw [k2 152 t (by omega), up_s], fun i hi => by rw [(roZ_s Z t y m).2.2 i (by omega)]; exact c4 i (by omega)⟩⟩
            · have eh : ∀ a, a = 151 ∨ a = 152 → h a t = f a t := fun a w => by
                rw [k2 a t (by omega), up_n (by omega), up_n (by omega), up_n (by omega), k1 a t (by omega)]
              rw [roZ_n Z c, roZ_n Z c, eh 151 (by omega), eh 152 (by omega)]
              refine ⟨(z3 t ht).1, fun w => ⟨((z3 t ht).2 w).1, ((z3 t ht).2 w).2.1, fun i hi => ?_⟩⟩
              have hz := z1 t ht
              rw [roZ_n Z c, k2 153 _ (by omega), up_n (by omega), up_n (by omega), up_n (by omega), k1 153 _ (by omega)]
              exact ((z3 t ht).2 w).2.2 i hi
        · refine ⟨-3, f, up f 150 0 0, ?_, ?_, B, Z, T, n, Iv_l hI k0⟩
          · rw [if_pos qz, if_neg qw]
          · rw [misSlot_e, b2_some, if_pos q, if_neg (show ¬ (1 : Int) = 0 by decide), in_e, b2_some, if_pos qy, if_neg (show ¬ (1 : Int) = 0 by decide), if_pos qz, if_neg qw]
      · refine ⟨-2, f, up f 150 0 0, ?_, ?_, B, Z, T, n, Iv_l hI k0⟩
        · rw [if_neg qz]
        · rw [misSlot_e, b2_some, if_pos q, if_neg (show ¬ (1 : Int) = 0 by decide), in_e, b2_some, if_pos qy, if_neg (show ¬ (1 : Int) = 0 by decide), if_neg qz]
    · refine ⟨-2, f, up f 150 0 0, ?_, ?_, B, Z, T, n, Iv_l hI k0⟩
      · by_cases c : y < 0
        · rw [if_pos c]
        · rw [if_neg c, if_pos (by omega)]
      · rw [misSlot_e, b2_some, if_pos q, if_neg (show ¬ (1 : Int) = 0 by decide), in_e, b2_some, if_neg qy, if_pos rfl]
  · refine ⟨-2, f, up f 150 0 0, ?_, ?_, B, Z, T, n, Iv_l hI k0⟩
    · rw [if_neg q, if_pos rfl]
    · rw [misSlot_e, b2_some, if_neg q, if_pos rfl]
def ct (x k : Int) : Int := if k = 0 then w8 (w32 x) else if k = 1 then w16 (w32 x) else if k = 2 then w32 x else x
theorem cut_c (x k : Int) (f : Mm) : FX10_cut x k f = some (ct x k, f) := by
  unfold FX10_cut FX10_cut_0 ct
  repeat' split
  all_goals rfl
theorem cut_m (x k : Int) (f : Mm) : FX11_cut x k f = some (ct x k, f) := by
  unfold FX11_cut FX11_cut_0 ct
  repeat' split
  all_goals rfl
theorem m151 {Z g : Mm} (hZ : WZ Z) (hS : MS Z g) {s : Nat} (hs : s < 4) : g 151 s = -1 ↔ Z s 100 = -1 := by
  obtain ⟨h1, h2⟩ := hS s hs
  constructor
  · intro q
    by_cases c : Z s 100 = -1
    · exact c
    · have := (h2 c).1
      have := hZ s hs
      omega
  · exact h1
theorem o_write (x y z : Int) : Ok (FX10_write x y z) (FX11_write x y z) := by
  rintro f ⟨B, Z, T, n, hI⟩
  have k0 := Kp_m0 f
  obtain ⟨z1, z2, z3⟩ := hI.2.2.2.1
  have s0 := MS_s z3 k0
  unfold FX10_write FX10_write_0 FX11_write FX11_write_0
  rw [isSlot_e, b2_some]
  by_cases q : 0 ≤ x ∧ x < 4
  · obtain ⟨s, hs'⟩ : ∃ s : Nat, x = (s : Int) := ⟨x.toNat, by omega⟩
    subst hs'
    have hs : s < 4 := by omega
    rw [if_pos q, if_neg (show ¬ (1 : Int) = 0 by decide), hasRow_e z2 hs, b2_some]
    by_cases qr : Z s 100 = -1
    · refine ⟨-6, f, up f 150 0 0, ?_, ?_, B, Z, T, n, Iv_l hI k0⟩
      · rw [if_pos qr, if_pos rfl]
      · rw [misSlot_e, b2_some, if_pos q, if_neg (show ¬ (1 : Int) = 0 by decide), if_pos q, Int.toNat_natCast, if_pos ((m151 z1 s0 hs).2 qr)]
    · obtain ⟨w1, w2⟩ := z2 s hs
      obtain ⟨w3, w4⟩ := w2 qr
      obtain ⟨u1, u2, u3⟩ := (z3 s hs).2 qr
      have hz : (0 ≤ Z s 100 ∧ Z s 100 ≤ 60) ∧ (0 ≤ Z s 101 ∧ Z s 101 ≤ 3) := by rcases z1 s hs with c | c; exact absurd c qr; exact c
      by_cases qy : 0 ≤ y ∧ y < Z s 100
      · obtain ⟨i, hi'⟩ : ∃ i : Nat, y = (i : Int) := ⟨y.toNat, by omega⟩
        subst hi'
        have n151 : ∀ a, 151 ≤ a → a ≤ 153 → ∀ j, (up (up f (42 + s) i (ct z (Z s 101))) 150 0 0) a j = f a j := fun a _ _ j => by rw [up_n (by omega), up_n (by omega)]
        have s1 : MS Z (up (up f (42 + s) i (ct z (Z s 101))) 150 0 0) := MS_k z3 (fun a j c1 c2 => n151 a c1 c2 j)
        have e100 : ∀ t, (up Z s i (ct z (Z s 101))) t 100 = Z t 100 ∧ (up Z s i (ct z (Z s 101))) t 101 = Z t 101 := fun t => ⟨by rw [up_n (by omega)], by rw [up_n (by omega)]⟩
        refine ⟨0, up f (42 + s) i (ct z (Z s 101)), up (up (up f (42 + s) i (ct z (Z s 101))) 150 0 0) 153 (60 * s + i) (ct z (Z s 101)), ?_, ?_, B, up Z s i (ct z (Z s 101)), T, n, Iv_s hI (Kp_u (S := Sl) (Kp_u (S := Sl) (Kp_u (S := Sl) (Kp_r _ _) (by unfold Sl; omega)) (by unfold Sl; omega)) (by unfold Sl; omega)) ?_ ?_ ?_⟩
        · rw [if_neg qr, if_neg (show ¬ (1 : Int) = 0 by decide), if_neg (by omega), if_pos q, Int.toNat_natCast, w1, if_pos (by omega), if_pos q, if_pos q, w3, cut_c, b2_some, if_pos (by omega), Int.toNat_natCast]
        · rw [misSlot_e, b2_some, if_pos q, if_neg (show ¬ (1 : Int) = 0 by decide), if_pos q, Int.toNat_natCast, if_neg (fun c => qr ((m151 z1 s1 hs).1 c)), if_pos q, n151 152 (by omega) (by omega), u2, in_e, b2_some, w32s (by omega) (by omega), if_pos (show 0 ≤ (i : Int) ∧ (i : Int) ≤ Z s 100 - 1 by omega), if_neg (show ¬ (1 : Int) = 0 by decide), if_pos q, n151 151 (by omega) (by omega), u1, cut_m, b2_some, w32n (x := 60 * (s : Int)) (n := 60 * s) (by omega) (by omega), w32n (x := ((60 * s : Nat) : Int) + (i : Int)) (n := 60 * s + i) (by omega) (by omega), if_pos (by omega), Int.toNat_natCast]
        · intro t ht
          rw [(e100 t).1, (e100 t).2]; exact z1 t ht
        · intro t ht
          rw [(e100 t).1, (e100 t).2, up_n (by omega), up_n (by omega), up_n (by omega), up_n (by omega), up_n (by omega), up_n (by omega)]
          refine ⟨(z2 t ht).1, fun c => ⟨((z2 t ht).2 c).1, fun j hj => ?_⟩⟩
          rw [up_n (a := 153) (by omega), up_n (a := 150) (by omega)]
          by_cases d : t = s ∧ j = i
          · rw [d.1, d.2, up_s, up_s]
          · rw [up_n (by omega), up_n (by omega)]; exact ((z2 t ht).2 c).2 j hj
        · intro t ht
          have hzt := z1 t ht
          rw [(e100 t).1, (e100 t).2, up_n (by omega), up_n (by omega), up_n (by omega), up_n (by omega), up_n (by omega), up_n (by omega)]
          refine ⟨(z3 t ht).1, fun c => ⟨((z3 t ht).2 c).1, ((z3 t ht).2 c).2.1, fun j hj => ?_⟩⟩
          by_cases d : t = s ∧ j = i
          · rw [d.1, d.2, up_s, up_s]
          · rw [up_n (b := t) (by omega), up_n (by omega), up_n (by omega), up_n (by omega)]; exact ((z3 t ht).2 c).2.2 j hj
      · refine ⟨-7, f, up f 150 0 0, ?_, ?_, B, Z, T, n, Iv_l hI k0⟩
        · rw [if_neg qr, if_neg (show ¬ (1 : Int) = 0 by decide)]
          by_cases c : y < 0
          · rw [if_pos c]
          · rw [if_neg c, if_pos q, Int.toNat_natCast, w1, if_neg (by omega)]
        · rw [misSlot_e, b2_some, if_pos q, if_neg (show ¬ (1 : Int) = 0 by decide), if_pos q, Int.toNat_natCast, if_neg (fun c => qr ((m151 z1 s0 hs).1 c)), if_pos q, up_n (by omega), u2, in_e, b2_some, w32s (by omega) (by omega), if_neg (show ¬ (0 ≤ y ∧ y ≤ Z s 100 - 1) by omega), if_pos rfl]
  · refine ⟨-2, f, up f 150 0 0, ?_, ?_, B, Z, T, n, Iv_l hI k0⟩
    · rw [if_neg q, if_pos rfl]
    · rw [misSlot_e, b2_some, if_neg q, if_pos rfl]

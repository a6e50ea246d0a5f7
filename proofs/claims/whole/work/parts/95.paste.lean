/-! pasting -/
theorem reach_e {Z f : Mm} (hS : CS Z f) {s : Nat} (hs : s < 4) (hr : Z s 100 ≠ -1) (hz : 0 ≤ Z s 100 ∧ Z s 100 ≤ 60) (y w : Int) (hw : r32 w) : FX6_reaches (s : Int) y w f = some (if 0 ≤ y ∧ 0 ≤ w ∧ y + w ≤ Z s 100 then 1 else 0, f) := by
  obtain ⟨r1, r2⟩ := hw
  unfold FX6_reaches FX6_reaches_0
  by_cases c1 : y < 0
  · rw [if_pos c1, if_neg (by omega)]
  · rw [if_neg c1]
    by_cases c2 : w < 0
    · rw [if_pos c2, if_neg (by omega)]
    · rw [if_neg c2, if_pos (by omega), Int.toNat_natCast, (hS s hs).1, w32s (by omega) (by omega)]
      by_cases c3 : Z s 100 - w < y
      · rw [if_pos c3, if_neg (by omega)]
      · rw [if_neg c3, if_pos (by omega)]
def paZ (Z : Mm) (a sp b dp m : Nat) : Mm := fun t j => if t = b ∧ dp ≤ j ∧ j < dp + m then Z a (sp + (j - dp)) else Z t j
theorem paZ_h {Z : Mm} {a sp b dp m t : Nat} (h : dp + m ≤ 60) : paZ Z a sp b dp m t 100 = Z t 100 ∧ paZ Z a sp b dp m t 101 = Z t 101 := by
  unfold paZ
  exact ⟨by rw [if_neg (by omega)], by rw [if_neg (by omega)]⟩
theorem paste2_W {b dp m : Nat} (hb : b < 4) (hm : dp + m ≤ 60) (f : Mm) : Wp (FX11_paste_155 fu (b : Int) (dp : Int) (m : Int) 0 f) (fun p => p.1 = 0 ∧ Kp (fun a j => a = 153 ∧ 60 * b + dp ≤ j ∧ j < 60 * b + dp + m) f p.2 ∧ ∀ i, i < m → p.2 153 (60 * b + dp + i) = f 154 i) := by
  refine forX (fun n x (t : Mm) => FX11_paste_155 n (b : Int) (dp : Int) (m : Int) x t) (fun i t => Kp (fun a j => a = 153 ∧ 60 * b + dp ≤ j ∧ j < 60 * b + dp + m) f t ∧ ∀ j, j < i → t 153 (60 * b + dp + j) = f 154 j) _ m ?_ ?_ fu 0 f ⟨Kp_r _ _, fun j hj => by omega⟩ (by omega) (by have := fub; omega)
  · rintro n t ⟨a1, a2⟩
    rw [FX11_paste_155, if_pos (by omega)]
    exact Wp_some ⟨rfl, a1, a2⟩
  · rintro n i t hi ⟨a1, a2⟩
    left
    rw [FX11_paste_155, if_neg (by omega), if_pos (by omega), w32n (x := 60 * (b : Int)) (n := 60 * b) (by omega) (by omega), w32n (x := ((60 * b : Nat) : Int) + (dp : Int)) (n := 60 * b + dp) (by omega) (by omega), w32n (x := ((60 * b + dp : Nat) : Int) + (i : Int)) (n := 60 * b + dp + i) (by omega) (by omega), if_pos (by omega), nx i (by omega), Int.toNat_natCast, Int.toNat_natCast, a1 154 i (by omega)]
    refine ⟨_, rfl, Kp_u a1 (by omega), fun j hj => ?_⟩
    by_cases q : j = i
    · subst q; rw [up_s]
    · rw [up_n (by omega)]; exact a2 j (by omega)
theorem paste1_W {a sp b dp m : Nat} (ha : a < 4) (hb : b < 4) (hs : sp + m ≤ 60) (hm : dp + m ≤ 60) (f : Mm) : Wp (FX11_paste_118 fu (a : Int) (sp : Int) (b : Int) (dp : Int) (m : Int) 0 f) (fun p => p.1 = 0 ∧ Kp (fun c j => c = 154 ∨ (c = 153 ∧ 60 * b + dp ≤ j ∧ j < 60 * b + dp + m)) f p.2 ∧ ∀ i, i < m → p.2 153 (60 * b + dp + i) = f 153 (60 * a + sp + i)) := by
  refine forX (fun n x (t : Mm) => FX11_paste_118 n (a : Int) (sp : Int) (b : Int) (dp : Int) (m : Int) x t) (fun i t => Kp (fun c j => c = 154) f t ∧ ∀ j, j < i → t 154 j = f 153 (60 * a + sp + j)) _ m ?_ ?_ fu 0 f ⟨Kp_r _ _, fun j hj => by omega⟩ (by omega) (by have := fub; omega)
  · rintro n t ⟨a1, a2⟩
    rw [FX11_paste_118, if_pos (by omega)]
    unfold FX11_paste_152
    refine Wp_mono (paste2_W hb hm t) (fun p ⟨q1, q2, q3⟩ => ⟨q1, Kp_t (Kp_m a1 (fun c j z => Or.inl z)) (Kp_m q2 (fun c j z => Or.inr z)), fun i hi => ?_⟩)
    rw [q3 i hi, a2 i hi]
  · rintro n i t hi ⟨a1, a2⟩
    left
    rw [FX11_paste_118, if_neg (by omega), w32n (x := 60 * (a : Int)) (n := 60 * a) (by omega) (by omega), w32n (x := ((60 * a : Nat) : Int) + (sp : Int)) (n := 60 * a + sp) (by omega) (by omega), w32n (x := ((60 * a + sp : Nat) : Int) + (i : Int)) (n := 60 * a + sp + i) (by omega) (by omega), if_pos (by omega), if_pos (by omega), nx i (by omega), Int.toNat_natCast, Int.toNat_natCast, a1 153 _ (by omega)]
    refine ⟨_, rfl, Kp_u a1 rfl, fun j hj => ?_⟩
    by_cases q : j = i
    · subst q; rw [up_s]
    · rw [up_n (by omega)]; exact a2 j (by omega)
theorem cmp_q {a b : Int} : (cmp3 a b ≤ 0 ↔ a ≤ b) ∧ (0 < cmp3 a b ↔ b < a) := by
  unfold cmp3
  repeat' split
  all_goals omega
theorem o_paste (x y z u w : Int) (hy : r32 y) (hu : r32 u) (hw : r32 w) : Ok (FX10_paste x y z u w) (FX11_paste x y z u w) := by
  rintro f ⟨B, Z, T, n, hI⟩
  have k0 := Kp_m0 f
  obtain ⟨z1, z2, z3⟩ := hI.2.2.2.1
  have s0 := MS_s z3 k0
  have k1 : ¬ (1 : Int) = 0 := by decide
  unfold FX10_paste FX10_paste_0 FX11_paste FX11_paste_0
  by_cases q : 0 ≤ x ∧ x < 4
  · by_cases qz : 0 ≤ z ∧ z < 4
    · obtain ⟨a, ha'⟩ : ∃ s : Nat, x = (s : Int) := ⟨x.toNat, by omega⟩
      obtain ⟨b, hb'⟩ : ∃ s : Nat, z = (s : Int) := ⟨z.toNat, by omega⟩
      subst ha' hb'
      have ha : a < 4 := by omega
      have hb : b < 4 := by omega
      by_cases qa : Z a 100 = -1
      · refine ⟨-6, f, up f 150 0 0, ?_, ?_, B, Z, T, n, Iv_l hI k0⟩
        · rw [isSlot_e, b2_some, if_pos q, if_neg k1, isSlot_e, b2_some, if_pos qz, if_neg k1, hasRow_e z2 ha, b2_some, if_pos qa, if_pos rfl]
        · rw [misSlot_e, b2_some, if_pos q, if_neg k1, misSlot_e, b2_some, if_pos qz, if_neg k1, if_pos q, Int.toNat_natCast, if_pos ((m151 z1 s0 ha).2 qa)]
      · by_cases qb : Z b 100 = -1
        · refine ⟨-6, f, up f 150 0 0, ?_, ?_, B, Z, T, n, Iv_l hI k0⟩
          · rw [isSlot_e, b2_some, if_pos q, if_neg k1, isSlot_e, b2_some, if_pos qz, if_neg k1, hasRow_e z2 ha, b2_some, if_neg qa, if_neg k1, hasRow_e z2 hb, b2_some, if_pos qb, if_pos rfl]
          · rw [misSlot_e, b2_some, if_pos q, if_neg k1, misSlot_e, b2_some, if_pos qz, if_neg k1, if_pos q, Int.toNat_natCast, Int.toNat_natCast, if_neg (fun c => qa ((m151 z1 s0 ha).1 c)), if_pos qz, if_pos ((m151 z1 s0 hb).2 qb)]
        · obtain ⟨c1, c2⟩ := z2 a ha
          obtain ⟨c3, c4⟩ := c2 qa
          obtain ⟨d1, d2⟩ := z2 b hb
          obtain ⟨d3, d4⟩ := d2 qb
          obtain ⟨u1, u2, u3⟩ := (z3 a ha).2 qa
          obtain ⟨v1, v2, v3⟩ := (z3 b hb).2 qb
          have hza : (0 ≤ Z a 100 ∧ Z a 100 ≤ 60) ∧ (0 ≤ Z a 101 ∧ Z a 101 ≤ 3) := by rcases z1 a ha with c | c; exact absurd c qa; exact c
          have hzb : (0 ≤ Z b 100 ∧ Z b 100 ≤ 60) ∧ (0 ≤ Z b 101 ∧ Z b 101 ≤ 3) := by rcases z1 b hb with c | c; exact absurd c qb; exact c
          by_cases qk : Z a 101 = Z b 101
          · by_cases qn : (0 ≤ y ∧ 0 ≤ w ∧ y + w ≤ Z a 100) ∧ (0 ≤ u ∧ 0 ≤ w ∧ u + w ≤ Z b 100)
            · obtain ⟨qn1, qn2⟩ := qn
              obtain ⟨sp, hsp⟩ : ∃ s : Nat, y = (s : Int) := ⟨y.toNat, by omega⟩
              obtain ⟨dp, hdp⟩ : ∃ s : Nat, u = (s : Int) := ⟨u.toNat, by omega⟩
              obtain ⟨m, hm⟩ : ∃ s : Nat, w = (s : Int) := ⟨w.toNat, by omega⟩
              subst hsp hdp hm
              have hcl : ∀ c j, c < 42 ∨ 46 ≤ c → cpy f (42 + a) sp (42 + b) dp m c j = f c j := fun c j z => by unfold cpy; rw [if_neg (by omega)]
              have hc2 : ∀ t j, t < 4 → cpy f (42 + a) sp (42 + b) dp m (42 + t) j = if t = b ∧ dp ≤ j ∧ j < dp + m then f (42 + a) (sp + (j - dp)) else f (42 + t) j := fun t j ht => by
                unfold cpy
                by_cases c : t = b ∧ dp ≤ j ∧ j < dp + m
                · rw [if_pos c, if_pos (by omega)]
                · rw [if_neg c, if_neg (by omega)]
              have hcc : (if 0 ≤ (sp : Int) ∧ 0 ≤ (dp : Int) ∧ 0 ≤ (m : Int) ∧ (sp : Int) + (m : Int) ≤ 60 ∧ (dp : Int) + (m : Int) ≤ 60 then some ((0 : Int), (cpy f (42 + (a : Int).toNat) (sp : Int).toNat (42 + (b : Int).toNat) (dp : Int).toNat (m : Int).toNat)) else none) = some (0, cpy f (42 + a) sp (42 + b) dp m) := by
                rw [if_pos (by omega), Int.toNat_natCast, Int.toNat_natCast, Int.toNat_natCast, Int.toNat_natCast, Int.toNat_natCast]
              have kc : Kp Sl f (cpy f (42 + a) sp (42 + b) dp m) := fun c j z => hcl c j (by unfold Sl at z; omega)
              generalize cpy f (42 + a) sp (42 + b) dp m = g at *
              have n151 : ∀ c, 151 ≤ c → c ≤ 153 → ∀ j, (up g 150 0 0) c j = f c j := fun c _ _ j => by rw [up_n (by omega), hcl c j (by omega)]
              have s1 : MS Z (up g 150 0 0) := MS_k z3 (fun c j e1 e2 => n151 c e1 e2 j)
              obtain ⟨⟨v, h⟩, e2, r2, l2, p2⟩ := paste1_W (sp := sp) (dp := dp) (m := m) ha hb (by omega) (by omega) (up g 150 0 0)
              simp only at r2 l2 p2
              subst r2
              have hh : ∀ c j, c < 150 → h c j = g c j := fun c j z => by rw [l2 c j (by omega), up_n (by omega)]
              refine ⟨0, g, h, ?_, ?_, B, paZ Z a sp b dp m, T, n, Iv_s hI (Kp_t (Kp_u kc (by unfold Sl; omega)) (Kp_m l2 (fun c j z => by unfold Sl; omega))) ?_ ?_ ?_⟩
              · rw [isSlot_e, b2_some, if_pos q, if_neg k1, isSlot_e, b2_some, if_pos qz, if_neg k1, hasRow_e z2 ha, b2_some, if_neg qa, if_neg k1, hasRow_e z2 hb, b2_some, if_neg qb, if_neg k1, if_pos q, if_pos qz]
                rw [show f 47 (a : Int).toNat = f 47 (b : Int).toNat from (by rw [Int.toNat_natCast, Int.toNat_natCast, c3, d3]; exact qk), if_pos rfl, reach_e z2 ha qa hza.1 _ _ hw, b2_some, if_pos qn1, if_neg k1, reach_e z2 hb qb hzb.1 _ _ hw, b2_some, if_pos qn2, if_neg k1, if_pos q, if_pos qz]
                exact hcc
              · rw [misSlot_e, b2_some, if_pos q, if_neg k1, misSlot_e, b2_some, if_pos qz, if_neg k1, if_pos q, Int.toNat_natCast, Int.toNat_natCast, if_neg (fun c => qa ((m151 z1 s1 ha).1 c)), if_pos qz, if_neg (fun c => qb ((m151 z1 s1 hb).1 c)), if_pos q, if_pos qz, n151 151 (by omega) (by omega), n151 151 (by omega) (by omega), u1, v1, if_pos qk, if_neg (by omega), if_neg (by omega), if_neg (by omega), if_pos q, n151 152 (by omega) (by omega), n151 152 (by omega) (by omega), u2, v2, w64s (by omega) (by omega), w64s (by omega) (by omega), if_neg (fun c => absurd (cmp_q.2.1 c) (by omega)), if_pos qz, if_pos (cmp_q.1.2 (by omega))]
                exact e2
              · intro t ht
                rw [(paZ_h (by omega)).1, (paZ_h (by omega)).2]; exact z1 t ht
              · intro t ht
                rw [(paZ_h (by omega)).1, (paZ_h (by omega)).2, hh 46 t (by omega), hh 47 t (by omega), hcl 46 t (by omega), hcl 47 t (by omega)]
                refine ⟨(z2 t ht).1, fun c => ⟨((z2 t ht).2 c).1, fun j hj => ?_⟩⟩
                rw [hh (42 + t) j (by omega), hc2 t j ht]
                unfold paZ
                by_cases d : t = b ∧ dp ≤ j ∧ j < dp + m
                · rw [if_pos d, if_pos d]; exact c4 _ (by omega)
                · rw [if_neg d, if_neg d]; exact ((z2 t ht).2 c).2 j hj
              · intro t ht
                have hzt := z1 t ht
                rw [(paZ_h (by omega)).1, (paZ_h (by omega)).2, l2 151 t (by omega), l2 152 t (by omega), n151 151 (by omega) (by omega), n151 152 (by omega) (by omega)]
                refine ⟨(z3 t ht).1, fun c => ⟨((z3 t ht).2 c).1, ((z3 t ht).2 c).2.1, fun j hj => ?_⟩⟩
                unfold paZ
                by_cases d : t = b ∧ dp ≤ j ∧ j < dp + m
                · rw [if_pos d]
                  have p3 := p2 (j - dp) (by omega)
                  rw [show 60 * b + dp + (j - dp) = 60 * t + j by omega, n151 153 (by omega) (by omega), show 60 * a + sp + (j - dp) = 60 * a + (sp + (j - dp)) by omega] at p3
                  rw [p3]; exact u3 _ (by omega)
                · rw [if_neg d, l2 153 _ (by omega), n151 153 (by omega) (by omega)]; exact ((z3 t ht).2 c).2.2 j hj
            · refine ⟨-7, f, up f 150 0 0, ?_, ?_, B, Z, T, n, Iv_l hI k0⟩
              · rw [isSlot_e, b2_some, if_pos q, if_neg k1, isSlot_e, b2_some, if_pos qz, if_neg k1, hasRow_e z2 ha, b2_some, if_neg qa, if_neg k1, hasRow_e z2 hb, b2_some, if_neg qb, if_neg k1, if_pos q, if_pos qz]
                rw [show f 47 (a : Int).toNat = f 47 (b : Int).toNat from (by rw [Int.toNat_natCast, Int.toNat_natCast, c3, d3]; exact qk), if_pos rfl, reach_e z2 ha qa hza.1 _ _ hw, b2_some]
                by_cases qn1 : 0 ≤ y ∧ 0 ≤ w ∧ y + w ≤ Z a 100
                · rw [if_pos qn1, if_neg k1, reach_e z2 hb qb hzb.1 _ _ hw, b2_some, if_neg (fun c => qn ⟨qn1, c⟩), if_pos rfl]
                · rw [if_neg qn1, if_pos rfl]
              · obtain ⟨y1, y2⟩ := hy
                obtain ⟨y3, y4⟩ := hu
                obtain ⟨y5, y6⟩ := hw
                rw [misSlot_e, b2_some, if_pos q, if_neg k1, misSlot_e, b2_some, if_pos qz, if_neg k1, if_pos q, Int.toNat_natCast, Int.toNat_natCast, if_neg (fun c => qa ((m151 z1 s0 ha).1 c)), if_pos qz, if_neg (fun c => qb ((m151 z1 s0 hb).1 c)), if_pos q, if_pos qz, up_n (by omega), up_n (by omega), u1, v1, if_pos qk]
                by_cases e1 : y < 0
                · rw [if_pos e1]
                · rw [if_neg e1]
                  by_cases e2 : u < 0
                  · rw [if_pos e2]
                  · rw [if_neg e2]
                    by_cases e3 : w < 0
                    · rw [if_pos e3]
                    · rw [if_neg e3, if_pos q, up_n (by omega), up_n (by omega), u2, v2, w64s (by omega) (by omega), w64s (by omega) (by omega)]
                      by_cases e4 : Z a 100 < y + w
                      · rw [if_pos (cmp_q.2.2 e4)]
                      · rw [if_neg (fun c => e4 (cmp_q.2.1 c)), if_pos qz, if_neg (fun c => qn ⟨by omega, by have := cmp_q.1.1 c; omega⟩)]
          · refine ⟨-8, f, up f 150 0 0, ?_, ?_, B, Z, T, n, Iv_l hI k0⟩
            · rw [isSlot_e, b2_some, if_pos q, if_neg k1, isSlot_e, b2_some, if_pos qz, if_neg k1, hasRow_e z2 ha, b2_some, if_neg qa, if_neg k1, hasRow_e z2 hb, b2_some, if_neg qb, if_neg k1, if_pos q, if_pos qz, Int.toNat_natCast, Int.toNat_natCast, c3, d3, if_neg qk]
            · rw [misSlot_e, b2_some, if_pos q, if_neg k1, misSlot_e, b2_some, if_pos qz, if_neg k1, if_pos q, Int.toNat_natCast, Int.toNat_natCast, if_neg (fun c => qa ((m151 z1 s0 ha).1 c)), if_pos qz, if_neg (fun c => qb ((m151 z1 s0 hb).1 c)), if_pos q, if_pos qz, up_n (by omega), up_n (by omega), u1, v1, if_neg qk]
    · refine ⟨-2, f, up f 150 0 0, ?_, ?_, B, Z, T, n, Iv_l hI k0⟩
      · rw [isSlot_e, b2_some, if_pos q, if_neg k1, isSlot_e, b2_some, if_neg qz, if_pos rfl]
      · rw [misSlot_e, b2_some, if_pos q, if_neg k1, misSlot_e, b2_some, if_neg qz, if_pos rfl]
  · refine ⟨-2, f, up f 150 0 0, ?_, ?_, B, Z, T, n, Iv_l hI k0⟩
    · rw [isSlot_e, b2_some, if_neg q, if_pos rfl]
    · rw [misSlot_e, b2_some, if_neg q, if_pos rfl]

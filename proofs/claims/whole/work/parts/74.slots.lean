/-! SLOTS: what stands there, and what is wrong with it -/
def CS (Z f : Mm) : Prop := ∀ s, s < 4 → f 46 s = Z s 100 ∧ (Z s 100 ≠ -1 → f 47 s = Z s 101 ∧ ∀ i : Nat, (i : Int) < Z s 100 → f (42 + s) i = Z s i)
def MS (Z f : Mm) : Prop := ∀ s, s < 4 → (Z s 100 = -1 → f 151 s = -1) ∧ (Z s 100 ≠ -1 → f 151 s = Z s 101 ∧ f 152 s = Z s 100 ∧ ∀ i : Nat, (i : Int) < Z s 100 → f 153 (60 * s + i) = Z s i)
def WZ (Z : Mm) : Prop := ∀ s, s < 4 → Z s 100 = -1 ∨ ((0 ≤ Z s 100 ∧ Z s 100 ≤ 60) ∧ (0 ≤ Z s 101 ∧ Z s 101 ≤ 3))
theorem CS_s {Z f g : Mm} (h : CS Z f) (hk : Kp Sw f g) : CS Z g := fun s hs => by
  obtain ⟨h1, h2⟩ := h s hs
  have e : ∀ a j, a < 48 → g a j = f a j := fun a j ha => hk a j (fun q => by unfold Sw Sc at q; omega)
  refine ⟨by rw [e 46 s (by decide)]; exact h1, fun q => ⟨by rw [e 47 s (by decide)]; exact (h2 q).1, fun i hi => by rw [e (42 + s) i (by omega)]; exact (h2 q).2 i hi⟩⟩
theorem Sc_w {f g : Mm} (h : Kp Sc f g) : Kp Sw f g := Kp_m h (fun _ _ => Or.inl)
theorem MS_s {Z f g : Mm} (h : MS Z f) (hk : Kp Sm f g) : MS Z g := fun s hs => by
  obtain ⟨h1, h2⟩ := h s hs
  have e : ∀ a j, 151 ≤ a → a ≤ 153 → g a j = f a j := fun a j h1 h2 => hk a j (fun q => by unfold Sm at q; omega)
  refine ⟨fun q => by rw [e 151 s (by decide) (by decide)]; exact h1 q, fun q => ⟨by rw [e 151 s (by decide) (by decide)]; exact (h2 q).1, by rw [e 152 s (by decide) (by decide)]; exact (h2 q).2.1, fun i hi => by rw [e 153 _ (by decide) (by decide)]; exact (h2 q).2.2 i hi⟩⟩
/-- looks that read a SLOT too -/
def ZC (B Z : Mm) (F : Mm → Option (Int × Mm)) (v : Int) : Prop := ∀ f, CI B f → CS Z f → Wp (F f) (fun p => p.1 = v ∧ Kp Sc f p.2)
def ZP (B Z : Mm) (F : Mm → Option (Int × Mm)) (v : Int) : Prop := ∀ f, CI B f → CS Z f → PT B f → Wp (F f) (fun p => p.1 = v ∧ Kp Sw f p.2 ∧ PT B p.2)
def ZN (B Z : Mm) (F : Mm → Option (Int × Mm)) (v : Int) : Prop := ∀ f, MO B f → MS Z f → Wp (F f) (fun p => p.1 = v ∧ Kp Sm f p.2)
def bdW (B : Mm) (z : Nat → Int) (j : Nat) : Bool := decide (¬ (0 ≤ z (2 * j) ∧ z (2 * j) < (nD B : Int) ∧ 0 ≤ z (2 * j + 1) ∧ z (2 * j + 1) ≤ 60))
def wW (B Z : Mm) (x : Int) : Int := if ¬ (0 ≤ x ∧ x < 4 ∧ 0 < B 0 8) then -2 else if Z x.toNat 100 = -1 then -6 else if Z x.toNat 100 % 2 ≠ 0 then -2 else if ff (bdW B (Z x.toNat)) (Z x.toNat 100 / 2).toNat = -1 then 0 else -2
theorem isSlot_e (x : Int) (f : Mm) : FX10_isSlot x f = some (if 0 ≤ x ∧ x < 4 then 1 else 0, f) := by unfold FX10_isSlot FX10_isSlot_0; grind
theorem misSlot_e (x : Int) (f : Mm) : FX11_isSlot x f = some (if 0 ≤ x ∧ x < 4 then 1 else 0, f) := by
  unfold FX11_isSlot FX11_isSlot_0
  rw [in_e, b2_some]
  by_cases h : 0 ≤ x ∧ x ≤ 3
  · rw [if_pos h, if_pos (by decide), if_pos (by omega)]
  · rw [if_neg h, if_pos (by decide), if_neg (by omega)]
theorem hasRow_e {Z f : Mm} (hS : CS Z f) {s : Nat} (hs : s < 4) : FX6_hasRow (s : Int) f = some (if Z s 100 = -1 then 0 else 1, f) := by
  unfold FX6_hasRow FX6_hasRow_0
  rw [if_pos (by omega), Int.toNat_natCast, (hS s hs).1]
  by_cases h : Z s 100 = -1
  · rw [if_pos h, if_pos h]
  · rw [if_neg h, if_neg h]
theorem slotWrong_e {B Z f : Mm} (hC : CT B f) (hS : CS Z f) (x : Int) : FX10_slotWrong x f = some (if ¬ (0 ≤ x ∧ x < 4 ∧ 0 < B 0 8) then -2 else if Z x.toNat 100 = -1 then -6 else 0, f) := by
  unfold FX10_slotWrong FX10_slotWrong_0
  rw [isSlot_e, b2_some, stands_e, b2_some, hC.1.1]
  by_cases h : 0 ≤ x ∧ x < 4
  · rw [if_pos h, if_neg (show ¬ (1 : Int) = 0 by decide)]
    by_cases h2 : 0 < B 0 8
    · obtain ⟨s, rfl⟩ : ∃ s : Nat, x = (s : Int) := ⟨x.toNat, by omega⟩
      rw [if_pos h2, if_neg (show ¬ (1 : Int) = 0 by decide), hasRow_e hS (by omega), b2_some, if_neg (show ¬ ¬ (0 ≤ (s : Int) ∧ (s : Int) < 4 ∧ 0 < B 0 8) by omega), Int.toNat_natCast]
      by_cases h3 : Z s 100 = -1
      · rw [if_pos h3, if_pos h3, if_pos rfl]
      · rw [if_neg h3, if_neg h3, if_neg (show ¬ (1 : Int) = 0 by decide)]
    · rw [if_neg h2, if_pos (show (0 : Int) = 0 from rfl), if_pos (by omega)]
  · rw [if_neg h, if_pos (show (0 : Int) = 0 from rfl), if_pos (by omega)]
theorem cmp_l {x y : Int} : cmp3 x y < 0 ↔ x < y := by unfold cmp3; grind
theorem cmp_le {x y : Int} : cmp3 x y ≤ 0 ↔ x ≤ y := by unfold cmp3; grind
theorem cmp_ge {x y : Int} : 0 ≤ cmp3 x y ↔ y ≤ x := by unfold cmp3; grind
theorem cmp_0 {x y : Int} : cmp3 x y = 0 ↔ x = y := by unfold cmp3; grind
theorem iRem_2 {n : Nat} : iRem (n : Int) 2 = ((n % 2 : Nat) : Int) := tmod_n n 2
theorem widthsWrong_e {B Z f : Mm} (hB : WF B) (hC : CT B f) (hZ : WZ Z) (hS : CS Z f) (x : Int) : FX10_widthsWrong x f = some (wW B Z x, f) := by
  obtain ⟨hD6, hDe⟩ := WF_D hB
  have e1 : f 4 1 = (nD B : Int) := by rw [hC.1.2.1, hDe]
  unfold FX10_widthsWrong FX10_widthsWrong_0 wW
  rw [slotWrong_e hC hS, b2_some]
  by_cases h : ¬ (0 ≤ x ∧ x < 4 ∧ 0 < B 0 8)
  · simp only [if_pos h]
    rw [if_neg (by decide)]
  · simp only [if_neg h]
    obtain ⟨s, rfl⟩ : ∃ s : Nat, x = (s : Int) := ⟨x.toNat, by omega⟩
    rw [Int.toNat_natCast]
    obtain ⟨a1, a2⟩ := hS s (by omega)
    by_cases h3 : Z s 100 = -1
    · simp only [if_pos h3]
      rw [if_neg (by decide)]
    · simp only [if_neg h3]
      have hz : (0 ≤ Z s 100 ∧ Z s 100 ≤ 60) := by
        rcases hZ s (by omega) with q | q
        · exact absurd q h3
        · exact q.1
      obtain ⟨n, hn⟩ : ∃ n : Nat, Z s 100 = (n : Int) := ⟨(Z s 100).toNat, by omega⟩
      obtain ⟨_, a3⟩ := a2 h3
      have hsI : (0 : Int) ≤ (s : Int) ∧ (s : Int) < 4 := by omega
      rw [if_pos trivial, if_pos hsI, a1, hn, iRem_2]
      by_cases h4 : n % 2 = 0
      · rw [if_pos (by omega), if_neg (show ¬ ((n : Int) % 2 ≠ 0) by omega)]
        obtain ⟨m, hm⟩ : ∃ m, n = 2 * m := ⟨n / 2, by omega⟩
        rw [show ((n : Int) / 2).toNat = m by omega]
        refine forR (fun k y (_ : Unit) => FX10_widthsWrong_34 k (s : Int) (n : Int) (2 * y) f) (fun i _ => ff (bdW B (Z s)) i = -1) (fun o => o = some (if ff (bdW B (Z s)) m = -1 then 0 else -2, f)) m ?_ ?_ fu 0 () rfl (by omega) (by have := fub; omega)
        · rintro k _ hk
          rw [FX10_widthsWrong_34, w32s (by omega) (by omega), if_pos (by omega), if_pos hk]
        · rintro k i _ hi hk
          have b0 := a3 (2 * i) (by omega)
          have b1 := a3 (2 * i + 1) (by omega)
          have hp : bdW B (Z s) i = decide (¬ (0 ≤ Z s (2 * i) ∧ Z s (2 * i) < (nD B : Int) ∧ 0 ≤ Z s (2 * i + 1) ∧ Z s (2 * i + 1) ≤ 60)) := rfl
          have hI1 : (0 : Int) ≤ 2 * (i : Int) ∧ 2 * (i : Int) < 60 := by omega
          have hI2 : (0 : Int) ≤ ((2 * i + 1 : Nat) : Int) ∧ ((2 * i + 1 : Nat) : Int) < 60 := by omega
          rw [FX10_widthsWrong_34, w32n (x := 2 * (i : Int) + 1) (n := 2 * i + 1) (by omega) (by omega), w32s (x := 2 * (i : Int) + 2) (by omega) (by omega), if_neg (show ¬ (n : Int) ≤ ((2 * i + 1 : Nat) : Int) by omega)]
          simp only [if_pos hsI, if_pos hI1, if_pos hI2]
          rw [Int.toNat_natCast, Int.toNat_natCast, show (2 * (i : Int)).toNat = 2 * i by omega, b0, b1, e1]
          simp only [cmp_l, cmp_ge, cmp_le]
          have bad : ¬ (0 ≤ Z s (2 * i) ∧ Z s (2 * i) < (nD B : Int) ∧ 0 ≤ Z s (2 * i + 1) ∧ Z s (2 * i + 1) ≤ 60) → some ((-2 : Int), f) = some (if ff (bdW B (Z s)) m = -1 then 0 else -2, f) := fun q => by
            have := ff_hit hk (by rw [hp]; exact decide_eq_true q) m hi
            rw [this, if_neg (by omega)]
          by_cases q1 : Z s (2 * i) < 0
          · right; rw [if_pos q1]; exact bad (by omega)
          · rw [if_neg q1]
            by_cases q2 : (nD B : Int) ≤ Z s (2 * i)
            · right; rw [if_pos q2]; exact bad (by omega)
            · rw [if_neg q2]
              by_cases q3 : Z s (2 * i + 1) < 0
              · right; rw [if_pos q3]; exact bad (by omega)
              · rw [if_neg q3]
                by_cases q4 : Z s (2 * i + 1) ≤ 60
                · left
                  rw [if_pos q4]
                  refine ⟨(), ?_, ff_no hk (by rw [hp]; exact decide_eq_false (fun w => w ⟨by omega, by omega, by omega, q4⟩))⟩
                  rw [show 2 * (i : Int) + 2 = 2 * ((i + 1 : Nat) : Int) by omega]
                · right; rw [if_neg q4]; exact bad (by omega)
      · rw [if_neg (by omega), if_pos (show ((n : Int) % 2 ≠ 0) by omega)]
theorem i60 {c j : Nat} {x y : Int} (hx : x = (c : Int)) (hy : y = (j : Int)) (hc : c < 100000) (hj : j < 1000) : w32 (w32 (60 * x) + y) = ((60 * c + j : Nat) : Int) := by
  rw [w32n (x := 60 * x) (n := 60 * c) (by omega) (by omega), w32n (n := 60 * c + j) (by omega) (by omega)]
theorem whyNot_e {B Z f : Mm} (hB : WF B) (hM : MO B f) (hZ : WZ Z) (hS : MS Z f) (x : Int) : FX11_whyNot x f = some (wW B Z x, f) := by
  obtain ⟨hD6, hDe⟩ := WF_D hB
  unfold FX11_whyNot FX11_whyNot_0 wW
  rw [misSlot_e, b2_some, isBridge_e hM, b2_some]
  by_cases h0 : 0 ≤ x ∧ x < 4
  · rw [if_pos h0, if_neg (show ¬ (1 : Int) = 0 by decide)]
    by_cases h2 : 0 < B 0 8
    · have h : ¬ ¬ (0 ≤ x ∧ x < 4 ∧ 0 < B 0 8) := by omega
      rw [if_pos h2, if_neg (show ¬ (1 : Int) = 0 by decide)]
      simp only [if_neg h, if_pos h0]
      obtain ⟨s, rfl⟩ : ∃ s : Nat, x = (s : Int) := ⟨x.toNat, by omega⟩
      rw [Int.toNat_natCast]
      obtain ⟨a1, a2⟩ := hS s (by omega)
      by_cases h3 : Z s 100 = -1
      · rw [if_pos h3, if_pos (a1 h3)]
      · obtain ⟨b1, b2', a3⟩ := a2 h3
        have hz : (0 ≤ Z s 100 ∧ Z s 100 ≤ 60) ∧ (0 ≤ Z s 101 ∧ Z s 101 ≤ 3) := by
          rcases hZ s (by omega) with q | q
          · exact absurd q h3
          · exact q
        obtain ⟨n, hn⟩ : ∃ n : Nat, Z s 100 = (n : Int) := ⟨(Z s 100).toNat, by omega⟩
        have hsI : (0 : Int) ≤ (s : Int) ∧ (s : Int) < 4 := by omega
        rw [if_neg h3, b1, if_neg (by omega), b2', hn, iRem_2]
        by_cases h4 : n % 2 = 0
        · rw [if_pos (by omega), if_neg (show ¬ ((n : Int) % 2 ≠ 0) by omega)]
          obtain ⟨m, hm⟩ : ∃ m, n = 2 * m := ⟨n / 2, by omega⟩
          rw [show ((n : Int) / 2).toNat = m by omega]
          refine forR (fun k y (_ : Unit) => FX11_whyNot_46 k (s : Int) (2 * y) f) (fun i _ => ff (bdW B (Z s)) i = -1) (fun o => o = some (if ff (bdW B (Z s)) m = -1 then 0 else -2, f)) m ?_ ?_ fu 0 () rfl (by omega) (by have := fub; omega)
          · rintro k _ hk
            rw [FX11_whyNot_46, if_pos hsI, Int.toNat_natCast, b2', hn, if_pos (by omega), if_pos hk]
          · rintro k i _ hi hk
            have d0 := a3 (2 * i) (by omega)
            have d1 := a3 (2 * i + 1) (by omega)
            rw [show 60 * s + (2 * i + 1) = 60 * s + 2 * i + 1 by omega] at d1
            have hp : bdW B (Z s) i = decide (¬ (0 ≤ Z s (2 * i) ∧ Z s (2 * i) < (nD B : Int) ∧ 0 ≤ Z s (2 * i + 1) ∧ Z s (2 * i + 1) ≤ 60)) := rfl
            rw [FX11_whyNot_46, if_pos hsI, Int.toNat_natCast, b2', hn, if_neg (by omega), i60 (c := s) (j := 2 * i) (y := 2 * (i : Int)) rfl (by omega) (by omega) (by omega), if_pos (by omega), Int.toNat_natCast, d0, isDay_e hB hM, b2_some, w32n (x := ((60 * s + 2 * i : Nat) : Int) + 1) (n := 60 * s + 2 * i + 1) (by omega) (by omega), Int.toNat_natCast, d1, in_e, b2_some, w32s (x := 2 * (i : Int) + 2) (by omega) (by omega)]
            have bad : ¬ (0 ≤ Z s (2 * i) ∧ Z s (2 * i) < (nD B : Int) ∧ 0 ≤ Z s (2 * i + 1) ∧ Z s (2 * i + 1) ≤ 60) → some ((-2 : Int), f) = some (if ff (bdW B (Z s)) m = -1 then 0 else -2, f) := fun q => by
              have := ff_hit hk (by rw [hp]; exact decide_eq_true q) m hi
              rw [this, if_neg (by omega)]
            by_cases q1 : 0 ≤ Z s (2 * i) ∧ Z s (2 * i) < (nD B : Int)
            · rw [if_pos q1, if_neg (show ¬ (1 : Int) = 0 by decide), if_pos (show (0 : Int) ≤ ((60 * s + 2 * i + 1 : Nat) : Int) ∧ ((60 * s + 2 * i + 1 : Nat) : Int) < 240 by omega)]
              by_cases q2 : 0 ≤ Z s (2 * i + 1) ∧ Z s (2 * i + 1) ≤ 60
              · left
                rw [if_pos q2, if_neg (show ¬ (1 : Int) = 0 by decide)]
                refine ⟨(), ?_, ff_no hk (by rw [hp]; exact decide_eq_false (fun w => w ⟨q1.1, q1.2, q2.1, q2.2⟩))⟩
                rw [show 2 * (i : Int) + 2 = 2 * ((i + 1 : Nat) : Int) by omega]
              · right; rw [if_neg q2, if_pos rfl]; exact bad (by omega)
            · right; rw [if_neg q1, if_pos rfl]; exact bad (by omega)
        · rw [if_neg (by omega), if_pos (show ((n : Int) % 2 ≠ 0) by omega)]
    · rw [if_neg h2, if_pos (show (0 : Int) = 0 from rfl), if_pos (by omega)]
  · rw [if_neg h0, if_pos (show (0 : Int) = 0 from rfl), if_pos (by omega)]
/-- a SLOT whose numbers are good -/
def GZ (B Z : Mm) (s m : Nat) : Prop := s < 4 ∧ Z s 100 = ((2 * m : Nat) : Int) ∧ m ≤ 30 ∧ (∀ j, j < m → 0 ≤ Z s (2 * j) ∧ Z s (2 * j) < (nD B : Int) ∧ 0 ≤ Z s (2 * j + 1) ∧ Z s (2 * j + 1) ≤ 60) ∧ 0 < B 0 8
theorem wW_0 {B Z : Mm} (hZ : WZ Z) {x : Int} (h : wW B Z x = 0) : ∃ s m : Nat, x = (s : Int) ∧ GZ B Z s m := by
  unfold wW at h
  by_cases h0 : ¬ (0 ≤ x ∧ x < 4 ∧ 0 < B 0 8)
  · rw [if_pos h0] at h; cases h
  · rw [if_neg h0] at h
    by_cases h1 : Z x.toNat 100 = -1
    · rw [if_pos h1] at h; cases h
    · rw [if_neg h1] at h
      by_cases h2 : Z x.toNat 100 % 2 ≠ 0
      · rw [if_pos h2] at h; cases h
      · rw [if_neg h2] at h
        by_cases h3 : ff (bdW B (Z x.toNat)) (Z x.toNat 100 / 2).toNat = -1
        · have hz : (0 ≤ Z x.toNat 100 ∧ Z x.toNat 100 ≤ 60) := by
            rcases hZ x.toNat (by omega) with q | q
            · exact absurd q h1
            · exact q.1
          refine ⟨x.toNat, (Z x.toNat 100 / 2).toNat, by omega, by omega, by omega, by omega, fun j hj => ?_, by omega⟩
          have := of_decide_eq_false ((ff_all _).mp h3 j hj)
          omega
        · rw [if_neg h3] at h; cases h
def nfit (w : Nat → Int) (z : Nat → Int) (j : Nat) : Bool := decide (w (z (2 * j)).toNat ≠ z (2 * j + 1))
def tl (w : Nat → Int) (z : Nat → Int) (m : Nat) : Bool := decide (ff (nfit w z) m = -1)
theorem tells_e {B Z g : Mm} (hB : WF B) {s m : Nat} (hG : GZ B Z s m) (hS : CS Z g) {ch : Nat → Int} {t2 tw tm co : Int} (hF : FK B ch t2 tw tm co (nD B) g) : FX6_tells_40_48 (s : Int) g = some (if tl (wd B ch t2 tw tm co) (Z s) m = true then 1 else 0, g) := by
  obtain ⟨g1, g2, g3, g4, g5⟩ := hG
  obtain ⟨hD6, hDe⟩ := WF_D hB
  obtain ⟨a1, a2⟩ := hS s g1
  obtain ⟨_, a3⟩ := a2 (by omega)
  have hsI : (0 : Int) ≤ (s : Int) ∧ (s : Int) < 4 := by omega
  have htl : tl (wd B ch t2 tw tm co) (Z s) m = decide (ff (nfit (wd B ch t2 tw tm co) (Z s)) m = -1) := rfl
  unfold FX6_tells_40_48 FX6_tells_40_48_0
  refine forR (fun k y (_ : Unit) => FX6_tells_40_48_2 k (s : Int) (2 * y) g) (fun i _ => ff (nfit (wd B ch t2 tw tm co) (Z s)) i = -1) (fun o => o = some (if tl (wd B ch t2 tw tm co) (Z s) m = true then 1 else 0, g)) m ?_ ?_ fu 0 () rfl (by omega) (by have := fub; omega)
  · rintro k _ hk
    rw [FX6_tells_40_48_2, if_pos hsI, Int.toNat_natCast, a1, g2, w32s (by omega) (by omega), if_pos (by omega), htl, decide_eq_true hk, if_pos rfl]
  · rintro k i _ hi hk
    have b0 := a3 (2 * i) (by omega)
    have b1 := a3 (2 * i + 1) (by omega)
    obtain ⟨v1, v2, v3, v4⟩ := g4 i hi
    obtain ⟨d, hd⟩ : ∃ d : Nat, Z s (2 * i) = (d : Int) := ⟨(Z s (2 * i)).toNat, by omega⟩
    have hp : nfit (wd B ch t2 tw tm co) (Z s) i = decide (wd B ch t2 tw tm co d ≠ Z s (2 * i + 1)) := by unfold nfit; rw [hd, Int.toNat_natCast]
    have hI1 : (0 : Int) ≤ 2 * (i : Int) ∧ 2 * (i : Int) < 60 := by omega
    have hI2 : (0 : Int) ≤ ((2 * i + 1 : Nat) : Int) ∧ ((2 * i + 1 : Nat) : Int) < 60 := by omega
    rw [FX6_tells_40_48_2, w32n (x := 2 * (i : Int) + 1) (n := 2 * i + 1) (by omega) (by omega), w32s (x := 2 * (i : Int) + 2) (by omega) (by omega)]
    simp only [if_pos hsI, if_pos hI1, if_pos hI2]
    rw [Int.toNat_natCast, a1, g2, if_neg (by omega), show (2 * (i : Int)).toNat = 2 * i by omega, b0, hd, w32s (by omega) (by omega), widthOn_e hF (by omega) (by omega), b2_some, Int.toNat_natCast, b1]
    simp only [cmp_0]
    by_cases q : wd B ch t2 tw tm co d = Z s (2 * i + 1)
    · left
      rw [if_pos q]
      refine ⟨(), ?_, ff_no hk (by rw [hp]; exact decide_eq_false (fun w => w q))⟩
      rw [show 2 * (i : Int) + 2 = 2 * ((i + 1 : Nat) : Int) by omega]
    · right
      have := ff_hit hk (by rw [hp]; exact decide_eq_true q) m hi
      rw [if_neg q, htl, this, decide_eq_false (by omega), if_neg (by decide)]
theorem isSo_e {B Z g : Mm} (hB : WF B) {s m : Nat} (hG : GZ B Z s m) (hS : MS Z g) {ch : Nat → Int} {t2 tw tm co : Int} (hF : MK B ch t2 tw tm co (nD B) g) : FX11_isSo (s : Int) g = some (if tl (wd B ch t2 tw tm co) (Z s) m = true then 1 else 0, g) := by
  obtain ⟨g1, g2, g3, g4, g5⟩ := hG
  obtain ⟨hD6, hDe⟩ := WF_D hB
  obtain ⟨a1, a2⟩ := hS s g1
  obtain ⟨_, a2', a3⟩ := a2 (by omega)
  have hsI : (0 : Int) ≤ (s : Int) ∧ (s : Int) < 4 := by omega
  have htl : tl (wd B ch t2 tw tm co) (Z s) m = decide (ff (nfit (wd B ch t2 tw tm co) (Z s)) m = -1) := rfl
  unfold FX11_isSo FX11_isSo_0
  refine forR (fun k y (_ : Unit) => FX11_isSo_2 k (s : Int) (2 * y) g) (fun i _ => ff (nfit (wd B ch t2 tw tm co) (Z s)) i = -1) (fun o => o = some (if tl (wd B ch t2 tw tm co) (Z s) m = true then 1 else 0, g)) m ?_ ?_ fu 0 () rfl (by omega) (by have := fub; omega)
  · rintro k _ hk
    rw [FX11_isSo_2, if_pos hsI, Int.toNat_natCast, a2', g2, if_pos (by omega), htl, decide_eq_true hk, if_pos rfl]
  · rintro k i _ hi hk
    have d0 := a3 (2 * i) (by omega)
    have d1 := a3 (2 * i + 1) (by omega)
    rw [show 60 * s + (2 * i + 1) = 60 * s + 2 * i + 1 by omega] at d1
    obtain ⟨v1, v2, v3, v4⟩ := g4 i hi
    obtain ⟨d, hd⟩ : ∃ d : Nat, Z s (2 * i) = (d : Int) := ⟨(Z s (2 * i)).toNat, by omega⟩
    have hp : nfit (wd B ch t2 tw tm co) (Z s) i = decide (wd B ch t2 tw tm co d ≠ Z s (2 * i + 1)) := by unfold nfit; rw [hd, Int.toNat_natCast]
    have hw := (hF d (by omega)).2.2
    rw [FX11_isSo_2, if_pos hsI, Int.toNat_natCast, a2', g2, if_neg (by omega), i60 (c := s) (j := 2 * i) (y := 2 * (i : Int)) rfl (by omega) (by omega) (by omega), if_pos (by omega), Int.toNat_natCast, d0, hd, w32s (x := (d : Int)) (by omega) (by omega), if_pos (show (0 : Int) ≤ (d : Int) ∧ (d : Int) < 6 by omega), w32n (x := ((60 * s + 2 * i : Nat) : Int) + 1) (n := 60 * s + 2 * i + 1) (by omega) (by omega), if_pos (show (0 : Int) ≤ ((60 * s + 2 * i + 1 : Nat) : Int) ∧ ((60 * s + 2 * i + 1 : Nat) : Int) < 240 by omega), Int.toNat_natCast, Int.toNat_natCast, d1, hw, w32s (x := 2 * (i : Int) + 2) (by omega) (by omega)]
    simp only [cmp_0]
    by_cases q : wd B ch t2 tw tm co d = Z s (2 * i + 1)
    · left
      rw [if_pos q]
      refine ⟨(), ?_, ff_no hk (by rw [hp]; exact decide_eq_false (fun w => w q))⟩
      rw [show 2 * (i : Int) + 2 = 2 * ((i + 1 : Nat) : Int) by omega]
    · right
      have := ff_hit hk (by rw [hp]; exact decide_eq_true q) m hi
      rw [if_neg q, htl, this, decide_eq_false (by omega), if_neg (by decide)]

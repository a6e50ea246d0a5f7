/-! SHARES -/
def shS (z : Nat → Int) (n : Nat) (x : Int) : Int := sm (fun i => if hbit x i = true then z i else 0) n
def bdS (z : Nat → Int) (i : Nat) : Bool := decide (¬ (0 ≤ z i ∧ z i ≤ 999))
def wS (B Z : Mm) (x : Int) : Int := if ¬ (0 ≤ x ∧ x < 4 ∧ 0 < B 0 8) then -2 else if Z x.toNat 100 = -1 then -6 else if Z x.toNat 100 ≠ (nC B : Int) then -2 else if ff (bdS (Z x.toNat)) (nC B) = -1 then 0 else -2
def GS (B Z : Mm) (s : Nat) : Prop := s < 4 ∧ Z s 100 = (nC B : Int) ∧ (∀ i, i < nC B → 0 ≤ Z s i ∧ Z s i ≤ 999) ∧ 0 < B 0 8
theorem wS_0 {B Z : Mm} {x : Int} (h : wS B Z x = 0) : ∃ s : Nat, x = (s : Int) ∧ GS B Z s := by
  unfold wS at h
  by_cases h0 : ¬ (0 ≤ x ∧ x < 4 ∧ 0 < B 0 8)
  · rw [if_pos h0] at h; cases h
  · rw [if_neg h0] at h
    by_cases h1 : Z x.toNat 100 = -1
    · rw [if_pos h1] at h; cases h
    · rw [if_neg h1] at h
      by_cases h2 : Z x.toNat 100 ≠ (nC B : Int)
      · rw [if_pos h2] at h; cases h
      · rw [if_neg h2] at h
        by_cases h3 : ff (bdS (Z x.toNat)) (nC B) = -1
        · refine ⟨x.toNat, by omega, by omega, by omega, fun j hj => ?_, by omega⟩
          have := of_decide_eq_false ((ff_all _).mp h3 j hj)
          omega
        · rw [if_neg h3] at h; cases h
theorem sharesWrong_e {B Z f : Mm} (hB : WF B) (hC : CT B f) (hS : CS Z f) (x : Int) : FX10_sharesWrong x f = some (wS B Z x, f) := by
  obtain ⟨hC6, hCe⟩ := WF_C hB
  have e5 : f 4 5 = (nC B : Int) := by rw [hC.1.2.2.2.2.2.1, hCe]
  unfold FX10_sharesWrong FX10_sharesWrong_0 wS
  rw [slotWrong_e hC hS, b2_some]
  by_cases h : ¬ (0 ≤ x ∧ x < 4 ∧ 0 < B 0 8)
  · rw [if_pos h, if_pos h, if_neg (by decide)]
  · rw [if_neg h, if_neg h]
    obtain ⟨s, rfl⟩ : ∃ s : Nat, x = (s : Int) := ⟨x.toNat, by omega⟩
    rw [Int.toNat_natCast]
    obtain ⟨a1, a2⟩ := hS s (by omega)
    by_cases h3 : Z s 100 = -1
    · rw [if_pos h3, if_pos h3, if_neg (by decide)]
    · obtain ⟨_, a3⟩ := a2 h3
      have hsI : (0 : Int) ≤ (s : Int) ∧ (s : Int) < 4 := by omega
      rw [if_neg h3, if_neg h3, if_pos (show (0 : Int) = 0 from rfl), if_pos hsI, a1, e5]
      by_cases h4 : Z s 100 = (nC B : Int)
      · rw [if_pos h4, if_neg (by omega), h4]
        refine forR (fun k y (_ : Unit) => FX10_sharesWrong_39 k (s : Int) (nC B : Int) y f) (fun i _ => ff (bdS (Z s)) i = -1) (fun o => o = some (if ff (bdS (Z s)) (nC B) = -1 then 0 else -2, f)) (nC B) ?_ ?_ fu 0 () rfl (by omega) (by have := fub; omega)
        · rintro k _ hk
          rw [FX10_sharesWrong_39, if_pos (by omega), if_pos hk]
        · rintro k i _ hi hk
          have b0 := a3 i (by omega)
          have hp : bdS (Z s) i = decide (¬ (0 ≤ Z s i ∧ Z s i ≤ 999)) := rfl
          have bad : ¬ (0 ≤ Z s i ∧ Z s i ≤ 999) → some ((-2 : Int), f) = some (if ff (bdS (Z s)) (nC B) = -1 then 0 else -2, f) := fun q => by
            have := ff_hit hk (by rw [hp]; exact decide_eq_true q) (nC B) hi
            rw [this, if_neg (by omega)]
          rw [FX10_sharesWrong_39, if_neg (by omega), if_pos hsI, if_pos (by omega), Int.toNat_natCast, Int.toNat_natCast, b0, nx i (by omega)]
          simp only [cmp_l, cmp_le]
          by_cases q1 : Z s i < 0
          · right; rw [if_pos q1]; exact bad (by omega)
          · rw [if_neg q1]
            by_cases q2 : Z s i ≤ 999
            · left
              rw [if_pos q2]
              exact ⟨(), rfl, ff_no hk (by rw [hp]; exact decide_eq_false (fun w => w ⟨by omega, q2⟩))⟩
            · right; rw [if_neg q2]; exact bad (by omega)
      · rw [if_neg h4, if_pos h4]
theorem whyNotShares_W {B Z f : Mm} (hB : WF B) (hM : MO B f) (hZ : WZ Z) (hS : MS Z f) (x : Int) : Wp (FX11_whyNotShares x f) (fun p => p.1 = wS B Z x ∧ Kp Sm f p.2 ∧ (wS B Z x = 0 → MTb B okA (nP B) p.2)) := by
  obtain ⟨hC6, hCe⟩ := WF_C hB
  have e6 : f 157 6 = (nC B : Int) := by rw [hM.1.2.2.2.2.2.2.2.1, hCe]
  have out : ∀ v : Int, v ≠ 0 → v = wS B Z x → Wp (some (v, f)) (fun p => p.1 = wS B Z x ∧ Kp Sm f p.2 ∧ (wS B Z x = 0 → MTb B okA (nP B) p.2)) := fun v hv e => Wp_some ⟨e, Kp_r _ _, fun q => absurd (e.trans q) hv⟩
  have hw : wS B Z x = if ¬ (0 ≤ x ∧ x < 4 ∧ 0 < B 0 8) then -2 else if Z x.toNat 100 = -1 then -6 else if Z x.toNat 100 ≠ (nC B : Int) then -2 else if ff (bdS (Z x.toNat)) (nC B) = -1 then 0 else -2 := rfl
  unfold FX11_whyNotShares FX11_whyNotShares_0
  rw [misSlot_e, b2_some, isBridge_e hM, b2_some]
  by_cases h0 : 0 ≤ x ∧ x < 4
  · rw [if_pos h0, if_neg (show ¬ (1 : Int) = 0 by decide)]
    by_cases h2 : 0 < B 0 8
    · have h : ¬ ¬ (0 ≤ x ∧ x < 4 ∧ 0 < B 0 8) := by omega
      rw [if_pos h2, if_neg (show ¬ (1 : Int) = 0 by decide)]
      rw [if_neg h] at hw
      simp only [if_pos h0]
      obtain ⟨s, rfl⟩ : ∃ s : Nat, x = (s : Int) := ⟨x.toNat, by omega⟩
      rw [Int.toNat_natCast] at hw ⊢
      obtain ⟨a1, a2⟩ := hS s (by omega)
      by_cases h3 : Z s 100 = -1
      · rw [if_pos h3] at hw
        rw [if_pos (a1 h3)]
        exact out _ (by decide) hw.symm
      · obtain ⟨b1, b2', a3⟩ := a2 h3
        have hz : (0 ≤ Z s 100 ∧ Z s 100 ≤ 60) ∧ (0 ≤ Z s 101 ∧ Z s 101 ≤ 3) := by
          rcases hZ s (by omega) with q | q
          · exact absurd q h3
          · exact q
        have hsI : (0 : Int) ≤ (s : Int) ∧ (s : Int) < 4 := by omega
        rw [if_neg h3] at hw
        rw [b1, if_neg (by omega), carts_e, b2_some, e6, b2']
        by_cases h4 : Z s 100 = (nC B : Int)
        · rw [if_neg (by omega)] at hw
          rw [if_pos h4]
          refine forX (fun k y (_ : Unit) => FX11_whyNotShares_48 k (s : Int) y f) (fun i _ => ff (bdS (Z s)) i = -1) _ (nC B) ?_ ?_ fu 0 () rfl (by omega) (by have := fub; omega)
          · rintro k _ hk
            rw [if_pos hk] at hw
            rw [FX11_whyNotShares_48, if_pos hsI, Int.toNat_natCast, b2', h4, if_pos (by omega)]
            unfold FX11_whyNotShares_88
            exact Wp_bind (laysPlans0_W hB hM) (fun g ⟨k1, t⟩ => Wp_some ⟨hw.symm, k1, fun _ => t⟩)
          · rintro k i _ hi hk
            have d0 := a3 i (by omega)
            have hp : bdS (Z s) i = decide (¬ (0 ≤ Z s i ∧ Z s i ≤ 999)) := rfl
            rw [FX11_whyNotShares_48, if_pos hsI, Int.toNat_natCast, b2', h4, if_neg (by omega), i60 (c := s) (j := i) (y := (i : Int)) rfl rfl (by omega) (by omega), if_pos (by omega), Int.toNat_natCast, d0, in_e, b2_some, nx i (by omega)]
            by_cases q : 0 ≤ Z s i ∧ Z s i ≤ 999
            · left
              rw [if_pos q, if_neg (show ¬ (1 : Int) = 0 by decide)]
              exact ⟨(), rfl, ff_no hk (by rw [hp]; exact decide_eq_false (fun w => w q))⟩
            · right
              rw [if_neg q, if_pos (show (0 : Int) = 0 from rfl)]
              have := ff_hit hk (by rw [hp]; exact decide_eq_true q) (nC B) hi
              rw [this, if_neg (by omega)] at hw
              exact out _ (by decide) hw.symm
        · rw [if_pos h4] at hw
          rw [if_neg h4]
          exact out _ (by decide) hw.symm
    · rw [if_pos (by omega)] at hw
      rw [if_neg h2, if_pos (show (0 : Int) = 0 from rfl)]
      exact out _ (by decide) hw.symm
  · rw [if_pos (by omega)] at hw
    rw [if_neg h0, if_pos (show (0 : Int) = 0 from rfl)]
    exact out _ (by decide) hw.symm
theorem shS_r {B Z : Mm} (hB : WF B) {s : Nat} (hG : GS B Z s) (x : Int) {i : Nat} (hi : i ≤ nC B) : 0 ≤ shS (Z s) i x ∧ shS (Z s) i x ≤ 5994 := by
  have hC6 := (WF_C hB).1
  have := sm_r (g := fun i => if hbit x i = true then Z s i else 0) (M := 999) i (fun c hc => by
    have := hG.2.2.1 c (by omega)
    split <;> omega)
  unfold shS
  omega
theorem sharesOf_e {B Z g : Mm} (hB : WF B) {s : Nat} (hG : GS B Z s) (hS : CS Z g) (x : Int) : FX6_sharesOf (s : Int) x g = some (shS (Z s) (nC B) x, g) := by
  have hC6 := (WF_C hB).1
  obtain ⟨a1, a2⟩ := hS s hG.1
  obtain ⟨_, a3⟩ := a2 (by rw [hG.2.1]; omega)
  have hg1 := hG.1
  have hsI : (0 : Int) ≤ (s : Int) ∧ (s : Int) < 4 := by omega
  unfold FX6_sharesOf FX6_sharesOf_0
  refine forR (fun n y (v : Int) => FX6_sharesOf_5 n (s : Int) x v y g) (fun i v => v = shS (Z s) i x) (fun o => o = some (shS (Z s) (nC B) x, g)) (nC B) ?_ ?_ fu 0 0 rfl (by omega) (by have := fub; omega)
  · rintro n v hv
    rw [FX6_sharesOf_5, if_pos hsI, Int.toNat_natCast, a1, hG.2.1, if_pos (by omega), hv]
  · rintro n i v hi hv
    left
    have b0 := a3 i (by rw [hG.2.1]; omega)
    have hr := shS_r hB hG x (i := i) (by omega)
    have hz := hG.2.2.1 i hi
    refine ⟨shS (Z s) (i + 1) x, ?_, rfl⟩
    have es : shS (Z s) (i + 1) x = shS (Z s) i x + (if hbit x i = true then Z s i else 0) := rfl
    have hiI : (0 : Int) ≤ (i : Int) ∧ (i : Int) < 60 := by omega
    rw [FX6_sharesOf_5]
    simp only [if_pos hsI]
    rw [Int.toNat_natCast, a1, hG.2.1, if_neg (by omega), holds_e, b2_some, es, hv]
    unfold FX6_sharesOf_37
    rw [nx i (by omega), if_pos hiI, Int.toNat_natCast, b0]
    by_cases q : hbit x i = true
    · rw [if_pos q, if_neg (show ¬ (1 : Int) = 0 by decide), if_pos q, w64s (by omega) (by omega)]
    · rw [if_neg q, if_pos (show (0 : Int) = 0 from rfl), if_neg q, Int.add_zero]
theorem shareOf_e {B Z g : Mm} (hB : WF B) {s : Nat} (hG : GS B Z s) (hM : MO B g) (hS : MS Z g) (x : Int) : FX11_shareOf (s : Int) x g = some (shS (Z s) (nC B) x, g) := by
  obtain ⟨hC6, hCe⟩ := WF_C hB
  have e6 : g 157 6 = (nC B : Int) := by rw [hM.1.2.2.2.2.2.2.2.1, hCe]
  obtain ⟨a1, a2⟩ := hS s hG.1
  obtain ⟨_, _, a3⟩ := a2 (by rw [hG.2.1]; omega)
  have hg1 := hG.1
  unfold FX11_shareOf FX11_shareOf_0
  refine forR (fun n y (v : Int) => FX11_shareOf_5 n (s : Int) x v y g) (fun i v => v = shS (Z s) i x) (fun o => o = some (shS (Z s) (nC B) x, g)) (nC B) ?_ ?_ fu 0 0 rfl (by omega) (by have := fub; omega)
  · rintro n v hv
    rw [FX11_shareOf_5, carts_e, b2_some, if_pos (by omega), hv]
  · rintro n i v hi hv
    left
    have b0 := a3 i (by rw [hG.2.1]; omega)
    have hr := shS_r hB hG x (i := i) (by omega)
    have hz := hG.2.2.1 i hi
    refine ⟨shS (Z s) (i + 1) x, ?_, rfl⟩
    have es : shS (Z s) (i + 1) x = shS (Z s) i x + (if hbit x i = true then Z s i else 0) := rfl
    rw [FX11_shareOf_5, carts_e, b2_some, if_neg (by omega), isBit_e, b2_some, es, hv, i60 (c := s) (j := i) (y := (i : Int)) rfl rfl (by omega) (by omega)]
    unfold FX11_shareOf_41
    rw [nx i (by omega), if_pos (show (0 : Int) ≤ ((60 * s + i : Nat) : Int) ∧ ((60 * s + i : Nat) : Int) < 240 by omega), Int.toNat_natCast, b0]
    by_cases q : hbit x i = true
    · rw [if_pos q, if_neg (show ¬ (1 : Int) = 0 by decide), if_pos q, w32s (x := Z s i) (by omega) (by omega), w32s (by omega) (by omega)]
    · rw [if_neg q, if_pos (show (0 : Int) = 0 from rfl), if_neg q, w32s (by omega) (by omega)]
def lvP (B : Mm) (z : Nat → Int) (k : Nat) : Bool := decide (chc B k ≠ -1 ∧ chc B k < shS z (nC B) (k : Int))
theorem leavingSet_e {B Z g : Mm} (hB : WF B) {s : Nat} (hG : GS B Z s) (hC : CT B g) (hF : PF B g) (hS : CS Z g) : FX10_leavingSet_0_57 (s : Int) g = some (ff (lvP B (Z s)) (cPow B), g) := by
  obtain ⟨c1, c2, c3, c4⟩ := cPow_r hB
  unfold FX10_leavingSet_0_57 FX10_leavingSet_0_57_0
  refine forR (fun n y (_ : Unit) => FX10_leavingSet_0_57_2 n (s : Int) y g) (fun i _ => ff (lvP B (Z s)) i = -1) (fun o => o = some (ff (lvP B (Z s)) (cPow B), g)) (cPow B) ?_ ?_ fu 0 () rfl (by omega) (by have := fub; omega)
  · rintro n _ hk
    rw [FX10_leavingSet_0_57_2, allCarts_e hB hC, b2_some, if_pos (by omega), hk]
  · rintro n i _ hi hk
    have hp : lvP B (Z s) i = decide (chc B i ≠ -1 ∧ chc B i < shS (Z s) (nC B) (i : Int)) := rfl
    rw [FX10_leavingSet_0_57_2, allCarts_e hB hC, b2_some, if_neg (by omega), cheapCost_e hB hF (by omega), b2_some, sharesOf_e hB hG hS, b2_some]
    unfold FX10_leavingSet_0_57_44
    rw [nx i (by omega)]
    simp only [cmp_le]
    by_cases q1 : chc B i = -1
    · left
      rw [if_pos q1]
      exact ⟨(), rfl, ff_no hk (by rw [hp]; exact decide_eq_false (fun w => w.1 q1))⟩
    · rw [if_neg q1]
      by_cases q2 : shS (Z s) (nC B) (i : Int) ≤ chc B i
      · left
        rw [if_pos q2]
        exact ⟨(), rfl, ff_no hk (by rw [hp]; exact decide_eq_false (fun w => by omega))⟩
      · right
        rw [if_neg q2, ff_hit hk (by rw [hp]; exact decide_eq_true ⟨q1, by omega⟩) (cPow B) hi]
theorem leaveOf_e {B Z g : Mm} (hB : WF B) {s : Nat} (hG : GS B Z s) (hM : MO B g) (hS : MS Z g) (hT : MTb B okA (nP B) g) : FX11_leaveOf (s : Int) g = some (ff (lvP B (Z s)) (cPow B), g) := by
  obtain ⟨c1, c2, c3, c4⟩ := cPow_r hB
  have hCe := (WF_C hB).2
  have e6 : g 157 6 = (nC B : Int) := by rw [hM.1.2.2.2.2.2.2.2.1, hCe]
  unfold FX11_leaveOf FX11_leaveOf_0
  refine forR (fun n y (_ : Unit) => FX11_leaveOf_2 n (s : Int) y g) (fun i _ => ff (lvP B (Z s)) i = -1) (fun o => o = some (ff (lvP B (Z s)) (cPow B), g)) (cPow B) ?_ ?_ fu 0 () rfl (by omega) (by have := fub; omega)
  · rintro n _ hk
    rw [FX11_leaveOf_2, carts_e, b2_some, e6, c4, if_pos (by omega), hk]
  · rintro n i _ hi hk
    have hp : lvP B (Z s) i = decide (chc B i ≠ -1 ∧ chc B i < shS (Z s) (nC B) (i : Int)) := rfl
    obtain ⟨m1, m2⟩ := MT_ch hB hT (s := i) hi
    obtain ⟨l1, l2, l3⟩ := far_lt (chc_r hB i)
    have hiI : (0 : Int) ≤ (i : Int) ∧ (i : Int) < 64 := by omega
    rw [FX11_leaveOf_2, carts_e, b2_some, e6, c4, if_neg (by omega)]
    simp only [if_pos hiI]
    rw [Int.toNat_natCast, m1, shareOf_e hB hG hM hS, b2_some, m1]
    unfold FX11_leaveOf_41
    rw [nx i (by omega)]
    by_cases q1 : chc B i = -1
    · left
      rw [if_pos (by rw [l3 q1]; omega)]
      exact ⟨(), rfl, ff_no hk (by rw [hp]; exact decide_eq_false (fun w => w.1 q1))⟩
    · have l4 := l1.mpr q1
      have l5 := l2 q1
      rw [if_neg (by omega), l5]
      by_cases q2 : shS (Z s) (nC B) (i : Int) ≤ chc B i
      · left
        rw [if_pos q2]
        exact ⟨(), rfl, ff_no hk (by rw [hp]; exact decide_eq_false (fun w => by omega))⟩
      · right
        rw [if_neg q2, ff_hit hk (by rw [hp]; exact decide_eq_true ⟨q1, by omega⟩) (cPow B) hi]
def S_leave (B Z : Mm) (x : Int) : Int := if wS B Z x = 0 then ff (lvP B (Z x.toNat)) (cPow B) else wS B Z x
def S_fair (B Z : Mm) (x : Int) : Int := if wS B Z x = 0 then (if shS (Z x.toNat) (nC B) ((cPow B - 1 : Nat) : Int) = chc B (cPow B - 1) ∧ ff (lvP B (Z x.toNat)) (cPow B) = -1 then 1 else 0) else wS B Z x
theorem zp_leave {B Z : Mm} (hB : WF B) (x : Int) : ZP B Z (FX10_leave x) (S_leave B Z x) := by
  rintro f ⟨hC, h0⟩ hS hP
  unfold FX10_leave FX10_leave_0 S_leave
  rw [sharesWrong_e hB hC hS, b2_some]
  by_cases h : wS B Z x = 0
  · rw [if_pos h, if_pos h]
    obtain ⟨s, rfl, hG⟩ := wS_0 h
    refine Wp_bind (weighed_W hB hC h0 hP) (fun g ⟨k, pf⟩ => ?_)
    rw [leavingSet_e hB hG (CT_w hB hC k) pf (CS_s hS k), b2_some, Int.toNat_natCast]
    exact Wp_some ⟨rfl, k, fun _ => pf⟩
  · rw [if_neg h, if_neg h]
    exact Wp_some ⟨rfl, Kp_r _ _, hP⟩
theorem zp_fair {B Z : Mm} (hB : WF B) (x : Int) : ZP B Z (FX10_fair x) (S_fair B Z x) := by
  rintro f ⟨hC, h0⟩ hS hP
  obtain ⟨c1, c2, c3, c4⟩ := cPow_r hB
  unfold FX10_fair FX10_fair_0 S_fair
  rw [sharesWrong_e hB hC hS, b2_some]
  by_cases h : wS B Z x = 0
  · rw [if_pos h, if_pos h]
    obtain ⟨s, rfl, hG⟩ := wS_0 h
    refine Wp_bind (weighed_W hB hC h0 hP) (fun g ⟨k, pf⟩ => ?_)
    have hC' := CT_w hB hC k
    have hS' := CS_s hS k
    have ea : allC B = ((cPow B - 1 : Nat) : Int) := by omega
    rw [allCarts_e hB hC', b2_some, sharesOf_e hB hG hS', b2_some, ea, cheapCost_e hB pf (by omega), b2_some, Int.toNat_natCast]
    unfold FX10_fair_52
    rw [leavingSet_e hB hG hC' pf hS', b2_some]
    simp only [cmp_0]
    by_cases q1 : shS (Z s) (nC B) ((cPow B - 1 : Nat) : Int) = chc B (cPow B - 1)
    · rw [if_pos q1, if_neg (show ¬ (1 : Int) = 0 by decide)]
      by_cases q2 : ff (lvP B (Z s)) (cPow B) = -1
      · rw [if_pos q2, if_pos ⟨q1, q2⟩]
        exact Wp_some ⟨rfl, k, fun _ => pf⟩
      · rw [if_neg q2, if_neg (fun w => q2 w.2)]
        exact Wp_some ⟨rfl, k, fun _ => pf⟩
    · rw [if_neg q1, if_pos trivial, if_neg (fun w => q1 w.1)]
      exact Wp_some ⟨rfl, k, fun _ => pf⟩
  · rw [if_neg h, if_neg h]
    exact Wp_some ⟨rfl, Kp_r _ _, hP⟩
theorem zm_leave {B Z : Mm} (hB : WF B) (hZ : WZ Z) (x : Int) : ZN B Z (FX11_leave x) (S_leave B Z x) := by
  intro f hM hS
  have k0 : Kp Sm f (up f 150 0 0) := Kp_u (Kp_r _ _) (by unfold Sm; omega)
  have hM0 := MO_s hM k0
  have hS0 := MS_s hS k0
  unfold FX11_leave FX11_leave_0 S_leave
  refine Wp_b2 (whyNotShares_W hB hM0 hZ hS0 x) (fun r g ⟨e, k, t⟩ => ?_)
  simp only at e k t
  rw [e]
  by_cases h : wS B Z x = 0
  · have t' := t h
    rw [if_pos h, if_pos h]
    obtain ⟨s, rfl, hG⟩ := wS_0 h
    rw [leaveOf_e hB hG (MO_s hM0 k) (MS_s hS0 k) t', b2_some, Int.toNat_natCast]
    exact Wp_some ⟨rfl, Kp_t k0 k⟩
  · rw [if_neg h, if_neg h]
    exact Wp_some ⟨rfl, Kp_t k0 k⟩
theorem zm_fair {B Z : Mm} (hB : WF B) (hZ : WZ Z) (x : Int) : ZN B Z (FX11_fair x) (S_fair B Z x) := by
  intro f hM hS
  obtain ⟨c1, c2, c3, c4⟩ := cPow_r hB
  have hCe := (WF_C hB).2
  have k0 : Kp Sm f (up f 150 0 0) := Kp_u (Kp_r _ _) (by unfold Sm; omega)
  have hM0 := MO_s hM k0
  have hS0 := MS_s hS k0
  unfold FX11_fair FX11_fair_0 S_fair
  refine Wp_b2 (whyNotShares_W hB hM0 hZ hS0 x) (fun r g ⟨e, k, t⟩ => ?_)
  simp only at e k t
  rw [e]
  by_cases h : wS B Z x = 0
  · have t' := t h
    rw [if_pos h, if_pos h]
    obtain ⟨s, rfl, hG⟩ := wS_0 h
    have hM1 := MO_s hM0 k
    have hS1 := MS_s hS0 k
    have e6 : g 157 6 = (nC B : Int) := by rw [hM1.1.2.2.2.2.2.2.2.1, hCe]
    obtain ⟨m1, m2⟩ := MT_ch hB t' (s := cPow B - 1) (by omega)
    obtain ⟨l1, l2, l3⟩ := far_lt (chc_r hB (cPow B - 1))
    have hsr := shS_r hB hG ((cPow B - 1 : Nat) : Int) (Nat.le_refl _)
    have hI : (0 : Int) ≤ ((cPow B - 1 : Nat) : Int) ∧ ((cPow B - 1 : Nat) : Int) < 64 := by omega
    rw [carts_e, b2_some, e6, c4, w32n (x := (cPow B : Int) - 1) (n := cPow B - 1) (by omega) (by omega)]
    simp only [if_pos hI]
    rw [Int.toNat_natCast, m1, shareOf_e hB hG hM1 hS1, b2_some, m1, leaveOf_e hB hG hM1 hS1 t', b2_some, Int.toNat_natCast]
    by_cases q0 : chc B (cPow B - 1) = -1
    · rw [if_pos (by rw [l3 q0]; omega), if_neg (by omega)]
      exact Wp_some ⟨rfl, Kp_t k0 k⟩
    · have l4 := l1.mpr q0
      rw [if_neg (by omega), l2 q0]
      by_cases q1 : shS (Z s) (nC B) ((cPow B - 1 : Nat) : Int) = chc B (cPow B - 1)
      · rw [if_pos q1]
        by_cases q2 : ff (lvP B (Z s)) (cPow B) = -1
        · rw [if_pos q2, if_pos ⟨q1, q2⟩]
          exact Wp_some ⟨rfl, Kp_t k0 k⟩
        · rw [if_neg q2, if_neg (fun w => q2 w.2)]
          exact Wp_some ⟨rfl, Kp_t k0 k⟩
      · rw [if_neg q1, if_neg (fun w => q1 w.1)]
        exact Wp_some ⟨rfl, Kp_t k0 k⟩
  · rw [if_neg h, if_neg h]
    exact Wp_some ⟨rfl, Kp_t k0 k⟩

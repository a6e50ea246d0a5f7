/-! looks at SLIGHTS -/
def S_fits (B Z : Mm) (x : Int) : Int := S_zz B Z x ((fD B Z x).1 : Int)
theorem zc_fits {B Z : Mm} (hB : WF B) (hZ : WZ Z) (x : Int) : ZC B Z (FX10_fits x) (S_fits B Z x) := by
  rintro f ⟨hC, h0⟩ hS
  unfold FX10_fits FX10_fits_0 S_fits S_zz
  rw [widthsWrong_e hB hC hZ hS, b2_some]
  by_cases h : wW B Z x = 0
  · rw [if_pos h, if_pos h]
    · obtain ⟨s, m, rfl, hG⟩ := wW_0 hZ h
      refine Wp_bind (suspected_W hB hG hC hS) (fun g ⟨k, r⟩ => ?_)
      exact Wp_some ⟨by show g 69 0 = _; rw [fD_m hG]; exact r.1, k⟩
  · rw [if_neg h, if_neg h]
    exact Wp_some ⟨rfl, Kp_r _ _⟩
theorem zm_fits {B Z : Mm} (hB : WF B) (hZ : WZ Z) (x : Int) : ZN B Z (FX11_fits x) (S_fits B Z x) := by
  intro f hM hS
  have k0 : Kp Sm f (up f 150 0 0) := Kp_u (Kp_r _ _) (by unfold Sm; omega)
  have hM0 := MO_s hM k0
  have hS0 := MS_s hS k0
  unfold FX11_fits FX11_fits_0 S_fits S_zz
  rw [whyNot_e hB hM0 hZ hS0, b2_some]
  by_cases h : wW B Z x = 0
  · rw [if_pos h, if_pos h]
    obtain ⟨s, m, rfl, hG⟩ := wW_0 hZ h
    refine Wp_bind (laysFits_W hB hG hM0 hS0 (a := 0) (WF_D0 hB hG.2.2.2.2)) (fun g ⟨k, r⟩ => ?_)
    exact Wp_some ⟨by show g 150 45 = _; rw [fD_m hG]; exact r.1, Kp_t k0 (Sf_m k)⟩
  · rw [if_neg h, if_neg h]
    exact Wp_some ⟨rfl, k0⟩
def S_slights (B Z : Mm) (x : Int) : Int := S_zz B Z x (dbF (fD B Z x))
theorem zc_slights {B Z : Mm} (hB : WF B) (hZ : WZ Z) (x : Int) : ZC B Z (FX10_slights x) (S_slights B Z x) := by
  rintro f ⟨hC, h0⟩ hS
  unfold FX10_slights FX10_slights_0 S_slights S_zz
  rw [widthsWrong_e hB hC hZ hS, b2_some]
  by_cases h : wW B Z x = 0
  · rw [if_pos h, if_pos h]
    · obtain ⟨s, m, rfl, hG⟩ := wW_0 hZ h
      refine Wp_bind (suspected_W hB hG hC hS) (fun g ⟨k, r⟩ => ?_)
      exact Wp_some ⟨by show g 69 1 = _; rw [fD_m hG]; exact r.2.1, k⟩
  · rw [if_neg h, if_neg h]
    exact Wp_some ⟨rfl, Kp_r _ _⟩
theorem zm_slights {B Z : Mm} (hB : WF B) (hZ : WZ Z) (x : Int) : ZN B Z (FX11_slights x) (S_slights B Z x) := by
  intro f hM hS
  have k0 : Kp Sm f (up f 150 0 0) := Kp_u (Kp_r _ _) (by unfold Sm; omega)
  have hM0 := MO_s hM k0
  have hS0 := MS_s hS k0
  unfold FX11_slights FX11_slights_0 S_slights S_zz
  rw [whyNot_e hB hM0 hZ hS0, b2_some]
  by_cases h : wW B Z x = 0
  · rw [if_pos h, if_pos h]
    obtain ⟨s, m, rfl, hG⟩ := wW_0 hZ h
    refine Wp_bind (laysFits_W hB hG hM0 hS0 (a := 0) (WF_D0 hB hG.2.2.2.2)) (fun g ⟨k, r⟩ => ?_)
    exact Wp_some ⟨by show g 150 46 = _; rw [fD_m hG]; exact r.2.1, Kp_t k0 (Sf_m k)⟩
  · rw [if_neg h, if_neg h]
    exact Wp_some ⟨rfl, k0⟩
def S_slight (B Z : Mm) (x : Int) : Int := S_zz B Z x (ffF (fD B Z x))
theorem zc_slight {B Z : Mm} (hB : WF B) (hZ : WZ Z) (x : Int) : ZC B Z (FX10_slight x) (S_slight B Z x) := by
  rintro f ⟨hC, h0⟩ hS
  unfold FX10_slight FX10_slight_0 S_slight S_zz
  rw [widthsWrong_e hB hC hZ hS, b2_some]
  by_cases h : wW B Z x = 0
  · rw [if_pos h, if_pos h]
    · obtain ⟨s, m, rfl, hG⟩ := wW_0 hZ h
      refine Wp_bind (suspected_W hB hG hC hS) (fun g ⟨k, r⟩ => ?_)
      show Wp (b2 (some (g 69 2, g)) fun y3 f3 => some (y3, f3)) _
      rw [b2_some]
      exact Wp_some ⟨by show g 69 2 = _; rw [fD_m hG]; exact r.2.2.1, k⟩
  · rw [if_neg h, if_neg h]
    exact Wp_some ⟨rfl, Kp_r _ _⟩
theorem zm_slight {B Z : Mm} (hB : WF B) (hZ : WZ Z) (x : Int) : ZN B Z (FX11_slight x) (S_slight B Z x) := by
  intro f hM hS
  have k0 : Kp Sm f (up f 150 0 0) := Kp_u (Kp_r _ _) (by unfold Sm; omega)
  have hM0 := MO_s hM k0
  have hS0 := MS_s hS k0
  unfold FX11_slight FX11_slight_0 S_slight S_zz
  rw [whyNot_e hB hM0 hZ hS0, b2_some]
  by_cases h : wW B Z x = 0
  · rw [if_pos h, if_pos h]
    obtain ⟨s, m, rfl, hG⟩ := wW_0 hZ h
    refine Wp_bind (laysFits_W hB hG hM0 hS0 (a := 0) (WF_D0 hB hG.2.2.2.2)) (fun g ⟨k, r⟩ => ?_)
    exact Wp_some ⟨by show g 150 47 = _; rw [fD_m hG]; exact r.2.2.1, Kp_t k0 (Sf_m k)⟩
  · rw [if_neg h, if_neg h]
    exact Wp_some ⟨rfl, k0⟩
def S_ask (B Z : Mm) (x : Int) : Int := S_zz B Z x (askF B (fD B Z x) (nD B)).2
theorem zc_ask {B Z : Mm} (hB : WF B) (hZ : WZ Z) (x : Int) : ZC B Z (FX10_ask x) (S_ask B Z x) := by
  rintro f ⟨hC, h0⟩ hS
  unfold FX10_ask FX10_ask_0 S_ask S_zz
  rw [widthsWrong_e hB hC hZ hS, b2_some]
  by_cases h : wW B Z x = 0
  · rw [if_pos h, if_pos h]
    obtain ⟨s, m, rfl, hG⟩ := wW_0 hZ h
    refine Wp_bind (suspected_W hB hG hC hS) (fun g ⟨k, r⟩ => ?_)
    have hr := fOu_r hB (z := Z s) (m := m) (nK B)
    have hK := (WF_K hB).1
    rw [askedDay_e hB (CT_s hB hC k) r (by omega), b2_some, fD_m hG]
    exact Wp_some ⟨rfl, k⟩
  · rw [if_neg h, if_neg h]
    exact Wp_some ⟨rfl, Kp_r _ _⟩
theorem zm_ask {B Z : Mm} (hB : WF B) (hZ : WZ Z) (x : Int) : ZN B Z (FX11_ask x) (S_ask B Z x) := by
  intro f hM hS
  have k0 : Kp Sm f (up f 150 0 0) := Kp_u (Kp_r _ _) (by unfold Sm; omega)
  have hM0 := MO_s hM k0
  have hS0 := MS_s hS k0
  unfold FX11_ask FX11_ask_0 S_ask S_zz
  rw [whyNot_e hB hM0 hZ hS0, b2_some]
  by_cases h : wW B Z x = 0
  · rw [if_pos h, if_pos h]
    obtain ⟨s, m, rfl, hG⟩ := wW_0 hZ h
    refine Wp_bind (laysAsk_W hB hG hM0 hS0) (fun g ⟨k, r⟩ => ?_)
    exact Wp_some ⟨by show g 150 49 = _; rw [fD_m hG]; exact r.1, Kp_t k0 k⟩
  · rw [if_neg h, if_neg h]
    exact Wp_some ⟨rfl, k0⟩
def S_leaves (B Z : Mm) (x : Int) : Int := S_zz B Z x (askF B (fD B Z x) (nD B)).1
theorem zc_leaves {B Z : Mm} (hB : WF B) (hZ : WZ Z) (x : Int) : ZC B Z (FX10_leaves x) (S_leaves B Z x) := by
  rintro f ⟨hC, h0⟩ hS
  unfold FX10_leaves FX10_leaves_0 S_leaves S_zz
  rw [widthsWrong_e hB hC hZ hS, b2_some]
  by_cases h : wW B Z x = 0
  · rw [if_pos h, if_pos h]
    obtain ⟨s, m, rfl, hG⟩ := wW_0 hZ h
    refine Wp_bind (suspected_W hB hG hC hS) (fun g ⟨k, r⟩ => ?_)
    have hr := fOu_r hB (z := Z s) (m := m) (nK B)
    have hK := (WF_K hB).1
    rw [leftAtWorst_e hB (CT_s hB hC k) r (by omega), b2_some, fD_m hG]
    exact Wp_some ⟨rfl, k⟩
  · rw [if_neg h, if_neg h]
    exact Wp_some ⟨rfl, Kp_r _ _⟩
theorem zm_leaves {B Z : Mm} (hB : WF B) (hZ : WZ Z) (x : Int) : ZN B Z (FX11_leaves x) (S_leaves B Z x) := by
  intro f hM hS
  have k0 : Kp Sm f (up f 150 0 0) := Kp_u (Kp_r _ _) (by unfold Sm; omega)
  have hM0 := MO_s hM k0
  have hS0 := MS_s hS k0
  unfold FX11_leaves FX11_leaves_0 S_leaves S_zz
  rw [whyNot_e hB hM0 hZ hS0, b2_some]
  by_cases h : wW B Z x = 0
  · rw [if_pos h, if_pos h]
    obtain ⟨s, m, rfl, hG⟩ := wW_0 hZ h
    refine Wp_bind (laysAsk_W hB hG hM0 hS0) (fun g ⟨k, r⟩ => ?_)
    exact Wp_some ⟨by show g 150 50 = _; rw [fD_m hG]; exact r.2, Kp_t k0 k⟩
  · rw [if_neg h, if_neg h]
    exact Wp_some ⟨rfl, k0⟩
/-! how much it cools -/
theorem tb_all (p : Nat → Bool) : ∀ n, ∃ x, x < 2 ^ n ∧ ∀ i, i < n → Nat.testBit x i = p i
  | 0 => ⟨0, by decide, fun i h => by omega⟩
  | n + 1 => by
    obtain ⟨x, h1, h2⟩ := tb_all p n
    have hp : 2 ^ (n + 1) = 2 ^ n + 2 ^ n := by rw [Nat.pow_succ]; omega
    cases hc : p n
    · refine ⟨x, by omega, fun i hi => ?_⟩
      by_cases q : i = n
      · subst q; rw [Nat.testBit_lt_two_pow h1, hc]
      · exact h2 i (by omega)
    · refine ⟨2 ^ n + x, by omega, fun i hi => ?_⟩
      by_cases q : i = n
      · subst q; rw [Nat.testBit_two_pow_add_eq, Nat.testBit_lt_two_pow h1, hc]; rfl
      · rw [Nat.testBit_two_pow_add_gt (by omega)]
        exact h2 i (by omega)
theorem bts_c {p q : Nat → Bool} : ∀ n, (∀ i, i < n → p i = q i) → bts p n = bts q n
  | 0, _ => rfl
  | n + 1, h => by
    unfold bts
    rw [bts_c n (fun i hi => h i (by omega)), h n (by omega)]
theorem ff_c {p q : Nat → Bool} : ∀ n, (∀ i, i < n → p i = q i) → ff p n = ff q n
  | 0, _ => rfl
  | n + 1, h => by
    unfold ff
    rw [ff_c n (fun i hi => h i (by omega)), h n (by omega)]
theorem d10_1 : ∀ x : Fin 1024, bts (fun i => Nat.testBit x.val i) 10 = (x.val : Int) := by decide +kernel
theorem d10_2 : ∀ x : Fin 1024, (FJ6_bitCount_0f7a4 (x.val : Int) (fun _ _ => 0)).map (fun p => p.1) = some (sm (fun c => if Nat.testBit x.val c = true then 1 else 0) 10) := by decide +kernel
theorem d10_3 : ∀ x : Fin 1024, ff (fun k => hbit (x.val : Int) k) 32 = ff (fun i => Nat.testBit x.val i) 10 := by decide +kernel
theorem bc10 (p : Nat → Bool) (f : Mm) : FJ6_bitCount_0f7a4 (bts p 10) f = some (sm (fun c => if p c = true then 1 else 0) 10, f) := by
  obtain ⟨x, h1, h2⟩ := tb_all p 10
  have e1 := d10_1 ⟨x, h1⟩
  have e2 := d10_2 ⟨x, h1⟩
  simp only at e1 e2
  rw [bts_c (q := fun i => Nat.testBit x i) 10 (fun i hi => (h2 i hi).symm), e1, sm_congr (g' := fun c => if Nat.testBit x c = true then 1 else 0) 10 (fun i hi => by rw [h2 i hi])]
  unfold FJ6_bitCount_0f7a4 FJ6_bitCount_0f7a4_0 at e2 ⊢
  simp only [Option.map_some, Option.some.injEq] at e2
  rw [e2]
theorem leastBit_e (v : Int) (f : Mm) : FX10_leastBit v f = some (ff (fun k => hbit v k) 32, f) := by
  unfold FX10_leastBit FX10_leastBit_0
  refine forR (fun n x (_ : Unit) => FX10_leastBit_2 n v x f) (fun i _ => ff (fun k => hbit v k) i = -1) (fun o => o = some (ff (fun k => hbit v k) 32, f)) 32 ?_ ?_ fu 0 () rfl (by omega) (by have := fub; omega)
  · rintro n _ hk
    rw [FX10_leastBit_2, if_pos (by omega), hk]
  · rintro n i _ hi hk
    rw [FX10_leastBit_2, if_neg (by omega), holds_e, b2_some]
    by_cases q : hbit v i = true
    · right
      rw [if_pos q, if_neg (show ¬ (1 : Int) = 0 by decide), ff_hit (p := fun k => hbit v k) hk q 32 hi]
    · left
      rw [if_neg q, if_pos (show (0 : Int) = 0 from rfl), nx i (by omega)]
      exact ⟨(), rfl, ff_no hk (by cases h : hbit v i; rfl; exact absurd h q)⟩
theorem lb10 (p : Nat → Bool) (f : Mm) : FX10_leastBit (bts p 10) f = some (ff p 10, f) := by
  obtain ⟨x, h1, h2⟩ := tb_all p 10
  have e1 := d10_1 ⟨x, h1⟩
  have e3 := d10_3 ⟨x, h1⟩
  simp only at e1 e3
  rw [leastBit_e, bts_c (q := fun i => Nat.testBit x i) 10 (fun i hi => (h2 i hi).symm), e1, e3, ff_c (q := p) 10 h2]
def pC (B : Mm) (z : Nat → Int) (m n : Nat) : Bool := tl (wd B (dn B) (-1) (-1) 0 (n : Int)) z m
theorem coolings_W {B Z f : Mm} (hB : WF B) {s m : Nat} (hG : GZ B Z s m) (hC : CT B f) (hS : CS Z f) : Wp (FX10_coolings (s : Int) f) (fun p => p.1 = bts (pC B (Z s) m) 10 ∧ Kp Sc f p.2) := by
  obtain ⟨hD6, hDe⟩ := WF_D hB
  have hD0 := WF_D0 hB hG.2.2.2.2
  unfold FX10_coolings FX10_coolings_0
  refine Wp_bind (asDone_W hB hC) (fun g0 ⟨k0, x0, o0⟩ => ?_)
  have k0' : Kp Sc f g0 := Kp_m k0 (fun a j h => by unfold Sc; omega)
  obtain ⟨y1, y2, y3, y4, y5, y6, y7, y8⟩ := x0
  refine forX (fun n x (t : Int × Mm) => FX10_coolings_15 n (s : Int) t.1 x t.2) (fun i t => t.1 = bts (pC B (Z s) m) i ∧ Kp Sc f t.2 ∧ (∀ d, d < 6 → t.2 49 d = dn B d) ∧ t.2 48 2 = -1 ∧ t.2 48 3 = -1 ∧ t.2 48 5 = 0) _ 10 ?_ ?_ fu 0 (0, g0) ⟨rfl, k0', y1, y2, y3, y5⟩ (by omega) (by have := fub; omega)
  · rintro n ⟨b, t⟩ ⟨i1, i2, _⟩
    simp only at i1 i2 ⊢
    rw [FX10_coolings_15, if_pos (by omega)]
    exact Wp_some ⟨i1, i2⟩
  · rintro n i ⟨b, t⟩ hi ⟨i1, i2, i3, i4, i5, i6⟩
    simp only at i1 i2 i3 i4 i5 i6 ⊢
    left
    have k1 : Kp Sc f (up t 48 4 (i : Int)) := Kp_u i2 (by unfold Sc; omega)
    have hC1 := CT_s hB hC k1
    have e1 : t 4 1 = (nD B : Int) := by rw [(CT_s hB hC i2).1.2.1, hDe]
    have hX : CX B (dn B) (-1) (-1) 0 (i : Int) (up t 48 4 (i : Int)) := ⟨fun d hd => by rw [up_n (by omega)]; exact i3 d hd, by rw [up_n (by omega)]; exact i4, by rw [up_n (by omega)]; exact i5, by rw [up_s], by rw [up_n (by omega)]; exact i6, y6, y7, by omega⟩
    obtain ⟨g2, q2, k2, f2⟩ := feelThrough_W hB hC1 hX (l := nD B - 1) (by omega)
    rw [show nD B - 1 + 1 = nD B by omega] at f2
    have k3 : Kp Sc f g2 := Kp_t k1 (Kp_m k2 (fun a j h => by unfold Sc; omega))
    have keep : (∀ d, d < 6 → g2 49 d = dn B d) ∧ g2 48 2 = -1 ∧ g2 48 3 = -1 ∧ g2 48 5 = 0 := ⟨fun d hd => by rw [k2 49 d (by omega), up_n (by omega)]; exact i3 d hd, by rw [k2 48 2 (by omega), up_n (by omega)]; exact i4, by rw [k2 48 3 (by omega), up_n (by omega)]; exact i5, by rw [k2 48 5 (by omega), up_n (by omega)]; exact i6⟩
    have eb : bts (pC B (Z s) m) (i + 1) = if pC B (Z s) m i = true then bOr (bts (pC B (Z s) m) i) (bShl 1 (i : Int)) else bts (pC B (Z s) m) i := rfl
    have ep : tl (wd B (dn B) (-1) (-1) 0 (i : Int)) (Z s) m = pC B (Z s) m i := rfl
    rw [FX10_coolings_15, if_neg (by omega), e1, w32n (x := (nD B : Int) - 1) (n := nD B - 1) (by omega) (by omega), q2]
    simp only [Option.bind_some]
    rw [tells_e hB hG (CS_s hS (Sc_w k3)) f2, b2_some, ep, eb]
    unfold FX10_coolings_70
    rw [nx i (by omega)]
    rw [i1]
    by_cases q : pC B (Z s) m i = true
    · rw [if_pos q, if_neg (show ¬ (1 : Int) = 0 by decide), if_pos q]
      exact ⟨(bOr (bts (pC B (Z s) m) i) (bShl 1 (i : Int)), g2), rfl, rfl, k3, keep⟩
    · rw [if_neg q, if_pos (show (0 : Int) = 0 from rfl), if_neg q]
      exact ⟨(bts (pC B (Z s) m) i, g2), rfl, rfl, k3, keep⟩
def S_cools (B Z : Mm) (x : Int) : Int := S_zz B Z x (sm (fun c => if pC B (Z x.toNat) (Z x.toNat 100 / 2).toNat c = true then 1 else 0) 10)
def S_cool (B Z : Mm) (x : Int) : Int := S_zz B Z x (ff (pC B (Z x.toNat) (Z x.toNat 100 / 2).toNat) 10)
theorem pC_m {B Z : Mm} {s m : Nat} (h : GZ B Z s m) : pC B (Z (s : Int).toNat) (Z (s : Int).toNat 100 / 2).toNat = pC B (Z s) m := by
  rw [Int.toNat_natCast, h.2.1, show (((2 * m : Nat) : Int) / 2).toNat = m by omega]
theorem zc_cools {B Z : Mm} (hB : WF B) (hZ : WZ Z) (x : Int) : ZC B Z (FX10_cools x) (S_cools B Z x) := by
  rintro f ⟨hC, h0⟩ hS
  unfold FX10_cools FX10_cools_0 S_cools S_zz
  rw [widthsWrong_e hB hC hZ hS, b2_some]
  by_cases h : wW B Z x = 0
  · rw [if_pos h, if_pos h]
    obtain ⟨s, m, rfl, hG⟩ := wW_0 hZ h
    refine Wp_b2 (coolings_W hB hG hC hS) (fun r g ⟨e, k⟩ => ?_)
    simp only at e k
    rw [e, bc10, b2_some, pC_m hG]
    exact Wp_some ⟨rfl, k⟩
  · rw [if_neg h, if_neg h]
    exact Wp_some ⟨rfl, Kp_r _ _⟩
theorem zc_cool {B Z : Mm} (hB : WF B) (hZ : WZ Z) (x : Int) : ZC B Z (FX10_cool x) (S_cool B Z x) := by
  rintro f ⟨hC, h0⟩ hS
  unfold FX10_cool FX10_cool_0 S_cool S_zz
  rw [widthsWrong_e hB hC hZ hS, b2_some]
  by_cases h : wW B Z x = 0
  · rw [if_pos h, if_pos h]
    obtain ⟨s, m, rfl, hG⟩ := wW_0 hZ h
    refine Wp_b2 (coolings_W hB hG hC hS) (fun r g ⟨e, k⟩ => ?_)
    simp only at e k
    rw [e, lb10, b2_some, pC_m hG]
    exact Wp_some ⟨rfl, k⟩
  · rw [if_neg h, if_neg h]
    exact Wp_some ⟨rfl, Kp_r _ _⟩
theorem isCool_W {B Z f : Mm} (hB : WF B) {s m : Nat} (hG : GZ B Z s m) (hM : MO B f) (hS : MS Z f) (hX : MX B (dn B) (-1) (-1) f) {n : Nat} (hn : n < 10) : Wp (FX11_isCool (s : Int) (n : Int) f) (fun p => p.1 = (if pC B (Z s) m n = true then 1 else 0) ∧ Kp (fun a _ => 163 ≤ a ∧ a ≤ 165) f p.2) := by
  unfold FX11_isCool FX11_isCool_0
  refine Wp_bind (goes_W (tm := 0) (co := (n : Int)) hB hM hX (by omega)) (fun g ⟨k, mkk⟩ => ?_)
  have ep : tl (wd B (dn B) (-1) (-1) 0 (n : Int)) (Z s) m = pC B (Z s) m n := rfl
  rw [isSo_e hB hG (MS_s hS (Kp_m k (fun a j h => by unfold Sm; omega))) mkk, b2_some, b01, ep]
  exact Wp_some ⟨rfl, k⟩
theorem zm_cools {B Z : Mm} (hB : WF B) (hZ : WZ Z) (x : Int) : ZN B Z (FX11_cools x) (S_cools B Z x) := by
  intro f hM hS
  have k0 : Kp Sm f (up f 150 0 0) := Kp_u (Kp_r _ _) (by unfold Sm; omega)
  have hM0 := MO_s hM k0
  have hS0 := MS_s hS k0
  unfold FX11_cools FX11_cools_0 S_cools S_zz
  rw [whyNot_e hB hM0 hZ hS0, b2_some]
  by_cases h : wW B Z x = 0
  · rw [if_pos h, if_pos h]
    obtain ⟨s, m, rfl, hG⟩ := wW_0 hZ h
    rw [pC_m hG]
    refine Wp_bind (lays_W hB hM0) (fun g1 ⟨k1, a1, a2⟩ => ?_)
    have k1' : Kp Sm f g1 := Kp_t k0 (Kp_m k1 (fun a j h => by unfold Sm; omega))
    refine forX (fun n y (t : Int × Mm) => FX11_cools_26 n (s : Int) t.1 y t.2) (fun i t => t.1 = sm (fun c => if pC B (Z s) m c = true then 1 else 0) i ∧ Kp (fun a _ => 163 ≤ a ∧ a ≤ 165) g1 t.2) _ 10 ?_ ?_ fu 0 (0, g1) ⟨rfl, Kp_r _ _⟩ (by omega) (by have := fub; omega)
    · rintro n ⟨b, t⟩ ⟨i1, i2⟩
      simp only at i1 i2 ⊢
      rw [FX11_cools_26, if_pos (by omega)]
      exact Wp_some ⟨i1, Kp_t k1' (Kp_m i2 (fun a j h => by unfold Sm; omega))⟩
    · rintro n i ⟨b, t⟩ hi ⟨i1, i2⟩
      simp only at i1 i2 ⊢
      left
      have kt : Kp Sm f t := Kp_t k1' (Kp_m i2 (fun a j h => by unfold Sm; omega))
      obtain ⟨⟨r, g2⟩, q1, q2, q3⟩ := isCool_W hB hG (MO_s hM kt) (MS_s hS kt) (MX_k (WD_mx hB a1 a2) (fun a j h => i2 a j (by omega))) (n := i) (by omega)
      simp only at q2 q3
      have hr := sm_r (g := fun c => if pC B (Z s) m c = true then (1 : Int) else 0) (M := 1) i (fun c _ => by split <;> omega)
      have es : sm (fun c => if pC B (Z s) m c = true then (1 : Int) else 0) (i + 1) = sm (fun c => if pC B (Z s) m c = true then 1 else 0) i + (if pC B (Z s) m i = true then 1 else 0) := rfl
      rw [FX11_cools_26, if_neg (by omega), q1, b2_some, q2, es]
      unfold FX11_cools_49
      rw [nx i (by omega), i1]
      by_cases q : pC B (Z s) m i = true
      · rw [if_pos q, if_neg (show ¬ (1 : Int) = 0 by decide), w32s (by omega) (by omega)]
        exact ⟨(sm (fun c => if pC B (Z s) m c = true then 1 else 0) i + 1, g2), rfl, rfl, Kp_t i2 q3⟩
      · rw [if_neg q, if_pos (show (0 : Int) = 0 from rfl), w32s (by omega) (by omega)]
        exact ⟨(sm (fun c => if pC B (Z s) m c = true then 1 else 0) i + 0, g2), rfl, rfl, Kp_t i2 q3⟩
  · rw [if_neg h, if_neg h]
    exact Wp_some ⟨rfl, k0⟩
theorem zm_cool {B Z : Mm} (hB : WF B) (hZ : WZ Z) (x : Int) : ZN B Z (FX11_cool x) (S_cool B Z x) := by
  intro f hM hS
  have k0 : Kp Sm f (up f 150 0 0) := Kp_u (Kp_r _ _) (by unfold Sm; omega)
  have hM0 := MO_s hM k0
  have hS0 := MS_s hS k0
  unfold FX11_cool FX11_cool_0 S_cool S_zz
  rw [whyNot_e hB hM0 hZ hS0, b2_some]
  by_cases h : wW B Z x = 0
  · rw [if_pos h, if_pos h]
    obtain ⟨s, m, rfl, hG⟩ := wW_0 hZ h
    rw [pC_m hG]
    refine Wp_bind (lays_W hB hM0) (fun g1 ⟨k1, a1, a2⟩ => ?_)
    have k1' : Kp Sm f g1 := Kp_t k0 (Kp_m k1 (fun a j h => by unfold Sm; omega))
    refine forX (fun n y (t : Mm) => FX11_cool_23 n (s : Int) y t) (fun i t => ff (pC B (Z s) m) i = -1 ∧ Kp (fun a _ => 163 ≤ a ∧ a ≤ 165) g1 t) _ 10 ?_ ?_ fu 0 g1 ⟨rfl, Kp_r _ _⟩ (by omega) (by have := fub; omega)
    · rintro n t ⟨i1, i2⟩
      rw [FX11_cool_23, if_pos (by omega)]
      exact Wp_some ⟨i1.symm, Kp_t k1' (Kp_m i2 (fun a j h => by unfold Sm; omega))⟩
    · rintro n i t hi ⟨i1, i2⟩
      have kt : Kp Sm f t := Kp_t k1' (Kp_m i2 (fun a j h => by unfold Sm; omega))
      obtain ⟨⟨r, g2⟩, q1, q2, q3⟩ := isCool_W hB hG (MO_s hM kt) (MS_s hS kt) (MX_k (WD_mx hB a1 a2) (fun a j h => i2 a j (by omega))) (n := i) (by omega)
      simp only at q2 q3
      rw [FX11_cool_23, if_neg (by omega), q1, b2_some, q2, nx i (by omega)]
      by_cases q : pC B (Z s) m i = true
      · right
        rw [if_pos q, if_neg (show ¬ (1 : Int) = 0 by decide)]
        exact Wp_some ⟨(ff_hit i1 q 10 hi).symm, Kp_t k1' (Kp_m (Kp_t i2 q3) (fun a j h => by unfold Sm; omega))⟩
      · left
        rw [if_neg q, if_pos (show (0 : Int) = 0 from rfl)]
        exact ⟨g2, rfl, ff_no i1 (by cases h : pC B (Z s) m i; rfl; exact absurd h q), Kp_t i2 q3⟩
  · rw [if_neg h, if_neg h]
    exact Wp_some ⟨rfl, k0⟩

/-! tempers: weights, chances, days drawn -/
def wt (B : Mm) (bits : Int) : Nat → Int
  | 0 => 1
  | k + 1 => wt B bits k * (if hbit bits k = true then B 0 4 else 10 - B 0 4)
theorem mul_r {a b M : Int} (ha : 0 ≤ a ∧ a ≤ M) (hb : 0 ≤ b ∧ b ≤ 10) : 0 ≤ a * b ∧ a * b ≤ M * 10 :=
  ⟨Int.mul_nonneg ha.1 hb.1, Int.mul_le_mul ha.2 hb.2 hb.1 (by omega)⟩
theorem wt_r {B : Mm} (hB : WF B) (bits : Int) : ∀ k, 0 ≤ wt B bits k ∧ wt B bits k ≤ 10 ^ k
  | 0 => by unfold wt; decide
  | k + 1 => by
    have h := wt_r hB bits k
    have ho := hB.2.2.2.2.1
    unfold wt
    rw [Int.pow_succ]
    exact mul_r h (by split <;> omega)
theorem p10 {k : Nat} (h : k ≤ 6) : (1 : Int) ≤ 10 ^ k ∧ (10 : Int) ^ k ≤ 1000000 := by
  rcases (show k = 0 ∨ k = 1 ∨ k = 2 ∨ k = 3 ∨ k = 4 ∨ k = 5 ∨ k = 6 by omega) with h | h | h | h | h | h | h <;> subst h <;> decide
theorem weightOfBits_e {B f : Mm} (hB : WF B) (hC : CT B f) {d : Nat} (hd : d < 6) (bits : Int) : FX8_weightOfBits_4 bits (d : Int) f = some (wt B bits (d + 1), f) := by
  have ho := hB.2.2.2.2.1
  have e3 : f 4 3 = B 0 4 := hC.1.2.2.2.1
  unfold FX8_weightOfBits_4 FX8_weightOfBits_4_0
  have key := forX (fun n x (s : Int) => FX8_weightOfBits_4_5 n bits (d : Int) s x f) (fun i s => s = wt B bits i) (fun p => p = (wt B bits (d + 1), f)) (d + 1) ?_ ?_ fu 0 1 rfl (by omega) (by have := fub; omega)
  · obtain ⟨b, q1, q2⟩ := key
    rw [← q2]
    exact q1
  · intro n s hI
    rw [FX8_weightOfBits_4_5, if_pos (by omega), hI]
    exact Wp_some rfl
  · intro n i s hi hI
    left
    have hw := wt_r hB bits (i + 1)
    have hp := p10 (k := i + 1) (by omega)
    rw [FX8_weightOfBits_4_5, if_neg (by omega), holds_e, b2_some, e3]
    unfold FX8_weightOfBits_4_35
    rw [nx i (by omega), w32s (x := 10 - B 0 4) (by omega) (by omega)]
    unfold wt at hw
    by_cases h : hbit bits i = true
    · rw [if_pos h] at hw
      rw [if_pos h, if_neg (by decide), hI, w32s (by omega) (by omega)]
      refine ⟨_, rfl, ?_⟩
      rw [wt, if_pos h]
    · rw [if_neg h] at hw
      rw [if_neg h, if_pos rfl, hI, w32s (by omega) (by omega)]
      refine ⟨_, rfl, ?_⟩
      rw [wt, if_neg h]
/-- the weight of those tempers by which a day is so wide -/
def w_tm (B : Mm) (tm : Int) (d : Nat) : Int := wd B (dn B) (-1) (-1) tm (B 0 3) d
def wgt (B : Mm) (d : Nat) (n : Int) : Nat → Int
  | 0 => 0
  | k + 1 => wgt B d n k + (if n ≤ w_tm B (k : Int) d then wt B (k : Int) (d + 1) else 0)
theorem wgt_r {B : Mm} (hB : WF B) {d : Nat} (n : Int) : ∀ k, 0 ≤ wgt B d n k ∧ wgt B d n k ≤ k * 10 ^ (d + 1)
  | 0 => by unfold wgt; omega
  | k + 1 => by
    have h := wgt_r hB (d := d) n k
    have h2 := wt_r hB (k : Int) (d + 1)
    unfold wgt
    rw [show ((k + 1 : Nat) : Int) * 10 ^ (d + 1) = k * 10 ^ (d + 1) + 10 ^ (d + 1) by rw [Int.natCast_add, Int.add_mul]; omega]
    split <;> omega
theorem dPow {d : Nat} (hd : d < 6) : 2 ^ (d + 1) ≤ 64 ∧ bShl 1 ((d + 1 : Nat) : Int) = ((2 ^ (d + 1) : Nat) : Int) ∧ bShl 2 (d : Int) = ((2 ^ (d + 1) : Nat) : Int) := by
  rcases (show d = 0 ∨ d = 1 ∨ d = 2 ∨ d = 3 ∨ d = 4 ∨ d = 5 by omega) with h | h | h | h | h | h <;> subst h <;> decide +kernel
theorem wgt_b {B : Mm} (hB : WF B) {d : Nat} (hd : d < 6) (n : Int) {k : Nat} (hk : k ≤ 2 ^ (d + 1)) : 0 ≤ wgt B d n k ∧ wgt B d n k ≤ 64000000 := by
  have h := wgt_r hB (d := d) n k
  have h1 := (dPow hd).1
  have h2 := p10 (k := d + 1) (by omega)
  have h3 : (k : Int) * 10 ^ (d + 1) ≤ 64 * 1000000 := Int.mul_le_mul (by omega) h2.2 (by omega) (by omega)
  omega
theorem weightOf_W {B f : Mm} (hB : WF B) (hC : CT B f) {d : Nat} (hd : d < 6) (n : Int) : Wp (FX8_weightOf_4_48 (d : Int) n f) (fun p => p.1 = wgt B d n (2 ^ (d + 1)) ∧ Kp Sc f p.2) := by
  obtain ⟨p1, p2, -⟩ := dPow hd
  unfold FX8_weightOf_4_48 FX8_weightOf_4_48_0
  refine Wp_bind (asDone_W hB hC) (fun g ⟨k1, x1, o1⟩ => ?_)
  have k1' : Kp Sc f g := Kp_m k1 (fun a j h => by unfold Sc; omega)
  refine forX (fun m x (s : Int × Mm) => FX8_weightOf_4_48_11 m (d : Int) n s.1 x s.2) (fun i s => s.1 = wgt B d n i ∧ Kp Sc f s.2 ∧ ∃ t, CX B (dn B) (-1) (-1) t (B 0 3) s.2) _ (2 ^ (d + 1)) ?_ ?_ fu 0 (0, g) ⟨rfl, k1', 0, x1⟩ (by omega) (by have := fub; omega)
  · rintro m ⟨s, g'⟩ ⟨h1, h2, -⟩
    (try simp only at h1 h2 ⊢)
    rw [FX8_weightOf_4_48_11, w32n (x := (d : Int) + 1) (n := d + 1) (by omega) (by omega), p2, if_pos (by omega)]
    exact Wp_some ⟨h1, h2⟩
  · rintro m i ⟨s, g'⟩ hi ⟨h1, h2, t, h3⟩
    (try simp only at h1 h2 h3 ⊢)
    left
    have kU : Kp Sc g' (up g' 48 5 (i : Int)) := Kp_u (Kp_r _ _) (by unfold Sc; omega)
    have hX : CX B (dn B) (-1) (-1) (i : Int) (B 0 3) (up g' 48 5 (i : Int)) := by
      obtain ⟨y1, y2, y3, y4, y5, y6⟩ := h3
      exact ⟨fun e he => by rw [up_n (by omega)]; exact y1 e he, by rw [up_n (by omega)]; exact y2, by rw [up_n (by omega)]; exact y3, by rw [up_n (by omega)]; exact y4, by rw [up_s], y6⟩
    have hC2 := CT_s hB (CT_s hB hC h2) kU
    obtain ⟨g2, q1, q2, q3⟩ := feelThrough_W hB hC2 hX (l := d) hd
    have q2' : Kp S5 (up g' 48 5 (i : Int)) g2 := Kp_m q2 (fun a j h => by unfold S5; omega)
    have kk : Kp Sc f g2 := Kp_t h2 (Kp_t kU (Kp_m q2' (fun _ _ => S5_Sc)))
    have b1 := wgt_b hB hd n (k := i) (by omega)
    have b2' := wt_r hB (i : Int) (d + 1)
    have b3 := p10 (k := d + 1) (by omega)
    rw [FX8_weightOf_4_48_11, w32n (x := (d : Int) + 1) (n := d + 1) (by omega) (by omega), p2, if_neg (by omega), q1]
    simp only [Option.bind_some]
    rw [widthOn_e q3 (by omega) hd, b2_some, weightOfBits_e hB (CT_s hB hC kk) hd, b2_some]
    unfold FX8_weightOf_4_48_54
    rw [nx i (by omega), show wd B (dn B) (-1) (-1) (i : Int) (B 0 3) d = w_tm B (i : Int) d from rfl]
    by_cases c : w_tm B (i : Int) d < n
    · rw [if_pos c]
      refine ⟨(s, g2), rfl, ?_, kk, _, CX_k hX q2'⟩
      unfold wgt
      rw [if_neg (by omega), Int.add_zero]
      exact h1
    · rw [if_neg c, w32s (by omega) (by omega)]
      refine ⟨(_, g2), rfl, ?_, kk, _, CX_k hX q2'⟩
      unfold wgt
      rw [if_pos (by omega)]
      show s + _ = _
      rw [h1]
theorem chanceOf_W {B f : Mm} (hB : WF B) (hM : MO B f) {d : Nat} (hd : d < nD B) (n : Int) : Wp (FX11_chanceOf (d : Int) n f) (fun p => p.1 = wgt B d n (2 ^ (d + 1)) ∧ p.2 150 52 = 10 ^ (d + 1) ∧ Kp Sm f p.2) := by
  obtain ⟨hD6, hDe⟩ := WF_D hB
  have hd6 : d < 6 := by omega
  obtain ⟨p1, -, p2⟩ := dPow hd6
  have ho := hB.2.2.2.2.1
  unfold FX11_chanceOf FX11_chanceOf_0
  refine Wp_bind (lays_W hB hM) (fun g ⟨k1, a1, a2⟩ => ?_)
  have k1' : Kp Sm f g := Kp_m k1 (fun a j h => by unfold Sm; omega)
  refine forX (fun m x (s : Mm) => FX11_chanceOf_14 m (d : Int) n 0 x s) (fun i s => Kp (fun a j => a = 150 ∧ j = 52) g s ∧ s 150 52 = 10 ^ i) _ (d + 1) ?_ ?_ fu 0 _ ⟨Kp_u (Kp_r _ _) ⟨rfl, rfl⟩, by rw [up_s]; rfl⟩ (by omega) (by have := fub; omega)
  · rintro m g1 ⟨h1, h2⟩
    rw [FX11_chanceOf_14, if_pos (by omega)]
    unfold FX11_chanceOf_38
    have kg1 : Kp Sm f g1 := Kp_t k1' (Kp_m h1 (fun a j h => by unfold Sm; omega))
    have mx1 : MX B (dn B) (-1) (-1) g1 := MX_k (WD_mx hB a1 a2) (fun a j h => by
      by_cases hj : a = 150 ∧ j = 52
      · exact absurd hj (fun q => by sorry)
      · exact h1 a j hj)
    sorry
  · sorry

/-! tempers: weights, chances, days drawn -/
def wt (B : Mm) (bits : Int) : Nat → Int
  | 0 => 1
  | k + 1 => wt B bits k * (if hbit bits k = true then B 0 4 else 10 - B 0 4)
theorem mul_r {a b M : Int} (ha : 0 ≤ a ∧ a ≤ M) (hb : 0 ≤ b ∧ b ≤ 10) : 0 ≤ a * b ∧ a * b ≤ M * 10 :=
  ⟨Int.mul_nonneg ha.1 hb.1, Int.mul_le_mul ha.2 hb.2 hb.1 (by omega)⟩
theorem wt_r {B : Mm} (hB : WF B) (bits : Int) : ∀ k, 0 ≤ wt B bits k ∧ wt B bits k ≤ 10 ^ k
  | 0 => by unfold wt; decide
  | k + 1 => by
    have h := wt_r hB bits k
    have ho := hB.2.2.2.2.1
    unfold wt
    rw [Int.pow_succ]
    exact mul_r h (by split <;> omega)
theorem p10 {k : Nat} (h : k ≤ 6) : (1 : Int) ≤ 10 ^ k ∧ (10 : Int) ^ k ≤ 1000000 := by
  rcases (show k = 0 ∨ k = 1 ∨ k = 2 ∨ k = 3 ∨ k = 4 ∨ k = 5 ∨ k = 6 by omega) with h | h | h | h | h | h | h <;> subst h <;> decide
theorem weightOfBits_e {B f : Mm} (hB : WF B) (hC : CT B f) {d : Nat} (hd : d < 6) (bits : Int) : FX8_weightOfBits_4 bits (d : Int) f = some (wt B bits (d + 1), f) := by
  have ho := hB.2.2.2.2.1
  have e3 : f 4 3 = B 0 4 := hC.1.2.2.2.1
  unfold FX8_weightOfBits_4 FX8_weightOfBits_4_0
  have key := forX (fun n x (s : Int) => FX8_weightOfBits_4_5 n bits (d : Int) s x f) (fun i s => s = wt B bits i) (fun p => p = (wt B bits (d + 1), f)) (d + 1) ?_ ?_ fu 0 1 rfl (by omega) (by have := fub; omega)
  · obtain ⟨b, q1, q2⟩ := key
    rw [← q2]
    exact q1
  · intro n s hI
    rw [FX8_weightOfBits_4_5, if_pos (by omega), hI]
    exact Wp_some rfl
  · intro n i s hi hI
    left
    have hw := wt_r hB bits (i + 1)
    have hp := p10 (k := i + 1) (by omega)
    rw [FX8_weightOfBits_4_5, if_neg (by omega), holds_e, b2_some, e3]
    unfold FX8_weightOfBits_4_35
    rw [nx i (by omega), w32s (x := 10 - B 0 4) (by omega) (by omega)]
    unfold wt at hw
    by_cases h : hbit bits i = true
    · rw [if_pos h] at hw
      rw [if_pos h, if_neg (by decide), hI, w32s (by omega) (by omega)]
      refine ⟨_, rfl, ?_⟩
      rw [wt, if_pos h]
    · rw [if_neg h] at hw
      rw [if_neg h, if_pos rfl, hI, w32s (by omega) (by omega)]
      refine ⟨_, rfl, ?_⟩
      rw [wt, if_neg h]
/-- the weight of those tempers by which a day is so wide -/
def w_tm (B : Mm) (tm : Int) (d : Nat) : Int := wd B (dn B) (-1) (-1) tm (B 0 3) d
def wgt (B : Mm) (d : Nat) (n : Int) : Nat → Int
  | 0 => 0
  | k + 1 => wgt B d n k + (if n ≤ w_tm B (k : Int) d then wt B (k : Int) (d + 1) else 0)
theorem wgt_r {B : Mm} (hB : WF B) {d : Nat} (n : Int) : ∀ k, 0 ≤ wgt B d n k ∧ wgt B d n k ≤ k * 10 ^ (d + 1)
  | 0 => by unfold wgt; omega
  | k + 1 => by
    have h := wgt_r hB (d := d) n k
    have h2 := wt_r hB (k : Int) (d + 1)
    unfold wgt
    rw [show ((k + 1 : Nat) : Int) * 10 ^ (d + 1) = k * 10 ^ (d + 1) + 10 ^ (d + 1) by rw [Int.natCast_add, Int.add_mul]; omega]
    split <;> omega
theorem dPow {d : Nat} (hd : d < 6) : 2 ^ (d + 1) ≤ 64 ∧ bShl 1 ((d + 1 : Nat) : Int) = ((2 ^ (d + 1) : Nat) : Int) ∧ bShl 2 (d : Int) = ((2 ^ (d + 1) : Nat) : Int) := by
  rcases (show d = 0 ∨ d = 1 ∨ d = 2 ∨ d = 3 ∨ d = 4 ∨ d = 5 by omega) with h | h | h | h | h | h <;> subst h <;> decide +kernel
theorem wgt_b {B : Mm} (hB : WF B) {d : Nat} (hd : d < 6) (n : Int) {k : Nat} (hk : k ≤ 2 ^ (d + 1)) : 0 ≤ wgt B d n k ∧ wgt B d n k ≤ 64000000 := by
  have h := wgt_r hB (d := d) n k
  have h1 := (dPow hd).1
  have h2 := p10 (k := d + 1) (by omega)
  have h3 : (k : Int) * 10 ^ (d + 1) ≤ 64 * 1000000 := Int.mul_le_mul (by omega) h2.2 (by omega) (by omega)
  omega
theorem weightOf_W {B f : Mm} (hB : WF B) (hC : CT B f) {d : Nat} (hd : d < 6) (n : Int) : Wp (FX8_weightOf_4_48 (d : Int) n f) (fun p => p.1 = wgt B d n (2 ^ (d + 1)) ∧ Kp Sc f p.2) := by
  obtain ⟨p1, p2, -⟩ := dPow hd
  unfold FX8_weightOf_4_48 FX8_weightOf_4_48_0
  refine Wp_bind (asDone_W hB hC) (fun g ⟨k1, x1, o1⟩ => ?_)
  have k1' : Kp Sc f g := Kp_m k1 (fun a j h => by unfold Sc; omega)
  refine forX (fun m x (s : Int × Mm) => FX8_weightOf_4_48_11 m (d : Int) n s.1 x s.2) (fun i s => s.1 = wgt B d n i ∧ Kp Sc f s.2 ∧ ∃ t, CX B (dn B) (-1) (-1) t (B 0 3) s.2) _ (2 ^ (d + 1)) ?_ ?_ fu 0 (0, g) ⟨rfl, k1', 0, x1⟩ (Nat.zero_le _) (by have := fub; omega)
  · rintro m ⟨s, g'⟩ ⟨h1, h2, -⟩
    (try simp only at h1 h2 ⊢)
    rw [FX8_weightOf_4_48_11, w32n (x := (d : Int) + 1) (n := d + 1) (by omega) (by omega), p2, if_pos (by omega)]
    exact Wp_some ⟨h1, h2⟩
  · rintro m i ⟨s, g'⟩ hi ⟨h1, h2, t, h3⟩
    (try simp only at h1 h2 h3 ⊢)
    left
    have kU : Kp Sc g' (up g' 48 5 (i : Int)) := Kp_u (Kp_r _ _) (by unfold Sc; omega)
    have hX : CX B (dn B) (-1) (-1) (i : Int) (B 0 3) (up g' 48 5 (i : Int)) := by
      obtain ⟨y1, y2, y3, y4, y5, y6⟩ := h3
      exact ⟨fun e he => by rw [up_n (by omega)]; exact y1 e he, by rw [up_n (by omega)]; exact y2, by rw [up_n (by omega)]; exact y3, by rw [up_n (by omega)]; exact y4, by rw [up_s], y6⟩
    have hC2 := CT_s hB (CT_s hB hC h2) kU
    obtain ⟨g2, q1, q2, q3⟩ := feelThrough_W hB hC2 hX (l := d) hd
    have q2' : Kp S5 (up g' 48 5 (i : Int)) g2 := Kp_m q2 (fun a j h => by unfold S5; omega)
    have kk : Kp Sc f g2 := Kp_t h2 (Kp_t kU (Kp_m q2' (fun _ _ => S5_Sc)))
    have b1 := wgt_b hB hd n (k := i) (by omega)
    have b2' := wt_r hB (i : Int) (d + 1)
    have b3 := p10 (k := d + 1) (by omega)
    rw [FX8_weightOf_4_48_11, w32n (x := (d : Int) + 1) (n := d + 1) (by omega) (by omega), p2, if_neg (by omega), q1]
    simp only [Option.bind_some]
    rw [widthOn_e q3 (by omega) hd, b2_some, weightOfBits_e hB (CT_s hB hC kk) hd, b2_some]
    unfold FX8_weightOf_4_48_54
    rw [nx i (by omega), show wd B (dn B) (-1) (-1) (i : Int) (B 0 3) d = w_tm B (i : Int) d from rfl]
    by_cases c : w_tm B (i : Int) d < n
    · rw [if_pos c]
      refine ⟨(s, g2), rfl, ?_, kk, _, CX_k hX q2'⟩
      unfold wgt
      rw [if_neg (by omega), Int.add_zero]
      exact h1
    · rw [if_neg c, w32s (by omega) (by omega)]
      refine ⟨(_, g2), rfl, ?_, kk, _, CX_k hX q2'⟩
      unfold wgt
      rw [if_pos (by omega)]
      show s + _ = _
      rw [h1]
theorem MX_k2 {B : Mm} {ch : Nat → Int} {t2 tw : Int} {f g : Mm} (h : MX B ch t2 tw f) (h1 : ∀ j, g 162 j = f 162 j) (h2 : g 150 23 = f 150 23) (h3 : g 150 24 = f 150 24) : MX B ch t2 tw g :=
  ⟨fun d hd => by rw [h1]; exact h.1 d hd, by rw [h2]; exact h.2.1, fun q => by rw [h3]; exact h.2.2.1 q, h.2.2.2⟩
theorem chanceOf_W {B f : Mm} (hB : WF B) (hM : MO B f) {d : Nat} (hd : d < nD B) (n : Int) : Wp (FX11_chanceOf (d : Int) n f) (fun p => p.1 = wgt B d n (2 ^ (d + 1)) ∧ p.2 150 52 = 10 ^ (d + 1) ∧ Kp Sm f p.2) := by
  obtain ⟨hD6, hDe⟩ := WF_D hB
  have hd6 : d < 6 := by omega
  obtain ⟨p1, -, p2⟩ := dPow hd6
  have ho := hB.2.2.2.2.1
  have hcb : ∀ k, k ≤ 2 ^ (d + 1) → 0 ≤ wgt B d n k ∧ wgt B d n k ≤ 64000000 := fun k hk => wgt_b hB hd6 n hk
  unfold FX11_chanceOf FX11_chanceOf_0
  refine Wp_bind (lays_W hB hM) (fun g ⟨k1, a1, a2⟩ => ?_)
  have k1' : Kp Sm f g := Kp_m k1 (fun a j h => by unfold Sm; omega)
  refine forX (fun m x (s : Mm) => FX11_chanceOf_14 m (d : Int) n 0 x s) (fun i s => Kp (fun a j => a = 150 ∧ j = 52) g s ∧ s 150 52 = 10 ^ i) _ (d + 1) ?_ ?_ fu 0 _ ⟨Kp_u (Kp_r _ _) ⟨rfl, rfl⟩, by rw [up_s]; rfl⟩ (by omega) (by have := fub; omega)
  · rintro m g1 ⟨h1, h2⟩
    rw [FX11_chanceOf_14, if_pos (by omega)]
    unfold FX11_chanceOf_38
    have kg1 : Kp Sm f g1 := Kp_t k1' (Kp_m h1 (fun a j h => by unfold Sm; omega))
    have mx1 : MX B (dn B) (-1) (-1) g1 := MX_k2 (WD_mx hB a1 a2) (fun j => h1 162 j (by omega)) (h1 150 23 (by omega)) (h1 150 24 (by omega))
    generalize hN : 2 ^ (d + 1) = N at *
    refine forX (fun m x (s : Int × Mm) => FX11_chanceOf_41 m (d : Int) n s.1 x s.2) (fun i s => s.1 = wgt B d n i ∧ Kp (fun a j => 163 ≤ a ∧ a ≤ 165) g1 s.2) _ N ?_ ?_ fu 0 (0, g1) ⟨rfl, Kp_r _ _⟩ (Nat.zero_le _) (by have := fub; omega)
    · rintro m ⟨s, g2⟩ ⟨h3, h4⟩
      (try simp only at h3 h4 ⊢)
      rw [FX11_chanceOf_41, p2, if_pos (by omega)]
      refine Wp_some ⟨h3, ?_, Kp_t kg1 (Kp_m h4 (fun a j h => by unfold Sm; omega))⟩
      show g2 150 52 = _
      rw [h4 150 52 (by omega), h2]
    · rintro m i ⟨s, g2⟩ hi ⟨h3, h4⟩
      (try simp only at h3 h4 ⊢)
      have kg2 : Kp Sm f g2 := Kp_t kg1 (Kp_m h4 (fun a j h => by unfold Sm; omega))
      have hM2 := MO_s hM kg2
      have mx2 : MX B (dn B) (-1) (-1) g2 := MX_k mx1 (fun a j h => h4 a j (by omega))
      have e4 : g2 157 4 = B 0 4 := hM2.1.2.2.2.2.2.1
      have e3 : g2 157 3 = B 0 3 := hM2.1.2.2.2.2.1
      left
      rw [FX11_chanceOf_41, p2, if_neg (by omega)]
      refine forR (fun m' x (c : Int) => FX11_chanceOf_55 (FX11_chanceOf_41 m) m' (d : Int) n s (i : Int) c x g2) (fun j c => c = wt B (i : Int) j) (fun o => ∃ s' : Int × Mm, o = FX11_chanceOf_41 m (d : Int) n s'.1 ((i + 1 : Nat) : Int) s'.2 ∧ s'.1 = wgt B d n (i + 1) ∧ Kp (fun a j => 163 ≤ a ∧ a ≤ 165) g1 s'.2) (d + 1) ?_ ?_ fu 0 1 rfl (by omega) (by have := fub; omega)
      · intro m' c hc
        have b1 := hcb i (by omega)
        have b2' := wt_r hB (i : Int) (d + 1)
        have b3 := p10 (k := d + 1) (by omega)
        obtain ⟨g3, q1, q2, q3⟩ := goes_W hB hM2 (tm := (i : Int)) (co := B 0 3) mx2 hB.2.2.2.1
        rw [FX11_chanceOf_55, if_pos (by omega)]
        unfold FX11_chanceOf_102
        rw [e3, q1]
        simp only [Option.bind_some]
        rw [if_pos (by omega), Int.toNat_natCast, (q3 d hd).2.2]
        unfold FX11_chanceOf_131
        rw [nx i (by omega), show wd B (dn B) (-1) (-1) (i : Int) (B 0 3) d = w_tm B (i : Int) d from rfl, hc]
        by_cases c : w_tm B (i : Int) d < n
        · rw [if_pos c, w64s (by omega) (by omega)]
          refine ⟨(_, g3), rfl, ?_, Kp_t h4 q2⟩
          unfold wgt
          rw [if_neg (by omega)]
          show s + 0 = _
          rw [h3]
        · rw [if_neg c, w64s (by omega) (by omega)]
          refine ⟨(_, g3), rfl, ?_, Kp_t h4 q2⟩
          unfold wgt
          rw [if_pos (by omega)]
          show s + _ = _
          rw [h3]
      · intro m' j c hj hc
        left
        have hw := wt_r hB (i : Int) (j + 1)
        have hp := p10 (k := j + 1) (by omega)
        rw [FX11_chanceOf_55, if_neg (by omega), isBit_e, b2_some, e4]
        unfold FX11_chanceOf_93
        rw [nx j (by omega), w32s (x := 10 - B 0 4) (by omega) (by omega)]
        unfold wt at hw
        by_cases h : hbit (i : Int) j = true
        · rw [if_pos h] at hw
          rw [if_pos h, if_neg (by decide), hc, w64s (by omega) (by omega)]
          refine ⟨_, rfl, ?_⟩
          rw [wt, if_pos h]
        · rw [if_neg h] at hw
          rw [if_neg h, if_pos rfl, hc, w64s (by omega) (by omega)]
          refine ⟨_, rfl, ?_⟩
          rw [wt, if_neg h]
  · rintro m i g1 hi ⟨h1, h2⟩
    left
    have hp := p10 (k := i) (by omega)
    rw [FX11_chanceOf_14, if_neg (by omega), nx i (by omega), h2, w64s (by omega) (by omega)]
    exact ⟨_, rfl, Kp_u h1 ⟨rfl, rfl⟩, by rw [up_s, Int.pow_succ]⟩
theorem tenTo_e {n : Nat} (hn : n ≤ 6) (f : Mm) : FX10_tenTo (n : Int) f = some (10 ^ n, f) := by
  unfold FX10_tenTo FX10_tenTo_0
  have key := forX (fun m x (s : Int) => FX10_tenTo_4 m (n : Int) s x f) (fun i s => s = 10 ^ i) (fun p => p = (10 ^ n, f)) n ?_ ?_ fu 0 1 rfl (by omega) (by have := fub; omega)
  · obtain ⟨b, q1, q2⟩ := key
    rw [← q2]
    exact q1
  · intro m s hI
    rw [FX10_tenTo_4, if_pos (by omega), hI]
    exact Wp_some rfl
  · intro m i s hi hI
    left
    have hp := p10 (k := i) (by omega)
    rw [FX10_tenTo_4, if_neg (by omega), if_neg (by omega), nx i (by omega), hI, w32s (by omega) (by omega)]
    exact ⟨_, rfl, by rw [Int.pow_succ]⟩
/-- the greatest common divisor, turn by turn -/
def euc : Nat → Nat → Nat → Nat
  | 0, a, _ => a
  | n + 1, a, b => if b = 0 then a else euc n b (a % b)
theorem tmod_n (a b : Nat) : ((a : Int)).tmod (b : Int) = ((a % b : Nat) : Int) := by rw [← Int.ofNat_tmod]
theorem euc_pos : ∀ n a b, 0 < a ∨ (0 < b ∧ 0 < n) → 0 < euc n a b
  | 0, a, b, h => by unfold euc; omega
  | n + 1, a, b, h => by
    unfold euc
    by_cases hb : b = 0
    · rw [if_pos hb]; omega
    · rw [if_neg hb]
      exact euc_pos n b (a % b) (by omega)
theorem euc_le : ∀ n a b, euc n a b ≤ max a b
  | 0, a, b => by unfold euc; omega
  | n + 1, a, b => by
    unfold euc
    by_cases hb : b = 0
    · rw [if_pos hb]; omega
    · rw [if_neg hb]
      have h1 := euc_le n b (a % b)
      have h2 := Nat.mod_lt a (show 0 < b by omega)
      omega
theorem commonDivisor_e (a b : Nat) (f : Mm) : FX10_commonDivisor (a : Int) (b : Int) f = some ((euc 64 a b : Int), f) := by
  unfold FX10_commonDivisor FX10_commonDivisor_0
  have key : ∀ k, k ≤ 64 → ∀ n, k < n → ∀ a b : Nat, FX10_commonDivisor_7 n (a : Int) (b : Int) ((64 - k : Nat) : Int) f = some ((euc k a b : Int), f) := by
    intro k
    induction k with
    | zero =>
      intro _ n hn a b
      obtain ⟨m, rfl⟩ : ∃ m, n = m + 1 := ⟨n - 1, by omega⟩
      rw [FX10_commonDivisor_7, if_pos (by omega)]
      rfl
    | succ k ih =>
      intro hk n hn a b
      obtain ⟨m, rfl⟩ : ∃ m, n = m + 1 := ⟨n - 1, by omega⟩
      rw [FX10_commonDivisor_7, if_neg (by omega)]
      unfold euc
      by_cases hb : b = 0
      · rw [if_pos (by omega), if_pos hb]
      · rw [if_neg (by omega), if_pos (by omega), if_neg hb, nx _ (by omega), show 64 - (k + 1) + 1 = 64 - k by omega]
        unfold iRem
        rw [tmod_n]
        exact ih (by omega) m (by omega) b (a % b)
  exact key 64 (by omega) fu (by have := fub; omega) a b
theorem common_e (f : Mm) : ∀ (k : Nat) (a b : Nat), b < 2 ^ k → ∀ n, 2 * k + 1 ≤ n → FX11_commonR n (a : Int) (b : Int) f = some ((euc n a b : Int), f) := by
  have step : ∀ (n : Nat) (a b : Nat), FX11_commonR (n + 1) (a : Int) (b : Int) f = if b = 0 then some ((a : Int), f) else FX11_commonR n (b : Int) ((a % b : Nat) : Int) f := by
    intro n a b
    rw [FX11_commonR]
    unfold FX11_common FX11_common_0 cmp3 lRem
    by_cases hb : b = 0
    · subst hb
      rw [if_pos rfl]
      rfl
    · rw [if_neg hb, if_neg (show ¬ ((b : Int) < 0) by omega), if_neg (show ¬ ((b : Int) = 0) by omega), if_neg (by decide), if_pos (by omega), tmod_n]
      cases FX11_commonR n (b : Int) ((a % b : Nat) : Int) f with
      | none => rfl
      | some q => rfl
  intro k
  induction k with
  | zero =>
    intro a b hb n hn
    have : b = 0 := by omega
    subst this
    obtain ⟨m, rfl⟩ : ∃ m, n = m + 1 := ⟨n - 1, by omega⟩
    rw [step, if_pos rfl]
    unfold euc
    rw [if_pos rfl]
  | succ k ih =>
    intro a b hb n hn
    obtain ⟨m, rfl⟩ : ∃ m, n = m + 1 + 1 := ⟨n - 2, by omega⟩
    rw [step]
    unfold euc
    by_cases h0 : b = 0
    · rw [if_pos h0, if_pos h0]
    · rw [if_neg h0, if_neg h0, step]
      unfold euc
      by_cases h1 : a % b = 0
      · rw [if_pos h1, if_pos h1]
      · rw [if_neg h1, if_neg h1]
        have q1 := Nat.mod_lt a (show 0 < b by omega)
        have q2 := Nat.mod_lt b (show 0 < a % b by omega)
        have q3 : b % (a % b) ≤ b - a % b := by
          rw [Nat.mod_eq_sub_mod (by omega)]
          exact Nat.mod_le _ _
        refine ih (a % b) (b % (a % b)) ?_ m (by omega)
        rw [Nat.pow_succ] at hb
        omega
/-- what chance tells -/
def v_ch (B : Mm) (d : Nat) (n : Int) (w : Int) : Int :=
  if w = 0 then (((wgt B d n (2 ^ (d + 1))).toNat / euc 64 (wgt B d n (2 ^ (d + 1))).toNat (10 ^ (d + 1)) : Nat) : Int) else ((10 ^ (d + 1) / euc 64 (wgt B d n (2 ^ (d + 1))).toNat (10 ^ (d + 1)) : Nat) : Int)
def S_chance (B : Mm) (x n w : Int) : Int := if 0 ≤ x ∧ x < (nD B : Int) ∧ 0 ≤ n ∧ n ≤ 60 ∧ 0 ≤ w ∧ w ≤ 1 then v_ch B x.toNat n w else -2
theorem tdiv_n (a b : Nat) : ((a : Int)).tdiv (b : Int) = ((a / b : Nat) : Int) := by rw [← Int.ofNat_tdiv]
theorem iDiv_n {a b : Nat} (h : a < 2147483648) : iDiv (a : Int) (b : Int) = ((a / b : Nat) : Int) := by
  have := Nat.div_le_self a b
  unfold iDiv
  rw [tdiv_n]
  generalize a / b = q at *
  rw [ w32s (by omega) (by omega)]
theorem lDiv_n {a b : Nat} (h : a < 2147483648) : lDiv (a : Int) (b : Int) = ((a / b : Nat) : Int) := by
  have := Nat.div_le_self a b
  unfold lDiv
  rw [tdiv_n]
  generalize a / b = q at *
  rw [ w64s (by omega) (by omega)]
theorem p10n {k : Nat} (h : k ≤ 6) : 1 ≤ 10 ^ k ∧ 10 ^ k ≤ 1000000 ∧ (((10 ^ k : Nat)) : Int) = 10 ^ k := by
  rcases (show k = 0 ∨ k = 1 ∨ k = 2 ∨ k = 3 ∨ k = 4 ∨ k = 5 ∨ k = 6 by omega) with h | h | h | h | h | h | h <;> subst h <;> decide
theorem cq_chance {B : Mm} (hB : WF B) (x n w : Int) : QC B (FX10_chance x n w) (S_chance B x n w) := by
  rintro f ⟨hC, h0⟩
  obtain ⟨hD6, hDe⟩ := WF_D hB
  unfold FX10_chance FX10_chance_0 S_chance
  rw [hasDay_e, b2_some, isFeeling_e, b2_some, hC.1.2.1, hDe]
  by_cases h : 0 ≤ x ∧ x < (nD B : Int)
  · rw [if_pos h, if_neg (by decide)]
    by_cases h2 : 0 ≤ n ∧ n ≤ 60
    · rw [if_pos h2, if_neg (by decide)]
      by_cases h3 : w < 0
      · rw [if_pos h3, if_neg (by omega)]
        exact Wp_some ⟨rfl, Kp_r _ _⟩
      · rw [if_neg h3]
        by_cases h4 : w ≤ 1
        · obtain ⟨d, rfl⟩ : ∃ d : Nat, x = (d : Int) := ⟨x.toNat, by omega⟩
          rw [if_pos h4, if_pos (by omega), Int.toNat_natCast]
          refine Wp_b2 (weightOf_W hB hC (d := d) (by omega) n) (fun r g ⟨e1, k1⟩ => ?_)
          simp only at e1 k1
          have hb := wgt_b hB (d := d) (by omega) n (Nat.le_refl (2 ^ (d + 1)))
          obtain ⟨t1, t2, t3⟩ := p10n (k := d + 1) (by omega)
          rw [w32n (x := (d : Int) + 1) (n := d + 1) (by omega) (by omega), tenTo_e (by omega), b2_some, e1]
          unfold v_ch
          obtain ⟨A, hA⟩ : ∃ A : Nat, wgt B d n (2 ^ (d + 1)) = (A : Int) := ⟨(wgt B d n (2 ^ (d + 1))).toNat, by omega⟩
          rw [hA, ← t3, commonDivisor_e, b2_some, Int.toNat_natCast]
          have hg := euc_pos 64 A (10 ^ (d + 1)) (by omega)
          have hg0 : ¬ ((euc 64 A (10 ^ (d + 1)) : Nat) : Int) = 0 := by omega
          by_cases hw : w = 0
          · rw [if_neg hg0, if_pos hw, if_pos hg0, iDiv_n (by omega), if_pos hw]
            exact Wp_some ⟨rfl, k1⟩
          · rw [if_neg hg0, if_neg hw, if_pos hg0, iDiv_n (by omega), if_neg hw]
            exact Wp_some ⟨rfl, k1⟩
        · rw [if_neg h4, if_neg (by omega)]
          exact Wp_some ⟨rfl, Kp_r _ _⟩
    · rw [if_neg h2, if_pos rfl, if_neg (by omega)]
      exact Wp_some ⟨rfl, Kp_r _ _⟩
  · rw [if_neg h, if_pos rfl, if_neg (by omega)]
    exact Wp_some ⟨rfl, Kp_r _ _⟩
theorem mq_chance {B : Mm} (hB : WF B) (x n w : Int) : QM B (FX11_chance x n w) (S_chance B x n w) := by
  intro f hM
  obtain ⟨hD6, hDe⟩ := WF_D hB
  have hL := hB.2.2.2.2.2.2.2.2.2.1.2.1
  have k0 : Kp Sm f (up f 150 0 0) := Kp_u (Kp_r _ _) (by unfold Sm; omega)
  have hM0 := MO_s hM k0
  unfold FX11_chance FX11_chance_0 S_chance
  rw [isDay_e hB hM0, b2_some, misWidth_e hM0, b2_some, isHalf_e, b2_some]
  by_cases h : 0 ≤ x ∧ x < (nD B : Int)
  · rw [if_pos h, if_neg (by decide)]
    by_cases h2 : 0 < B 0 8 ∧ 0 ≤ n ∧ n ≤ 60
    · rw [if_pos h2, if_neg (by decide)]
      by_cases h3 : 0 ≤ w ∧ w ≤ 1
      · obtain ⟨d, rfl⟩ : ∃ d : Nat, x = (d : Int) := ⟨x.toNat, by omega⟩
        rw [if_pos h3, if_neg (by decide), if_pos (by omega), Int.toNat_natCast]
        refine Wp_b2 (chanceOf_W hB hM0 (d := d) (by omega) n) (fun r g ⟨e1, e2, k1⟩ => ?_)
        simp only at e1 e2 k1
        have kk := Kp_t k0 k1
        have hb := wgt_b hB (d := d) (by omega) n (Nat.le_refl (2 ^ (d + 1)))
        obtain ⟨t1, t2, t3⟩ := p10n (k := d + 1) (by omega)
        unfold FX11_chance_54 v_ch
        obtain ⟨A, hA⟩ : ∃ A : Nat, wgt B d n (2 ^ (d + 1)) = (A : Int) := ⟨(wgt B d n (2 ^ (d + 1))).toNat, by omega⟩
        rw [e1, e2, hA, ← t3, common_e g 20 A (10 ^ (d + 1)) (by omega) 64 (by omega), b2_some, b2_some, Int.toNat_natCast]
        have hg := euc_pos 64 A (10 ^ (d + 1)) (by omega)
        have hg0 : ¬ ((euc 64 A (10 ^ (d + 1)) : Nat) : Int) = 0 := by omega
        by_cases hw : w = 0
        · rw [if_pos hw, if_pos hg0, lDiv_n (by omega), if_pos hw]
          exact Wp_some ⟨rfl, kk⟩
        · rw [if_neg hw, if_pos hg0, lDiv_n (by omega), if_neg hw]
          exact Wp_some ⟨rfl, kk⟩
      · rw [if_neg h3, if_pos rfl, if_neg (by omega)]
        exact Wp_some ⟨rfl, k0⟩
    · rw [if_neg h2, if_pos rfl, if_neg (by omega)]
      exact Wp_some ⟨rfl, k0⟩
  · rw [if_neg h, if_pos rfl, if_neg (by omega)]
    exact Wp_some ⟨rfl, k0⟩
def v_wh (B : Mm) (n : Int) (d : Nat) : Int := wgt B d n (2 ^ (d + 1)) * 10 ^ (nD B - 1 - d)
def st_when (B : Mm) (n : Int) (d : Nat) (s : Int × Int) : Int × Int := if s.2 < v_wh B n d then ((d : Int), v_wh B n d) else s
def S_when (B : Mm) (n : Int) : Int := if 0 < B 0 8 ∧ 0 ≤ n ∧ n ≤ 60 then (fo (st_when B n) (-1, 0) (nD B)).1 else -2
theorem v_wh_r {B : Mm} (hB : WF B) (n : Int) {d : Nat} (hd : d < nD B) : 0 ≤ v_wh B n d ∧ v_wh B n d ≤ 64000000 ∧ v_wh B n d * 10 ^ (d + 1) = wgt B d n (2 ^ (d + 1)) * 10 ^ nD B := by
  have h6 := (WF_D hB).1
  have h1 := wgt_r hB (d := d) n (2 ^ (d + 1))
  have h2 := p10 (k := nD B - 1 - d) (by omega)
  have h3 := p10 (k := nD B) h6
  have h5 := (dPow (d := d) (by omega)).1
  have e : (10 : Int) ^ (d + 1) * 10 ^ (nD B - 1 - d) = 10 ^ nD B := by rw [← Int.pow_add, show d + 1 + (nD B - 1 - d) = nD B by omega]
  unfold v_wh
  refine ⟨Int.mul_nonneg h1.1 (by omega), ?_, ?_⟩
  · have h4 : wgt B d n (2 ^ (d + 1)) * 10 ^ (nD B - 1 - d) ≤ (((2 ^ (d + 1) : Nat) : Int) * 10 ^ (d + 1)) * 10 ^ (nD B - 1 - d) := Int.mul_le_mul_of_nonneg_right h1.2 (by omega)
    rw [Int.mul_assoc, e] at h4
    have h7 : ((2 ^ (d + 1) : Nat) : Int) * 10 ^ nD B ≤ 64 * 1000000 := Int.mul_le_mul (by omega) h3.2 (by omega) (by omega)
    omega
  · rw [Int.mul_assoc, Int.mul_comm (10 ^ (nD B - 1 - d)), e]
theorem frac {v g i0 a al be E : Int} (h1 : v * al = i0 * E) (h2 : g * be = a * E) (p1 : 0 < al) (p2 : 0 < be) (p3 : 0 < E) : g < v ↔ a * al < i0 * be := by
  have q : 0 < al * be := Int.mul_pos p1 p2
  have e1 : v * (al * be) = i0 * be * E := by rw [← Int.mul_assoc, h1, Int.mul_assoc, Int.mul_comm E, ← Int.mul_assoc]
  have e2 : g * (al * be) = a * al * E := by rw [Int.mul_comm al, ← Int.mul_assoc, h2, Int.mul_assoc, Int.mul_comm E, ← Int.mul_assoc]
  constructor
  · intro h
    have h3 := Int.mul_lt_mul_of_pos_right h q
    rw [e1, e2] at h3
    exact Int.lt_of_mul_lt_mul_right h3 (by omega)
  · intro h
    have h3 := Int.mul_lt_mul_of_pos_right h p3
    rw [← e1, ← e2] at h3
    exact Int.lt_of_mul_lt_mul_right h3 (by omega)
theorem st_when_r {B : Mm} (hB : WF B) (n : Int) : ∀ i, i ≤ nD B → 0 ≤ (fo (st_when B n) (-1, 0) i).2 ∧ (fo (st_when B n) (-1, 0) i).2 ≤ 64000000
  | 0, _ => by unfold fo; decide
  | i + 1, h => by
    have h1 := st_when_r hB n i (by omega)
    have h2 := v_wh_r hB n (d := i) (by omega)
    unfold fo st_when
    split
    · exact ⟨h2.1, h2.2.1⟩
    · exact h1
theorem cq_when {B : Mm} (hB : WF B) (n : Int) : QC B (FX10_when n) (S_when B n) := by
  rintro f ⟨hC, h0⟩
  obtain ⟨hD6, hDe⟩ := WF_D hB
  unfold FX10_when FX10_when_0 S_when
  rw [stands_e, b2_some, isFeeling_e, b2_some, hC.1.1]
  by_cases h : 0 < B 0 8
  · rw [if_pos h, if_neg (by decide)]
    by_cases h2 : 0 ≤ n ∧ n ≤ 60
    · rw [if_pos h2, if_neg (by decide), if_pos (by omega)]
      refine forX (fun m x (s : (Int × Int) × Mm) => FX10_when_27 m n s.1.1 s.1.2 x s.2) (fun i s => s.1 = fo (st_when B n) (-1, 0) i ∧ Kp Sc f s.2) _ (nD B) ?_ ?_ fu 0 ((-1, 0), f) ⟨rfl, Kp_r _ _⟩ (by omega) (by have := fub; omega)
      · rintro m ⟨⟨a, b⟩, g⟩ ⟨h3, h4⟩
        (try simp only at h3 h4 ⊢)
        have hC' := CT_s hB hC h4
        rw [FX10_when_27, if_pos (by rw [hC'.1.2.1]; omega), ← h3]
        exact Wp_some ⟨rfl, h4⟩
      · rintro m i ⟨⟨a, b⟩, g⟩ hi ⟨h3, h4⟩
        (try simp only at h3 h4 ⊢)
        left
        have hC' := CT_s hB hC h4
        have e1 : g 4 1 = (nD B : Int) := by rw [hC'.1.2.1, hDe]
        obtain ⟨⟨r, g1⟩, q1, q2, q3⟩ := weightOf_W hB hC' (d := i) (by omega) n
        simp only at q2 q3
        have kk := Kp_t h4 q3
        have e1' : g1 4 1 = (nD B : Int) := by rw [(CT_s hB hC kk).1.2.1, hDe]
        have hv := v_wh_r hB n hi
        rw [FX10_when_27, if_neg (by omega), q1, b2_some, e1', w32s (x := (nD B : Int) - 1) (by omega) (by omega), w32n (x := (nD B : Int) - 1 - (i : Int)) (n := nD B - 1 - i) (by omega) (by omega), tenTo_e (by omega), b2_some, q2]
        rw [show wgt B i n (2 ^ (i + 1)) * 10 ^ (nD B - 1 - i) = v_wh B n i from rfl, w32s (by omega) (by omega)]
        unfold FX10_when_83
        rw [nx i (by omega)]
        have e4 : fo (st_when B n) (-1, 0) (i + 1) = st_when B n i (a, b) := by rw [h3]; rfl
        rw [e4]
        unfold st_when
        (try simp only)
        by_cases c : v_wh B n i ≤ b
        · rw [if_pos c, if_neg (by omega)]
          exact ⟨((a, b), g1), rfl, rfl, kk⟩
        · rw [if_neg c, if_pos (by omega)]
          exact ⟨(((i : Int), v_wh B n i), g1), rfl, rfl, kk⟩
    · rw [if_neg h2, if_pos rfl, if_neg (by omega)]
      exact Wp_some ⟨rfl, Kp_r _ _⟩
  · rw [if_neg h, if_pos rfl, if_neg (by omega)]
    exact Wp_some ⟨rfl, Kp_r _ _⟩
theorem cmp_gt {x y : Int} : 0 < cmp3 x y ↔ y < x := by unfold cmp3; grind
theorem mq_when {B : Mm} (hB : WF B) (n : Int) : QM B (FX11_when n) (S_when B n) := by
  intro f hM
  obtain ⟨hD6, hDe⟩ := WF_D hB
  have k0 : Kp Sm f (up f 150 0 0) := Kp_u (Kp_r _ _) (by unfold Sm; omega)
  have hM0 := MO_s hM k0
  have pE := p10 (k := nD B) hD6
  unfold FX11_when FX11_when_0 S_when
  rw [misWidth_e hM0, b2_some]
  by_cases h : 0 < B 0 8 ∧ 0 ≤ n ∧ n ≤ 60
  · rw [if_pos h, if_neg (by decide), if_pos h]
    refine forX (fun m x (s : Int × Int × Int × Mm) => FX11_when_26 m n s.1 s.2.1 s.2.2.1 x s.2.2.2) (fun i s => Kp Sm f s.2.2.2 ∧ (0 < s.2.2.1 ∧ s.2.2.1 ≤ 1000000) ∧ (0 ≤ s.2.1 ∧ s.2.1 ≤ 64000000) ∧ s.1 = (fo (st_when B n) (-1, 0) i).1 ∧ (fo (st_when B n) (-1, 0) i).2 * s.2.2.1 = s.2.1 * 10 ^ nD B) _ (nD B) ?_ ?_ fu 0 (-1, 0, 1, up f 150 0 0) ⟨k0, ⟨show (0 : Int) < 1 by decide, show (1 : Int) ≤ 1000000 by decide⟩, ⟨show (0 : Int) ≤ 0 by decide, show (0 : Int) ≤ 64000000 by decide⟩, rfl, by unfold fo; simp⟩ (by omega) (by have := fub; omega)
    · rintro m ⟨a, b, c, g⟩ ⟨h1, h2, h3, h4, h5⟩
      (try simp only at h1 h2 h3 h4 h5 ⊢)
      have e0 : g 157 0 = (nD B : Int) := by rw [(MO_s hM h1).1.2.1, hDe]
      rw [FX11_when_26, days_e, b2_some, if_pos (by omega)]
      exact Wp_some ⟨h4, h1⟩
    · rintro m i ⟨a, b, c, g⟩ hi ⟨h1, h2, h3, h4, h5⟩
      (try simp only at h1 h2 h3 h4 h5 ⊢)
      left
      have hM' := MO_s hM h1
      have e0 : g 157 0 = (nD B : Int) := by rw [hM'.1.2.1, hDe]
      obtain ⟨⟨r, g1⟩, q1, q2, q3, q4⟩ := chanceOf_W hB hM' (d := i) hi n
      simp only at q2 q3 q4
      have kk := Kp_t h1 q4
      have hv := v_wh_r hB n hi
      have hb := wgt_b hB (d := i) (by omega) n (Nat.le_refl (2 ^ (i + 1)))
      have p1 := p10 (k := i + 1) (by omega)
      have m1 : 0 ≤ wgt B i n (2 ^ (i + 1)) * c ∧ wgt B i n (2 ^ (i + 1)) * c ≤ 64000000 * 1000000 := ⟨Int.mul_nonneg hb.1 (by omega), Int.mul_le_mul hb.2 h2.2 (by omega) (by omega)⟩
      have m2 : 0 ≤ b * 10 ^ (i + 1) ∧ b * 10 ^ (i + 1) ≤ 64000000 * 1000000 := ⟨Int.mul_nonneg h3.1 (by omega), Int.mul_le_mul h3.2 p1.2 (by omega) (by omega)⟩
      have fr := frac hv.2.2 h5 (by omega) h2.1 (by omega)
      rw [FX11_when_26, days_e, b2_some, if_neg (by omega), q1, b2_some, q2, q3, w64s (by omega) (by omega), w64s (by omega) (by omega)]
      unfold FX11_when_74
      rw [nx i (by omega)]
      have e4 : fo (st_when B n) (-1, 0) (i + 1) = st_when B n i (fo (st_when B n) (-1, 0) i) := rfl
      rw [e4]
      generalize fo (st_when B n) (-1, 0) i = S at *
      unfold st_when
      by_cases q : b * 10 ^ (i + 1) < wgt B i n (2 ^ (i + 1)) * c
      · rw [if_pos (cmp_gt.mpr q), if_pos (fr.mpr q)]
        exact ⟨((i : Int), wgt B i n (2 ^ (i + 1)), 10 ^ (i + 1), g1), rfl, kk, ⟨show (0 : Int) < 10 ^ (i + 1) by omega, p1.2⟩, hb, rfl, hv.2.2⟩
      · rw [if_neg (fun w => q (cmp_gt.mp w)), if_neg (fun w => q (fr.mp w))]
        exact ⟨(a, b, c, g1), rfl, kk, h2, h3, h4, h5⟩
  · rw [if_neg h, if_pos rfl, if_neg h]
    exact Wp_some ⟨rfl, k0⟩
/-! days drawn -/
def nxS (x : Int) : Int := lRem (w64 (w64 (1103515245 * x) + 12345)) 2147483648
def st_dr (B : Mm) (d : Nat) (s : Int × Int) : Int × Int := (nxS s.1, if 0 ≤ cmp3 (lRem (lDiv (nxS s.1) 65536) 10) (B 0 4) then s.2 else bOr s.2 (bShl 1 (d : Int)))
def dr (B : Mm) (x : Int) : Nat → Int × Int := fo (st_dr B) (x, 0)
def drB (B : Mm) (x : Int) : Int := (dr B x (nD B)).2
theorem dr_s {B : Mm} (x : Int) : ∀ i, i ≤ 6 → sS (dr B x i).2
  | 0, _ => sS_0
  | i + 1, h => by
    have h1 := dr_s (B := B) x i (by omega)
    have e : dr B x (i + 1) = st_dr B i (dr B x i) := rfl
    rw [e]
    unfold st_dr
    simp only
    split
    · exact h1
    · exact (sS_or h1 (by omega)).1
theorem drawDays_W {B f : Mm} (hB : WF B) (hC : CT B f) (h0 : f 55 0 = 0 ∧ f 56 0 = 0) (x : Int) : Wp (FX8_drawDays_4_48 x f) (fun g => Kp Sc f g ∧ g 48 5 = drB B x ∧ FK B (dn B) (-1) (-1) (drB B x) (B 0 3) (nD B) g ∧ PK B idn (w_tm B (drB B x)) (nD B) g) := by
  obtain ⟨hD6, hDe⟩ := WF_D hB
  unfold FX8_drawDays_4_48 FX8_drawDays_4_48_0
  refine Wp_bind (asDone_W hB hC) (fun g ⟨k1, x1, o1⟩ => ?_)
  have k1' : Kp Sc f g := Kp_m k1 (fun a j h => by unfold Sc; omega)
  refine forX (fun m y (s : Int × Mm) => FX8_drawDays_4_48_11 m s.1 y s.2) (fun i s => s.1 = (dr B x i).1 ∧ Kp (fun a j => a = 48 ∧ j = 5) g s.2 ∧ s.2 48 5 = (dr B x i).2) _ (nD B) ?_ ?_ fu 0 (x, g) ⟨rfl, Kp_r _ _, x1.2.2.2.2.1⟩ (by omega) (by have := fub; omega)
  · rintro m ⟨s, g'⟩ ⟨h1, h2, h3⟩
    (try simp only at h1 h2 h3 ⊢)
    have kk : Kp Sc f g' := Kp_t k1' (Kp_m h2 (fun a j h => by unfold Sc; omega))
    have hC' := CT_s hB hC kk
    have e1 : g' 4 1 = (nD B : Int) := by rw [hC'.1.2.1, hDe]
    have hX : CX B (dn B) (-1) (-1) (drB B x) (B 0 3) g' := by
      obtain ⟨y1, y2, y3, y4, y5, y6⟩ := x1
      exact ⟨fun e he => by rw [h2 49 e (by omega)]; exact y1 e he, by rw [h2 48 2 (by omega)]; exact y2, by rw [h2 48 3 (by omega)]; exact y3, by rw [h2 48 4 (by omega)]; exact y4, h3, y6⟩
    rw [FX8_drawDays_4_48_11, if_pos (by omega)]
    unfold FX8_drawDays_4_48_74
    refine Wp_bind (walk_W hB hC' hX (OD_id B) (fun i hi => by rw [h2 50 i (by omega)]; exact o1 i (by have := (WF_C hB).1; omega)) ⟨by rw [kk 55 0 (by unfold Sc; omega)]; exact h0.1, by rw [kk 56 0 (by unfold Sc; omega)]; exact h0.2⟩) (fun g2 ⟨k2, f2, p2⟩ => ?_)
    exact Wp_some ⟨Kp_t kk (Kp_m k2 (fun _ _ => S5_Sc)), by rw [k2 48 5 (by unfold S5; omega)]; exact h3, f2, p2⟩
  · rintro m i ⟨s, g'⟩ hi ⟨h1, h2, h3⟩
    (try simp only at h1 h2 h3 ⊢)
    left
    have kk : Kp Sc f g' := Kp_t k1' (Kp_m h2 (fun a j h => by unfold Sc; omega))
    have hC' := CT_s hB hC kk
    have e1 : g' 4 1 = (nD B : Int) := by rw [hC'.1.2.1, hDe]
    have e3 : g' 4 3 = B 0 4 := hC'.1.2.2.2.1
    have e4 : dr B x (i + 1) = st_dr B i (dr B x i) := rfl
    rw [FX8_drawDays_4_48_11, if_neg (by omega), e3, h3, h1]
    unfold FX8_drawDays_4_48_68
    rw [nx i (by omega), show lRem (w64 (w64 (1103515245 * (dr B x i).1) + 12345)) 2147483648 = nxS (dr B x i).1 from rfl, e4]
    generalize dr B x i = S at *
    unfold st_dr
    (try simp only)
    by_cases c : 0 ≤ cmp3 (lRem (lDiv (nxS S.1) 65536) 10) (B 0 4)
    · rw [if_pos c, if_pos c]
      exact ⟨(_, g'), rfl, rfl, h2, h3⟩
    · rw [if_neg c, if_neg c]
      exact ⟨(nxS S.1, up g' 48 5 (bOr S.2 (bShl 1 (i : Int)))), rfl, rfl, Kp_u h2 ⟨rfl, rfl⟩, up_s g' 48 5 (bOr S.2 (bShl 1 (i : Int)))⟩
theorem drawnTempers_e {B f : Mm} (hB : WF B) (hM : MO B f) (x : Int) : FX11_drawnTempers x f = some (drB B x, f) := by
  obtain ⟨hD6, hDe⟩ := WF_D hB
  have e0 : f 157 0 = (nD B : Int) := by rw [hM.1.2.1, hDe]
  have e4 : f 157 4 = B 0 4 := hM.1.2.2.2.2.2.1
  unfold FX11_drawnTempers FX11_drawnTempers_0
  have key := forX (fun m y (s : Int × Int) => FX11_drawnTempers_8 m s.1 s.2 y f) (fun i s => s = dr B x i) (fun p => p = (drB B x, f)) (nD B) ?_ ?_ fu 0 (x, 0) rfl (by omega) (by have := fub; omega)
  · obtain ⟨b, q1, q2⟩ := key
    rw [← q2]
    exact q1
  · intro n s hI
    (try simp only at hI ⊢)
    rw [FX11_drawnTempers_8, days_e, b2_some, if_pos (by omega), hI]
    exact Wp_some rfl
  · intro n i s hi hI
    (try simp only at hI ⊢)
    left
    have hs := dr_s (B := B) x i (by omega)
    have e5 : dr B x (i + 1) = st_dr B i (dr B x i) := rfl
    rw [FX11_drawnTempers_8, days_e, b2_some, if_neg (by omega), hI, e4]
    unfold FX11_drawnTempers_61
    rw [nx i (by omega), show lRem (w64 (w64 (1103515245 * (dr B x i).1) + 12345)) 2147483648 = nxS (dr B x i).1 from rfl, e5, sS_or0 hs]
    generalize dr B x i = S at *
    unfold st_dr
    (try simp only)
    by_cases c : 0 ≤ cmp3 (lRem (lDiv (nxS S.1) 65536) 10) (B 0 4)
    · rw [if_pos c, if_pos c]
      exact ⟨(_, _), rfl, rfl⟩
    · rw [if_neg c, if_neg c]
      exact ⟨(_, _), rfl, rfl⟩
theorem laysDrawn_W {B f : Mm} (hB : WF B) (hM : MO B f) (x : Int) : Wp (FX11_laysDrawn x f) (fun g => Kp Sm f g ∧ MK B (dn B) (-1) (-1) (drB B x) (B 0 3) (nD B) g ∧ MP B idn (w_tm B (drB B x)) (nD B) g) := by
  unfold FX11_laysDrawn FX11_laysDrawn_0
  refine Wp_bind (lays_W hB hM) (fun g1 ⟨k1, a1, a2⟩ => ?_)
  have k1' : Kp Sm f g1 := Kp_m k1 (fun a j h => by unfold Sm; omega)
  have hM1 := MO_s hM k1'
  rw [drawnTempers_e hB hM1, b2_some, hM1.1.2.2.2.2.1]
  refine Wp_bind (goes_W hB hM1 (tm := drB B x) (WD_mx hB a1 a2) hB.2.2.2.1) (fun g2 ⟨k2, b1⟩ => ?_)
  have k2' : Kp Sm f g2 := Kp_t k1' (Kp_m k2 (fun a j h => by unfold Sm; omega))
  refine Wp_bind (byNumbers_W g2) (fun g3 ⟨k3, c1⟩ => ?_)
  have k3' : Kp Sm f g3 := Kp_t k2' (Kp_m k3 (fun a j h => by unfold Sm; omega))
  refine Wp_bind (passes_W hB (MO_s hM k3') (OD_id B) (w := w_tm B (drB B x)) (fun i hi => c1 i (by have := (WF_C hB).1; omega)) (fun e he => ?_)) (fun g4 ⟨k4, d1⟩ => ?_)
  · have hw := wd_r hB (ch := dn B) (t2 := -1) (tw := -1) (tm := drB B x) hB.2.2.2.1.1 e
    rw [k3 164 e (by omega)]
    exact ⟨(b1 e he).2.2, hw.1, hw.2⟩
  · exact Wp_some ⟨Kp_t k3' (Kp_m k4 (fun a j h => by unfold Sm; omega)), MK_k b1 (fun a j h => by rw [k4 a j (by omega), k3 a j (by omega)]), d1⟩
def S_drawn (B : Mm) (x w : Int) : Int := if 0 < B 0 8 ∧ 0 ≤ x ∧ x ≤ 2000000000 ∧ 0 ≤ w ∧ w ≤ 2 then (if w = 0 then drB B x else if w = 1 then w_tm B (drB B x) (nD B - 1) else bts (hs1 (pas B idn (w_tm B (drB B x)) (nD B))) (nC B)) else -2
theorem cq_drawn {B : Mm} (hB : WF B) (x w : Int) : QC B (FX10_drawn x w) (S_drawn B x w) := by
  rintro f ⟨hC, h0⟩
  obtain ⟨hD6, hDe⟩ := WF_D hB
  have hL := hB.2.2.2.2.2.2.2.2.2.1.1
  unfold FX10_drawn FX10_drawn_0 S_drawn
  rw [stands_e, b2_some, isSeed_e, b2_some, hC.1.1]
  by_cases h : 0 < B 0 8
  · rw [if_pos h, if_neg (by decide)]
    by_cases h2 : 0 ≤ x ∧ x ≤ 2000000000
    · rw [if_pos h2, if_neg (by decide)]
      by_cases h3 : w < 0
      · rw [if_pos h3, if_neg (by omega)]
        exact Wp_some ⟨rfl, Kp_r _ _⟩
      · rw [if_neg h3]
        by_cases h4 : w ≤ 2
        · rw [if_pos h4, if_pos (by omega)]
          refine Wp_bind (drawDays_W hB hC h0 x) (fun g ⟨k, a1, a2, a3⟩ => ?_)
          have hC' := CT_s hB hC k
          have hD1 := hL h
          by_cases w0 : w = 0
          · rw [if_pos w0, if_pos w0]
            exact Wp_some ⟨a1, k⟩
          · rw [if_neg w0, if_neg w0]
            by_cases w1 : w = 1
            · rw [if_pos w1, if_pos w1, hC'.1.2.1, hDe, w32n (x := (nD B : Int) - 1) (n := nD B - 1) (by omega) (by omega), widthOn_e a2 (by omega) (by omega), b2_some]
              exact Wp_some ⟨rfl, k⟩
            · rw [if_neg w1, if_neg w1, passedBits_e hB hC' a3, b2_some]
              exact Wp_some ⟨rfl, k⟩
        · rw [if_neg h4, if_neg (by omega)]
          exact Wp_some ⟨rfl, Kp_r _ _⟩
    · rw [if_neg h2, if_pos rfl, if_neg (by omega)]
      exact Wp_some ⟨rfl, Kp_r _ _⟩
  · rw [if_neg h, if_pos rfl, if_neg (by omega)]
    exact Wp_some ⟨rfl, Kp_r _ _⟩
theorem mq_drawn {B : Mm} (hB : WF B) (x w : Int) : QM B (FX11_drawn x w) (S_drawn B x w) := by
  intro f hM
  obtain ⟨hD6, hDe⟩ := WF_D hB
  obtain ⟨hC6, hCe⟩ := WF_C hB
  have hL := hB.2.2.2.2.2.2.2.2.2.1.1
  have k0 : Kp Sm f (up f 150 0 0) := Kp_u (Kp_r _ _) (by unfold Sm; omega)
  have hM0 := MO_s hM k0
  unfold FX11_drawn FX11_drawn_0 S_drawn
  rw [misSeed_e hM0, b2_some, in_e, b2_some]
  by_cases h : 0 < B 0 8 ∧ 0 ≤ x ∧ x ≤ 2000000000
  · rw [if_pos h, if_neg (by decide)]
    by_cases h2 : 0 ≤ w ∧ w ≤ 2
    · rw [if_pos h2, if_neg (by decide), if_pos (show 0 < B 0 8 ∧ 0 ≤ x ∧ x ≤ 2000000000 ∧ 0 ≤ w ∧ w ≤ 2 by omega)]
      have hD1 := hL h.1
      by_cases w0 : w = 0
      · rw [if_pos w0, if_pos w0, drawnTempers_e hB hM0, b2_some]
        exact Wp_some ⟨rfl, k0⟩
      · rw [if_neg w0, if_neg w0]
        refine Wp_bind (laysDrawn_W hB hM0 x) (fun g ⟨k1, a1, a2⟩ => ?_)
        have k := Kp_t k0 k1
        have hM' := MO_s hM k
        have e6 : g 157 6 = (nC B : Int) := by rw [hM'.1.2.2.2.2.2.2.2.1, hCe]
        by_cases w1 : w = 1
        · rw [if_pos w1, if_pos w1, days_e, b2_some, hM'.1.2.1, hDe, w32n (x := (nD B : Int) - 1) (n := nD B - 1) (by omega) (by omega), if_pos (by omega), Int.toNat_natCast]
          exact Wp_some ⟨(a1 _ (by omega)).2.2, k⟩
        · rw [if_neg w1, if_neg w1]
          refine forX (fun n x (s : Int) => FX11_drawn_67 n s x g) (fun i s => s = bts (hs1 (pas B idn (w_tm B (drB B x)) (nD B))) i) _ (nC B) ?_ ?_ fu 0 0 rfl (by omega) (by have := fub; omega)
          · intro n s hI
            rw [FX11_drawn_67, carts_e, b2_some, if_pos (by omega), hI]
            exact Wp_some ⟨rfl, k⟩
          · intro n i s hi hI
            left
            have hs : sS s := by rw [hI]; exact (bts_s _ (by omega)).1
            rw [FX11_drawn_67, carts_e, b2_some, if_neg (by omega), if_pos (by omega), Int.toNat_natCast, a2.1 i (by omega)]
            unfold FX11_drawn_96
            rw [nx i (by omega), sS_or0 hs]
            by_cases c : pas B idn (w_tm B (drB B x)) (nD B) i = -1
            · rw [if_pos c]
              refine ⟨_, rfl, ?_⟩
              unfold bts
              rw [if_neg (by unfold hs1; simp [c]), hI]
            · rw [if_neg c]
              refine ⟨_, rfl, ?_⟩
              unfold bts
              rw [if_pos (by unfold hs1; simp [c]), hI]
    · rw [if_neg h2, if_pos rfl, if_neg (by omega)]
      exact Wp_some ⟨rfl, k0⟩
  · rw [if_neg h, if_pos rfl, if_neg (by omega)]
    exact Wp_some ⟨rfl, k0⟩
def g_luck (B : Mm) (x : Int) (c i : Nat) : Int := if inT B (pas B idn (w_tm B (drB B (x + (i : Int)))) (nD B)) c = true then 1 else 0
def S_luck (B : Mm) (x n c : Int) : Int := if 0 ≤ c ∧ c < (nC B : Int) ∧ 0 ≤ x ∧ x ≤ 2000000000 ∧ 1 ≤ n ∧ n ≤ 20 then sm (g_luck B x c.toNat) n.toNat else -2
theorem lk_r (B : Mm) (x : Int) (c i : Nat) : 0 ≤ sm (g_luck B x c) i ∧ sm (g_luck B x c) i ≤ i := by
  have := sm_r (g := g_luck B x c) (M := 1) i (fun j _ => by unfold g_luck; split <;> omega)
  omega
theorem cq_luck {B : Mm} (hB : WF B) (x n c : Int) : QC B (FX10_luck x n c) (S_luck B x n c) := by
  rintro f ⟨hC, h0⟩
  obtain ⟨hC6, hCe⟩ := WF_C hB
  unfold FX10_luck FX10_luck_0 S_luck
  rw [hasCart_e, b2_some, isSeed_e, b2_some, hC.1.2.2.2.2.2.1, hCe]
  by_cases h : 0 ≤ c ∧ c < (nC B : Int)
  · rw [if_pos h, if_neg (by decide)]
    by_cases h2 : 0 ≤ x ∧ x ≤ 2000000000
    · rw [if_pos h2, if_neg (by decide)]
      by_cases h3 : n < 1
      · rw [if_pos h3, if_neg (by omega)]
        exact Wp_some ⟨rfl, Kp_r _ _⟩
      · rw [if_neg h3]
        by_cases h4 : n ≤ 20
        · rw [if_pos h4, if_pos (by omega)]
          obtain ⟨d, rfl⟩ : ∃ d : Nat, c = (d : Int) := ⟨c.toNat, by omega⟩
          obtain ⟨N, rfl⟩ : ∃ d : Nat, n = (d : Int) := ⟨n.toNat, by omega⟩
          rw [Int.toNat_natCast, Int.toNat_natCast]
          refine forX (fun m y (s : Int × Mm) => FX10_luck_38 m x (N : Int) (d : Int) s.1 y s.2) (fun i s => s.1 = sm (g_luck B x d) i ∧ Kp Sc f s.2) _ N ?_ ?_ fu 0 (0, f) ⟨rfl, Kp_r _ _⟩ (by omega) (by have := fub; omega)
          · rintro m ⟨s, g⟩ ⟨h5, h6⟩
            (try simp only at h5 h6 ⊢)
            rw [FX10_luck_38, if_pos (by omega)]
            exact Wp_some ⟨h5, h6⟩
          · rintro m i ⟨s, g⟩ hi ⟨h5, h6⟩
            (try simp only at h5 h6 ⊢)
            left
            have hr := lk_r B x d i
            obtain ⟨g1, q1, q2, q3, q4, q5⟩ := drawDays_W hB (CT_s hB hC h6) ⟨by rw [h6 55 0 (by unfold Sc; omega)]; exact h0.1, by rw [h6 56 0 (by unfold Sc; omega)]; exact h0.2⟩ (x + (i : Int))
            have kk := Kp_t h6 q2
            rw [FX10_luck_38, if_neg (by omega), w64s (by omega) (by omega), q1]
            simp only [Option.bind_some]
            rw [keptBits_e hB (CT_s hB hC kk) q5, b2_some, holds_e, b2_some, (bts_s _ (by omega)).2 d (by omega)]
            unfold FX10_luck_82
            rw [nx i (by omega), decide_eq_true (show d < nC B by omega), Bool.true_and]
            have e : sm (g_luck B x d) (i + 1) = sm (g_luck B x d) i + g_luck B x d i := rfl
            rw [e]
            unfold g_luck
            by_cases c1 : inT B (pas B idn (w_tm B (drB B (x + (i : Int)))) (nD B)) d = true
            · rw [if_pos c1, if_neg (by decide), w32s (by omega) (by omega)]
              refine ⟨(_, g1), rfl, ?_, kk⟩
              show s + 1 = _
              rw [h5]
              rfl
            · rw [if_neg c1, if_pos rfl]
              refine ⟨(_, g1), rfl, ?_, kk⟩
              show s = _ + 0
              rw [h5, Int.add_zero]
              rfl
        · rw [if_neg h4, if_neg (by omega)]
          exact Wp_some ⟨rfl, Kp_r _ _⟩
    · rw [if_neg h2, if_pos rfl, if_neg (by omega)]
      exact Wp_some ⟨rfl, Kp_r _ _⟩
  · rw [if_neg h, if_pos rfl, if_neg (by omega)]
    exact Wp_some ⟨rfl, Kp_r _ _⟩
theorem mq_luck {B : Mm} (hB : WF B) (x n c : Int) : QM B (FX11_luck x n c) (S_luck B x n c) := by
  intro f hM
  obtain ⟨hC6, hCe⟩ := WF_C hB
  have hL := hB.2.2.2.2.2.2.2.2.2.1.2.2.1
  have k0 : Kp Sm f (up f 150 0 0) := Kp_u (Kp_r _ _) (by unfold Sm; omega)
  have hM0 := MO_s hM k0
  unfold FX11_luck FX11_luck_0 S_luck
  rw [misSeed_e hM0, b2_some, in_e, b2_some, isCart_e hB hM0, b2_some]
  by_cases h : 0 < B 0 8 ∧ 0 ≤ x ∧ x ≤ 2000000000
  · rw [if_pos h, if_neg (by decide)]
    by_cases h2 : 1 ≤ n ∧ n ≤ 20
    · rw [if_pos h2, if_neg (by decide)]
      by_cases h3 : 0 ≤ c ∧ c < (nC B : Int)
      · rw [if_pos h3, if_neg (by decide), if_pos (by omega)]
        obtain ⟨d, rfl⟩ : ∃ d : Nat, c = (d : Int) := ⟨c.toNat, by omega⟩
        obtain ⟨N, rfl⟩ : ∃ d : Nat, n = (d : Int) := ⟨n.toNat, by omega⟩
        rw [Int.toNat_natCast, Int.toNat_natCast]
        refine forX (fun m y (s : Int × Mm) => FX11_luck_42 m x (N : Int) (d : Int) s.1 y s.2) (fun i s => s.1 = sm (g_luck B x d) i ∧ Kp Sm f s.2) _ N ?_ ?_ fu 0 (0, up f 150 0 0) ⟨rfl, k0⟩ (by omega) (by have := fub; omega)
        · rintro m ⟨s, g⟩ ⟨h5, h6⟩
          (try simp only at h5 h6 ⊢)
          rw [FX11_luck_42, if_pos (by omega)]
          exact Wp_some ⟨h5, h6⟩
        · rintro m i ⟨s, g⟩ hi ⟨h5, h6⟩
          (try simp only at h5 h6 ⊢)
          left
          have hr := lk_r B x d i
          obtain ⟨g1, q1, q2, q3, q4⟩ := laysDrawn_W hB (MO_s hM h6) (x + (i : Int))
          have kk := Kp_t h6 q2
          rw [FX11_luck_42, if_neg (by omega), w64s (by omega) (by omega), q1]
          simp only [Option.bind_some]
          rw [isInTime_e hB (MO_s hM kk) q4 (by omega), b2_some]
          unfold FX11_luck_73
          rw [nx i (by omega)]
          have e : sm (g_luck B x d) (i + 1) = sm (g_luck B x d) i + g_luck B x d i := rfl
          rw [e]
          unfold g_luck
          by_cases c1 : inT B (pas B idn (w_tm B (drB B (x + (i : Int)))) (nD B)) d = true
          · rw [if_pos c1, if_neg (by decide), w32s (by omega) (by omega)]
            refine ⟨(_, g1), rfl, ?_, kk⟩
            show s + 1 = _
            rw [h5]
            rfl
          · rw [if_neg c1, if_pos rfl, w32s (by omega) (by omega)]
            refine ⟨(_, g1), rfl, ?_, kk⟩
            show s + 0 = _ + 0
            rw [h5]
            rfl
      · rw [if_neg h3, if_pos rfl, if_neg (by omega)]
        exact Wp_some ⟨rfl, k0⟩
    · rw [if_neg h2, if_pos rfl, if_neg (by omega)]
      exact Wp_some ⟨rfl, k0⟩
  · rw [if_neg h, if_pos rfl, if_neg (by omega)]
    exact Wp_some ⟨rfl, k0⟩

/-! all PLANS, gone through by the model -/
def oth (B : Mm) (o : Int) (k d : Nat) : Bool := decide (pch B k d ≠ -1 ∧ pch B k d ≠ o)
def okP (B : Mm) (o : Int) (k : Nat) : Bool := decide (o = -1 ∨ ff (oth B o k) (nD B) = -1)
theorem plans_e {B f : Mm} (hB : WF B) (hM : MO B f) : FX11_plans f = some (((nP B : Nat) : Int), f) := by
  obtain ⟨hD6, hDe⟩ := WF_D hB
  obtain ⟨hK, hKe⟩ := WF_K hB
  have hN := nP_r hB
  have hpw : ∀ i, i ≤ nD B → (nK B + 1) ^ i ≤ nP B := fun i hi => Nat.pow_le_pow_right (by omega) hi
  have e0 : f 157 0 = (nD B : Int) := by rw [hM.1.2.1, hDe]
  have e5 : f 157 5 = (nK B : Int) := by rw [hM.1.2.2.2.2.2.2.1, hKe]
  unfold FX11_plans FX11_plans_0
  refine forR (fun n x (s : Int) => FX11_plans_4 n s x f) (fun i s => s = (((nK B + 1) ^ i : Nat) : Int)) (fun o => o = some (((nP B : Nat) : Int), f)) (nD B) ?_ ?_ fu 0 1 ?_ (by omega) (by have := fub; omega)
  · rintro n s rfl
    show FX11_plans_4 (n + 1) _ _ f = _
    rw [FX11_plans_4, days_e, b2_some, if_pos (by omega)]
    rfl
  · rintro n i s hi rfl
    left
    have h3 := hpw (i + 1) (by omega)
    refine ⟨_, ?_, rfl⟩
    show FX11_plans_4 (n + 1) _ _ f = _
    rw [FX11_plans_4, days_e, b2_some, if_neg (by omega), e5, nx i (by omega), w32s (x := (nK B : Int) + 1) (by omega) (by omega), w32n (n := (nK B + 1) ^ (i + 1)) (by rw [Nat.pow_succ]; simp) (by omega)]
  · show (1 : Int) = _
    rw [Nat.pow_zero]
    rfl
theorem planIs_l {B f : Mm} (hB : WF B) (hM : MO B f) {k : Nat} (hk : k < 20000) : ∀ (i n : Nat) (g : Mm), i ≤ nD B → i < n → Kp (fun a _ => a = 162) f g → (∀ d, i ≤ d → d < nD B → g 162 d = pch B k d) → (∀ d, nD B ≤ d → g 162 d = f 162 d) →
    Wp (FX11_planIs_9 n ((k / (nK B + 1) ^ (nD B - i) : Nat) : Int) ((i : Int) - 1) g) (fun g' => Kp (fun a _ => a = 162) f g' ∧ (∀ d, d < nD B → g' 162 d = pch B k d) ∧ ∀ d, nD B ≤ d → g' 162 d = f 162 d) := by
  obtain ⟨hD6, hDe⟩ := WF_D hB
  obtain ⟨hK, hKe⟩ := WF_K hB
  intro i
  induction i with
  | zero =>
    intro n g _ hn hkp h1 h2
    obtain ⟨m, rfl⟩ : ∃ m, n = m + 1 := ⟨n - 1, by omega⟩
    rw [FX11_planIs_9, if_pos (by omega)]
    exact Wp_some ⟨hkp, fun d hd => h1 d (by omega) hd, h2⟩
  | succ i ih =>
    intro n g hi hn hkp h1 h2
    obtain ⟨m, rfl⟩ : ∃ m, n = m + 1 := ⟨n - 1, by omega⟩
    have e5 : g 157 5 = (nK B : Int) := by rw [hkp 157 5 (by omega), hM.1.2.2.2.2.2.2.1, hKe]
    have hle : k / (nK B + 1) ^ (nD B - (i + 1)) ≤ k := Nat.div_le_self _ _
    have eb : w32 ((nK B : Int) + 1) = ((nK B + 1 : Nat) : Int) := by rw [w32s (by omega) (by omega)]; omega
    have hd1 : k / (nK B + 1) ^ (nD B - (i + 1)) / (nK B + 1) = k / (nK B + 1) ^ (nD B - i) := by rw [Nat.div_div_eq_div_mul, ← Nat.pow_succ, show (nD B - (i + 1)).succ = nD B - i by omega]
    have hm := Nat.mod_lt (k / (nK B + 1) ^ (nD B - (i + 1))) (show 0 < nK B + 1 by omega)
    have ep := pch_e (B := B) k i (by omega)
    rw [show nD B - 1 - i = nD B - (i + 1) by omega] at ep
    have e1 : w32 ((i : Int) + -1) = (i : Int) - 1 := by rw [w32s (by omega) (by omega)]; omega
    rw [show ((i + 1 : Nat) : Int) - 1 = (i : Int) by omega, FX11_planIs_9, if_neg (by omega), e5, eb, if_pos (by omega), if_pos (by omega), if_pos (by omega), e1, Int.toNat_natCast]
    generalize hq : k / (nK B + 1) ^ (nD B - (i + 1)) = q at *
    rw [iDiv_n (by omega), iRem_n, hd1]
    generalize hr : q % (nK B + 1) = r at *
    rw [w32s (x := (r : Int) - 1) (by omega) (by omega), ← ep]
    refine ih m _ (by omega) (by omega) (Kp_u hkp rfl) (fun d hd hd2 => ?_) (fun d hd => ?_)
    · by_cases q : d = i
      · subst q; rw [up_s]
      · rw [up_n (by omega)]; exact h1 d (by omega) hd2
    · rw [up_n (by omega)]; exact h2 d hd
theorem planIs_W {B f : Mm} (hB : WF B) (hM : MO B f) {k : Nat} (hk : k < nP B) : Wp (FX11_planIs (k : Int) f) (fun g' => Kp (fun a _ => a = 162) f g' ∧ (∀ d, d < nD B → g' 162 d = pch B k d) ∧ ∀ d, nD B ≤ d → g' 162 d = f 162 d) := by
  obtain ⟨hD6, hDe⟩ := WF_D hB
  have hN := nP_r hB
  unfold FX11_planIs FX11_planIs_0
  rw [days_e, b2_some, hM.1.2.1, hDe, w32s (by omega) (by omega)]
  have h := planIs_l hB hM (k := k) (by omega) (nD B) fu f (Nat.le_refl _) (by have := fub; omega) (Kp_r _ _) (fun d h1 h2 => by omega) (fun d _ => rfl)
  rw [Nat.sub_self, Nat.pow_zero, Nat.div_one] at h
  exact h
theorem hasOther_e {B f : Mm} (hB : WF B) (hM : MO B f) {k : Nat} (h1 : ∀ d, d < nD B → f 162 d = pch B k d) (o : Int) : FX11_hasOther o f = some (if ff (oth B o k) (nD B) = -1 then 0 else 1, f) := by
  obtain ⟨hD6, hDe⟩ := WF_D hB
  have e0 : f 157 0 = (nD B : Int) := by rw [hM.1.2.1, hDe]
  unfold FX11_hasOther FX11_hasOther_0
  refine forR (fun n x (_ : Unit) => FX11_hasOther_2 n o x f) (fun i _ => ff (oth B o k) i = -1) (fun r => r = some (if ff (oth B o k) (nD B) = -1 then 0 else 1, f)) (nD B) ?_ ?_ fu 0 () rfl (by omega) (by have := fub; omega)
  · rintro n s hs
    rw [FX11_hasOther_2, days_e, b2_some, if_pos (by omega), if_pos hs]
  · rintro n i s hi hs
    have hp : oth B o k i = decide (pch B k i ≠ -1 ∧ pch B k i ≠ o) := rfl
    have hI : (0 : Int) ≤ (i : Int) ∧ (i : Int) < 6 := by omega
    rw [FX11_hasOther_2, days_e, b2_some, if_neg (by omega)]
    simp only [if_pos hI]
    rw [Int.toNat_natCast, h1 i hi]
    unfold FX11_hasOther_32
    rw [nx i (by omega)]
    by_cases c1 : pch B k i = -1
    · left
      refine ⟨(), by rw [if_pos c1], ff_no hs ?_⟩
      rw [hp]; exact decide_eq_false (fun q => q.1 c1)
    · by_cases c2 : pch B k i = o
      · left
        refine ⟨(), by rw [if_neg c1, if_pos c2], ff_no hs ?_⟩
        rw [hp]; exact decide_eq_false (fun q => q.2 c2)
      · right
        have := ff_hit hs (by rw [hp]; exact decide_eq_true ⟨c1, c2⟩) (nD B) hi
        rw [if_neg c1, if_neg c2, this, if_neg (by omega)]
/-- far, where there is none -/
def far (v : Int) : Int := if v = -1 then 10000000 else v
theorem far_s {p : Nat → Bool} {c : Nat → Int} {k : Nat} (h : 0 ≤ c k ∧ c k < 10000000) :
    (far (mn p c (k + 1)) = if p k = true ∧ c k < far (mn p c k) then c k else far (mn p c k)) ∧ (fm p c (k + 1) = if p k = true ∧ c k < far (mn p c k) then (k : Int) else fm p c k) ∧ (¬ (p k = true ∧ c k < far (mn p c k)) → mn p c (k + 1) = mn p c k) := by
  have e1 : mn p c (k + 1) = if p k = true ∧ (mn p c k = -1 ∨ c k < mn p c k) then c k else mn p c k := rfl
  have e2 : fm p c (k + 1) = if p k = true ∧ (mn p c k = -1 ∨ c k < mn p c k) then (k : Int) else fm p c k := rfl
  have hi : (p k = true ∧ (mn p c k = -1 ∨ c k < mn p c k)) ↔ (p k = true ∧ c k < far (mn p c k)) := by
    unfold far
    by_cases h1 : mn p c k = -1
    · rw [if_pos h1]; exact ⟨fun q => ⟨q.1, h.2⟩, fun q => ⟨q.1, Or.inl h1⟩⟩
    · rw [if_neg h1]; exact ⟨fun q => ⟨q.1, by rcases q.2 with a | a; exact absurd a h1; exact a⟩, fun q => ⟨q.1, Or.inr q.2⟩⟩
  rw [e1, e2]
  by_cases hh : p k = true ∧ c k < far (mn p c k)
  · rw [if_pos (hi.mpr hh), if_pos hh, if_pos (hi.mpr hh), if_pos hh]
    refine ⟨?_, rfl, fun q => absurd hh q⟩
    unfold far
    rw [if_neg (by omega)]
  · rw [if_neg (fun q => hh (hi.mp q)), if_neg hh, if_neg (fun q => hh (hi.mp q)), if_neg hh]
    exact ⟨rfl, rfl, fun _ => rfl⟩
theorem mn_f {p : Nat → Bool} {c : Nat → Int} {k : Nat} (h : p k = false) : mn p c (k + 1) = mn p c k ∧ fm p c (k + 1) = fm p c k ∧ wy p c (k + 1) = wy p c k := by
  have e1 : mn p c (k + 1) = if p k = true ∧ (mn p c k = -1 ∨ c k < mn p c k) then c k else mn p c k := rfl
  have e2 : fm p c (k + 1) = if p k = true ∧ (mn p c k = -1 ∨ c k < mn p c k) then (k : Int) else fm p c k := rfl
  have e3 : wy p c (k + 1) = if p k = true ∧ (mn p c k = -1 ∨ c k < mn p c k) then 1 else if p k = true ∧ c k = mn p c k then wy p c k + 1 else wy p c k := rfl
  have hn : ¬ p k = true := by rw [h]; decide
  rw [e1, e2, e3, if_neg (fun q => hn q.1), if_neg (fun q => hn q.1), if_neg (fun q => hn q.1), if_neg (fun q => hn q.1)]
  exact ⟨rfl, rfl, rfl⟩
def mxo (z : Int) (ok : Nat → Bool) (w : Nat → Int) : Nat → Int
  | 0 => z
  | k + 1 => if ok k = true then jMax (mxo z ok w k) (w k) else mxo z ok w k
theorem mxo_0 (w : Nat → Int) : ∀ k, mxo 0 (fun _ => true) w k = mxw w k
  | 0 => rfl
  | k + 1 => by
    show (if true = true then jMax (mxo 0 (fun _ => true) w k) (w k) else _) = jMax (mxw w k) (w k)
    rw [if_pos rfl, mxo_0 w k]
theorem mxo_1 {w : Nat → Int} (h : ∀ k, 0 ≤ w k) : ∀ k, mxo (-1) (fun _ => true) w (k + 1) = mxw w (k + 1)
  | 0 => by
    show jMax (-1) (w 0) = jMax 0 (w 0)
    have := h 0
    unfold jMax
    split <;> split <;> omega
  | k + 1 => by
    show jMax (mxo (-1) (fun _ => true) w (k + 1)) (w (k + 1)) = jMax (mxw w (k + 1)) (w (k + 1))
    rw [mxo_1 h k]
def bwo (v : Int) : Int := if v = -1 then -1000000 else 10000 - v
/-- the model's table of the first k PLANS (those that are ok) -/
def MTb (B : Mm) (ok : Nat → Bool) (k : Nat) (g : Mm) : Prop :=
  (g 150 31 = bwo (mn ok (vW B (sumf B 4)) k)) ∧
  (mn ok (vW B (sumf B 4)) k ≠ -1 → g 150 32 = wy ok (vW B (sumf B 4)) k ∧ ∀ d, d < nD B → g 169 d = pch B (fm ok (vW B (sumf B 4)) k).toNat d) ∧
  (∀ s, s < cPow B → g 170 s = far (mn (fun j => ok j && sub B s j) (pco B) k) ∧ (mn (fun j => ok j && sub B s j) (pco B) k ≠ -1 → g 171 s = fm (fun j => ok j && sub B s j) (pco B) k)) ∧
  (∀ n, n < 61 → g 173 n = far (mn (fun j => ok j && decide (n ≤ lsN B j)) (pco B) k)) ∧
  (∀ d, d < nD B → g 174 d = mxo 0 ok (fun j => pw B j d) k) ∧
  (g 150 33 = mxo (-1) ok (lsI B) k) ∧
  (∀ c, c < nC B → g 175 c = cnt (fun j => ok j && hbit (kp B j : Int) c) k) ∧
  (∀ c, c < nC B → g 172 c = far (mn (fun j => ok j && decide (pp B j c ≠ -1)) (fun j => pp B j c) k))
theorem wy_r (p : Nat → Bool) (c : Nat → Int) : ∀ N, 0 ≤ wy p c N ∧ wy p c N ≤ N
  | 0 => by unfold wy; omega
  | N + 1 => by
    have := wy_r p c N
    unfold wy
    split
    · omega
    · split <;> omega
theorem MT_skip {B : Mm} {ok : Nat → Bool} {k : Nat} {g : Mm} (h : MTb B ok k g) (hn : ok k = false) : MTb B ok (k + 1) g := by
  obtain ⟨h1, h2, h3, h4, h5, h6, h7, h8⟩ := h
  have q := mn_f (p := ok) (c := vW B (sumf B 4)) hn
  have qq : ∀ r : Nat → Bool, (fun j => ok j && r j) k = false := fun r => by simp only; rw [hn, Bool.false_and]
  have mo : ∀ z w, mxo z ok w (k + 1) = mxo z ok w k := fun z w => by
    show (if ok k = true then jMax (mxo z ok w k) (w k) else mxo z ok w k) = _
    rw [if_neg (by rw [hn]; decide)]
  refine ⟨by rw [q.1]; exact h1, by rw [q.1, q.2.1, q.2.2]; exact h2, fun s hs => ?_, fun n hn' => ?_, fun d hd => by rw [mo]; exact h5 d hd, by rw [mo]; exact h6, fun c hc => ?_, fun c hc => ?_⟩
  · have t := mn_f (p := fun j => ok j && sub B s j) (c := pco B) (k := k) (qq (fun j => sub B s j))
    rw [t.1, t.2.1]
    exact h3 s hs
  · have t := mn_f (p := fun j => ok j && decide (n ≤ lsN B j)) (c := pco B) (k := k) (qq (fun j => decide (n ≤ lsN B j)))
    rw [t.1]
    exact h4 n hn'
  · rw [cnt_s, if_neg (by rw [hn, Bool.false_and]; decide), Int.add_zero]
    exact h7 c hc
  · have t := mn_f (p := fun j => ok j && decide (pp B j c ≠ -1)) (c := fun j => pp B j c) (k := k) (qq (fun j => decide (pp B j c ≠ -1)))
    rw [t.1]
    exact h8 c hc
theorem tells22 {B f : Mm} (hB : WF B) (hM : MO B f) (x1 x2 x3 x4 : Int) (hr : ∀ c, c < nC B → 0 ≤ f 175 c ∧ f 175 c ≤ 20000) :
    ∃ g, FX11_planTells_22 fu x1 x2 x3 x4 0 f = FX11_planTells_61 x1 x2 x3 x4 g ∧ Kp (fun a _ => a = 175) f g ∧ ∀ c, c < nC B → g 175 c = f 175 c + (if hbit x2 c = true then 1 else 0) := by
  obtain ⟨hC6, hCe⟩ := WF_C hB
  refine forR (fun n x (s : Mm) => FX11_planTells_22 n x1 x2 x3 x4 x s) (fun i g => Kp (fun a _ => a = 175) f g ∧ ∀ c, c < nC B → g 175 c = if c < i then f 175 c + (if hbit x2 c = true then 1 else 0) else f 175 c) (fun o => ∃ g, o = FX11_planTells_61 x1 x2 x3 x4 g ∧ Kp (fun a _ => a = 175) f g ∧ ∀ c, c < nC B → g 175 c = f 175 c + (if hbit x2 c = true then 1 else 0)) (nC B) ?_ ?_ fu 0 f ⟨Kp_r _ _, fun c hc => by rw [if_neg (by omega)]⟩ (by omega) (by have := fub; omega)
  · rintro n g ⟨h1, h2⟩
    have e6 : g 157 6 = (nC B : Int) := by rw [h1 157 6 (by omega), hM.1.2.2.2.2.2.2.2.1, hCe]
    refine ⟨g, ?_, h1, fun c hc => by rw [h2 c hc, if_pos hc]⟩
    show FX11_planTells_22 (n + 1) x1 x2 x3 x4 _ g = _
    rw [FX11_planTells_22, carts_e, b2_some, if_pos (by omega)]
  · rintro n i g hi ⟨h1, h2⟩
    left
    have e6 : g 157 6 = (nC B : Int) := by rw [h1 157 6 (by omega), hM.1.2.2.2.2.2.2.2.1, hCe]
    have r := hr i hi
    have v := h2 i hi
    rw [if_neg (by omega)] at v
    refine ⟨up g 175 i (f 175 i + (if hbit x2 i = true then 1 else 0)), ?_, Kp_u h1 rfl, fun c hc => ?_⟩
    · show FX11_planTells_22 (n + 1) x1 x2 x3 x4 _ g = _
      rw [FX11_planTells_22, carts_e, b2_some, if_neg (by omega), if_pos (by omega), isBit_e, b2_some]
      unfold FX11_planTells_53
      rw [nx i (by omega), if_pos (show (0 : Int) ≤ (i : Int) ∧ (i : Int) < 6 by omega), if_pos (show (0 : Int) ≤ (i : Int) ∧ (i : Int) < 6 by omega), Int.toNat_natCast, v]
      by_cases hb : hbit x2 i = true
      · rw [if_pos hb, if_neg (by decide), w32s (by omega) (by omega)]
      · rw [if_neg hb, if_pos rfl, w32s (by omega) (by omega)]
    · by_cases q : c = i
      · subst q; rw [up_s, if_pos (show c < c + 1 by omega)]
      · rw [up_n (by omega), h2 c hc]
        by_cases q2 : c < i
        · rw [if_pos q2, if_pos (show c < i + 1 by omega)]
        · rw [if_neg q2, if_neg (show ¬ c < i + 1 by omega)]
def S61 (a j : Nat) : Prop := a = 169 ∨ (a = 150 ∧ (j = 31 ∨ j = 32))
theorem tells61 {B f : Mm} (hB : WF B) (hM : MO B f) (x1 x2 x3 x4 : Int) (hr : x4 ≤ f 150 31 → 0 ≤ f 150 32 ∧ f 150 32 ≤ 20000) :
    ∃ g, FX11_planTells_61 x1 x2 x3 x4 f = FX11_planTells_139 fu x1 x2 x3 0 g ∧ Kp S61 f g ∧ g 150 31 = (if f 150 31 < x4 then x4 else f 150 31) ∧ g 150 32 = (if f 150 31 < x4 then 1 else if x4 = f 150 31 then f 150 32 + 1 else f 150 32) ∧ ∀ d, d < nD B → g 169 d = if f 150 31 < x4 then f 162 d else f 169 d := by
  obtain ⟨hD6, hDe⟩ := WF_D hB
  unfold FX11_planTells_61
  by_cases c : x4 ≤ f 150 31
  · have r := hr c
    rw [if_pos c, if_neg (by omega), if_neg (by omega)]
    unfold FX11_planTells_113 FX11_planTells_132
    by_cases c2 : x4 = f 150 31
    · rw [if_pos c2, if_pos c2, w32s (by omega) (by omega)]
      refine ⟨_, rfl, Kp_u (Kp_r _ _) (by unfold S61; omega), by rw [up_n (by omega)], by rw [up_s], fun d hd => by rw [up_n (by omega), if_neg (by omega)]⟩
    · rw [if_neg c2, if_neg c2, w32s (by omega) (by omega), Int.add_zero]
      refine ⟨_, rfl, Kp_u (Kp_r _ _) (by unfold S61; omega), by rw [up_n (by omega)], by rw [up_s], fun d hd => by rw [up_n (by omega), if_neg (by omega)]⟩
  · rw [if_neg c, if_pos (by omega), if_pos (by omega)]
    refine forR (fun n x (s : Mm) => FX11_planTells_84 n x1 x2 x3 x4 x s) (fun i g => Kp (fun a _ => a = 169) (up (up f 150 31 x4) 150 32 0) g ∧ ∀ d, d < i → g 169 d = f 162 d) (fun o => ∃ g, o = FX11_planTells_139 fu x1 x2 x3 0 g ∧ Kp S61 f g ∧ g 150 31 = x4 ∧ g 150 32 = 1 ∧ ∀ d, d < nD B → g 169 d = if f 150 31 < x4 then f 162 d else f 169 d) (nD B) ?_ ?_ fu 0 _ ⟨Kp_r _ _, fun d hd => by omega⟩ (by omega) (by have := fub; omega)
    · rintro n g ⟨h1, h2⟩
      have e0 : g 157 0 = (nD B : Int) := by rw [h1 157 0 (by omega), up_n (by omega), up_n (by omega), hM.1.2.1, hDe]
      have e31 : g 150 31 = x4 := by rw [h1 150 31 (by omega), up_n (by omega), up_s]
      have e32 : g 150 32 = 0 := by rw [h1 150 32 (by omega), up_s]
      refine ⟨up g 150 32 1, ?_, fun a j q => ?_, by rw [up_n (by omega), e31], by rw [up_s], fun d hd => by rw [up_n (by omega), h2 d hd, if_pos (by omega)]⟩
      · show FX11_planTells_84 (n + 1) x1 x2 x3 x4 _ g = _
        rw [FX11_planTells_84, days_e, b2_some, if_pos (by omega)]
        unfold FX11_planTells_113 FX11_planTells_132
        rw [e31, if_pos rfl, e32]
        rfl
      · unfold S61 at q
        rw [up_n (by omega), h1 a j (by omega), up_n (by omega), up_n (by omega)]
    · rintro n i g hi ⟨h1, h2⟩
      left
      have e0 : g 157 0 = (nD B : Int) := by rw [h1 157 0 (by omega), up_n (by omega), up_n (by omega), hM.1.2.1, hDe]
      refine ⟨up g 169 i (f 162 i), ?_, Kp_u h1 rfl, fun d hd => ?_⟩
      · show FX11_planTells_84 (n + 1) x1 x2 x3 x4 _ g = _
        rw [FX11_planTells_84, days_e, b2_some, if_neg (by omega), if_pos (by omega), if_pos (by omega), nx i (by omega), Int.toNat_natCast, h1 162 i (by omega), up_n (by omega), up_n (by omega)]
      · by_cases q : d = i
        · subst q; rw [up_s]
        · rw [up_n (by omega)]; exact h2 d (by omega)
theorem tells139 {B f : Mm} (hB : WF B) (hM : MO B f) (x1 x2 x3 : Int) :
    ∃ g, FX11_planTells_139 fu x1 x2 x3 0 f = FX11_planTells_202 fu x3 60 0 g ∧ Kp (fun a _ => a = 170 ∨ a = 171) f g ∧ ∀ s, s < cPow B → g 170 s = (if bAnd (s : Int) (bXor x2 (-1)) = 0 ∧ x3 < f 170 s then x3 else f 170 s) ∧ g 171 s = (if bAnd (s : Int) (bXor x2 (-1)) = 0 ∧ x3 < f 170 s then x1 else f 171 s) := by
  obtain ⟨hC6, hCe⟩ := WF_C hB
  obtain ⟨c1, c2, c3, c4⟩ := cPow_r hB
  refine forR (fun n x (s : Mm) => FX11_planTells_139 n x1 x2 x3 x s) (fun i g => Kp (fun a _ => a = 170 ∨ a = 171) f g ∧ (∀ s, s < i → g 170 s = (if bAnd (s : Int) (bXor x2 (-1)) = 0 ∧ x3 < f 170 s then x3 else f 170 s) ∧ g 171 s = (if bAnd (s : Int) (bXor x2 (-1)) = 0 ∧ x3 < f 170 s then x1 else f 171 s)) ∧ ∀ s, i ≤ s → g 170 s = f 170 s ∧ g 171 s = f 171 s) (fun o => ∃ g, o = FX11_planTells_202 fu x3 60 0 g ∧ Kp (fun a _ => a = 170 ∨ a = 171) f g ∧ ∀ s, s < cPow B → g 170 s = (if bAnd (s : Int) (bXor x2 (-1)) = 0 ∧ x3 < f 170 s then x3 else f 170 s) ∧ g 171 s = (if bAnd (s : Int) (bXor x2 (-1)) = 0 ∧ x3 < f 170 s then x1 else f 171 s)) (cPow B) ?_ ?_ fu 0 f ⟨Kp_r _ _, fun s hs => by omega, fun s _ => ⟨rfl, rfl⟩⟩ (by omega) (by have := fub; omega)
  · rintro n g ⟨h1, h2, h3⟩
    have e6 : g 157 6 = (nC B : Int) := by rw [h1 157 6 (by omega), hM.1.2.2.2.2.2.2.2.1, hCe]
    refine ⟨g, ?_, h1, h2⟩
    show FX11_planTells_139 (n + 1) x1 x2 x3 _ g = _
    rw [FX11_planTells_139, carts_e, b2_some, e6, c4, if_pos (by omega)]
    rfl
  · rintro n i g hi ⟨h1, h2, h3⟩
    left
    have e6 : g 157 6 = (nC B : Int) := by rw [h1 157 6 (by omega), hM.1.2.2.2.2.2.2.2.1, hCe]
    obtain ⟨v1, v2⟩ := h3 i (Nat.le_refl _)
    have e : FX11_planTells_139 (n + 1) x1 x2 x3 (i : Int) g = if bAnd (i : Int) (bXor x2 (-1)) = 0 ∧ x3 < f 170 i then FX11_planTells_139 n x1 x2 x3 ((i + 1 : Nat) : Int) (up (up g 170 i x3) 171 i x1) else FX11_planTells_139 n x1 x2 x3 ((i + 1 : Nat) : Int) g := by
      rw [FX11_planTells_139, carts_e, b2_some, e6, c4, if_neg (by omega), if_pos (show (0 : Int) ≤ (i : Int) ∧ (i : Int) < 64 by omega), if_pos (show (0 : Int) ≤ (i : Int) ∧ (i : Int) < 64 by omega), if_pos (show (0 : Int) ≤ (i : Int) ∧ (i : Int) < 64 by omega), Int.toNat_natCast, v1]
      unfold FX11_planTells_189
      rw [nx i (by omega)]
      by_cases q1 : bAnd (i : Int) (bXor x2 (-1)) = 0
      · by_cases q2 : x3 < f 170 i
        · rw [if_pos q1, if_pos q2, if_pos ⟨q1, q2⟩]
        · rw [if_pos q1, if_neg q2, if_neg (fun q => q2 q.2)]
      · rw [if_neg q1, if_neg (fun q => q1 q.1)]
    by_cases hq : bAnd (i : Int) (bXor x2 (-1)) = 0 ∧ x3 < f 170 i
    · rw [if_pos hq] at e
      refine ⟨_, e, Kp_u (Kp_u h1 (Or.inl rfl)) (Or.inr rfl), fun s hs => ?_, fun s hs => ?_⟩
      · by_cases q : s = i
        · subst q
          rw [if_pos hq, if_pos hq, up_n (by omega), up_s, up_s]
          exact ⟨rfl, rfl⟩
        · rw [up_n (by omega), up_n (by omega), up_n (by omega), up_n (by omega)]
          exact h2 s (by omega)
      · rw [up_n (by omega), up_n (by omega), up_n (by omega), up_n (by omega)]
        exact h3 s (by omega)
    · rw [if_neg hq] at e
      refine ⟨_, e, h1, fun s hs => ?_, fun s hs => h3 s (by omega)⟩
      by_cases q : s = i
      · subst q
        rw [if_neg hq, if_neg hq]
        exact ⟨v1, v2⟩
      · exact h2 s (by omega)
theorem tells202 {B f : Mm} (hB : WF B) (hM : MO B f) (x3 : Int) {w : Nat → Int} (hw : ∀ d, d < nD B → f 164 d = w d) :
    ∃ g, FX11_planTells_202 fu x3 60 0 f = FX11_planTells_287 fu x3 (lsw w (nD B)) 0 g ∧ Kp (fun a _ => a = 174) f g ∧ ∀ d, d < nD B → g 174 d = jMax (f 174 d) (w d) := by
  obtain ⟨hD6, hDe⟩ := WF_D hB
  refine forR (fun n x (s : Int × Mm) => FX11_planTells_202 n x3 s.1 x s.2) (fun i s => s.1 = lsw w i ∧ Kp (fun a _ => a = 174) f s.2 ∧ (∀ d, d < i → s.2 174 d = jMax (f 174 d) (w d)) ∧ ∀ d, i ≤ d → s.2 174 d = f 174 d) (fun o => ∃ g, o = FX11_planTells_287 fu x3 (lsw w (nD B)) 0 g ∧ Kp (fun a _ => a = 174) f g ∧ ∀ d, d < nD B → g 174 d = jMax (f 174 d) (w d)) (nD B) ?_ ?_ fu 0 (60, f) ⟨rfl, Kp_r _ _, fun d hd => by omega, fun d _ => rfl⟩ (by omega) (by have := fub; omega)
  · rintro n ⟨l, g⟩ ⟨h0, h1, h2, h3⟩
    try simp only at h0 h1 h2 h3 ⊢
    have e0 : g 157 0 = (nD B : Int) := by rw [h1 157 0 (by omega), hM.1.2.1, hDe]
    refine ⟨g, ?_, h1, h2⟩
    rw [FX11_planTells_202, days_e, b2_some, if_pos (by omega), h0]
    rfl
  · rintro n i ⟨l, g⟩ hi ⟨h0, h1, h2, h3⟩
    try simp only at h0 h1 h2 h3 ⊢
    left
    have e0 : g 157 0 = (nD B : Int) := by rw [h1 157 0 (by omega), hM.1.2.1, hDe]
    have ew : g 164 i = w i := by rw [h1 164 i (by omega)]; exact hw i hi
    have ev := h3 i (Nat.le_refl _)
    have hI : (0 : Int) ≤ (i : Int) ∧ (i : Int) < 6 := by omega
    have h235 : ∀ y, FX11_planTells_235 (FX11_planTells_202 n) x3 (i : Int) y g = FX11_planTells_202 n x3 y ((i + 1 : Nat) : Int) (up g 174 i (jMax (f 174 i) (w i))) := by
      intro y
      unfold FX11_planTells_235 FX11_planTells_277
      simp only [if_pos hI]
      rw [nx i (by omega), Int.toNat_natCast, ew, ev]
      unfold jMax
      by_cases q : w i ≤ f 174 i
      · rw [if_pos q, if_neg (by omega)]
      · rw [if_neg q, if_pos (by omega)]
    refine ⟨(lsw w (i + 1), up g 174 i (jMax (f 174 i) (w i))), ?_, rfl, Kp_u h1 rfl, fun d hd => ?_, fun d hd => ?_⟩
    · rw [FX11_planTells_202, days_e, b2_some, if_neg (by omega), if_pos (show (0 : Int) ≤ (i : Int) ∧ (i : Int) < 6 by omega), if_pos (show (0 : Int) ≤ (i : Int) ∧ (i : Int) < 6 by omega), Int.toNat_natCast, ew, h235, h235]
      show _ = FX11_planTells_202 n x3 (jMin (lsw w i) (w i)) _ _
      unfold jMin
      by_cases q : l ≤ w i
      · rw [if_pos q, if_neg (by omega), h0]
      · rw [if_neg q, if_pos (by omega)]
    · simp only
      by_cases q : d = i
      · subst q; rw [up_s]
      · rw [up_n (by omega)]; exact h2 d (by omega)
    · simp only
      rw [up_n (by omega)]; exact h3 d (by omega)
theorem tells287 {f : Mm} (x3 : Int) {L : Nat} (hL : L ≤ 60) :
    ∃ g, FX11_planTells_287 fu x3 (L : Int) 0 f = FX11_planTells_329 (L : Int) g ∧ Kp (fun a _ => a = 173) f g ∧ ∀ n, n < 61 → g 173 n = if n ≤ L ∧ x3 < f 173 n then x3 else f 173 n := by
  refine forR (fun n x (s : Mm) => FX11_planTells_287 n x3 (L : Int) x s) (fun i g => Kp (fun a _ => a = 173) f g ∧ (∀ m, m < i → g 173 m = if m ≤ L ∧ x3 < f 173 m then x3 else f 173 m) ∧ ∀ m, i ≤ m → g 173 m = f 173 m) (fun o => ∃ g, o = FX11_planTells_329 (L : Int) g ∧ Kp (fun a _ => a = 173) f g ∧ ∀ n, n < 61 → g 173 n = if n ≤ L ∧ x3 < f 173 n then x3 else f 173 n) (L + 1) ?_ ?_ fu 0 f ⟨Kp_r _ _, fun m hm => by omega, fun m _ => rfl⟩ (by omega) (by have := fub; omega)
  · rintro n g ⟨h1, h2, h3⟩
    refine ⟨g, ?_, h1, fun m hm => ?_⟩
    · show FX11_planTells_287 (n + 1) x3 (L : Int) _ g = _
      rw [FX11_planTells_287, if_pos (by omega)]
    · by_cases q : m < L + 1
      · exact h2 m q
      · rw [h3 m (by omega), if_neg (by omega)]
  · rintro n i g hi ⟨h1, h2, h3⟩
    left
    have ev := h3 i (Nat.le_refl _)
    refine ⟨up g 173 i (if i ≤ L ∧ x3 < f 173 i then x3 else f 173 i), ?_, Kp_u h1 rfl, fun m hm => ?_, fun m hm => ?_⟩
    · show FX11_planTells_287 (n + 1) x3 (L : Int) _ g = _
      rw [FX11_planTells_287, if_neg (by omega), if_pos (show (0 : Int) ≤ (i : Int) ∧ (i : Int) < 61 by omega), if_pos (show (0 : Int) ≤ (i : Int) ∧ (i : Int) < 61 by omega)]
      unfold FX11_planTells_322
      rw [if_pos (show (0 : Int) ≤ (i : Int) ∧ (i : Int) < 61 by omega), if_pos (show (0 : Int) ≤ (i : Int) ∧ (i : Int) < 61 by omega), nx i (by omega), Int.toNat_natCast, ev]
      by_cases q : f 173 i ≤ x3
      · rw [if_pos q, if_neg (by omega)]
      · rw [if_neg q, if_pos ⟨by omega, by omega⟩]
    · by_cases q : m = i
      · subst q; rw [up_s]
      · rw [up_n (by omega)]; exact h2 m (by omega)
    · rw [up_n (by omega)]; exact h3 m (by omega)
theorem tells329 (x5 : Int) (f : Mm) : FX11_planTells_329 x5 f = FX11_planTells_354 fu 0 (up f 150 33 (jMax (f 150 33) x5)) := by
  unfold FX11_planTells_329 FX11_planTells_348 jMax
  by_cases h : x5 ≤ f 150 33
  · rw [if_pos h, if_neg (by omega)]
  · rw [if_neg h, if_pos (by omega)]
theorem tells354 {B f : Mm} (hB : WF B) (hM : MO B f) : Wp (FX11_planTells_354 fu 0 f) (fun g => Kp (fun a _ => a = 172) f g ∧ ∀ c, c < nC B → g 172 c = if f 167 c ≠ -1 ∧ f 167 c < f 172 c then f 167 c else f 172 c) := by
  obtain ⟨hC6, hCe⟩ := WF_C hB
  refine forX (fun n x (s : Mm) => FX11_planTells_354 n x s) (fun i g => Kp (fun a _ => a = 172) f g ∧ (∀ c, c < i → g 172 c = if f 167 c ≠ -1 ∧ f 167 c < f 172 c then f 167 c else f 172 c) ∧ ∀ c, i ≤ c → g 172 c = f 172 c) _ (nC B) ?_ ?_ fu 0 f ⟨Kp_r _ _, fun m hm => by omega, fun m _ => rfl⟩ (by omega) (by have := fub; omega)
  · rintro n g ⟨h1, h2, h3⟩
    have e6 : g 157 6 = (nC B : Int) := by rw [h1 157 6 (by omega), hM.1.2.2.2.2.2.2.2.1, hCe]
    rw [FX11_planTells_354, carts_e, b2_some, if_pos (by omega)]
    exact Wp_some ⟨h1, h2⟩
  · rintro n i g hi ⟨h1, h2, h3⟩
    left
    have e6 : g 157 6 = (nC B : Int) := by rw [h1 157 6 (by omega), hM.1.2.2.2.2.2.2.2.1, hCe]
    have ev := h3 i (Nat.le_refl _)
    have e7 : g 167 i = f 167 i := h1 167 i (by omega)
    refine ⟨up g 172 i (if f 167 i ≠ -1 ∧ f 167 i < f 172 i then f 167 i else f 172 i), ?_, Kp_u h1 rfl, fun m hm => ?_, fun m hm => ?_⟩
    · show FX11_planTells_354 (n + 1) (i : Int) g = _
      rw [FX11_planTells_354, carts_e, b2_some, if_neg (by omega), if_pos (show (0 : Int) ≤ (i : Int) ∧ (i : Int) < 6 by omega), if_pos (show (0 : Int) ≤ (i : Int) ∧ (i : Int) < 6 by omega), if_pos (show (0 : Int) ≤ (i : Int) ∧ (i : Int) < 6 by omega), if_pos (show (0 : Int) ≤ (i : Int) ∧ (i : Int) < 6 by omega)]
      unfold FX11_planTells_407 FX11_planTells_414
      rw [if_pos (show (0 : Int) ≤ (i : Int) ∧ (i : Int) < 6 by omega), if_pos (show (0 : Int) ≤ (i : Int) ∧ (i : Int) < 6 by omega), if_pos (show (0 : Int) ≤ (i : Int) ∧ (i : Int) < 6 by omega), nx i (by omega), Int.toNat_natCast, ev, e7]
      by_cases q1 : f 167 i = -1
      · rw [if_pos q1, if_neg (fun q => q.1 q1)]
      · rw [if_neg q1]
        by_cases q2 : f 172 i ≤ f 167 i
        · rw [if_pos q2, if_neg (by omega)]
        · rw [if_neg q2, if_pos ⟨q1, by omega⟩]
    · by_cases q : m = i
      · subst q; rw [up_s]
      · rw [up_n (by omega)]; exact h2 m (by omega)
    · rw [up_n (by omega)]; exact h3 m (by omega)
theorem sub_d : ∀ s : Fin 64, ∀ m : Fin 64, (bAnd (s.val : Int) (bXor (m.val : Int) (-1)) = 0) ↔ (bAnd (m.val : Int) (s.val : Int) = (s.val : Int)) := by decide +kernel

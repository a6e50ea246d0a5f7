/-! the class: what stands, and days gone through -/
def CB (b : Nat) (B f : Mm) : Prop :=
  (f b 0 = B 0 8 ∧ f b 1 = B 0 0 ∧ f b 2 = B 0 3 ∧ f b 3 = B 0 4 ∧ f b 4 = B 0 5 ∧ f b 5 = B 0 6 ∧ f b 6 = B 0 7) ∧
  (f (b + 1) 0 = B 0 1 ∧ f (b + 1) 1 = B 0 2) ∧
  (∀ d, d < nK B → ∀ j, j < 4 → f (b + 3 + d) j = B (10 + d) j) ∧
  (∀ c, c < nC B → ∀ j, j < 5 → f (b + 8 + c) j = B (20 + c) j) ∧
  (∀ d, d < 6 → f (b + 14) d = dn B d) ∧
  (∀ k, k < nA B → f (b + 15) k = B 1 k ∧ f (b + 16) k = dO B k (B 1 k).toNat)
/-- the told bridge, by the class's own cells -/
def CT (B f : Mm) : Prop :=
  (f 4 0 = B 0 8 ∧ f 4 1 = B 0 0 ∧ f 4 2 = B 0 3 ∧ f 4 3 = B 0 4 ∧ f 4 4 = B 0 5 ∧ f 4 5 = B 0 6 ∧ f 4 6 = B 0 7) ∧
  (f 5 0 = B 0 1 ∧ f 5 1 = B 0 2) ∧
  (∀ d, d < nK B → ∀ j, j < 4 → f (7 + d) j = B (10 + d) j) ∧
  (∀ c, c < nC B → ∀ j, j < 5 → f (12 + c) j = B (20 + c) j) ∧
  (∀ d, d < 6 → f 18 d = dn B d) ∧
  (∀ k, k < nA B → f 19 k = B 1 k ∧ f 20 k = dO B k (B 1 k).toNat)
theorem CT_CB {B f : Mm} : CT B f ↔ CB 4 B f := Iff.rfl
/-- what the class's looks may change -/
def Sc (a j : Nat) : Prop := (48 ≤ a ∧ a ≤ 56 ∧ ¬ ((a = 55 ∨ a = 56) ∧ j = 0)) ∨ (67 ≤ a ∧ a ≤ 98)
def Kp (S : Nat → Nat → Prop) (f g : Mm) : Prop := ∀ a j, ¬ S a j → g a j = f a j
theorem Kp_r (S : Nat → Nat → Prop) (f : Mm) : Kp S f f := fun _ _ _ => rfl
theorem Kp_t {S : Nat → Nat → Prop} {f g h : Mm} (h1 : Kp S f g) (h2 : Kp S g h) : Kp S f h := fun a j q => by rw [h2 a j q, h1 a j q]
theorem Kp_m {S T : Nat → Nat → Prop} {f g : Mm} (h : Kp S f g) (hs : ∀ a j, S a j → T a j) : Kp T f g := fun a j q => h a j (fun s => q (hs a j s))
theorem Kp_u {S : Nat → Nat → Prop} {f g : Mm} (h : Kp S f g) {a i : Nat} {x : Int} (hs : S a i) : Kp S f (up g a i x) := fun b j q => by
  rw [up_n (fun e => q (by rw [e.1, e.2]; exact hs))]
  exact h b j q
theorem CT_k {B f g : Mm} (h : CT B f) (hk : ∀ a j, a ≤ 20 → g a j = f a j) (hB : WF B) : CT B g := by
  obtain ⟨h1, h2, h3, h4, h5, h6⟩ := h
  have hK : nK B ≤ 4 := by unfold nK; obtain ⟨_, _, _, _, _, q, _⟩ := hB; omega
  have hC : nC B ≤ 6 := by unfold nC; obtain ⟨_, _, _, _, _, _, q, _⟩ := hB; omega
  refine ⟨?_, ?_, fun d hd j hj => ?_, fun c hc j hj => ?_, fun d hd => ?_, fun k hq => ?_⟩
  · simp only [hk _ _ (show 4 ≤ 20 by decide)]; exact h1
  · simp only [hk _ _ (show 5 ≤ 20 by decide)]; exact h2
  · rw [hk _ _ (by omega)]; exact h3 d hd j hj
  · rw [hk _ _ (by omega)]; exact h4 c hc j hj
  · rw [hk _ _ (by omega)]; exact h5 d hd
  · rw [hk _ _ (by omega), hk _ _ (by omega)]; exact h6 k hq
theorem hasDay_e (x : Int) (f : Mm) : FX0_hasDay_4 x f = some (if 0 ≤ x ∧ x < f 4 1 then 1 else 0, f) := by unfold FX0_hasDay_4 FX0_hasDay_4_0; grind
theorem hasDeed_e (x : Int) (f : Mm) : FX0_hasDeed_4 x f = some (if 0 ≤ x ∧ x < f 4 4 then 1 else 0, f) := by unfold FX0_hasDeed_4 FX0_hasDeed_4_0; grind
theorem hasCart_e (x : Int) (f : Mm) : FX0_hasCart_4 x f = some (if 0 ≤ x ∧ x < f 4 5 then 1 else 0, f) := by unfold FX0_hasCart_4 FX0_hasCart_4_0; grind
theorem stands_e (f : Mm) : FX0_stands_4 f = some (if 0 < f 4 0 then 1 else 0, f) := by unfold FX0_stands_4 FX0_stands_4_0; grind
theorem bounded_e (x : Int) (f : Mm) : FX10_bounded x f = some (clp x, f) := by unfold FX10_bounded FX10_bounded_0 clp; grind
theorem bit01 (x : Int) : bAnd x 1 = 0 ∨ bAnd x 1 = 1 := by
  have e : bAnd x 1 = (i32 x &&& i32 1).toInt := rfl
  have e1 : (i32 x &&& i32 1).toBitVec.toNat = (i32 x).toBitVec.toNat % 2 := by
    rw [Int32.toBitVec_and, BitVec.toNat_and]
    exact Nat.and_one_is_mod _
  have e2 : bAnd x 1 = (((i32 x).toBitVec.toNat % 2 : Nat) : Int) := by
    rw [e]
    show (i32 x &&& i32 1).toBitVec.toInt = _
    rw [BitVec.toInt_eq_toNat_of_lt (by rw [e1]; omega), e1]
  omega
theorem holds_e (x : Int) (k : Nat) (f : Mm) : FX10_holds x (k : Int) f = some (if hbit x k = true then 1 else 0, f) := by
  unfold FX10_holds FX10_holds_0 hbit
  rcases bit01 (bShr x (k : Int)) with h | h <;> rw [h] <;> rfl
theorem moved_e {B f : Mm} (hB : WF B) (hC : CT B f) {x w : Int} {s : Nat} (hw : -1 ≤ w ∧ w < B 0 5) (hx : 0 ≤ x ∧ x ≤ 60) (hs : s < 2) : FX1_moved_4 x w (s : Int) f = some (mv B w s x, f) := by
  obtain ⟨h1, h2, h3, h4, h5, h6⟩ := hC
  have hK := hB.2.2.2.2.2.1
  unfold FX1_moved_4 FX1_moved_4_0 mv
  rw [hasDeed_e, b2_some]
  by_cases hn : w = -1
  · rw [if_neg (show ¬ (0 ≤ w ∧ w < f 4 4) by omega), if_pos rfl, if_pos hn]
  · have hd := hB.2.2.2.2.2.2.2.2.2.2.1 w.toNat (by unfold nK; omega)
    have h3' := h3 w.toNat (by unfold nK; omega) (2 + s) (by omega)
    have hr : -30 ≤ B (10 + w.toNat) (2 + s) ∧ B (10 + w.toNat) (2 + s) ≤ 30 := by
      rcases (show s = 0 ∨ s = 1 by omega) with rfl | rfl
      · exact hd.2.2.1
      · exact hd.2.2.2
    rw [w32n (x := 2 + (s : Int)) (n := 2 + s) (by omega) (by omega), Int.toNat_natCast, h3', w32s (x := x + B (10 + w.toNat) (2 + s)) (by omega) (by omega), bounded_e, b2_some, if_pos (show 0 ≤ w ∧ w < f 4 4 by omega), if_neg (by decide), if_pos (show 0 ≤ w ∧ w < 4 by omega), if_pos (by omega), if_neg hn]
/-- what the crossing is told to do -/
def CX (B : Mm) (ch : Nat → Int) (t2 tw tm co : Int) (f : Mm) : Prop :=
  (∀ d, d < 6 → f 49 d = ch d) ∧ f 48 2 = t2 ∧ f 48 3 = tw ∧ f 48 4 = co ∧ f 48 5 = tm ∧ WD B ch ∧ (-1 ≤ tw ∧ tw < B 0 5) ∧ (0 ≤ co ∧ co ≤ 9)
theorem feelDay_s {B f : Mm} (hB : WF B) (hC : CT B f) {ch : Nat → Int} {t2 tw tm co : Int} (hX : CX B ch t2 tw tm co f) {n d s : Nat} (hd : d < 6) (hs : s < 2) (hf : 0 < d → f (52 + s) (d - 1) = fl B ch t2 tw tm co s (d - 1)) :
    FX1_feelDay_48_4_2 (n + 1) (d : Int) (s : Int) f = FX1_feelDay_48_4_2 n (d : Int) ((s + 1 : Nat) : Int) (up f (52 + s) d (fl B ch t2 tw tm co s d)) := by
  obtain ⟨x1, x2, x3, x4, x5, x6, x7, x8⟩ := hX
  have hbg : 0 ≤ B 0 (1 + s) ∧ B 0 (1 + s) ≤ 60 := by
    rcases (show s = 0 ∨ s = 1 by omega) with rfl | rfl
    · exact hB.2.1
    · exact hB.2.2.1
  have h5 : f 5 s = B 0 (1 + s) := by
    rcases (show s = 0 ∨ s = 1 by omega) with rfl | rfl
    · exact hC.2.1.1
    · exact hC.2.1.2
  have key : ∀ x, 0 ≤ x ∧ x ≤ 60 → FX1_feelDay_48_4_40 (FX1_feelDay_48_4_2 n) (d : Int) (s : Int) x f = FX1_feelDay_48_4_2 n (d : Int) ((s + 1 : Nat) : Int) (up f (52 + s) d (fdy B ch t2 tw tm d s x)) := by
    intro x hx
    unfold FX1_feelDay_48_4_40
    rw [if_pos (by omega), Int.toNat_natCast, x1 d hd, moved_e hB hC (x6 d hd) hx hs, b2_some, x2, x3]
    have h76 : ∀ y, 0 ≤ y ∧ y ≤ 60 → FX1_feelDay_48_4_76 (FX1_feelDay_48_4_2 n) (d : Int) (s : Int) y f = FX1_feelDay_48_4_2 n (d : Int) ((s + 1 : Nat) : Int) (up f (52 + s) d (if hbit tm d = true then jMax 0 (y - 5) else y)) := by
      intro y hy
      unfold FX1_feelDay_48_4_76 FX1_feelDay_48_4_97
      rw [x5, holds_e, b2_some, nx s (by omega)]
      grind [w32s, Int.toNat_natCast]
    have m1 := mv_r (B := B) (w := ch d) (s := s) hx
    have m2 := mv_r (B := B) (w := tw) (s := s) m1
    unfold fdy
    rw [moved_e hB hC x7 m1 hs, b2_some, h76 _ m2, h76 _ m1]
    grind
  rw [FX1_feelDay_48_4_2, if_neg (by omega), if_pos (by omega)]
  by_cases h0 : d = 0
  · subst h0
    rw [if_pos (by decide), Int.toNat_natCast, h5, key _ hbg]
    rfl
  · obtain ⟨e, rfl⟩ : ∃ e, d = e + 1 := ⟨d - 1, by omega⟩
    have hf' := hf (by omega)
    rw [show e + 1 - 1 = e by omega] at hf'
    have r := fl_r hB (ch := ch) (t2 := t2) (tw := tw) (tm := tm) x8.1 (s := s) (d := e) hs
    rw [if_neg (by omega), w32n (x := ((e + 1 : Nat) : Int) - 1) (n := e) (by omega) (by omega), if_pos (show (0:Int) ≤ (s:Int) ∧ (s:Int) < 2 by omega), if_pos (show (0:Int) ≤ (e:Int) ∧ (e:Int) < 6 by omega), Int.toNat_natCast, Int.toNat_natCast, hf', x4, w32s (by omega) (by omega), key _ (by unfold jMax; split <;> omega)]
    rfl
theorem feelDay_e {B f : Mm} (hB : WF B) (hC : CT B f) {ch : Nat → Int} {t2 tw tm co : Int} (hX : CX B ch t2 tw tm co f) {d : Nat} (hd : d < 6) (hf : ∀ s, s < 2 → 0 < d → f (52 + s) (d - 1) = fl B ch t2 tw tm co s (d - 1)) :
    FX1_feelDay_48_4 (d : Int) f = some (up (up f 52 d (fl B ch t2 tw tm co 0 d)) 53 d (fl B ch t2 tw tm co 1 d)) := by
  obtain ⟨m, hm⟩ := fum3
  unfold FX1_feelDay_48_4 FX1_feelDay_48_4_0
  rw [hm]
  have a := feelDay_s hB hC hX (n := m + 1 + 1) hd (s := 0) (by decide) (hf 0 (by decide))
  refine a.trans ?_
  have hC' : CT B (up f (52 + 0) d (fl B ch t2 tw tm co 0 d)) := CT_k hC (fun a j ha => up_n (by omega)) hB
  have hX' : CX B ch t2 tw tm co (up f (52 + 0) d (fl B ch t2 tw tm co 0 d)) := by
    obtain ⟨x1, x2⟩ := hX
    exact ⟨fun d hd => by rw [up_n (by omega)]; exact x1 d hd, x2⟩
  have b := feelDay_s hB hC' hX' (n := m + 1) hd (s := 1) (by decide) (fun h => by rw [up_n (by omega)]; exact hf 1 (by decide) h)
  refine b.trans ?_
  rw [FX1_feelDay_48_4_2, if_pos (by decide)]

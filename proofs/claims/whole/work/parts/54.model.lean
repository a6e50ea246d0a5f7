/-! the model: acts, feelings, widths, who passes -/
def MO (B f : Mm) : Prop :=
  (f 156 0 = B 0 8 ∧ f 157 0 = B 0 0 ∧ f 157 1 = B 0 1 ∧ f 157 2 = B 0 2 ∧ f 157 3 = B 0 3 ∧ f 157 4 = B 0 4 ∧ f 157 5 = B 0 5 ∧ f 157 6 = B 0 6 ∧ f 157 7 = B 0 7) ∧
  (∀ d, d < nK B → ∀ j, j < 4 → f 158 (4 * d + j) = B (10 + d) j) ∧
  (∀ c, c < nC B → ∀ j, j < 5 → f 159 (5 * c + j) = B (20 + c) j) ∧
  (∀ k, k < nA B → f 160 (2 * k) = B 1 k ∧ f 160 (2 * k + 1) = B 2 k)
/-- what the model's looks may change -/
def Sm (a j : Nat) : Prop := (a = 150 ∧ j ≠ 6 ∧ j ≠ 14 ∧ j ≠ 15) ∨ 162 ≤ a
theorem MO_k {B f g : Mm} (h : MO B f) (hk : ∀ a j, 156 ≤ a → a ≤ 160 → g a j = f a j) : MO B g := by
  obtain ⟨h1, h2, h3, h4⟩ := h
  refine ⟨?_, fun d hd j hj => ?_, fun c hc j hj => ?_, fun k hq => ?_⟩
  · rw [hk 156 0 (by decide) (by decide), hk 157 0 (by decide) (by decide), hk 157 1 (by decide) (by decide), hk 157 2 (by decide) (by decide), hk 157 3 (by decide) (by decide), hk 157 4 (by decide) (by decide), hk 157 5 (by decide) (by decide), hk 157 6 (by decide) (by decide), hk 157 7 (by decide) (by decide)]
    exact h1
  · rw [hk _ _ (by decide) (by decide)]; exact h2 d hd j hj
  · rw [hk _ _ (by decide) (by decide)]; exact h3 c hc j hj
  · rw [hk _ _ (by decide) (by decide), hk _ _ (by decide) (by decide)]; exact h4 k hq
theorem MO_s {B f g : Mm} (h : MO B f) (hk : Kp Sm f g) : MO B g := MO_k h (fun a j h1 h2 => hk a j (fun q => by unfold Sm at q; omega))
theorem i5 {c j : Nat} {x y : Int} (hx : x = (c : Int)) (hy : y = (j : Int)) (hc : c < 100000) (hj : j < 1000) : w32 (w32 (5 * x) + y) = ((5 * c + j : Nat) : Int) := by
  rw [w32n (x := 5 * x) (n := 5 * c) (by omega) (by omega), w32n (n := 5 * c + j) (by omega) (by omega)]
theorem i4 {c j : Nat} {x y : Int} (hx : x = (c : Int)) (hy : y = (j : Int)) (hc : c < 100000) (hj : j < 1000) : w32 (w32 (4 * x) + y) = ((4 * c + j : Nat) : Int) := by
  rw [w32n (x := 4 * x) (n := 4 * c) (by omega) (by omega), w32n (n := 4 * c + j) (by omega) (by omega)]
theorem i2 {c j : Nat} {x y : Int} (hx : x = (c : Int)) (hy : y = (j : Int)) (hc : c < 100000) (hj : j < 1000) : w32 (w32 (2 * x) + y) = ((2 * c + j : Nat) : Int) := by
  rw [w32n (x := 2 * x) (n := 2 * c) (by omega) (by omega), w32n (n := 2 * c + j) (by omega) (by omega)]
theorem lays_W {B f : Mm} (hB : WF B) (hM : MO B f) : Wp (FX11_lays f) (fun g => Kp (fun a j => a = 162 ∨ a = 150 ∧ j = 23) f g ∧ g 150 23 = -1 ∧ ∀ j, j < 6 → g 162 j = dn B j) := by
  obtain ⟨hA, hAe⟩ := WF_A hB
  have hact := hB.2.2.2.2.2.2.2.2.2.2.2.2
  have hD := hB.1
  unfold FX11_lays FX11_lays_0
  refine forX (fun n x (s : Mm) => FX11_lays_7 n x s) (fun i g => Kp (fun a j => a = 162) (up f 150 23 (-1)) g ∧ ∀ e, e < i → g 162 e = -1) _ 6 ?_ ?_ fu 0 _ ⟨Kp_r _ _, fun e he => by omega⟩ (by omega) (by have := fub; omega)
  · rintro n g ⟨h1, h2⟩
    rw [FX11_lays_7, if_pos (by omega)]
    unfold FX11_lays_26
    have k0 : ∀ a j, a ≠ 162 → ¬ (a = 150 ∧ j = 23) → g a j = f a j := fun a j q1 q2 => by rw [h1 a j q1, up_n q2]
    refine forX (fun n x (s : Mm) => FX11_lays_28 n x s) (fun i g' => Kp (fun a j => a = 162) g g' ∧ ∀ e, e < 6 → g' 162 e = dO B i e) _ (nA B) ?_ ?_ fu 0 g ⟨Kp_r _ _, fun e he => h2 e he⟩ (by omega) (by have := fub; omega)
    · rintro n g' ⟨h3, h4⟩
      have e7 : g' 157 7 = (nA B : Int) := by rw [h3 157 7 (by omega), k0 157 7 (by omega) (by omega), hM.1.2.2.2.2.2.2.2.2, hAe]
      rw [FX11_lays_28, if_pos (by omega)]
      refine Wp_some ⟨fun a j q => ?_, ?_, h4⟩
      · rw [h3 a j (by omega), k0 a j (by omega) (by omega)]
      · rw [h3 150 23 (by omega), h1 150 23 (by omega), up_s]
    · rintro n i g' hi ⟨h3, h4⟩
      left
      have e7 : g' 157 7 = (nA B : Int) := by rw [h3 157 7 (by omega), k0 157 7 (by omega) (by omega), hM.1.2.2.2.2.2.2.2.2, hAe]
      have ea : g' 160 (2 * i) = B 1 i := by rw [h3 160 _ (by omega), k0 160 _ (by omega) (by omega)]; exact (hM.2.2.2 i hi).1
      have eb : g' 160 (2 * i + 1) = B 2 i := by rw [h3 160 _ (by omega), k0 160 _ (by omega) (by omega)]; exact (hM.2.2.2 i hi).2
      have hr := hact i hi
      rw [FX11_lays_28, if_neg (by omega), i2 (c := i) (j := 1) (y := 1) rfl rfl (by omega) (by omega), w32n (x := 2 * (i : Int)) (n := 2 * i) (by omega) (by omega), if_pos (by omega), if_pos (by omega), Int.toNat_natCast, Int.toNat_natCast, ea, eb, if_pos (by omega), nx i (by omega)]
      refine ⟨_, rfl, Kp_u h3 rfl, fun e he => ?_⟩
      unfold dO
      by_cases h : B 1 i = (e : Int)
      · rw [if_pos h, h, Int.toNat_natCast, up_s]
      · rw [if_neg h, up_n (by omega)]
        exact h4 e he
  · rintro n i g hi ⟨h1, h2⟩
    left
    rw [FX11_lays_7, if_neg (by omega), if_pos (by omega), nx i (by omega), Int.toNat_natCast]
    refine ⟨_, rfl, Kp_u h1 rfl, fun e he => ?_⟩
    by_cases h : e = i
    · subst h; rw [up_s]
    · rw [up_n (by omega)]; exact h2 e (by omega)
theorem held_e (x : Int) (f : Mm) : FX11_held x f = some (clp x, f) := by unfold FX11_held FX11_held_0 clp; grind
theorem isBit_e (x : Int) (k : Nat) (f : Mm) : FX11_isBit x (k : Int) f = some (if hbit x k = true then 1 else 0, f) := by
  unfold FX11_isBit FX11_isBit_0 hbit
  by_cases h : bAnd (bShr x (k : Int)) 1 = 1
  · rw [if_pos h, if_pos (by simpa using h)]
  · rw [if_neg h, if_neg (by simpa using h)]
theorem days_e (f : Mm) : FX11_days f = some (f 157 0, f) := rfl
theorem carts_e (f : Mm) : FX11_carts f = some (f 157 6, f) := rfl
theorem feelsOf_e {B f : Mm} {w : Int} (hB : WF B) (hM : MO B f) (hw : -1 ≤ w ∧ w < B 0 5) (h0 : 0 ≤ f 165 0 ∧ f 165 0 ≤ 60) (h1 : 0 ≤ f 165 1 ∧ f 165 1 ≤ 60) : FX11_feelsOf w f = some (up (up f 165 0 (mv B w 0 (f 165 0))) 165 1 (mv B w 1 (f 165 1))) := by
  obtain ⟨m, hm⟩ := fum3
  obtain ⟨hK, hKe⟩ := WF_K hB
  unfold FX11_feelsOf FX11_feelsOf_0
  rw [hm, FX11_feelsOf_2, if_neg (by decide)]
  by_cases hn : w = -1
  · subst hn
    rw [if_pos rfl, if_pos (by decide)]
    unfold FX11_feelsOf_48
    rw [if_pos (by decide), show w32 (0 + 1) = 1 from rfl, FX11_feelsOf_2, if_neg (by decide), if_pos rfl, if_pos (by decide)]
    unfold FX11_feelsOf_48
    rw [if_pos (by decide), show w32 (1 + 1) = 2 from rfl, FX11_feelsOf_2, if_pos (by decide)]
    rfl
  · have hd := WF_d hB w.toNat (by omega)
    have e2 := hM.2.1 w.toNat (by omega) 2 (by omega)
    have e3 := hM.2.1 w.toNat (by omega) 3 (by omega)
    rw [if_neg hn, if_pos (by decide), i4 (x := w) (y := 2) (c := w.toNat) (j := 2) (by omega) rfl (by omega) (by omega), w32n (x := ((4 * w.toNat + 2 : Nat) : Int) + 0) (n := 4 * w.toNat + 2) (by omega) (by omega), if_pos ⟨by omega, by omega⟩, Int.toNat_natCast, show (0 : Int).toNat = 0 from rfl, e2, w32s (by omega) (by omega), held_e, b2_some]
    unfold FX11_feelsOf_48
    rw [if_pos (by decide), show w32 (0 + 1) = 1 from rfl, FX11_feelsOf_2, if_neg (by decide), if_neg hn, if_pos (by decide), i4 (x := w) (y := 2) (c := w.toNat) (j := 2) (by omega) rfl (by omega) (by omega), w32n (x := ((4 * w.toNat + 2 : Nat) : Int) + 1) (n := 4 * w.toNat + 3) (by omega) (by omega), if_pos ⟨by omega, by omega⟩, Int.toNat_natCast, show (1 : Int).toNat = 1 from rfl, show (0 : Int).toNat = 0 from rfl]
    rw [up_n (f := f) (a := 165) (i := 0) (b := 165) (j := 1) (by omega), up_n (f := f) (a := 165) (i := 0) (b := 158) (by omega), e3, w32s (by omega) (by omega), held_e, b2_some]
    unfold FX11_feelsOf_48
    rw [if_pos (by decide), show w32 (1 + 1) = 2 from rfl, FX11_feelsOf_2, if_pos (by decide)]
    unfold mv
    rw [if_neg hn, if_neg hn]
    rfl
theorem goes_66s {k29 : Int → Int → Int → Mm → Option Mm} {m : Nat} {tm co : Int} {d s : Nat} {f : Mm} (hd : d < 6) (hs : s < 2) (h0 : 0 ≤ f 165 s ∧ f 165 s ≤ 60) :
    FX11_goes_66 k29 (m + 1) tm co (d : Int) (s : Int) f = FX11_goes_66 k29 m tm co (d : Int) ((s + 1 : Nat) : Int) (up (up f 165 s (if hbit tm d = true then jMax 0 (f 165 s - 5) else f 165 s)) 163 (2 * d + s) (if hbit tm d = true then jMax 0 (f 165 s - 5) else f 165 s)) := by
  rw [FX11_goes_66, if_neg (by omega), isBit_e, b2_some]
  by_cases hb : hbit tm d = true
  · rw [if_pos hb, if_neg (by decide), if_pos ⟨by omega, by omega⟩, Int.toNat_natCast, w32s (x := f 165 s - 5) (by omega) (by omega), held_e, b2_some, if_pos ⟨by omega, by omega⟩, if_pos hb, clp_lo (by omega)]
    unfold FX11_goes_99
    rw [if_pos ⟨by omega, by omega⟩, i2 (c := d) (j := s) rfl rfl (by omega) (by omega), if_pos ⟨by omega, by omega⟩, nx s (by omega), Int.toNat_natCast, Int.toNat_natCast, up_s]
  · rw [if_neg hb, if_pos rfl, if_neg hb]
    unfold FX11_goes_99
    rw [if_pos ⟨by omega, by omega⟩, i2 (c := d) (j := s) rfl rfl (by omega) (by omega), if_pos ⟨by omega, by omega⟩, nx s (by omega), Int.toNat_natCast, Int.toNat_natCast]
    congr 1
    funext a j
    grind [up_eq]
theorem goes_162s {k29 : Int → Int → Int → Mm → Option Mm} {m : Nat} {tm co : Int} {d s : Nat} {f : Mm} (hs : s < 2) (hc : 0 ≤ co ∧ co ≤ 9) (h0 : 0 ≤ f 165 s ∧ f 165 s ≤ 60) :
    FX11_goes_162 k29 (m + 1) tm co (d : Int) (s : Int) f = FX11_goes_162 k29 m tm co (d : Int) ((s + 1 : Nat) : Int) (up f 165 s (jMax 0 (f 165 s - co))) := by
  rw [FX11_goes_162, if_neg (by omega), if_pos ⟨by omega, by omega⟩, Int.toNat_natCast, w32s (by omega) (by omega), held_e, b2_some, if_pos ⟨by omega, by omega⟩, nx s (by omega), clp_lo (by omega)]
theorem goes_66e {k29 : Int → Int → Int → Mm → Option Mm} {m : Nat} {tm co : Int} {d : Nat} {f : Mm} : FX11_goes_66 k29 (m + 1) tm co (d : Int) ((2 : Nat) : Int) f = FX11_goes_123 k29 tm co (d : Int) f := by
  rw [FX11_goes_66, if_pos (by decide)]
theorem goes_162e {k29 : Int → Int → Int → Mm → Option Mm} {m : Nat} {tm co : Int} {d : Nat} {f : Mm} (hd : d < 6) : FX11_goes_162 k29 (m + 1) tm co (d : Int) ((2 : Nat) : Int) f = k29 tm co ((d + 1 : Nat) : Int) f := by
  rw [FX11_goes_162, if_pos (by decide)]
  unfold FX11_goes_193
  rw [nx d (by omega)]
def tmp5 (tm : Int) (d : Nat) (x : Int) : Int := if hbit tm d = true then jMax 0 (x - 5) else x
theorem tmp5_r {tm : Int} {d : Nat} {x : Int} (h : 0 ≤ x ∧ x ≤ 60) : 0 ≤ tmp5 tm d x ∧ tmp5 tm d x ≤ 60 := by
  unfold tmp5 jMax
  split <;> (try split) <;> omega
/-- a day, once its deeds are done -/
theorem goes_day {k29 : Int → Int → Int → Mm → Option Mm} {tm co : Int} {d : Nat} {f : Mm} (hd : d < 6) (hc : 0 ≤ co ∧ co ≤ 9) (h0 : 0 ≤ f 165 0 ∧ f 165 0 ≤ 60) (h1 : 0 ≤ f 165 1 ∧ f 165 1 ≤ 60) :
    ∃ g, FX11_goes_63 k29 tm co (d : Int) f = k29 tm co ((d + 1 : Nat) : Int) g ∧ (∀ a j, a ≠ 163 → a ≠ 164 → a ≠ 165 → g a j = f a j) ∧ (∀ j, j ≠ 2 * d → j ≠ 2 * d + 1 → g 163 j = f 163 j) ∧ (∀ j, j ≠ d → g 164 j = f 164 j) ∧
      (g 163 (2 * d) = tmp5 tm d (f 165 0) ∧ g 163 (2 * d + 1) = tmp5 tm d (f 165 1) ∧ g 165 0 = jMax 0 (tmp5 tm d (f 165 0) - co) ∧ g 165 1 = jMax 0 (tmp5 tm d (f 165 1) - co)) ∧ g 164 d = jMin (tmp5 tm d (f 165 0)) (tmp5 tm d (f 165 1)) := by
  obtain ⟨m, hm⟩ := fum3
  have r0 := tmp5_r (tm := tm) (d := d) h0
  have r1 := tmp5_r (tm := tm) (d := d) h1
  have s1 := goes_66s (k29 := k29) (m := m + 1 + 1) (tm := tm) (co := co) hd (s := 0) (by decide) h0
  rw [show (if hbit tm d = true then jMax 0 (f 165 0 - 5) else f 165 0) = tmp5 tm d (f 165 0) from rfl] at s1
  have e1 : up (up f 165 0 (tmp5 tm d (f 165 0))) 163 (2 * d + 0) (tmp5 tm d (f 165 0)) 165 1 = f 165 1 := by rw [up_n (by omega), up_n (by omega)]
  have s2 := goes_66s (k29 := k29) (m := m + 1) (tm := tm) (co := co) hd (s := 1) (f := up (up f 165 0 (tmp5 tm d (f 165 0))) 163 (2 * d + 0) (tmp5 tm d (f 165 0))) (by decide) (by rw [e1]; exact h1)
  rw [e1, show (if hbit tm d = true then jMax 0 (f 165 1 - 5) else f 165 1) = tmp5 tm d (f 165 1) from rfl] at s2
  generalize tmp5 tm d (f 165 0) = y0 at *
  generalize tmp5 tm d (f 165 1) = y1 at *
  have hE : FX11_goes_63 k29 tm co (d : Int) f = FX11_goes_123 k29 tm co (d : Int) (up (up (up (up f 165 0 y0) 163 (2 * d + 0) y0) 165 1 y1) 163 (2 * d + 1) y1) := by
    unfold FX11_goes_63
    rw [hm]
    exact s1.trans (s2.trans goes_66e)
  generalize hF : up (up (up (up f 165 0 y0) 163 (2 * d + 0) y0) 165 1 y1) 163 (2 * d + 1) y1 = F at hE
  have f0 : F 165 0 = y0 := by rw [← hF, up_n (by omega), up_n (by omega), up_n (by omega), up_s]
  have f1 : F 165 1 = y1 := by rw [← hF, up_n (by omega), up_s]
  have f2 : F 163 (2 * d) = y0 := by rw [← hF, up_n (by omega), up_n (by omega)]; exact up_s _ _ _ _
  have f3 : F 163 (2 * d + 1) = y1 := by rw [← hF, up_s]
  have fo : ∀ a j, a ≠ 163 → a ≠ 165 → F a j = f a j := fun a j ha hb => by rw [← hF, up_n (by omega), up_n (by omega), up_n (by omega), up_n (by omega)]
  have fp : ∀ j, j ≠ 2 * d → j ≠ 2 * d + 1 → F 163 j = f 163 j := fun j ha hb => by rw [← hF, up_n (by omega), up_n (by omega), up_n (by omega), up_n (by omega)]
  have key : FX11_goes_123 k29 tm co (d : Int) F = FX11_goes_158 k29 tm co (d : Int) (d : Int) (jMin y0 y1) F := by
    unfold FX11_goes_123
    rw [f0, f1]
    unfold jMin
    by_cases h : y1 < y0
    · rw [if_pos (by omega), if_pos h]
    · rw [if_neg h]
      by_cases h2 : y1 ≤ y0
      · rw [if_pos h2, show y1 = y0 by omega]
      · rw [if_neg h2]
  have q0 : up F 164 d (jMin y0 y1) 165 0 = y0 := by rw [up_n (by omega), f0]
  have t1 := goes_162s (k29 := k29) (m := m + 1 + 1) (tm := tm) (co := co) (d := d) (s := 0) (f := up F 164 d (jMin y0 y1)) (by decide) hc (by rw [q0]; exact r0)
  rw [q0] at t1
  have q1 : up (up F 164 d (jMin y0 y1)) 165 0 (jMax 0 (y0 - co)) 165 1 = y1 := by rw [up_n (by omega), up_n (by omega), f1]
  have t2 := goes_162s (k29 := k29) (m := m + 1) (tm := tm) (co := co) (d := d) (s := 1) (f := up (up F 164 d (jMin y0 y1)) 165 0 (jMax 0 (y0 - co))) (by decide) hc (by rw [q1]; exact r1)
  rw [q1] at t2
  have key2 : FX11_goes_158 k29 tm co (d : Int) (d : Int) (jMin y0 y1) F = k29 tm co ((d + 1 : Nat) : Int) (up (up (up F 164 d (jMin y0 y1)) 165 0 (jMax 0 (y0 - co))) 165 1 (jMax 0 (y1 - co))) := by
    unfold FX11_goes_158
    rw [if_pos ⟨by omega, by omega⟩, hm, Int.toNat_natCast]
    exact t1.trans (t2.trans (goes_162e hd))
  refine ⟨_, hE.trans (key.trans key2), fun a j ha hb hc' => ?_, fun j ha hb => ?_, fun j ha => ?_, ⟨?_, ?_, ?_, ?_⟩, ?_⟩
  · rw [up_n (by omega), up_n (by omega), up_n (by omega), fo a j ha hc']
  · rw [up_n (by omega), up_n (by omega), up_n (by omega), fp j ha hb]
  · rw [up_n (by omega), up_n (by omega), up_n (by omega), fo 164 j (by decide) (by decide)]
  · rw [up_n (by omega), up_n (by omega), up_n (by omega), f2]
  · rw [up_n (by omega), up_n (by omega), up_n (by omega), f3]
  · rw [up_n (by omega), up_s]
  · rw [up_s]
  · rw [up_n (by omega), up_n (by omega), up_s]
/-- what the model is told to go by -/
def MX (B : Mm) (ch : Nat → Int) (t2 tw : Int) (f : Mm) : Prop := (∀ d, d < 6 → f 162 d = ch d) ∧ f 150 23 = t2 ∧ (0 ≤ t2 → f 150 24 = tw ∧ -1 ≤ tw ∧ tw < B 0 5) ∧ WD B ch
def MK (B : Mm) (ch : Nat → Int) (t2 tw tm co : Int) (i : Nat) (g : Mm) : Prop := ∀ e, e < i → g 163 (2 * e) = fl B ch t2 tw tm co 0 e ∧ g 163 (2 * e + 1) = fl B ch t2 tw tm co 1 e ∧ g 164 e = wd B ch t2 tw tm co e
theorem goes_W {B f : Mm} (hB : WF B) (hM : MO B f) {ch : Nat → Int} {t2 tw tm co : Int} (hX : MX B ch t2 tw f) (hc : 0 ≤ co ∧ co ≤ 9) :
    Wp (FX11_goes tm co f) (fun g => Kp (fun a _ => 163 ≤ a ∧ a ≤ 165) f g ∧ MK B ch t2 tw tm co (nD B) g) := by
  obtain ⟨m, hm⟩ := fum3
  obtain ⟨hD6, hDe⟩ := WF_D hB
  obtain ⟨x1, x2, x3, x4⟩ := hX
  have b1 := hM.1.2.2.1
  have b2' := hM.1.2.2.2.1
  have start : FX11_goes tm co f = FX11_goes_27 tm co (up (up f 165 0 (B 0 1)) 165 1 (B 0 2)) := by
    unfold FX11_goes FX11_goes_0
    rw [hm, FX11_goes_2, if_neg (by decide), show w32 (1 + 0) = 1 from rfl, if_pos (by decide), if_pos (by decide), show w32 (0 + 1) = 1 from rfl, FX11_goes_2, if_neg (by decide), show w32 (1 + 1) = 2 from rfl, if_pos (by decide), if_pos (by decide), FX11_goes_2, if_pos (by decide), show (1 : Int).toNat = 1 from rfl, show (0 : Int).toNat = 0 from rfl, show (2 : Int).toNat = 2 from rfl, b1, up_n (by omega), b2']
  rw [start]
  unfold FX11_goes_27
  refine forX (fun n x (s : Mm) => FX11_goes_29 n tm co x s) (fun i g => Kp (fun a _ => 163 ≤ a ∧ a ≤ 165) f g ∧ MK B ch t2 tw tm co i g ∧ g 165 0 = fbg B ch t2 tw tm co 0 i ∧ g 165 1 = fbg B ch t2 tw tm co 1 i) _ (nD B) ?_ ?_ fu 0 _ ⟨Kp_u (Kp_u (Kp_r _ _) (by omega)) (by omega), fun e he => by omega, by rw [up_n (by omega), up_s]; rfl, by rw [up_s]; rfl⟩ (by omega) (by have := fub; omega)
  · rintro n g ⟨h1, h2, h3, h4⟩
    have e0 : g 157 0 = (nD B : Int) := by rw [h1 157 0 (by omega), hM.1.2.1, hDe]
    rw [FX11_goes_29, days_e, b2_some, if_pos (by omega)]
    exact Wp_some ⟨h1, h2⟩
  · rintro n i g hi ⟨h1, h2, h3, h4⟩
    left
    have e0 : g 157 0 = (nD B : Int) := by rw [h1 157 0 (by omega), hM.1.2.1, hDe]
    have r0 := fbg_r (ch := ch) (t2 := t2) (tw := tw) (tm := tm) (s := 0) hB.2.1 hc.1 i
    have r1 := fbg_r (ch := ch) (t2 := t2) (tw := tw) (tm := tm) (s := 1) hB.2.2.1 hc.1 i
    have ec : g 162 i = ch i := by rw [h1 162 i (by omega)]; exact x1 i (by omega)
    have hM' : MO B g := MO_k hM (fun a j _ _ => h1 a j (by omega))
    rw [FX11_goes_29, days_e, b2_some, if_neg (by omega), if_pos ⟨by omega, by omega⟩, Int.toNat_natCast, ec, feelsOf_e hB hM' (x4 i (by omega)) (by rw [h3]; exact r0) (by rw [h4]; exact r1), h3, h4]
    simp only [Option.bind_some]
    have m0 := mv_r (B := B) (w := ch i) (s := 0) r0
    have m1 := mv_r (B := B) (w := ch i) (s := 1) r1
    have hM2 : MO B (up (up g 165 0 (mv B (ch i) 0 (fbg B ch t2 tw tm co 0 i))) 165 1 (mv B (ch i) 1 (fbg B ch t2 tw tm co 1 i))) := MO_k hM' (fun a j _ _ => by rw [up_n (by omega), up_n (by omega)])
    have et : up (up g 165 0 (mv B (ch i) 0 (fbg B ch t2 tw tm co 0 i))) 165 1 (mv B (ch i) 1 (fbg B ch t2 tw tm co 1 i)) 150 23 = t2 := by rw [up_n (by omega), up_n (by omega), h1 150 23 (by omega), x2]
    have et2 : up (up g 165 0 (mv B (ch i) 0 (fbg B ch t2 tw tm co 0 i))) 165 1 (mv B (ch i) 1 (fbg B ch t2 tw tm co 1 i)) 150 24 = f 150 24 := by rw [up_n (by omega), up_n (by omega), h1 150 24 (by omega)]
    have v0 : up (up g 165 0 (mv B (ch i) 0 (fbg B ch t2 tw tm co 0 i))) 165 1 (mv B (ch i) 1 (fbg B ch t2 tw tm co 1 i)) 165 0 = mv B (ch i) 0 (fbg B ch t2 tw tm co 0 i) := by rw [up_n (by omega), up_s]
    have v1 : up (up g 165 0 (mv B (ch i) 0 (fbg B ch t2 tw tm co 0 i))) 165 1 (mv B (ch i) 1 (fbg B ch t2 tw tm co 1 i)) 165 1 = mv B (ch i) 1 (fbg B ch t2 tw tm co 1 i) := by rw [up_s]
    have vo : ∀ a j, a ≠ 165 → up (up g 165 0 (mv B (ch i) 0 (fbg B ch t2 tw tm co 0 i))) 165 1 (mv B (ch i) 1 (fbg B ch t2 tw tm co 1 i)) a j = g a j := fun a j q => by rw [up_n (by omega), up_n (by omega)]
    generalize up (up g 165 0 (mv B (ch i) 0 (fbg B ch t2 tw tm co 0 i))) 165 1 (mv B (ch i) 1 (fbg B ch t2 tw tm co 1 i)) = g1 at *
    have fin : ∀ g2 : Mm, (∀ a j, a ≠ 165 → g2 a j = g a j) → ∀ y0 y1, g2 165 0 = y0 → g2 165 1 = y1 → 0 ≤ y0 ∧ y0 ≤ 60 → 0 ≤ y1 ∧ y1 ≤ 60 → tmp5 tm i y0 = fl B ch t2 tw tm co 0 i → tmp5 tm i y1 = fl B ch t2 tw tm co 1 i →
        ∃ s', FX11_goes_63 (FX11_goes_29 n) tm co (i : Int) g2 = FX11_goes_29 n tm co ((i + 1 : Nat) : Int) s' ∧ Kp (fun a _ => 163 ≤ a ∧ a ≤ 165) f s' ∧ MK B ch t2 tw tm co (i + 1) s' ∧ s' 165 0 = fbg B ch t2 tw tm co 0 (i + 1) ∧ s' 165 1 = fbg B ch t2 tw tm co 1 (i + 1) := by
      intro g2 go y0 y1 hy0 hy1 ry0 ry1 t0 t1
      obtain ⟨g3, q1, q2, q3, q4, ⟨q5, q6, q7, q8⟩, q9⟩ := goes_day (k29 := FX11_goes_29 n) (tm := tm) (co := co) (d := i) (f := g2) (by omega) hc (by rw [hy0]; exact ry0) (by rw [hy1]; exact ry1)
      rw [hy0, t0] at q5 q7
      rw [hy1, t1] at q6 q8
      rw [hy0, hy1, t0, t1] at q9
      refine ⟨g3, q1, fun a j h => ?_, fun e he => ?_, q7, q8⟩
      · rw [q2 a j (by omega) (by omega) (by omega), go a j (by omega), h1 a j h]
      · by_cases hei : e = i
        · subst hei
          exact ⟨q5, q6, q9⟩
        · rw [q3 _ (by omega) (by omega), q3 _ (by omega) (by omega), q4 _ hei, go _ _ (by decide), go _ _ (by decide), go _ _ (by decide)]
          exact h2 e (by omega)
    rw [et]
    by_cases ht : (i : Int) = t2
    · obtain ⟨y1, y2, y3⟩ := x3 (by omega)
      rw [if_pos ht, et2, y1, feelsOf_e hB hM2 ⟨y2, y3⟩ (by rw [v0]; exact m0) (by rw [v1]; exact m1), v0, v1]
      simp only [Option.bind_some]
      refine fin _ (fun a j q => ?_) _ _ ?_ ?_ (mv_r (B := B) (w := tw) (s := 0) m0) (mv_r (B := B) (w := tw) (s := 1) m1) ?_ ?_
      · rw [up_n (by omega), up_n (by omega)]; exact vo a j q
      · rw [up_n (by omega), up_s]
      · rw [up_s]
      · unfold fl fdy tmp5; rw [if_pos ht]
      · unfold fl fdy tmp5; rw [if_pos ht]
    · rw [if_neg ht]
      refine fin _ vo _ _ v0 v1 m0 m1 ?_ ?_
      · unfold fl fdy tmp5; rw [if_neg ht]
      · unfold fl fdy tmp5; rw [if_neg ht]
theorem byNumbers_W (f : Mm) : Wp (FX11_byNumbers f) (fun g => Kp (fun a _ => a = 166) f g ∧ ∀ i, i < 6 → g 166 i = (i : Int)) := by
  unfold FX11_byNumbers FX11_byNumbers_0
  refine forX (fun n x (s : Mm) => FX11_byNumbers_2 n x s) (fun i g => Kp (fun a j => a = 166) f g ∧ ∀ e, e < i → g 166 e = (e : Int)) _ 6 ?_ ?_ fu 0 _ ⟨Kp_r _ _, fun e he => by omega⟩ (by omega) (by have := fub; omega)
  · rintro n g ⟨h1, h2⟩
    rw [FX11_byNumbers_2, if_pos (by omega)]
    exact Wp_some ⟨h1, h2⟩
  · rintro n i g hi ⟨h1, h2⟩
    left
    rw [FX11_byNumbers_2, if_neg (by omega), if_pos (by omega), nx i (by omega), Int.toNat_natCast]
    refine ⟨_, rfl, Kp_u h1 rfl, fun e he => ?_⟩
    by_cases h : e = i
    · subst h; rw [up_s]
    · rw [up_n (by omega)]; exact h2 e (by omega)
/-- who passed when, and what was left -/
def MP (B : Mm) (od : Nat → Nat) (w : Nat → Int) (i : Nat) (g : Mm) : Prop := (∀ c, c < 6 → g 167 c = pas B od w i c) ∧ ∀ e, e < i → g 168 e = lft B od w e
theorem passes_W {B f : Mm} (hB : WF B) (hM : MO B f) {od : Nat → Nat} (hO : OD B od) (ho : ∀ i, i < nC B → f 166 i = (od i : Int)) {w : Nat → Int} (hw : ∀ e, e < nD B → f 164 e = w e ∧ 0 ≤ w e ∧ w e ≤ 60) :
    Wp (FX11_passes f) (fun g => Kp (fun a _ => a = 167 ∨ a = 168) f g ∧ MP B od w (nD B) g) := by
  obtain ⟨hD6, hDe⟩ := WF_D hB
  obtain ⟨hC6, hCe⟩ := WF_C hB
  have hcc := WF_c hB
  unfold FX11_passes FX11_passes_0
  refine forX (fun n x (s : Mm) => FX11_passes_2 n x s) (fun i g => Kp (fun a j => a = 167 ∨ a = 168) f g ∧ ∀ e, e < i → g 167 e = -1) _ 6 ?_ ?_ fu 0 _ ⟨Kp_r _ _, fun e he => by omega⟩ (by omega) (by have := fub; omega)
  · rintro n g ⟨h1, h2⟩
    rw [FX11_passes_2, if_pos (by omega)]
    unfold FX11_passes_21
    refine forX (fun n x (s : Mm) => FX11_passes_23 n x s) (fun i g => Kp (fun a j => a = 167 ∨ a = 168) f g ∧ MP B od w i g) _ (nD B) ?_ ?_ fu 0 _ ⟨h1, h2, fun e he => by omega⟩ (by omega) (by have := fub; omega)
    · rintro n g ⟨h1, h2⟩
      have e0 : g 157 0 = (nD B : Int) := by rw [h1 157 0 (by omega), hM.1.2.1, hDe]
      rw [FX11_passes_23, days_e, b2_some, if_pos (by omega)]
      exact Wp_some ⟨h1, h2⟩
    · rintro n d g hd ⟨h1, h2⟩
      left
      have e0 : g 157 0 = (nD B : Int) := by rw [h1 157 0 (by omega), hM.1.2.1, hDe]
      have ew : g 164 d = w d := by rw [h1 164 d (by omega)]; exact (hw d hd).1
      have rw0 := (hw d hd).2
      rw [FX11_passes_23, days_e, b2_some, if_neg (by omega), if_pos (by omega), Int.toNat_natCast, ew]
      refine forR (fun n' x (s : Int × Mm) => FX11_passes_40 (FX11_passes_23 n) n' (d : Int) s.1 x s.2)
        (fun i s => Kp (fun a j => a = 167 ∨ a = 168) f s.2 ∧ (∀ c, c < 6 → s.2 167 c = (pcs B od d (w d, pas B od w d) i).2 c) ∧ s.1 = (pcs B od d (w d, pas B od w d) i).1 ∧ (0 ≤ s.1 ∧ s.1 ≤ 60) ∧ ∀ e, e < d → s.2 168 e = lft B od w e)
        (fun o => ∃ s', o = FX11_passes_23 n ((d + 1 : Nat) : Int) s' ∧ Kp (fun a j => a = 167 ∨ a = 168) f s' ∧ MP B od w (d + 1) s') (nC B) ?_ ?_ fu 0 (w d, g) ⟨h1, h2.1, rfl, rw0, h2.2⟩ (by omega) (by have := fub; omega)
      · rintro n' ⟨l, g'⟩ ⟨k1, k2, k3, k4, k5⟩
        simp only at k1 k2 k3 k4 k5 ⊢
        have e6 : g' 157 6 = (nC B : Int) := by rw [k1 157 6 (by omega), hM.1.2.2.2.2.2.2.2.1, hCe]
        rw [FX11_passes_40, carts_e, b2_some, if_pos (by omega)]
        unfold FX11_passes_128
        rw [if_pos (by omega), nx d (by omega), Int.toNat_natCast]
        refine ⟨_, rfl, Kp_u k1 (Or.inr rfl), fun c hc => ?_, fun e he => ?_⟩
        · rw [up_n (by omega), k2 c hc]; rfl
        · by_cases h : e = d
          · subst h; rw [up_s, k3]; rfl
          · rw [up_n (by omega)]; exact k5 e (by omega)
      · rintro n' i ⟨l, g'⟩ hi ⟨k1, k2, k3, k4, k5⟩
        simp only at k1 k2 k3 k4 k5 ⊢
        left
        have e6 : g' 157 6 = (nC B : Int) := by rw [k1 157 6 (by omega), hM.1.2.2.2.2.2.2.2.1, hCe]
        have hoi := hO i hi
        have e66 : g' 166 i = (od i : Int) := by rw [k1 166 i (by omega)]; exact ho i hi
        have q1 : g' 159 (5 * od i + 1) = B (20 + od i) 1 := by rw [k1 159 _ (by omega)]; exact hM.2.2.1 _ hoi 1 (by omega)
        have q2 : g' 159 (5 * od i + 2) = B (20 + od i) 2 := by rw [k1 159 _ (by omega)]; exact hM.2.2.1 _ hoi 2 (by omega)
        have hcr := hcc _ hoi
        have ep : pcs B od d (w d, pas B od w d) (i + 1) = pst B d (od i) (pcs B od d (w d, pas B od w d) i) := rfl
        have e67 := k2 (od i) (by omega)
        rw [FX11_passes_40, carts_e, b2_some, if_neg (by omega), if_pos (by omega), Int.toNat_natCast, e66, if_pos (by omega), Int.toNat_natCast, e67, i5 (c := od i) (j := 2) (y := 2) rfl rfl (by omega) (by omega), i5 (c := od i) (j := 1) (y := 1) rfl rfl (by omega) (by omega), Int.toNat_natCast, Int.toNat_natCast, q1, q2, ep]
        unfold FX11_passes_122
        rw [nx i (by omega)]
        generalize pcs B od d (w d, pas B od w d) i = Q at *
        unfold pst
        by_cases c1 : Q.2 (od i) = -1
        · rw [if_pos c1, if_pos (by omega)]
          by_cases c2 : (d : Int) < B (20 + od i) 2
          · rw [if_pos c2, if_neg (by omega)]
            exact ⟨(l, g'), rfl, k1, k2, k3, k4, k5⟩
          · rw [if_neg c2, if_pos (by omega)]
            by_cases c3 : B (20 + od i) 1 ≤ l
            · rw [if_pos c3, if_pos (by omega), if_pos (by omega), w32s (by omega) (by omega), if_pos (show Q.2 (od i) = -1 ∧ B (20 + od i) 2 ≤ (d : Int) ∧ B (20 + od i) 1 ≤ Q.1 by omega)]
              refine ⟨(l - B (20 + od i) 1, up g' 167 (od i) (d : Int)), rfl, Kp_u k1 (Or.inl rfl), fun c hc => ?_, ?_, ?_, fun e he => ?_⟩
              · show up g' 167 (od i) (d : Int) 167 c = if c = od i then (d : Int) else Q.2 c
                by_cases h : c = od i
                · rw [h, up_s, if_pos rfl]
                · rw [up_n (by omega), if_neg h]; exact k2 c hc
              · show l - B (20 + od i) 1 = Q.1 - B (20 + od i) 1
                omega
              · show 0 ≤ l - B (20 + od i) 1 ∧ l - B (20 + od i) 1 ≤ 60
                omega
              · show up g' 167 (od i) (d : Int) 168 e = lft B od w e
                rw [up_n (by omega)]; exact k5 e he
            · rw [if_neg c3, if_neg (by omega)]
              exact ⟨(l, g'), rfl, k1, k2, k3, k4, k5⟩
        · rw [if_neg c1, if_neg (fun q => c1 q.1)]
          exact ⟨(l, g'), rfl, k1, k2, k3, k4, k5⟩
  · rintro n i g hi ⟨h1, h2⟩
    left
    rw [FX11_passes_2, if_neg (by omega), if_pos (by omega), nx i (by omega), Int.toNat_natCast]
    refine ⟨_, rfl, Kp_u h1 (Or.inl rfl), fun e he => ?_⟩
    by_cases h : e = i
    · subst h; rw [up_s]
    · rw [up_n (by omega)]; exact h2 e (by omega)

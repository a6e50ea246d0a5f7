/-! sets of carts: abreast, load, loads -/
def cPow (B : Mm) : Nat := 2 ^ nC B
theorem sh_n : ∀ c : Fin 7, bShl 1 (c.val : Int) = ((2 ^ c.val : Nat) : Int) := by decide +kernel
theorem cPow_r {B : Mm} (hB : WF B) : 1 ≤ cPow B ∧ cPow B ≤ 64 ∧ allC B = (cPow B : Int) - 1 ∧ bShl 1 (nC B : Int) = (cPow B : Int) := by
  have h6 := (WF_C hB).1
  have h := allC_r hB
  have h2 : (1 : Nat) ≤ 2 ^ nC B ∧ 2 ^ nC B ≤ 2 ^ 6 := ⟨Nat.one_le_two_pow, Nat.pow_le_pow_right (by decide) h6⟩
  have h3 : ((2 : Int) ^ nC B) = ((2 ^ nC B : Nat) : Int) := by simp
  have h4 := sh_n ⟨nC B, by omega⟩
  unfold cPow
  simp only at h4
  rw [h4]
  omega
def szS (x : Int) : Int := sm (fun c => if hbit x c = true then 1 else 0) 7
theorem szS_r (x : Int) : 0 ≤ szS x ∧ szS x ≤ 7 := by
  have := sm_r (g := fun c => if hbit x c = true then 1 else 0) (M := 1) 7 (fun i _ => by split <;> omega)
  unfold szS
  omega
theorem bitCount_s {x : Int} (h : sS x) (f : Mm) : FJ6_bitCount_0f7a4 x f = some (szS x, f) := by
  obtain ⟨n, hn, rfl⟩ := sS_n h
  have := bc_d ⟨n, hn⟩
  simp only at this
  rw [this]
  rfl
theorem sz_d : ∀ x : Fin 128, x.val ≠ 0 → (0 ≤ bAnd (x.val : Int) ((x.val : Int) - 1) ∧ bAnd (x.val : Int) ((x.val : Int) - 1) < (x.val : Int)) ∧ szS (x.val : Int) = szS (bAnd (x.val : Int) ((x.val : Int) - 1)) + 1 := by decide +kernel
theorem sizeOf_l (f : Mm) : ∀ (n : Nat) (x : Nat) (a : Int), x < 128 → x < n → 0 ≤ a ∧ a ≤ 1000 - (x : Int) → FX11_sizeOf_4 n a (x : Int) f = some (a + szS (x : Int), f) := by
  intro n
  induction n with
  | zero => intro x a _ h; omega
  | succ n ih =>
    intro x a hx hn ha
    rw [FX11_sizeOf_4]
    by_cases h : (x : Int) = 0
    · rw [if_pos h, h, show szS 0 = 0 by decide, Int.add_zero]
    · obtain ⟨⟨h1, h2⟩, h3⟩ := sz_d ⟨x, hx⟩ (by simp only; omega)
      simp only at h1 h2 h3
      rw [if_neg h, w32s (x := a + 1) (by omega) (by omega), w32s (x := (x : Int) - 1) (by omega) (by omega), h3]
      obtain ⟨y, hy⟩ : ∃ y : Nat, bAnd (x : Int) ((x : Int) - 1) = (y : Int) := ⟨(bAnd (x : Int) ((x : Int) - 1)).toNat, by omega⟩
      rw [hy] at h1 h2 ⊢
      rw [ih y (a + 1) (by omega) (by omega) (by omega), show a + 1 + szS (y : Int) = a + (szS (y : Int) + 1) by omega]
theorem sizeOf_e {x : Nat} (h : x < 128) (f : Mm) : FX11_sizeOf (x : Int) f = some (szS (x : Int), f) := by
  unfold FX11_sizeOf FX11_sizeOf_0
  rw [sizeOf_l f fu x 0 h (by have := fub; omega) (by omega), Int.zero_add]
theorem isAbreast_e (x : Int) (f : Mm) : FX10_isAbreast x f = some (if 0 ≤ x ∧ x ≤ 99 then 1 else 0, f) := by unfold FX10_isAbreast FX10_isAbreast_0; grind
theorem isFeeling_e (x : Int) (f : Mm) : FX10_isFeeling x f = some (if 0 ≤ x ∧ x ≤ 60 then 1 else 0, f) := by unfold FX10_isFeeling FX10_isFeeling_0; grind
theorem isSeed_e (x : Int) (f : Mm) : FX10_isSeed x f = some (if 0 ≤ x ∧ x ≤ 2000000000 then 1 else 0, f) := by unfold FX10_isSeed FX10_isSeed_0; grind
theorem misAbreast_e {B f : Mm} (hM : MO B f) (x : Int) : FX11_isAbreast x f = some (if 0 < B 0 8 ∧ 0 ≤ x ∧ x ≤ 99 then 1 else 0, f) := by
  unfold FX11_isAbreast FX11_isAbreast_0
  rw [isBridge_e hM, b2_some, in_e, b2_some]
  grind
theorem misWidth_e {B f : Mm} (hM : MO B f) (x : Int) : FX11_isWidth x f = some (if 0 < B 0 8 ∧ 0 ≤ x ∧ x ≤ 60 then 1 else 0, f) := by
  unfold FX11_isWidth FX11_isWidth_0
  rw [isBridge_e hM, b2_some, in_e, b2_some]
  grind
theorem misSeed_e {B f : Mm} (hM : MO B f) (x : Int) : FX11_isSeed x f = some (if 0 < B 0 8 ∧ 0 ≤ x ∧ x ≤ 2000000000 then 1 else 0, f) := by
  unfold FX11_isSeed FX11_isSeed_0
  rw [isBridge_e hM, b2_some, in_e, b2_some]
  grind
def st_abreast (B : Mm) (x : Int) (i : Nat) (s : Int) : Int := if sumf B 1 (i : Int) ≤ x then jMax s (szS (i : Int)) else s
def S_abreast (B : Mm) (x : Int) : Int := if 0 < B 0 8 ∧ 0 ≤ x ∧ x ≤ 99 then fo (fun i => st_abreast B x (0 + i)) 0 (cPow B - 0) else -2
theorem cq_abreast {B : Mm} (hB : WF B) (x : Int) : QC B (FX10_abreast x) (S_abreast B x) := by
  rintro f ⟨hC, h0⟩
  obtain ⟨c1, c2, c3, c4⟩ := cPow_r hB
  unfold FX10_abreast FX10_abreast_0 S_abreast
  rw [stands_e, b2_some, isAbreast_e, b2_some, hC.1.1]
  by_cases h : 0 < B 0 8
  · rw [if_pos h, if_neg (by decide)]
    by_cases h2 : 0 ≤ x ∧ x ≤ 99
    · rw [if_pos h2, if_neg (by decide), if_pos (by omega)]
      obtain ⟨m, e, hj⟩ := forF (fun n y (s : Int) => FX10_abreast_24 n x s y f) (st_abreast B x) (fun _ _ => True) 0 (cPow B) 0 trivial (by omega) (fun n i s _ hi _ => by
        refine ⟨?_, trivial⟩
        rw [FX10_abreast_24, allCarts_e hB hC, b2_some, if_neg (by omega), wideOf_e hB hC, b2_some, bitCount_s ⟨by omega, by omega⟩, b2_some]
        unfold FX10_abreast_56 st_abreast
        rw [nx i (by omega)]
        by_cases q : x < sumf B 1 (i : Int)
        · rw [if_pos q, if_neg (by omega)]
        · rw [if_neg q, if_pos (by omega)]) fu (by have := fub; omega)
      refine Wp_eq e ?_
      rw [FX10_abreast_24, allCarts_e hB hC, b2_some, if_pos (by omega)]
      exact Wp_some ⟨rfl, Kp_r _ _⟩
    · rw [if_neg h2, if_pos rfl, if_neg (by omega)]
      exact Wp_some ⟨rfl, Kp_r _ _⟩
  · rw [if_neg h, if_pos rfl, if_neg (by omega)]
    exact Wp_some ⟨rfl, Kp_r _ _⟩
theorem mq_abreast {B : Mm} (hB : WF B) (x : Int) : QM B (FX11_abreast x) (S_abreast B x) := by
  intro f hM
  obtain ⟨c1, c2, c3, c4⟩ := cPow_r hB
  have hCe := (WF_C hB).2
  have k0 : Kp Sm f (up f 150 0 0) := Kp_u (Kp_r _ _) (by unfold Sm; omega)
  have hM0 := MO_s hM k0
  have e6 : up f 150 0 0 157 6 = (nC B : Int) := by rw [hM0.1.2.2.2.2.2.2.2.1, hCe]
  unfold FX11_abreast FX11_abreast_0 S_abreast
  rw [misAbreast_e hM0, b2_some]
  by_cases h : 0 < B 0 8 ∧ 0 ≤ x ∧ x ≤ 99
  · rw [if_pos h, if_neg (by decide), if_pos h]
    obtain ⟨m, e, hj⟩ := forF (fun n y (s : Int) => FX11_abreast_20 n x s y (up f 150 0 0)) (st_abreast B x) (fun _ _ => True) 0 (cPow B) 0 trivial (by omega) (fun n i s _ hi _ => by
      refine ⟨?_, trivial⟩
      rw [FX11_abreast_20, carts_e, b2_some, e6, c4, if_neg (by omega), mwideOf_e hB hM0, b2_some, sizeOf_e (by omega), b2_some, sizeOf_e (by omega), b2_some]
      unfold FX11_abreast_52 st_abreast jMax
      rw [nx i (by omega)]
      by_cases q : x < sumf B 1 (i : Int)
      · rw [if_pos q, if_neg (by omega)]
      · rw [if_neg q, if_pos (show sumf B 1 (i : Int) ≤ x by omega)]
        by_cases q2 : szS (i : Int) ≤ s
        · rw [if_pos q2, if_neg (by omega)]
        · rw [if_neg q2, if_pos (by omega)]) fu (by have := fub; omega)
    refine Wp_eq e ?_
    rw [FX11_abreast_20, carts_e, b2_some, e6, c4, if_pos (by omega)]
    exact Wp_some ⟨rfl, k0⟩
  · rw [if_neg h, if_pos rfl, if_neg h]
    exact Wp_some ⟨rfl, k0⟩
def st_load (B : Mm) (x : Int) (i : Nat) (s : Int) : Int := if sumf B 1 (i : Int) ≤ x ∧ sumf B 4 s < sumf B 4 (i : Int) then (i : Int) else s
def v_load (B : Mm) (x : Int) : Int := fo (fun i => st_load B x (1 + i)) 0 (cPow B - 1)
theorem richest_e {B f : Mm} (hB : WF B) (hC : CT B f) (x : Int) : FX10_richestSet x f = some (v_load B x, f) := by
  obtain ⟨c1, c2, c3, c4⟩ := cPow_r hB
  unfold FX10_richestSet FX10_richestSet_0
  obtain ⟨m, e, hj⟩ := forF (fun n y (s : Int) => FX10_richestSet_4 n x s y f) (st_load B x) (fun _ _ => True) 1 (cPow B) 0 trivial (by omega) (fun n i s _ hi _ => by
    refine ⟨?_, trivial⟩
    rw [FX10_richestSet_4, allCarts_e hB hC, b2_some, if_neg (by omega), wideOf_e hB hC, b2_some, payOf_e hB hC, b2_some, payOf_e hB hC, b2_some]
    unfold FX10_richestSet_48 st_load
    rw [nx i (by omega)]
    by_cases q : x < sumf B 1 (i : Int)
    · rw [if_pos q, if_neg (by omega)]
    · rw [if_neg q]
      by_cases q2 : sumf B 4 (i : Int) ≤ sumf B 4 s
      · rw [if_pos q2, if_neg (by omega)]
      · rw [if_neg q2, if_pos (by omega)]) fu (by have := fub; omega)
  refine e.trans ?_
  rw [FX10_richestSet_4, allCarts_e hB hC, b2_some, if_pos (by omega)]
  rfl
theorem loadOf_e {B f : Mm} (hB : WF B) (hM : MO B f) {x : Int} (hx : 0 ≤ x) : FX11_loadOf x f = some (v_load B x, f) := by
  obtain ⟨c1, c2, c3, c4⟩ := cPow_r hB
  obtain ⟨mm, hmm⟩ := fum3
  have hCe := (WF_C hB).2
  have e6 : f 157 6 = (nC B : Int) := by rw [hM.1.2.2.2.2.2.2.2.1, hCe]
  have stp : ∀ n i (s : Int), i < cPow B → FX11_loadOf_4 (n + 1) x s (i : Int) f = FX11_loadOf_4 n x (st_load B x i s) ((i + 1 : Nat) : Int) f := fun n i s hi => by
    rw [FX11_loadOf_4, carts_e, b2_some, e6, c4, if_neg (by omega), mwideOf_e hB hM, b2_some, mpayOf_e hB hM, b2_some, mpayOf_e hB hM, b2_some]
    unfold FX11_loadOf_38 st_load
    rw [nx i (by omega)]
    by_cases q : x < sumf B 1 (i : Int)
    · rw [if_pos q, if_neg (by omega)]
    · rw [if_neg q]
      by_cases q2 : sumf B 4 (i : Int) ≤ sumf B 4 s
      · rw [if_pos q2, if_neg (by omega)]
      · rw [if_neg q2, if_pos (by omega)]
  unfold FX11_loadOf FX11_loadOf_0
  have e0 : FX11_loadOf_4 fu x 0 0 f = FX11_loadOf_4 (mm + 1 + 1) x 0 ((0 + 1 : Nat) : Int) f := by
    rw [hmm]
    have := stp (mm + 1 + 1) 0 0 (by omega)
    rw [show st_load B x 0 0 = 0 by unfold st_load; rw [if_neg (fun q => absurd q.2 (Int.lt_irrefl _))]] at this
    exact this
  rw [e0]
  obtain ⟨m, e, hj⟩ := forF (fun n y (s : Int) => FX11_loadOf_4 n x s y f) (st_load B x) (fun _ _ => True) 1 (cPow B) 0 trivial (by omega) (fun n i s _ hi _ => ⟨stp n i s hi, trivial⟩) (mm + 1 + 1) (by have := fub; omega)
  refine e.trans ?_
  rw [FX11_loadOf_4, carts_e, b2_some, e6, c4, if_pos (by omega)]
  rfl
def S_load (B : Mm) (x : Int) : Int := if 0 < B 0 8 ∧ 0 ≤ x ∧ x ≤ 99 then sumf B 4 (v_load B x) else -2
def S_loads (B : Mm) (x : Int) : Int := if 0 < B 0 8 ∧ 0 ≤ x ∧ x ≤ 99 then v_load B x else -2
theorem cq_load {B : Mm} (hB : WF B) (x : Int) : QC B (FX10_load x) (S_load B x) := by
  rintro f ⟨hC, h0⟩
  unfold FX10_load FX10_load_0 S_load
  rw [stands_e, b2_some, isAbreast_e, b2_some, hC.1.1, richest_e hB hC, b2_some, payOf_e hB hC, b2_some]
  by_cases h : 0 < B 0 8
  · rw [if_pos h, if_neg (by decide)]
    by_cases h2 : 0 ≤ x ∧ x ≤ 99
    · rw [if_pos h2, if_neg (by decide), if_pos (by omega)]
      exact Wp_some ⟨rfl, Kp_r _ _⟩
    · rw [if_neg h2, if_pos rfl, if_neg (by omega)]
      exact Wp_some ⟨rfl, Kp_r _ _⟩
  · rw [if_neg h, if_pos rfl, if_neg (by omega)]
    exact Wp_some ⟨rfl, Kp_r _ _⟩
theorem cq_loads {B : Mm} (hB : WF B) (x : Int) : QC B (FX10_loads x) (S_loads B x) := by
  rintro f ⟨hC, h0⟩
  unfold FX10_loads FX10_loads_0 S_loads
  rw [stands_e, b2_some, isAbreast_e, b2_some, hC.1.1, richest_e hB hC, b2_some]
  by_cases h : 0 < B 0 8
  · rw [if_pos h, if_neg (by decide)]
    by_cases h2 : 0 ≤ x ∧ x ≤ 99
    · rw [if_pos h2, if_neg (by decide), if_pos (by omega)]
      exact Wp_some ⟨rfl, Kp_r _ _⟩
    · rw [if_neg h2, if_pos rfl, if_neg (by omega)]
      exact Wp_some ⟨rfl, Kp_r _ _⟩
  · rw [if_neg h, if_pos rfl, if_neg (by omega)]
    exact Wp_some ⟨rfl, Kp_r _ _⟩
theorem mq_load {B : Mm} (hB : WF B) (x : Int) : QM B (FX11_load x) (S_load B x) := by
  intro f hM
  have k0 : Kp Sm f (up f 150 0 0) := Kp_u (Kp_r _ _) (by unfold Sm; omega)
  have hM0 := MO_s hM k0
  unfold FX11_load FX11_load_0 S_load
  rw [misAbreast_e hM0, b2_some]
  by_cases h : 0 < B 0 8 ∧ 0 ≤ x ∧ x ≤ 99
  · rw [if_pos h, if_neg (by decide), if_pos h, loadOf_e hB hM0 h.2.1, b2_some, mpayOf_e hB hM0, b2_some]
    exact Wp_some ⟨rfl, k0⟩
  · rw [if_neg h, if_pos rfl, if_neg h]
    exact Wp_some ⟨rfl, k0⟩
theorem mq_loads {B : Mm} (hB : WF B) (x : Int) : QM B (FX11_loads x) (S_loads B x) := by
  intro f hM
  have k0 : Kp Sm f (up f 150 0 0) := Kp_u (Kp_r _ _) (by unfold Sm; omega)
  have hM0 := MO_s hM k0
  unfold FX11_loads FX11_loads_0 S_loads
  rw [misAbreast_e hM0, b2_some]
  by_cases h : 0 < B 0 8 ∧ 0 ≤ x ∧ x ≤ 99
  · rw [if_pos h, if_neg (by decide), if_pos h, loadOf_e hB hM0 h.2.1, b2_some]
    exact Wp_some ⟨rfl, k0⟩
  · rw [if_neg h, if_pos rfl, if_neg h]
    exact Wp_some ⟨rfl, k0⟩

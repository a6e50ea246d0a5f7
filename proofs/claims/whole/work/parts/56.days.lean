/-! looks at the days as they go: the class -/
def CI (B f : Mm) : Prop := CT B f ∧ f 55 0 = 0 ∧ f 56 0 = 0
def QC (B : Mm) (F : Mm → Option (Int × Mm)) (v : Int) : Prop := ∀ f, CI B f → Wp (F f) (fun p => p.1 = v ∧ Kp Sc f p.2)
def QM (B : Mm) (F : Mm → Option (Int × Mm)) (v : Int) : Prop := ∀ f, MO B f → Wp (F f) (fun p => p.1 = v ∧ Kp Sm f p.2)
def wN (B : Mm) : Nat → Int := wd B (dn B) (-1) (-1) 0 (B 0 3)
def fN (B : Mm) : Nat → Nat → Int := fl B (dn B) (-1) (-1) 0 (B 0 3)
def pN (B : Mm) : Nat → Int := pas B idn (wN B) (nD B)
theorem wN_r {B : Mm} (hB : WF B) (d : Nat) : 0 ≤ wN B d ∧ wN B d ≤ 60 := wd_r hB hB.2.2.2.1.1 d
theorem sm_tail {g : Nat → Int} {n : Nat} : ∀ m, n ≤ m → (∀ i, n ≤ i → i < m → g i = 0) → sm g m = sm g n
  | 0, h, _ => by rw [show n = 0 by omega]
  | m + 1, h, hz => by
    by_cases e : n = m + 1
    · rw [e]
    · have e2 : sm g (m + 1) = sm g m + g m := rfl
      rw [e2, sm_tail m (by omega) (fun i h1 h2 => hz i h1 (by omega)), hz m (by omega) (by omega), Int.add_zero]
theorem sumf_bts {B : Mm} (hB : WF B) (j : Nat) (p : Nat → Bool) : sumf B j (bts p (nC B)) = sm (fun c => if p c = true then B (20 + c) j else 0) (nC B) := by
  have h6 := (WF_C hB).1
  unfold sumf
  refine sm_congr _ (fun i hi => ?_)
  rw [(bts_s (p := p) (nC B) (by omega)).2 i (by omega)]
  simp [hi]
theorem bc_d : ∀ x : Fin 128, FJ6_bitCount_0f7a4 (x.val : Int) = fun f => some (sm (fun c => if hbit (x.val : Int) c = true then 1 else 0) 7, f) := by
  have h : ∀ x : Fin 128, (FJ6_bitCount_0f7a4 (x.val : Int) (fun _ _ => 0)).map (fun p => p.1) = some (sm (fun c => if hbit (x.val : Int) c = true then 1 else 0) 7) := by decide +kernel
  intro x
  funext f
  have := h x
  unfold FJ6_bitCount_0f7a4 FJ6_bitCount_0f7a4_0 at this ⊢
  simp only [Option.map_some, Option.some.injEq] at this
  rw [this]
theorem bitCount_e {p : Nat → Bool} {n : Nat} (hn : n ≤ 7) (f : Mm) : FJ6_bitCount_0f7a4 (bts p n) f = some (sm (fun c => if p c = true then 1 else 0) n, f) := by
  have hs := bts_s (p := p) n hn
  obtain ⟨m, hm, e⟩ := sS_n hs.1
  have h := bc_d ⟨m, hm⟩
  simp only at h
  rw [e, h]
  have : sm (fun c => if hbit (m : Int) c = true then 1 else 0) 7 = sm (fun c => if p c = true then 1 else 0) n := by
    rw [sm_tail (n := n) 7 hn (fun i h1 h2 => by rw [← e, hs.2 i h2]; simp [show ¬ i < n by omega])]
    refine sm_congr _ (fun i hi => ?_)
    rw [← e, hs.2 i (by omega)]
    simp [hi]
  rw [this]
theorem dayOf_e {B : Mm} (hB : WF B) {g : Mm} (hC : CT B g) {od : Nat → Nat} {w : Nat → Int} (h : PK B od w (nD B) g) {c : Nat} (hc : c < nC B) : FX1_dayOf_48_4 (c : Int) g = some (pas B od w (nD B) c, g) := by
  obtain ⟨h6, he⟩ := WF_D hB
  have hC6 := (WF_C hB).1
  have e1 : g 4 1 = (nD B : Int) := by rw [hC.1.2.1, he]
  unfold FX1_dayOf_48_4 FX1_dayOf_48_4_0
  have key := forX (fun n x (s : Unit) => FX1_dayOf_48_4_2 n (c : Int) x g) (fun i _ => pas B od w i c = -1) (fun p => p = (pas B od w (nD B) c, g)) (nD B) ?_ ?_ fu 0 () rfl (by omega) (by have := fub; omega)
  · obtain ⟨b, q1, q2⟩ := key
    rw [← q2]
    exact q1
  · intro n s hI
    (try simp only at hI ⊢)
    rw [FX1_dayOf_48_4_2, if_pos (by omega), hI]
    exact Wp_some rfl
  · intro n i s hi hI
    (try simp only at hI ⊢)
    rw [FX1_dayOf_48_4_2, if_neg (by omega), w32n (x := (i : Int) + 1) (n := i + 1) (by omega) (by omega), if_pos (by omega), Int.toNat_natCast, (h.2 (i + 1) (by omega)).1, holds_e, b2_some, (bts_s _ (by omega)).2 c (by omega)]
    unfold hs1
    simp only [hc, decide_true, Bool.true_and]
    rcases (pas_s (B := B) (od := od) (w := w) (b := c) i).2 hI with q | q
    · left
      refine ⟨(), ?_, q⟩
      rw [q]
      rfl
    · right
      have q1 : pas B od w (i + 1) c ≠ -1 := by omega
      have q2 := (pas_le (B := B) (od := od) (w := w) (b := c) (e := i + 1) (nD B - (i + 1))).2 q1
      rw [show i + 1 + (nD B - (i + 1)) = nD B by omega] at q2
      rw [if_pos (decide_eq_true q1), if_neg (by decide)]
      exact Wp_some (by rw [q2, q])
theorem waitingOn_e {B : Mm} (hB : WF B) {g : Mm} (hC : CT B g) {od : Nat → Nat} {w : Nat → Int} (h : PK B od w (nD B) g) {d : Nat} (hd : d < nD B) : FX1_waitingOn_48_4 (d : Int) g = some (bts (fun c => decide (B (20 + c) 2 ≤ (d : Int) ∧ (pas B od w (nD B) c = -1 ∨ (d : Int) < pas B od w (nD B) c))) (nC B), g) := by
  obtain ⟨h6, he⟩ := WF_D hB
  obtain ⟨hC6, hCe⟩ := WF_C hB
  have e5 : g 4 5 = (nC B : Int) := by rw [hC.1.2.2.2.2.2.1, hCe]
  unfold FX1_waitingOn_48_4 FX1_waitingOn_48_4_0
  have key := forX (fun n x (s : Int) => FX1_waitingOn_48_4_5 n (d : Int) s x g) (fun i s => s = bts (fun c => decide (B (20 + c) 2 ≤ (d : Int) ∧ (pas B od w (nD B) c = -1 ∨ (d : Int) < pas B od w (nD B) c))) i) (fun p => p = (bts (fun c => decide (B (20 + c) 2 ≤ (d : Int) ∧ (pas B od w (nD B) c = -1 ∨ (d : Int) < pas B od w (nD B) c))) (nC B), g)) (nC B) ?_ ?_ fu 0 0 rfl (by omega) (by have := fub; omega)
  · obtain ⟨b, q1, q2⟩ := key
    rw [← q2]
    exact q1
  · intro n s hI
    rw [FX1_waitingOn_48_4_5, if_pos (by omega), hI]
    exact Wp_some rfl
  · intro n i s hi hI
    left
    have q2 := hC.2.2.2.1 i hi 2 (by omega)
    have hp := pas_lt (B := B) (od := od) (w := w) (b := i) (e := d + 1) (D := nD B) (by omega)
    rw [FX1_waitingOn_48_4_5, if_neg (by omega), if_pos (by omega), Int.toNat_natCast, q2, w32n (x := (d : Int) + 1) (n := d + 1) (by omega) (by omega)]
    unfold FX1_waitingOn_48_4_50
    rw [nx i (by omega), if_pos (show (0 : Int) ≤ ((d + 1 : Nat) : Int) ∧ ((d + 1 : Nat) : Int) < 7 by omega), Int.toNat_natCast, (h.2 (d + 1) (by omega)).1, holds_e, b2_some, (bts_s _ (by omega)).2 i (by omega)]
    unfold hs1
    simp only [hi, decide_true, Bool.true_and, decide_eq_true_eq]
    by_cases c1 : (d : Int) < B (20 + i) 2
    · rw [if_pos c1]
      refine ⟨s, rfl, ?_⟩
      unfold bts
      rw [if_neg (by rw [decide_eq_true_eq]; omega)]
      exact hI
    · rw [if_neg c1]
      by_cases c2 : pas B od w (d + 1) i ≠ -1
      · have := hp.mp c2
        rw [if_pos c2, if_neg (by decide)]
        refine ⟨s, rfl, ?_⟩
        unfold bts
        rw [if_neg (by rw [decide_eq_true_eq]; omega)]
        exact hI
      · have := mt hp.mpr c2
        rw [if_neg c2, if_pos rfl]
        refine ⟨_, rfl, ?_⟩
        unfold bts
        rw [if_pos (by rw [decide_eq_true_eq]; omega), hI]
theorem passedBits_e {B : Mm} (hB : WF B) {g : Mm} (hC : CT B g) {od : Nat → Nat} {w : Nat → Int} (h : PK B od w (nD B) g) : FX1_passedBits_48_4 g = some (bts (hs1 (pas B od w (nD B))) (nC B), g) := by
  obtain ⟨h6, he⟩ := WF_D hB
  have e1 : g 4 1 = (nD B : Int) := by rw [hC.1.2.1, he]
  unfold FX1_passedBits_48_4 FX1_passedBits_48_4_0
  rw [e1, if_pos (by omega), Int.toNat_natCast, (h.2 (nD B) (by omega)).1]
theorem keptBits_e {B : Mm} (hB : WF B) {g : Mm} (hC : CT B g) {od : Nat → Nat} {w : Nat → Int} (h : PK B od w (nD B) g) : FX1_keptBits_48_4 g = some (bts (inT B (pas B od w (nD B))) (nC B), g) := by
  obtain ⟨h6, he⟩ := WF_D hB
  have e1 : g 4 1 = (nD B : Int) := by rw [hC.1.2.1, he]
  unfold FX1_keptBits_48_4 FX1_keptBits_48_4_0
  rw [e1, if_pos (by omega), Int.toNat_natCast, (h.2 (nD B) (by omega)).2]
def S_width (B : Mm) (x : Int) : Int := if 0 ≤ x ∧ x < (nD B : Int) then wN B x.toNat else -2
theorem cq_width {B : Mm} (hB : WF B) (x : Int) : QC B (FX10_width x) (S_width B x) := by
  rintro f ⟨hC, h0⟩
  obtain ⟨hD6, hDe⟩ := WF_D hB
  obtain ⟨hC6, hCe⟩ := WF_C hB
  unfold FX10_width FX10_width_0 S_width
  rw [hasDay_e, b2_some, hC.1.2.1, (WF_D hB).2]
  by_cases h : 0 ≤ x ∧ x < (nD B : Int)
  · rw [if_pos h, if_pos h, if_neg (by decide)]
    obtain ⟨d, rfl⟩ : ∃ d : Nat, x = (d : Int) := ⟨x.toNat, by omega⟩
    rw [Int.toNat_natCast]
    refine Wp_bind (asNow_W hB hC h0) (fun g ⟨k, nw, o⟩ => ?_)
    have hC' := CT_s hB hC k
    have e1 : g 4 1 = (nD B : Int) := by rw [hC'.1.2.1, hDe]
    have e5 : g 4 5 = (nC B : Int) := by rw [hC'.1.2.2.2.2.2.1, hCe]
    rw [widthOn_e nw.1 (by omega) (by omega), b2_some]
    exact Wp_some ⟨rfl, k⟩
  · rw [if_neg h, if_neg h, if_pos rfl]
    exact Wp_some ⟨rfl, Kp_r _ _⟩
def st_narrow (B : Mm) (i : Nat) (s : Int) : Int := if wN B i < wN B s.toNat then (i : Int) else s
def S_narrow (B : Mm)  : Int := if 0 < B 0 8 then fo (fun i => st_narrow B (1 + i)) 0 (nD B - 1) else -2
theorem cq_narrow {B : Mm} (hB : WF B)  : QC B (FX10_narrow ) (S_narrow B ) := by
  rintro f ⟨hC, h0⟩
  obtain ⟨hD6, hDe⟩ := WF_D hB
  obtain ⟨hC6, hCe⟩ := WF_C hB
  unfold FX10_narrow FX10_narrow_0 S_narrow
  rw [stands_e, b2_some, hC.1.1]
  by_cases h : 0 < B 0 8
  · rw [if_pos h, if_pos h, if_neg (by decide)]
    refine Wp_bind (asNow_W hB hC h0) (fun g ⟨k, nw, o⟩ => ?_)
    have hC' := CT_s hB hC k
    have e1 : g 4 1 = (nD B : Int) := by rw [hC'.1.2.1, hDe]
    have e5 : g 4 5 = (nC B : Int) := by rw [hC'.1.2.2.2.2.2.1, hCe]
    have hD1 : 1 ≤ nD B := by
      have := hB.2.2.2.2.2.2.2.2.2.1.1 h
      omega
    obtain ⟨m, e, hj⟩ := forF (fun n x (s : Int) => FX10_narrow_22 n s x g) (st_narrow B) (fun i s => 0 ≤ s ∧ s < (i : Int)) 1 (nD B) 0 (by decide) (by omega) (fun n i s hb' hi hJ => by
      have ws := widthOn_e nw.1 (d := s.toNat) (by omega) (by omega)
      rw [show ((s.toNat : Nat) : Int) = s by omega] at ws
      refine ⟨?_, by unfold st_narrow; split <;> omega⟩
      rw [FX10_narrow_22, if_neg (by omega), widthOn_e nw.1 (d := i) hi (by omega), b2_some, ws, b2_some]
      unfold FX10_narrow_48 st_narrow
      rw [nx i (by omega)]
      rw [show wd B (dn B) (-1) (-1) 0 (B 0 3) = wN B from rfl]
      split <;> split <;> first | rfl | omega) fu (by have := fub; omega)
    refine Wp_eq e ?_
    rw [FX10_narrow_22, if_pos (by omega)]
    exact Wp_some ⟨rfl, k⟩
  · rw [if_neg h, if_neg h, if_pos rfl]
    exact Wp_some ⟨rfl, Kp_r _ _⟩
def st_peak (B : Mm) (i : Nat) (s : Int) : Int := if wN B s.toNat < wN B i then (i : Int) else s
def S_peak (B : Mm)  : Int := if 0 < B 0 8 then fo (fun i => st_peak B (1 + i)) 0 (nD B - 1) else -2
theorem cq_peak {B : Mm} (hB : WF B)  : QC B (FX10_peak ) (S_peak B ) := by
  rintro f ⟨hC, h0⟩
  obtain ⟨hD6, hDe⟩ := WF_D hB
  obtain ⟨hC6, hCe⟩ := WF_C hB
  unfold FX10_peak FX10_peak_0 S_peak
  rw [stands_e, b2_some, hC.1.1]
  by_cases h : 0 < B 0 8
  · rw [if_pos h, if_pos h, if_neg (by decide)]
    refine Wp_bind (asNow_W hB hC h0) (fun g ⟨k, nw, o⟩ => ?_)
    have hC' := CT_s hB hC k
    have e1 : g 4 1 = (nD B : Int) := by rw [hC'.1.2.1, hDe]
    have e5 : g 4 5 = (nC B : Int) := by rw [hC'.1.2.2.2.2.2.1, hCe]
    have hD1 : 1 ≤ nD B := by
      have := hB.2.2.2.2.2.2.2.2.2.1.1 h
      omega
    obtain ⟨m, e, hj⟩ := forF (fun n x (s : Int) => FX10_peak_22 n s x g) (st_peak B) (fun i s => 0 ≤ s ∧ s < (i : Int)) 1 (nD B) 0 (by decide) (by omega) (fun n i s hb' hi hJ => by
      have ws := widthOn_e nw.1 (d := s.toNat) (by omega) (by omega)
      rw [show ((s.toNat : Nat) : Int) = s by omega] at ws
      refine ⟨?_, by unfold st_peak; split <;> omega⟩
      rw [FX10_peak_22, if_neg (by omega), widthOn_e nw.1 (d := i) hi (by omega), b2_some, ws, b2_some]
      unfold FX10_peak_48 st_peak
      rw [nx i (by omega)]
      rw [show wd B (dn B) (-1) (-1) 0 (B 0 3) = wN B from rfl]
      split <;> split <;> first | rfl | omega) fu (by have := fub; omega)
    refine Wp_eq e ?_
    rw [FX10_peak_22, if_pos (by omega)]
    exact Wp_some ⟨rfl, k⟩
  · rw [if_neg h, if_neg h, if_pos rfl]
    exact Wp_some ⟨rfl, Kp_r _ _⟩
def S_shut (B : Mm)  : Int := if 0 < B 0 8 then bts (fun d => decide (wN B d = 0)) (nD B) else -2
theorem cq_shut {B : Mm} (hB : WF B)  : QC B (FX10_shut ) (S_shut B ) := by
  rintro f ⟨hC, h0⟩
  obtain ⟨hD6, hDe⟩ := WF_D hB
  obtain ⟨hC6, hCe⟩ := WF_C hB
  unfold FX10_shut FX10_shut_0 S_shut
  rw [stands_e, b2_some, hC.1.1]
  by_cases h : 0 < B 0 8
  · rw [if_pos h, if_pos h, if_neg (by decide)]
    refine Wp_bind (asNow_W hB hC h0) (fun g ⟨k, nw, o⟩ => ?_)
    have hC' := CT_s hB hC k
    have e1 : g 4 1 = (nD B : Int) := by rw [hC'.1.2.1, hDe]
    have e5 : g 4 5 = (nC B : Int) := by rw [hC'.1.2.2.2.2.2.1, hCe]
    refine forX (fun n x (s : Int) => FX10_shut_22 n s x g) (fun i s => s = bts (fun d => decide (wN B d = 0)) i) _ (nD B) ?_ ?_ fu 0 0 rfl (by omega) (by have := fub; omega)
    · intro n s hI
      rw [FX10_shut_22, if_pos (by omega), hI]
      exact Wp_some ⟨rfl, k⟩
    · intro n i s hi hI
      left
      rw [FX10_shut_22, if_neg (by omega), widthOn_e nw.1 (d := i) hi (by omega), b2_some]
      unfold FX10_shut_47
      rw [nx i (by omega), show wd B (dn B) (-1) (-1) 0 (B 0 3) = wN B from rfl]
      by_cases c : wN B i = 0
      · rw [if_pos c]
        refine ⟨_, rfl, ?_⟩
        unfold bts
        rw [if_pos (decide_eq_true c), hI]
      · rw [if_neg c]
        refine ⟨_, rfl, ?_⟩
        unfold bts
        rw [if_neg (by rw [decide_eq_true_eq]; exact c), hI]
  · rw [if_neg h, if_neg h, if_pos rfl]
    exact Wp_some ⟨rfl, Kp_r _ _⟩
def S_passes (B : Mm) (x : Int) : Int := if 0 ≤ x ∧ x < (nC B : Int) then pN B x.toNat else -2
theorem cq_passes {B : Mm} (hB : WF B) (x : Int) : QC B (FX10_passes x) (S_passes B x) := by
  rintro f ⟨hC, h0⟩
  obtain ⟨hD6, hDe⟩ := WF_D hB
  obtain ⟨hC6, hCe⟩ := WF_C hB
  unfold FX10_passes FX10_passes_0 S_passes
  rw [hasCart_e, b2_some, hC.1.2.2.2.2.2.1, (WF_C hB).2]
  by_cases h : 0 ≤ x ∧ x < (nC B : Int)
  · rw [if_pos h, if_pos h, if_neg (by decide)]
    obtain ⟨d, rfl⟩ : ∃ d : Nat, x = (d : Int) := ⟨x.toNat, by omega⟩
    rw [Int.toNat_natCast]
    refine Wp_bind (asNow_W hB hC h0) (fun g ⟨k, nw, o⟩ => ?_)
    have hC' := CT_s hB hC k
    have e1 : g 4 1 = (nD B : Int) := by rw [hC'.1.2.1, hDe]
    have e5 : g 4 5 = (nC B : Int) := by rw [hC'.1.2.2.2.2.2.1, hCe]
    rw [dayOf_e hB hC' nw.2.1 (by omega), b2_some]
    exact Wp_some ⟨rfl, k⟩
  · rw [if_neg h, if_neg h, if_pos rfl]
    exact Wp_some ⟨rfl, Kp_r _ _⟩
def S_over (B : Mm) (x : Int) : Int := if 0 ≤ x ∧ x < (nD B : Int) then bts (fun c => decide (pN B c = (x.toNat : Int))) (nC B) else -2
theorem cq_over {B : Mm} (hB : WF B) (x : Int) : QC B (FX10_over x) (S_over B x) := by
  rintro f ⟨hC, h0⟩
  obtain ⟨hD6, hDe⟩ := WF_D hB
  obtain ⟨hC6, hCe⟩ := WF_C hB
  unfold FX10_over FX10_over_0 S_over
  rw [hasDay_e, b2_some, hC.1.2.1, (WF_D hB).2]
  by_cases h : 0 ≤ x ∧ x < (nD B : Int)
  · rw [if_pos h, if_pos h, if_neg (by decide)]
    obtain ⟨d, rfl⟩ : ∃ d : Nat, x = (d : Int) := ⟨x.toNat, by omega⟩
    rw [Int.toNat_natCast]
    refine Wp_bind (asNow_W hB hC h0) (fun g ⟨k, nw, o⟩ => ?_)
    have hC' := CT_s hB hC k
    have e1 : g 4 1 = (nD B : Int) := by rw [hC'.1.2.1, hDe]
    have e5 : g 4 5 = (nC B : Int) := by rw [hC'.1.2.2.2.2.2.1, hCe]
    rw [passedOn_e hB nw.2.1 (by omega) (by omega), b2_some]
    exact Wp_some ⟨rfl, k⟩
  · rw [if_neg h, if_neg h, if_pos rfl]
    exact Wp_some ⟨rfl, Kp_r _ _⟩
def S_waits (B : Mm) (x : Int) : Int := if 0 ≤ x ∧ x < (nD B : Int) then bts (fun c => decide (B (20 + c) 2 ≤ (x.toNat : Int) ∧ (pN B c = -1 ∨ (x.toNat : Int) < pN B c))) (nC B) else -2
theorem cq_waits {B : Mm} (hB : WF B) (x : Int) : QC B (FX10_waits x) (S_waits B x) := by
  rintro f ⟨hC, h0⟩
  obtain ⟨hD6, hDe⟩ := WF_D hB
  obtain ⟨hC6, hCe⟩ := WF_C hB
  unfold FX10_waits FX10_waits_0 S_waits
  rw [hasDay_e, b2_some, hC.1.2.1, (WF_D hB).2]
  by_cases h : 0 ≤ x ∧ x < (nD B : Int)
  · rw [if_pos h, if_pos h, if_neg (by decide)]
    obtain ⟨d, rfl⟩ : ∃ d : Nat, x = (d : Int) := ⟨x.toNat, by omega⟩
    rw [Int.toNat_natCast]
    refine Wp_bind (asNow_W hB hC h0) (fun g ⟨k, nw, o⟩ => ?_)
    have hC' := CT_s hB hC k
    have e1 : g 4 1 = (nD B : Int) := by rw [hC'.1.2.1, hDe]
    have e5 : g 4 5 = (nC B : Int) := by rw [hC'.1.2.2.2.2.2.1, hCe]
    rw [waitingOn_e hB hC' nw.2.1 (by omega), b2_some]
    exact Wp_some ⟨rfl, k⟩
  · rw [if_neg h, if_neg h, if_pos rfl]
    exact Wp_some ⟨rfl, Kp_r _ _⟩
def S_room (B : Mm) (x : Int) : Int := if 0 ≤ x ∧ x < (nD B : Int) then lft B idn (wN B) x.toNat else -2
theorem cq_room {B : Mm} (hB : WF B) (x : Int) : QC B (FX10_room x) (S_room B x) := by
  rintro f ⟨hC, h0⟩
  obtain ⟨hD6, hDe⟩ := WF_D hB
  obtain ⟨hC6, hCe⟩ := WF_C hB
  unfold FX10_room FX10_room_0 S_room
  rw [hasDay_e, b2_some, hC.1.2.1, (WF_D hB).2]
  by_cases h : 0 ≤ x ∧ x < (nD B : Int)
  · rw [if_pos h, if_pos h, if_neg (by decide)]
    obtain ⟨d, rfl⟩ : ∃ d : Nat, x = (d : Int) := ⟨x.toNat, by omega⟩
    rw [Int.toNat_natCast]
    refine Wp_bind (asNow_W hB hC h0) (fun g ⟨k, nw, o⟩ => ?_)
    have hC' := CT_s hB hC k
    have e1 : g 4 1 = (nD B : Int) := by rw [hC'.1.2.1, hDe]
    have e5 : g 4 5 = (nC B : Int) := by rw [hC'.1.2.2.2.2.2.1, hCe]
    rw [if_pos (by omega), nw.2.1.1 d (by omega)]
    exact Wp_some ⟨rfl, k⟩
  · rw [if_neg h, if_neg h, if_pos rfl]
    exact Wp_some ⟨rfl, Kp_r _ _⟩
/-- the first pair that is so, by the outer and then the inner number -/
def ff2 (p : Nat → Nat → Bool) (C : Nat) : Nat → Int
  | 0 => -1
  | n + 1 => if ff2 p C n = -1 then ff (p n) C else ff2 p C n
theorem ff2_hit {p : Nat → Nat → Bool} {C i : Nat} {v : Int} (h0 : ff2 p C i = -1) (hp : ff (p i) C = v) (hv : v ≠ -1) : ∀ D, i < D → ff2 p C D = v := by
  intro D
  induction D with
  | zero => intro h; omega
  | succ D ih =>
    intro h
    unfold ff2
    by_cases hD : i = D
    · subst hD
      rw [if_pos h0, hp]
    · have := ih (by omega)
      rw [this, if_neg hv]
theorem ff2_no {p : Nat → Nat → Bool} {C i : Nat} (h0 : ff2 p C i = -1) (hp : ff (p i) C = -1) : ff2 p C (i + 1) = -1 := by
  unfold ff2
  rw [if_pos h0, hp]
def p_stuck (B : Mm) (d c : Nat) : Bool := decide (B (20 + c) 2 = (d : Int) ∧ pN B c ≠ (d : Int))
def S_stuck (B : Mm)  : Int := if 0 < B 0 8 then ff2 (p_stuck B) (nC B) (nD B) else -2
theorem cq_stuck {B : Mm} (hB : WF B)  : QC B (FX10_stuck ) (S_stuck B ) := by
  rintro f ⟨hC, h0⟩
  obtain ⟨hD6, hDe⟩ := WF_D hB
  obtain ⟨hC6, hCe⟩ := WF_C hB
  unfold FX10_stuck FX10_stuck_0 S_stuck
  rw [stands_e, b2_some, hC.1.1]
  by_cases h : 0 < B 0 8
  · rw [if_pos h, if_pos h, if_neg (by decide)]
    refine Wp_bind (asNow_W hB hC h0) (fun g ⟨k, nw, o⟩ => ?_)
    have hC' := CT_s hB hC k
    have e1 : g 4 1 = (nD B : Int) := by rw [hC'.1.2.1, hDe]
    have e5 : g 4 5 = (nC B : Int) := by rw [hC'.1.2.2.2.2.2.1, hCe]
    refine forX (fun n x (s : Unit) => FX10_stuck_20 n x g) (fun i s => ff2 (p_stuck B) (nC B) i = -1) _ (nD B) ?_ ?_ fu 0 () rfl (by omega) (by have := fub; omega)
    · intro n s hI
      (try simp only at hI ⊢)
      rw [FX10_stuck_20, if_pos (by omega), hI]
      exact Wp_some ⟨rfl, k⟩
    · intro n d s hd hI
      (try simp only at hI ⊢)
      rw [FX10_stuck_20, if_neg (by omega)]
      refine forR (fun n' x (s : Unit) => FX10_stuck_33 (FX10_stuck_20 n) n' (d : Int) x g) (fun i s => ff (p_stuck B d) i = -1) (fun o => (∃ s' : Unit, o = FX10_stuck_20 n ((d + 1 : Nat) : Int) g ∧ ff2 (p_stuck B) (nC B) (d + 1) = -1) ∨ Wp o (fun p => p.1 = ff2 (p_stuck B) (nC B) (nD B) ∧ Kp Sc f p.2)) (nC B) ?_ ?_ fu 0 () rfl (by omega) (by have := fub; omega)
      · intro n' s hJ
        (try simp only at hJ ⊢)
        left
        rw [FX10_stuck_33, if_pos (by omega)]
        unfold FX10_stuck_79
        rw [nx d (by omega)]
        exact ⟨(), rfl, ff2_no hI hJ⟩
      · intro n' c s hc hJ
        (try simp only at hJ ⊢)
        have q2 := hC'.2.2.2.1 c hc 2 (by omega)
        rw [FX10_stuck_33, if_neg (by omega), if_pos (by omega), Int.toNat_natCast, q2, passedOn_e hB nw.2.1 hd (by omega), b2_some, holds_e, b2_some, (bts_s _ (by omega)).2 c (by omega)]
        unfold FX10_stuck_73
        rw [nx c (by omega), show pas B idn (wd B (dn B) (-1) (-1) 0 (B 0 3)) (nD B) = pN B from rfl]
        simp only [hc, decide_true, Bool.true_and, decide_eq_true_eq]
        by_cases c1 : B (20 + c) 2 = (d : Int)
        · rw [if_pos c1]
          by_cases c2 : pN B c = (d : Int)
          · left
            refine ⟨(), ?_, ff_no hJ ?_⟩
            · rw [if_pos c2, if_neg (by decide)]
            · unfold p_stuck; rw [decide_eq_false]; omega
          · right
            right
            rw [if_neg c2, if_pos rfl]
            refine Wp_some ⟨?_, k⟩
            have hh := ff_hit (p := p_stuck B d) hJ (by unfold p_stuck; rw [decide_eq_true]; exact ⟨c1, c2⟩) (nC B) hc
            exact (ff2_hit hI hh (by omega) _ hd).symm
        · left
          refine ⟨(), ?_, ff_no hJ ?_⟩
          · rw [if_neg c1]
          · unfold p_stuck; rw [decide_eq_false]; omega
  · rw [if_neg h, if_neg h, if_pos rfl]
    exact Wp_some ⟨rfl, Kp_r _ _⟩
theorem pc_bits {B : Mm} (hB : WF B) {p q : Nat → Bool} : bAnd (bts p (nC B)) (bXor (bts q (nC B)) (-1)) = bts (fun c => p c && !q c) (nC B) := by
  have h6 := (WF_C hB).1
  have s1 := bts_s (p := p) (nC B) (by omega)
  have s2 := bts_s (p := q) (nC B) (by omega)
  have s3 := sS_anx s1.1 s2.1
  refine bts_is (by omega) s3.1 (fun j hj => ?_)
  rw [s3.2 j hj, s1.2 j hj, s2.2 j hj]
  by_cases hjn : j < nC B <;> simp [hjn]
def S_lost (B : Mm)  : Int := if 0 < B 0 8 then bts (fun c => decide (pN B c = -1)) (nC B) else -2
theorem cq_lost {B : Mm} (hB : WF B)  : QC B (FX10_lost ) (S_lost B ) := by
  rintro f ⟨hC, h0⟩
  obtain ⟨hD6, hDe⟩ := WF_D hB
  obtain ⟨hC6, hCe⟩ := WF_C hB
  unfold FX10_lost FX10_lost_0 S_lost
  rw [stands_e, b2_some, hC.1.1]
  by_cases h : 0 < B 0 8
  · rw [if_pos h, if_pos h, if_neg (by decide)]
    rw [allCarts_e hB hC, b2_some]
    refine Wp_bind (asNow_W hB hC h0) (fun g ⟨k, nw, o⟩ => ?_)
    have hC' := CT_s hB hC k
    have e1 : g 4 1 = (nD B : Int) := by rw [hC'.1.2.1, hDe]
    have e5 : g 4 5 = (nC B : Int) := by rw [hC'.1.2.2.2.2.2.1, hCe]
    rw [passedBits_e hB hC' nw.2.1, b2_some]
    refine Wp_some ⟨?_, k⟩
    unfold allC
    simp only
    rw [pc_bits hB]
    refine bts_congr (by omega) (fun j hj => ?_)
    unfold hs1
    rw [show pas B idn (wd B (dn B) (-1) (-1) 0 (B 0 3)) (nD B) = pN B from rfl]
    by_cases q : pN B j = -1 <;> simp [q]
  · rw [if_neg h, if_neg h, if_pos rfl]
    exact Wp_some ⟨rfl, Kp_r _ _⟩
def S_kept (B : Mm)  : Int := if 0 < B 0 8 then bts (inT B (pN B)) (nC B) else -2
theorem cq_kept {B : Mm} (hB : WF B)  : QC B (FX10_kept ) (S_kept B ) := by
  rintro f ⟨hC, h0⟩
  obtain ⟨hD6, hDe⟩ := WF_D hB
  obtain ⟨hC6, hCe⟩ := WF_C hB
  unfold FX10_kept FX10_kept_0 S_kept
  rw [stands_e, b2_some, hC.1.1]
  by_cases h : 0 < B 0 8
  · rw [if_pos h, if_pos h, if_neg (by decide)]
    refine Wp_bind (asNow_W hB hC h0) (fun g ⟨k, nw, o⟩ => ?_)
    have hC' := CT_s hB hC k
    have e1 : g 4 1 = (nD B : Int) := by rw [hC'.1.2.1, hDe]
    have e5 : g 4 5 = (nC B : Int) := by rw [hC'.1.2.2.2.2.2.1, hCe]
    rw [keptBits_e hB hC' nw.2.1, b2_some]
    exact Wp_some ⟨rfl, k⟩
  · rw [if_neg h, if_neg h, if_pos rfl]
    exact Wp_some ⟨rfl, Kp_r _ _⟩
def S_pays (B : Mm)  : Int := if 0 < B 0 8 then sumf B 4 (bts (inT B (pN B)) (nC B)) else -2
theorem cq_pays {B : Mm} (hB : WF B)  : QC B (FX10_pays ) (S_pays B ) := by
  rintro f ⟨hC, h0⟩
  obtain ⟨hD6, hDe⟩ := WF_D hB
  obtain ⟨hC6, hCe⟩ := WF_C hB
  unfold FX10_pays FX10_pays_0 S_pays
  rw [stands_e, b2_some, hC.1.1]
  by_cases h : 0 < B 0 8
  · rw [if_pos h, if_pos h, if_neg (by decide)]
    refine Wp_bind (asNow_W hB hC h0) (fun g ⟨k, nw, o⟩ => ?_)
    have hC' := CT_s hB hC k
    have e1 : g 4 1 = (nD B : Int) := by rw [hC'.1.2.1, hDe]
    have e5 : g 4 5 = (nC B : Int) := by rw [hC'.1.2.2.2.2.2.1, hCe]
    rw [keptBits_e hB hC' nw.2.1, b2_some, payOf_e hB hC', b2_some]
    exact Wp_some ⟨rfl, k⟩
  · rw [if_neg h, if_neg h, if_pos rfl]
    exact Wp_some ⟨rfl, Kp_r _ _⟩
def S_costs (B : Mm)  : Int := if 0 < B 0 8 then csts B (dn B) else -2
theorem cq_costs {B : Mm} (hB : WF B) : QC B FX10_costs (S_costs B) := by
  rintro f ⟨hC, h0⟩
  unfold FX10_costs FX10_costs_0 S_costs
  rw [stands_e, b2_some, hC.1.1]
  by_cases h : 0 < B 0 8
  · rw [if_pos h, if_pos h, if_neg (by decide), costOfAll18_e hB hC, b2_some]
    exact Wp_some ⟨rfl, Kp_r _ _⟩
  · rw [if_neg h, if_neg h, if_pos rfl]
    exact Wp_some ⟨rfl, Kp_r _ _⟩
def st_lacks (B : Mm) (c i : Nat) (s : Int) : Int := if B (20 + c) 2 ≤ (i : Int) ∧ (i : Int) ≤ B (20 + c) 3 then jMax s (wN B i) else s
def S_lacks (B : Mm) (x : Int) : Int := if 0 ≤ x ∧ x < (nC B : Int) then jMax 0 (B (20 + x.toNat) 1 - fo (fun i => st_lacks B x.toNat (0 + i)) 0 (nD B - 0)) else -2
theorem cq_lacks {B : Mm} (hB : WF B) (x : Int) : QC B (FX10_lacks x) (S_lacks B x) := by
  rintro f ⟨hC, h0⟩
  obtain ⟨hD6, hDe⟩ := WF_D hB
  obtain ⟨hC6, hCe⟩ := WF_C hB
  unfold FX10_lacks FX10_lacks_0 S_lacks
  rw [hasCart_e, b2_some, hC.1.2.2.2.2.2.1, (WF_C hB).2]
  by_cases h : 0 ≤ x ∧ x < (nC B : Int)
  · rw [if_pos h, if_pos h, if_neg (by decide)]
    obtain ⟨d, rfl⟩ : ∃ d : Nat, x = (d : Int) := ⟨x.toNat, by omega⟩
    rw [Int.toNat_natCast]
    refine Wp_bind (asNow_W hB hC h0) (fun g ⟨k, nw, o⟩ => ?_)
    have hC' := CT_s hB hC k
    have e1 : g 4 1 = (nD B : Int) := by rw [hC'.1.2.1, hDe]
    have e5 : g 4 5 = (nC B : Int) := by rw [hC'.1.2.2.2.2.2.1, hCe]
    have hd : d < nC B := by omega
    have q1 := hC'.2.2.2.1 d hd 1 (by omega)
    have q2 := hC'.2.2.2.1 d hd 2 (by omega)
    have q3 := hC'.2.2.2.1 d hd 3 (by omega)
    have hcr := WF_c hB d hd
    have hsh : SH[12 + d]? = some (0, 5) := shd_11 d (by omega)
    rw [if_pos (by omega)]
    obtain ⟨m, e, hj⟩ := forF (fun n x (s : Int) => FX10_lacks_35 n (12 + d) s x g) (st_lacks B d) (fun i s => 0 ≤ s ∧ s ≤ 60) 0 (nD B) 0 (by decide) (by omega) (fun n i s hb' hi hJ => by
      have hw := wN_r hB i
      refine ⟨?_, by unfold st_lacks jMax; split <;> (try split) <;> omega⟩
      rw [FX10_lacks_35, if_neg (by omega), if_pos hsh, q2, q3, widthOn_e nw.1 (d := i) hi (by omega), b2_some]
      unfold FX10_lacks_76 st_lacks
      rw [nx i (by omega), show wd B (dn B) (-1) (-1) 0 (B 0 3) = wN B from rfl]
      by_cases c1 : (i : Int) < B (20 + d) 2
      · rw [if_pos c1, if_neg (by omega)]
      · rw [if_neg c1]
        by_cases c2 : B (20 + d) 3 < (i : Int)
        · rw [if_pos c2, if_neg (by omega)]
        · rw [if_neg c2, if_pos (by omega)]) fu (by have := fub; omega)
    refine Wp_eq e ?_
    rw [FX10_lacks_35, if_pos (by omega)]
    unfold FX10_lacks_82
    rw [if_pos hsh, q1, w32s (by omega) (by omega)]
    exact Wp_some ⟨rfl, k⟩
  · rw [if_neg h, if_neg h, if_pos rfl]
    exact Wp_some ⟨rfl, Kp_r _ _⟩
def n_crowd (B : Mm) (d : Nat) : Int := sm (fun c => if pN B c = (d : Int) then 1 else 0) (nC B)
def st_crowd (B : Mm) (i : Nat) (s : Int × Int) : Int × Int := if s.2 < n_crowd B i then ((i : Int), n_crowd B i) else s
def S_crowd (B : Mm)  : Int := if 0 < B 0 8 then (fo (fun i => st_crowd B (0 + i)) (-1, 0) (nD B - 0)).1 else -2
theorem cq_crowd {B : Mm} (hB : WF B)  : QC B (FX10_crowd ) (S_crowd B ) := by
  rintro f ⟨hC, h0⟩
  obtain ⟨hD6, hDe⟩ := WF_D hB
  obtain ⟨hC6, hCe⟩ := WF_C hB
  unfold FX10_crowd FX10_crowd_0 S_crowd
  rw [stands_e, b2_some, hC.1.1]
  by_cases h : 0 < B 0 8
  · rw [if_pos h, if_pos h, if_neg (by decide)]
    refine Wp_bind (asNow_W hB hC h0) (fun g ⟨k, nw, o⟩ => ?_)
    have hC' := CT_s hB hC k
    have e1 : g 4 1 = (nD B : Int) := by rw [hC'.1.2.1, hDe]
    have e5 : g 4 5 = (nC B : Int) := by rw [hC'.1.2.2.2.2.2.1, hCe]
    obtain ⟨m, e, hj⟩ := forF (fun n x (s : Int × Int) => FX10_crowd_25 n s.1 s.2 x g) (st_crowd B) (fun i s => True) 0 (nD B) (-1, 0) trivial (by omega) (fun n i s hb' hi hJ => by
      refine ⟨?_, trivial⟩
      (try simp only)
      rw [FX10_crowd_25, if_neg (by omega), passedOn_e hB nw.2.1 hi (by omega), b2_some, bitCount_e (by omega), b2_some]
      unfold FX10_crowd_60 st_crowd n_crowd
      rw [nx i (by omega), show pas B idn (wd B (dn B) (-1) (-1) 0 (B 0 3)) (nD B) = pN B from rfl]
      simp only [decide_eq_true_eq]
      by_cases c1 : s.2 < sm (fun c => if pN B c = (i : Int) then 1 else 0) (nC B)
      · rw [if_neg (by omega), if_pos c1]
      · rw [if_pos (by omega), if_neg c1]) fu (by have := fub; omega)
    refine Wp_eq e ?_
    (try simp only)
    rw [FX10_crowd_25, if_pos (by omega)]
    exact Wp_some ⟨rfl, k⟩
  · rw [if_neg h, if_neg h, if_pos rfl]
    exact Wp_some ⟨rfl, Kp_r _ _⟩
def S_late (B : Mm)  : Int := if 0 < B 0 8 then bts (fun c => decide (pN B c ≠ -1) && !inT B (pN B) c) (nC B) else -2
theorem cq_late {B : Mm} (hB : WF B)  : QC B (FX10_late ) (S_late B ) := by
  rintro f ⟨hC, h0⟩
  obtain ⟨hD6, hDe⟩ := WF_D hB
  obtain ⟨hC6, hCe⟩ := WF_C hB
  unfold FX10_late FX10_late_0 S_late
  rw [stands_e, b2_some, hC.1.1]
  by_cases h : 0 < B 0 8
  · rw [if_pos h, if_pos h, if_neg (by decide)]
    refine Wp_bind (asNow_W hB hC h0) (fun g ⟨k, nw, o⟩ => ?_)
    have hC' := CT_s hB hC k
    have e1 : g 4 1 = (nD B : Int) := by rw [hC'.1.2.1, hDe]
    have e5 : g 4 5 = (nC B : Int) := by rw [hC'.1.2.2.2.2.2.1, hCe]
    rw [passedBits_e hB hC' nw.2.1, b2_some, keptBits_e hB hC' nw.2.1, b2_some, pc_bits hB]
    exact Wp_some ⟨rfl, k⟩
  · rw [if_neg h, if_neg h, if_pos rfl]
    exact Wp_some ⟨rfl, Kp_r _ _⟩
def S_delay (B : Mm)  : Int := if 0 < B 0 8 then sm (fun c => if pN B c = -1 then 0 else pN B c - B (20 + c) 2) (nC B) else -2
theorem pN_r {B : Mm} (hB : WF B) (c : Nat) : -1 ≤ pN B c ∧ pN B c ≤ 5 := by
  have := (WF_D hB).1
  rcases pas_r (B := B) (od := idn) (w := wN B) (b := c) (nD B) with h | h <;> unfold pN <;> omega
theorem sm_rr {g : Nat → Int} {N M : Int} : ∀ n, (∀ i, i < n → N ≤ g i ∧ g i ≤ M) → n * N ≤ sm g n ∧ sm g n ≤ n * M
  | 0, _ => by unfold sm; omega
  | n + 1, h => by
    have h1 := sm_rr n (fun i hi => h i (by omega))
    have h2 := h n (by omega)
    unfold sm
    rw [show ((n + 1 : Nat) : Int) * M = n * M + M by rw [Int.natCast_add, Int.add_mul]; omega, show ((n + 1 : Nat) : Int) * N = n * N + N by rw [Int.natCast_add, Int.add_mul]; omega]
    omega
theorem dl_r {B : Mm} (hB : WF B) : ∀ i, i ≤ nC B → -100 ≤ sm (fun c => if pN B c = -1 then 0 else pN B c - B (20 + c) 2) i ∧ sm (fun c => if pN B c = -1 then 0 else pN B c - B (20 + c) 2) i ≤ 100 := by
  intro i hi
  have h6 := (WF_C hB).1
  have := sm_rr (g := fun c => if pN B c = -1 then 0 else pN B c - B (20 + c) 2) (N := -10) (M := 10) i (fun c hc => by
    have := WF_c hB c (by omega)
    have := pN_r hB c
    split <;> omega)
  omega
theorem cq_delay {B : Mm} (hB : WF B)  : QC B (FX10_delay ) (S_delay B ) := by
  rintro f ⟨hC, h0⟩
  obtain ⟨hD6, hDe⟩ := WF_D hB
  obtain ⟨hC6, hCe⟩ := WF_C hB
  unfold FX10_delay FX10_delay_0 S_delay
  rw [stands_e, b2_some, hC.1.1]
  by_cases h : 0 < B 0 8
  · rw [if_pos h, if_pos h, if_neg (by decide)]
    refine Wp_bind (asNow_W hB hC h0) (fun g ⟨k, nw, o⟩ => ?_)
    have hC' := CT_s hB hC k
    have e1 : g 4 1 = (nD B : Int) := by rw [hC'.1.2.1, hDe]
    have e5 : g 4 5 = (nC B : Int) := by rw [hC'.1.2.2.2.2.2.1, hCe]
    refine forX (fun n x (s : Int) => FX10_delay_22 n s x g) (fun i s => s = sm (fun c => if pN B c = -1 then 0 else pN B c - B (20 + c) 2) i) _ (nC B) ?_ ?_ fu 0 0 rfl (by omega) (by have := fub; omega)
    · intro n s hI
      rw [FX10_delay_22, if_pos (by omega), hI]
      exact Wp_some ⟨rfl, k⟩
    · intro n i s hi hI
      left
      have q2 := hC'.2.2.2.1 i hi 2 (by omega)
      have r1 := dl_r hB i (by omega)
      have r2 := pN_r hB i
      have r3 := WF_c hB i hi
      rw [FX10_delay_22, if_neg (by omega), dayOf_e hB hC' nw.2.1 hi, b2_some]
      unfold FX10_delay_67
      rw [nx i (by omega), show pas B idn (wd B (dn B) (-1) (-1) 0 (B 0 3)) (nD B) = pN B from rfl]
      by_cases c1 : pN B i = -1
      · rw [if_pos c1]
        refine ⟨s, rfl, ?_⟩
        unfold sm
        rw [if_pos c1, hI, Int.add_zero]
      · rw [if_neg c1, if_pos (by omega), Int.toNat_natCast, q2, w32s (x := pN B i - B (20 + i) 2) (by omega) (by omega), w32s (by omega) (by omega)]
        refine ⟨_, rfl, ?_⟩
        unfold sm
        rw [if_neg c1, hI]
  · rw [if_neg h, if_neg h, if_pos rfl]
    exact Wp_some ⟨rfl, Kp_r _ _⟩
def S_toll (B : Mm) (x : Int) : Int := if 0 ≤ x ∧ x < (nD B : Int) then sm (fun c => if pN B c = (x.toNat : Int) then B (20 + c) 4 else 0) (nC B) else -2
theorem cq_toll {B : Mm} (hB : WF B) (x : Int) : QC B (FX10_toll x) (S_toll B x) := by
  rintro f ⟨hC, h0⟩
  obtain ⟨hD6, hDe⟩ := WF_D hB
  obtain ⟨hC6, hCe⟩ := WF_C hB
  unfold FX10_toll FX10_toll_0 S_toll
  rw [hasDay_e, b2_some, hC.1.2.1, (WF_D hB).2]
  by_cases h : 0 ≤ x ∧ x < (nD B : Int)
  · rw [if_pos h, if_pos h, if_neg (by decide)]
    obtain ⟨d, rfl⟩ : ∃ d : Nat, x = (d : Int) := ⟨x.toNat, by omega⟩
    rw [Int.toNat_natCast]
    refine Wp_bind (asNow_W hB hC h0) (fun g ⟨k, nw, o⟩ => ?_)
    have hC' := CT_s hB hC k
    have e1 : g 4 1 = (nD B : Int) := by rw [hC'.1.2.1, hDe]
    have e5 : g 4 5 = (nC B : Int) := by rw [hC'.1.2.2.2.2.2.1, hCe]
    rw [passedOn_e hB nw.2.1 (by omega) (by omega), b2_some, payOf_e hB hC', b2_some, sumf_bts hB]
    refine Wp_some ⟨?_, k⟩
    simp only [decide_eq_true_eq]
    rfl
  · rw [if_neg h, if_neg h, if_pos rfl]
    exact Wp_some ⟨rfl, Kp_r _ _⟩
def S_gap (B : Mm) (x : Int) : Int := if 0 ≤ x ∧ x < (nD B : Int) then jAbs (fN B 0 x.toNat - fN B 1 x.toNat) else -2
theorem cq_gap {B : Mm} (hB : WF B) (x : Int) : QC B (FX10_gap x) (S_gap B x) := by
  rintro f ⟨hC, h0⟩
  obtain ⟨hD6, hDe⟩ := WF_D hB
  obtain ⟨hC6, hCe⟩ := WF_C hB
  unfold FX10_gap FX10_gap_0 S_gap
  rw [hasDay_e, b2_some, hC.1.2.1, (WF_D hB).2]
  by_cases h : 0 ≤ x ∧ x < (nD B : Int)
  · rw [if_pos h, if_pos h, if_neg (by decide)]
    obtain ⟨d, rfl⟩ : ∃ d : Nat, x = (d : Int) := ⟨x.toNat, by omega⟩
    rw [Int.toNat_natCast]
    refine Wp_bind (asNow_W hB hC h0) (fun g ⟨k, nw, o⟩ => ?_)
    have hC' := CT_s hB hC k
    have e1 : g 4 1 = (nD B : Int) := by rw [hC'.1.2.1, hDe]
    have e5 : g 4 5 = (nC B : Int) := by rw [hC'.1.2.2.2.2.2.1, hCe]
    have r0 := fl_r hB (ch := dn B) (t2 := -1) (tw := -1) (tm := 0) hB.2.2.2.1.1 (s := 0) (d := d) (by decide)
    have r1 := fl_r hB (ch := dn B) (t2 := -1) (tw := -1) (tm := 0) hB.2.2.2.1.1 (s := 1) (d := d) (by decide)
    rw [if_pos (by omega), if_pos (by omega), (nw.1 d (by omega)).1, (nw.1 d (by omega)).2, w32s (by omega) (by omega)]
    exact Wp_some ⟨rfl, k⟩
  · rw [if_neg h, if_neg h, if_pos rfl]
    exact Wp_some ⟨rfl, Kp_r _ _⟩
def chU (ch : Nat → Int) (d : Nat) (k : Int) (e : Nat) : Int := if e = d then k else ch e
theorem chU_W {B : Mm} {ch : Nat → Int} (h : WD B ch) {d : Nat} {k : Int} (hk : -1 ≤ k ∧ k < B 0 5) : WD B (chU ch d k) := fun e he => by unfold chU; split; exact hk; exact h e he
def w_kind (B : Mm) (d : Nat) (k : Nat) : Int := wd B (chU (dn B) d (k : Int)) (-1) (-1) 0 (B 0 3) d
def st_kind (B : Mm) (d i : Nat) (s : Int × Int) : Int × Int := if s.2 < w_kind B d i then ((i : Int), w_kind B d i) else s
def S_kind (B : Mm) (x : Int) : Int := if 0 ≤ x ∧ x < (nD B : Int) then (fo (fun i => st_kind B x.toNat i) (-1, wN B x.toNat) (nK B)).1 else -2
theorem cq_kind {B : Mm} (hB : WF B) (x : Int) : QC B (FX10_kind x) (S_kind B x) := by
  rintro f ⟨hC, h0⟩
  obtain ⟨hD6, hDe⟩ := WF_D hB
  obtain ⟨hC6, hCe⟩ := WF_C hB
  unfold FX10_kind FX10_kind_0 S_kind
  rw [hasDay_e, b2_some, hC.1.2.1, (WF_D hB).2]
  by_cases h : 0 ≤ x ∧ x < (nD B : Int)
  · rw [if_pos h, if_pos h, if_neg (by decide)]
    obtain ⟨d, rfl⟩ : ∃ d : Nat, x = (d : Int) := ⟨x.toNat, by omega⟩
    rw [Int.toNat_natCast]
    refine Wp_bind (asNow_W hB hC h0) (fun g ⟨k, nw, o⟩ => ?_)
    have hC' := CT_s hB hC k
    have e1 : g 4 1 = (nD B : Int) := by rw [hC'.1.2.1, hDe]
    have e5 : g 4 5 = (nC B : Int) := by rw [hC'.1.2.2.2.2.2.1, hCe]
    obtain ⟨hK4, hKe⟩ := WF_K hB
    rw [widthOn_e nw.1 (by omega) (by omega), b2_some]
    refine forX (fun n x (s : Int × Int × Mm) => FX10_kind_28 n (d : Int) s.1 s.2.1 x s.2.2) (fun i s => (s.1, s.2.1) = fo (fun i => st_kind B d i) (-1, wN B d) i ∧ Kp Sc f s.2.2 ∧ ∃ c, CX B (chU (dn B) d c) (-1) (-1) 0 (B 0 3) s.2.2) _ (nK B) ?_ ?_ fu 0 (-1, wN B d, g) ⟨rfl, k, dn B d, ?_⟩ (by omega) (by have := fub; omega)
    · rintro n ⟨a, b, g'⟩ ⟨h1, h2, h3⟩
      simp only at h1 h2 h3 ⊢
      have hC2 := CT_s hB hC h2
      rw [FX10_kind_28, if_pos (by rw [hC2.1.2.2.2.2.1]; omega), ← h1]
      exact Wp_some ⟨rfl, h2⟩
    · rintro n i ⟨a, b, g'⟩ hi ⟨h1, h2, c0, h3⟩
      simp only at h1 h2 h3 ⊢
      left
      have hC2 := CT_s hB hC h2
      have k3 : Kp Sc g' (up g' 49 d (i : Int)) := Kp_u (Kp_r _ _) (by unfold Sc; omega)
      have hX3 : CX B (chU (dn B) d (i : Int)) (-1) (-1) 0 (B 0 3) (up g' 49 d (i : Int)) := by
        obtain ⟨x1, x2, x3, x4, x5, x6, x7⟩ := h3
        refine ⟨fun e he => ?_, by rw [up_n (by omega)]; exact x2, by rw [up_n (by omega)]; exact x3, by rw [up_n (by omega)]; exact x4, by rw [up_n (by omega)]; exact x5, chU_W (dn_W hB) (by omega), x7⟩
        unfold chU
        by_cases hed : e = d
        · rw [if_pos hed, hed, up_s]
        · rw [if_neg hed, up_n (by omega), x1 e he]
          unfold chU
          rw [if_neg hed]
      obtain ⟨g2, q1, q2, q3⟩ := feelThrough_W hB (CT_s hB hC2 k3) hX3 (l := d) (by omega)
      have q2' : Kp S5 (up g' 49 d (i : Int)) g2 := Kp_m q2 (fun a j h => by unfold S5; omega)
      have e4 : (fo (fun i => st_kind B d i) (-1, wN B d) (i + 1)) = st_kind B d i (a, b) := by rw [h1]; rfl
      rw [FX10_kind_28, if_neg (by rw [hC2.1.2.2.2.2.1]; omega), if_pos (by omega), Int.toNat_natCast, q1]
      simp only [Option.bind_some]
      rw [widthOn_e q3 (by omega) (by omega), b2_some, widthOn_e q3 (by omega) (by omega), b2_some]
      unfold FX10_kind_87
      rw [nx i (by omega), e4, show wd B (chU (dn B) d (i : Int)) (-1) (-1) 0 (B 0 3) d = w_kind B d i from rfl]
      unfold st_kind
      have kk : Kp Sc f g2 := Kp_t h2 (Kp_t k3 (Kp_m q2' (fun _ _ => S5_Sc)))
      simp only
      by_cases c1 : b < w_kind B d i
      · rw [if_neg (by omega), if_pos c1]
        exact ⟨((i : Int), w_kind B d i, g2), rfl, rfl, kk, _, CX_k hX3 q2'⟩
      · rw [if_pos (by omega), if_neg c1]
        exact ⟨(a, b, g2), rfl, rfl, kk, _, CX_k hX3 q2'⟩
    · have : chU (dn B) d (dn B d) = dn B := by
        funext e
        unfold chU
        split
        · next he => rw [he]
        · rfl
      rw [this]
      exact nw.2.2
  · rw [if_neg h, if_neg h, if_pos rfl]
    exact Wp_some ⟨rfl, Kp_r _ _⟩
def S_feels (B : Mm) (x y : Int) : Int := if 0 ≤ x ∧ x ≤ 1 ∧ 0 ≤ y ∧ y < (nD B : Int) then fN B x.toNat y.toNat else -1000
theorem isSide_e (x : Int) (f : Mm) : FX10_isSide x f = some (if 0 ≤ x ∧ x ≤ 1 then 1 else 0, f) := by
  unfold FX10_isSide FX10_isSide_0 FX10_isSide_9
  by_cases h0 : x = 0
  · rw [if_pos h0, if_pos (by omega)]
  · rw [if_neg h0]
    by_cases h1 : x = 1
    · rw [if_pos h1, if_pos (by omega)]
    · rw [if_neg h1, if_neg (by omega)]
theorem cq_feels {B : Mm} (hB : WF B) (x y : Int) : QC B (FX10_feels x y) (S_feels B x y) := by
  rintro f ⟨hC, h0⟩
  obtain ⟨hD6, hDe⟩ := WF_D hB
  unfold FX10_feels FX10_feels_0 S_feels
  rw [isSide_e, b2_some, hasDay_e, b2_some, hC.1.2.1, hDe]
  by_cases h : 0 ≤ x ∧ x ≤ 1
  · rw [if_pos h, if_neg (by decide)]
    by_cases h2 : 0 ≤ y ∧ y < (nD B : Int)
    · obtain ⟨s, rfl⟩ : ∃ d : Nat, x = (d : Int) := ⟨x.toNat, by omega⟩
      obtain ⟨d, rfl⟩ : ∃ d : Nat, y = (d : Int) := ⟨y.toNat, by omega⟩
      rw [if_pos h2, if_neg (by decide), if_pos (by omega), Int.toNat_natCast, Int.toNat_natCast]
      refine Wp_bind (asNow_W hB hC h0) (fun g ⟨k, nw, o⟩ => ?_)
      rw [if_pos (by omega), if_pos (by omega)]
      refine Wp_some ⟨?_, k⟩
      rcases (show s = 0 ∨ s = 1 by omega) with rfl | rfl
      · exact (nw.1 d (by omega)).1
      · exact (nw.1 d (by omega)).2
    · rw [if_neg h2, if_pos rfl, if_neg (by omega)]
      exact Wp_some ⟨rfl, Kp_r _ _⟩
  · rw [if_neg h, if_pos rfl, if_neg (by omega)]
    exact Wp_some ⟨rfl, Kp_r _ _⟩
def S_deed (B : Mm) (x y : Int) : Int := if 0 ≤ x ∧ x < (nK B : Int) ∧ 0 ≤ y ∧ y < 4 then B (10 + x.toNat) y.toNat else -1000
def S_cart (B : Mm) (x y : Int) : Int := if 0 ≤ x ∧ x < (nC B : Int) ∧ 0 ≤ y ∧ y < 5 then B (20 + x.toNat) y.toNat else -2
theorem cq_deed {B : Mm} (hB : WF B) (x y : Int) : QC B (FX10_deed x y) (S_deed B x y) := by
  rintro f ⟨hC, h0⟩
  obtain ⟨hK4, hKe⟩ := WF_K hB
  unfold FX10_deed FX10_deed_0 S_deed
  rw [hasDeed_e, b2_some, hC.1.2.2.2.2.1, hKe]
  by_cases h : 0 ≤ x ∧ x < (nK B : Int)
  · rw [if_pos h, if_neg (by decide)]
    by_cases h2 : y < 0
    · rw [if_pos h2, if_neg (by omega)]
      exact Wp_some ⟨rfl, Kp_r _ _⟩
    · rw [if_neg h2]
      by_cases h3 : y < 4
      · rw [if_pos h3, if_pos (show 0 ≤ x ∧ x < 4 by omega), if_pos (show 0 ≤ y ∧ y < 4 by omega), if_pos (by omega)]
        exact Wp_some ⟨hC.2.2.1 x.toNat (by omega) y.toNat (by omega), Kp_r _ _⟩
      · rw [if_neg h3, if_neg (by omega)]
        exact Wp_some ⟨rfl, Kp_r _ _⟩
  · rw [if_neg h, if_pos rfl, if_neg (by omega)]
    exact Wp_some ⟨rfl, Kp_r _ _⟩
theorem cq_cart {B : Mm} (hB : WF B) (x y : Int) : QC B (FX10_cart x y) (S_cart B x y) := by
  rintro f ⟨hC, h0⟩
  obtain ⟨hK4, hKe⟩ := WF_C hB
  unfold FX10_cart FX10_cart_0 S_cart
  rw [hasCart_e, b2_some, hC.1.2.2.2.2.2.1, hKe]
  by_cases h : 0 ≤ x ∧ x < (nC B : Int)
  · rw [if_pos h, if_neg (by decide)]
    by_cases h2 : y < 0
    · rw [if_pos h2, if_neg (by omega)]
      exact Wp_some ⟨rfl, Kp_r _ _⟩
    · rw [if_neg h2]
      by_cases h3 : y < 5
      · rw [if_pos h3, if_pos (show 0 ≤ x ∧ x < 6 by omega), if_pos (show 0 ≤ y ∧ y < 5 by omega), if_pos (by omega)]
        exact Wp_some ⟨hC.2.2.2.1 x.toNat (by omega) y.toNat (by omega), Kp_r _ _⟩
      · rw [if_neg h3, if_neg (by omega)]
        exact Wp_some ⟨rfl, Kp_r _ _⟩
  · rw [if_neg h, if_pos rfl, if_neg (by omega)]
    exact Wp_some ⟨rfl, Kp_r _ _⟩

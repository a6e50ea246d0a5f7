/-! all orders: the class -/
theorem OR_oL {n : Nat} {l : List Nat} (hl : okL n l = true) (hn : n ≤ 6) {g : Mm} (h : OR l g) : ∀ i, i < n → g 50 i = (oL l i : Int) := fun i hi => by
  have hl' : l.length = n := by
    unfold okL at hl
    rw [Bool.and_eq_true] at hl
    exact of_decide_eq_true hl.1
  rw [h i (by omega)]
  unfold hm oL
  rw [if_pos rfl, if_pos (by omega)]
theorem okL_lt {n : Nat} {l : List Nat} (hl : okL n l = true) : ∀ i, i < n → oL l i < n := fun i hi => by
  unfold okL at hl
  rw [Bool.and_eq_true] at hl
  have h1 := of_decide_eq_true hl.1
  have h2 := List.all_eq_true.mp hl.2
  have h3 : l[i]'(by omega) ∈ l := List.getElem_mem _
  have h4 := of_decide_eq_true (h2 _ h3)
  unfold oL
  rw [List.getD_eq_getElem?_getD, List.getElem?_eq_getElem (by omega), Option.getD_some]
  exact h4
theorem tryAll_l {B f : Mm} (hB : WF B) (hC : CT B f) (hD0 : 0 < nD B) (hn0 : 0 < nC B) (h0 : f 55 0 = 0 ∧ f 56 0 = 0) {N : Nat} (hN : N < 1000) : ∀ (rest : List (List Nat)) (t n : Nat) (g : Mm) (s : Int × Int × List Nat), t + rest.length = N → rest.length < n → rest.all (okL (nC B)) = true → chk (nC B) rest = true → Kp Sc f g → FK B (dn B) (-1) (-1) 0 (B 0 3) (nD B) g → (∀ l, rest.head? = some l → OR l g) → RC (nC B) s g →
    Wp (FX2_tryAll_67_4_48_51 n (N : Int) (t : Int) g) (fun g' => Kp Sc f g' ∧ RC (nC B) (rest.foldl (stO B) s) g') := by
  obtain ⟨hC6, hCe⟩ := WF_C hB
  intro rest
  induction rest with
  | nil =>
    intro t n g s ht hn _ _ hk _ _ hs
    obtain ⟨m, rfl⟩ : ∃ m, n = m + 1 := ⟨n - 1, by have : ([] : List (List Nat)).length = 0 := rfl; omega⟩
    rw [FX2_tryAll_67_4_48_51, if_pos (by have : ([] : List (List Nat)).length = 0 := rfl; omega)]
    exact Wp_some ⟨hk, hs⟩
  | cons l rest ih =>
    intro t n g s ht hn hok hch hk hF hO hs
    have hlen : (l :: rest).length = rest.length + 1 := rfl
    obtain ⟨m, rfl⟩ : ∃ m, n = m + 1 := ⟨n - 1, by omega⟩
    rw [List.all_cons, Bool.and_eq_true] at hok
    have hO1 := hO l rfl
    have hC1 := CT_s hB hC hk
    rw [FX2_tryAll_67_4_48_51, if_neg (by omega)]
    have hOD : OD B (oL l) := fun i hi => okL_lt hok.1 i hi
    refine Wp_bind (passAll_W hB hC1 hB.2.2.2.1.1 hF hOD (OR_oL hok.1 hC6 hO1) ⟨by rw [hk 55 0 (fun q => by unfold Sc at q; omega)]; exact h0.1, by rw [hk 56 0 (fun q => by unfold Sc at q; omega)]; exact h0.2⟩) (fun g1 ⟨k1, p1⟩ => ?_)
    have p1' : PK B (oL l) (wN B) (nD B) g1 := p1
    have hk1 : Kp Sc f g1 := Kp_t hk (Kp_m k1 (fun a j h => by unfold Sc; omega))
    have hC2 := CT_s hB hC hk1
    have ep : pas B (oL l) (wN B) (nD B) = pO B l := rfl
    rw [keptBits_e hB hC2 p1', b2_some, payOf_e hB hC2, b2_some, ep]
    have e67 : g1 67 1 = s.2.1 := by rw [k1 67 1 (by omega)]; exact hs.2.1
    rw [e67]
    have hk2 : Kp Sc f (up g1 67 1 (jMax s.2.1 (sumf B 4 (bts (inT B (pO B l)) (nC B))))) := Kp_u hk1 (by unfold Sc; omega)
    have hC3 := CT_s hB hC hk2
    have p2 : PK B (oL l) (wN B) (nD B) (up g1 67 1 (jMax s.2.1 (sumf B 4 (bts (inT B (pO B l)) (nC B))))) := PK_k p1' (fun a j h1 h2 => up_n (by omega))
    have v1 : up g1 67 1 (jMax s.2.1 (sumf B 4 (bts (inT B (pO B l)) (nC B)))) 67 1 = jMax s.2.1 (sumf B 4 (bts (inT B (pO B l)) (nC B))) := by rw [up_s]
    have v0 : up g1 67 1 (jMax s.2.1 (sumf B 4 (bts (inT B (pO B l)) (nC B)))) 67 0 = (if s.1 < 10000000 then s.1 else -1) := by rw [up_n (by omega), k1 67 0 (by omega)]; exact hs.1
    have kk : ∀ a j, ¬ (54 ≤ a ∧ a ≤ 56) → ¬ (a = 67) → up g1 67 1 (jMax s.2.1 (sumf B 4 (bts (inT B (pO B l)) (nC B)))) a j = g a j := fun a j q1 q2 => by rw [up_n (by omega), k1 a j (by omega)]
    generalize up g1 67 1 (jMax s.2.1 (sumf B 4 (bts (inT B (pO B l)) (nC B)))) = g2 at *
    rw [allCarts_e hB hC3, b2_some, dayOfAll_e hB hC3 hD0 p2, b2_some]
    refine Wp_bind (keepIf_W hB hD0 (s := s) (l := l) (fun j hj => by rw [kk 50 j (by omega) (by omega)]; exact hO1 j hj) v0 v1 hs.2.2.1 (fun q j hj => by rw [kk 68 j (by omega) (by omega)]; exact hs.2.2.2 q j hj)) (fun g3 ⟨k3, s3⟩ => ?_)
    have hk3 : Kp Sc f g3 := Kp_t hk2 (Kp_m k3 (fun a j h => by unfold Sc; omega))
    have hC4 := CT_s hB hC hk3
    have e5 : g3 4 5 = (nC B : Int) := by rw [hC4.1.2.2.2.2.2.1, hCe]
    have hO3 : OR l g3 := fun j hj => by rw [k3 50 j (by omega), kk 50 j (by omega) (by omega)]; exact hO1 j hj
    have hF3 : FK B (dn B) (-1) (-1) 0 (B 0 3) (nD B) g3 := FK_k hF (fun a j h1 h2 => by rw [k3 a j (by omega), kk a j (by omega) (by omega)])
    rw [e5]
    have hR := turn_RO (g := g3) (h := hm l) hO3 (nC B : Int)
    have fin : ∀ r', FX2_turnOrder_50 (nC B : Int) (hm l) = some r' → (∀ l', rest.head? = some l' → EQ6 r' (hm l')) → chk (nC B) rest = true → Wp ((FX2_turnOrder_50 (nC B : Int) g3).bind fun f7 => FX2_tryAll_67_4_48_51 m (N : Int) (w32 ((t : Int) + 1)) f7) (fun g' => Kp Sc f g' ∧ RC (nC B) ((l :: rest).foldl (stO B) s) g') := by
      intro r' hr' hh hch'
      obtain ⟨r, e1, e2, e3⟩ := hR r' hr'
      rw [e1]
      simp only [Option.bind_some]
      rw [nx t (by omega)]
      refine ih (t + 1) m r (stO B s l) (by omega) (by omega) hok.2 hch' (fun a j q => ?_) (FK_k hF3 (fun a j h1 h2 => e3 a j (by omega))) (fun l' hl' j hj => ?_) ?_
      · by_cases ha : a = 50
        · exact absurd (by unfold Sc; omega) q
        · rw [e3 a j ha, hk3 a j q]
      · rw [e2 j hj]; exact hh l' hl' j hj
      · obtain ⟨r1, r2, r3, r4⟩ := s3
        exact ⟨by rw [e3 67 0 (by omega)]; exact r1, by rw [e3 67 1 (by omega)]; exact r2, r3, fun q j hj => by rw [e3 68 j (by omega)]; exact r4 q j hj⟩
    cases rest with
    | nil =>
      have hi : (FX2_turnOrder_50 (nC B : Int) (hm l)).isSome = true := hch
      obtain ⟨r', hr'⟩ := Option.isSome_iff_exists.mp hi
      exact fin r' hr' (fun l' h => by cases h) rfl
    | cons l' rest' =>
      have hch2 : (nxOk (nC B) l l' && chk (nC B) (l' :: rest')) = true := hch
      rw [Bool.and_eq_true] at hch2
      have h1 := hch2.1
      unfold nxOk at h1
      cases hr' : FX2_turnOrder_50 (nC B : Int) (hm l) with
      | none => rw [hr'] at h1; cases h1
      | some r' =>
        rw [hr'] at h1
        try simp only at h1
        have h2 := List.all_eq_true.mp h1
        exact fin r' hr' (fun l'' h j hj => by
          cases h
          exact of_decide_eq_true (h2 j (List.mem_range.mpr hj))) hch2.2
theorem fac_l {B g : Mm} (hB : WF B) (hC : CT B g) (hn0 : 0 < nC B) : FX2_tryAll_67_4_48_28 fu 1 2 g = FX2_tryAll_67_4_48_48 ((fac (nC B) : Nat) : Int) g := by
  obtain ⟨hC6, hCe⟩ := WF_C hB
  have e5 : g 4 5 = (nC B : Int) := by rw [hC.1.2.2.2.2.2.1, hCe]
  have hf : ∀ n : Fin 7, fac n.val ≤ 720 := by decide
  have key := forR (fun n x (s : Int) => FX2_tryAll_67_4_48_28 n s x g) (fun i s => 2 ≤ i ∧ s = ((fac (i - 1) : Nat) : Int)) (fun o => o = FX2_tryAll_67_4_48_48 ((fac (nC B) : Nat) : Int) g) (nC B + 1) ?_ ?_ fu 2 1 ⟨Nat.le_refl _, rfl⟩ (by omega) (by have := fub; omega)
  · exact key
  · rintro n s ⟨_, rfl⟩
    show FX2_tryAll_67_4_48_28 (n + 1) _ _ g = _
    rw [FX2_tryAll_67_4_48_28, if_pos (by omega), Nat.add_sub_cancel]
  · rintro n i s hi ⟨h2, rfl⟩
    left
    have h3 := hf ⟨i, by omega⟩
    have h4 := hf ⟨i - 1, by omega⟩
    try simp only at h3 h4
    have ef : fac i = fac (i - 1) * i := by
      obtain ⟨k, rfl⟩ : ∃ k, i = k + 1 := ⟨i - 1, by omega⟩
      rfl
    refine ⟨_, ?_, by omega, rfl⟩
    show FX2_tryAll_67_4_48_28 (n + 1) _ _ g = _
    rw [FX2_tryAll_67_4_48_28, if_neg (by omega), nx i (by omega), Nat.add_sub_cancel, w32n (n := fac i) (by rw [ef]; simp) (by omega)]
theorem ordered_W {B f : Mm} (hB : WF B) (hC : CT B f) (h0 : f 55 0 = 0 ∧ f 56 0 = 0) (hD0 : 0 < nD B) : Wp (FX10_ordered f) (fun g => Kp Sc f g ∧ RC (nC B) (qS B) g) := by
  obtain ⟨hC6, hCe⟩ := WF_C hB
  unfold FX10_ordered FX10_ordered_0
  have hnow : Wp (FX10_asNow f) (fun g => Kp Sc f g ∧ FK B (dn B) (-1) (-1) 0 (B 0 3) (nD B) g ∧ ∀ i, i < 6 → g 50 i = (i : Int)) := by
    unfold FX10_asNow FX10_asNow_0
    refine Wp_bind (asDone_W hB hC) (fun g0 ⟨k0, x0, o0⟩ => ?_)
    have k0' : Kp Sc f g0 := Kp_m k0 (fun a j h => by unfold Sc; omega)
    refine Wp_bind (walk_W hB (CT_s hB hC k0') x0 (OD_id B) (fun j hj => o0 j (by omega)) ⟨by rw [k0 55 0 (by omega)]; exact h0.1, by rw [k0 56 0 (by omega)]; exact h0.2⟩) (fun g1 ⟨k1, f1, p1⟩ => ?_)
    exact Wp_some ⟨Kp_t k0' (Kp_m k1 (fun _ _ => S5_Sc)), f1, fun i hi => by rw [k1 50 i (fun q => by unfold S5 at q; omega)]; exact o0 i hi⟩
  refine Wp_bind hnow (fun g ⟨k1, f1, o1⟩ => ?_)
  have hC1 := CT_s hB hC k1
  have e5 : g 4 5 = (nC B : Int) := by rw [hC1.1.2.2.2.2.2.1, hCe]
  refine Wp_bind (P := fun g => Kp Sc f g ∧ RC (nC B) (qS B) g) ?_ (fun g hg => Wp_some hg)
  unfold FX2_tryAll_67_4_48 FX2_tryAll_67_4_48_0
  rw [e5]
  by_cases hn : nC B = 0
  · rw [if_pos (by omega)]
    have eq : qS B = (0, 0, []) := by
      unfold qS
      rw [hn]
      show stO B (10000000, 0, []) [] = _
      unfold stO la
      rw [hn]
      have e0 : sumf B 4 (bts (inT B (pO B [])) 0) = 0 := by unfold sumf; rw [hn]; rfl
      rw [e0]
      rfl
    refine Wp_some ⟨Kp_u (Kp_u (Kp_u k1 (by unfold Sc; omega)) (by unfold Sc; omega)) (by unfold Sc; omega), ?_⟩
    rw [eq]
    refine ⟨by rw [up_s]; rfl, by rw [up_n (by omega), up_s], ⟨Int.le_refl _, by decide⟩, fun _ j hj => by omega⟩
  · rw [if_neg (by omega)]
    have k2 : Kp Sc f (up (up g 67 0 (-1)) 67 1 0) := Kp_u (Kp_u k1 (by unfold Sc; omega)) (by unfold Sc; omega)
    have hC2 := CT_s hB hC k2
    rw [fac_l hB hC2 (by omega)]
    unfold FX2_tryAll_67_4_48_48
    obtain ⟨q1, q2, q3⟩ := chk_all ⟨nC B, by omega⟩
    try simp only at q1 q2 q3
    have hf : ∀ n : Fin 7, fac n.val ≤ 720 := by decide
    have h720 := hf ⟨nC B, by omega⟩
    try simp only at h720
    have hhd := pL_head ⟨nC B, by omega⟩
    try simp only at hhd
    refine tryAll_l hB hC hD0 (by omega) h0 (N := fac (nC B)) (by omega) (pL (nC B) (nC B) []) 0 fu _ (10000000, 0, []) (by omega) (by have := fub; omega) q3 (by rcases q1 with q | q; exact absurd q hn; exact q) k2 (FK_k f1 (fun a j h1 h2 => by rw [up_n (by omega), up_n (by omega)])) (fun l hl j hj => ?_) ⟨by rw [up_n (by omega), up_s]; rfl, by rw [up_s], ⟨by decide, Int.le_refl _⟩, fun q => absurd q (Int.lt_irrefl _)⟩
    rcases hhd with q | q
    · exact absurd q hn
    · rw [q] at hl
      cases hl
      rw [up_n (by omega), up_n (by omega), o1 j hj]
      unfold hm
      rw [if_pos rfl]
      congr 1
      by_cases hj2 : j < (List.range (nC B)).length
      · rw [if_pos hj2]
        rw [List.length_range] at hj2
        rw [List.getD_eq_getElem?_getD, List.getElem?_range hj2]
        rfl
      · rw [if_neg hj2]
def S_queue (B : Mm) : Int := if 0 < B 0 8 then (if (qS B).1 < 10000000 then (qS B).1 else -1) else -2
def S_queues (B : Mm) (x : Int) : Int := if 0 < B 0 8 then (if (qS B).1 < 10000000 ∧ 0 ≤ x ∧ x < (nC B : Int) then hm (qS B).2.2 50 x.toNat else -1) else -2
def S_line (B : Mm) : Int := if 0 < B 0 8 then (qS B).2.1 else -2
theorem WF_D0 {B : Mm} (hB : WF B) (h : 0 < B 0 8) : 0 < nD B := by
  have h1 := hB.2.2.2.2.2.2.2.2.2.1.1 h
  unfold nD
  omega
theorem cq_queue {B : Mm} (hB : WF B) : QC B FX10_queue (S_queue B) := by
  rintro f ⟨hC, h0⟩
  unfold FX10_queue FX10_queue_0 S_queue
  rw [stands_e, b2_some, hC.1.1]
  by_cases h : 0 < B 0 8
  · rw [if_pos h, if_pos h, if_neg (by decide)]
    exact Wp_bind (ordered_W hB hC h0 (WF_D0 hB h)) (fun g ⟨k, r⟩ => Wp_some ⟨r.1, k⟩)
  · rw [if_neg h, if_neg h, if_pos rfl]
    exact Wp_some ⟨rfl, Kp_r _ _⟩
theorem cq_line {B : Mm} (hB : WF B) : QC B FX10_line (S_line B) := by
  rintro f ⟨hC, h0⟩
  unfold FX10_line FX10_line_0 S_line
  rw [stands_e, b2_some, hC.1.1]
  by_cases h : 0 < B 0 8
  · rw [if_pos h, if_pos h, if_neg (by decide)]
    exact Wp_bind (ordered_W hB hC h0 (WF_D0 hB h)) (fun g ⟨k, r⟩ => Wp_some ⟨r.2.1, k⟩)
  · rw [if_neg h, if_neg h, if_pos rfl]
    exact Wp_some ⟨rfl, Kp_r _ _⟩
theorem cq_queues {B : Mm} (hB : WF B) (x : Int) : QC B (FX10_queues x) (S_queues B x) := by
  rintro f ⟨hC, h0⟩
  obtain ⟨hC6, hCe⟩ := WF_C hB
  unfold FX10_queues FX10_queues_0 S_queues
  rw [stands_e, b2_some, hC.1.1, hC.1.2.2.2.2.2.1, hCe]
  by_cases h : 0 < B 0 8
  · rw [if_pos h, if_pos h, if_neg (by decide)]
    by_cases h1 : x < 0
    · rw [if_pos h1, if_neg (by omega)]
      exact Wp_some ⟨rfl, Kp_r _ _⟩
    · rw [if_neg h1]
      by_cases h2 : x < (nC B : Int)
      · rw [if_pos h2]
        refine Wp_bind (ordered_W hB hC h0 (WF_D0 hB h)) (fun g ⟨k, r⟩ => ?_)
        obtain ⟨r1, r2, r3, r4⟩ := r
        rw [r1]
        by_cases q : (qS B).1 < 10000000
        · rw [if_pos q, if_neg (by omega), if_pos (by omega), if_pos ⟨q, by omega, h2⟩, r4 q x.toNat (by omega)]
          exact Wp_some ⟨rfl, k⟩
        · rw [if_neg q, if_pos rfl, if_neg (fun w => q w.1)]
          exact Wp_some ⟨rfl, k⟩
      · rw [if_neg h2, if_neg (by omega)]
        exact Wp_some ⟨rfl, Kp_r _ _⟩
  · rw [if_neg h, if_neg h, if_pos rfl]
    exact Wp_some ⟨rfl, Kp_r _ _⟩

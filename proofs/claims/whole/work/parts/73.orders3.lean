/-! all orders: the model -/
def RM (n : Nat) (s : Int × Int × List Nat) (g : Mm) : Prop := g 150 41 = s.1 ∧ g 150 42 = s.2.1 ∧ (0 ≤ s.1 ∧ s.1 ≤ 10000000) ∧ (s.1 < 10000000 → ∀ j, j < n → g 176 j = hm s.2.2 50 j)
def Sq (a j : Nat) : Prop := a = 167 ∨ a = 168 ∨ a = 176 ∨ (a = 150 ∧ (j = 41 ∨ j = 42))
theorem orderTells_W {B f : Mm} (hB : WF B) (hM : MO B f) (hD0 : 0 < nD B) {l : List Nat} (hl : okL (nC B) l = true) (h166 : ∀ i, i < nC B → f 166 i = (oL l i : Int)) (h164 : ∀ e, e < nD B → f 164 e = wN B e) {s : Int × Int × List Nat} (hs : RM (nC B) s f) :
    Wp (FX11_orderTells f) (fun g => Kp Sq f g ∧ RM (nC B) (stO B s l) g) := by
  obtain ⟨hC6, hCe⟩ := WF_C hB
  have hlr := la_r hB hD0 l
  have hll : l.length = nC B := by
    unfold okL at hl
    rw [Bool.and_eq_true] at hl
    exact of_decide_eq_true hl.1
  unfold FX11_orderTells FX11_orderTells_0
  refine Wp_bind (passes_W hB hM (fun i hi => okL_lt hl i hi) h166 (w := wN B) (fun e he => ⟨h164 e he, wN_r hB e⟩)) (fun g ⟨k1, mp⟩ => ?_)
  have hM1 := MO_k hM (fun a j h1 h2 => k1 a j (by omega))
  have e6 : g 157 6 = (nC B : Int) := by rw [hM1.1.2.2.2.2.2.2.2.1, hCe]
  have ep : pas B (oL l) (wN B) (nD B) = pO B l := rfl
  have mp1 : ∀ c, c < 6 → g 167 c = pO B l c := mp.1
  have v41 : g 150 41 = s.1 := by rw [k1 150 41 (by omega)]; exact hs.1
  have v42 : g 150 42 = s.2.1 := by rw [k1 150 42 (by omega)]; exact hs.2.1
  refine forX (fun n x (v : Int) => FX11_orderTells_8 n v x g) (fun i v => v = la (pO B l) i) _ (nC B) ?_ ?_ fu 0 0 rfl (by omega) (by have := fub; omega)
  · rintro n v hv
    rw [FX11_orderTells_8, carts_e, b2_some, if_pos (by omega), hv]
    unfold FX11_orderTells_59
    rw [keptNow_e hB hM1 mp, b2_some, mpayOf_e hB hM1, b2_some, ep, v42]
    have key : Wp (FX11_orderTells_85 (la (pO B l) (nC B)) (jMax s.2.1 (sumf B 4 (bts (inT B (pO B l)) (nC B)))) g) (fun g => Kp Sq f g ∧ RM (nC B) (stO B s l) g) := by
      unfold FX11_orderTells_85
      rw [v41]
      by_cases q : la (pO B l) (nC B) < s.1
      · rw [if_pos q]
        refine forX (fun n x (t : Mm) => FX11_orderTells_104 n x t) (fun i t => Kp (fun a _ => a = 176) (up (up g 150 42 (jMax s.2.1 (sumf B 4 (bts (inT B (pO B l)) (nC B))))) 150 41 (la (pO B l) (nC B))) t ∧ ∀ j, j < i → t 176 j = hm l 50 j) _ (nC B) ?_ ?_ fu 0 _ ⟨Kp_r _ _, fun j hj => by omega⟩ (by omega) (by have := fub; omega)
        · rintro n t ⟨i1, i2⟩
          have e6' : t 157 6 = (nC B : Int) := by rw [i1 157 6 (by omega), up_n (by omega), up_n (by omega), e6]
          rw [FX11_orderTells_104, carts_e, b2_some, if_pos (by omega)]
          refine Wp_some ⟨fun a j h => ?_, ?_⟩
          · unfold Sq at h
            rw [i1 a j (by omega), up_n (by omega), up_n (by omega), k1 a j (by omega)]
          · unfold stO
            rw [if_pos q]
            refine ⟨?_, ?_, hlr, fun _ => i2⟩
            · show t 150 41 = la (pO B l) (nC B)
              rw [i1 150 41 (by omega), up_s]
            · show t 150 42 = jMax s.2.1 (sumf B 4 (bts (inT B (pO B l)) (nC B)))
              rw [i1 150 42 (by omega), up_n (by omega), up_s]
        · rintro n i t hi ⟨i1, i2⟩
          left
          have e6' : t 157 6 = (nC B : Int) := by rw [i1 157 6 (by omega), up_n (by omega), up_n (by omega), e6]
          have e : t 166 i = hm l 50 i := by
            rw [i1 166 i (by omega), up_n (by omega), up_n (by omega), k1 166 i (by omega), h166 i hi]
            unfold hm oL
            rw [if_pos rfl, if_pos (by omega)]
          refine ⟨up t 176 i (hm l 50 i), ?_, Kp_u i1 rfl, fun j hj => ?_⟩
          · show FX11_orderTells_104 (n + 1) (i : Int) t = _
            rw [FX11_orderTells_104, carts_e, b2_some, if_neg (by omega), if_pos (by omega), if_pos (by omega), nx i (by omega), Int.toNat_natCast, e]
          · by_cases h : j = i
            · subst h; rw [up_s]
            · rw [up_n (by omega)]; exact i2 j (by omega)
      · rw [if_neg q]
        refine Wp_some ⟨Kp_u (Kp_m k1 (fun a j h => by unfold Sq; omega)) (by unfold Sq; omega), ?_⟩
        unfold stO
        rw [if_neg q]
        refine ⟨?_, ?_, hs.2.2.1, fun w j hj => ?_⟩
        · show up g 150 42 _ 150 41 = s.1
          rw [up_n (by omega), v41]
        · show up g 150 42 _ 150 42 = _
          rw [up_s]
        · show up g 150 42 _ 176 j = _
          rw [up_n (by omega), k1 176 j (by omega)]
          exact hs.2.2.2 w j hj
    unfold jMax at key
    by_cases q : sumf B 4 (bts (inT B (pO B l)) (nC B)) ≤ s.2.1
    · rw [if_pos q]
      rw [if_neg (show ¬ s.2.1 < sumf B 4 (bts (inT B (pO B l)) (nC B)) by omega)] at key
      exact key
    · rw [if_neg q]
      rw [if_pos (show s.2.1 < sumf B 4 (bts (inT B (pO B l)) (nC B)) by omega)] at key
      exact key
  · rintro n i v hi hv
    left
    refine ⟨la (pO B l) (i + 1), ?_, rfl⟩
    have el : la (pO B l) (i + 1) = if pO B l i = -1 then 10000000 else jMax (la (pO B l) i) (pO B l i) := rfl
    have hI : (0 : Int) ≤ (i : Int) ∧ (i : Int) < 6 := by omega
    rw [FX11_orderTells_8, carts_e, b2_some, if_neg (by omega), el, hv]
    simp only [if_pos hI]
    rw [Int.toNat_natCast, mp1 i (by omega)]
    unfold FX11_orderTells_52 jMax
    rw [nx i (by omega)]
    by_cases q : pO B l i = -1
    · rw [if_pos q, if_pos q]
    · rw [if_neg q, if_neg q]
      by_cases q2 : pO B l i ≤ la (pO B l) i
      · rw [if_pos q2, if_neg (by omega)]
      · rw [if_neg q2, if_pos (by omega)]
def pb (n : Nat) (p : List Nat) : Int := bts (fun c => p.contains c) n
theorem orders_l {B f : Mm} (hB : WF B) (hM : MO B f) (hD0 : 0 < nD B) (h164 : ∀ e, e < nD B → f 164 e = wN B e) : ∀ (r m : Nat) (p : List Nat) (g : Mm) (s : Int × Int × List Nat), r + p.length = nC B → r < m → p.all (fun c => decide (c < nC B)) = true → Kp (fun a j => Sq a j ∨ a = 166) f g → (∀ i, i < p.length → g 166 i = (oL p i : Int)) → RM (nC B) s g →
    Wp (FX11_ordersR m (p.length : Int) (pb (nC B) p) g) (fun g' => Kp (fun a j => Sq a j ∨ a = 166) f g' ∧ RM (nC B) ((pL (nC B) r p).foldl (stO B) s) g' ∧ ∀ i, i < p.length → g' 166 i = g 166 i) := by
  obtain ⟨hC6, hCe⟩ := WF_C hB
  have hMg : ∀ g, Kp (fun a j => Sq a j ∨ a = 166) f g → MO B g := fun g hk => MO_k hM (fun a j h1 h2 => hk a j (by unfold Sq; omega))
  have hg6 : ∀ g, Kp (fun a j => Sq a j ∨ a = 166) f g → g 157 6 = (nC B : Int) := fun g hk => by rw [(hMg g hk).1.2.2.2.2.2.2.2.1, hCe]
  intro r
  induction r with
  | zero =>
    intro m p g s hr hm hp hk h166 hs
    obtain ⟨m', rfl⟩ : ∃ m', m = m' + 1 := ⟨m - 1, by omega⟩
    show Wp (FX11_orders_0 (FX11_ordersR m') _ _ g) _
    unfold FX11_orders_0
    rw [carts_e, b2_some, hg6 g hk, if_pos (by omega)]
    have hl : okL (nC B) p = true := by
      unfold okL
      rw [Bool.and_eq_true]
      exact ⟨decide_eq_true (by omega), hp⟩
    refine Wp_bind (orderTells_W hB (hMg g hk) hD0 hl (fun i hi => h166 i (by omega)) (fun e he => by rw [hk 164 e (by unfold Sq; omega)]; exact h164 e he) hs) (fun g2 ⟨k2, r2⟩ => ?_)
    exact Wp_some ⟨Kp_t hk (Kp_m k2 (fun a j h => Or.inl h)), r2, fun i hi => k2 166 i (by unfold Sq; omega)⟩
  | succ r ih =>
    intro m p g s hr hm hp hk h166 hs
    obtain ⟨m', rfl⟩ : ∃ m', m = m' + 1 := ⟨m - 1, by omega⟩
    show Wp (FX11_orders_0 (FX11_ordersR m') _ _ g) _
    unfold FX11_orders_0
    rw [carts_e, b2_some, hg6 g hk, if_neg (by omega)]
    have hfold : pL (nC B) (r + 1) p = (List.range (nC B)).flatMap (fun c => if p.contains c = true then [] else pL (nC B) r (p ++ [c])) := rfl
    rw [hfold]
    refine forX (fun n x (t : Mm) => FX11_orders_15 (FX11_ordersR m') n (p.length : Int) (pb (nC B) p) x t) (fun c t => Kp (fun a j => Sq a j ∨ a = 166) f t ∧ RM (nC B) (((List.range c).flatMap (fun c => if p.contains c = true then [] else pL (nC B) r (p ++ [c]))).foldl (stO B) s) t ∧ ∀ i, i < p.length → t 166 i = g 166 i) _ (nC B) ?_ ?_ fu 0 g ⟨hk, hs, fun i _ => rfl⟩ (by omega) (by have := fub; omega)
    · rintro n t ⟨i1, i2, i3⟩
      rw [FX11_orders_15, carts_e, b2_some, hg6 t i1, if_pos (by omega)]
      exact Wp_some ⟨i1, i2, i3⟩
    · rintro n c t hc ⟨i1, i2, i3⟩
      left
      have hbit' : hbit (pb (nC B) p) c = p.contains c := by
        unfold pb
        rw [(bts_s (nC B) (by omega)).2 c (by omega), decide_eq_true hc, Bool.true_and]
      rw [FX11_orders_15, carts_e, b2_some, hg6 t i1, if_neg (by omega), isBit_e, b2_some, hbit', List.range_succ, List.flatMap_append, List.foldl_append]
      unfold FX11_orders_53
      rw [nx c (by omega)]
      by_cases q : p.contains c = true
      · rw [if_pos q, if_neg (by decide)]
        refine ⟨t, rfl, i1, ?_, i3⟩
        have : (([c] : List Nat).flatMap (fun c => if p.contains c = true then [] else pL (nC B) r (p ++ [c]))) = [] := by
          rw [List.flatMap_cons, if_pos q]
          rfl
        rw [this]
        exact i2
      · rw [if_neg q, if_pos rfl, if_pos (by omega), Int.toNat_natCast]
        have hlen : (p ++ [c]).length = p.length + 1 := by rw [List.length_append]; rfl
        have hfc : (([c] : List Nat).flatMap (fun c => if p.contains c = true then [] else pL (nC B) r (p ++ [c]))) = pL (nC B) r (p ++ [c]) := by
          rw [List.flatMap_cons, if_neg q]
          exact List.append_nil _
        rw [hfc]
        have hpb : bOr (pb (nC B) p) (bShl 1 (c : Int)) = pb (nC B) (p ++ [c]) := by
          unfold pb
          refine bts_or (by omega) hc (fun j hj => ?_)
          rw [Bool.eq_iff_iff]
          simp
        have hih := ih m' (p ++ [c]) (up t 166 p.length (c : Int)) (((List.range c).flatMap (fun c => if p.contains c = true then [] else pL (nC B) r (p ++ [c]))).foldl (stO B) s) (by omega) (by omega) (by rw [List.all_append, hp]; simp; omega) (Kp_u i1 (Or.inr rfl)) (fun i hi => by
            by_cases q2 : i = p.length
            · subst q2
              rw [up_s]
              unfold oL
              rw [List.getD_eq_getElem?_getD, List.getElem?_append_right (Nat.le_refl _), Nat.sub_self]
              rfl
            · rw [up_n (by omega), i3 i (by omega), h166 i (by omega)]
              unfold oL
              rw [List.getD_eq_getElem?_getD, List.getD_eq_getElem?_getD, List.getElem?_append_left (by omega)]) ⟨by rw [up_n (by omega)]; exact i2.1, by rw [up_n (by omega)]; exact i2.2.1, i2.2.2.1, fun w j hj => by rw [up_n (by omega)]; exact i2.2.2.2 w j hj⟩
        obtain ⟨g2, e2, j1, j2, j3⟩ := hih
        rw [w32n (x := (p.length : Int) + 1) (n := p.length + 1) (by omega) (by omega), hpb, ← hlen, e2]
        simp only [Option.bind_some]
        exact ⟨g2, rfl, j1, j2, fun i hi => by rw [j3 i (by omega), up_n (by omega)]; exact i3 i hi⟩
theorem laysOrders_W {B f : Mm} (hB : WF B) (hM : MO B f) (hD0 : 0 < nD B) : Wp (FX11_laysOrders f) (fun g => Kp Sm f g ∧ RM (nC B) (qS B) g) := by
  have hC6 := (WF_C hB).1
  unfold FX11_laysOrders FX11_laysOrders_0
  refine Wp_bind (laysNow_W hB hM) (fun g1 ⟨k1, mkk, mxx⟩ => ?_)
  have hM1 := MO_s hM k1
  have hM2 : MO B (up (up g1 150 41 10000000) 150 42 0) := MO_k hM1 (fun a j h1 h2 => by rw [up_n (by omega), up_n (by omega)])
  have h := orders_l hB hM2 hD0 (fun e he => by rw [up_n (by omega), up_n (by omega)]; exact (mkk e he).2.2) (nC B) 8 [] (up (up g1 150 41 10000000) 150 42 0) (10000000, 0, []) (by simp) (by omega) rfl (Kp_r _ _) (fun i hi => by cases hi) ⟨by rw [up_n (by omega), up_s], by rw [up_s], ⟨by decide, Int.le_refl _⟩, fun q => absurd q (Int.lt_irrefl _)⟩
  have hpb : pb (nC B) [] = 0 := bts_no (by omega) (fun j hj => rfl)
  rw [hpb] at h
  refine Wp_bind h (fun g2 ⟨j1, j2, j3⟩ => Wp_some ⟨?_, j2⟩)
  have k2 : Kp Sm f (up (up g1 150 41 10000000) 150 42 0) := Kp_u (Kp_u k1 (by unfold Sm; omega)) (by unfold Sm; omega)
  exact Kp_t k2 (Kp_m j1 (fun a j h => by unfold Sq at h; unfold Sm; omega))
theorem mq_queue {B : Mm} (hB : WF B) : QM B FX11_queue (S_queue B) := by
  intro f hM
  have k0 : Kp Sm f (up f 150 0 0) := Kp_u (Kp_r _ _) (by unfold Sm; omega)
  have hM0 := MO_s hM k0
  unfold FX11_queue FX11_queue_0 S_queue
  rw [isBridge_e hM0, b2_some]
  by_cases h : 0 < B 0 8
  · rw [if_pos h, if_pos h, if_neg (by decide)]
    refine Wp_bind (laysOrders_W hB hM0 (WF_D0 hB h)) (fun g ⟨k, r⟩ => ?_)
    rw [r.1]
    by_cases q : (qS B).1 < 10000000
    · rw [if_pos q, if_pos q]; exact Wp_some ⟨rfl, Kp_t k0 k⟩
    · rw [if_neg q, if_neg q]; exact Wp_some ⟨rfl, Kp_t k0 k⟩
  · rw [if_neg h, if_neg h, if_pos rfl]
    exact Wp_some ⟨rfl, k0⟩
theorem mq_line {B : Mm} (hB : WF B) : QM B FX11_line (S_line B) := by
  intro f hM
  have k0 : Kp Sm f (up f 150 0 0) := Kp_u (Kp_r _ _) (by unfold Sm; omega)
  have hM0 := MO_s hM k0
  unfold FX11_line FX11_line_0 S_line
  rw [isBridge_e hM0, b2_some]
  by_cases h : 0 < B 0 8
  · rw [if_pos h, if_pos h, if_neg (by decide)]
    exact Wp_bind (laysOrders_W hB hM0 (WF_D0 hB h)) (fun g ⟨k, r⟩ => Wp_some ⟨r.2.1, Kp_t k0 k⟩)
  · rw [if_neg h, if_neg h, if_pos rfl]
    exact Wp_some ⟨rfl, k0⟩
theorem mq_queues {B : Mm} (hB : WF B) (x : Int) : QM B (FX11_queues x) (S_queues B x) := by
  intro f hM
  obtain ⟨hC6, hCe⟩ := WF_C hB
  have k0 : Kp Sm f (up f 150 0 0) := Kp_u (Kp_r _ _) (by unfold Sm; omega)
  have hM0 := MO_s hM k0
  unfold FX11_queues FX11_queues_0 S_queues
  rw [isBridge_e hM0, b2_some]
  by_cases h : 0 < B 0 8
  · rw [if_pos h, if_pos h, if_neg (by decide)]
    refine Wp_bind (laysOrders_W hB hM0 (WF_D0 hB h)) (fun g ⟨k, r⟩ => ?_)
    have hM1 := MO_s hM0 k
    have e6 : g 157 6 = (nC B : Int) := by rw [hM1.1.2.2.2.2.2.2.2.1, hCe]
    rw [r.1, carts_e, b2_some, e6, w32s (by omega) (by omega), in_e, b2_some]
    by_cases q : (qS B).1 < 10000000
    · rw [if_neg (by omega)]
      by_cases q2 : 0 ≤ x ∧ x ≤ (nC B : Int) - 1
      · rw [if_pos q2, if_neg (by decide), if_pos (by omega), if_pos ⟨q, by omega, by omega⟩, r.2.2.2 q x.toNat (by omega)]
        exact Wp_some ⟨rfl, Kp_t k0 k⟩
      · rw [if_neg q2, if_pos rfl, if_neg (by omega)]
        exact Wp_some ⟨rfl, Kp_t k0 k⟩
    · rw [if_pos (by omega), if_neg (fun w => q w.1)]
      exact Wp_some ⟨rfl, Kp_t k0 k⟩
  · rw [if_neg h, if_neg h, if_pos rfl]
    exact Wp_some ⟨rfl, k0⟩

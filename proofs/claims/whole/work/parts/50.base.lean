/-! the pure side: a judgement on answers, loops, bits -/
def Wp {β : Type} (o : Option β) (Q : β → Prop) : Prop := ∃ b, o = some b ∧ Q b
theorem Wp_some {β : Type} {b : β} {Q : β → Prop} (h : Q b) : Wp (some b) Q := ⟨b, rfl, h⟩
theorem Wp_mono {β : Type} {o : Option β} {Q Q' : β → Prop} (h : Wp o Q) (hq : ∀ b, Q b → Q' b) : Wp o Q' := by
  obtain ⟨b, h1, h2⟩ := h
  exact ⟨b, h1, hq b h2⟩
theorem b2_some {β : Type} (x : Int) (f : Mm) (K : Int → Mm → Option β) : b2 (some (x, f)) K = K x f := rfl
theorem Wp_b2 {β : Type} {o : Option (Int × Mm)} {K : Int → Mm → Option β} {P : Int × Mm → Prop} {Q : β → Prop} (h : Wp o P) (hk : ∀ r g, P (r, g) → Wp (K r g) Q) : Wp (b2 o K) Q := by
  obtain ⟨⟨r, g⟩, h1, h2⟩ := h
  rw [h1, b2_some]
  exact hk r g h2
theorem Wp_bind {β γ : Type} {o : Option γ} {K : γ → Option β} {P : γ → Prop} {Q : β → Prop} (h : Wp o P) (hk : ∀ g, P g → Wp (K g) Q) : Wp (o.bind K) Q := by
  obtain ⟨g, h1, h2⟩ := h
  rw [h1]
  exact hk g h2
theorem Wp_ite {β : Type} {c : Prop} [Decidable c] {a b : Option β} {Q : β → Prop} (h1 : c → Wp a Q) (h2 : ¬ c → Wp b Q) : Wp (if c then a else b) Q := by
  by_cases h : c
  · rw [if_pos h]; exact h1 h
  · rw [if_neg h]; exact h2 h
theorem Wp_pos {β : Type} {c : Prop} [Decidable c] {a b : Option β} {Q : β → Prop} (h : c) (h1 : Wp a Q) : Wp (if c then a else b) Q := by rw [if_pos h]; exact h1
theorem Wp_neg {β : Type} {c : Prop} [Decidable c] {a b : Option β} {Q : β → Prop} (h : ¬ c) (h1 : Wp b Q) : Wp (if c then a else b) Q := by rw [if_neg h]; exact h1
theorem Wp_eq {β : Type} {o o' : Option β} {Q : β → Prop} (h : o = o') (h1 : Wp o' Q) : Wp o Q := by rw [h]; exact h1
theorem w32s {x : Int} (h : -2147483648 ≤ x) (h2 : x < 2147483648) : w32 x = x := w32_of ⟨h, h2⟩
theorem w64s {x : Int} (h : -9223372036854775808 ≤ x) (h2 : x < 9223372036854775808) : w64 x = x := w64_of ⟨h, h2⟩
theorem w32n {x : Int} {n : Nat} (h : x = (n : Int)) (hn : n < 2147483648) : w32 x = (n : Int) := by rw [h, w32s (by omega) (by omega)]
theorem nx (d : Nat) (h : d < 1000000) : w32 ((d : Int) + 1) = ((d + 1 : Nat) : Int) := by rw [w32s (by omega) (by omega)]; omega
theorem up_s (f : Mm) (a i : Nat) (x : Int) : up f a i x a i = x := by unfold up; rw [if_pos ⟨rfl, rfl⟩]
theorem up_n {f : Mm} {a i b j : Nat} {x : Int} (h : ¬ (b = a ∧ j = i)) : up f a i x b j = f b j := by unfold up; rw [if_neg h]
theorem up_eq (f : Mm) (a i : Nat) (x : Int) (b j : Nat) : up f a i x b j = if b = a ∧ j = i then x else f b j := rfl
theorem fum3 : ∃ m, fu = m + 1 + 1 + 1 := ⟨99997, rfl⟩
theorem fub : 99999 < fu := by unfold fu; omega
/-- a loop's rule: at each turn it goes on with the invariant, or ends -/
theorem forR {σ β : Type} (L : Nat → Int → σ → Option β) (I : Nat → σ → Prop) (R : Option β → Prop) (D : Nat)
    (h1 : ∀ n s, I D s → R (L (n + 1) (D : Int) s))
    (h2 : ∀ n i s, i < D → I i s → (∃ s', L (n + 1) (i : Int) s = L n ((i + 1 : Nat) : Int) s' ∧ I (i + 1) s') ∨ R (L (n + 1) (i : Int) s)) :
    ∀ (n i : Nat) (s : σ), I i s → i ≤ D → D - i < n → R (L n (i : Int) s) := by
  intro n
  induction n with
  | zero => intro i s _ _ h; omega
  | succ n ih =>
    intro i s hI hi hn
    rcases Nat.lt_or_ge i D with hlt | hge
    · rcases h2 n i s hlt hI with ⟨s', e, hI'⟩ | hq
      · rw [e]
        exact ih (i + 1) s' hI' (by omega) (by omega)
      · exact hq
    · have e : i = D := by omega
      subst e
      exact h1 n s hI
theorem forX {σ β : Type} (L : Nat → Int → σ → Option β) (I : Nat → σ → Prop) (Q : β → Prop) (D : Nat)
    (h1 : ∀ n s, I D s → Wp (L (n + 1) (D : Int) s) Q)
    (h2 : ∀ n i s, i < D → I i s → (∃ s', L (n + 1) (i : Int) s = L n ((i + 1 : Nat) : Int) s' ∧ I (i + 1) s') ∨ Wp (L (n + 1) (i : Int) s) Q) :
    ∀ (n i : Nat) (s : σ), I i s → i ≤ D → D - i < n → Wp (L n (i : Int) s) Q := forR L I (fun o => Wp o Q) D h1 h2
/-- a loop that only counts on: what it holds behind its turns -/
def fo {σ : Type} (st : Nat → σ → σ) (s : σ) : Nat → σ
  | 0 => s
  | n + 1 => st n (fo st s n)

/-! PURE: counting -/
theorem zcn_or {p q : Nat → Prop} : ∀ T, (∀ z, z < T → p z → q z → False) → zcn (fun z => p z ∨ q z) T = zcn p T + zcn q T := by
  intro T
  induction T with
  | zero => intro _; rfl
  | succ T ih =>
    intro h
    have e := ih (fun z hz => h z (by omega))
    by_cases h1 : p T
    · rw [zcn_t (p := fun z => p z ∨ q z) (Or.inl h1), zcn_t h1, zcn_f (fun h2 => h T (by omega) h1 h2), e]; omega
    · by_cases h2 : q T
      · rw [zcn_t (p := fun z => p z ∨ q z) (Or.inr h2), zcn_t h2, zcn_f h1, e]; omega
      · rw [zcn_f (p := fun z => p z ∨ q z) (fun h3 => h3.elim h1 h2), zcn_f h1, zcn_f h2, e]
theorem zcn_mono {p q : Nat → Prop} : ∀ T, (∀ z, z < T → p z → q z) → zcn p T ≤ zcn q T := by
  intro T
  induction T with
  | zero => intro _; exact Nat.le_refl _
  | succ T ih =>
    intro h
    have e := ih (fun z hz => h z (by omega))
    by_cases h1 : p T
    · rw [zcn_t h1, zcn_t (h T (by omega) h1)]; omega
    · rw [zcn_f h1]
      by_cases h2 : q T
      · rw [zcn_t h2]; omega
      · rw [zcn_f h2]; omega
theorem zcn_add (p : Nat → Prop) (a : Nat) : ∀ b, zcn p (a + b) = zcn p a + zcn (fun i => p (a + i)) b := by
  intro b
  induction b with
  | zero => rfl
  | succ b ih =>
    rw [← Nat.add_assoc]
    by_cases h : p (a + b)
    · rw [zcn_t h, zcn_t (p := fun i => p (a + i)) h, ih]; omega
    · rw [zcn_f h, zcn_f (p := fun i => p (a + i)) h, ih]
theorem zcn_none {p : Nat → Prop} : ∀ T, (∀ z, z < T → ¬ p z) → zcn p T = 0 := by
  intro T
  induction T with
  | zero => intro _; rfl
  | succ T ih =>
    intro h
    rw [zcn_f (h T (by omega)), ih (fun z hz => h z (by omega))]
theorem zcn_all {p : Nat → Prop} : ∀ T, (∀ z, z < T → p z) → zcn p T = T := by
  intro T
  induction T with
  | zero => intro _; rfl
  | succ T ih =>
    intro h
    rw [zcn_t (h T (by omega)), ih (fun z hz => h z (by omega))]
theorem zcn_eq1 {x : Nat} : ∀ T, x < T → zcn (fun z => z = x) T = 1 := by
  intro T
  induction T with
  | zero => intro h; omega
  | succ T ih =>
    intro h
    by_cases hx : T = x
    · rw [zcn_t (p := fun z => z = x) hx, zcn_none T (fun z hz e => by omega)]
    · rw [zcn_f (p := fun z => z = x) hx, ih (by omega)]
theorem zc_zcn (n a : Nat) : zc n a = zcn (fun i => a.testBit i = true) n := by
  induction n with
  | zero => rfl
  | succ n ih =>
    show zc n a + (a.testBit n).toNat = _
    cases h : a.testBit n with
    | false => rw [zcn_f (p := fun i => a.testBit i = true) (by rw [h]; decide), ih]; rfl
    | true => rw [zcn_t (p := fun i => a.testBit i = true) h, ih]; rfl
/-- those in it and not in q, if all of q are in it -/
theorem zcn_sub {p q : Nat → Prop} {T : Nat} (h : ∀ z, z < T → q z → p z) : zcn (fun z => p z ∧ ¬ q z) T + zcn q T = zcn p T := by
  rw [← zcn_or T (fun z _ h1 h2 => h1.2 h2)]
  refine zcn_congr (fun i hi => ⟨fun h1 => h1.elim (fun h2 => h2.1) (h i hi), fun h1 => ?_⟩)
  by_cases h2 : q i
  · exact Or.inr h2
  · exact Or.inl ⟨h1, h2⟩
/-- each of p has c of its own -/
theorem dcount {p U : Nat → Prop} {R : Nat → Nat → Prop} {T c : Nat} (A : Nat) (h1 : ∀ a, a < A → p a → c ≤ zcn (R a) T) (h2 : ∀ a, a < A → ∀ b, b < A → p a → p b → ∀ z, z < T → R a z → R b z → a = b) (h3 : ∀ a, a < A → p a → ∀ z, z < T → R a z → U z) : zcn p A * c ≤ zcn U T := by
  have key : ∀ B, B ≤ A → zcn p B * c ≤ zcn (fun z => ∃ a, a < B ∧ p a ∧ R a z) T := by
    intro B
    induction B with
    | zero => intro _; show 0 * c ≤ _; omega
    | succ B ih =>
      intro hB
      have e := ih (by omega)
      by_cases hp : p B
      · rw [zcn_t hp]
        have e2 : zcn (fun z => ∃ a, a < B + 1 ∧ p a ∧ R a z) T = zcn (fun z => (∃ a, a < B ∧ p a ∧ R a z) ∨ R B z) T := by
          refine zcn_congr (fun i hi => ⟨?_, ?_⟩)
          · rintro ⟨a, g1, g2, g3⟩
            by_cases ha : a = B
            · subst ha; exact Or.inr g3
            · exact Or.inl ⟨a, by omega, g2, g3⟩
          · rintro (⟨a, g1, g2, g3⟩ | g)
            · exact ⟨a, by omega, g2, g3⟩
            · exact ⟨B, by omega, hp, g⟩
        rw [e2, zcn_or T (fun z hz ⟨a, g1, g2, g3⟩ g => by
          have := h2 a (by omega) B (by omega) g2 hp z hz g3 g
          omega)]
        have := h1 B (by omega) hp
        rw [Nat.add_mul, Nat.one_mul]
        omega
      · rw [zcn_f hp]
        exact Nat.le_trans e (zcn_mono T (fun z _ ⟨a, g1, g2, g3⟩ => ⟨a, by omega, g2, g3⟩))
  exact Nat.le_trans (key A (Nat.le_refl _)) (zcn_mono T (fun z hz ⟨a, g1, g2, g3⟩ => h3 a g1 g2 z hz g3))
theorem zcn_row {P : Nat → Nat → Prop} {n k : Nat} : zcn (fun i => P ((k * n + i) / n) ((k * n + i) % n)) n = zcn (P k) n := by
  refine zcn_congr (fun i hi => ?_)
  have e1 : (k * n + i) / n = k := by
    rw [Nat.mul_comm, Nat.mul_add_div (by omega), Nat.div_eq_of_lt hi]; omega
  have e2 : (k * n + i) % n = i := by rw [Nat.mul_comm, Nat.mul_add_mod, Nat.mod_eq_of_lt hi]
  rw [e1, e2]
theorem zcn_ge {P : Nat → Nat → Prop} {X : Nat → Prop} {n c : Nat} : ∀ k, (∀ x, x < k → X x → c ≤ zcn (P x) n) → c * zcn X k ≤ zcn (fun z => P (z / n) (z % n)) (k * n) := by
  intro k
  induction k with
  | zero => intro _; show c * 0 ≤ _; omega
  | succ k ih =>
    intro h
    have e := ih (fun x hx => h x (by omega))
    rw [Nat.add_mul, Nat.one_mul, zcn_add (fun z => P (z / n) (z % n)), zcn_row (P := P)]
    by_cases hx : X k
    · have := h k (by omega) hx
      rw [zcn_t hx, Nat.mul_add, Nat.mul_one]; omega
    · rw [zcn_f hx]; omega
theorem zcn_lep {P : Nat → Nat → Prop} {X : Nat → Prop} {n c : Nat} : ∀ k, (∀ x, x < k → X x → zcn (P x) n ≤ c) → (∀ x, x < k → ¬ X x → zcn (P x) n = 0) → zcn (fun z => P (z / n) (z % n)) (k * n) ≤ c * zcn X k := by
  intro k
  induction k with
  | zero => intro _ _; rw [Nat.zero_mul]; exact Nat.zero_le _
  | succ k ih =>
    intro h h'
    have e := ih (fun x hx => h x (by omega)) (fun x hx => h' x (by omega))
    rw [Nat.add_mul, Nat.one_mul, zcn_add (fun z => P (z / n) (z % n)), zcn_row (P := P)]
    by_cases hx : X k
    · have := h k (by omega) hx
      rw [zcn_t hx, Nat.mul_add, Nat.mul_one]; omega
    · have := h' k (by omega) hx
      rw [zcn_f hx]; omega
/-- by what they are: at most the sum -/
theorem zcn_split {p : Nat → Prop} {f : Nat → Nat} {T : Nat} : ∀ L : List Nat, (∀ z, z < T → p z → f z ∈ L) → zcn p T ≤ (L.map (fun m => zcn (fun z => p z ∧ f z = m) T)).sum := by
  intro L
  induction L generalizing p with
  | nil =>
    intro h
    rw [zcn_none T (fun z hz hp => by have := h z hz hp; cases this)]
    exact Nat.zero_le _
  | cons m L ih =>
    intro h
    have e := ih (p := fun z => p z ∧ ¬ f z = m) (fun z hz ⟨h1, h2⟩ => by
      rcases List.mem_cons.mp (h z hz h1) with q | q
      · exact absurd q h2
      · exact q)
    have e2 : zcn p T = zcn (fun z => p z ∧ f z = m) T + zcn (fun z => p z ∧ ¬ f z = m) T := by
      rw [← zcn_or T (fun z _ h1 h2 => h2.2 h1.2)]
      refine zcn_congr (fun i _ => ⟨fun h1 => ?_, fun h1 => h1.elim (fun q => q.1) (fun q => q.1)⟩)
      by_cases h2 : f i = m
      · exact Or.inl ⟨h1, h2⟩
      · exact Or.inr ⟨h1, h2⟩
    have e3 : ∀ L' : List Nat, (L'.map (fun k => zcn (fun z => (p z ∧ ¬ f z = m) ∧ f z = k) T)).sum ≤ (L'.map (fun k => zcn (fun z => p z ∧ f z = k) T)).sum := by
      intro L'
      induction L' with
      | nil => exact Nat.le_refl _
      | cons k L' ih' =>
        simp only [List.map_cons, List.sum_cons]
        have := zcn_mono (p := fun z => (p z ∧ ¬ f z = m) ∧ f z = k) (q := fun z => p z ∧ f z = k) T (fun z _ q => ⟨q.1.1, q.2⟩)
        omega
    simp only [List.map_cons, List.sum_cons]
    have := e3 L
    omega

/-! PURE: how far it is -/
def rch (n : Nat) (E : Nat → Nat → Prop) (a : Nat) : Nat → Nat → Prop
  | 0, x => x = a
  | k + 1, x => x < n ∧ ∃ y, y < n ∧ rch n E a k y ∧ E y x
noncomputable def dsn (n : Nat) (E : Nat → Nat → Prop) (a x : Nat) : Nat := zleast (fun k => rch n E a k x)
/-- as a number of the program: -1 for nothing that is reached -/
noncomputable def fr (n : Nat) (E : Nat → Nat → Prop) (a x : Nat) : Int32 := @ite _ (∃ k, rch n E a k x) (Classical.propDecidable _) (nI (dsn n E a x)) (-1)
section D
variable {n : Nat} {E : Nat → Nat → Prop} {a : Nat}
theorem fr_at {x k : Nat} (h : rch n E a k x) (hl : ∀ j, j < k → ¬ rch n E a j x) : fr n E a x = nI k ∧ dsn n E a x = k := by
  have e : dsn n E a x = k := zleast_eq h hl
  unfold fr
  rw [if_pos ⟨k, h⟩, e]
  exact ⟨rfl, rfl⟩
theorem fr_no {x : Nat} (h : ¬ ∃ k, rch n E a k x) : fr n E a x = -1 := if_neg h
theorem rch_lt (ha : a < n) : ∀ k x, rch n E a k x → x < n
  | 0, _, h => by have h' : _ = a := h; omega
  | _ + 1, _, h => h.1
/-- on the way there are all lesser ones -/
theorem rch_way : ∀ k x, rch n E a k x → (∀ j, j < k → ¬ rch n E a j x) → ∀ i, i ≤ k → ∃ y, rch n E a i y ∧ ∀ j, j < i → ¬ rch n E a j y := by
  intro k
  induction k with
  | zero =>
    intro x h hl i hi
    rw [show i = 0 by omega]
    exact ⟨x, h, fun j hj => by omega⟩
  | succ k ih =>
    intro x h hl i hi
    by_cases e : i = k + 1
    · rw [e]; exact ⟨x, h, hl⟩
    · obtain ⟨h1, y, h2, h3, h4⟩ := h
      exact ih y h3 (fun j hj q => hl (j + 1) (by omega) ⟨h1, y, h2, q, h4⟩) i (by omega)
theorem rch_bound (ha : a < n) {k x : Nat} (h : rch n E a k x) (hl : ∀ j, j < k → ¬ rch n E a j x) : k < n := by
  have hw := rch_way k x h hl
  have hc : ∃ f : Nat → Nat, ∀ i, i ≤ k → rch n E a i (f i) ∧ ∀ j, j < i → ¬ rch n E a j (f i) := by
    refine ⟨fun i => zleast (fun y => rch n E a i y ∧ ∀ j, j < i → ¬ rch n E a j y), fun i hi => ?_⟩
    exact (zleast_spec (hw i hi)).1
  obtain ⟨f, hf⟩ := hc
  have := z_holes n (k + 1) f (fun i hi => rch_lt ha i _ (hf i (by omega)).1) (fun i j hij hj e => (hf j (by omega)).2 i hij (by rw [← e]; exact (hf i (by omega)).1))
  omega
theorem fr_ex (ha : a < n) (x : Nat) : (fr n E a x = -1 ∧ ¬ ∃ k, rch n E a k x) ∨ ∃ k, k < n ∧ fr n E a x = nI k ∧ rch n E a k x ∧ ∀ j, j < k → ¬ rch n E a j x := by
  rcases Classical.em (∃ k, rch n E a k x) with h | h
  · obtain ⟨k, h1, h2⟩ := z_least h
    exact Or.inr ⟨k, rch_bound ha h1 h2, (fr_at h1 h2).1, h1, h2⟩
  · exact Or.inl ⟨fr_no h, h⟩
/-- labels that grow by at most one along each arc are right -/
theorem fr_lab {D : Nat → Prop} {F : Nat → Nat} (h0 : D a) (h1 : F a = 0) (h2 : ∀ x, D x → rch n E a (F x) x) (h3 : ∀ y, D y → ∀ z, z < n → E y z → D z ∧ F z ≤ F y + 1) (x : Nat) : (D x → fr n E a x = nI (F x)) ∧ (¬ D x → fr n E a x = -1) := by
  have key : ∀ k x, rch n E a k x → D x ∧ F x ≤ k := by
    intro k
    induction k with
    | zero =>
      intro x h
      have h' : x = a := h
      rw [h', h1]; exact ⟨h0, Nat.le_refl _⟩
    | succ k ih =>
      rintro x ⟨g1, y, g2, g3, g4⟩
      obtain ⟨q1, q2⟩ := ih y g3
      obtain ⟨q3, q4⟩ := h3 y q1 x g1 g4
      exact ⟨q3, by omega⟩
  constructor
  · intro hD
    exact (fr_at (h2 x hD) (fun j hj q => by have := (key j x q).2; omega)).1
  · intro hD
    exact fr_no (fun ⟨k, q⟩ => hD (key k x q).1)
end D
/-- arcs by steps of a set -/
def arc (n : Nat) (t : Nat → Nat → Nat) (a : Nat) (x y : Nat) : Prop := ∃ s, s < n ∧ s ≠ 0 ∧ a.testBit s = true ∧ t x s = y
/-- and without the one straight back -/
def arc2 (n : Nat) (t : Nat → Nat → Nat) (a b : Nat) (x y : Nat) : Prop := arc n t a x y ∧ ¬ (y = 0 ∧ x = b)

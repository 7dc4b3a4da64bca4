/-! PURE: powers, periods; drawers -/
theorem zset_add {n x : Nat} {p q : Nat → Prop} (hx : x < n) (h : ∀ i, i < n → (q i ↔ p i ∨ i = x)) : zset n q = zset n p ||| 2 ^ x := by
  symm
  apply zset_eq (z_or_lt (zset_lt n p) (z_pw hx))
  intro i hi
  rw [z_tb_or_pow, Bool.or_eq_true, zset_bit, decide_eq_true_eq, h i hi]
  exact ⟨fun q => q.elim (fun a => Or.inl a.2) Or.inr, fun q => q.elim (fun a => Or.inl ⟨hi, a⟩) Or.inr⟩
theorem zset_none {n : Nat} {p : Nat → Prop} (h : ∀ i, i < n → ¬ p i) : zset n p = 0 := (zset_eq (Nat.two_pow_pos n) (fun i hi => by
  rw [Nat.zero_testBit]
  exact ⟨fun a => absurd a Bool.false_ne_true, fun a => absurd a (h i hi)⟩)).symm
theorem z_holes : ∀ (m n : Nat) (f : Nat → Nat), (∀ i, i < n → f i < m) → (∀ i j, i < j → j < n → f i ≠ f j) → n ≤ m := by
  intro m
  induction m with
  | zero =>
    intro n f h1 _
    rcases Nat.eq_zero_or_pos n with h | h
    · omega
    · exact absurd (h1 0 h) (Nat.not_lt_zero _)
  | succ m ih =>
    intro n f h1 h2
    by_cases hx : ∃ i, i < n ∧ f i = m
    · obtain ⟨a, ha, hfa⟩ := hx
      have hg := ih (n - 1) (fun i => if i < a then f i else f (i + 1)) (by
        intro i hi
        by_cases q : i < a
        · simp only [if_pos q]
          have b1 := h1 i (by omega)
          have b2 := h2 i a q ha
          omega
        · simp only [if_neg q]
          have b1 := h1 (i + 1) (by omega)
          have b2 := h2 a (i + 1) (by omega) (by omega)
          omega) (by
        intro i j hij hj
        by_cases q : i < a
        · by_cases r : j < a
          · simp only [if_pos q, if_pos r]
            exact h2 i j hij (by omega)
          · simp only [if_pos q, if_neg r]
            exact h2 i (j + 1) (by omega) (by omega)
        · have r : ¬ j < a := by omega
          simp only [if_neg q, if_neg r]
          exact h2 (i + 1) (j + 1) (by omega) (by omega))
      omega
    · have hg := ih n f (fun i hi => by
        have b1 := h1 i hi
        have b2 : f i ≠ m := fun e => hx ⟨i, hi, e⟩
        omega) h2
      omega
/-- powers: pw t x e is x, e and one times over -/
def pw (t : Nat → Nat → Nat) (x : Nat) : Nat → Nat
  | 0 => x
  | e + 1 => t (pw t x e) x
section P
variable {n : Nat} {t : Nat → Nat → Nat} {iv : Nat → Nat}
theorem pw_lt (h : Grp n t iv) {x : Nat} (hx : x < n) (e : Nat) : pw t x e < n := by
  induction e with
  | zero => exact hx
  | succ e ih => exact h.lt ih hx
theorem pw_back (h : Grp n t iv) {x : Nat} (hx : x < n) (a : Nat) : ∀ b, pw t x a = pw t x (a + b + 1) → pw t x b = 0 := by
  induction a with
  | zero =>
    intro b e
    rw [show 0 + b + 1 = b + 1 by omega] at e
    have e' : t 0 x = t (pw t x b) x := by rw [h.l0 hx]; exact e
    exact (h.cr hx h.pos (pw_lt h hx b) e').symm
  | succ a ih =>
    intro b e
    rw [show a + 1 + b + 1 = (a + b + 1) + 1 by omega] at e
    exact ih b (h.cr hx (pw_lt h hx a) (pw_lt h hx (a + b + 1)) e)
theorem pw_ex (h : Grp n t iv) {x : Nat} (hx : x < n) : ∃ e, e < n ∧ pw t x e = 0 := by
  rcases Classical.em (∃ i j, i < j ∧ j < n + 1 ∧ pw t x i = pw t x j) with ⟨i, j, h1, h2, h3⟩ | hno
  · obtain ⟨b, rfl⟩ : ∃ b, j = i + b + 1 := ⟨j - i - 1, by omega⟩
    exact ⟨b, by omega, pw_back h hx i b h3⟩
  · have := z_holes n (n + 1) (pw t x) (fun i _ => pw_lt h hx i) (fun i j h1 h2 h3 => hno ⟨i, j, h1, h2, h3⟩)
    omega
theorem z_least {p : Nat → Prop} (h : ∃ k, p k) : ∃ k, p k ∧ ∀ j, j < k → ¬ p j := pk_least p h
noncomputable def zleast (p : Nat → Prop) : Nat := @dite Nat (∃ k, p k) (Classical.propDecidable _) (fun h => Classical.choose (z_least h)) (fun _ => 0)
theorem zleast_spec {p : Nat → Prop} (h : ∃ k, p k) : p (zleast p) ∧ ∀ j, j < zleast p → ¬ p j := by
  unfold zleast
  rw [dif_pos h]
  exact Classical.choose_spec (z_least h)
theorem zleast_eq {p : Nat → Prop} {k : Nat} (h1 : p k) (h2 : ∀ j, j < k → ¬ p j) : zleast p = k := by
  obtain ⟨g1, g2⟩ := zleast_spec ⟨k, h1⟩
  rcases Nat.lt_trichotomy (zleast p) k with q | q | q
  · exact absurd g1 (h2 _ q)
  · exact q
  · exact absurd h1 (g2 _ q)
/-- the period: the least e above 0 -/
noncomputable def per (t : Nat → Nat → Nat) (x : Nat) : Nat := zleast (fun e => pw t x e = 0) + 1
theorem per_spec (h : Grp n t iv) {x : Nat} (hx : x < n) : ∃ e, per t x = e + 1 ∧ e < n ∧ pw t x e = 0 ∧ ∀ j, j < e → pw t x j ≠ 0 := by
  obtain ⟨e0, h1, h2⟩ := pw_ex h hx
  obtain ⟨g1, g2⟩ := zleast_spec (p := fun e => pw t x e = 0) ⟨e0, h2⟩
  refine ⟨_, rfl, ?_, g1, fun j hj => g2 j hj⟩
  rcases Nat.lt_or_ge (zleast (fun e => pw t x e = 0)) n with q | q
  · exact q
  · exact absurd h2 (g2 e0 (by omega))
/-- conjugates -/
def cls (n : Nat) (t : Nat → Nat → Nat) (iv : Nat → Nat) (x : Nat) : Nat := zim (fun _ => true) (fun g => t (t (iv g) x) g) n
theorem cls_lt (h : Grp n t iv) {x : Nat} (hx : x < n) : cls n t iv x < 2 ^ n := zim_lt (fun i hi _ => h.lt (h.lt (h.il hi) hx) hi)
theorem cls_bit {x j : Nat} : (cls n t iv x).testBit j = true ↔ ∃ g, g < n ∧ t (t (iv g) x) g = j := by
  unfold cls
  rw [zim_bit]
  exact ⟨fun ⟨i, a, _, b⟩ => ⟨i, a, b⟩, fun ⟨i, a, b⟩ => ⟨i, a, rfl, b⟩⟩
/-- products of two sets -/
noncomputable def prd (n : Nat) (t : Nat → Nat → Nat) (a b : Nat) : Nat := zset n (fun j => ∃ x y, x < n ∧ y < n ∧ a.testBit x = true ∧ b.testBit y = true ∧ t x y = j)
/-- 2 a normal subgroup, 1 a subgroup, else 0 -/
noncomputable def knd (n : Nat) (t : Nat → Nat → Nat) (iv : Nat → Nat) (a : Nat) : Nat := @ite _ (gen n t a = a) (Classical.propDecidable _) (@ite _ (∀ x, x < n → a.testBit x = true → zd (cls n t iv x) a = 0) (Classical.propDecidable _) 2 1) 0
theorem gen0 (hT : Tb n t) {a : Nat} (h : gen n t a = a) : a.testBit 0 = true := by
  rw [← h]
  exact (gen_closed hT a).2.1
end P

/-! PURE: sets of places as numbers -/
noncomputable def zset (n : Nat) (p : Nat → Prop) : Nat := match n with
  | 0 => 0
  | k + 1 => if @decide (p k) (Classical.propDecidable _) = true then zset k p ||| 2 ^ k else zset k p
theorem zset_bit (n : Nat) (p : Nat → Prop) (j : Nat) : (zset n p).testBit j = true ↔ j < n ∧ p j := by
  induction n with
  | zero => simp [zset]
  | succ k ih =>
    unfold zset
    by_cases h : p k
    · rw [if_pos (by simp [h]), z_tb_or_pow, Bool.or_eq_true, ih, decide_eq_true_eq]
      constructor
      · rintro (⟨h1, h2⟩ | rfl)
        · exact ⟨by omega, h2⟩
        · exact ⟨by omega, h⟩
      · rintro ⟨h1, h2⟩
        by_cases hj : j = k
        · exact Or.inr hj
        · exact Or.inl ⟨by omega, h2⟩
    · rw [if_neg (by simp [h]), ih]
      constructor
      · rintro ⟨h1, h2⟩
        exact ⟨by omega, h2⟩
      · rintro ⟨h1, h2⟩
        by_cases hj : j = k
        · subst hj; exact absurd h2 h
        · exact ⟨by omega, h2⟩
theorem zset_lt (n : Nat) (p : Nat → Prop) : zset n p < 2 ^ n := by
  apply Nat.lt_pow_two_of_testBit
  intro i hi
  cases h : (zset n p).testBit i with
  | false => rfl
  | true => exact absurd ((zset_bit n p i).mp h).1 (by omega)
theorem zset_eq {n m : Nat} {p : Nat → Prop} (hm : m < 2 ^ n) (h : ∀ i, i < n → (m.testBit i = true ↔ p i)) : m = zset n p := by
  apply z_ext hm (zset_lt n p)
  intro i hi
  rw [Bool.eq_iff_iff, h i hi, zset_bit]
  exact ⟨fun q => ⟨hi, q⟩, fun q => q.2⟩
theorem zset_congr {n : Nat} {p q : Nat → Prop} (h : ∀ i, i < n → (p i ↔ q i)) : zset n p = zset n q := zset_eq (zset_lt n p) (fun i hi => by
  rw [zset_bit]
  exact ⟨fun a => (h i hi).mp a.2, fun a => ⟨hi, (h i hi).mpr a⟩⟩)
/-- images of those below k with p, one by one -/
def zim (p : Nat → Bool) (f : Nat → Nat) : Nat → Nat
  | 0 => 0
  | k + 1 => if p k = true then zim p f k ||| 2 ^ (f k) else zim p f k
theorem zim_bit (p : Nat → Bool) (f : Nat → Nat) (k j : Nat) : (zim p f k).testBit j = true ↔ ∃ i, i < k ∧ p i = true ∧ f i = j := by
  induction k with
  | zero => simp [zim]
  | succ k ih =>
    unfold zim
    by_cases h : p k = true
    · rw [if_pos h, z_tb_or_pow, Bool.or_eq_true, ih, decide_eq_true_eq]
      constructor
      · rintro (⟨i, h1, h2, h3⟩ | rfl)
        · exact ⟨i, by omega, h2, h3⟩
        · exact ⟨k, by omega, h, rfl⟩
      · rintro ⟨i, h1, h2, h3⟩
        by_cases hi : i = k
        · subst hi; exact Or.inr h3.symm
        · exact Or.inl ⟨i, by omega, h2, h3⟩
    · rw [if_neg h, ih]
      constructor
      · rintro ⟨i, h1, h2, h3⟩
        exact ⟨i, by omega, h2, h3⟩
      · rintro ⟨i, h1, h2, h3⟩
        by_cases hi : i = k
        · subst hi; exact absurd h2 h
        · exact ⟨i, by omega, h2, h3⟩
theorem zim_lt {p : Nat → Bool} {f : Nat → Nat} {k n : Nat} (h : ∀ i, i < k → p i = true → f i < n) : zim p f k < 2 ^ n := by
  apply Nat.lt_pow_two_of_testBit
  intro i hi
  cases h' : (zim p f k).testBit i with
  | false => rfl
  | true =>
    obtain ⟨a, h1, h2, h3⟩ := (zim_bit p f k i).mp h'
    have := h a h1 h2
    omega
theorem zim_zset {p : Nat → Bool} {f : Nat → Nat} {k n : Nat} (h : ∀ i, i < k → p i = true → f i < n) : zim p f k = zset n (fun j => ∃ i, i < k ∧ p i = true ∧ f i = j) := zset_eq (zim_lt h) (fun i _ => zim_bit p f k i)
theorem z_or_ge (a b : Nat) : a ≤ a ||| b := Nat.left_le_or
theorem z_or_sub {a b n : Nat} (ha : a < 2 ^ n) (h : ∀ i, i < n → a.testBit i = true → b.testBit i = true) (hb : b < 2 ^ n) : a ||| b = b := by
  apply z_ext (z_or_lt ha hb) hb
  intro i hi
  rw [Nat.testBit_or]
  cases h1 : a.testBit i with
  | false => rfl
  | true => rw [h i hi h1]; rfl
theorem zd_eq0 {a b n : Nat} (ha : a < 2 ^ n) : zd a b = 0 ↔ ∀ i, i < n → a.testBit i = true → b.testBit i = true := by
  constructor
  · intro h i hi h1
    have h2 := zd_bit a b i
    rw [h, Nat.zero_testBit, h1] at h2
    cases hb : b.testBit i with
    | true => rfl
    | false => rw [hb] at h2; cases h2
  · intro h
    apply z_ext (zd_lt ha) (Nat.two_pow_pos n)
    intro i hi
    rw [zd_bit, Nat.zero_testBit]
    cases h1 : a.testBit i with
    | false => rfl
    | true => rw [h i hi h1]; rfl
theorem zc_le (n m : Nat) : zc n m ≤ n := by
  induction n with
  | zero => exact Nat.le_refl _
  | succ n ih =>
    show zc n m + (m.testBit n).toNat ≤ n + 1
    have : (m.testBit n).toNat ≤ 1 := Bool.toNat_le _
    omega
theorem zc_mono {n a b : Nat} (h : ∀ i, i < n → a.testBit i = true → b.testBit i = true) : zc n a ≤ zc n b := by
  induction n with
  | zero => exact Nat.le_refl _
  | succ n ih =>
    show zc n a + (a.testBit n).toNat ≤ zc n b + (b.testBit n).toNat
    have h1 := ih (fun i hi => h i (by omega))
    have h2 := h n (by omega)
    cases ha : a.testBit n with
    | false => simp; omega
    | true => rw [h2 ha]; omega
theorem zc_lt {n a b x : Nat} (h : ∀ i, i < n → a.testBit i = true → b.testBit i = true) (hx : x < n) (hb : b.testBit x = true) (ha : a.testBit x = false) : zc n a < zc n b := by
  induction n with
  | zero => omega
  | succ n ih =>
    show zc n a + (a.testBit n).toNat < zc n b + (b.testBit n).toNat
    by_cases hxn : x = n
    · subst hxn
      rw [ha, hb]
      have := zc_mono (n := x) (fun i hi => h i (by omega))
      simp
      omega
    · have h1 := ih (fun i hi => h i (by omega)) (by omega)
      have h2 := h n (by omega)
      cases ha' : a.testBit n with
      | false => simp; omega
      | true => rw [h2 ha']; omega
theorem zc_pos {n m x : Nat} (hx : x < n) (h : m.testBit x = true) : 0 < zc n m := by
  have h1 := zc_lt (n := n) (a := 0) (b := m) (x := x) (fun i _ hi => by rw [Nat.zero_testBit] at hi; cases hi) hx h (Nat.zero_testBit x)
  omega
theorem zim_t {p : Nat → Bool} {f : Nat → Nat} {k : Nat} (h : p k = true) : zim p f (k + 1) = zim p f k ||| 2 ^ (f k) := by
  show (if p k = true then _ else _) = _
  rw [if_pos h]
theorem zim_f {p : Nat → Bool} {f : Nat → Nat} {k : Nat} (h : p k = false) : zim p f (k + 1) = zim p f k := by
  show (if p k = true then _ else _) = _
  rw [if_neg (by rw [h]; decide)]
theorem z_tn0 {b : Bool} : nI b.toNat = 0 ↔ b = false := by
  cases b
  · exact ⟨fun _ => rfl, fun _ => rfl⟩
  · exact ⟨fun h => absurd h (by decide), fun h => by cases h⟩
theorem z_tn1 {b : Bool} : ¬ nI b.toNat = 0 ↔ b = true := by
  rw [z_tn0, Bool.not_eq_false]

/-! THE MODEL: centre, classes, the derived subgroup, common divisors -/
/-- how many below k are such -/
noncomputable def zcn (p : Nat → Prop) : Nat → Nat
  | 0 => 0
  | k + 1 => zcn p k + @ite _ (p k) (Classical.propDecidable _) 1 0
theorem zcn_t {p : Nat → Prop} {k : Nat} (h : p k) : zcn p (k + 1) = zcn p k + 1 := by
  show zcn p k + @ite _ (p k) (Classical.propDecidable _) 1 0 = _
  rw [if_pos h]
theorem zcn_f {p : Nat → Prop} {k : Nat} (h : ¬ p k) : zcn p (k + 1) = zcn p k := by
  show zcn p k + @ite _ (p k) (Classical.propDecidable _) 1 0 = _
  rw [if_neg h]
  rfl
theorem zcn_le (p : Nat → Prop) (k : Nat) : zcn p k ≤ k := by
  induction k with
  | zero => exact Nat.le_refl _
  | succ k ih =>
    by_cases h : p k
    · rw [zcn_t h]; omega
    · rw [zcn_f h]; omega
theorem zcn_congr {p q : Nat → Prop} {k : Nat} (h : ∀ i, i < k → (p i ↔ q i)) : zcn p k = zcn q k := by
  induction k with
  | zero => rfl
  | succ k ih =>
    have e := ih (fun i hi => h i (by omega))
    by_cases hk : p k
    · rw [zcn_t hk, zcn_t ((h k (by omega)).mp hk), e]
    · rw [zcn_f hk, zcn_f (fun q => hk ((h k (by omega)).mpr q)), e]
theorem zc_zero (n : Nat) : zc n 0 = 0 := by
  induction n with
  | zero => rfl
  | succ n ih =>
    show zc n 0 + ((0 : Nat).testBit n).toNat = 0
    rw [ih, Nat.zero_testBit]
    rfl
theorem zc_one {n m x : Nat} (hm : m < 2 ^ n) (hx : m.testBit x = true) : zc n m = 1 ↔ m = 2 ^ x := by
  have hxn : x < n := by
    rcases Nat.lt_or_ge x n with q | q
    · exact q
    · rw [z_tb_big hm q] at hx; cases hx
  constructor
  · intro h
    apply z_ext hm (z_pw hxn)
    intro i hi
    rw [z_tb_pow]
    by_cases hix : i = x
    · subst hix; rw [hx]; simp
    · cases hb : m.testBit i with
      | false => simp [hix]
      | true =>
        exfalso
        have h1 := zc_lt (n := n) (a := 2 ^ x) (b := m) (x := i) (fun j _ hj => by
          rw [z_tb_pow] at hj
          rw [of_decide_eq_true hj]; exact hx) hi hb (by rw [z_tb_pow]; simp [hix])
        have h2 := zc_pos (n := n) (m := 2 ^ x) hxn (by rw [z_tb_pow]; simp)
        omega
  · intro h
    rw [h]
    have h2 := zc_pos (n := n) (m := 2 ^ x) hxn (by rw [z_tb_pow]; simp)
    have : zc n (2 ^ x) ≤ 1 := by
      have h3 := z_zc_add x (n - x) 0 1 (Nat.two_pow_pos x)
      rw [show x + (n - x) = n by omega, Nat.mul_one, Nat.add_zero, zc_zero] at h3
      rw [h3, show (1 : Nat) = 2 ^ 1 * 0 + 1 from rfl, show n - x = 1 + (n - x - 1) by omega, z_zc_add 1 (n - x - 1) 1 0 (by decide), zc_zero]
      decide
    omega
section M3
variable {d m s n : Nat} {t : Nat → Nat → Nat} {iv : Nat → Nat} {S : zS} {I : zI} {J : zJ}
theorem z_lt24 {a n : Nat} (hn : n ≤ 20) (ha : a < 2 ^ n) : a < 2 ^ 24 := Nat.lt_of_lt_of_le ha (Nat.pow_le_pow_right (by decide) (by omega))
/-- bits of a set of n places -/
theorem zc24 {a n : Nat} (hn : n ≤ 20) (ha : a < 2 ^ n) : zc 24 a = zc n a := z_zc_big ha (by omega)
theorem m_bits {a : Nat} (hd : 1 < d) (hn : n ≤ 20) (ha : a < 2 ^ n) : z_ev d i_X12_bits [.int (nI a)] S I J (some (.int (nI (zc n a)))) S I J := by
  obtain ⟨d, rfl⟩ := z_dep (d := d) (by omega)
  refine e_X12_bits (b_X12_bits_0 ⟨_, _, _, _, ev_bitCount (by omega) (z_lt24 hn ha), ?_⟩)
  exact b_X12_bits_4 ⟨by rw [zc24 hn ha], rfl, rfl, rfl⟩
noncomputable def ctr (n : Nat) (t : Nat → Nat → Nat) (iv : Nat → Nat) : Nat := zcn (fun x => cls n t iv x = 2 ^ x) n
noncomputable def ncl (n : Nat) (t : Nat → Nat → Nat) (iv : Nat → Nat) : Nat := zcn (fun x => cls n t iv x &&& (2 ^ x - 1) = 0) n
noncomputable def dset (n : Nat) (t : Nat → Nat → Nat) (iv : Nat → Nat) : Nat := zset n (fun j => ∃ x y, x < n ∧ y < n ∧ t (t (iv x) (iv y)) (t x y) = j)
theorem cls_self (hg : Grp n t iv) {x : Nat} (hx : x < n) : (cls n t iv x).testBit x = true := cls_bit.mpr ⟨0, hg.pos, by rw [hg.i0, hg.l0 hx, hg.r0 hx]⟩
theorem m_centre (hd : 3 < d) (h : MS S I m s n t) (hg : Grp n t iv) : z_ev d i_X12_centre [.ref m, .int (nI s)] S I J (some (.int (nI (ctr n t iv)))) S I J := by
  obtain ⟨d, rfl⟩ := z_dep (d := d) (by omega)
  have hK := h.1.1
  have hn := h.2.2.1.2.1
  refine e_X12_centre (b_X12_centre_0 ?_)
  suffices H : ∀ k, k ≤ n → ∀ x2 x3, x2 = nI (zcn (fun x => cls n t iv x = 2 ^ x) k) → x3 = nI k → Go d i_X12_centre 4 [.ref m, .int (nI s), .int x2, .int x3] [] S I J (z_eq (some (.int (nI (ctr n t iv)))) S I J) from H 0 (by omega) _ _ rfl rfl
  refine z_up_to n ?_ ?_
  · rintro x2 x3 rfl rfl
    refine b_X12_centre_4 hK ⟨_, _, _, _, m_many (by omega) h, ?_⟩
    exact b_X12_centre_10 (fun _ => b_X12_centre_40 ⟨rfl, rfl, rfl, rfl⟩) (fun c => absurd (nI_le (Nat.le_refl _) (by omega)) c)
  · rintro k hk ih x2 x3 rfl rfl
    refine b_X12_centre_4 hK ⟨_, _, _, _, m_many (by omega) h, ?_⟩
    refine b_X12_centre_10 (fun c => absurd c (nI_ge hk (by omega))) (fun _ => ?_)
    have hc := cls_lt hg hk
    refine b_X12_centre_13 hK ⟨_, _, _, _, m_classBits (by omega) h hg hk, ?_⟩
    refine b_X12_centre_20 ⟨_, _, _, _, m_bits (by omega) hn hc, ?_⟩
    have hz := zc_le n (cls n t iv k)
    refine b_X12_centre_23 (fun c => b_X12_centre_31 (ih _ _ ?_ (nI_1 k))) (fun c => b_X12_centre_27 (ih _ _ ?_ (nI_1 k)))
    · rw [z_lit 1, nI_eq (by omega) (by decide), zc_one hc (cls_self hg hk)] at c
      rw [z_lit 0, nI_add, zcn_f (p := fun x => cls n t iv x = 2 ^ x) c]
      rfl
    · rw [z_lit 1, nI_eq (by omega) (by decide), zc_one hc (cls_self hg hk)] at c
      rw [z_lit 1, nI_add, zcn_t (p := fun x => cls n t iv x = 2 ^ x) c]
theorem m_classes (hd : 3 < d) (h : MS S I m s n t) (hg : Grp n t iv) : z_ev d i_X12_classes [.ref m, .int (nI s)] S I J (some (.int (nI (ncl n t iv)))) S I J := by
  obtain ⟨d, rfl⟩ := z_dep (d := d) (by omega)
  have hK := h.1.1
  have hn := h.2.2.1.2.1
  refine e_X12_classes (b_X12_classes_0 ?_)
  suffices H : ∀ k, k ≤ n → ∀ x2 x3, x2 = nI (zcn (fun x => cls n t iv x &&& (2 ^ x - 1) = 0) k) → x3 = nI k → Go d i_X12_classes 4 [.ref m, .int (nI s), .int x2, .int x3] [] S I J (z_eq (some (.int (nI (ncl n t iv)))) S I J) from H 0 (by omega) _ _ rfl rfl
  refine z_up_to n ?_ ?_
  · rintro x2 x3 rfl rfl
    refine b_X12_classes_4 hK ⟨_, _, _, _, m_many (by omega) h, ?_⟩
    exact b_X12_classes_10 (fun _ => b_X12_classes_42 ⟨rfl, rfl, rfl, rfl⟩) (fun c => absurd (nI_le (Nat.le_refl _) (by omega)) c)
  · rintro k hk ih x2 x3 rfl rfl
    refine b_X12_classes_4 hK ⟨_, _, _, _, m_many (by omega) h, ?_⟩
    refine b_X12_classes_10 (fun c => absurd c (nI_ge hk (by omega))) (fun _ => ?_)
    have hc := cls_lt hg hk
    have hp := Nat.two_pow_pos k
    have e1 : nI (cls n t iv k) &&& ((1 <<< (nI k &&& 31)) - 1) = nI (cls n t iv k &&& (2 ^ k - 1)) := by
      rw [z_shl1 (by omega), z_lit 1, pk_sub (by omega), z_and]
    have hl : cls n t iv k &&& (2 ^ k - 1) < 2 ^ 31 := Nat.lt_of_le_of_lt Nat.and_le_left (z_lt31 hn hc)
    refine b_X12_classes_13 hK ⟨_, _, _, _, m_classBits (by omega) h hg hk, ?_⟩
    refine b_X12_classes_20 (fun c => b_X12_classes_33 (ih _ _ ?_ (nI_1 k))) (fun c => b_X12_classes_29 (ih _ _ ?_ (nI_1 k)))
    · rw [e1, z_eq0 hl] at c
      rw [z_lit 0, nI_add, zcn_f (p := fun x => cls n t iv x &&& (2 ^ x - 1) = 0) c]
      rfl
    · rw [e1, z_eq0 hl] at c
      rw [z_lit 1, nI_add, zcn_t (p := fun x => cls n t iv x &&& (2 ^ x - 1) = 0) c]
theorem m_derived (hd : 4 < d) (h : MS S I m s n t) (hg : Grp n t iv) : z_ev d i_X12_derived [.ref m, .int (nI s)] S I J (some (.int (nI (zc n (gen n t (dset n t iv)))))) S I J := by
  obtain ⟨d, rfl⟩ := z_dep (d := d) (by omega)
  have hK := h.1.1
  have hT := h.2.2.1
  have hn := hT.2.1
  have e1 : (665 : Int32) * nI s = nI (665 * s) := by rw [z_lit 665, pk_mul]
  refine e_X12_derived (b_X12_derived_0 ?_)
  suffices H : ∀ k, k ≤ n → ∀ x2 x3 v4 v5, x2 = nI (zset n (fun j => ∃ x y, x < n ∧ y < n ∧ t (t (iv x) (iv y)) (t x y) = j ∧ x < k)) → x3 = nI k → Go d i_X12_derived 4 [.ref m, .int (nI s), .int x2, .int x3, v4, v5] [] S I J (z_eq (some (.int (nI (zc n (gen n t (dset n t iv)))))) S I J) by
    refine H 0 (by omega) _ _ _ _ ?_ rfl
    rw [zset_none (fun i _ ⟨x, y, _, _, _, h⟩ => by omega)]
    rfl
  refine z_up_to n ?_ ?_
  · rintro x2 x3 v4 v5 rfl rfl
    refine b_X12_derived_4 hK ⟨_, _, _, _, m_many (by omega) h, ?_⟩
    refine b_X12_derived_10 (fun _ => ?_) (fun c => absurd (nI_le (Nat.le_refl _) (by omega)) c)
    have e2 : zset n (fun j => ∃ x y, x < n ∧ y < n ∧ t (t (iv x) (iv y)) (t x y) = j ∧ x < n) = dset n t iv := zset_congr (fun i _ => ⟨fun ⟨x, y, h1, h2, h3, _⟩ => ⟨x, y, h1, h2, h3⟩, fun ⟨x, y, h1, h2, h3⟩ => ⟨x, y, h1, h2, h3, h1⟩⟩)
    rw [e2]
    refine b_X12_derived_86 hK ⟨_, _, _, _, m_subgroupOf (by omega) h hg (zset_lt _ _), ?_⟩
    exact b_X12_derived_92 ⟨_, _, _, _, m_bits (by omega) hn (gen_lt _ _ _), b_X12_derived_95 ⟨rfl, rfl, rfl, rfl⟩⟩
  · rintro k hk ih x2 x3 v4 v5 rfl rfl
    refine b_X12_derived_4 hK ⟨_, _, _, _, m_many (by omega) h, ?_⟩
    refine b_X12_derived_10 (fun c => absurd c (nI_ge hk (by omega))) (fun _ => b_X12_derived_13 ?_)
    suffices H2 : ∀ l, l ≤ n → ∀ x2 x4 v5, x2 = nI (zset n (fun j => ∃ x y, x < n ∧ y < n ∧ t (t (iv x) (iv y)) (t x y) = j ∧ (x < k ∨ (x = k ∧ y < l)))) → x4 = nI l → Go d i_X12_derived 16 [.ref m, .int (nI s), .int x2, .int (nI k), .int x4, v5] [] S I J (z_eq (some (.int (nI (zc n (gen n t (dset n t iv)))))) S I J) by
      refine H2 0 (by omega) _ _ _ ?_ rfl
      exact congrArg nI (zset_congr (fun i _ => ⟨fun ⟨x, y, h1, h2, h3, h4⟩ => ⟨x, y, h1, h2, h3, Or.inl h4⟩, fun ⟨x, y, h1, h2, h3, h4⟩ => ⟨x, y, h1, h2, h3, by omega⟩⟩))
    refine z_up_to n ?_ ?_
    · rintro x2 x4 v5 rfl rfl
      refine b_X12_derived_16 hK ⟨_, _, _, _, m_many (by omega) h, ?_⟩
      refine b_X12_derived_23 (fun _ => b_X12_derived_80 (ih _ _ _ _ ?_ (nI_1 k))) (fun c => absurd (nI_le (Nat.le_refl _) (by omega)) c)
      exact congrArg nI (zset_congr (fun i _ => ⟨fun ⟨x, y, h1, h2, h3, h4⟩ => ⟨x, y, h1, h2, h3, by omega⟩, fun ⟨x, y, h1, h2, h3, h4⟩ => ⟨x, y, h1, h2, h3, by omega⟩⟩))
    · rintro l hl ih2 x2 x4 v5 rfl rfl
      refine b_X12_derived_16 hK ⟨_, _, _, _, m_many (by omega) h, ?_⟩
      refine b_X12_derived_23 (fun c => absurd c (nI_ge hl (by omega))) (fun _ => ?_)
      have hik := hg.il hk
      have hil := hg.il hl
      have h1 := hg.lt hik hil
      have h2 := hg.lt hk hl
      have h3 := hg.lt h1 h2
      refine b_X12_derived_26 hK ⟨_, _, _, _, by rw [e1]; exact m_inverse (by omega) h hg hk, ?_⟩
      refine b_X12_derived_38 hK ⟨_, _, _, _, by rw [e1]; exact m_inverse (by omega) h hg hl, ?_⟩
      refine b_X12_derived_49 hK ⟨_, _, _, _, m_times (by omega) h hik hil, ?_⟩
      refine b_X12_derived_52 hK ⟨_, _, _, _, m_times (by omega) h hk hl, ?_⟩
      refine b_X12_derived_68 hK ⟨_, _, _, _, m_times (by omega) h h1 h2, ?_⟩
      refine b_X12_derived_71 (ih2 _ _ _ ?_ (nI_1 l))
      rw [z_shl1 (by omega), z_or]
      refine congrArg nI (zset_add h3 (fun i _ => ⟨?_, ?_⟩)).symm
      · rintro ⟨x, y, q1, q2, q3, q4⟩
        by_cases hxy : x = k ∧ y = l
        · obtain ⟨rfl, rfl⟩ := hxy
          exact Or.inr q3.symm
        · exact Or.inl ⟨x, y, q1, q2, q3, by omega⟩
      · rintro (⟨x, y, q1, q2, q3, q4⟩ | rfl)
        · exact ⟨x, y, q1, q2, q3, by omega⟩
        · exact ⟨k, l, hk, hl, rfl, Or.inr ⟨rfl, by omega⟩⟩
theorem m_common : ∀ (b a d : Nat), b < d → a < 2 ^ 31 → b < 2 ^ 31 → z_ev d i_X12_common [.int (nI a), .int (nI b)] S I J (some (.int (nI (Nat.gcd a b)))) S I J := by
  intro b
  induction b using Nat.strongRecOn with
  | ind b ih =>
    intro a d hd ha hb
    obtain ⟨d, rfl⟩ := z_dep (d := d) (by omega)
    refine e_X12_common (b_X12_common_0 (fun c => ?_) (fun c => ?_))
    · rw [z_eq0 hb] at c
      refine b_X12_common_8 (by rw [z_eq0 hb]; exact c) ⟨_, _, _, _, by rw [pk_rem ha (by omega) hb]; exact ih (a % b) (Nat.mod_lt _ (by omega)) b d (by have := Nat.mod_lt a (show 0 < b by omega); omega) hb (by have := Nat.mod_lt a (show 0 < b by omega); omega), ?_⟩
      refine b_X12_common_15 ⟨?_, rfl, rfl, rfl⟩
      rw [Nat.gcd_comm a b, Nat.gcd_rec b a, Nat.gcd_comm]
    · rw [z_eq0 hb] at c
      subst c
      refine b_X12_common_4 ⟨?_, rfl, rfl, rfl⟩
      rw [Nat.gcd_zero_right]
end M3

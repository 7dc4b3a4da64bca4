/-! PURE, base: small numbers, bits -/
theorem z_lit (n : Nat) : (OfNat.ofNat n : Int32) = nI n := rfl
theorem z_s31 : ∀ n, n < 32 → ((nI n &&& 31).toBitVec.smod 32).toNat = n := by decide +kernel
theorem z_shl {m x : Nat} (hx : x < 31) (h : m * 2 ^ x < 2 ^ 32) : nI m <<< (nI x &&& 31) = nI (m * 2 ^ x) := pk_shlN _ x (z_s31 x (by omega)) h
theorem z_shl1 {x : Nat} (hx : x < 31) : (1 : Int32) <<< (nI x &&& 31) = nI (2 ^ x) := by
  have h : 1 * 2 ^ x < 2 ^ 32 := by
    rw [Nat.one_mul]
    exact Nat.pow_lt_pow_right (by decide) (by omega)
  have := z_shl (m := 1) hx h
  rw [Nat.one_mul] at this
  exact this
theorem z_shr {m x : Nat} (hm : m < 2 ^ 31) (hx : x < 31) : nI m >>> (nI x &&& 31) = nI (m / 2 ^ x) := pk_shrN hm _ x (z_s31 x (by omega))
theorem z_and1 {m : Nat} (hm : m < 2 ^ 32) : nI m &&& 1 = nI (m % 2) := pk_andN hm 1 (by decide)
theorem z_bit {m x : Nat} (hm : m < 2 ^ 31) (hx : x < 31) : (nI m >>> (nI x &&& 31)) &&& 1 = nI (m.testBit x).toNat := by
  rw [z_shr hm hx, z_and1 (by have := Nat.div_le_self m (2 ^ x); omega), Nat.testBit_eq_decide_div_mod_eq]
  congr 1
  rcases Nat.mod_two_eq_zero_or_one (m / 2 ^ x) with h | h <;> simp [h]
theorem z_bit0 {m x : Nat} (hm : m < 2 ^ 31) (hx : x < 31) : ((nI m >>> (nI x &&& 31)) &&& 1) = 0 ↔ m.testBit x = false := by
  rw [z_bit hm hx]
  cases m.testBit x
  · exact ⟨fun _ => rfl, fun _ => rfl⟩
  · exact ⟨fun h => absurd h (by decide), fun h => by cases h⟩
theorem z_bit1 {m x : Nat} (hm : m < 2 ^ 31) (hx : x < 31) : ((nI m >>> (nI x &&& 31)) &&& 1) = 1 ↔ m.testBit x = true := by
  rw [z_bit hm hx]
  cases m.testBit x
  · exact ⟨fun h => absurd h (by decide), fun h => by cases h⟩
  · exact ⟨fun _ => rfl, fun _ => rfl⟩
theorem z_bv (n : Nat) : (nI n).toBitVec = BitVec.ofNat 32 n := rfl
theorem z_inj {a b : Int32} (h : a.toBitVec = b.toBitVec) : a = b := Int32.toBitVec_inj.mp h
theorem z_or (a b : Nat) : nI a ||| nI b = nI (a ||| b) := by
  apply z_inj
  rw [Int32.toBitVec_or, z_bv, z_bv, z_bv]
  apply BitVec.eq_of_getLsbD_eq
  intro i hi
  simp [BitVec.getLsbD_or, BitVec.getLsbD_ofNat, Nat.testBit_or, hi]
theorem z_and (a b : Nat) : nI a &&& nI b = nI (a &&& b) := by
  apply z_inj
  rw [Int32.toBitVec_and, z_bv, z_bv, z_bv]
  apply BitVec.eq_of_getLsbD_eq
  intro i hi
  simp [BitVec.getLsbD_and, BitVec.getLsbD_ofNat, Nat.testBit_and, hi]
theorem z_xor (a b : Nat) : nI a ^^^ nI b = nI (a ^^^ b) := by
  apply z_inj
  rw [Int32.toBitVec_xor, z_bv, z_bv, z_bv]
  apply BitVec.eq_of_getLsbD_eq
  intro i hi
  simp [BitVec.getLsbD_xor, BitVec.getLsbD_ofNat, Nat.testBit_xor, hi]
/-- what of a isn't in b -/
def zd (a b : Nat) : Nat := a ^^^ (a &&& b)
theorem zd_bit (a b i : Nat) : (zd a b).testBit i = (a.testBit i && !(b.testBit i)) := by
  unfold zd
  rw [Nat.testBit_xor, Nat.testBit_and]
  cases a.testBit i <;> cases b.testBit i <;> rfl
theorem z_andn (a b : Nat) : nI a &&& (nI b ^^^ (-1)) = nI (zd a b) := by
  apply z_inj
  rw [Int32.toBitVec_and, Int32.toBitVec_xor, z_bv, z_bv, z_bv]
  apply BitVec.eq_of_getLsbD_eq
  intro i hi
  have h1 : (Int32.toBitVec (-1)).getLsbD i = true := (by decide : ∀ i, i < 32 → (Int32.toBitVec (-1)).getLsbD i = true) i hi
  rw [BitVec.getLsbD_and, BitVec.getLsbD_xor, h1, BitVec.getLsbD_ofNat, BitVec.getLsbD_ofNat, BitVec.getLsbD_ofNat, zd_bit]
  simp [hi]
theorem z_eq0 {m : Nat} (hm : m < 2 ^ 31) : nI m = 0 ↔ m = 0 := by
  rw [z_lit 0, nI_eq hm (by decide)]
theorem zd_lt {a b n : Nat} (h : a < 2 ^ n) : zd a b < 2 ^ n := by
  apply Nat.lt_pow_two_of_testBit
  intro i hi
  rw [zd_bit, Nat.testBit_lt_two_pow (Nat.lt_of_lt_of_le h (Nat.pow_le_pow_right (by decide) hi))]
  rfl
theorem z_or_lt {a b n : Nat} (h1 : a < 2 ^ n) (h2 : b < 2 ^ n) : a ||| b < 2 ^ n := Nat.or_lt_two_pow h1 h2
theorem z_p20 {m : Nat} (h : m < 2 ^ 20) : m < 2 ^ 31 := Nat.lt_trans h (by decide)
theorem z_pw {x n : Nat} (h : x < n) : 2 ^ x < 2 ^ n := Nat.pow_lt_pow_right (by decide) h
theorem z_ext {a b n : Nat} (h1 : a < 2 ^ n) (h2 : b < 2 ^ n) (h : ∀ i, i < n → a.testBit i = b.testBit i) : a = b := by
  apply Nat.eq_of_testBit_eq
  intro i
  by_cases hi : i < n
  · exact h i hi
  · rw [Nat.testBit_lt_two_pow (Nat.lt_of_lt_of_le h1 (Nat.pow_le_pow_right (by decide) (by omega))), Nat.testBit_lt_two_pow (Nat.lt_of_lt_of_le h2 (Nat.pow_le_pow_right (by decide) (by omega)))]
theorem z_tb_pow (x i : Nat) : (2 ^ x).testBit i = decide (i = x) := by
  rw [Nat.testBit_two_pow]
  by_cases h : x = i
  · simp [h]
  · have h' : ¬ i = x := fun e => h e.symm
    simp [h, h']
theorem z_tb_or_pow (m x i : Nat) : (m ||| 2 ^ x).testBit i = (m.testBit i || decide (i = x)) := by
  rw [Nat.testBit_or, z_tb_pow]
theorem z_tb_big {m n i : Nat} (h : m < 2 ^ n) (hi : n ≤ i) : m.testBit i = false := Nat.testBit_lt_two_pow (Nat.lt_of_lt_of_le h (Nat.pow_le_pow_right (by decide) hi))
/-- an int that is one of n places, or not -/
theorem z_elem (x : Int32) {n : Nat} (hn : n < 2 ^ 31) : (∃ k, k < n ∧ x = nI k) ∨ ((x < 0 ∨ nI n ≤ x) ∧ ∀ k, k < n → x ≠ nI k) := by
  rcases pk_ix x hn with h | h | ⟨j, h1, h2⟩
  · refine Or.inr ⟨Or.inl h, fun k hk e => ?_⟩
    subst e
    exact nI_pos (by omega) h
  · refine Or.inr ⟨Or.inr h, fun k hk e => ?_⟩
    subst e
    exact nI_ge hk hn h
  · exact Or.inl ⟨j, h1, h2⟩

/-! PURE: how many bits (Integer.bitCount) -/
/-- how many of the first n places are in m -/
def zc : Nat → Nat → Nat
  | 0, _ => 0
  | n + 1, m => zc n m + (m.testBit n).toNat
theorem z_cat8 {a b c d : Nat} (ha : a < 256) (hc : c < 256) : (a + 256 * b) &&& (c + 256 * d) = (a &&& c) + 256 * (b &&& d) := by
  have e : ∀ x y : Nat, x + 256 * y = 2 ^ 8 * y + x := fun x y => by omega
  have hac : a &&& c < 2 ^ 8 := Nat.and_lt_two_pow a hc
  apply Nat.eq_of_testBit_eq
  intro i
  rw [Nat.testBit_and, e, e, e, Nat.testBit_two_pow_mul_add _ ha, Nat.testBit_two_pow_mul_add _ hc, Nat.testBit_two_pow_mul_add _ hac]
  by_cases hi : i < 8
  · simp [hi, Nat.testBit_and]
  · simp [hi, Nat.testBit_and]
def z_p1 (b : Nat) : Nat := b - ((b / 2) &&& 85)
def z_p2 (b : Nat) : Nat := (b &&& 51) + ((b / 4) &&& 51)
def z_p3 (b : Nat) : Nat := (b + b / 16) &&& 15
theorem z_p1_a : ∀ b, b < 256 → ∀ r, r < 2 → (b / 2 + 128 * r) &&& 85 = (b / 2) &&& 85 := by decide +kernel
theorem z_p1_b : ∀ b, b < 256 → (b / 2) &&& 85 ≤ b ∧ z_p1 b ≤ 170 := by decide +kernel
theorem z_p2_a : ∀ b, b < 256 → ∀ r, r < 4 → (b / 4 + 64 * r) &&& 51 = (b / 4) &&& 51 := by decide +kernel
theorem z_p2_b : ∀ b, b < 256 → z_p2 (z_p1 b) ≤ 68 ∧ z_p2 (z_p1 b) % 16 ≤ 4 := by decide +kernel
theorem z_p3_a : ∀ b, b ≤ 68 → ∀ r, r ≤ 4 → (b + (b / 16 + 16 * r)) &&& 15 = (b + b / 16) &&& 15 := by decide +kernel
theorem z_p3_b : ∀ b, b < 256 → z_p3 (z_p2 (z_p1 b)) = zc 8 b := by decide +kernel
theorem z_zc8 : ∀ b, b < 256 → zc 8 b ≤ 8 := by decide +kernel
theorem z_zc_ext {n a b : Nat} (h : ∀ i, i < n → a.testBit i = b.testBit i) : zc n a = zc n b := by
  induction n with
  | zero => rfl
  | succ n ih =>
    show zc n a + _ = zc n b + _
    rw [ih (fun i hi => h i (by omega)), h n (by omega)]
theorem z_zc_add (k n a b : Nat) (ha : a < 2 ^ k) : zc (k + n) (2 ^ k * b + a) = zc k a + zc n b := by
  induction n with
  | zero =>
    show zc k (2 ^ k * b + a) = zc k a + 0
    rw [Nat.add_zero]
    exact z_zc_ext (fun i hi => by rw [Nat.testBit_two_pow_mul_add _ ha, if_pos hi])
  | succ n ih =>
    show zc (k + n) (2 ^ k * b + a) + ((2 ^ k * b + a).testBit (k + n)).toNat = zc k a + (zc n b + (b.testBit n).toNat)
    rw [ih, Nat.testBit_two_pow_mul_add _ ha, if_neg (by omega), show k + n - k = n by omega]
    omega
theorem z_zc_big {n k m : Nat} (hm : m < 2 ^ n) (hk : n ≤ k) : zc k m = zc n m := by
  obtain ⟨j, rfl⟩ := Nat.exists_eq_add_of_le hk
  induction j with
  | zero => rfl
  | succ j ih =>
    show zc (n + j) m + (m.testBit (n + j)).toNat = zc n m
    rw [ih (by omega), z_tb_big hm (by omega)]
    rfl
theorem z_mask (a b c : Nat) : a + 256 * (b + 256 * c) = a + 256 * b + 65536 * c := by omega
set_option maxHeartbeats 1000000 in
theorem z_pop {m : Nat} (hm : m < 2 ^ 24) :
    ((m - ((m / 2) &&& 1431655765)) &&& 858993459) + (((m - ((m / 2) &&& 1431655765)) / 4) &&& 858993459) = z_p2 (z_p1 (m % 256)) + 256 * (z_p2 (z_p1 (m / 256 % 256)) + 256 * z_p2 (z_p1 (m / 65536))) := by
  have hm' : m < 16777216 := hm
  obtain ⟨b0, h0⟩ : ∃ b, b = m % 256 := ⟨_, rfl⟩
  obtain ⟨b1, h1⟩ : ∃ b, b = m / 256 % 256 := ⟨_, rfl⟩
  obtain ⟨b2, h2⟩ : ∃ b, b = m / 65536 := ⟨_, rfl⟩
  rw [← h0, ← h1, ← h2]
  have g0 : b0 < 256 := by omega
  have g1 : b1 < 256 := by omega
  have g2 : b2 < 256 := by omega
  have em : m = b0 + 256 * (b1 + 256 * b2) := by omega
  have e1 : (m / 2) &&& 1431655765 = ((b0 / 2) &&& 85) + 256 * (((b1 / 2) &&& 85) + 256 * ((b2 / 2) &&& 85)) := by
    rw [show m / 2 = (b0 / 2 + 128 * (b1 % 2)) + 256 * ((b1 / 2 + 128 * (b2 % 2)) + 256 * (b2 / 2)) by omega, show (1431655765 : Nat) = 85 + 256 * (85 + 256 * (85 + 256 * 85)) by rfl, z_cat8 (by omega) (by omega), z_cat8 (by omega) (by omega), z_p1_a b0 g0 _ (by omega), z_p1_a b1 g1 _ (by omega)]
    rw [show b2 / 2 = b2 / 2 + 256 * 0 by omega, z_cat8 (by omega) (by omega), Nat.zero_and]
    simp
  have p0 := z_p1_b b0 g0
  have p1 := z_p1_b b1 g1
  have p2 := z_p1_b b2 g2
  have e2 : m - ((m / 2) &&& 1431655765) = z_p1 b0 + 256 * (z_p1 b1 + 256 * z_p1 b2) := by
    rw [e1]
    unfold z_p1
    omega
  rw [e2]
  obtain ⟨c0, k0⟩ : ∃ c, c = z_p1 b0 := ⟨_, rfl⟩
  obtain ⟨c1, k1⟩ : ∃ c, c = z_p1 b1 := ⟨_, rfl⟩
  obtain ⟨c2, k2⟩ : ∃ c, c = z_p1 b2 := ⟨_, rfl⟩
  have r0 : c0 < 256 := by rw [k0]; omega
  have r1 : c1 < 256 := by rw [k1]; omega
  have r2 : c2 < 256 := by rw [k2]; omega
  rw [← k0, ← k1, ← k2]
  have e3 : (c0 + 256 * (c1 + 256 * c2)) &&& 858993459 = (c0 &&& 51) + 256 * ((c1 &&& 51) + 256 * (c2 &&& 51)) := by
    rw [show (858993459 : Nat) = 51 + 256 * (51 + 256 * (51 + 256 * 51)) by rfl, z_cat8 r0 (by omega), z_cat8 r1 (by omega)]
    rw [show c2 = c2 + 256 * 0 by omega, z_cat8 (by omega) (by omega), Nat.zero_and]
    simp
  have e4 : ((c0 + 256 * (c1 + 256 * c2)) / 4) &&& 858993459 = ((c0 / 4) &&& 51) + 256 * (((c1 / 4) &&& 51) + 256 * ((c2 / 4) &&& 51)) := by
    rw [show (c0 + 256 * (c1 + 256 * c2)) / 4 = (c0 / 4 + 64 * (c1 % 4)) + 256 * ((c1 / 4 + 64 * (c2 % 4)) + 256 * (c2 / 4)) by omega, show (858993459 : Nat) = 51 + 256 * (51 + 256 * (51 + 256 * 51)) by rfl, z_cat8 (by omega) (by omega), z_cat8 (by omega) (by omega), z_p2_a c0 r0 _ (by omega), z_p2_a c1 r1 _ (by omega)]
    rw [show c2 / 4 = c2 / 4 + 256 * 0 by omega, z_cat8 (by omega) (by omega), Nat.zero_and]
    simp
  rw [e3, e4]
  unfold z_p2
  omega
theorem z_pop3 {d0 d1 d2 : Nat} (h0 : d0 ≤ 68) (h1 : d1 ≤ 68) (h2 : d2 ≤ 68) (q1 : d1 % 16 ≤ 4) (q2 : d2 % 16 ≤ 4) : ((d0 + 256 * (d1 + 256 * d2)) + (d0 + 256 * (d1 + 256 * d2)) / 16) &&& 252645135 = z_p3 d0 + 256 * (z_p3 d1 + 256 * z_p3 d2) := by
  rw [show (d0 + 256 * (d1 + 256 * d2)) + (d0 + 256 * (d1 + 256 * d2)) / 16 = (d0 + (d0 / 16 + 16 * (d1 % 16))) + 256 * ((d1 + (d1 / 16 + 16 * (d2 % 16))) + 256 * (d2 + d2 / 16)) by omega, show (252645135 : Nat) = 15 + 256 * (15 + 256 * (15 + 256 * 15)) by rfl, z_cat8 (by omega) (by omega), z_cat8 (by omega) (by omega), z_p3_a d0 h0 _ q1, z_p3_a d1 h1 _ q2]
  rw [show d2 + d2 / 16 = (d2 + d2 / 16) + 256 * 0 by omega, z_cat8 (by omega) (by omega), Nat.zero_and]
  simp [z_p3]
theorem z_fin {a b c : Nat} (h0 : a ≤ 8) (h1 : b ≤ 8) (h2 : c ≤ 8) : (a + 256 * (b + 256 * c) + (a + 256 * (b + 256 * c)) / 256 + (a + 256 * (b + 256 * c) + (a + 256 * (b + 256 * c)) / 256) / 65536) % 64 = a + (b + c) := by
  have e1 : (a + 256 * (b + 256 * c)) / 256 = b + 256 * c := by omega
  rw [e1]
  have e2 : (a + 256 * (b + 256 * c) + (b + 256 * c)) / 65536 = c := by omega
  rw [e2]
  omega
theorem z_and63 (n : Nat) : n &&& 63 = n % 64 := Nat.and_two_pow_sub_one_eq_mod n 6
set_option maxHeartbeats 1000000 in
/-- Integer.bitCount -/
theorem ev_bitCount {d m : Nat} {S : zS} {I : zI} {J : zJ} (hd : 0 < d) (hm : m < 2 ^ 24) : z_ev d i_J6_bitCount_0f7a4 [.int (nI m)] S I J (some (.int (nI (zc 24 m)))) S I J := by
  obtain ⟨d, rfl⟩ : ∃ e, d = e + 1 := ⟨d - 1, by omega⟩
  have hm' : m < 16777216 := hm
  refine e_J6_bitCount_0f7a4 (b_J6_bitCount_0f7a4_0 rfl rfl rfl rfl ⟨?_, rfl, rfl, rfl⟩)
  have u1 : (Int32.toUInt32 (nI m) >>> (Int32.toUInt32 (1 : Int32) &&& Int32.toUInt32 31)).toInt32 = nI (m / 2) := pk_ushrN (by omega) 1 1 (by decide)
  have g1 : (m / 2) &&& 1431655765 ≤ m / 2 := Nat.and_le_left
  have u2 : nI m - (nI (m / 2) &&& (1431655765 : Int32)) = nI (m - ((m / 2) &&& 1431655765)) := by
    rw [z_lit 1431655765, z_and, pk_sub (by omega)]
  rw [u1, u2]
  obtain ⟨s1, hs1⟩ : ∃ s, s = m - ((m / 2) &&& 1431655765) := ⟨_, rfl⟩
  have hp := z_pop hm
  rw [← hs1] at hp ⊢
  have u3 : (Int32.toUInt32 (nI s1) >>> (Int32.toUInt32 (2 : Int32) &&& Int32.toUInt32 31)).toInt32 = nI (s1 / 4) := pk_ushrN (by omega) 2 2 (by decide)
  have u4 : (nI s1 &&& (858993459 : Int32)) + (nI (s1 / 4) &&& (858993459 : Int32)) = nI (z_p2 (z_p1 (m % 256)) + 256 * (z_p2 (z_p1 (m / 256 % 256)) + 256 * z_p2 (z_p1 (m / 65536)))) := by
    rw [z_lit 858993459, z_and, z_and, nI_add, hp]
  rw [u3, u4]
  have b0 := z_p2_b (m % 256) (by omega)
  have b1 := z_p2_b (m / 256 % 256) (by omega)
  have b2 := z_p2_b (m / 65536) (by omega)
  have w0 := z_p3_b (m % 256) (by omega)
  have w1 := z_p3_b (m / 256 % 256) (by omega)
  have w2 := z_p3_b (m / 65536) (by omega)
  have v0 := z_zc8 (m % 256) (by omega)
  have v1 := z_zc8 (m / 256 % 256) (by omega)
  have v2 := z_zc8 (m / 65536) (by omega)
  have h3 := z_pop3 b0.1 b1.1 b2.1 b1.2 b2.2
  rw [w0, w1, w2] at h3
  obtain ⟨s2, hs2⟩ : ∃ s, s = z_p2 (z_p1 (m % 256)) + 256 * (z_p2 (z_p1 (m / 256 % 256)) + 256 * z_p2 (z_p1 (m / 65536))) := ⟨_, rfl⟩
  rw [← hs2] at h3 ⊢
  have l2 : s2 < 2 ^ 24 := by
    have : s2 < 16777216 := by omega
    exact this
  have l2' : s2 < 16777216 := l2
  have u5 : (Int32.toUInt32 (nI s2) >>> (Int32.toUInt32 (4 : Int32) &&& Int32.toUInt32 31)).toInt32 = nI (s2 / 16) := pk_ushrN (by omega) 4 4 (by decide)
  have u6 : (nI s2 + nI (s2 / 16)) &&& (252645135 : Int32) = nI (zc 8 (m % 256) + 256 * (zc 8 (m / 256 % 256) + 256 * zc 8 (m / 65536))) := by
    rw [nI_add, z_lit 252645135, z_and, h3]
  rw [u5, u6]
  have u7 : ∀ n : Nat, n < 2 ^ 32 → (Int32.toUInt32 (nI n) >>> (Int32.toUInt32 (8 : Int32) &&& Int32.toUInt32 31)).toInt32 = nI (n / 256) := fun n hn => pk_ushrN hn 8 8 (by decide)
  have u8 : ∀ n : Nat, n < 2 ^ 32 → (Int32.toUInt32 (nI n) >>> (Int32.toUInt32 (16 : Int32) &&& Int32.toUInt32 31)).toInt32 = nI (n / 65536) := fun n hn => pk_ushrN hn 16 16 (by decide)
  rw [u7 _ (by omega), nI_add, u8 _ (by omega), nI_add, z_lit 63, z_and, z_and63]
  refine congrArg (fun k => some (Value.int (nI k))) ?_
  have em : m = 2 ^ 8 * (2 ^ 8 * (m / 65536) + m / 256 % 256) + m % 256 := by
    show m = 256 * (256 * (m / 65536) + m / 256 % 256) + m % 256
    omega
  have ez : zc 24 m = zc 8 (m % 256) + (zc 8 (m / 256 % 256) + zc 8 (m / 65536)) := by
    conv => lhs; rw [em]
    rw [show 24 = 8 + 16 from rfl, z_zc_add 8 16 _ _ (by show m % 256 < 256; omega), show 16 = 8 + 8 from rfl, z_zc_add 8 8 _ _ (by show m / 256 % 256 < 256; omega)]
  rw [ez]
  exact z_fin v0 v1 v2

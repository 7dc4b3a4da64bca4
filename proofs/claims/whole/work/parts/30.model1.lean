/-! THE MODEL: its small functions -/
def MA (S : zS) (m : Nat) : Prop := z_kd S m = 13 ∧ z_kd S (z_rv S m 0) = 100 ∧ z_ln S (z_rv S m 0) = 1995
def MS (S : zS) (I : zI) (m s n : Nat) (t : Nat → Nat → Nat) : Prop := MA S m ∧ s ≤ 2 ∧ Tb n t ∧ I (z_rv S m 0) (665 * s) = nI n ∧ ∀ x, x < n → ∀ y, y < n → I (z_rv S m 0) (665 * s + 265 + 20 * x + y) = nI (t x y)
section M1
variable {d m s n : Nat} {t : Nat → Nat → Nat} {iv : Nat → Nat} {S : zS} {I : zI} {J : zJ}
theorem z_dep (hd : 0 < d) : ∃ e, d = e + 1 := ⟨d - 1, by omega⟩
theorem z_fitb (b : Bool) : z_fit 3 (nI b.toNat) := by
  cases b
  · exact Or.inl rfl
  · exact Or.inr rfl
theorem m_has {a x : Nat} (hd : 0 < d) (ha : a < 2 ^ 31) (hx : x < 31) : z_ev d i_X12_has [.int (nI a), .int (nI x)] S I J (some (.int (nI (a.testBit x).toNat))) S I J := by
  obtain ⟨d, rfl⟩ := z_dep hd
  refine e_X12_has (b_X12_has_0 (fun h => ?_) (fun h => ?_))
  · rw [z_bit1 ha hx, Bool.not_eq_true] at h
    rw [h]
    exact b_X12_has_13 (Or.inl rfl) ⟨rfl, rfl, rfl, rfl⟩
  · rw [z_bit1 ha hx] at h
    rw [h]
    exact b_X12_has_9 (Or.inr rfl) ⟨rfl, rfl, rfl, rfl⟩
theorem m_idx {a N : Nat} {x : Int32} (h : x = nI a) (ha : a < N) (hN : N < 2 ^ 31) : vp_in x N ∧ x.toNatClampNeg = a := by
  subst h
  exact ⟨vp_in_nI ha hN, nI_clamp (by omega)⟩
theorem m_many (hd : 0 < d) (h : MS S I m s n t) : z_ev d i_X12_many [.ref m, .int (nI s)] S I J (some (.int (nI n))) S I J := by
  obtain ⟨d, rfl⟩ := z_dep hd
  obtain ⟨⟨h1, h2, h3⟩, h4, h5, h6, h7⟩ := h
  obtain ⟨k1, k2⟩ := m_idx (a := 665 * s) (N := 1995) (x := 665 * nI s + 0) (by rw [z_lit 665, pk_mul, z_lit 0, nI_add]; rfl) (by omega) (by decide)
  exact e_X12_many (b_X12_many_0 h1 ⟨by rw [h2]; rfl, by rw [h3]; exact k1⟩ ⟨by rw [k2, h6], rfl, rfl, rfl⟩)
theorem m_steps (hd : 0 < d) (h1 : MA S m) (hs : s ≤ 2) : z_ev d i_X12_steps [.ref m, .int (nI s)] S I J (some (.int (I (z_rv S m 0) (665 * s + 1)))) S I J := by
  obtain ⟨d, rfl⟩ := z_dep hd
  obtain ⟨h1, h2, h3⟩ := h1
  obtain ⟨k1, k2⟩ := m_idx (a := 665 * s + 1) (N := 1995) (x := 665 * nI s + 1) (by rw [z_lit 665, pk_mul, nI_1]) (by omega) (by decide)
  exact e_X12_steps (b_X12_steps_0 h1 ⟨by rw [h2]; rfl, by rw [h3]; exact k1⟩ ⟨by rw [k2], rfl, rfl, rfl⟩)
theorem m_productAt {p x y : Nat} (hd : 0 < d) (h : MA S m) (hp : p + 265 + 20 * x + y < 1995) : z_ev d i_X12_productAt [.ref m, .int (nI p), .int (nI x), .int (nI y)] S I J (some (.int (I (z_rv S m 0) (p + 265 + 20 * x + y)))) S I J := by
  obtain ⟨d, rfl⟩ := z_dep hd
  obtain ⟨h1, h2, h3⟩ := h
  obtain ⟨k1, k2⟩ := m_idx (a := p + 265 + 20 * x + y) (N := 1995) (x := nI p + 265 + 20 * nI x + nI y) (by rw [z_lit 265, z_lit 20, pk_mul, nI_add, nI_add, nI_add]) hp (by decide)
  exact e_X12_productAt (b_X12_productAt_0 h1 ⟨by rw [h2]; rfl, by rw [h3]; exact k1⟩ ⟨by rw [k2], rfl, rfl, rfl⟩)
theorem m_times {x y : Nat} (hd : 1 < d) (h : MS S I m s n t) (hx : x < n) (hy : y < n) : z_ev d i_X12_times [.ref m, .int (nI s), .int (nI x), .int (nI y)] S I J (some (.int (nI (t x y)))) S I J := by
  obtain ⟨d, rfl⟩ := z_dep (d := d) (by omega)
  obtain ⟨h1, h4, h5, h6, h7⟩ := h
  have hb : 665 * s + 265 + 20 * x + y < 1995 := by have := h5.2.1; omega
  have e : (665 : Int32) * nI s = nI (665 * s) := by rw [z_lit 665, pk_mul]
  refine e_X12_times (b_X12_times_0 h1.1 ⟨_, _, _, _, by rw [e]; exact m_productAt (by omega) h1 hb, ?_⟩)
  exact b_X12_times_11 ⟨by rw [h7 x hx y hy], rfl, rfl, rfl⟩
theorem m_inverse {x : Nat} (hd : 1 < d) (h : MS S I m s n t) (hg : Grp n t iv) (hx : x < n) : z_ev d i_X12_inverse [.ref m, .int (nI (665 * s)), .int (nI x)] S I J (some (.int (nI (iv x)))) S I J := by
  obtain ⟨d, rfl⟩ := z_dep (d := d) (by omega)
  obtain ⟨h1, h4, h5, h6, h7⟩ := h
  have hn := hg.le
  have hi := hg.il hx
  refine e_X12_inverse (b_X12_inverse_0 ?_)
  suffices H : ∀ k, k ≤ iv x → ∀ x3, x3 = nI k → Go d i_X12_inverse 2 [.ref m, .int (nI (665 * s)), .int (nI x), .int x3] [] S I J (z_eq (some (.int (nI (iv x)))) S I J) from H 0 (by omega) _ rfl
  refine z_up_to (iv x) ?_ ?_
  · rintro x3 rfl
    refine b_X12_inverse_2 h1.1 ⟨_, _, _, _, m_productAt (by omega) h1 (by omega), ?_⟩
    refine b_X12_inverse_9 (fun _ => b_X12_inverse_18 ⟨rfl, rfl, rfl, rfl⟩) (fun c => absurd ?_ c)
    rw [h7 x hx _ hi, hg.ri hx]
    rfl
  · rintro k hk ih x3 rfl
    refine b_X12_inverse_2 h1.1 ⟨_, _, _, _, m_productAt (by omega) h1 (by omega), ?_⟩
    refine b_X12_inverse_9 (fun c => ?_) (fun _ => b_X12_inverse_12 (ih _ (nI_1 k)))
    rw [h7 x hx _ (by omega), z_eq0 (by have := hg.lt hx (show k < n by omega); omega)] at c
    have := hg.iu hx (by omega) c
    omega
theorem m_undoing {a : Nat} (hd : 2 < d) (h : MS S I m s n t) (hg : Grp n t iv) (ha : a < 2 ^ n) : z_ev d i_X12_undoing [.ref m, .int (nI (665 * s)), .int (nI a)] S I J (some (.int (nI (zim (fun i => a.testBit i) iv n)))) S I J := by
  obtain ⟨d, rfl⟩ := z_dep (d := d) (by omega)
  have hM := h
  obtain ⟨⟨h1, h2, h3⟩, h4, h5, h6, h7⟩ := h
  have hn := hg.le
  have ha31 : a < 2 ^ 31 := Nat.lt_of_lt_of_le ha (Nat.pow_le_pow_right (by decide) (by omega))
  obtain ⟨k1, k2⟩ := m_idx (a := 665 * s) (N := 1995) (x := nI (665 * s) + 0) (by rw [z_lit 0, nI_add]; rfl) (by omega) (by decide)
  refine e_X12_undoing (b_X12_undoing_0 ?_)
  suffices H : ∀ k, k ≤ n → ∀ x3 x4, x3 = nI (zim (fun i => a.testBit i) iv k) → x4 = nI k → Go d i_X12_undoing 5 [.ref m, .int (nI (665 * s)), .int (nI a), .int x3, .int x4] [] S I J (z_eq (some (.int (nI (zim (fun i => a.testBit i) iv n)))) S I J) from H 0 (by omega) _ _ rfl rfl
  refine z_up_to n ?_ ?_
  · rintro x3 x4 rfl rfl
    refine b_X12_undoing_5 h1 ⟨by rw [h2]; rfl, by rw [h3]; exact k1⟩ (fun _ => b_X12_undoing_49 ⟨rfl, rfl, rfl, rfl⟩) (fun c => absurd ?_ c)
    rw [k2, h6]
    exact nI_le (Nat.le_refl _) (by omega)
  · rintro k hk ih x3 x4 rfl rfl
    refine b_X12_undoing_5 h1 ⟨by rw [h2]; rfl, by rw [h3]; exact k1⟩ (fun c => ?_) (fun _ => ?_)
    · rw [k2, h6] at c
      exact absurd c (nI_ge hk (by omega))
    · refine b_X12_undoing_18 ⟨_, _, _, _, m_has (by omega) ha31 (by omega), ?_⟩
      refine b_X12_undoing_25 (fun c => b_X12_undoing_40 (ih _ _ ?_ (nI_1 k))) (fun c => b_X12_undoing_28 h1 ⟨_, _, _, _, m_inverse (by omega) hM hg hk, b_X12_undoing_36 (ih _ _ ?_ (nI_1 k))⟩)
      · rw [z_lit 0, z_or, Nat.or_zero, zim_f (z_tn0.mp c)]
      · rw [z_shl1 (by have := hg.il hk; omega), z_or, zim_t (z_tn1.mp c)]
end M1

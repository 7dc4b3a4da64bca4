/-! THE CLASS: its Group's small functions -/
def CT (S : zS) (I : zI) (g n : Nat) (t : Nat → Nat → Nat) : Prop := z_kd S g = 2 ∧ I g 0 = nI n ∧ Tb n t ∧ z_kd S (z_rv S g 1) = 100 ∧ z_ln S (z_rv S g 1) = n * n ∧ ∀ x, x < n → ∀ y, y < n → I (z_rv S g 1) (x * n + y) = nI (t x y)
/-- an array of an object's field holds small numbers -/
def CR (S : zS) (I : zI) (g k n : Nat) (f : Nat → Nat) : Prop := z_kd S (z_rv S g k) = 100 ∧ z_ln S (z_rv S g k) = n ∧ ∀ x, x < n → I (z_rv S g k) x = nI (f x)
theorem CR.at {S : zS} {I : zI} {g k n x : Nat} {f : Nat → Nat} (h : CR S I g k n f) (hx : x < n) (hn : n < 2 ^ 31) : (z_isI (z_kd S (z_rv S g k)) = true ∧ vp_in (nI x) (z_ln S (z_rv S g k))) ∧ I (z_rv S g k) (nI x).toNatClampNeg = nI (f x) := by
  obtain ⟨h1, h2, h3⟩ := h
  refine ⟨⟨by rw [h1]; rfl, by rw [h2]; exact vp_in_nI hx hn⟩, ?_⟩
  rw [nI_clamp (by omega)]
  exact h3 x hx
section C1
variable {d g n : Nat} {t : Nat → Nat → Nat} {iv : Nat → Nat} {S : zS} {I : zI} {J : zJ}
theorem CT.le (h : CT S I g n t) : n ≤ 20 := h.2.2.1.2.1
theorem z_sq {x y n : Nat} (hx : x < n) (hy : y < n) : x * n + y < n * n := by
  have h1 : (x + 1) * n ≤ n * n := Nat.mul_le_mul_right n hx
  rw [Nat.add_mul, Nat.one_mul] at h1
  omega
theorem z_sq400 {n : Nat} (h : n ≤ 20) : n * n ≤ 400 := Nat.mul_le_mul h h
/-- the loop's test against the order -/
theorem CT.ge (h : CT S I g n t) : I g 0 ≤ nI n := by rw [h.2.1]; exact nI_le (Nat.le_refl _) (by have := h.le; omega)
theorem CT.nge (h : CT S I g n t) {k : Nat} (hk : k < n) : ¬ I g 0 ≤ nI k := by rw [h.2.1]; exact nI_ge hk (by have := h.le; omega)
theorem c_times {x y : Nat} (hd : 0 < d) (h : CT S I g n t) (hx : x < n) (hy : y < n) : z_ev d i_X1_times [.ref g, .int (nI x), .int (nI y)] S I J (some (.int (nI (t x y)))) S I J := by
  obtain ⟨d, rfl⟩ := z_dep hd
  have hn := h.le
  obtain ⟨h1, h2, h3, h4, h5, h6⟩ := h
  have hs := z_sq hx hy
  have h4' := z_sq400 hn
  obtain ⟨k1, k2⟩ := m_idx (a := x * n + y) (N := n * n) (x := nI x * I g 0 + nI y) (by rw [h2, pk_mul, nI_add]) hs (by omega)
  exact e_X1_times (b_X1_times_0 h1 h1 ⟨by rw [h4]; rfl, by rw [h5]; exact k1⟩ ⟨by rw [k2, h6 x hx y hy], rfl, rfl, rfl⟩)
theorem c_shifted {x a : Nat} (hd : 0 < d) (h : CT S I g n t) (hx : x < n) (ha : a < 2 ^ n) : z_ev d i_X1_shifted [.ref g, .int (nI x), .int (nI a)] S I J (some (.int (nI (zim (fun i => a.testBit i) (t x) n)))) S I J := by
  obtain ⟨d, rfl⟩ := z_dep hd
  have hC := h
  have hn := h.le
  obtain ⟨h1, h2, h3, h4, h5, h6⟩ := h
  have h4' := z_sq400 hn
  have ha31 := z_lt31 hn ha
  refine e_X1_shifted (b_X1_shifted_0 ?_)
  suffices H : ∀ k, k ≤ n → ∀ x3 x4, x3 = nI (zim (fun i => a.testBit i) (t x) k) → x4 = nI k → Go d i_X1_shifted 5 [.ref g, .int (nI x), .int (nI a), .int x3, .int x4] [] S I J (z_eq (some (.int (nI (zim (fun i => a.testBit i) (t x) n)))) S I J) from H 0 (by omega) _ _ rfl rfl
  refine z_up_to n ?_ ?_
  · rintro x3 x4 rfl rfl
    exact b_X1_shifted_5 h1 (fun _ => b_X1_shifted_48 ⟨rfl, rfl, rfl, rfl⟩) (fun c => absurd hC.ge c)
  · rintro k hk ih x3 x4 rfl rfl
    refine b_X1_shifted_5 h1 (fun c => absurd c (hC.nge hk)) (fun _ => ?_)
    refine b_X1_shifted_14 (fun c => b_X1_shifted_42 (ih _ _ ?_ (nI_1 k))) (fun c => ?_)
    · rw [z_bit0 ha31 (by omega)] at c
      rw [zim_f c]
    · rw [z_bit0 ha31 (by omega), Bool.not_eq_false] at c
      obtain ⟨k1, k2⟩ := m_idx (a := x * n + k) (N := n * n) (x := nI x * I g 0 + nI k) (by rw [h2, pk_mul, nI_add]) (z_sq hx hk) (by omega)
      refine b_X1_shifted_23 h1 h1 ⟨by rw [h4]; rfl, by rw [h5]; exact k1⟩ (ih _ _ ?_ (nI_1 k))
      have := h3.2.2 x hx k hk
      rw [k2, h6 x hx k hk, z_shl1 (by omega), z_or, zim_t c]
theorem c_onward {a b : Nat} (hd : 1 < d) (h : CT S I g n t) (ha : a < 2 ^ n) (hb : b < 2 ^ n) : z_ev d i_X1_onward [.ref g, .int (nI a), .int (nI b)] S I J (some (.int (nI (prd n t a b)))) S I J := by
  obtain ⟨d, rfl⟩ := z_dep (d := d) (by omega)
  have hn := h.le
  have hT := h.2.2.1
  have ha31 := z_lt31 hn ha
  refine e_X1_onward (b_X1_onward_0 ?_)
  suffices H : ∀ k, k ≤ n → ∀ x3 x4, x3 = nI (zset n (fun j => ∃ x y, x < n ∧ y < n ∧ a.testBit x = true ∧ b.testBit y = true ∧ t x y = j ∧ x < k)) → x4 = nI k → Go d i_X1_onward 5 [.ref g, .int (nI a), .int (nI b), .int x3, .int x4] [] S I J (z_eq (some (.int (nI (prd n t a b)))) S I J) by
    refine H 0 (by omega) _ _ ?_ rfl
    rw [zset_none (fun i _ ⟨x, y, _, _, _, _, _, h⟩ => by omega)]
    rfl
  refine z_up_to n ?_ ?_
  · rintro x3 x4 rfl rfl
    refine b_X1_onward_5 h.1 (fun _ => b_X1_onward_39 ⟨?_, rfl, rfl, rfl⟩) (fun c => absurd h.ge c)
    exact congrArg (fun k => some (Value.int (nI k))) (zset_congr (fun i _ => ⟨fun ⟨x, y, h1, h2, h3, h4, h5, _⟩ => ⟨x, y, h1, h2, h3, h4, h5⟩, fun ⟨x, y, h1, h2, h3, h4, h5⟩ => ⟨x, y, h1, h2, h3, h4, h5, h1⟩⟩))
  · rintro k hk ih x3 x4 rfl rfl
    refine b_X1_onward_5 h.1 (fun c => absurd c (h.nge hk)) (fun _ => ?_)
    refine b_X1_onward_14 (fun c => b_X1_onward_33 (ih _ _ ?_ (nI_1 k))) (fun c => b_X1_onward_23 h.1 ⟨_, _, _, _, c_shifted (by omega) h hk hb, b_X1_onward_31 (ih _ _ ?_ (nI_1 k))⟩)
    · rw [z_bit0 ha31 (by omega)] at c
      refine congrArg nI (zset_congr (fun i _ => ⟨fun ⟨x, y, h1, h2, h3, h4, h5, h6⟩ => ⟨x, y, h1, h2, h3, h4, h5, by omega⟩, ?_⟩))
      rintro ⟨x, y, h1, h2, h3, h4, h5, h6⟩
      refine ⟨x, y, h1, h2, h3, h4, h5, ?_⟩
      by_cases hxk : x = k
      · subst hxk; rw [c] at h3; cases h3
      · omega
    · rw [z_bit0 ha31 (by omega), Bool.not_eq_false] at c
      rw [z_or]
      refine congrArg nI ?_
      have hzl : zim (fun i => b.testBit i) (t k) n < 2 ^ n := zim_lt (fun i hi _ => hT.2.2 k hk i hi)
      refine zset_eq (z_or_lt (zset_lt _ _) hzl) (fun i hi => ?_)
      rw [Nat.testBit_or, Bool.or_eq_true, zset_bit, zim_bit]
      constructor
      · rintro (⟨-, x, y, h1, h2, h3, h4, h5, h6⟩ | ⟨y, h1, h2, h3⟩)
        · exact ⟨x, y, h1, h2, h3, h4, h5, by omega⟩
        · exact ⟨k, y, hk, h1, c, h2, h3, by omega⟩
      · rintro ⟨x, y, h1, h2, h3, h4, h5, h6⟩
        by_cases hxk : x = k
        · subst hxk; exact Or.inr ⟨y, h2, h4, h5⟩
        · exact Or.inl ⟨hi, x, y, h1, h2, h3, h4, h5, by omega⟩
theorem prd_bit {a b i : Nat} : (prd n t a b).testBit i = true ↔ i < n ∧ ∃ x y, x < n ∧ y < n ∧ a.testBit x = true ∧ b.testBit y = true ∧ t x y = i := zset_bit _ _ _
theorem c_span {a : Nat} (hd : 2 < d) (h : CT S I g n t) (ha : a < 2 ^ n) : z_ev d i_X1_span [.ref g, .int (nI a)] S I J (some (.int (nI (gen n t a)))) S I J := by
  obtain ⟨d, rfl⟩ := z_dep (d := d) (by omega)
  have hn := h.le
  have hT := h.2.2.1
  have h1n : 1 < 2 ^ n := by
    have := Nat.pow_le_pow_right (show 0 < 2 by decide) hT.1
    omega
  have b1 : ∀ i, (1 : Nat).testBit i = true ↔ i = 0 := fun i => by
    rw [show (1 : Nat) = 2 ^ 0 from rfl, z_tb_pow, decide_eq_true_eq]
  refine e_X1_span (b_X1_span_0 ?_)
  suffices H : ∀ k, k ≤ n → ∀ f o, f < 2 ^ n → o < 2 ^ n → f.testBit 0 = true → (∀ i, i < n → o.testBit i = true → f.testBit i = true) → (∀ c, ClosedBy n t a c → ∀ i, i < n → f.testBit i = true → c.testBit i = true) → (∀ x, x < n → ∀ y, y < n → f.testBit x = true → o.testBit x = false → a.testBit y = true → f.testBit (t x y) = true) → (o ≠ 0 → k + 1 ≤ zc n f) → ∀ x2 x3 x4, x2 = nI f → x3 = nI o → x4 = nI k → Go d i_X1_span 7 [.ref g, .int (nI a), .int x2, .int x3, .int x4] [] S I J (z_eq (some (.int (nI (gen n t a)))) S I J) by
    refine H 0 (by omega) 1 1 h1n h1n rfl (fun i _ q => q) (fun c hc i _ q => ?_) (fun x hx y hy q1 q2 => ?_) (fun _ => zc_pos hT.1 rfl) _ _ _ rfl rfl rfl
    · rw [b1] at q; subst q; exact hc.2.1
    · rw [q1] at q2; cases q2
  have fin : ∀ f o, f < 2 ^ n → o = 0 → f.testBit 0 = true → (∀ c, ClosedBy n t a c → ∀ i, i < n → f.testBit i = true → c.testBit i = true) → (∀ x, x < n → ∀ y, y < n → f.testBit x = true → o.testBit x = false → a.testBit y = true → f.testBit (t x y) = true) → f = gen n t a := by
    intro f o hf ho h0 hm hcl
    subst ho
    exact gen_eq hT ⟨hf, h0, fun x hx y hy q1 q2 => hcl x hx y hy q1 (Nat.zero_testBit x) q2⟩ hm
  refine z_up_to n ?_ ?_
  · rintro f o hf ho h0 hof hm hcl hc x2 x3 x4 rfl rfl rfl
    refine b_X1_span_7 h.1 (fun _ => b_X1_span_41 ⟨?_, rfl, rfl, rfl⟩) (fun c => absurd h.ge c)
    have ho0 : o = 0 := by
      rcases Nat.eq_zero_or_pos o with q | q
      · exact q
      · have h1 := hc (by omega)
        have h2 := zc_le n f
        omega
    rw [fin f o hf ho0 h0 hm hcl]
  · rintro k hk ih f o hf ho h0 hof hm hcl hc x2 x3 x4 rfl rfl rfl
    refine b_X1_span_7 h.1 (fun c => absurd c (h.nge hk)) (fun _ => ?_)
    refine b_X1_span_16 (fun c => b_X1_span_41 ⟨?_, rfl, rfl, rfl⟩) (fun c => ?_)
    · rw [z_eq0 (z_lt31 hn ho)] at c
      rw [fin f o hf c h0 hm hcl]
    · rw [z_eq0 (z_lt31 hn ho)] at c
      have hp : prd n t o a < 2 ^ n := zset_lt _ _
      have hz : zd (prd n t o a) f < 2 ^ n := zd_lt hp
      refine b_X1_span_20 h.1 ⟨_, _, _, _, c_onward (by omega) h ho ha, b_X1_span_26 ?_⟩
      rw [z_andn, z_or]
      refine ih (f ||| zd (prd n t o a) f) (zd (prd n t o a) f) (z_or_lt hf hz) hz ?_ ?_ ?_ ?_ ?_ _ _ _ rfl rfl (nI_1 k)
      · rw [Nat.testBit_or, h0]; rfl
      · intro i hi q
        rw [Nat.testBit_or, q, Bool.or_true]
      · intro c' hc' i hi q
        rw [Nat.testBit_or, Bool.or_eq_true] at q
        rcases q with q | q
        · exact hm c' hc' i hi q
        · rw [zd_bit, Bool.and_eq_true] at q
          obtain ⟨-, x, y, q1, q2, q3, q4, rfl⟩ := prd_bit.mp q.1
          exact hc'.2.2 x q1 y q2 (hm c' hc' x q1 (hof x q1 q3)) q4
      · intro x hx y hy q1 q2 q3
        rw [Nat.testBit_or, Bool.or_eq_true] at q1
        have q1' : f.testBit x = true := by
          rcases q1 with q1 | q1
          · exact q1
          · rw [q2] at q1; cases q1
        have htl := hT.2.2 x hx y hy
        cases hox : o.testBit x with
        | false => rw [Nat.testBit_or, hcl x hx y hy q1' hox q3]; rfl
        | true =>
          have hpx : (prd n t o a).testBit (t x y) = true := prd_bit.mpr ⟨htl, x, y, hx, hy, hox, q3, rfl⟩
          rw [Nat.testBit_or, zd_bit, hpx]
          cases f.testBit (t x y) <;> rfl
      · intro hne
        have hex : ∃ i, i < n ∧ (zd (prd n t o a) f).testBit i = true := by
          rcases Classical.em (∃ i, i < n ∧ (zd (prd n t o a) f).testBit i = true) with q | q
          · exact q
          · exact absurd (z_ext hz (Nat.two_pow_pos n) (fun i hi => by
              rw [Nat.zero_testBit]
              cases hb : (zd (prd n t o a) f).testBit i with
              | false => rfl
              | true => exact absurd ⟨i, hi, hb⟩ q)) hne
        obtain ⟨i, hi, hb⟩ := hex
        have hb2 := hb
        rw [zd_bit, Bool.and_eq_true] at hb2
        have hfi : f.testBit i = false := by
          have := hb2.2
          cases hq : f.testBit i with
          | false => rfl
          | true => rw [hq] at this; cases this
        have h1 := zc_lt (n := n) (a := f) (b := f ||| zd (prd n t o a) f) (x := i) (fun j _ hj => by rw [Nat.testBit_or, hj]; rfl) hi (by rw [Nat.testBit_or, hb, Bool.or_true]) hfi
        have h2 := hc c
        omega
end C1

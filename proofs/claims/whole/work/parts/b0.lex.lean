/-! PURE: the parts of a text -/
/-- the first place from p on that is no such byte, or the end -/
noncomputable def prn (P : Int32 → Prop) (B : Nat → Int32) (n p : Nat) : Nat := zleast (fun q => p ≤ q ∧ ¬ (q < n ∧ P (B q)))
def Ltr (x : Int32) : Prop := 97 ≤ x ∧ x ≤ 122
def Dgt (x : Int32) : Prop := 48 ≤ x ∧ x ≤ 57
def Spc (x : Int32) : Prop := x = 32
noncomputable def psp (B : Nat → Int32) (n p : Nat) : Nat := prn Spc B n p
section LX
variable {P : Int32 → Prop} {B : Nat → Int32} {n p q : Nat}
theorem prn_stop (h : ¬ (p < n ∧ P (B p))) : prn P B n p = p := zleast_eq ⟨Nat.le_refl _, h⟩ (fun j hj q => by omega)
theorem prn_ex : ∃ q, p ≤ q ∧ ¬ (q < n ∧ P (B q)) := ⟨p + n, by omega, fun h => by omega⟩
theorem prn_spec : p ≤ prn P B n p ∧ ¬ (prn P B n p < n ∧ P (B (prn P B n p))) ∧ ∀ j, p ≤ j → j < prn P B n p → j < n ∧ P (B j) := by
  obtain ⟨⟨h1, h2⟩, h3⟩ := zleast_spec (prn_ex (P := P) (B := B) (n := n) (p := p))
  refine ⟨h1, h2, fun j hj hlt => ?_⟩
  rcases Classical.em (j < n ∧ P (B j)) with q | q
  · exact q
  · exact absurd ⟨hj, q⟩ (h3 j hlt)
theorem prn_eq (h1 : p ≤ q) (h2 : ¬ (q < n ∧ P (B q))) (h3 : ∀ j, p ≤ j → j < q → j < n ∧ P (B j)) : prn P B n p = q := zleast_eq ⟨h1, h2⟩ (fun j hj q => by
  exact q.2 (h3 j q.1 hj))
theorem prn_step (h : p < n ∧ P (B p)) : prn P B n p = prn P B n (p + 1) := by
  obtain ⟨a1, a2, a3⟩ := prn_spec (P := P) (B := B) (n := n) (p := p + 1)
  refine prn_eq (by omega) a2 (fun j hj hlt => ?_)
  by_cases e : j = p
  · rw [e]; exact h
  · exact a3 j (by omega) hlt
theorem prn_le (h : p ≤ n) : prn P B n p ≤ n := by
  obtain ⟨a1, a2, a3⟩ := prn_spec (P := P) (B := B) (n := n) (p := p)
  rcases Nat.lt_or_ge n (prn P B n p) with q | q
  · have := a3 n h q; omega
  · exact q
theorem prn_ge : p ≤ prn P B n p := prn_spec.1
theorem prn_lt (h : p < n ∧ P (B p)) : p < prn P B n p := by
  have := prn_ge (P := P) (B := B) (n := n) (p := p + 1)
  rw [prn_step h]; omega
theorem prn_in {j : Nat} (h1 : p ≤ j) (h2 : j < prn P B n p) : j < n ∧ P (B j) := prn_spec.2.2 j h1 h2
theorem prn_idem : prn P B n (prn P B n p) = prn P B n p := prn_stop prn_spec.2.1
theorem psp_le (h : p ≤ n) : psp B n p ≤ n := prn_le h
theorem psp_ge : p ≤ psp B n p := prn_ge
theorem psp_idem : psp B n (psp B n p) = psp B n p := prn_idem
theorem psp_ns (h : psp B n p < n) : B (psp B n p) ≠ 32 := fun e => prn_spec.2.1 ⟨h, e⟩
/-- behind the last space before a place -/
theorem psp_of (h : psp B n p = q) : psp B n q = q := by rw [← h]; exact psp_idem
end LX
/-- what stands at a place that is no space: 0 the end, 1 a word, 2 a number, 3 a sign -/
noncomputable def pts (B : Nat → Int32) (n q : Nat) : Nat := zq (q < n) (zq (Ltr (B q)) 1 (zq (Dgt (B q)) 2 3)) 0
/-- where it ends -/
noncomputable def pte (B : Nat → Int32) (n q : Nat) : Nat := zq (q < n) (zq (Ltr (B q)) (prn Ltr B n q) (zq (Dgt (B q)) (prn Dgt B n q) (q + 1))) n
/-- what comes behind it -/
noncomputable def pnx (B : Nat → Int32) (n q : Nat) : Nat := psp B n (pte B n q)
section LX2
variable {B : Nat → Int32} {n p q : Nat}
theorem pts_w : pts B n q = 1 ↔ q < n ∧ Ltr (B q) := by
  unfold pts
  rcases Classical.em (q < n) with h | h
  · rw [zq_t h]
    rcases Classical.em (Ltr (B q)) with h1 | h1
    · rw [zq_t h1]; exact ⟨fun _ => ⟨h, h1⟩, fun _ => rfl⟩
    · rw [zq_f h1]
      rcases Classical.em (Dgt (B q)) with h2 | h2
      · rw [zq_t h2]; exact ⟨fun z => by omega, fun z => absurd z.2 h1⟩
      · rw [zq_f h2]; exact ⟨fun z => by omega, fun z => absurd z.2 h1⟩
  · rw [zq_f h]; exact ⟨fun z => by omega, fun z => absurd z.1 h⟩
theorem ltr_nd {x : Int32} (h : Ltr x) : ¬ Dgt x := fun h' => by
  have h1 := h.1
  have h2 := h'.2
  rw [Int32.le_iff_toInt_le] at h1 h2
  have : (97 : Int32).toInt = 97 := by decide
  have : (57 : Int32).toInt = 57 := by decide
  omega
theorem pts_n : pts B n q = 2 ↔ q < n ∧ Dgt (B q) := by
  unfold pts
  rcases Classical.em (q < n) with h | h
  · rw [zq_t h]
    rcases Classical.em (Ltr (B q)) with h1 | h1
    · rw [zq_t h1]; exact ⟨fun z => by omega, fun z => absurd z.2 (ltr_nd h1)⟩
    · rw [zq_f h1]
      rcases Classical.em (Dgt (B q)) with h2 | h2
      · rw [zq_t h2]; exact ⟨fun z => ⟨h, h2⟩, fun z => rfl⟩
      · rw [zq_f h2]; exact ⟨fun z => by omega, fun z => absurd z.2 h2⟩
  · rw [zq_f h]; exact ⟨fun z => by omega, fun z => absurd z.1 h⟩
theorem pts_e : pts B n q = 0 ↔ ¬ q < n := by
  unfold pts
  rcases Classical.em (q < n) with h | h
  · rw [zq_t h]
    rcases Classical.em (Ltr (B q)) with h1 | h1
    · rw [zq_t h1]; exact ⟨fun z => by omega, fun z => absurd h z⟩
    · rw [zq_f h1]
      rcases Classical.em (Dgt (B q)) with h2 | h2
      · rw [zq_t h2]; exact ⟨fun z => by omega, fun z => absurd h z⟩
      · rw [zq_f h2]; exact ⟨fun z => by omega, fun z => absurd h z⟩
  · rw [zq_f h]; exact ⟨fun _ => h, fun _ => rfl⟩
theorem pts_s : pts B n q = 3 ↔ q < n ∧ ¬ Ltr (B q) ∧ ¬ Dgt (B q) := by
  unfold pts
  rcases Classical.em (q < n) with h | h
  · rw [zq_t h]
    rcases Classical.em (Ltr (B q)) with h1 | h1
    · rw [zq_t h1]; exact ⟨fun z => by omega, fun z => absurd h1 z.2.1⟩
    · rw [zq_f h1]
      rcases Classical.em (Dgt (B q)) with h2 | h2
      · rw [zq_t h2]; exact ⟨fun z => by omega, fun z => absurd h2 z.2.2⟩
      · rw [zq_f h2]; exact ⟨fun _ => ⟨h, h1, h2⟩, fun _ => rfl⟩
  · rw [zq_f h]; exact ⟨fun z => by omega, fun z => absurd z.1 h⟩
theorem pts_lt (B : Nat → Int32) (n q : Nat) : pts B n q < 4 := by
  unfold pts zq
  split
  · split
    · decide
    · split <;> decide
  · decide
theorem pte_w (h : q < n ∧ Ltr (B q)) : pte B n q = prn Ltr B n q := by unfold pte; rw [zq_t h.1, zq_t h.2]
theorem pte_n (h : q < n ∧ Dgt (B q)) : pte B n q = prn Dgt B n q := by unfold pte; rw [zq_t h.1, zq_f (fun z => ltr_nd z h.2), zq_t h.2]
theorem pte_s (h : q < n ∧ ¬ Ltr (B q) ∧ ¬ Dgt (B q)) : pte B n q = q + 1 := by unfold pte; rw [zq_t h.1, zq_f h.2.1, zq_f h.2.2]
theorem pte_e (h : ¬ q < n) : pte B n q = n := by unfold pte; rw [zq_f h]
theorem pte_le (h : q ≤ n) : pte B n q ≤ n := by
  rcases Classical.em (q < n) with a | a
  · rcases Classical.em (Ltr (B q)) with b | b
    · rw [pte_w ⟨a, b⟩]; exact prn_le h
    · rcases Classical.em (Dgt (B q)) with c | c
      · rw [pte_n ⟨a, c⟩]; exact prn_le h
      · rw [pte_s ⟨a, b, c⟩]; omega
  · rw [pte_e a]; exact Nat.le_refl _
theorem pte_gt (h : q < n) : q < pte B n q := by
  rcases Classical.em (Ltr (B q)) with b | b
  · rw [pte_w ⟨h, b⟩]; exact prn_lt ⟨h, b⟩
  · rcases Classical.em (Dgt (B q)) with c | c
    · rw [pte_n ⟨h, c⟩]; exact prn_lt ⟨h, c⟩
    · rw [pte_s ⟨h, b, c⟩]; omega
theorem pnx_le (h : q ≤ n) : pnx B n q ≤ n := psp_le (pte_le h)
theorem pnx_gt (h : q < n) : q < pnx B n q := Nat.lt_of_lt_of_le (pte_gt h) psp_ge
theorem pnx_sp : psp B n (pnx B n q) = pnx B n q := psp_idem
end LX2
/-! the words -/
def kls : Nat → List Nat
  | 0 => [103, 114, 111, 117, 112]
  | 1 => [112, 101, 114, 109, 115]
  | 2 => [115, 116, 101, 112, 115]
  | 3 => [98, 111, 116, 104]
  | 4 => [120]
  | 5 => [99]
  | 6 => [100]
  | 7 => [113]
  | 8 => [97]
  | _ => []
def kln (k : Nat) : Nat := (kls k).length
def kch (k i : Nat) : Nat := (kls k).getD i 0
/-- the word k stands at q -/
def isK (B : Nat → Int32) (n q k : Nat) : Prop := k < 9 ∧ (q < n ∧ Ltr (B q)) ∧ prn Ltr B n q = q + kln k ∧ ∀ i, i < kln k → B (q + i) = nI (kch k i)
/-- which word stands at q; 9: none of them -/
noncomputable def pkw (B : Nat → Int32) (n q : Nat) : Nat := zleast (fun k => k = 9 ∨ isK B n q k)
section LX3
variable {B : Nat → Int32} {n p q k : Nat}
theorem kch_lt : ∀ k, k < 9 → ∀ i, i < kln k → kch k i < 128 := by decide
theorem kls_u : ∀ j, j < 9 → ∀ k, k < 9 → kln j = kln k → (∀ i, i < kln j → kch j i = kch k i) → j = k := by decide +kernel
theorem isK_u {j : Nat} (h : isK B n q j) (h' : isK B n q k) : j = k := by
  have e : kln j = kln k := by have := h.2.2.1; have := h'.2.2.1; omega
  refine kls_u j h.1 k h'.1 e (fun i hi => ?_)
  have a := h.2.2.2 i hi
  rw [h'.2.2.2 i (by omega)] at a
  have b1 := kch_lt j h.1 i hi
  have b2 := kch_lt k h'.1 i (by omega)
  exact ((nI_eq (by omega) (by omega)).mp a).symm
theorem pkw_spec : (pkw B n q = 9 ∧ ∀ k, ¬ isK B n q k) ∨ (pkw B n q < 9 ∧ isK B n q (pkw B n q)) := by
  obtain ⟨h1, h2⟩ := zleast_spec (p := fun k => k = 9 ∨ isK B n q k) ⟨9, Or.inl rfl⟩
  rcases h1 with h1 | h1
  · left
    refine ⟨h1, fun k hk => ?_⟩
    have := h2 k (by have := hk.1; omega)
    exact this (Or.inr hk)
  · exact Or.inr ⟨h1.1, h1⟩
theorem pkw_is (hk : k < 9) : isK B n q k ↔ pkw B n q = k := by
  rcases pkw_spec (B := B) (n := n) (q := q) with ⟨h1, h2⟩ | ⟨h1, h2⟩
  · exact ⟨fun h => absurd h (h2 k), fun h => by omega⟩
  · exact ⟨fun h => isK_u h2 h, fun h => by rw [← h]; exact h2⟩
theorem pkw_le : pkw B n q ≤ 9 := by
  rcases pkw_spec (B := B) (n := n) (q := q) with ⟨h1, _⟩ | ⟨h1, _⟩ <;> omega
theorem pkw_ne (h : pkw B n q ≠ 9) : q < n ∧ Ltr (B q) := by
  rcases pkw_spec (B := B) (n := n) (q := q) with ⟨h1, _⟩ | ⟨_, h2⟩
  · exact absurd h1 h
  · exact h2.2.1
theorem pkw_nx (h : pkw B n q ≠ 9) : pte B n q = prn Ltr B n q := pte_w (pkw_ne h)
end LX3
/-! a number -/
def dvl (B : Nat → Int32) (q : Nat) : Nat := (B q).toNatClampNeg - 48
def nvl (B : Nat → Int32) (q e : Nat) : Nat := if e = q + 1 then dvl B q else 10 * dvl B q + dvl B (q + 1)
section LX4
variable {B : Nat → Int32} {n p q k : Nat}
theorem dgt_nI {x : Int32} (h : Dgt x) : x = nI (48 + (x.toNatClampNeg - 48)) ∧ x.toNatClampNeg - 48 < 10 := by
  obtain ⟨h1, h2⟩ := h
  rw [Int32.le_iff_toInt_le] at h1 h2
  have e1 : (48 : Int32).toInt = 48 := by decide
  have e2 : (57 : Int32).toInt = 57 := by decide
  have hn : ¬ x < 0 := fun z => by
    rw [Int32.lt_iff_toInt_lt] at z
    have : (0 : Int32).toInt = 0 := by decide
    omega
  obtain ⟨k, hk, rfl⟩ := nI_of hn
  rw [nI_clamp hk]
  have e3 : (nI k).toInt = k := nI_toInt hk
  rw [e1, e3] at h1
  rw [e2, e3] at h2
  exact ⟨by rw [show 48 + (k - 48) = k by omega], by omega⟩
end LX4

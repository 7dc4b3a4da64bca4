/-! THE MODEL: a factor is read -/
section MF2
variable {d m n q k b i j ln : Nat} {B : Nat → Int32} {F : Nat → Nat × Nat} {S : zS} {I I0 I1 I2 : zI} {J : zJ}
theorem m_sizeOf (hd : 0 < d) (hk : z_kd S m = 13) (h8 : I m 8 = nI k) (h9 : I m 9 = nI b) (hF : FOk k b) : z_ev d i_X12_sizeOfFactor [.ref m] S I J (some (.int (nI (fsz k b)))) S I J := by
  obtain ⟨d, rfl⟩ := z_dep hd
  have e : ∀ c : Nat, c < 20 → (I m 8 = nI c ↔ k = c) := fun c hc => by rw [h8, nI_eq (by unfold FOk at hF; omega) (by omega)]
  unfold fsz
  refine e_X12_sizeOfFactor (b_X12_sizeOfFactor_0 hk (fun z => b_X12_sizeOfFactor_15 hk (fun z2 => b_X12_sizeOfFactor_33 hk (fun z3 => b_X12_sizeOfFactor_51 ⟨?_, rfl, rfl, rfl⟩) (fun z3 => b_X12_sizeOfFactor_42 hk ⟨?_, rfl, rfl, rfl⟩)) (fun z2 => b_X12_sizeOfFactor_24 hk ⟨?_, rfl, rfl, rfl⟩)) (fun z => b_X12_sizeOfFactor_8 hk ⟨?_, rfl, rfl, rfl⟩))
  · have y1 : ¬ k = 5 := fun q => z ((e 5 (by decide)).mpr q)
    have y2 : ¬ k = 6 := fun q => z2 ((e 6 (by decide)).mpr q)
    have y3 : ¬ k = 7 := fun q => z3 ((e 7 (by decide)).mpr q)
    rw [if_neg y1, if_neg y2, if_neg y3]; rfl
  · have y1 : ¬ k = 5 := fun q => z ((e 5 (by decide)).mpr q)
    have y2 : ¬ k = 6 := fun q => z2 ((e 6 (by decide)).mpr q)
    have y3 := (e 7 (by decide)).mp z3
    rw [if_neg y1, if_neg y2, if_pos y3, h9, z_lit 4, pk_mul]
  · have y1 : ¬ k = 5 := fun q => z ((e 5 (by decide)).mpr q)
    have y2 := (e 6 (by decide)).mp z2
    rw [if_neg y1, if_pos y2, h9, z_lit 2, pk_mul]
  · have y1 := (e 5 (by decide)).mp z
    rw [if_pos y1, h9]
theorem m_tur {w mo : Nat} {x3 : Int32} (hk : z_kd S m = 13) (h9 : I m 9 = nI b) (hw : 0 < w ∧ w ≤ 20) (hmo : (I m 8 = 7 ∧ mo = b) ∨ (¬ I m 8 = 7 ∧ mo = 0)) (hb : b ≤ 20) (e3 : x3 = nI w) (hi : i < 2 * w) (hj : j < 2 * w) {Q : zQ} (hQ : Q (some (.int (nI (tur w mo i j)))) S I J) : ∀ v6 v7 v8, (nI i < x3 → Go d i_X12_factorProduct 75 [.ref m, .int (nI i), .int (nI j), .int x3, .int (nI i - nI i / x3 * x3), .int (nI j - nI j / x3 * x3), v6, v7, v8] [] S I J Q) ∧ (¬ nI i < x3 → Go d i_X12_factorProduct 71 [.ref m, .int (nI i), .int (nI j), .int x3, .int (nI i - nI i / x3 * x3), .int (nI j - nI j / x3 * x3), v6, v7, v8] [] S I J Q) := by
  intro v6 v7 v8
  subst e3
  rw [pk_rem (by omega) (by omega) (by omega), pk_rem (by omega) (by omega) (by omega)]
  have r1 := Nat.mod_lt i hw.1
  have r2 := Nat.mod_lt j hw.1
  have w0 : ¬ nI w = 0 := nI_ne0 hw.1 (by omega)
  have lt : ∀ a : Nat, a < 2 * w → (nI a < nI w ↔ a < w) := fun a ha => nI_ltI (by omega) (by omega)
  -- the end
  have fin0 : ∀ (y : Nat) (x6 x7 : Int32) (v8 : Value), y < 100 → (x6 = x7 → nI (y % w + 0) = nI (tur w mo i j)) → (¬ x6 = x7 → nI (y % w + w) = nI (tur w mo i j)) → Go d i_X12_factorProduct 136 [.ref m, .int (nI i), .int (nI j), .int (nI w), .int (nI (i % w)), .int (nI (j % w)), .int x6, .int x7, v8] [.int (nI y)] S I J Q := fun y x6 x7 v8 hy q1 q2 => by
    have ey : nI y + 0 = nI y := by show nI y + nI 0 = nI y; rw [nI_add, Nat.add_zero]
    refine b_X12_factorProduct_136 w0 (fun z => b_X12_factorProduct_155 ?_) (fun z => b_X12_factorProduct_151 ?_)
    · rw [ey, pk_rem (by omega) (by omega) (by omega), nI_add, q2 z]; exact hQ
    · rw [ey, pk_rem (by omega) (by omega) (by omega)]
      show Q (some (.int (nI (y % w) + nI 0))) S I J
      rw [nI_add, q1 z]; exact hQ
  have fin1 : ∀ (y : Nat) (x6 x7 : Int32) (v8 : Value), y < 100 → ¬ x6 = 0 → ¬ x7 = 0 → x6 = x7 → I m 8 = 7 → nI ((y + b) % w + 0) = nI (tur w mo i j) → Go d i_X12_factorProduct 119 [.ref m, .int (nI i), .int (nI j), .int (nI w), .int (nI (i % w)), .int (nI (j % w)), .int x6, .int x7, v8] [.int (nI y)] S I J Q := fun y x6 x7 v8 hy n6 n7 e67 h7 q1 => by
    refine b_X12_factorProduct_119 (fun z => absurd z n6) (fun _ => b_X12_factorProduct_124 (fun z => absurd z n7) (fun _ => b_X12_factorProduct_129 hk w0 (fun z => absurd e67 z) (fun _ => b_X12_factorProduct_151 ?_)))
    rw [h9, nI_add, pk_rem (by omega) (by omega) (by omega)]
    show Q (some (.int (nI ((y + b) % w) + nI 0))) S I J
    rw [nI_add, q1]; exact hQ
  refine ⟨fun z => ?_, fun z => ?_⟩
  · rw [lt i hi] at z
    refine b_X12_factorProduct_75 (fun z2 => ?_) (fun z2 => ?_)
    · rw [lt j hj] at z2
      refine b_X12_factorProduct_87 (fun _ => b_X12_factorProduct_105 hk (fun _ => ?_) (fun h7 => b_X12_factorProduct_119 (fun _ => ?_) (fun z3 => absurd rfl z3))) (fun z3 => absurd rfl z3)
      all_goals rw [nI_add]; exact fin0 _ _ _ _ (by omega) (fun _ => by unfold tur; rw [if_neg (by omega), if_neg (by omega), if_neg (by omega)]) (fun y => absurd rfl y)
    · rw [lt j hj] at z2
      refine b_X12_factorProduct_83 (fun _ => b_X12_factorProduct_105 hk (fun _ => ?_) (fun h7 => b_X12_factorProduct_119 (fun _ => ?_) (fun z3 => absurd rfl z3))) (fun z3 => absurd rfl z3)
      all_goals rw [nI_add]; exact fin0 _ _ _ _ (by omega) (fun y => by cases y) (fun _ => by unfold tur; rw [if_neg (by omega), if_neg (by omega), if_pos (by omega)])
  · rw [lt i hi] at z
    have es : nI (i % w) - nI (j % w) + nI w = nI (i % w + w - j % w) := by
      rw [Int32.sub_eq_add_neg, Int32.add_assoc, Int32.add_comm (-nI (j % w)) (nI w), ← Int32.add_assoc, ← Int32.sub_eq_add_neg, nI_add, pk_sub (by omega)]
    refine b_X12_factorProduct_71 (fun z2 => ?_) (fun z2 => ?_)
    · rw [lt j hj] at z2
      refine b_X12_factorProduct_87 (fun z3 => by cases z3) (fun _ => b_X12_factorProduct_95 hk (fun _ => ?_) (fun h7 => b_X12_factorProduct_119 (fun z3 => by cases z3) (fun _ => b_X12_factorProduct_124 (fun _ => ?_) (fun z4 => absurd rfl z4))))
      all_goals rw [es]; exact fin0 _ _ _ _ (by omega) (fun y => by cases y) (fun _ => by unfold tur; rw [if_pos (by omega), if_neg (by omega), if_pos (by omega), if_neg (by omega), Nat.add_zero])
    · rw [lt j hj] at z2
      refine b_X12_factorProduct_83 (fun z3 => by cases z3) (fun _ => b_X12_factorProduct_95 hk (fun n7 => ?_) (fun h7 => ?_))
      · rw [es]
        have hm0 : mo = 0 := by rcases hmo with q | q; exact absurd q.1 n7; exact q.2
        exact fin0 _ _ _ _ (by omega) (fun _ => by unfold tur; rw [if_pos (by omega), if_pos (by omega), if_pos (by omega), if_pos (by omega), hm0]; simp only [Nat.add_zero]) (fun y => absurd rfl y)
      · rw [es]
        have hm0 : mo = b := by rcases hmo with q | q; exact q.2; exact absurd h7 q.1
        exact fin1 _ _ _ _ (by omega) (by decide) (by decide) rfl h7 (by unfold tur; rw [if_pos (by omega), if_pos (by omega), if_pos (by omega), if_pos (by omega), hm0])
theorem m_fprod (hd : 2 < d) (hL : MLay S m) (hE : ∀ k, k < 12 → I (m + 3) k = nI (evc k)) (h8 : I m 8 = nI k) (h9 : I m 9 = nI b) (hF : FOk k b) (hi : i < fsz k b) (hj : j < fsz k b) : z_ev d i_X12_factorProduct [.ref m, .int (nI i), .int (nI j)] S I J (some (.int (nI (fpr k b i j)))) S I J := by
  obtain ⟨d, rfl⟩ := z_dep (d := d) (by omega)
  have hk := hL.k
  have e : ∀ c : Nat, c < 20 → (I m 8 = nI c ↔ k = c) := fun c hc => by rw [h8, nI_eq (by unfold FOk at hF; omega) (by omega)]
  unfold fsz at hi hj
  refine e_X12_factorProduct (b_X12_factorProduct_0 hk (fun z => b_X12_factorProduct_17 hk (fun z2 => b_X12_factorProduct_33 hk (fun z3 => ?_) (fun z3 => ?_)) (fun z2 => b_X12_factorProduct_26 hk ?_)) (fun z => b_X12_factorProduct_8 hk ?_ ⟨z_someI ?_, rfl, rfl, rfl⟩))
  · have y1 : ¬ k = 5 := fun q => z ((e 5 (by decide)).mpr q)
    have y2 : ¬ k = 8 := fun q => z2 ((e 8 (by decide)).mpr q)
    have y3 : ¬ k = 6 := fun q => z3 ((e 6 (by decide)).mpr q)
    have hF' := hF
    unfold FOk at hF'
    rw [if_neg y1, if_neg y3, if_pos (by omega)] at hi hj
    have ew : (2 : Int32) * I m 9 = nI (2 * b) := by rw [h9, z_lit 2, pk_mul]
    have h0 : ¬ (2 : Int32) * I m 9 = 0 := by rw [ew]; exact nI_ne0 (by omega) (by omega)
    have g := m_tur (d := d) (J := J) (w := 2 * b) (mo := b) (i := i) (j := j) hk h9 (by omega) (Or.inl ⟨(e 7 (by decide)).mpr (by omega), rfl⟩) (by omega) ew (by omega) (by omega) (Q := z_eq (some (.int (nI (fpr k b i j)))) S I J) ⟨by unfold fpr; rw [if_neg y1, if_neg y3, if_pos (by omega)], rfl, rfl, rfl⟩
    exact b_X12_factorProduct_49 hk h0 h0 (g _ _ _).1 (g _ _ _).2
  · have y1 : ¬ k = 5 := fun q => z ((e 5 (by decide)).mpr q)
    have y3 := (e 6 (by decide)).mp z3
    have hF' := hF
    unfold FOk at hF'
    rw [if_neg y1, if_pos y3] at hi hj
    have h0 : ¬ I m 9 = 0 := by rw [h9]; exact nI_ne0 (by omega) (by omega)
    have g := m_tur (d := d) (J := J) (w := b) (mo := 0) (i := i) (j := j) hk h9 (by omega) (Or.inr ⟨fun q => by have := (e 7 (by decide)).mp q; omega, rfl⟩) (by omega) h9 (by omega) (by omega) (Q := z_eq (some (.int (nI (fpr k b i j)))) S I J) ⟨by unfold fpr; rw [if_neg y1, if_pos y3], rfl, rfl, rfl⟩
    exact b_X12_factorProduct_42 hk h0 h0 (g _ _ _).1 (g _ _ _).2
  · have y2 := (e 8 (by decide)).mp z2
    rw [if_neg (by omega), if_neg (by omega), if_neg (by omega)] at hi hj
    refine ⟨_, _, _, _, m_evenProduct (by omega) hL hE hi hj, b_X12_factorProduct_32 ⟨?_, rfl, rfl, rfl⟩⟩
    unfold fpr
    rw [if_neg (by omega), if_neg (by omega), if_neg (by omega)]
  · have y1 := (e 5 (by decide)).mp z
    have hF' := hF
    unfold FOk at hF'
    rw [h9]; exact nI_ne0 (by omega) (by omega)
  · have y1 := (e 5 (by decide)).mp z
    have hF' := hF
    unfold FOk at hF'
    rw [if_pos y1] at hi hj
    unfold fpr
    rw [if_pos y1, h9, nI_add, pk_rem (by omega) (by omega) (by omega)]
end MF2

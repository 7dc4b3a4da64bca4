/-! THE CLASS: OtherFinder, its chosen sets -/
def OL (S : zS) (q : Nat) : Prop := z_kd S q = 10 ∧ Ar S q 0 (q + 1) 100 4 ∧ Ar S q 2 (q + 2) 100 20 ∧ Ar S q 3 (q + 3) 100 20 ∧ Ar S q 4 (q + 4) 100 20 ∧ z_rv S q 5 = q + 5 ∧ KL S (q + 5)
/-- the chosen row -/
def CH (I : zI) (q A : Nat) (c : Nat → Nat) (m : Nat) : Prop := I q 1 = nI m ∧ m ≤ 4 ∧ RowOf A c m ∧ ∀ i, i < m → c i < 21 ∧ I (q + 1) i = nI (c i)
def ors (c : Nat → Nat) : Nat → Nat
  | 0 => 0
  | k + 1 => ors c k ||| 2 ^ (c k)
theorem ors_bit (c : Nat → Nat) (b : Nat) : ∀ k, (ors c k).testBit b = true ↔ ∃ i, i < k ∧ c i = b := by
  intro k
  induction k with
  | zero =>
    constructor
    · intro h
      rw [show ors c 0 = 0 from rfl, Nat.zero_testBit] at h; cases h
    · rintro ⟨i, hi, _⟩; omega
  | succ k ih =>
    show (ors c k ||| 2 ^ (c k)).testBit b = true ↔ _
    rw [Nat.testBit_or, Bool.or_eq_true, ih, z_tb_pow, decide_eq_true_iff]
    constructor
    · rintro (⟨i, hi, e⟩ | e)
      · exact ⟨i, by omega, e⟩
      · exact ⟨k, by omega, e.symm⟩
    · rintro ⟨i, hi, e⟩
      by_cases ei : i = k
      · right; rw [← e, ei]
      · exact Or.inl ⟨i, by omega, e⟩
theorem ors_row {A m : Nat} {c : Nat → Nat} (h : RowOf A c m) : ors c m = A := by
  refine Nat.eq_of_testBit_eq (fun b => ?_)
  rw [Bool.eq_iff_iff, ors_bit, h.2.2]
theorem i5_pred : ∀ m, m < 5 → nI (m + 1) - 1 = nI m := by decide +kernel
section C20
variable {d q A g n m st w : Nat} {c : Nat → Nat} {t : Nat → Nat → Nat} {iv : Nat → Nat} {S : zS} {I I0 : zI} {J : zJ}
theorem CH.fr (h : CH I0 q A c m) (h1 : I q = I0 q) (h2 : I (q + 1) = I0 (q + 1)) : CH I q A c m := by
  unfold CH
  rw [h1, h2]; exact h
theorem c_chosenSet (hd : 0 < d) (hO : OL S q) (hC : CH I q A c m) : z_ev d i_X9_chosenSet [.ref q] S I J (some (.int (nI A))) S I J := by
  obtain ⟨d, rfl⟩ := z_dep hd
  obtain ⟨c1, c2, c3, c4⟩ := hC
  have a0 := hO.2.1
  refine e_X9_chosenSet (b_X9_chosenSet_0 ?_)
  suffices H : ∀ k, k ≤ m → ∀ x1 x2, x1 = nI (ors c k) → x2 = nI k → Go d i_X9_chosenSet 4 [.ref q, .int x1, .int x2] [] S I J (z_eq (some (.int (nI A))) S I J) from H 0 (by omega) _ _ rfl rfl
  refine z_up_to m ?_ ?_
  · rintro x1 x2 rfl rfl
    refine b_X9_chosenSet_4 hO.1 (fun _ => b_X9_chosenSet_29 ⟨by rw [ors_row c3], rfl, rfl, rfl⟩) (fun z => absurd (by rw [c1]; exact nI_le (Nat.le_refl _) (by omega)) z)
  · rintro k hk ih x1 x2 rfl rfl
    refine b_X9_chosenSet_4 hO.1 (fun z => absurd z (by rw [c1]; exact nI_ge hk (by omega))) (fun _ => ?_)
    refine b_X9_chosenSet_12 hO.1 (a0.rd (by omega) (by decide)) (ih _ _ ?_ (nI_1 k))
    rw [a0.1, nI_clamp (by omega), (c4 k hk).2, z_shl1 (by have := (c4 k hk).1; omega), z_or]
    rfl
theorem zc_up (h : st.testBit n = true) : zc (n + 1) st = zc n st + 1 := by
  rw [zc_zcn, zc_zcn]; exact zcn_t (p := fun i => st.testBit i = true) h
theorem zc_st (h : st.testBit n = false) : zc (n + 1) st = zc n st := by
  rw [zc_zcn, zc_zcn]; exact zcn_f (p := fun i => st.testBit i = true) (by rw [h]; decide)
theorem zc_mn {k : Nat} (h : k ≤ n) : zc k st ≤ zc n st := by
  rw [zc_zcn, zc_zcn, show n = k + (n - k) by omega, zcn_add]; omega
theorem c_chooseOf (hd : 0 < d) (hO : OL S q) (hw : z_kd S w = 9) (hg : CT S I0 (z_rv S w 0) n t) (hn : n ≤ 20) (hn0 : 0 < n) (hs : I0 w 1 = nI st) (hst : st < 2 ^ n) (h0 : st.testBit 0 = false) (hm : I0 q 1 = nI m) (hm4 : m ≤ 4) (hz : zc n st = m) (o1 : w ≠ q + 1) (o2 : z_rv S w 0 ≠ q + 1) : ∃ I' c, z_ev d i_X9_chooseOf [.ref q, .ref w] S I0 J none S I' J ∧ (∀ x, x ≠ q + 1 → I' x = I0 x) ∧ CH I' q st c m ∧ ∀ i, i < m → c i < n := by
  obtain ⟨d, rfl⟩ := z_dep hd
  have a0 := hO.2.1
  have h20 : 2 ^ n ≤ 2 ^ 20 := Nat.pow_le_pow_right (by decide) hn
  obtain ⟨Q, hQ⟩ : ∃ Q : zQ, Q = fun v S' I' J' => v = none ∧ S' = S ∧ J' = J ∧ (∀ x, x ≠ q + 1 → I' x = I0 x) ∧ ∃ c, CH I' q st c m ∧ ∀ i, i < m → c i < n := ⟨_, rfl⟩
  suffices hw : z_wp (d + 1) i_X9_chooseOf [.ref q, .ref w] S I0 J Q by
    rw [hQ] at hw
    obtain ⟨v, S', I', J', x1, rfl, rfl, rfl, x2, c, x3⟩ := hw
    exact ⟨I', c, x1, x2, x3⟩
  refine w_X9_chooseOf (b_X9_chooseOf_0 ?_)
  suffices H : ∀ b, b ≤ n → ∀ (I : zI) (c : Nat → Nat) (x2 x3 : Int32), 1 ≤ b → (∀ x, x ≠ q + 1 → I x = I0 x) → (∀ i, i < zc b st → 1 ≤ c i ∧ c i < b ∧ I (q + 1) i = nI (c i)) → (∀ i j, i < j → j < zc b st → c i < c j) → (∀ y, (y < b ∧ st.testBit y = true) ↔ ∃ i, i < zc b st ∧ c i = y) → x2 = nI (zc b st) → x3 = nI b → Go d i_X9_chooseOf 4 [.ref q, .ref w, .int x2, .int x3] [] S I J Q by
    have z1 : zc 1 st = 0 := by rw [zc_st h0]; rw [zc_zcn]; rfl
    refine H 1 hn0 I0 (fun _ => 0) _ _ (Nat.le_refl _) (fun _ _ => rfl) (fun i hi => by omega) (fun i j _ hj => by omega) (fun y => ⟨fun ⟨p1, p2⟩ => ?_, fun ⟨i, hi, _⟩ => by omega⟩) (by rw [z1]; rfl) rfl
    rw [show y = 0 by omega, h0] at p2; cases p2
  have o0 : ∀ I : zI, (∀ x, x ≠ q + 1 → I x = I0 x) → I (z_rv S w 0) 0 = nI n := fun I hI => by rw [hI _ o2]; exact hg.2.1
  refine z_up_to n ?_ ?_
  · rintro I c x2 x3 _ hI hc1 hc2 hc3 rfl rfl
    refine b_X9_chooseOf_4 hw hg.1 (fun _ => b_X9_chooseOf_50 ?_) (fun z => absurd (by rw [o0 I hI]; exact nI_le (Nat.le_refl _) (by omega)) z)
    rw [hQ]
    rw [hz] at hc1 hc2 hc3
    refine ⟨rfl, rfl, rfl, hI, c, ⟨by rw [hI q (by omega)]; exact hm, hm4, ⟨fun i hi => (hc1 i hi).1, hc2, fun b => ?_⟩, fun i hi => ⟨by have := (hc1 i hi).2.1; omega, (hc1 i hi).2.2⟩⟩, fun i hi => (hc1 i hi).2.1⟩
    rw [← hc3]
    refine ⟨fun e => ⟨?_, e⟩, fun e => e.2⟩
    rcases Nat.lt_or_ge b n with p | p
    · exact p
    · rw [Nat.testBit_lt_two_pow (Nat.lt_of_lt_of_le hst (Nat.pow_le_pow_right (by decide) p))] at e; cases e
  · rintro b hb ih I c x2 x3 hb1 hI hc1 hc2 hc3 rfl rfl
    have hle := zc_le b st
    refine b_X9_chooseOf_4 hw hg.1 (fun z => absurd z (by rw [o0 I hI]; exact nI_ge hb (by omega))) (fun _ => ?_)
    have eb : I w 1 = nI st := by rw [hI w o1]; exact hs
    cases p : st.testBit b with
    | false =>
      refine b_X9_chooseOf_15 hw (fun _ => b_X9_chooseOf_44 ?_) (fun z => absurd (by rw [eb]; exact (z_bit0 (by omega) (by omega)).mpr p) z)
      have e := zc_st p
      refine ih I c _ _ (by omega) hI (by rw [e]; exact fun i hi => ⟨(hc1 i hi).1, by have := (hc1 i hi).2.1; omega, (hc1 i hi).2.2⟩) (by rw [e]; exact hc2) (fun y => ?_) (by rw [e]) (nI_1 b)
      rw [e, ← hc3]
      refine ⟨fun ⟨y1, y2⟩ => ⟨?_, y2⟩, fun ⟨y1, y2⟩ => ⟨by omega, y2⟩⟩
      by_cases ey : y = b
      · rw [ey, p] at y2; cases y2
      · omega
    | true =>
      have e := zc_up p
      have hlt : zc b st < m := by have := zc_mn (st := st) (show b + 1 ≤ n by omega); omega
      refine b_X9_chooseOf_15 hw (fun z => ?_) (fun _ => b_X9_chooseOf_26 hO.1 (fun z => absurd z (by rw [hI q (by omega), hm]; exact nI_ge hlt (by omega))) (fun _ => ?_))
      · rw [eb, z_bit0 (by omega) (by omega), p] at z; cases z
      · refine b_X9_chooseOf_34 hO.1 (a0.wr (by omega) (by decide)) ?_
        rw [a0.1, nI_clamp (by omega)]
        refine ih _ (fun i => if i = zc b st then b else c i) _ _ (by omega) (fun x hx => by rw [z_u2_row hx]; exact hI x hx) (fun i hi => ?_) (fun i j hij hj => ?_) (fun y => ?_) (by rw [e]; exact nI_1 _) (nI_1 b)
        · rw [e] at hi
          by_cases ei : i = zc b st
          · simp only [if_pos ei]
            rw [ei, z_u2_same]; exact ⟨hb1, by omega, rfl⟩
          · simp only [if_neg ei]
            rw [z_u2_nk ei]
            have := hc1 i (by omega)
            exact ⟨this.1, by omega, this.2.2⟩
        · rw [e] at hj
          rw [if_neg (show ¬ i = zc b st by omega)]
          by_cases ej : j = zc b st
          · rw [if_pos ej]; exact (hc1 i (by omega)).2.1
          · rw [if_neg ej]; exact hc2 i j hij (by omega)
        · rw [e]
          constructor
          · rintro ⟨y1, y2⟩
            by_cases ey : y = b
            · exact ⟨zc b st, by omega, by rw [if_pos rfl, ey]⟩
            · obtain ⟨i, hi, ei⟩ := (hc3 y).mp ⟨by omega, y2⟩
              exact ⟨i, by omega, by rw [if_neg (by omega)]; exact ei⟩
          · rintro ⟨i, hi, ei⟩
            by_cases ei2 : i = zc b st
            · rw [if_pos ei2] at ei
              exact ⟨by omega, by rw [← ei]; exact p⟩
            · rw [if_neg ei2] at ei
              have := (hc3 y).mpr ⟨i, by omega, ei⟩
              exact ⟨by omega, this.2⟩
theorem c_chooseNext (hd : 0 < d) (hO : OL S q) (hC : CH I0 q A c m) (hm : 0 < m) (hc : ∀ i, i < m → c i < 20) : ∃ I' j, z_ev d i_X9_chooseNext [.ref q] S I0 J none S I' J ∧ (∀ x, x ≠ q + 1 → I' x = I0 x) ∧ j < m ∧ (∀ i, i < j → c i + 1 = c (i + 1)) ∧ (j + 1 < m → c j + 1 ≠ c (j + 1)) ∧ CH I' q (ors (nxr c j) m) (nxr c j) m := by
  obtain ⟨d, rfl⟩ := z_dep hd
  obtain ⟨c1, c2, c3, c4⟩ := hC
  have a0 := hO.2.1
  obtain ⟨Q, hQ⟩ : ∃ Q : zQ, Q = fun v S' I' J' => v = none ∧ S' = S ∧ J' = J ∧ ∃ j, (∀ x, x ≠ q + 1 → I' x = I0 x) ∧ j < m ∧ (∀ i, i < j → c i + 1 = c (i + 1)) ∧ (j + 1 < m → c j + 1 ≠ c (j + 1)) ∧ CH I' q (ors (nxr c j) m) (nxr c j) m := ⟨_, rfl⟩
  suffices hw : z_wp (d + 1) i_X9_chooseNext [.ref q] S I0 J Q by
    rw [hQ] at hw
    obtain ⟨v, S', I', J', x1, rfl, rfl, rfl, j, x2⟩ := hw
    exact ⟨I', j, x1, x2⟩
  have fin : ∀ j, j < m → ∀ I, (∀ x, x ≠ q + 1 → I x = I0 x) → (∀ i, i < m → I (q + 1) i = if i < j then nI (i + 1) else nI (c i)) → (∀ i, i < j → c i + 1 = c (i + 1)) → (j + 1 < m → c j + 1 ≠ c (j + 1)) → Go d i_X9_chooseNext 46 [.ref q, .int (nI j)] [] S I J Q := by
    intro j hj I hI hr hru hga
    refine b_X9_chooseNext_46 hO.1 (a0.rd (by omega) (by decide)) (a0.wr (by omega) (by decide)) ?_
    have e := hr j hj
    rw [if_neg (by omega)] at e
    rw [hQ, a0.1, nI_clamp (by omega), e, nI_1]
    refine ⟨rfl, rfl, rfl, j, fun x hx => by rw [z_u2_row hx]; exact hI x hx, hj, hru, hga, ⟨by rw [z_u2_ne (by omega), hI q (by omega)]; exact c1, c2, row_next c3 hj hru hga (fun b => ors_bit _ b m), fun i hi => ?_⟩⟩
    have h1 := hc i hi
    have h2 := hc j hj
    unfold nxr
    by_cases p1 : i < j
    · rw [if_pos p1, z_u2_nk (by omega), hr i hi, if_pos p1]; exact ⟨by omega, rfl⟩
    · rw [if_neg p1]
      by_cases p2 : i = j
      · rw [if_pos p2, p2, z_u2_same]; exact ⟨by omega, rfl⟩
      · rw [if_neg p2, z_u2_nk p2, hr i hi, if_neg p1]; exact ⟨by omega, rfl⟩
  obtain ⟨l, rfl⟩ : ∃ l, m = l + 1 := ⟨m - 1, by omega⟩
  refine w_X9_chooseNext (b_X9_chooseNext_0 ?_)
  suffices H : ∀ j, j ≤ l → ∀ I x1, (∀ x, x ≠ q + 1 → I x = I0 x) → (∀ i, i < l + 1 → I (q + 1) i = if i < j then nI (i + 1) else nI (c i)) → (∀ i, i < j → c i + 1 = c (i + 1)) → x1 = nI j → Go d i_X9_chooseNext 2 [.ref q, .int x1] [] S I J Q from H 0 (by omega) I0 _ (fun _ _ => rfl) (fun i hi => by rw [if_neg (by omega)]; exact (c4 i hi).2) (fun i hi => by omega) rfl
  have em : ∀ I : zI, (∀ x, x ≠ q + 1 → I x = I0 x) → I q 1 - 1 = nI l := fun I hI => by rw [hI q (by omega), c1, i5_pred l (by omega)]
  refine z_up_to l ?_ ?_
  · rintro I x1 hI hr hru rfl
    refine b_X9_chooseNext_2 hO.1 (fun _ => fin l (by omega) I hI hr hru (fun z => by omega)) (fun z => absurd (by rw [em I hI]; exact nI_le (Nat.le_refl _) (by omega)) z)
  · rintro j hj ih I x1 hI hr hru rfl
    refine b_X9_chooseNext_2 hO.1 (fun z => absurd z (by rw [em I hI]; exact nI_ge hj (by omega))) (fun _ => ?_)
    have e1 := hr j (by omega)
    have e2 := hr (j + 1) (by omega)
    rw [if_neg (by omega)] at e1 e2
    have h1 := hc j (by omega)
    have h2 := hc (j + 1) (by omega)
    have e3 : (I (z_rv S q 0) (nI j).toNatClampNeg + 1 = I (z_rv S q 0) (Int32.toNatClampNeg (nI j + 1))) ↔ c j + 1 = c (j + 1) := by
      rw [a0.1, nI_1, nI_clamp (by omega), nI_clamp (by omega), e1, e2, nI_1, nI_eq (by omega) (by omega)]
    refine b_X9_chooseNext_12 hO.1 (a0.rd (by omega) (by decide)) hO.1 (by rw [nI_1]; exact a0.rd (by omega) (by decide)) (fun z => fin j (by omega) I hI hr hru (fun _ p => z (e3.mpr p))) (fun z => ?_)
    have z := e3.mp z
    refine b_X9_chooseNext_31 hO.1 (a0.wr (by omega) (by decide)) ?_
    rw [a0.1, nI_clamp (by omega), nI_1]
    refine ih _ _ (fun x hx => by rw [z_u2_row hx]; exact hI x hx) (fun i hi => ?_) (fun i hi => ?_) rfl
    · by_cases p1 : i = j
      · rw [p1, z_u2_same, if_pos (by omega)]
      · rw [z_u2_nk p1, hr i hi]
        by_cases p2 : i < j
        · rw [if_pos p2, if_pos (by omega)]
        · rw [if_neg p2, if_neg (by omega)]
    · by_cases p1 : i = j
      · rw [p1]; exact z
      · exact hru i (by omega)
end C20

/-! THE MODEL: words and numbers -/
noncomputable def numP (B : Nat → Int32) (n lo hi q : Nat) : (Nat × Nat) ⊕ (Nat × Nat) := zq (q < n ∧ Dgt (B q)) (zq (pte B n q ≤ q + 2 ∧ lo ≤ nvl B q (pte B n q) ∧ nvl B q (pte B n q) ≤ hi) (.inr (nvl B q (pte B n q), pnx B n q)) (.inl (2, q))) (.inl (1, q))
section MX2
variable {d m n q p : Nat} {B : Nat → Int32} {S : zS} {I I0 I1 I2 : zI} {J : zJ}
theorem m_wordHere (hd : 5 < d) (h : PM S I0 m B n q) (hK : KY S I0) : ∃ I', z_ev d i_X12_wordHere [.ref m] S I0 J (some (.int (kwv (pkw B n q)))) S I' J ∧ PFr I0 I' m ∧ PM S I' m B n q ∧ I' m 5 = nI q := by
  obtain ⟨d, rfl⟩ := z_dep (d := d) (by omega)
  have hk := h.1.k
  have h6 := h.2.2.2.1
  have hn := h.2.1.2
  have b2 := h.1.2.2.1
  obtain ⟨I1, p1, p2, p3, p4⟩ := m_peek (d := d) (J := J) (by omega) h
  have hb : ∀ j, j < n → Byt (B j) := fun j hj => (h.2.2.2.2 j hj).2
  have hK1 : KY S I1 := hK.fr hk p2.1
  have g4 : I1 m 4 = nI n := p3.2.1.1
  refine ⟨I1, e_X12_wordHere (b_X12_wordHere_0 hk (fun z => absurd h6 z) (fun _ => b_X12_wordHere_7 hk ⟨_, _, _, _, p1, b_X12_wordHere_11 ⟨_, _, _, _, m_isLtr (by omega), b_X12_wordHere_14 (fun c => b_X12_wordHere_19 ?_) (fun c => b_X12_wordHere_17 ⟨z_someI ?_, rfl, rfl, rfl⟩)⟩⟩)), p2, p3, p4⟩
  · have c := (pkv_l hb).mp (zb_1.mp c)
    have hle := prn_le (P := Ltr) (B := B) (n := n) (p := q) (by omega)
    have hge := prn_ge (P := Ltr) (B := B) (n := n) (p := q)
    have eb : ∀ i, q + i < n → I1 (z_rv S m 2) (Int32.toNatClampNeg (I1 m 5 + nI i)) = B (q + i) := fun i hi => by rw [p4, nI_add, nI_clamp (by omega), b2.1]; exact (p3.2.2.2.2 _ hi).1
    have rd : ∀ i, q + i < n → z_isB (z_kd S (z_rv S m 2)) = true ∧ vp_in (I1 m 5 + nI i) (z_ln S (z_rv S m 2)) := fun i hi => ⟨by rw [b2.kd]; rfl, by rw [p4, nI_add, b2.ln]; exact vp_in_nI (by omega) (by decide)⟩
    -- over the words
    have words : ∀ j w, w + j = 9 → (∀ w', w' < w → ¬ isK B n q w') → ∀ v4 v5 v6, Go d i_X12_wordHere 61 [.ref m, .int (nI (prn Ltr B n q - q)), .int (nI w), .int (nI (kst w)), v4, v5, v6] [] S I1 J (z_eq (some (.int (kwv (pkw B n q)))) S I1 J) := by
      intro j
      induction j with
      | zero =>
        intro w hw hno v4 v5 v6
        have ew : w = 9 := by omega
        subst ew
        refine b_X12_wordHere_61 hK1.1 ⟨_, _, _, _, j_length (by omega) hK1, b_X12_wordHere_67 (fun _ => b_X12_wordHere_175 ⟨z_someI ?_, rfl, rfl, rfl⟩) (fun z => absurd (by decide) z)⟩
        rcases pkw_spec (B := B) (n := n) (q := q) with ⟨e, _⟩ | ⟨e1, e2⟩
        · rw [e]; rfl
        · exact absurd e2 (hno _ e1)
      | succ j ih =>
        intro w hw hno v4 v5 v6
        obtain ⟨k1, k2, k3⟩ := kyc_at w (by omega)
        refine b_X12_wordHere_61 hK1.1 ⟨_, _, _, _, j_length (by omega) hK1, b_X12_wordHere_67 (fun z => absurd z (by rw [nI_leI (by omega) (by omega)]; omega)) (fun _ => b_X12_wordHere_70 ?_)⟩
        -- the word's end
        have next : (¬ isK B n q w) → ∀ v5 v6 : Int32, Go d i_X12_wordHere 164 [.ref m, .int (nI (prn Ltr B n q - q)), .int (nI w), .int (nI (kst w)), .int (nI (kst w + kln w)), .int v5, .int v6] [] S I1 J (z_eq (some (.int (kwv (pkw B n q)))) S I1 J) := fun hw0 v5 v6 => by
          refine b_X12_wordHere_164 ?_
          rw [nI_1, nI_1, k2]
          exact ih (w + 1) (by omega) (fun w' hw' => by
            rcases (show w' < w ∨ w' = w by omega) with e | e
            · exact hno w' e
            · rw [e]; exact hw0) _ _ _
        have cmp : prn Ltr B n q = q + kln w → ∀ i, i ≤ kln w → (∀ i', i' < i → B (q + i') = nI (kch w i')) → Go d i_X12_wordHere 109 [.ref m, .int (nI (prn Ltr B n q - q)), .int (nI w), .int (nI (kst w)), .int (nI (kst w + kln w)), .int 1, .int (nI i)] [] S I1 J (z_eq (some (.int (kwv (pkw B n q)))) S I1 J) := fun el => by
          have eL : prn Ltr B n q - q = kln w := by omega
          rw [eL]
          refine z_up_to (kln w) ?_ ?_
          · intro hall
            refine b_X12_wordHere_109 (fun _ => b_X12_wordHere_157 (fun z => by cases z) (fun _ => b_X12_wordHere_162 ⟨z_someI ?_, rfl, rfl, rfl⟩)) (fun z => absurd (nI_le (Nat.le_refl _) (by omega)) z)
            have hi : isK B n q w := ⟨by omega, c, el, hall⟩
            have := (pkw_is (by omega)).mp hi
            rw [this]
            exact (if_neg (by omega)).symm
          · intro i hi ih2 hall
            have hch := kch_lt w (by omega) i hi
            have hqi : q + i < n := by omega
            refine b_X12_wordHere_109 (fun z => absurd z (nI_ge hi (by omega))) (fun _ => b_X12_wordHere_115 (fun z => by cases z) (fun _ => b_X12_wordHere_120 hK1.1 ?_))
            rw [nI_add]
            refine ⟨_, _, _, _, j_charAt (by omega) hK1 (by omega), b_X12_wordHere_129 hk hk (rd i hqi) (fun z => ?_) (fun z => ?_)⟩
            · rw [eb i hqi, (kyc_in w (by omega) i hi).1] at z
              refine b_X12_wordHere_148 (b_X12_wordHere_109 (fun z2 => b_X12_wordHere_157 (fun _ => ?_) (fun z3 => absurd rfl z3)) (fun z2 => b_X12_wordHere_115 (fun _ => b_X12_wordHere_157 (fun _ => ?_) (fun z3 => absurd rfl z3)) (fun z3 => absurd rfl z3)))
              · have := next (fun hw0 => z (hw0.2.2.2 i hi).symm)
                rw [eL] at this
                exact this _ _
              · have := next (fun hw0 => z (hw0.2.2.2 i hi).symm)
                rw [eL] at this
                exact this _ _
            · rw [eb i hqi, (kyc_in w (by omega) i hi).1] at z
              refine b_X12_wordHere_144 ?_
              rw [nI_1]
              exact ih2 (fun i' hi' => by
                rcases (show i' < i ∨ i' = i by omega) with e | e
                · exact hall i' e
                · rw [e]; exact z.symm)
        suffices H : ∀ i, i ≤ kln w → ∀ v5 v6, Go d i_X12_wordHere 73 [.ref m, .int (nI (prn Ltr B n q - q)), .int (nI w), .int (nI (kst w)), .int (nI (kst w + i)), v5, v6] [] S I1 J (z_eq (some (.int (kwv (pkw B n q)))) S I1 J) from H 0 (by omega) _ _
        refine z_up_to (kln w) ?_ ?_
        · intro v5 v6
          refine b_X12_wordHere_73 hK1.1 ⟨_, _, _, _, j_charAt (by omega) hK1 (by omega), b_X12_wordHere_80 (fun _ => ?_) (fun z => absurd (by rw [k1]; rfl) z)⟩
          have es : nI (kst w + kln w) - nI (kst w) = nI (kln w) := by rw [pk_sub (by omega), show kst w + kln w - kst w = kln w by omega]
          refine b_X12_wordHere_91 (fun z => ?_) (fun z => ?_)
          · rw [es, nI_eq (by omega) (by omega)] at z
            have hw0 : ¬ isK B n q w := fun q' => z (by have := q'.2.2.1; omega)
            refine b_X12_wordHere_103 (b_X12_wordHere_109 (fun z2 => b_X12_wordHere_157 (fun _ => next hw0 _ _) (fun z3 => absurd rfl z3)) (fun z2 => b_X12_wordHere_115 (fun _ => b_X12_wordHere_157 (fun _ => next hw0 _ _) (fun z3 => absurd rfl z3)) (fun z3 => absurd rfl z3)))
          · rw [es, nI_eq (by omega) (by omega)] at z
            exact b_X12_wordHere_99 (cmp (by omega) 0 (by omega) (fun i' hi' => by omega))
        · intro i hi ih2 v5 v6
          obtain ⟨r1, r2⟩ := kyc_in w (by omega) i hi
          have hch := kch_lt w (by omega) i hi
          refine b_X12_wordHere_73 hK1.1 ⟨_, _, _, _, j_charAt (by omega) hK1 (by omega), b_X12_wordHere_80 (fun z => ?_) (fun _ => b_X12_wordHere_85 ?_)⟩
          · rw [r1, z_lit 32, nI_eq (by omega) (by decide)] at z
            exact absurd z r2
          · rw [nI_1]
            exact ih2 _ _
    -- how long it is
    suffices H : ∀ k i, q + i + k = prn Ltr B n q → ∀ v2 v3 v4 v5 v6, Go d i_X12_wordHere 21 [.ref m, .int (nI i), v2, v3, v4, v5, v6] [] S I1 J (z_eq (some (.int (kwv (pkw B n q)))) S I1 J) from H (prn Ltr B n q - q) 0 (by omega) _ _ _ _ _
    intro k
    induction k with
    | zero =>
      intro i hi v2 v3 v4 v5 v6
      have ei : i = prn Ltr B n q - q := by omega
      have stop := (prn_spec (P := Ltr) (B := B) (n := n) (p := q)).2.1
      have go57 : Go d i_X12_wordHere 57 [.ref m, .int (nI i), v2, v3, v4, v5, v6] [] S I1 J (z_eq (some (.int (kwv (pkw B n q)))) S I1 J) := by
        refine b_X12_wordHere_57 ?_
        rw [ei]
        exact words 9 0 (by omega) (fun w' hw' => by omega) _ _ _
      refine b_X12_wordHere_21 hk hk (fun _ => go57) (fun z => b_X12_wordHere_34 hk hk (rd i ?_) ?_)
      · rw [g4, p4, nI_add, nI_leI (by omega) (by omega)] at z; omega
      · rw [g4, p4, nI_add, nI_leI (by omega) (by omega)] at z
        rw [eb i (by omega)]
        refine ⟨_, _, _, _, m_isLtr (by omega), b_X12_wordHere_48 (fun _ => go57) (fun z2 => absurd ⟨by omega, ?_⟩ stop)⟩
        have := zb_1.mp z2
        rw [show q + i = prn Ltr B n q by omega] at this
        exact this
    | succ k ih =>
      intro i hi v2 v3 v4 v5 v6
      obtain ⟨s1, s2⟩ := prn_in (P := Ltr) (B := B) (n := n) (p := q) (j := q + i) (by omega) (by omega)
      refine b_X12_wordHere_21 hk hk (fun z => ?_) (fun _ => b_X12_wordHere_34 hk hk (rd i s1) ?_)
      · rw [g4, p4, nI_add, nI_leI (by omega) (by omega)] at z; omega
      · rw [eb i s1]
        refine ⟨_, _, _, _, m_isLtr (by omega), b_X12_wordHere_48 (fun z => absurd s2 (zb_0.mp z)) (fun _ => b_X12_wordHere_51 ?_)⟩
        rw [nI_1]
        exact ih (i + 1) (by omega) _ _ _ _ _
  · have c := zb_0.mp c
    rcases pkw_spec (B := B) (n := n) (q := q) with ⟨e, _⟩ | ⟨_, e2⟩
    · rw [e]; rfl
    · exact absurd ((pkv_l hb).mpr e2.2.1) c
end MX2

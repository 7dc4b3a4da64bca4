/-! THE MODEL: numbers -/
section MX3
variable {d m n q p lo hi : Nat} {B : Nat → Int32} {S : zS} {I I0 I1 I2 : zI} {J : zJ}
def nvi (B : Nat → Int32) (q i : Nat) : Nat := if i = 0 then 0 else if i = 1 then dvl B q else 10 * dvl B q + dvl B (q + 1)
theorem nvi_e {e : Nat} (h1 : q < e) : nvi B q (e - q) = nvl B q e := by
  unfold nvi nvl
  by_cases h : e = q + 1
  · rw [if_neg (by omega), if_pos (by omega), if_pos h]
  · rw [if_neg (by omega), if_neg (by omega), if_neg h]
theorem dvl_lt {x : Nat} (h : Dgt (B x)) : dvl B x < 10 ∧ B x = nI (48 + dvl B x) := ⟨(dgt_nI h).2, (dgt_nI h).1⟩
theorem nvi_lt {i : Nat} (h : ∀ j, j < i → j < 2 → dvl B (q + j) < 10) : nvi B q i < 100 := by
  unfold nvi
  by_cases h0 : i = 0
  · rw [if_pos h0]; decide
  · rw [if_neg h0]
    have a0 := h 0 (by omega) (by decide)
    by_cases h1 : i = 1
    · rw [if_pos h1]; rw [Nat.add_zero] at a0; omega
    · rw [if_neg h1]
      have a1 := h 1 (by omega) (by decide)
      rw [Nat.add_zero] at a0; omega
theorem m_numeral (hd : 2 < d) (h : PM S I0 m B n q) (hlo : lo < 2 ^ 31) (hhi : hi < 2 ^ 31) : ∃ I' v, z_ev d i_X12_numeral [.ref m, .int (nI lo), .int (nI hi)] S I0 J (some (.int v)) S I' J ∧ PFr I0 I' m ∧ (∀ c, numP B n lo hi q = .inl c → I' m 6 = nI c.1 ∧ I' m 7 = nI c.2) ∧ ∀ c, numP B n lo hi q = .inr c → v = nI c.1 ∧ PM S I' m B n c.2 := by
  obtain ⟨d, rfl⟩ := z_dep (d := d) (by omega)
  have hk := h.1.k
  have h6 := h.2.2.2.1
  have hn := h.2.1.2
  have b2 := h.1.2.2.1
  have hql := h.le
  obtain ⟨I1, p1, p2, p3, p4⟩ := m_peek (d := d) (J := J) (by omega) h
  have hb : ∀ j, j < n → Byt (B j) := fun j hj => (h.2.2.2.2 j hj).2
  have p6 := p3.2.2.2.1
  rcases Classical.em (q < n ∧ Dgt (B q)) with c | c
  · have eP : numP B n lo hi q = _ := zq_t c
    obtain ⟨e, he⟩ : ∃ e, e = pte B n q := ⟨_, rfl⟩
    have he' : e = prn Dgt B n q := by rw [he]; exact pte_n c
    have hqe : q < e := by rw [he]; exact pte_gt c.1
    have hen : e ≤ n := by rw [he]; exact pte_le hql
    have hdg : ∀ j, q ≤ j → j < e → j < n ∧ Dgt (B j) := fun j h1 h2 => prn_in h1 (by rw [← he']; exact h2)
    have hstop : ¬ (e < n ∧ Dgt (B e)) := by rw [he']; exact prn_spec.2.1
    rw [← he] at eP
    have hv100 : ∀ i, i ≤ e - q → nvi B q i < 100 := fun i hi => nvi_lt (fun j h1 h2 => (dvl_lt (hdg (q + j) (by omega) (by omega)).2).1)
    have head : ∀ (I' : zI) (v : Int32), Go d i_X12_numeral 30 [.ref m, .int (nI lo), .int (nI hi), .retAddr 0, .retAddr 0] [] S I1 J (z_eq (some (.int v)) S I' J) → z_ev (d + 1) i_X12_numeral [.ref m, .int (nI lo), .int (nI hi)] S I0 J (some (.int v)) S I' J := fun I' v hgo =>
      e_X12_numeral (b_X12_numeral_0 hk (fun _ => b_X12_numeral_9 hk ⟨_, _, _, _, p1, b_X12_numeral_13 ⟨_, _, _, _, m_isDgt (by omega), b_X12_numeral_16 (fun _ => hgo) (fun z => absurd ((pkv_d hb).mpr c) (zb_0.mp z))⟩⟩) (fun z => absurd h6 z))
    -- the digits
    have loop : ∀ (Q : zQ), (∀ I2, PFr I1 I2 m → I2 m 5 = nI e → (I2 m 6 = 0 ∧ I2 m 7 = I1 m 7) → Go d i_X12_numeral 107 [.ref m, .int (nI lo), .int (nI hi), .int (nI q), .int (nI (nvi B q (e - q)))] [] S I2 J Q) → Go d i_X12_numeral 30 [.ref m, .int (nI lo), .int (nI hi), .retAddr 0, .retAddr 0] [] S I1 J Q := fun Q hQ => by
      refine b_X12_numeral_30 hk ?_
      rw [p4]
      suffices H : ∀ k i I2, q + i + k = e → PFr I1 I2 m → I2 m 5 = nI (q + i) → (I2 m 6 = 0 ∧ I2 m 7 = I1 m 7) → Go d i_X12_numeral 38 [.ref m, .int (nI lo), .int (nI hi), .int (nI q), .int (nI (nvi B q i))] [] S I2 J Q from H (e - q) 0 I1 (by omega) PFr.refl p4 ⟨p6, rfl⟩
      intro k
      induction k with
      | zero =>
        intro i I2 hi gF g5 g6
        have ei : i = e - q := by omega
        have g4 : I2 m 4 = nI n := by rw [gF.2 4 (by decide) (by decide) (by decide)]; exact p3.2.1.1
        have e5 : q + i = e := by omega
        refine b_X12_numeral_38 hk hk (fun _ => by rw [ei]; exact hQ I2 gF (by rw [g5, e5]) g6) (fun z => b_X12_numeral_49 hk hk ⟨by rw [b2.kd]; rfl, ?_⟩ ?_)
        · rw [g4, g5, nI_leI (by omega) (by omega)] at z
          rw [g5, b2.ln]; exact vp_in_nI (by omega) (by decide)
        · rw [g4, g5, nI_leI (by omega) (by omega)] at z
          rw [g5, nI_clamp (by omega), b2.1, gF.1 (m + 2) (by omega), (p3.2.2.2.2 (q + i) (by omega)).1]
          refine ⟨_, _, _, _, m_isDgt (by omega), b_X12_numeral_61 (fun _ => by rw [ei]; exact hQ I2 gF (by rw [g5, e5]) g6) (fun z2 => absurd ⟨by omega, ?_⟩ hstop)⟩
          rw [← e5]; exact zb_1.mp z2
      | succ k ih =>
        intro i I2 hi gF g5 g6
        have g4 : I2 m 4 = nI n := by rw [gF.2 4 (by decide) (by decide) (by decide)]; exact p3.2.1.1
        obtain ⟨s1, s2⟩ := hdg (q + i) (by omega) (by omega)
        obtain ⟨s3, s4⟩ := dvl_lt s2
        have hv := hv100 i (by omega)
        have eb : I2 (z_rv S m 2) (Int32.toNatClampNeg (I2 m 5)) = B (q + i) := by rw [g5, nI_clamp (by omega), b2.1, gF.1 (m + 2) (by omega), (p3.2.2.2.2 (q + i) s1).1]
        have rd : z_isB (z_kd S (z_rv S m 2)) = true ∧ vp_in (I2 m 5) (z_ln S (z_rv S m 2)) := ⟨by rw [b2.kd]; rfl, by rw [g5, b2.ln]; exact vp_in_nI (by omega) (by decide)⟩
        have esub : I2 m 5 - nI q = nI i := by rw [g5, pk_sub (by omega), show q + i - q = i by omega]
        refine b_X12_numeral_38 hk hk (fun z => ?_) (fun _ => b_X12_numeral_49 hk hk rd ?_)
        · rw [g4, g5, nI_leI (by omega) (by omega)] at z; omega
        · rw [eb]
          refine ⟨_, _, _, _, m_isDgt (by omega), b_X12_numeral_61 (fun z => absurd s2 (zb_0.mp z)) (fun _ => b_X12_numeral_64 hk (fun z => b_X12_numeral_94 hk hk ?_) (fun z => b_X12_numeral_74 hk hk rd hk hk ?_))⟩
          · rw [esub, z_lit 2, nI_leI (by decide) (by omega)] at z
            have := ih (i + 1) (z_u2 I2 m 5 (I2 m 5 + 1)) (by omega) gF.w5 (by rw [z_u2_same, g5, nI_1]; rfl) (by rw [z_u2_nk (by decide), z_u2_nk (by decide)]; exact g6)
            rw [show nvi B q (i + 1) = nvi B q i by unfold nvi; rw [if_neg (by omega), if_neg (by omega), if_neg (by omega), if_neg (by omega)]] at this
            exact this
          · rw [esub, z_lit 2, nI_leI (by decide) (by omega)] at z
            have := ih (i + 1) (z_u2 I2 m 5 (I2 m 5 + 1)) (by omega) gF.w5 (by rw [z_u2_same, g5, nI_1]; rfl) (by rw [z_u2_nk (by decide), z_u2_nk (by decide)]; exact g6)
            rw [eb, s4, z_lit 10, pk_mul, nI_add, z_lit 48, pk_sub (by omega)]
            have ev : 10 * nvi B q i + (48 + dvl B (q + i)) - 48 = nvi B q (i + 1) := by
              unfold nvi
              rcases (show i = 0 ∨ i = 1 by omega) with e0 | e0
              · rw [if_pos e0, if_neg (by omega), if_pos (by omega), e0]; simp only [Nat.add_zero]; omega
              · rw [if_neg (by omega), if_pos e0, if_neg (by omega), if_neg (by omega), e0]; omega
            rw [ev]
            exact this
    have hvl := hv100 (e - q) (Nat.le_refl _)
    have env := nvi_e (B := B) hqe
    rcases Classical.em (e ≤ q + 2 ∧ lo ≤ nvl B q e ∧ nvl B q e ≤ hi) with c2 | c2
    · rw [zq_t c2] at eP
      have fin : ∃ I2, Go d i_X12_numeral 30 [.ref m, .int (nI lo), .int (nI hi), .retAddr 0, .retAddr 0] [] S I1 J (fun w S' I' J' => w = some (.int (nI (nvl B q e))) ∧ S' = S ∧ J' = J ∧ PFr I1 I' m ∧ I' m 5 = nI e ∧ (I' m 6 = 0 ∧ I' m 7 = I1 m 7)) := ⟨I1, loop _ (fun I2 gF g5 g6 => by
        have esub : I2 m 5 - nI q = nI (e - q) := by rw [g5, pk_sub (by omega)]
        refine b_X12_numeral_107 hk (fun z => ?_) (fun _ => b_X12_numeral_117 ⟨_, _, _, _, m_isIn (by omega) rfl rfl rfl, b_X12_numeral_127 (fun _ => b_X12_numeral_136 hk (fun z => absurd g6.1 z) (fun _ => b_X12_numeral_143 ⟨by rw [env], rfl, rfl, gF, g5, g6⟩)) (fun z => absurd ?_ (zb_0.mp z))⟩)
        · rw [esub, z_lit 2, nI_ltI (by decide) (by omega)] at z; omega
        · rw [env] at hvl
          rw [env, nI_leI hlo (by omega), nI_leI (by omega) hhi]; exact ⟨c2.2.1, c2.2.2⟩)⟩
      obtain ⟨_, fin⟩ := fin
      obtain ⟨v, S', I', J', ⟨rfl, rfl, rfl, f1, f2, f3⟩, g⟩ := z_go.one (z_wp_up d) (z_wp_one d) fin
      refine ⟨I', _, head I' _ g, p2.trans f1, fun c0 hc => (by rw [eP] at hc; cases hc), fun c0 hc => ?_⟩
      rw [eP] at hc
      have hc := Sum.inr.inj hc
      rw [← hc]
      exact ⟨rfl, p3.to f1 f2 hen (by unfold pnx; rw [← he]) f3⟩
    · rw [zq_f c2] at eP
      have fin : Go d i_X12_numeral 30 [.ref m, .int (nI lo), .int (nI hi), .retAddr 0, .retAddr 0] [] S I1 J (fun w S' I' J' => w = some (.int (nI lo)) ∧ S' = S ∧ J' = J ∧ PFr I1 I' m ∧ I' m 6 = 2 ∧ I' m 7 = nI q) := loop _ (fun I2 gF g5 g6 => by
        have esub : I2 m 5 - nI q = nI (e - q) := by rw [g5, pk_sub (by omega)]
        have bad : Go d i_X12_numeral 130 [.ref m, .int (nI lo), .int (nI hi), .int (nI q), .int (nI (nvi B q (e - q)))] [] S I2 J (fun w S' I' J' => w = some (.int (nI lo)) ∧ S' = S ∧ J' = J ∧ PFr I1 I' m ∧ I' m 6 = 2 ∧ I' m 7 = nI q) := by
          refine b_X12_numeral_130 hk ⟨_, _, _, _, m_fails (by omega) hk g6.1, b_X12_numeral_136 hk (fun _ => b_X12_numeral_148 ⟨rfl, rfl, rfl, gF.w67, by rw [z_u2_nk (by decide), z_u2_same], z_u2_same⟩) (fun z => ?_)⟩
          rw [z_u2_nk (by decide), z_u2_same] at z; cases z
        refine b_X12_numeral_107 hk (fun _ => bad) (fun z => b_X12_numeral_117 ⟨_, _, _, _, m_isIn (by omega) rfl rfl rfl, b_X12_numeral_127 (fun z2 => ?_) (fun _ => bad)⟩)
        rw [esub, z_lit 2, nI_ltI (by decide) (by omega)] at z
        have z2 := zb_1.mp z2
        rw [env] at hvl
        rw [env, nI_leI hlo (by omega), nI_leI (by omega) hhi] at z2
        exact absurd ⟨by omega, z2.1, z2.2⟩ c2)
      obtain ⟨v, S', I', J', ⟨rfl, rfl, rfl, f1, f2, f3⟩, g⟩ := z_go.one (z_wp_up d) (z_wp_one d) fin
      refine ⟨I', _, head I' _ g, p2.trans f1, fun c0 hc => ?_, fun c0 hc => by rw [eP] at hc; cases hc⟩
      rw [eP] at hc
      have hc := Sum.inl.inj hc
      rw [← hc]
      exact ⟨f2, f3⟩
  · have eP : numP B n lo hi q = _ := zq_f c
    refine ⟨_, _, e_X12_numeral (b_X12_numeral_0 hk (fun _ => b_X12_numeral_9 hk ⟨_, _, _, _, p1, b_X12_numeral_13 ⟨_, _, _, _, m_isDgt (by omega), b_X12_numeral_16 (fun z => absurd ((pkv_d hb).mp (zb_1.mp z)) c) (fun _ => b_X12_numeral_19 hk hk ⟨_, _, _, _, m_fails (by omega) hk p6, b_X12_numeral_28 ⟨rfl, rfl, rfl, rfl⟩⟩)⟩⟩) (fun z => absurd h6 z)), p2.w67, fun c0 hc => ?_, fun c0 hc => by rw [eP] at hc; cases hc⟩
    rw [eP] at hc
    have hc := Sum.inl.inj hc
    rw [← hc]
    exact ⟨by rw [z_u2_nk (by decide), z_u2_same]; rfl, by rw [z_u2_same, p4]⟩
end MX3

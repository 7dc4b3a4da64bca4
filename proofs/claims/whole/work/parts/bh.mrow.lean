/-! THE MODEL: a row is read -/
theorem prm_all {D : Nat} {r : Nat → Nat} (hD : 0 < D) : zim (fun _ => true) r D = 2 ^ D - 1 ↔ Prm D r := by
  have tb : ∀ j, (2 ^ D - 1).testBit j = true ↔ j < D := fun j => by rw [Nat.testBit_two_pow_sub_one, decide_eq_true_eq]
  constructor
  · intro h
    have sur : ∀ j, j < D → ∃ i, i < D ∧ r i = j := fun j hj => by
      have := (tb j).mpr hj
      rw [← h, zim_bit] at this
      obtain ⟨i, hi, _, e⟩ := this
      exact ⟨i, hi, e⟩
    have lt : ∀ i, i < D → r i < D := fun i hi => by
      rw [← tb, ← h, zim_bit]
      exact ⟨i, hi, rfl, rfl⟩
    refine ⟨lt, fun i j hi hj e => ?_⟩
    have sp : ∀ j, j < D → zleast (fun i => i < D ∧ r i = j) < D ∧ r (zleast (fun i => i < D ∧ r i = j)) = j := fun j hj => (zleast_spec (sur j hj)).1
    have hsur := fun y (hy : y < D) => z_surj (f := fun j => zleast (fun i => i < D ∧ r i = j)) (fun j hj => (sp j hj).1) (fun a b ha hb q => by rw [← (sp a ha).2, ← (sp b hb).2]; exact congrArg r q) hy
    obtain ⟨a, ha, ea⟩ := hsur i hi
    obtain ⟨b, hb, eb⟩ := hsur j hj
    have e1 := (sp a ha).2
    have e2 := (sp b hb).2
    have ea : zleast (fun i => i < D ∧ r i = a) = i := ea
    have eb : zleast (fun i => i < D ∧ r i = b) = j := eb
    rw [ea] at e1
    rw [eb] at e2
    rw [← ea, ← eb, show a = b by rw [← e1, ← e2, e]]
  · intro h
    refine Nat.eq_of_testBit_eq (fun j => Bool.eq_iff_iff.mpr ?_)
    rw [zim_bit, tb]
    constructor
    · rintro ⟨i, hi, _, rfl⟩; exact h.1 i hi
    · intro hj
      obtain ⟨i, hi, e⟩ := z_surj h.1 h.2 hj
      exact ⟨i, hi, rfl, e⟩
/-- the rows that are told -/
def TW (I : zI) (m : Nat) (R : Nat → Nat → Nat) (cnt dg : Nat) : Prop := I m 14 = nI cnt ∧ (0 < cnt → I m 15 = nI dg) ∧ ∀ t i, t < cnt → i < dg → I (m + 5) (8 * t + i) = nI (R t i)
section MR
variable {d m n q p cnt dg : Nat} {B : Nat → Int32} {R : Nat → Nat → Nat} {S : zS} {I I0 I1 I2 : zI} {J : zJ}
theorem m_rowRead (hd : 2 < d) (h : PM S I0 m B n q) (hT : TW I0 m R cnt dg) (hc : cnt < 150) (hdg : 0 < cnt → dg ≤ 8) : ∃ I', z_ev d i_X12_rowRead [.ref m] S I0 J none S I' J ∧ PGr I0 I' m ∧ (I' (m + 1) = I0 (m + 1) ∧ I' (m + 3) = I0 (m + 3) ∧ I' m 11 = I0 m 11) ∧ (∀ c, rowP B n cnt dg q = .inl c → (I' m 6 = nI c.1 ∧ I' m 7 = nI c.2) ∧ (c.1 = 1 ∨ c.1 = 2)) ∧ ∀ c, rowP B n cnt dg q = .inr c → PM S I' m B n c.2 ∧ TW I' m (rup R cnt c.1.2) (cnt + 1) c.1.1 := by
  obtain ⟨d, rfl⟩ := z_dep (d := d) (by omega)
  have hL := h.1
  have hk := hL.k
  have h6 := h.2.2.2.1
  have hn := h.2.1.2
  have b2 := hL.2.2.1
  have b5 := hL.2.2.2.2.2.1
  have hql := h.le
  obtain ⟨I1, p1, p2, p3, p4⟩ := m_peek (d := d) (J := J) (by omega) h
  have hb : ∀ j, j < n → Byt (B j) := fun j hj => (h.2.2.2.2 j hj).2
  have p6 := p3.2.2.2.1
  have f2 := fun {k : Nat} (a : k ≠ 5) (b : k ≠ 6) (c : k ≠ 7) => p2.2 k a b c
  rcases Classical.em (q < n ∧ Dgt (B q)) with c | c
  · have eP : rowP B n cnt dg q = _ := zq_t c
    obtain ⟨e, he⟩ : ∃ e, e = pte B n q := ⟨_, rfl⟩
    have he' : e = prn Dgt B n q := by rw [he]; exact pte_n c
    have hqe : q < e := by rw [he]; exact pte_gt c.1
    have hen : e ≤ n := by rw [he]; exact pte_le hql
    have hdgt : ∀ j, q ≤ j → j < e → j < n ∧ Dgt (B j) := fun j h1 h2 => prn_in h1 (by rw [← he']; exact h2)
    have hstop : ¬ (e < n ∧ Dgt (B e)) := by rw [he']; exact prn_spec.2.1
    rw [← he] at eP
    obtain ⟨r, hr⟩ : ∃ r : Nat → Nat, r = fun i => dvl B (q + i) := ⟨_, rfl⟩
    have hr10 : ∀ i, i < e - q → r i < 10 := fun i hi => by rw [hr]; exact (dvl_lt (hdgt (q + i) (by omega) (by omega)).2).1
    obtain ⟨Q, hQ⟩ : ∃ Q : zQ, Q = fun w S' I' J' => w = none ∧ S' = S ∧ J' = J ∧ PGr I0 I' m ∧ (I' (m + 1) = I0 (m + 1) ∧ I' (m + 3) = I0 (m + 3) ∧ I' m 11 = I0 m 11) ∧ (∀ c, rowP B n cnt dg q = .inl c → (I' m 6 = nI c.1 ∧ I' m 7 = nI c.2) ∧ (c.1 = 1 ∨ c.1 = 2)) ∧ ∀ c, rowP B n cnt dg q = .inr c → PM S I' m B n c.2 ∧ TW I' m (rup R cnt c.1.2) (cnt + 1) c.1.1 := ⟨_, rfl⟩
    suffices hw : z_wp (d + 1) i_X12_rowRead [.ref m] S I0 J Q by
      rw [hQ] at hw
      obtain ⟨w, S', I', J', x1, rfl, rfl, rfl, x2⟩ := hw
      exact ⟨I', x1, x2⟩
    -- the end
    have fin : ∀ I2 v4, PGr I0 I2 m → (∀ h, h ≠ m → h ≠ m + 5 → I2 h = I0 h) → (∀ k, k ≠ 5 → k ≠ 6 → k ≠ 7 → I2 m k = I0 m k) → I2 m 5 = nI e → (I2 m 6 = 0 ∧ I2 m 7 = I0 m 7) → (∀ i, i < e - q → i < 8 → I2 (m + 5) (8 * cnt + i) = nI (r i)) → (∀ j, j < 8 * cnt → I2 (m + 5) j = I0 (m + 5) j) → Go d i_X12_rowRead 122 [.ref m, .int (nI q), .int (nI (zim (fun _ => true) r (min (e - q) 8))), .int (nI (e - q)), v4] [] S I2 J Q := fun I2 v4 g1 g2 g3 g5 g6 g7 g8 => by
      have bad : ¬ (RwOk B q e ∧ (cnt = 0 ∨ e - q = dg)) → Go d i_X12_rowRead 160 [.ref m, .int (nI q), .int (nI (zim (fun _ => true) r (min (e - q) 8))), .int (nI (e - q)), v4] [] S I2 J Q := fun hno => by
        have eP2 : rowP B n cnt dg q = .inl (2, q) := by rw [eP, zq_f hno]
        refine b_X12_rowRead_160 hk ⟨_, _, _, _, m_fails (by omega) hk g6.1, b_X12_rowRead_166 ?_⟩
        rw [hQ]
        refine ⟨rfl, rfl, rfl, (g1.w (by omega)).w (by omega), ⟨by rw [z_u2_row (by omega), z_u2_row (by omega)]; exact g2 _ (by omega) (by omega), by rw [z_u2_row (by omega), z_u2_row (by omega)]; exact g2 _ (by omega) (by omega), by rw [z_u2_nk (by decide), z_u2_nk (by decide)]; exact g3 11 (by decide) (by decide) (by decide)⟩, fun c0 hc => ?_, fun c0 hc => by rw [eP2] at hc; cases hc⟩
        rw [eP2] at hc
        have hc := Sum.inl.inj hc
        rw [← hc]
        exact ⟨⟨by rw [z_u2_nk (by decide), z_u2_same]; rfl, z_u2_same⟩, Or.inr rfl⟩
      have i14 : I2 m 14 = nI cnt := by rw [g3 14 (by decide) (by decide) (by decide)]; exact hT.1
      refine b_X12_rowRead_122 ⟨_, _, _, _, m_isIn (a := 2) (b := 8) (by omega) rfl rfl rfl, b_X12_rowRead_133 (fun z => bad ?_) (fun z => ?_)⟩
      · have z := zb_0.mp z
        rintro ⟨⟨⟨a1, a2⟩, _⟩, _⟩
        exact z ⟨by rw [z_lit 2, nI_leI (by decide) (by omega)]; omega, by rw [z_lit 8, nI_leI (by omega) (by decide)]; omega⟩
      · have z := zb_1.mp z
        rw [z_lit 2, z_lit 8, nI_leI (by decide) (by omega), nI_leI (by omega) (by decide)] at z
        have emin : min (e - q) 8 = e - q := Nat.min_eq_left z.2
        have hzl : zim (fun _ => true) r (e - q) < 2 ^ 10 := zim_lt (fun i hi _ => hr10 i hi)
        have hp2 : 2 ^ (e - q) ≤ 2 ^ 8 := Nat.pow_le_pow_right (by decide) z.2
        have hpp : 0 < 2 ^ (e - q) := Nat.pow_pos (by decide)
        have esh : ((1 : Int32) <<< (nI (e - q) &&& 31)) - 1 = nI (2 ^ (e - q) - 1) := by rw [z_shl1 (by omega), z_lit 1, pk_sub (by omega)]
        rw [emin] at bad ⊢
        refine b_X12_rowRead_136 (fun z2 => bad ?_) (fun z2 => ?_)
        · rw [esh, nI_eq (by omega) (by omega), prm_all (by omega)] at z2
          rintro ⟨⟨_, a3⟩, _⟩
          rw [hr] at z2
          exact z2 a3
        · rw [esh, nI_eq (by omega) (by omega), prm_all (by omega)] at z2
          have ok1 : RwOk B q e := ⟨by omega, by rw [hr] at z2; exact z2⟩
          have good : (cnt = 0 ∨ e - q = dg) → Go d i_X12_rowRead 167 [.ref m, .int (nI q), .int (nI (zim (fun _ => true) r (e - q))), .int (nI (e - q)), v4] [] S I2 J Q := fun hor => by
            have eP2 : rowP B n cnt dg q = .inr ((e - q, r), pnx B n q) := by rw [eP, zq_t ⟨ok1, hor⟩, hr]
            refine b_X12_rowRead_167 hk hk hk ?_
            rw [z_u2_nk (show (14 : Nat) ≠ 15 by decide), i14, nI_1, hQ]
            refine ⟨rfl, rfl, rfl, (g1.w (by omega)).w (by omega), ⟨by rw [z_u2_row (by omega), z_u2_row (by omega)]; exact g2 _ (by omega) (by omega), by rw [z_u2_row (by omega), z_u2_row (by omega)]; exact g2 _ (by omega) (by omega), by rw [z_u2_nk (by decide), z_u2_nk (by decide)]; exact g3 11 (by decide) (by decide) (by decide)⟩, fun c0 hc => (by rw [eP2] at hc; cases hc), fun c0 hc => ?_⟩
            rw [eP2] at hc
            have hc := Sum.inr.inj hc
            rw [← hc]
            refine ⟨?_, ?_, fun _ => ?_, fun t i ht hi => ?_⟩
            · have m1 : PM S I2 m B n (pnx B n q) := by
                obtain ⟨a1, ⟨a2, a3⟩, _, _, a5⟩ := h
                exact ⟨a1, ⟨by rw [g3 4 (by decide) (by decide) (by decide)]; exact a2, a3.1, by rw [g6.2]; exact a3.2⟩, ⟨e, hen, g5, by unfold pnx; rw [← he]⟩, g6.1, fun j hj => by rw [g2 (m + 2) (by omega) (by omega)]; exact a5 j hj⟩
              exact m1.gr ((PGr.refl.w (by omega)).w (by omega)) (by rw [z_u2_nk (by decide), z_u2_nk (by decide)]) (by rw [z_u2_nk (by decide), z_u2_nk (by decide)]) (by rw [z_u2_nk (by decide), z_u2_nk (by decide)])
            · rw [z_u2_same]
            · rw [z_u2_nk (by decide), z_u2_same]
            · have hi : i < e - q := hi
              rw [z_u2_row (by omega), z_u2_row (by omega)]
              show _ = nI (rup R cnt r t i)
              unfold rup
              by_cases et : t = cnt
              · rw [if_pos et, et]; exact g7 i hi (by omega)
              · rw [if_neg et, g8 _ (by omega)]
                have hdg' : e - q = dg := by omega
                exact hT.2.2 t i (by omega) (by omega)
          refine b_X12_rowRead_145 hk (fun z3 => good (Or.inl ?_)) (fun z3 => b_X12_rowRead_152 hk (fun z4 => good (Or.inr ?_)) (fun z4 => bad ?_))
          · rw [i14, show (0 : Int32) = nI 0 from rfl, nI_leI (by omega) (by decide)] at z3; omega
          · rw [i14, show (0 : Int32) = nI 0 from rfl, nI_leI (by omega) (by decide)] at z3
            have hd8 := hdg (by omega)
            rw [g3 15 (by decide) (by decide) (by decide), hT.2.1 (by omega), nI_eq (by omega) (by omega)] at z4
            exact z4
          · rw [i14, show (0 : Int32) = nI 0 from rfl, nI_leI (by omega) (by decide)] at z3
            rw [g3 15 (by decide) (by decide) (by decide), hT.2.1 (by omega)] at z4
            rintro ⟨_, q0 | q0⟩
            · omega
            · exact z4 (by rw [q0])
    refine w_X12_rowRead (b_X12_rowRead_0 hk (fun _ => b_X12_rowRead_8 hk ⟨_, _, _, _, p1, b_X12_rowRead_12 ⟨_, _, _, _, m_isDgt (by omega), b_X12_rowRead_15 (fun _ => b_X12_rowRead_28 hk ?_) (fun z => absurd ((pkv_d hb).mpr c) (zb_0.mp z))⟩⟩) (fun z => absurd h6 z))
    rw [p4]
    suffices H : ∀ k i I2 v4, q + i + k = e → PGr I0 I2 m → (∀ h, h ≠ m → h ≠ m + 5 → I2 h = I0 h) → (∀ k, k ≠ 5 → k ≠ 6 → k ≠ 7 → I2 m k = I0 m k) → I2 m 5 = nI (q + i) → (I2 m 6 = 0 ∧ I2 m 7 = I0 m 7) → (∀ j, j < i → j < 8 → I2 (m + 5) (8 * cnt + j) = nI (r j)) → (∀ j, j < 8 * cnt → I2 (m + 5) j = I0 (m + 5) j) → Go d i_X12_rowRead 37 [.ref m, .int (nI q), .int (nI (zim (fun _ => true) r (min i 8))), .int (nI i), v4] [] S I2 J Q from H (e - q) 0 I1 _ (by omega) p2.gr (fun h a _ => p2.1 h a) p2.2 p4 ⟨p6, p3.2.1.2.2.trans h.2.1.2.2.symm⟩ (fun j hj => by omega) (fun j _ => by rw [p2.1 (m + 5) (by omega)])
    intro k
    induction k with
    | zero =>
      intro i I2 v4 hi g1 g2 g3 g5 g6 g7 g8
      have ei : i = e - q := by omega
      have g4 : I2 m 4 = nI n := by rw [g3 4 (by decide) (by decide) (by decide)]; exact h.2.1.1
      have e5 : q + i = e := by omega
      have go122 := fin I2 v4 g1 g2 g3 (by rw [g5, e5]) g6 (by rw [← ei]; exact g7) g8
      rw [← ei] at go122
      refine b_X12_rowRead_37 hk hk (fun _ => go122) (fun z => b_X12_rowRead_48 hk hk ⟨by rw [b2.kd]; rfl, ?_⟩ ?_)
      · rw [g4, g5, nI_leI (by omega) (by omega)] at z
        rw [g5, b2.ln]; exact vp_in_nI (by omega) (by decide)
      · rw [g4, g5, nI_leI (by omega) (by omega)] at z
        rw [g5, nI_clamp (by omega), b2.1, g2 (m + 2) (by omega) (by omega), (h.2.2.2.2 (q + i) (by omega)).1]
        refine ⟨_, _, _, _, m_isDgt (by omega), b_X12_rowRead_60 (fun _ => go122) (fun z2 => absurd ⟨by omega, ?_⟩ hstop)⟩
        rw [← e5]; exact zb_1.mp z2
    | succ k ih =>
      intro i I2 v4 hi g1 g2 g3 g5 g6 g7 g8
      have g4 : I2 m 4 = nI n := by rw [g3 4 (by decide) (by decide) (by decide)]; exact h.2.1.1
      obtain ⟨s1, s2⟩ := hdgt (q + i) (by omega) (by omega)
      obtain ⟨s3, s4⟩ := dvl_lt s2
      have i14 : I2 m 14 = nI cnt := by rw [g3 14 (by decide) (by decide) (by decide)]; exact hT.1
      have eb : I2 (z_rv S m 2) (Int32.toNatClampNeg (I2 m 5)) = B (q + i) := by rw [g5, nI_clamp (by omega), b2.1, g2 (m + 2) (by omega) (by omega), (h.2.2.2.2 (q + i) s1).1]
      have rd : z_isB (z_kd S (z_rv S m 2)) = true ∧ vp_in (I2 m 5) (z_ln S (z_rv S m 2)) := ⟨by rw [b2.kd]; rfl, by rw [g5, b2.ln]; exact vp_in_nI (by omega) (by decide)⟩
      have ev : B (q + i) - 48 = nI (r i) := by rw [s4, z_lit 48, pk_sub (by omega), hr, show 48 + dvl B (q + i) - 48 = dvl B (q + i) by omega]
      have ri : r i < 10 := by rw [hr]; exact s3
      refine b_X12_rowRead_37 hk hk (fun z => ?_) (fun _ => b_X12_rowRead_48 hk hk rd ?_)
      · rw [g4, g5, nI_leI (by omega) (by omega)] at z; omega
      · rw [eb]
        refine ⟨_, _, _, _, m_isDgt (by omega), b_X12_rowRead_60 (fun z => absurd s2 (zb_0.mp z)) (fun _ => b_X12_rowRead_63 hk hk rd (fun z => ?_) (fun z => ?_))⟩
        · rw [z_lit 8, nI_leI (by decide) (by omega)] at z
          refine b_X12_rowRead_106 hk hk ?_
          rw [nI_1]
          have := ih (i + 1) (z_u2 I2 m 5 (I2 m 5 + 1)) (.int (I2 (z_rv S m 2) (Int32.toNatClampNeg (I2 m 5)) - 48)) (by omega) (g1.w (by omega)) (fun h a b => by rw [z_u2_row a]; exact g2 h a b) (fun k a b c => by rw [z_u2_nk a]; exact g3 k a b c) (by rw [z_u2_same, g5, nI_1]; rfl) (by rw [z_u2_nk (by decide), z_u2_nk (by decide)]; exact g6) (fun j hj h8 => by rw [z_u2_row (by omega)]; exact g7 j (by omega) h8) (fun j hj => by rw [z_u2_row (by omega)]; exact g8 j hj)
          rw [show min (i + 1) 8 = min i 8 by omega] at this
          exact this
        · rw [z_lit 8, nI_leI (by decide) (by omega)] at z
          have e8 : (8 : Int32) * I2 m 14 + nI i = nI (8 * cnt + i) := by rw [i14, z_lit 8, pk_mul, nI_add]
          refine b_X12_rowRead_83 hk hk (by rw [e8]; exact b5.wr (by omega) (by decide)) hk hk rfl ?_
          rw [eb, ev, e8, nI_clamp (by omega), b5.1, z_u2_ne (show m ≠ m + 5 by omega), g5, nI_1, nI_1, z_shl1 (by omega), z_or]
          have := ih (i + 1) (z_u2 (z_u2 I2 (m + 5) (8 * cnt + i) (nI (r i))) m 5 (nI (q + i + 1))) (.int (nI (r i))) (by omega) ((g1.w (by omega)).w (by omega)) (fun h a b => by rw [z_u2_row a, z_u2_row b]; exact g2 h a b) (fun k a b c => by rw [z_u2_nk a, z_u2_row (by omega)]; exact g3 k a b c) (by rw [z_u2_same]; rfl) ⟨by rw [z_u2_nk (by decide), z_u2_row (by omega)]; exact g6.1, by rw [z_u2_nk (by decide), z_u2_row (by omega)]; exact g6.2⟩ (fun j hj h8 => by
            rw [z_u2_row (by omega)]
            by_cases ej : j = i
            · rw [ej, z_u2_same]
            · rw [z_u2_nk (by omega)]; exact g7 j (by omega) h8) (fun j hj => by rw [z_u2_row (by omega), z_u2_nk (by omega)]; exact g8 j hj)
          rw [show min (i + 1) 8 = i + 1 by omega, zim_t (p := fun _ => true) rfl] at this
          rw [show min i 8 = i by omega]
          exact this
  · have eP : rowP B n cnt dg q = _ := zq_f c
    refine ⟨_, e_X12_rowRead (b_X12_rowRead_0 hk (fun _ => b_X12_rowRead_8 hk ⟨_, _, _, _, p1, b_X12_rowRead_12 ⟨_, _, _, _, m_isDgt (by omega), b_X12_rowRead_15 (fun z => absurd ((pkv_d hb).mp (zb_1.mp z)) c) (fun _ => b_X12_rowRead_18 hk hk ⟨_, _, _, _, m_fails (by omega) hk p6, b_X12_rowRead_27 ⟨rfl, rfl, rfl, rfl⟩⟩)⟩⟩) (fun z => absurd h6 z)), p2.w67.gr, ⟨p2.w67.1 _ (by omega), p2.w67.1 _ (by omega), p2.w67.2 11 (by decide) (by decide) (by decide)⟩, fun c0 hc => ?_, fun c0 hc => by rw [eP] at hc; cases hc⟩
    rw [eP] at hc
    have hc := Sum.inl.inj hc
    rw [← hc]
    exact ⟨⟨by rw [z_u2_nk (by decide), z_u2_same]; rfl, by rw [z_u2_same, p4]⟩, Or.inl rfl⟩
end MR

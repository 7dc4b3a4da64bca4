/-! THE MODEL: a group is read -/
noncomputable def facsP (B : Nat → Int32) (n : Nat) : Nat → (Nat → Nat × Nat) → Nat → Nat → (Nat × Nat) ⊕ (((Nat → Nat × Nat) × Nat) × Nat)
  | 0, _, _, _ => .inl (1, 0)
  | f + 1, F, ln, q => match facP B n F ln q with
    | .inl c => .inl c
    | .inr c => zq (pkw B n c.2 = 4) (facsP B n f (fup F ln c.1) (ln + 1) (pnx B n c.2)) (.inr ((fup F ln c.1, ln + 1), c.2))
theorem facsP_l {B : Nat → Int32} {n f ln q : Nat} {F : Nat → Nat × Nat} {c : Nat × Nat} (e : facP B n F ln q = .inl c) : facsP B n (f + 1) F ln q = .inl c := by
  simp only [facsP, e]
theorem facsP_r {B : Nat → Int32} {n f ln q : Nat} {F : Nat → Nat × Nat} {c : (Nat × Nat) × Nat} (e : facP B n F ln q = .inr c) : facsP B n (f + 1) F ln q = zq (pkw B n c.2 = 4) (facsP B n f (fup F ln c.1) (ln + 1) (pnx B n c.2)) (.inr ((fup F ln c.1, ln + 1), c.2)) := by
  simp only [facsP, e]
section MG
variable {d m n q k b i j ln : Nat} {B : Nat → Int32} {F : Nat → Nat × Nat} {S : zS} {I I0 I1 I2 I3 : zI} {J : zJ}
theorem facP_ok {c : (Nat × Nat) × Nat} (h : facP B n F ln q = .inr c) : FOk c.1.1 c.1.2 ∧ nP F ln * fsz c.1.1 c.1.2 ≤ 20 ∧ (5 ≤ pkw B n q ∧ pkw B n q ≤ 8) ∧ facN B n (pkw B n q) q = .inr (c.1.2, c.2) ∧ c.1.1 = pkw B n q := by
  unfold facP at h
  rcases Classical.em (5 ≤ pkw B n q ∧ pkw B n q ≤ 8) with a | a
  · rw [zq_t a] at h
    rcases e : facN B n (pkw B n q) q with c0 | c0
    · rw [e] at h; cases h
    · rw [e] at h
      have h : zq (nP F ln * fsz (pkw B n q) c0.1 ≤ 20) (.inr ((pkw B n q, c0.1), c0.2)) (.inl (3, q)) = (Sum.inr c : (Nat × Nat) ⊕ ((Nat × Nat) × Nat)) := h
      rcases Classical.em (nP F ln * fsz (pkw B n q) c0.1 ≤ 20) with b | b
      · rw [zq_t b] at h
        have h := Sum.inr.inj h
        rw [← h]
        exact ⟨facN_ok a e, b, a, rfl, rfl⟩
      · rw [zq_f b] at h; cases h
  · rw [zq_f a] at h; cases h
theorem m_factorRead (hd : 7 < d) (h : PM S I0 m B n q) (hK : KY S I0) (hE : EVm I0 m) (hW : WKF I0 m F ln) (hF : ∀ j, j < ln → FOk (F j).1 (F j).2) (nPle : nP F ln ≤ 20) (hln : ln < 80) : ∃ I', z_ev d i_X12_factorRead [.ref m] S I0 J none S I' J ∧ PGr I0 I' m ∧ EVm I' m ∧ (∀ c, facP B n F ln q = .inl c → (I' m 6 = nI c.1 ∧ I' m 7 = nI c.2) ∧ (c.1 = 1 ∨ c.1 = 2 ∨ c.1 = 3) ∧ I' (m + 1) = I0 (m + 1)) ∧ ∀ c, facP B n F ln q = .inr c → PM S I' m B n c.2 ∧ WKF I' m (fup F ln c.1) (ln + 1) := by
  obtain ⟨d, rfl⟩ := z_dep (d := d) (by omega)
  have hL := h.1
  have hk := hL.k
  have b0 := hL.a0
  have hH := (tP_gr hF).1
  obtain ⟨I1, p1, p2, p3, p4⟩ := m_wordHere (d := d) (J := J) (by omega) h hK
  have p6 := p3.2.2.2.1
  have hkl := pkw_le (B := B) (n := n) (q := q)
  have evf : ∀ {I'}, PFr I0 I' m → EVm I' m := fun hf => hE.fr (hf.2 11 (by decide) (by decide) (by decide)) (hf.1 _ (by omega))
  have i5 : (5 : Int32) ≤ kwv (pkw B n q) ↔ 5 ≤ pkw B n q ∧ pkw B n q ≤ 8 := by
    unfold kwv
    by_cases e : pkw B n q = 9
    · rw [if_pos e]; exact ⟨fun z => absurd z (by decide), fun z => by omega⟩
    · rw [if_neg e, z_lit 5, nI_leI (by decide) (by omega)]; omega
  rcases Classical.em (5 ≤ pkw B n q ∧ pkw B n q ≤ 8) with c | c
  · have eP : facP B n F ln q = _ := zq_t c
    have ekw : kwv (pkw B n q) = nI (pkw B n q) := if_neg (by omega)
    obtain ⟨k, hke⟩ : ∃ k, k = pkw B n q := ⟨_, rfl⟩
    rw [← hke] at c eP ekw i5
    have hne : pkw B n q ≠ 9 := by omega
    obtain ⟨I2, q1, q2, q3⟩ := m_passes (d := d) (J := J) (by omega) p3 p4
    have eq3 : psp B n (prn Ltr B n q) = pnx B n q := by unfold pnx; rw [pkw_nx hne]
    rw [eq3] at q3
    have q6 := q3.2.2.2.1
    obtain ⟨I3, E3⟩ : ∃ I3, I3 = z_u2 (z_u2 I2 m 8 (nI k)) m 9 0 := ⟨_, rfl⟩
    have g3 : PGr I0 I3 m := by rw [E3]; exact (((p2.trans q2).gr).w (by omega)).w (by omega)
    have m3 : PM S I3 m B n (pnx B n q) := q3.gr (by rw [E3]; exact (PGr.refl.w (by omega)).w (by omega)) (by rw [E3, z_u2_nk (by decide), z_u2_nk (by decide)]) (by rw [E3, z_u2_nk (by decide), z_u2_nk (by decide)]) (by rw [E3, z_u2_nk (by decide), z_u2_nk (by decide)])
    have e8 : I3 m 8 = nI k := by rw [E3, z_u2_nk (by decide), z_u2_same]
    have e9 : I3 m 9 = 0 := by rw [E3, z_u2_same]
    have c8 : ∀ c : Nat, c < 20 → (I3 m 8 = nI c ↔ k = c) := fun c hc => by rw [e8, nI_eq (by omega) (by omega)]
    have ev3 : EVm I3 m := (evf (p2.trans q2)).fr (by rw [E3, z_u2_nk (by decide), z_u2_nk (by decide)]) (by rw [E3, z_u2_row (by omega), z_u2_row (by omega)])
    have head : ∀ (Q : zQ), (∀ v3 v4 v5 v6, I3 m 8 = 8 → Go d i_X12_factorRead 102 [.ref m, .int (nI k), .int (nI q), v3, v4, v5, v6] [] S I3 J Q) → (∀ v3 v4 v5 v6, ¬ I3 m 8 = 8 → Go d i_X12_factorRead 52 [.ref m, .int (nI k), .int (nI q), v3, v4, v5, v6] [] S I3 J Q) → z_wp (d + 1) i_X12_factorRead [.ref m] S I0 J Q := fun Q h1 h2 => by
      refine w_X12_factorRead (b_X12_factorRead_0 hk ⟨_, _, _, _, p1, ?_⟩)
      rw [← hke, ekw]
      rw [ekw] at i5
      refine b_X12_factorRead_4 hk (fun _ => ?_) (fun z => absurd (i5.mpr c) z)
      rw [p4]
      refine b_X12_factorRead_21 hk (fun _ => b_X12_factorRead_29 hk ⟨_, _, _, _, q1, b_X12_factorRead_33 hk hk hk (fun z => ?_) (fun z => ?_)⟩) (fun z => absurd p6 z)
      · rw [← E3] at z ⊢; exact h1 _ _ _ _ z
      · rw [← E3] at z ⊢; exact h2 _ _ _ _ z
    -- behind the number
    have tail : ∀ (I4 : zI) (b q' : Nat), FOk k b → PGr I0 I4 m → PM S I4 m B n q' → I4 m 8 = nI k → I4 m 9 = nI b → EVm I4 m → I4 (m + 1) = I0 (m + 1) → ∀ v3 v4 v5 v6, Go d i_X12_factorRead 110 [.ref m, .int (nI k), .int (nI q), v3, v4, v5, v6] [] S I4 J (fun w S' I' J' => w = none ∧ S' = S ∧ J' = J ∧ PGr I0 I' m ∧ EVm I' m ∧ (nP F ln * fsz k b ≤ 20 → PM S I' m B n q' ∧ WKF I' m (fup F ln (k, b)) (ln + 1)) ∧ (¬ nP F ln * fsz k b ≤ 20 → I' m 6 = 3 ∧ I' m 7 = nI q ∧ I' (m + 1) = I0 (m + 1))) := fun I4 b q' hFb g4 m4 f8 f9 ev4 f1 v3 v4 v5 v6 => by
      have hsz : fsz k b ≤ 20 := by
        unfold FOk at hFb
        unfold fsz
        rcases hFb with z | z | z | z
        · rw [if_pos z.1]; omega
        · rw [if_neg (by omega), if_pos z.1]; omega
        · rw [if_neg (by omega), if_neg (by omega), if_pos z.1]; omega
        · rw [if_neg (by omega), if_neg (by omega), if_neg (by omega)]; decide
      have hW4 : WKF I4 m F ln := by
        unfold WKF at hW ⊢
        rw [f1]; exact hW
      refine b_X12_factorRead_110 hk (b0.rd (i := 1330) (by decide) (by decide)) hk ⟨_, _, _, _, m_sizeOf (by omega) hk f8 f9 hFb, ?_⟩
      rw [show Int32.toNatClampNeg (1330 : Int32) = 1330 by decide, b0.1, hW4.1]
      have hprod : nP F ln * fsz k b < 2 ^ 31 ∨ True := Or.inr trivial
      refine b_X12_factorRead_123 (fun z => b_X12_factorRead_141 hk ?_) (fun z => b_X12_factorRead_134 hk ⟨_, _, _, _, m_fails (by omega) hk m4.2.2.2.1, b_X12_factorRead_140 ⟨rfl, rfl, rfl, (g4.w (by omega)).w (by omega), ev4.fr (by rw [z_u2_nk (by decide), z_u2_nk (by decide)]) (by rw [z_u2_row (by omega), z_u2_row (by omega)]), fun y => ?_, fun _ => ⟨by rw [z_u2_nk (by decide), z_u2_same], z_u2_same, by rw [z_u2_row (by omega), z_u2_row (by omega)]; exact f1⟩⟩⟩)
      · have hle : nP F ln * fsz k b ≤ 20 := by
          rw [pk_mul, z_lit 20] at z
          have hn20 : nP F ln ≤ 20 ∨ ¬ nP F ln ≤ 20 := by omega
          have hl2 : nP F ln ≤ 20 := nPle
          have : nP F ln * fsz k b ≤ 20 * 20 := Nat.mul_le_mul hl2 hsz
          rw [nI_leI (by omega) (by decide)] at z
          exact z
        obtain ⟨I5, r1, r2, r3, r4, r5⟩ := m_laysEven (d := d) (J := J) (by omega) hL ev4
        refine ⟨_, _, _, _, r1, m_facTab hL r5 (by rw [r3 8 (by decide)]; exact f8) (by rw [r3 9 (by decide)]; exact f9) hFb (by unfold WKF at hW4 ⊢; rw [r2 (m + 1) (by omega) (by omega)]; exact hW4) hH hle hln (by omega) (fun I' s1 s2 s3 => ⟨rfl, rfl, rfl, ?_, ?_, fun _ => ⟨?_, s3⟩, fun y => absurd hle y⟩)⟩
        · refine g4.trans ⟨fun y a1 a2 a3 a4 a5 a6 => by rw [s1 y a2 a4, r2 y a1 a3], fun j hj => by rw [s2 j hj, r2 (m + 1) (by omega) (by omega)], fun k' hk' => by rw [s1 m (by omega) (by omega), r3 k' (by omega)]⟩
        · exact Or.inr ⟨by rw [s1 m (by omega) (by omega)]; exact r4, fun k' hk' => by rw [s1 (m + 3) (by omega) (by omega)]; exact r5 k' hk'⟩
        · exact m4.gr ⟨fun y a1 a2 a3 a4 a5 a6 => by rw [s1 y a2 a4, r2 y a1 a3], fun j hj => by rw [s2 j hj, r2 (m + 1) (by omega) (by omega)], fun k' hk' => by rw [s1 m (by omega) (by omega), r3 k' (by omega)]⟩ (by rw [s1 m (by omega) (by omega), r3 5 (by decide)]) (by rw [s1 m (by omega) (by omega), r3 6 (by decide)]) (by rw [s1 m (by omega) (by omega), r3 7 (by decide)])
      · rw [pk_mul, z_lit 20] at z
        exact absurd (nI_le y (by decide)) z
    have f0 : I3 (m + 1) = I0 (m + 1) := by rw [E3, z_u2_row (by omega), z_u2_row (by omega), (p2.trans q2).1 (m + 1) (by omega)]
    obtain ⟨Q, hQ⟩ : ∃ Q : zQ, Q = fun w S' I' J' => w = none ∧ S' = S ∧ J' = J ∧ PGr I0 I' m ∧ EVm I' m ∧ (∀ c, facP B n F ln q = .inl c → (I' m 6 = nI c.1 ∧ I' m 7 = nI c.2) ∧ (c.1 = 1 ∨ c.1 = 2 ∨ c.1 = 3) ∧ I' (m + 1) = I0 (m + 1)) ∧ ∀ c, facP B n F ln q = .inr c → PM S I' m B n c.2 ∧ WKF I' m (fup F ln c.1) (ln + 1) := ⟨_, rfl⟩
    suffices hw : z_wp (d + 1) i_X12_factorRead [.ref m] S I0 J Q by
      rw [hQ] at hw
      obtain ⟨w, S', I', J', x1, rfl, rfl, rfl, x2⟩ := hw
      exact ⟨I', x1, x2⟩
    -- from a number to the end
    have ends : ∀ (I4 : zI) (b q' : Nat), facN B n k q = .inr (b, q') → PGr I0 I4 m → PM S I4 m B n q' → I4 m 8 = nI k → I4 m 9 = nI b → EVm I4 m → I4 (m + 1) = I0 (m + 1) → ∀ v3 v4 v5 v6, Go d i_X12_factorRead 110 [.ref m, .int (nI k), .int (nI q), v3, v4, v5, v6] [] S I4 J Q := fun I4 b q' hfn g4 m4 f8 f9 ev4 f1 v3 v4 v5 v6 => by
      have hFb : FOk k b := facN_ok c hfn
      have eP2 : facP B n F ln q = zq (nP F ln * fsz k b ≤ 20) (.inr ((k, b), q')) (.inl (3, q)) := by rw [eP, hfn]
      refine (tail I4 b q' hFb g4 m4 f8 f9 ev4 f1 v3 v4 v5 v6).weaken (fun w S' I' J' hr => ?_)
      obtain ⟨r1, r2, r3, r4, r5, r6, r7⟩ := hr
      rw [hQ]
      refine ⟨r1, r2, r3, r4, r5, fun c0 hc => ?_, fun c0 hc => ?_⟩
      · rw [eP2] at hc
        rcases Classical.em (nP F ln * fsz k b ≤ 20) with y | y
        · rw [zq_t y] at hc; cases hc
        · rw [zq_f y] at hc
          have hc := Sum.inl.inj hc
          rw [← hc]
          exact ⟨⟨(r7 y).1, (r7 y).2.1⟩, Or.inr (Or.inr rfl), (r7 y).2.2⟩
      · rw [eP2] at hc
        rcases Classical.em (nP F ln * fsz k b ≤ 20) with y | y
        · rw [zq_t y] at hc
          have hc := Sum.inr.inj hc
          rw [← hc]
          exact r6 y
        · rw [zq_f y] at hc; cases hc
    refine head Q (fun v3 v4 v5 v6 z => ?_) (fun v3 v4 v5 v6 z => ?_)
    · have e8' : k = 8 := (c8 8 (by decide)).mp z
      exact b_X12_factorRead_102 hk (fun _ => ends I3 0 (pnx B n q) (by unfold facN; rw [if_pos e8']) g3 m3 e8 e9 ev3 f0 v3 v4 v5 v6) (fun y => absurd m3.2.2.2.1 y)
    · have e8' : ¬ k = 8 := fun y => z ((c8 8 (by decide)).mpr y)
      have efn : facN B n k q = numP B n (floW k) (fhiW k) (pnx B n q) := by unfold facN; rw [if_neg e8']
      obtain ⟨I4, v, r1, r2, r3, r4⟩ := m_numeral (d := d) (J := J) (lo := floW k) (hi := fhiW k) (by omega) m3 (by unfold floW; split <;> decide) (by unfold fhiW; split; decide; split <;> decide)
      have after : ∀ v3 v4 v5 v6, Go d i_X12_factorRead 99 [.ref m, .int (nI k), .int (nI q), v3, v4, v5, v6] [.int v, .ref m] S I4 J Q := fun v3 v4 v5 v6 => by
        have g4 : PGr I0 (z_u2 I4 m 9 v) m := (g3.trans r2.gr).w (by omega)
        have ev4 : EVm (z_u2 I4 m 9 v) m := (ev3.fr (r2.2 11 (by decide) (by decide) (by decide)) (r2.1 _ (by omega))).fr (by rw [z_u2_nk (by decide)]) (by rw [z_u2_row (by omega)])
        rcases ern : numP B n (floW k) (fhiW k) (pnx B n q) with c0 | c0
        · obtain ⟨s1, s2⟩ := r3 c0 ern
          have hc0 : c0.1 = 1 ∨ c0.1 = 2 := by
            unfold numP at ern
            rcases Classical.em (pnx B n q < n ∧ Dgt (B (pnx B n q))) with a | a
            · rw [zq_t a] at ern
              rcases Classical.em (pte B n (pnx B n q) ≤ pnx B n q + 2 ∧ floW k ≤ nvl B (pnx B n q) (pte B n (pnx B n q)) ∧ nvl B (pnx B n q) (pte B n (pnx B n q)) ≤ fhiW k) with b | b
              · rw [zq_t b] at ern; cases ern
              · rw [zq_f b] at ern
                have := Sum.inl.inj ern
                rw [← this]; exact Or.inr rfl
            · rw [zq_f a] at ern
              have := Sum.inl.inj ern
              rw [← this]; exact Or.inl rfl
          have eP2 : facP B n F ln q = .inl c0 := by rw [eP, efn, ern]
          refine b_X12_factorRead_99 hk hk (fun y => ?_) (fun _ => b_X12_factorRead_109 ?_)
          · rw [z_u2_nk (by decide), s1] at y
            rcases hc0 with q0 | q0
            · rw [q0] at y; cases y
            · rw [q0] at y; cases y
          · rw [hQ]
            refine ⟨rfl, rfl, rfl, g4, ev4, fun c1 hc => ?_, fun c1 hc => by rw [eP2] at hc; cases hc⟩
            rw [eP2] at hc
            have hc := Sum.inl.inj hc
            rw [← hc]
            exact ⟨⟨by rw [z_u2_nk (by decide)]; exact s1, by rw [z_u2_nk (by decide)]; exact s2⟩, by omega, by rw [z_u2_row (by omega), r2.1 (m + 1) (by omega)]; exact f0⟩
        · obtain ⟨s1, s2⟩ := r4 c0 ern
          refine b_X12_factorRead_99 hk hk (fun _ => ends _ c0.1 c0.2 (by rw [efn, ern]) g4 (s2.gr (PGr.refl.w (by omega)) (by rw [z_u2_nk (by decide)]) (by rw [z_u2_nk (by decide)]) (by rw [z_u2_nk (by decide)])) ?_ (by rw [z_u2_same, s1]) ev4 ?_ v3 v4 v5 v6) (fun y => absurd (by rw [z_u2_nk (by decide)]; exact s2.2.2.2.1) y)
          · rw [z_u2_nk (by decide), r2.2 8 (by decide) (by decide) (by decide)]; exact e8
          · rw [z_u2_row (by omega), r2.1 (m + 1) (by omega)]; exact f0
      refine b_X12_factorRead_52 hk (fun y => b_X12_factorRead_67 hk (fun y2 => b_X12_factorRead_81 hk (fun y3 => ?_) (fun y3 => b_X12_factorRead_90 hk ?_)) (fun y2 => b_X12_factorRead_76 hk ?_)) (fun y => b_X12_factorRead_63 hk (fun y2 => b_X12_factorRead_81 hk (fun y3 => b_X12_factorRead_95 hk ?_) (fun y3 => ?_)) (fun y2 => ?_))
      · exfalso
        have a1 : ¬ k = 7 := fun w => y ((c8 7 (by decide)).mpr w)
        have a2 : ¬ k = 5 := fun w => y2 ((c8 5 (by decide)).mpr w)
        have a3 : ¬ k = 6 := fun w => y3 ((c8 6 (by decide)).mpr w)
        omega
      · have a3 := (c8 6 (by decide)).mp y3
        rw [show floW k = 1 by unfold floW; rw [if_neg (by omega)], show fhiW k = 10 by unfold fhiW; rw [if_neg (by omega), if_pos a3]] at r1
        exact ⟨_, _, _, _, r1, after _ _ _ _⟩
      · have a3 := (c8 5 (by decide)).mp y2
        rw [show floW k = 1 by unfold floW; rw [if_neg (by omega)], show fhiW k = 20 by unfold fhiW; rw [if_pos a3]] at r1
        exact ⟨_, _, _, _, r1, after _ _ _ _⟩
      · have a3 := (c8 7 (by decide)).mp y
        rw [show floW k = 2 by unfold floW; rw [if_pos a3], show fhiW k = 5 by unfold fhiW; rw [if_neg (by omega), if_neg (by omega)]] at r1
        exact ⟨_, _, _, _, r1, after _ _ _ _⟩
      · exfalso
        have a1 := (c8 7 (by decide)).mp y
        have a3 := (c8 6 (by decide)).mp y3
        omega
      · exfalso
        have a1 := (c8 7 (by decide)).mp y
        have a3 := (c8 5 (by decide)).mp y2
        omega
  · have eP : facP B n F ln q = _ := zq_f c
    refine ⟨_, e_X12_factorRead (b_X12_factorRead_0 hk ⟨_, _, _, _, p1, b_X12_factorRead_4 hk (fun z => absurd (i5.mp z) c) (fun _ => b_X12_factorRead_15 hk ⟨_, _, _, _, m_fails (by omega) hk p6, b_X12_factorRead_21 hk (fun z => ?_) (fun _ => b_X12_factorRead_28 ⟨rfl, rfl, rfl, rfl⟩)⟩)⟩), p2.w67.gr, evf p2.w67, fun c0 hc => ?_, fun c0 hc => by rw [eP] at hc; cases hc⟩
    · rw [z_u2_nk (by decide), z_u2_same] at z; cases z
    · rw [eP] at hc
      have hc := Sum.inl.inj hc
      rw [← hc]
      exact ⟨⟨by rw [z_u2_nk (by decide), z_u2_same]; rfl, by rw [z_u2_same, p4]⟩, Or.inl rfl, by rw [z_u2_row (by omega), z_u2_row (by omega), p2.1 (m + 1) (by omega)]⟩
end MG

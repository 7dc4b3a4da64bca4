/-! THE MODEL: a line is read -/
section ML2
variable {d m n q s : Nat} {B : Nat → Int32} {X : Slt} {A : Wst} {laid : Bool} {S : zS} {I I0 I1 I2 : zI} {J : zJ}
theorem m_mustF (hd : 0 < d) (hk : z_kd S m = 13) (h6 : ¬ I m 6 = 0) : z_ev d i_X12_must [.ref m, .int 59] S I J none S (z_u2 I m 5 (I m 5 + 1)) J := by
  obtain ⟨d, rfl⟩ := z_dep hd
  exact e_X12_must (b_X12_must_0 hk (fun _ => b_X12_must_24 hk hk ⟨rfl, rfl, rfl, rfl⟩) (fun z => absurd z h6))
theorem PM.ln (h : PM S I m B n q) (hF : PLn I I1 m) (h5 : I1 m 5 = I m 5) (h6 : I1 m 6 = I m 6) (h7 : I1 m 7 = I m 7) : PM S I1 m B n q := by
  obtain ⟨a1, ⟨a2, a3⟩, ⟨p, p1, p2, p3⟩, a4, a5⟩ := h
  exact ⟨a1, ⟨by rw [hF.2.2 4 (by omega)]; exact a2, a3.1, by rw [h7]; exact a3.2⟩, ⟨p, p1, by rw [h5]; exact p2, p3⟩, by rw [h6]; exact a4, fun j hj => by rw [hF.1 (m + 2) (by omega) (by omega) (by omega) (by omega) (by omega) (by omega)]; exact a5 j hj⟩
theorem m_lineRead (hd : 10 < d) (h : PM S I0 m B n q) (hK : KY S I0) (hE : EVm I0 m) (hX : WX I0 m X) (h17 : I0 m 17 = nI laid.toNat) : ∃ I', z_ev d i_X12_lineRead [.ref m] S I0 J none S I' J ∧ PLn I0 I' m ∧ EVm I' m ∧ (∀ c, linP B n laid X q = .inl c → (I' m 6 = nI c.1 ∧ I' m 7 = nI c.2) ∧ (c.1 = 1 ∨ c.1 = 2 ∨ c.1 = 3)) ∧ ∀ c, linP B n laid X q = .inr c → PM S I' m B n c.2 ∧ WX I' m c.1 ∧ I' m 17 = 1 := by
  obtain ⟨d, rfl⟩ := z_dep (d := d) (by omega)
  have hL := h.1
  have hk := hL.k
  have b0 := hL.a0
  have hql := h.le
  have hn := h.2.1.2
  obtain ⟨I1, p1, p2, p3, p4⟩ := m_wordHere (d := d) (J := J) (by omega) h hK
  have p6 := p3.2.2.2.1
  have ev1 : EVm I1 m := hE.fr (p2.2 11 (by decide) (by decide) (by decide)) (p2.1 _ (by omega))
  have x1 : WX I1 m X := hX.fr (p2.1 _ (by omega))
  have e17 : I1 m 17 = nI laid.toNat := by rw [p2.2 17 (by decide) (by decide) (by decide)]; exact h17
  have hkl := pkw_le (B := B) (n := n) (q := q)
  obtain ⟨Q, hQ⟩ : ∃ Q : zQ, Q = fun w S' I' J' => w = none ∧ S' = S ∧ J' = J ∧ PLn I0 I' m ∧ EVm I' m ∧ (∀ c, linP B n laid X q = .inl c → (I' m 6 = nI c.1 ∧ I' m 7 = nI c.2) ∧ (c.1 = 1 ∨ c.1 = 2 ∨ c.1 = 3)) ∧ ∀ c, linP B n laid X q = .inr c → PM S I' m B n c.2 ∧ WX I' m c.1 ∧ I' m 17 = 1 := ⟨_, rfl⟩
  suffices hw : z_wp (d + 1) i_X12_lineRead [.ref m] S I0 J Q by
    rw [hQ] at hw
    obtain ⟨w, S', I', J', x1, rfl, rfl, rfl, x2⟩ := hw
    exact ⟨I', x1, x2⟩
  -- a sign comes behind
  have mst : ∀ I2 : zI, PLn I0 I2 m → EVm I2 m → I2 m 17 = 1 → (∀ c, lineP B n laid X q = .inl c → (I2 m 6 = nI c.1 ∧ I2 m 7 = nI c.2) ∧ (c.1 = 1 ∨ c.1 = 2 ∨ c.1 = 3)) → (∀ c, lineP B n laid X q = .inr c → PM S I2 m B n c.2 ∧ WX I2 m c.1) → ∃ I3, z_ev d i_X12_must [.ref m, .int 59] S I2 J none S I3 J ∧ Q none S I3 J := fun I2 g2 e2 f17 f1 f2 => by
    rcases e : lineP B n laid X q with c | c
    · obtain ⟨⟨s1, s2⟩, s3⟩ := f1 c e
      have s6 : ¬ I2 m 6 = 0 := by rw [s1]; exact nI_ne0 (by omega) (by omega)
      refine ⟨_, m_mustF (by omega) hk s6, ?_⟩
      rw [hQ]
      refine ⟨rfl, rfl, rfl, ⟨fun y a b c' e' f g => by rw [z_u2_row a]; exact g2.1 y a b c' e' f g, fun j hj => by rw [z_u2_row (by omega)]; exact g2.2.1 j hj, fun k' hk' => by rw [z_u2_nk (by omega)]; exact g2.2.2 k' hk'⟩, e2.fr (by rw [z_u2_nk (by decide)]) (by rw [z_u2_row (by omega)]), fun c0 hc => ?_, fun c0 hc => by rw [linP_l e] at hc; cases hc⟩
      rw [linP_l e] at hc
      have hc := Sum.inl.inj hc
      rw [← hc]
      exact ⟨⟨by rw [z_u2_nk (by decide)]; exact s1, by rw [z_u2_nk (by decide)]; exact s2⟩, s3⟩
    · obtain ⟨s1, s2⟩ := f2 c e
      obtain ⟨I3, t1, t2, t3, t4⟩ := m_must (d := d) (J := J) (by omega) s1
      have er := linP_r e
      refine ⟨I3, t1, ?_⟩
      rw [hQ]
      refine ⟨rfl, rfl, rfl, g2.trans t2.gr.ln, e2.fr (t2.2 11 (by decide) (by decide) (by decide)) (t2.1 _ (by omega)), fun c0 hc => ?_, fun c0 hc => ?_⟩
      · rcases Classical.em (c.2 < n ∧ B c.2 = 59) with y | y
        · rw [er, zq_t y] at hc; cases hc
        · rw [er, zq_f y] at hc
          have hc := Sum.inl.inj hc
          rw [← hc]
          exact ⟨t4 y, Or.inl rfl⟩
      · rcases Classical.em (c.2 < n ∧ B c.2 = 59) with y | y
        · rw [er, zq_t y] at hc
          have hc := Sum.inr.inj hc
          rw [← hc]
          have enx : pnx B n c.2 = psp B n (c.2 + 1) := by unfold pnx; rw [pte_s ⟨y.1, by rw [y.2]; exact fun z => absurd z.1 (by decide), by rw [y.2]; exact fun z => absurd z.2 (by decide)⟩]
          refine ⟨?_, s2.fr (t2.1 _ (by omega)), by rw [t2.2 17 (by decide) (by decide) (by decide)]; exact f17⟩
          show PM S I3 m B n (pnx B n c.2)
          rw [enx]; exact t3 y
        · rw [er, zq_f y] at hc; cases hc
  -- no line can begin so
  have bad : lineP B n laid X q = .inl (1, q) → ∀ x1 : Int32, Go d i_X12_lineRead 32 [.ref m, .int x1, .int (nI q)] [] S I1 J Q := fun el x1' => by
    refine b_X12_lineRead_32 hk ⟨_, _, _, _, m_fails (by omega) hk p6, b_X12_lineRead_38 hk (fun z => ?_) (fun _ => b_X12_lineRead_45 ?_)⟩
    · rw [z_u2_nk (by decide), z_u2_same] at z; cases z
    · rw [hQ]
      refine ⟨rfl, rfl, rfl, p2.w67.gr.ln, hE.fr (p2.w67.2 11 (by decide) (by decide) (by decide)) (p2.w67.1 _ (by omega)), fun c0 hc => ?_, fun c0 hc => by rw [linP_l el] at hc; cases hc⟩
      rw [linP_l el] at hc
      have hc := Sum.inl.inj hc
      rw [← hc]
      exact ⟨⟨by rw [z_u2_nk (by decide), z_u2_same]; rfl, z_u2_same⟩, Or.inl rfl⟩
  refine w_X12_lineRead (b_X12_lineRead_0 hk ⟨_, _, _, _, p1, ?_⟩)
  by_cases h9 : pkw B n q = 9
  · have el : lineP B n laid X q = .inl (1, q) := by unfold lineP; rw [zq_f (by omega), zq_f (by omega), zq_f (fun z => by omega), zq_f (fun z => by omega)]
    refine b_X12_lineRead_4 hk (fun _ => by rw [p4]; exact bad el _) (fun z => absurd ?_ z)
    rw [h9]; rfl
  · have ekw : kwv (pkw B n q) = nI (pkw B n q) := if_neg h9
    rw [ekw]
    obtain ⟨k, hke⟩ : ∃ k, k = pkw B n q := ⟨_, rfl⟩
    rw [← hke]
    have hk9 : k < 9 := by omega
    obtain ⟨I2, q1, q2, q3⟩ := m_passes (d := d) (J := J) (by omega) p3 p4
    have eq3 : psp B n (prn Ltr B n q) = pnx B n q := by unfold pnx; rw [pkw_nx h9]
    rw [eq3] at q3
    obtain ⟨I3, E3⟩ : ∃ I3, I3 = z_u2 I2 m 17 1 := ⟨_, rfl⟩
    have g12 := p2.trans q2
    have g3 : PLn I0 I3 m := by
      rw [E3]
      exact ⟨fun y a b c' e' f g => by rw [z_u2_row a]; exact g12.1 y a, fun j hj => by rw [z_u2_row (by omega), g12.1 (m + 1) (by omega)], fun k' hk' => by rw [z_u2_nk (by omega)]; exact g12.2 k' (by omega) (by omega) (by omega)⟩
    have m3 : PM S I3 m B n (pnx B n q) := q3.ln (by rw [E3]; exact ⟨fun y a b c' e' f g => z_u2_row a, fun j hj => by rw [z_u2_row (by omega)], fun k' hk' => z_u2_nk (by omega)⟩) (by rw [E3, z_u2_nk (by decide)]) (by rw [E3, z_u2_nk (by decide)]) (by rw [E3, z_u2_nk (by decide)])
    have ev3 : EVm I3 m := (hE.fr (g12.2 11 (by decide) (by decide) (by decide)) (g12.1 _ (by omega))).fr (by rw [E3, z_u2_nk (by decide)]) (by rw [E3, z_u2_row (by omega)])
    have x3 : WX I3 m X := (hX.fr (g12.1 _ (by omega))).fr (by rw [E3, z_u2_row (by omega)])
    have f17 : I3 m 17 = 1 := by rw [E3, z_u2_same]
    have hK3 := hK.ln hL g3
    have hp : n < n + 1 + pnx B n q := by omega
    have go : (k = 2 ∨ k = 3 ∨ ((k = 0 ∨ k = 1) ∧ laid = false)) → Go d i_X12_lineRead 38 [.ref m, .int (nI k), .int (nI q)] [] S I1 J Q := fun hor => by
      refine b_X12_lineRead_38 hk (fun _ => b_X12_lineRead_46 hk ⟨_, _, _, _, q1, b_X12_lineRead_50 ⟨hk, Or.inr rfl⟩ ?_⟩) (fun z => absurd p6 z)
      rw [← E3]
      show Go d i_X12_lineRead (if nI k = 0 then 84 else if nI k = 1 then 91 else if nI k = 2 then 99 else 106) _ _ S I3 J Q
      have cn : ∀ c : Nat, c < 9 → (nI k = nI c ↔ k = c) := fun c hc => nI_eq (by omega) (by omega)
      rcases (show k = 0 ∨ k = 1 ∨ k = 2 ∨ k = 3 by omega) with e | e | e | e
      · have hlf : laid = false := by rcases hor with y | y | y; omega; omega; exact y.2
        have el : lineP B n laid X q = (match facsP B n (n + 1) (fun _ => (0, 0)) 0 (pnx B n q) with | .inl c => .inl c | .inr c => .inr (grF c.1.1 c.1.2, c.2)) := by
          unfold lineP
          rw [zq_f (by omega), zq_f (by omega), zq_t ⟨by omega, hlf⟩]
          rcases facsP B n (n + 1) (fun _ => (0, 0)) 0 (pnx B n q) with c | c <;> rfl
        rw [if_pos (show nI k = 0 from (cn 0 (by decide)).mpr e)]
        obtain ⟨I4, r1, r2, r3, r4, r5⟩ := m_groupRead (d := d) (J := J) (F0 := fun _ => (0, 0)) (f := n + 1) (by omega) m3 hK3 ev3 hp
        obtain ⟨I5, t1, t2⟩ := mst I4 (g3.trans r2.ln) r3 (by rw [r2.2.2 17 (by omega)]; exact f17) (fun c hc => by
          rcases ef : facsP B n (n + 1) (fun _ => (0, 0)) 0 (pnx B n q) with c0 | c0
          · rw [el, ef] at hc
            have hc := Sum.inl.inj hc
            rw [← hc]; exact r4 c0 ef
          · rw [el, ef] at hc; cases hc) (fun c hc => by
          rcases ef : facsP B n (n + 1) (fun _ => (0, 0)) 0 (pnx B n q) with c0 | c0
          · rw [el, ef] at hc; cases hc
          · rw [el, ef] at hc
            have hc := Sum.inr.inj hc
            rw [← hc]; exact r5 c0 ef)
        exact b_X12_lineRead_84 hk ⟨_, _, _, _, r1, b_X12_lineRead_88 hk ⟨_, _, _, _, t1, b_X12_lineRead_138 t2⟩⟩
      · have hlf : laid = false := by rcases hor with y | y | y; omega; omega; exact y.2
        have el : lineP B n laid X q = permsP B n (n + 1) q (pnx B n q) := by
          unfold lineP
          rw [zq_f (by omega), zq_f (by omega), zq_f (fun z => by omega), zq_t ⟨by omega, hlf⟩]
        rw [if_neg (fun z => by have := (cn 0 (by decide)).mp z; omega), if_pos (show nI k = 1 from (cn 1 (by decide)).mpr e)]
        obtain ⟨I4, r1, r2, r3, r4, r5⟩ := m_permsRead (d := d) (J := J) (f := n + 1) (place := q) (by omega) m3 ev3 hp (by omega)
        obtain ⟨I5, t1, t2⟩ := mst I4 (g3.trans r2.ln) r3 (by rw [r2.2.2 17 (by omega)]; exact f17) (by rw [el]; exact r4) (by rw [el]; exact r5)
        exact b_X12_lineRead_91 hk ⟨_, _, _, _, r1, b_X12_lineRead_96 hk ⟨_, _, _, _, t1, b_X12_lineRead_138 t2⟩⟩
      · have el : lineP B n laid X q = (match stepsP B n X.n (n + 1) 0 (pnx B n q) with | .inl c => .inl c | .inr c => .inr (X.to c.1, c.2)) := by
          unfold lineP
          rw [zq_t (by omega)]
          rcases stepsP B n X.n (n + 1) 0 (pnx B n q) with c | c <;> rfl
        rw [if_neg (fun z => by have := (cn 0 (by decide)).mp z; omega), if_neg (fun z => by have := (cn 1 (by decide)).mp z; omega), if_pos (show nI k = 2 from (cn 2 (by decide)).mpr e)]
        obtain ⟨I4, r1, r2, r3, r4, r5⟩ := m_stepsRead (d := d) (J := J) (f := n + 1) (by omega) m3 x3 hp
        obtain ⟨I5, t1, t2⟩ := mst I4 (g3.trans r2.ln) (ev3.fr r3.1 r3.2) (by rw [r2.2.2 17 (by omega)]; exact f17) (fun c hc => by
          rcases ef : stepsP B n X.n (n + 1) 0 (pnx B n q) with c0 | c0
          · rw [el, ef] at hc
            have hc := Sum.inl.inj hc
            rw [← hc]; exact r4 c0 ef
          · rw [el, ef] at hc; cases hc) (fun c hc => by
          rcases ef : stepsP B n X.n (n + 1) 0 (pnx B n q) with c0 | c0
          · rw [el, ef] at hc; cases hc
          · rw [el, ef] at hc
            have hc := Sum.inr.inj hc
            rw [← hc]; exact r5 c0 ef)
        exact b_X12_lineRead_99 hk ⟨_, _, _, _, r1, b_X12_lineRead_103 hk ⟨_, _, _, _, t1, b_X12_lineRead_138 t2⟩⟩
      · have el : lineP B n laid X q = .inr (X.to (bth X), pnx B n q) := by
          unfold lineP
          rw [zq_f (by omega), zq_t (by omega)]
        rw [if_neg (fun z => by have := (cn 0 (by decide)).mp z; omega), if_neg (fun z => by have := (cn 1 (by decide)).mp z; omega), if_neg (fun z => by have := (cn 2 (by decide)).mp z; omega)]
        have c31 : Int32.toNatClampNeg (1331 : Int32) = 1331 := by decide
        have v31 : I3 (m + 1) 1331 = nI X.st := x3.1.2.1
        obtain ⟨o1, o2⟩ := bth_ok hX.2
        have ms : MS S I3 m 2 X.n X.t := ⟨hL.ma, by decide, hX.2.1.1, by rw [b0.1]; exact x3.1.1, fun x hx y hy => by rw [b0.1, show 665 * 2 + 265 + 20 * x + y = 1330 + (265 + 20 * x + y) by omega]; exact x3.1.2.2.2.2.2.2.2.2 x y hx hy⟩
        have und := m_undoing (d := d) (J := J) (by omega) ms hX.2.1 hX.2.2.1
        refine b_X12_lineRead_106 hk (b0.rd (i := 1331) (by decide) (by decide)) hk (b0.rd (i := 1331) (by decide) (by decide)) hk ?_
        rw [c31, b0.1, v31]
        refine ⟨_, _, _, _, und, b_X12_lineRead_130 ⟨b0.2.1, by rw [b0.2.2]; exact vp_in_nI (n := 1331) (by decide) (by decide)⟩ hk ?_⟩
        rw [c31, z_or]
        obtain ⟨I5, t1, t2⟩ := mst (z_u2 I3 (m + 1) 1331 (nI (bth X))) (g3.trans ⟨fun y a b c' e' f g => by rw [z_u2_row b], fun j hj => by rw [z_u2_nk (by omega)], fun k' hk' => by rw [z_u2_row (by omega)]⟩) (ev3.fr (by rw [z_u2_row (by omega)]) (by rw [z_u2_row (by omega)])) (by rw [z_u2_row (by omega)]; exact f17) (fun c hc => by rw [el] at hc; cases hc) (fun c hc => by
          rw [el] at hc
          have hc := Sum.inr.inj hc
          rw [← hc]
          refine ⟨m3.gr (PGr.refl.w (by omega)) (by rw [z_u2_row (by omega)]) (by rw [z_u2_row (by omega)]) (by rw [z_u2_row (by omega)]), MSl.to x3.1 hX.2 ?_ (fun j hj h1' => ?_), hX.2.1, o1, o2, hX.2.2.2.2⟩
          · show z_u2 I3 (m + 1) 1331 _ (m + 1) (1330 + 1) = _
            rw [z_u2_same]
          · show z_u2 I3 (m + 1) 1331 _ (m + 1) (1330 + j) = _
            rw [z_u2_nk (by omega)])
        exact ⟨_, _, _, _, t1, b_X12_lineRead_138 t2⟩
    refine b_X12_lineRead_4 hk (fun z => ?_) (fun _ => b_X12_lineRead_15 (fun z => ?_) (fun z => b_X12_lineRead_20 (fun z2 => ?_) (fun z2 => b_X12_lineRead_25 hk (fun z3 => ?_) (fun z3 => ?_))))
    · exact absurd z (by intro y; have := nI_pos (show k < 2 ^ 31 by omega); rw [y] at this; exact this (by decide))
    · rw [z_lit 3, nI_ltI (by decide) (by omega)] at z
      rw [p4]
      exact bad (by unfold lineP; rw [zq_f (by omega), zq_f (by omega), zq_f (fun y => by omega), zq_f (fun y => by omega)]) _
    · rw [z_lit 3, nI_ltI (by decide) (by omega)] at z
      rw [z_lit 1, nI_ltI (by decide) (by omega)] at z2
      rw [p4]
      exact go (by omega)
    · rw [z_lit 1, nI_ltI (by decide) (by omega)] at z2
      have hlf : laid = false := by
        cases laid with
        | false => rfl
        | true => rw [e17] at z3; cases z3
      rw [p4]
      exact go (Or.inr (Or.inr ⟨by omega, hlf⟩))
    · rw [z_lit 1, nI_ltI (by decide) (by omega)] at z2
      have hlt : laid = true := by
        cases laid with
        | true => rfl
        | false => exact absurd (by rw [e17]; rfl) z3
      rw [p4]
      exact bad (by unfold lineP; rw [zq_f (by omega), zq_f (by omega), zq_f (fun y => by rw [hlt] at y; cases y.2), zq_f (fun y => by rw [hlt] at y; cases y.2)]) _
end ML2

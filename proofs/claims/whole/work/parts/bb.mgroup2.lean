/-! THE MODEL: a group of factors -/
section GP
variable {n q : Nat} {B : Nat → Int32} {F : Nat → Nat × Nat} {ln : Nat}
/-- behind a word comes no word at once -/
theorem pkw_gap (h : pkw B n q ≠ 9) (h2 : pnx B n q < n ∧ Ltr (B (pnx B n q))) : q + 2 ≤ pnx B n q := by
  have h1 := pkw_ne h
  have e := pkw_nx h
  have g := prn_lt (P := Ltr) h1
  have st := (prn_spec (P := Ltr) (B := B) (n := n) (p := q)).2.1
  have ge : pte B n q ≤ pnx B n q := psp_ge
  rcases (show pnx B n q = pte B n q ∨ pte B n q < pnx B n q by omega) with y | y
  · rw [y, e] at h2; exact absurd h2 st
  · omega
theorem facP_gap {c : (Nat × Nat) × Nat} (h : facP B n F ln q = .inr c) (hB : (q < n ∧ Ltr (B q)) → 4 * ln ≤ q) (hq : q ≤ n) : q < n ∧ 4 * ln ≤ q ∧ q < c.2 ∧ c.2 ≤ n ∧ (pkw B n c.2 = 4 → (4 * (ln + 1) ≤ pnx B n c.2 + 1 ∧ ((pnx B n c.2 < n ∧ Ltr (B (pnx B n c.2))) → 4 * (ln + 1) ≤ pnx B n c.2) ∧ c.2 < pnx B n c.2)) := by
  obtain ⟨_, _, k1, k2, _⟩ := facP_ok h
  have hl := pkw_ne (B := B) (n := n) (q := q) (by omega)
  have h4 := hB hl
  have hx := pnx_gt (B := B) hl.1
  have two : pkw B n c.2 = 4 → q + 2 ≤ c.2 := fun h4' => by
    have hl2 := pkw_ne (B := B) (n := n) (q := c.2) (by omega)
    unfold facN at k2
    by_cases e : pkw B n q = 8
    · rw [if_pos e] at k2
      have := Sum.inr.inj k2
      have e2 : pnx B n q = c.2 := congrArg Prod.snd this
      rw [← e2] at hl2 ⊢
      exact pkw_gap (by omega) hl2
    · rw [if_neg e] at k2
      unfold numP at k2
      rcases Classical.em (pnx B n q < n ∧ Dgt (B (pnx B n q))) with a | a
      · rw [zq_t a] at k2
        rcases Classical.em (pte B n (pnx B n q) ≤ pnx B n q + 2 ∧ floW (pkw B n q) ≤ nvl B (pnx B n q) (pte B n (pnx B n q)) ∧ nvl B (pnx B n q) (pte B n (pnx B n q)) ≤ fhiW (pkw B n q)) with b | b
        · rw [zq_t b] at k2
          have := Sum.inr.inj k2
          have e2 : pnx B n (pnx B n q) = c.2 := congrArg Prod.snd this
          have := pnx_gt (B := B) a.1
          omega
        · rw [zq_f b] at k2; cases k2
      · rw [zq_f a] at k2; cases k2
  have cle : q < c.2 ∧ c.2 ≤ n := by
    unfold facN at k2
    by_cases e : pkw B n q = 8
    · rw [if_pos e] at k2
      have := Sum.inr.inj k2
      have e2 : pnx B n q = c.2 := congrArg Prod.snd this
      rw [← e2]
      exact ⟨hx, pnx_le hq⟩
    · rw [if_neg e] at k2
      unfold numP at k2
      rcases Classical.em (pnx B n q < n ∧ Dgt (B (pnx B n q))) with a | a
      · rw [zq_t a] at k2
        rcases Classical.em (pte B n (pnx B n q) ≤ pnx B n q + 2 ∧ floW (pkw B n q) ≤ nvl B (pnx B n q) (pte B n (pnx B n q)) ∧ nvl B (pnx B n q) (pte B n (pnx B n q)) ≤ fhiW (pkw B n q)) with b | b
        · rw [zq_t b] at k2
          have := Sum.inr.inj k2
          have e2 : pnx B n (pnx B n q) = c.2 := congrArg Prod.snd this
          have := pnx_gt (B := B) a.1
          have := pnx_le (B := B) (n := n) (q := pnx B n q) (by omega)
          omega
        · rw [zq_f b] at k2; cases k2
      · rw [zq_f a] at k2; cases k2
  refine ⟨hl.1, h4, cle.1, cle.2, fun hx4 => ?_⟩
  have t := two hx4
  have hl2 := pkw_ne (B := B) (n := n) (q := c.2) (by omega)
  have g2 := pnx_gt (B := B) hl2.1
  refine ⟨by omega, fun hl3 => ?_, g2⟩
  have := pkw_gap (B := B) (n := n) (q := c.2) (by omega) hl3
  omega
end GP
/-- a group of factors, as a slot holds it -/
noncomputable def grF (F : Nat → Nat × Nat) (ln : Nat) : Slt := (nP F ln, tP F ln, ivt (tP F ln), 0, (false, ln, 0, (fun x => x), (fun i => fsz (F i).1 (F i).2), (fun _ _ => 0)))
theorem grF_ok {F : Nat → Nat × Nat} {ln : Nat} (hF : ∀ j, j < ln → FOk (F j).1 (F j).2) (hn : nP F ln ≤ 20) (hl : ln ≤ 80) : SlOk (grF F ln) := by
  refine ⟨(tP_gr hF).grp hn, Nat.pow_pos (by decide), Nat.zero_testBit 0, fun x hx => ?_, fun q => (by cases q), fun _ => ⟨hl, fun i hi => ?_⟩⟩
  · have hx : x < nP F ln := hx
    show x < 20
    omega
  · have hi : i < ln := hi
    have h1 := fsz_pos (hF i hi)
    refine ⟨h1, ?_⟩
    show fsz (F i).1 (F i).2 ≤ 20
    have h2 : nP F (i + 1) ≤ nP F ln := nP_mono hF (by omega)
    have h3 : fsz (F i).1 (F i).2 ≤ nP F (i + 1) := by
      show _ ≤ nP F i * _
      exact Nat.le_mul_of_pos_left _ (tP_gr (i := i) (fun j hj => hF j (by omega))).1
    omega
section MG2
variable {d m n q k b i j ln : Nat} {B : Nat → Int32} {F : Nat → Nat × Nat} {S : zS} {I I0 I1 I2 I3 : zI} {J : zJ}
theorem m_begins {c : Nat} (hd : 0 < d) (hL : MLay S m) : ∃ I', z_ev d i_X12_begins [.ref m, .int (nI c)] S I0 J none S I' J ∧ (∀ h, h ≠ m + 1 → I' h = I0 h) ∧ (∀ j, j < 1330 → I' (m + 1) j = I0 (m + 1) j) ∧ I' (m + 1) 1330 = 1 ∧ I' (m + 1) 1332 = nI c ∧ ∀ j, j < 665 → j ≠ 0 → j ≠ 2 → I' (m + 1) (1330 + j) = 0 := by
  obtain ⟨d, rfl⟩ := z_dep hd
  have hk := hL.k
  have b0 := hL.a0
  obtain ⟨Q, hQ⟩ : ∃ Q : zQ, Q = fun w S' I' J' => w = none ∧ S' = S ∧ J' = J ∧ (∀ h, h ≠ m + 1 → I' h = I0 h) ∧ (∀ j, j < 1330 → I' (m + 1) j = I0 (m + 1) j) ∧ I' (m + 1) 1330 = 1 ∧ I' (m + 1) 1332 = nI c ∧ ∀ j, j < 665 → j ≠ 0 → j ≠ 2 → I' (m + 1) (1330 + j) = 0 := ⟨_, rfl⟩
  suffices hw : z_wp (d + 1) i_X12_begins [.ref m, .int (nI c)] S I0 J Q by
    rw [hQ] at hw
    obtain ⟨w, S', I', J', x1, rfl, rfl, rfl, x2⟩ := hw
    exact ⟨I', x1, x2⟩
  refine w_X12_begins (b_X12_begins_0 ?_)
  suffices H : ∀ k, k ≤ 665 → ∀ I1, (∀ h, h ≠ m + 1 → I1 h = I0 h) → (∀ j, j < 1330 → I1 (m + 1) j = I0 (m + 1) j) → (∀ j, j < k → I1 (m + 1) (1330 + j) = 0) → Go d i_X12_begins 2 [.ref m, .int (nI c), .int (nI k)] [] S I1 J Q from H 0 (by omega) I0 (fun _ _ => rfl) (fun _ _ => rfl) (fun j hj => by omega)
  refine z_up_to 665 ?_ ?_
  · intro I1 g1 g2 g3
    refine b_X12_begins_2 (fun _ => b_X12_begins_26 hk (b0.wr (i := 1330) (by decide) (by decide)) hk (b0.wr (i := 1332) (by decide) (by decide)) rfl ?_) (fun z => absurd (by decide) z)
    rw [show Int32.toNatClampNeg (1330 : Int32) = 1330 by decide, show Int32.toNatClampNeg (1332 : Int32) = 1332 by decide, b0.1, hQ]
    refine ⟨rfl, rfl, rfl, fun h hh => by rw [z_u2_row hh, z_u2_row hh]; exact g1 h hh, fun j hj => by rw [z_u2_nk (by omega), z_u2_nk (by omega)]; exact g2 j hj, by rw [z_u2_nk (by decide), z_u2_same], z_u2_same, fun j hj h0 h2 => ?_⟩
    rw [z_u2_nk (by omega), z_u2_nk (by omega)]; exact g3 j hj
  · intro k hk' ih I1 g1 g2 g3
    have e : (1330 : Int32) + nI k = nI (1330 + k) := by rw [z_lit 1330, nI_add]
    refine b_X12_begins_2 (fun z => absurd z (nI_ge hk' (by decide))) (fun _ => b_X12_begins_9 hk (by rw [e]; exact b0.wr (by omega) (by decide)) ?_)
    rw [e, nI_clamp (by omega), b0.1, nI_1]
    refine ih _ (fun h hh => by rw [z_u2_row hh]; exact g1 h hh) (fun j hj => by rw [z_u2_nk (by omega)]; exact g2 j hj) (fun j hj => ?_)
    by_cases e2 : j = k
    · rw [e2, z_u2_same]
    · rw [z_u2_nk (by omega)]; exact g3 j (by omega)
theorem m_base {N : Nat} (hd : 0 < d) (hL : MLay S m) (hN : I0 (m + 1) 1330 = nI N) (hN20 : N ≤ 20) : ∃ I', z_ev d i_X12_base [.ref m] S I0 J none S I' J ∧ (∀ h, h ≠ m + 1 → I' h = I0 h) ∧ (∀ j, j < 1335 ∨ 1355 ≤ j → I' (m + 1) j = I0 (m + 1) j) ∧ ∀ x, x < N → I' (m + 1) (1335 + x) = nI x := by
  obtain ⟨d, rfl⟩ := z_dep hd
  have hk := hL.k
  have b0 := hL.a0
  obtain ⟨Q, hQ⟩ : ∃ Q : zQ, Q = fun w S' I' J' => w = none ∧ S' = S ∧ J' = J ∧ (∀ h, h ≠ m + 1 → I' h = I0 h) ∧ (∀ j, j < 1335 ∨ 1355 ≤ j → I' (m + 1) j = I0 (m + 1) j) ∧ ∀ x, x < N → I' (m + 1) (1335 + x) = nI x := ⟨_, rfl⟩
  suffices hw : z_wp (d + 1) i_X12_base [.ref m] S I0 J Q by
    rw [hQ] at hw
    obtain ⟨w, S', I', J', x1, rfl, rfl, rfl, x2⟩ := hw
    exact ⟨I', x1, x2⟩
  refine w_X12_base (b_X12_base_0 ?_)
  have c : Int32.toNatClampNeg (1330 : Int32) = 1330 := by decide
  suffices H : ∀ k, k ≤ N → ∀ I1, (∀ h, h ≠ m + 1 → I1 h = I0 h) → (∀ j, j < 1335 ∨ 1355 ≤ j → I1 (m + 1) j = I0 (m + 1) j) → (∀ x, x < k → I1 (m + 1) (1335 + x) = nI x) → Go d i_X12_base 2 [.ref m, .int (nI k)] [] S I1 J Q from H 0 (by omega) I0 (fun _ _ => rfl) (fun _ _ => rfl) (fun j hj => by omega)
  refine z_up_to N ?_ ?_
  · intro I1 g1 g2 g3
    refine b_X12_base_2 hk (b0.rd (i := 1330) (by decide) (by decide)) (fun _ => b_X12_base_31 ?_) (fun z => absurd ?_ z)
    · rw [hQ]; exact ⟨rfl, rfl, rfl, g1, g2, g3⟩
    · rw [c, b0.1, g2 1330 (by omega), hN]; exact nI_le (Nat.le_refl _) (by omega)
  · intro k hk' ih I1 g1 g2 g3
    have e : (1335 : Int32) + nI k = nI (1335 + k) := by rw [z_lit 1335, nI_add]
    refine b_X12_base_2 hk (b0.rd (i := 1330) (by decide) (by decide)) (fun z => absurd z ?_) (fun _ => b_X12_base_14 hk (by rw [e]; exact b0.wr (by omega) (by decide)) ?_)
    · rw [c, b0.1, g2 1330 (by omega), hN]; exact nI_ge hk' (by omega)
    · rw [e, nI_clamp (by omega), b0.1, nI_1]
      refine ih _ (fun h hh => by rw [z_u2_row hh]; exact g1 h hh) (fun j hj => by rw [z_u2_nk (by omega)]; exact g2 j hj) (fun j hj => ?_)
      by_cases e2 : j = k
      · rw [e2, z_u2_same]
      · rw [z_u2_nk (by omega)]; exact g3 j (by omega)
theorem m_groupRead {f : Nat} {F0 : Nat → Nat × Nat} (hd : 8 < d) (h : PM S I0 m B n q) (hK : KY S I0) (hE : EVm I0 m) (hf : n < f + q) : ∃ I', z_ev d i_X12_groupRead [.ref m] S I0 J none S I' J ∧ PGr I0 I' m ∧ EVm I' m ∧ (∀ c, facsP B n f F0 0 q = .inl c → (I' m 6 = nI c.1 ∧ I' m 7 = nI c.2) ∧ (c.1 = 1 ∨ c.1 = 2 ∨ c.1 = 3)) ∧ ∀ c, facsP B n f F0 0 q = .inr c → PM S I' m B n c.2 ∧ MSl (fun j => I' (m + 1) (1330 + j)) (grF c.1.1 c.1.2) ∧ SlOk (grF c.1.1 c.1.2) := by
  obtain ⟨d, rfl⟩ := z_dep (d := d) (by omega)
  have hL := h.1
  have hk := hL.k
  obtain ⟨I1, p1, p2, p3, p4, p5, p6⟩ := m_begins (d := d) (I0 := I0) (J := J) (c := 0) (by omega) hL
  have g1 : PGr I0 I1 m := ⟨fun y a b _ _ _ _ => p2 y b, p3, fun k _ => by rw [p2 m (by omega)]⟩
  have m1 : PM S I1 m B n q := h.gr g1 (by rw [p2 m (by omega)]) (by rw [p2 m (by omega)]) (by rw [p2 m (by omega)])
  have W1 : WKF I1 m F0 0 := ⟨p4, p6 1 (by decide) (by decide) (by decide), p5, p6 3 (by decide) (by decide) (by decide), p6 4 (by decide) (by decide) (by decide), fun i hi => by omega, fun x y hx hy => by
    have hx : x < 1 := hx
    have hy : y < 1 := hy
    have e := p6 (265 + 20 * x + y) (by omega) (by omega) (by omega)
    rw [show 1330 + (265 + 20 * x + y) = 1595 + 20 * x + y by omega] at e
    rw [e]; rfl⟩
  have E1 : EVm I1 m := hE.fr (by rw [p2 m (by omega)]) (p2 _ (by omega))
  obtain ⟨Q, hQ⟩ : ∃ Q : zQ, Q = fun w S' I' J' => w = none ∧ S' = S ∧ J' = J ∧ PGr I0 I' m ∧ EVm I' m ∧ (∀ c, facsP B n f F0 0 q = .inl c → (I' m 6 = nI c.1 ∧ I' m 7 = nI c.2) ∧ (c.1 = 1 ∨ c.1 = 2 ∨ c.1 = 3)) ∧ ∀ c, facsP B n f F0 0 q = .inr c → PM S I' m B n c.2 ∧ MSl (fun j => I' (m + 1) (1330 + j)) (grF c.1.1 c.1.2) ∧ SlOk (grF c.1.1 c.1.2) := ⟨_, rfl⟩
  suffices hw : z_wp (d + 1) i_X12_groupRead [.ref m] S I0 J Q by
    rw [hQ] at hw
    obtain ⟨w, S', I', J', x1, rfl, rfl, rfl, x2⟩ := hw
    exact ⟨I', x1, x2⟩
  -- from a factor on
  have loop : ∀ f q F ln I1, n < f + q → PM S I1 m B n q → PGr I0 I1 m → EVm I1 m → WKF I1 m F ln → (∀ j, j < ln → FOk (F j).1 (F j).2) → nP F ln ≤ 20 → 4 * ln ≤ q + 1 → ((q < n ∧ Ltr (B q)) → 4 * ln ≤ q) → facsP B n f F ln q = facsP B n f F ln q → (∀ c, facsP B n f F ln q = c → ∃ I2, z_ev d i_X12_factorRead [.ref m] S I1 J none S I2 J ∧ ∀ Q' : zQ, (∀ I', PGr I0 I' m → EVm I' m → (∀ c, facsP B n f F ln q = .inl c → (I' m 6 = nI c.1 ∧ I' m 7 = nI c.2) ∧ (c.1 = 1 ∨ c.1 = 2 ∨ c.1 = 3)) → (∀ c, facsP B n f F ln q = .inr c → PM S I' m B n c.2 ∧ MSl (fun j => I' (m + 1) (1330 + j)) (grF c.1.1 c.1.2) ∧ SlOk (grF c.1.1 c.1.2)) → Q' none S I' J) → Go d i_X12_groupRead 9 [.ref m] [] S I2 J Q') := by
    intro f
    induction f with
    | zero =>
      intro q F ln I1 hf hm
      have := hm.le
      omega
    | succ f ih =>
      intro q F ln I1 hf hm hg he hW hF hn20 h4 h4' _ _ _
      have hn := hm.2.1.2
      have hql := hm.le
      have hK1 := hK.gr hL hg
      obtain ⟨I2, r1, r2, r3, r4, r5⟩ := m_factorRead (d := d) (J := J) (by omega) hm hK1 he hW hF hn20 (by omega)
      refine ⟨I2, r1, fun Q' hQ' => ?_⟩
      have g2 := hg.trans r2
      rcases e : facP B n F ln q with c | c
      · have eF : facsP B n (f + 1) F ln q = .inl c := facsP_l e
        obtain ⟨⟨s1, s2⟩, s3, s4⟩ := r4 c e
        have s6 : ¬ I2 m 6 = 0 := by rw [s1]; exact nI_ne0 (by omega) (by omega)
        obtain ⟨I3, t1, t2, t3, t4⟩ := m_base (d := d) (J := J) (I0 := I2) (N := nP F ln) (by omega) hL (by rw [s4]; exact hW.1) hn20
        refine b_X12_groupRead_9 hk (fun _ => b_X12_groupRead_35 hk ⟨_, _, _, _, t1, b_X12_groupRead_39 (hQ' I3 ?_ ?_ (fun c0 hc => ?_) (fun c0 hc => by rw [eF] at hc; cases hc))⟩) (fun z => absurd z s6)
        · exact g2.trans ⟨fun y _ b _ _ _ _ => t2 y b, fun j hj => t3 j (by omega), fun k _ => by rw [t2 m (by omega)]⟩
        · exact r3.fr (by rw [t2 m (by omega)]) (t2 _ (by omega))
        · rw [eF] at hc
          have hc := Sum.inl.inj hc
          rw [← hc, t2 m (by omega)]
          exact ⟨⟨s1, s2⟩, s3⟩
      · obtain ⟨s1, s2⟩ := r5 c e
        obtain ⟨o1, o2, _, _, _⟩ := facP_ok e
        obtain ⟨u1, u2, u3, u4, u5⟩ := facP_gap e h4' hql
        have hF' : ∀ j, j < ln + 1 → FOk (fup F ln c.1 j).1 (fup F ln c.1 j).2 := fun j hj => by
          unfold fup
          by_cases ej : j = ln
          · rw [if_pos ej]; exact o1
          · rw [if_neg ej]; exact hF j (by omega)
        have hn' : nP (fup F ln c.1) (ln + 1) ≤ 20 := by
          show nP (fup F ln c.1) ln * fsz (fup F ln c.1 ln).1 (fup F ln c.1 ln).2 ≤ 20
          have e1 : nP (fup F ln c.1) ln = nP F ln := nP_cg (fun j hj => if_neg (by omega))
          rw [e1, show fup F ln c.1 ln = c.1 from if_pos rfl]; exact o2
        have hK2 := hK.gr hL g2
        obtain ⟨I3, v1, v2, v3, v4⟩ := m_wordHere (d := d) (J := J) (by omega) s1 hK2
        have s6 := s1.2.2.2.1
        have g3 := g2.trans v2.gr
        have E3 : EVm I3 m := r3.fr (v2.2 11 (by decide) (by decide) (by decide)) (v2.1 _ (by omega))
        have W3 : WKF I3 m (fup F ln c.1) (ln + 1) := by
          unfold WKF at s2 ⊢
          rw [v2.1 (m + 1) (by omega)]; exact s2
        have kl := pkw_le (B := B) (n := n) (q := c.2)
        rcases Classical.em (pkw B n c.2 = 4) with x4 | x4
        · have eF : facsP B n (f + 1) F ln q = facsP B n f (fup F ln c.1) (ln + 1) (pnx B n c.2) := by rw [facsP_r e]; exact zq_t x4
          obtain ⟨y1, y2, y3⟩ := u5 x4
          obtain ⟨I4, w1, w2, w3⟩ := m_passes (d := d) (J := J) (by omega) v3 v4
          have eq3 : psp B n (prn Ltr B n c.2) = pnx B n c.2 := by unfold pnx; rw [pkw_nx (by omega)]
          rw [eq3] at w3
          have W4 : WKF I4 m (fup F ln c.1) (ln + 1) := by
            unfold WKF at W3 ⊢
            rw [w2.1 (m + 1) (by omega)]; exact W3
          obtain ⟨I5, z1, z2⟩ := ih (pnx B n c.2) (fup F ln c.1) (ln + 1) I4 (by omega) w3 (g3.trans w2.gr) (E3.fr (w2.2 11 (by decide) (by decide) (by decide)) (w2.1 _ (by omega))) W4 hF' hn' y1 y2 rfl _ rfl
          refine b_X12_groupRead_9 hk (fun z => absurd s6 z) (fun _ => b_X12_groupRead_16 hk ⟨_, _, _, _, v1, b_X12_groupRead_20 (fun z => absurd ?_ z) (fun _ => b_X12_groupRead_24 hk ⟨_, _, _, _, w1, b_X12_groupRead_28 hk ⟨_, _, _, _, z1, b_X12_groupRead_32 (z2 Q' (fun I' a1 a2 a3 a4 => hQ' I' a1 a2 (by rw [eF]; exact a3) (by rw [eF]; exact a4)))⟩⟩)⟩)
          rw [x4]; rfl
        · have eF : facsP B n (f + 1) F ln q = .inr ((fup F ln c.1, ln + 1), c.2) := by rw [facsP_r e]; exact zq_f x4
          obtain ⟨I4, t1, t2, t3, t4⟩ := m_base (d := d) (J := J) (I0 := I3) (N := nP (fup F ln c.1) (ln + 1)) (by omega) hL W3.1 hn'
          refine b_X12_groupRead_9 hk (fun z => absurd s6 z) (fun _ => b_X12_groupRead_16 hk ⟨_, _, _, _, v1, b_X12_groupRead_20 (fun _ => b_X12_groupRead_35 hk ⟨_, _, _, _, t1, b_X12_groupRead_39 (hQ' I4 ?_ ?_ (fun c0 hc => by rw [eF] at hc; cases hc) (fun c0 hc => ?_))⟩) (fun z => absurd z ?_)⟩)
          · exact g3.trans ⟨fun y _ b _ _ _ _ => t2 y b, fun j hj => t3 j (by omega), fun k _ => by rw [t2 m (by omega)]⟩
          · exact E3.fr (by rw [t2 m (by omega)]) (t2 _ (by omega))
          · rw [eF] at hc
            have hc := Sum.inr.inj hc
            rw [← hc]
            refine ⟨v3.gr ⟨fun y _ b _ _ _ _ => t2 y b, fun j hj => t3 j (by omega), fun k _ => by rw [t2 m (by omega)]⟩ (by rw [t2 m (by omega)]) (by rw [t2 m (by omega)]) (by rw [t2 m (by omega)]), ?_, grF_ok hF' hn' (show ln + 1 ≤ 80 by omega)⟩
            obtain ⟨k1, k2, k3, k4, k5, k6, k7⟩ := W3
            refine ⟨?_, ?_, ?_, ?_, ?_, fun y hy => ?_, fun _ i hi => ?_, fun z => (by cases z), fun x y hx hy => ?_⟩
            · show I4 (m + 1) (1330 + 0) = _
              rw [t3 _ (by omega)]; exact k1
            · show I4 (m + 1) (1330 + 1) = _
              rw [t3 _ (by omega)]; exact k2
            · show I4 (m + 1) (1330 + 2) = _
              rw [t3 _ (by omega)]; exact k3
            · show I4 (m + 1) (1330 + 3) = _
              rw [t3 _ (by omega)]; exact k4
            · show I4 (m + 1) (1330 + 4) = _
              rw [t3 _ (by omega)]; exact k5
            · show I4 (m + 1) (1330 + (5 + y)) = _
              rw [show 1330 + (5 + y) = 1335 + y by omega]; exact t4 y hy
            · have hi : i < ln + 1 := hi
              show I4 (m + 1) (1330 + (25 + i)) = _
              rw [show 1330 + (25 + i) = 1355 + i by omega, t3 _ (by omega)]; exact k6 i hi
            · have hx : x < nP (fup F ln c.1) (ln + 1) := hx
              have hy : y < nP (fup F ln c.1) (ln + 1) := hy
              show I4 (m + 1) (1330 + (265 + 20 * x + y)) = _
              rw [show 1330 + (265 + 20 * x + y) = 1595 + 20 * x + y by omega, t3 _ (by omega)]; exact k7 x y hx hy
          · unfold kwv
            by_cases e9 : pkw B n c.2 = 9
            · rw [if_pos e9]; decide
            · rw [if_neg e9, z_lit 4, nI_eq (by omega) (by decide)]; exact x4
  obtain ⟨I2, z1, z2⟩ := loop f q F0 0 I1 hf m1 g1 E1 W1 (fun j hj => by omega) (show (1 : Nat) ≤ 20 by decide) (by omega) (fun _ => by omega) rfl _ rfl
  refine w_X12_groupRead (b_X12_groupRead_0 hk ⟨_, _, _, _, p1, b_X12_groupRead_5 hk ⟨_, _, _, _, z1, z2 Q (fun I' a1 a2 a3 a4 => ?_)⟩⟩)
  rw [hQ]
  exact ⟨rfl, rfl, rfl, a1, a2, a3, a4⟩
end MG2

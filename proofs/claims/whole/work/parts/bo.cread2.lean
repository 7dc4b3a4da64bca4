/-! THE CLASS: factors are read -/
section CR2
variable {d a n q ln : Nat} {B : Nat → Int32} {F : Nat → Nat × Nat} {S : zS} {I I0 I1 I2 : zI} {J : zJ}
theorem BFs.cg {b : Nat} (h : BFs I b F ln) (h0 : I1 b = I b) (h1 : I1 (b + 1) = I (b + 1)) (h2 : I1 (b + 2) = I (b + 2)) (h3 : I1 (b + 3) = I (b + 3)) : BFs I1 b F ln := by
  unfold BFs
  rw [h0, h1, h2, h3]; exact h
theorem ltc_ne {k : Nat} (hk : 5 ≤ k ∧ k ≤ 8) : ¬ nI (ltc k) = 0 ∧ (nI (ltc k) = 97 ↔ k = 8) := by
  have : ∀ k, k < 9 → 5 ≤ k → ¬ nI (ltc k) = 0 ∧ (nI (ltc k) = 97 ↔ k = 8) := by decide
  exact this k (by omega) hk.1
theorem c_readFactor (hd : 7 < d) (h : RS S I0 a B n q) (hs : STS S I0) (hE : EO S I0) (hB : BFs I0 (a + 3) F ln) (hn20 : nP F ln ≤ 20) (hln : ln < 150) : ∃ I' v, z_ev d i_X10_readFactor [.ref (a + 2)] S I0 J (some (.int v)) S I' J ∧ RFr I0 I' a ∧ (∀ k, 2 ≤ k → I' (a + 2) k = I0 (a + 2) k) ∧ (∀ c, facP B n F ln q = .inl c → v = 0 ∧ I' (a + 2) 0 = nI c.1 ∧ I' (a + 2) 1 = nI c.2) ∧ ∀ c, facP B n F ln q = .inr c → v = 1 ∧ I' (a + 2) = I0 (a + 2) ∧ RS S I' a B n c.2 ∧ BFs I' (a + 3) (fup F ln c.1) (ln + 1) := by
  obtain ⟨d, rfl⟩ := z_dep (d := d) (by omega)
  have h' := h
  obtain ⟨hL, hX, hq⟩ := h
  have hL' := hL
  obtain ⟨l1, l2, l3, l4, l5⟩ := hL
  have kl : z_kd S (z_rv S (a + 2) 5) = 6 := by rw [l2]; exact l5.1
  have kb : z_kd S (z_rv S (a + 2) 6) = 3 := by rw [l3]; exact l4.1
  have hn := hX.2.2.1.2
  have hlet := c_letter (d := d) (J := J) (by omega) h' hs
  obtain ⟨Q, hQ⟩ : ∃ Q : zQ, Q = fun w S' I' J' => S' = S ∧ J' = J ∧ RFr I0 I' a ∧ (∀ k, 2 ≤ k → I' (a + 2) k = I0 (a + 2) k) ∧ (∀ c, facP B n F ln q = .inl c → w = some (.int 0) ∧ I' (a + 2) 0 = nI c.1 ∧ I' (a + 2) 1 = nI c.2) ∧ (∀ c, facP B n F ln q = .inr c → w = some (.int 1) ∧ I' (a + 2) = I0 (a + 2) ∧ RS S I' a B n c.2 ∧ BFs I' (a + 3) (fup F ln c.1) (ln + 1)) ∧ ∃ v, w = some (.int v) := ⟨_, rfl⟩
  suffices hw : z_wp (d + 1) i_X10_readFactor [.ref (a + 2)] S I0 J Q by
    rw [hQ] at hw
    obtain ⟨w, S', I', J', x1, rfl, rfl, x2, x3, x4, x5, v, rfl⟩ := hw
    refine ⟨I', v, x1, x2, x3, fun c hc => ?_, fun c hc => ?_⟩
    · obtain ⟨y1, y2⟩ := x4 c hc
      exact ⟨by injection y1 with y1; injection y1, y2⟩
    · obtain ⟨y1, y2⟩ := x5 c hc
      exact ⟨by injection y1 with y1; injection y1, y2⟩
  -- a fault
  have bad : ∀ (I1 : zI) (c pl : Nat), RFr I0 I1 a → (∀ k, 2 ≤ k → I1 (a + 2) k = I0 (a + 2) k) → facP B n F ln q = .inl (c, pl) → Q (some (.int 0)) S (z_u2 (z_u2 I1 (a + 2) 0 (nI c)) (a + 2) 1 (nI pl)) J := fun I1 c pl g1 g2 e => by
    rw [hQ]
    refine ⟨rfl, rfl, fun y hy => by rw [z_u2_row (by omega), z_u2_row (by omega)]; exact g1 y hy, fun k hk => by rw [z_u2_nk (by omega), z_u2_nk (by omega)]; exact g2 k hk, fun c0 hc => ?_, fun c0 hc => (by rw [e] at hc; cases hc), 0, rfl⟩
    rw [e] at hc
    have hc := Sum.inl.inj hc
    rw [← hc]
    exact ⟨rfl, by rw [z_u2_nk (by decide), z_u2_same], z_u2_same⟩
  refine w_X10_readFactor (b_X10_readFactor_0 l1 kl l1 ?_)
  rw [l2, hq.2.1]
  refine ⟨_, _, _, _, hlet, ?_⟩
  rcases Classical.em (5 ≤ pkw B n q ∧ pkw B n q ≤ 8) with c | c
  · rw [if_pos c]
    have eP : facP B n F ln q = _ := zq_t c
    obtain ⟨k, hke⟩ : ∃ k, k = pkw B n q := ⟨_, rfl⟩
    rw [← hke] at c eP ⊢
    obtain ⟨n0, n97⟩ := ltc_ne c
    obtain ⟨I1, p1, p2, p3⟩ := c_take1 (d := d) (J := J) (by omega) h'
    have i1 : I1 (a + 2) = I0 (a + 2) := p2.1 _ (by omega)
    have b1 : BFs I1 (a + 3) F ln := hB.cg (p2.1 _ (by omega)) (p2.1 _ (by omega)) (p2.1 _ (by omega)) (p2.1 _ (by omega))
    have rf1 : RFr I0 I1 a := p2.rf
    -- the factor is added
    have add : ∀ (I2 : zI) (w q' : Nat), facN B n k q = .inr (w, q') → RFr I0 I2 a → I2 (a + 2) = I0 (a + 2) → RS S I2 a B n q' → BFs I2 (a + 3) F ln → ∀ v4 : Value, Go d i_X10_readFactor 120 [.ref (a + 2), .int (nI q), .int (nI (ltc k)), .int (nI w), v4] [] S I2 J Q := fun I2 w q' efn g1 g2 g3 g4 v4 => by
      have hFk := facN_ok c efn
      have eP2 : facP B n F ln q = zq (nP F ln * fsz k w ≤ 20) (.inr ((k, w), q')) (.inl (3, q)) := by rw [eP, efn]
      obtain ⟨I3, r1, r2, r3, r4⟩ := c_addFactor (d := d) (J := J) (by omega) l4 (hE.rf hL' g1) g4 hFk hn20 hln
      have i32 : I3 (a + 2) = I0 (a + 2) := by rw [r2 _ (by omega) (by omega) (by omega) (by omega)]; exact g2
      have rf3 : RFr I0 I3 a := fun y hy => by rw [r2 y (by omega) (by omega) (by omega) (by omega)]; exact g1 y hy
      refine b_X10_readFactor_120 l1 kb ?_
      rw [l3]
      refine ⟨_, _, _, _, r1, b_X10_readFactor_129 (fun z => b_X10_readFactor_141 z_fit1 ?_) (fun z => b_X10_readFactor_132 l1 ⟨_, _, _, _, c_rfail 3 (nI q) (by omega) hL', b_X10_readFactor_138 (fun _ => b_X10_readFactor_145 z_fit0 ?_) (fun z2 => absurd rfl z2)⟩)⟩
      · have z := zb_1.mp z
        rw [zq_t z] at eP2
        rw [hQ]
        refine ⟨rfl, rfl, rf3, fun k' _ => by rw [i32], fun c0 hc => (by rw [eP2] at hc; cases hc), fun c0 hc => ?_, 1, rfl⟩
        rw [eP2] at hc
        have hc := Sum.inr.inj hc
        rw [← hc]
        exact ⟨rfl, i32, g3.of (r2 _ (by omega) (by omega) (by omega) (by omega)) (r2 _ (by omega) (by omega) (by omega) (by omega)), r4 z⟩
      · have z := zb_0.mp z
        rw [zq_f z] at eP2
        exact bad I3 3 q rf3 (fun k' _ => by rw [i32]) eP2
    refine b_X10_readFactor_12 (fun z => absurd z n0) (fun _ => b_X10_readFactor_18 l1 ⟨_, _, _, _, p1, b_X10_readFactor_26 (fun _ => b_X10_readFactor_31 (fun z => ?_) (fun z => ?_)) (fun z => by cases z)⟩)
    · have e8 := n97.mp z
      exact add I1 0 (pnx B n q) (by unfold facN; rw [if_pos e8]) rf1 i1 p3 b1 _
    · have e8 : ¬ k = 8 := fun y => z (n97.mpr y)
      have efn : facN B n k q = numP B n (floW k) (fhiW k) (pnx B n q) := by unfold facN; rw [if_neg e8]
      obtain ⟨q1, hq1⟩ : ∃ q1, q1 = pnx B n q := ⟨_, rfl⟩
      rw [← hq1] at p3 efn
      have p3X := p3.2.1
      have p3q := p3.2.2
      have s4 : I1 (a + 9) 4 = nI (pts B n q1) := p3q.2.2.2
      have hpl := pts_lt B n q1
      have c4 : I1 (a + 9) 4 = 2 ↔ pts B n q1 = 2 := by rw [s4, z_lit 2, nI_eq (by omega) (by decide)]
      refine b_X10_readFactor_39 l1 kl l1 kl (fun y => ?_) (fun y => ?_)
      · rw [l2] at y
        have y' : ¬ pts B n q1 = 2 := fun w => y (c4.mpr w)
        rw [l2, p3q.2.1]
        refine b_X10_readFactor_69 l1 kl (fun _ => b_X10_readFactor_87 l1 ⟨_, _, _, _, c_take0 (by omega) p3, b_X10_readFactor_91 (fun w => absurd rfl w) (fun _ => b_X10_readFactor_94 z_fit0 ?_)⟩) (fun w => absurd (by rw [l2] at w; exact w) y)
        have eP2 : facP B n F ln q = .inl (1, q1) := by
          have : numP B n (floW k) (fhiW k) q1 = .inl (1, q1) := zq_f (fun w => y' (pts_n.mpr w))
          rw [eP, efn, this]
        exact bad I1 1 q1 rf1 (fun k' _ => by rw [i1]) eP2
      · rw [l2] at y
        have y' : pts B n q1 = 2 := c4.mp y
        have yd := pts_n.mp y'
        have hnum := c_number (d := d) (J := J) (by omega) p3X p3q y'
        obtain ⟨I2, t1, t2, t3⟩ := c_take1 (d := d) (J := J) (by omega) p3
        have i2 : I2 (a + 2) = I0 (a + 2) := by rw [t2.1 _ (by omega)]; exact i1
        have rf2 : RFr I0 I2 a := rf1.trans t2.rf
        have b2 : BFs I2 (a + 3) F ln := b1.cg (t2.1 _ (by omega)) (t2.1 _ (by omega)) (t2.1 _ (by omega)) (t2.1 _ (by omega))
        rw [l2, p3q.2.1]
        refine b_X10_readFactor_59 l1 kl ?_
        rw [l2]
        refine ⟨_, _, _, _, hnum, b_X10_readFactor_66 l1 kl (fun w => absurd (by rw [l2]; exact y) w) (fun _ => b_X10_readFactor_83 l1 ⟨_, _, _, _, t1, b_X10_readFactor_91 (fun _ => b_X10_readFactor_96 ⟨_, _, _, _, c_leastOf (by omega) c, ?_⟩) (fun w => by cases w)⟩)⟩
        have flo : floW k < 3 ∧ 0 < floW k := by unfold floW; split <;> decide
        have fhi : fhiW k < 21 := by unfold fhiW; split; decide; split <;> decide
        have flt : ¬ (pte B n q1 ≤ q1 + 2 ∧ floW k ≤ nvl B q1 (pte B n q1) ∧ nvl B q1 (pte B n q1) ≤ fhiW k) → ∀ x3 : Int32, Go d i_X10_readFactor 112 [.ref (a + 2), .int (nI q), .int (nI (ltc k)), .int x3, .int (nI q1)] [] S I2 J Q := fun hno x3 => by
          have eP2 : facP B n F ln q = .inl (2, q1) := by
            have : numP B n (floW k) (fhiW k) q1 = .inl (2, q1) := by unfold numP; rw [zq_t yd, zq_f hno]
            rw [eP, efn, this]
          exact b_X10_readFactor_112 l1 ⟨_, _, _, _, c_rfail 2 (nI q1) (by omega) hL', b_X10_readFactor_119 z_fit0 (bad I2 2 q1 rf2 (fun k' _ => by rw [i2]) eP2)⟩
        by_cases e2 : pte B n q1 ≤ q1 + 2
        · rw [if_pos e2]
          have hv : nvl B q1 (pte B n q1) < 100 := by
            rw [← nvi_e (B := B) (pte_gt yd.1)]
            exact nvi_lt (fun j j1 j2 => (dvl_lt (prn_in (P := Dgt) (B := B) (n := n) (p := q1) (j := q1 + j) (by omega) (by rw [← pte_n yd]; omega)).2).1)
          refine b_X10_readFactor_101 (fun w => ?_) (fun w => b_X10_readFactor_104 ⟨_, _, _, _, c_mostOf (by omega) c, b_X10_readFactor_109 (fun w2 => ?_) (fun w2 => ?_)⟩)
          · rw [nI_ltI (by omega) (by omega)] at w
            exact flt (by omega) _
          · rw [nI_ltI (by omega) (by omega)] at w
            rw [nI_leI (by omega) (by omega)] at w2
            refine add I2 (nvl B q1 (pte B n q1)) (pnx B n q1) ?_ rf2 i2 t3 b2 _
            rw [efn]
            unfold numP
            rw [zq_t yd, zq_t ⟨e2, by omega, by omega⟩]
          · rw [nI_leI (by omega) (by omega)] at w2
            exact flt (by omega) _
        · rw [if_neg e2]
          refine b_X10_readFactor_101 (fun _ => flt (by omega) _) (fun w => absurd ?_ w)
          exact Int32.lt_of_lt_of_le (show (-1 : Int32) < nI 0 by decide) (nI_le (Nat.zero_le _) (by omega))
  · rw [if_neg c]
    have eP : facP B n F ln q = _ := zq_f c
    refine b_X10_readFactor_12 (fun _ => b_X10_readFactor_22 l1 ⟨_, _, _, _, c_take0 (by omega) h', b_X10_readFactor_26 (fun z => absurd rfl z) (fun _ => b_X10_readFactor_29 z_fit0 (bad I0 1 q RFr.refl (fun _ _ => rfl) eP))⟩) (fun z => absurd rfl z)
theorem c_readFactors {f : Nat} {F0 : Nat → Nat × Nat} (hd : 8 < d) (h : RS S I0 a B n q) (hs : STS S I0) (hE : EO S I0) (hB : BFs I0 (a + 3) F0 0) (hf : n < f + q) : ∃ I' v, z_ev d i_X10_readFactors [.ref (a + 2)] S I0 J (some (.int v)) S I' J ∧ RFr I0 I' a ∧ (∀ k, 2 ≤ k → I' (a + 2) k = I0 (a + 2) k) ∧ (∀ c, facsP B n f F0 0 q = .inl c → v = 0 ∧ I' (a + 2) 0 = nI c.1 ∧ I' (a + 2) 1 = nI c.2) ∧ ∀ c, facsP B n f F0 0 q = .inr c → v = 1 ∧ I' (a + 2) = I0 (a + 2) ∧ RS S I' a B n c.2 ∧ BFs I' (a + 3) c.1.1 c.1.2 ∧ c.1.2 ≤ 80 ∧ (∀ j, j < c.1.2 → FOk (c.1.1 j).1 (c.1.1 j).2) ∧ nP c.1.1 c.1.2 ≤ 20 := by
  obtain ⟨d, rfl⟩ := z_dep (d := d) (by omega)
  have hL' := h.1
  obtain ⟨l1, l2, l3, l4, l5⟩ := h.1
  have kl : z_kd S (z_rv S (a + 2) 5) = 6 := by rw [l2]; exact l5.1
  have hn := h.2.1.2.2.1.2
  obtain ⟨Q, hQ⟩ : ∃ Q : zQ, Q = fun w S' I' J' => S' = S ∧ J' = J ∧ RFr I0 I' a ∧ (∀ k, 2 ≤ k → I' (a + 2) k = I0 (a + 2) k) ∧ (∀ c, facsP B n f F0 0 q = .inl c → w = some (.int 0) ∧ I' (a + 2) 0 = nI c.1 ∧ I' (a + 2) 1 = nI c.2) ∧ (∀ c, facsP B n f F0 0 q = .inr c → w = some (.int 1) ∧ I' (a + 2) = I0 (a + 2) ∧ RS S I' a B n c.2 ∧ BFs I' (a + 3) c.1.1 c.1.2 ∧ c.1.2 ≤ 80 ∧ (∀ j, j < c.1.2 → FOk (c.1.1 j).1 (c.1.1 j).2) ∧ nP c.1.1 c.1.2 ≤ 20) ∧ ∃ v, w = some (.int v) := ⟨_, rfl⟩
  suffices hw : z_wp (d + 1) i_X10_readFactors [.ref (a + 2)] S I0 J Q by
    rw [hQ] at hw
    obtain ⟨w, S', I', J', x1, rfl, rfl, x2, x3, x4, x5, v, rfl⟩ := hw
    refine ⟨I', v, x1, x2, x3, fun c hc => ?_, fun c hc => ?_⟩
    · obtain ⟨y1, y2⟩ := x4 c hc
      exact ⟨by injection y1 with y1; injection y1, y2⟩
    · obtain ⟨y1, y2⟩ := x5 c hc
      exact ⟨by injection y1 with y1; injection y1, y2⟩
  refine w_X10_readFactors (b_X10_readFactors_0 ?_)
  suffices H : ∀ f' q' i F ln I1, n < f' + q' → RS S I1 a B n q' → RFr I0 I1 a → I1 (a + 2) = I0 (a + 2) → BFs I1 (a + 3) F ln → (∀ j, j < ln → FOk (F j).1 (F j).2) → nP F ln ≤ 20 → i ≤ q' → 4 * ln ≤ q' + 1 → ((q' < n ∧ Ltr (B q')) → 4 * ln ≤ q') → facsP B n f F0 0 q = facsP B n f' F ln q' → Go d i_X10_readFactors 4 [.ref (a + 2), .int 1, .int (nI i)] [] S I1 J Q from H f q 0 F0 0 I0 hf h RFr.refl rfl hB (fun j hj => by omega) (show (1 : Nat) ≤ 20 by decide) (by omega) (by omega) (fun _ => by omega) rfl
  intro f'
  induction f' with
  | zero =>
    intro q' i F ln I1 hf' hr
    have := hr.2.2.1.1
    omega
  | succ f' ih =>
    intro q' i F ln I1 hf' hr g1 g2 hb hF hn20 hiq h4 h4' hres
    have hql := hr.2.2.1.1
    have hX := hr.2.1
    obtain ⟨I2, v, r1, r2, r3, r4, r5⟩ := c_readFactor (d := d) (J := J) (by omega) hr (hs.rf hL' g1) (hE.rf hL' g1) hb hn20 (by omega)
    have g12 := g1.trans r2
    refine b_X10_readFactors_4 l1 kl (fun z => ?_) (fun _ => b_X10_readFactors_15 (fun z => by cases z) (fun _ => b_X10_readFactors_19 l1 ⟨_, _, _, _, r1, ?_⟩))
    · rw [l2, hX.2.2.1.1, nI_ltI (by omega) (by omega)] at z; omega
    · rcases e : facP B n F ln q' with c | c
      · obtain ⟨s1, s2, s3⟩ := r4 c e
        rw [facsP_l e] at hres
        subst s1
        refine b_X10_readFactors_23 (fun z => absurd rfl z) (fun _ => b_X10_readFactors_26 z_fit0 ?_)
        rw [hQ]
        refine ⟨rfl, rfl, g12, fun k hk => by rw [r3 k hk, g2], fun c0 hc => ?_, fun c0 hc => (by rw [hres] at hc; cases hc), 0, rfl⟩
        rw [hres] at hc
        have hc := Sum.inl.inj hc
        rw [← hc]; exact ⟨rfl, s2, s3⟩
      · obtain ⟨s1, s2, s3, s4⟩ := r5 c e
        obtain ⟨o1, o2, _, _, _⟩ := facP_ok e
        obtain ⟨u1, u2, u3, u4, u5⟩ := facP_gap e h4' hql
        have hF' : ∀ j, j < ln + 1 → FOk (fup F ln c.1 j).1 (fup F ln c.1 j).2 := fun j hj => by
          unfold fup
          by_cases ej : j = ln
          · rw [if_pos ej]; exact o1
          · rw [if_neg ej]; exact hF j (by omega)
        have hn' : nP (fup F ln c.1) (ln + 1) ≤ 20 := by
          show nP (fup F ln c.1) ln * fsz (fup F ln c.1 ln).1 (fup F ln c.1 ln).2 ≤ 20
          have e1 : nP (fup F ln c.1) ln = nP F ln := nP_cg (fun j hj => if_neg (by omega))
          rw [e1, show fup F ln c.1 ln = c.1 from if_pos rfl]; exact o2
        subst s1
        have hw := c_word (d := d) (J := J) (j := 4) (k := 4) (by decide) rfl (by omega) s3 (hs.rf hL' g12)
        refine b_X10_readFactors_23 (fun _ => b_X10_readFactors_28 l1 kl ?_) (fun z => by cases z)
        rw [l2]
        refine ⟨_, _, _, _, hw, b_X10_readFactors_37 (fun z => ?_) (fun z => ?_)⟩
        · have x4 := zb_0.mp z
          rw [z]
          rw [facsP_r e, zq_f x4] at hres
          have i2 : I2 (a + 2) = I0 (a + 2) := by rw [s2, g2]
          refine b_X10_readFactors_49 (b_X10_readFactors_4 l1 kl (fun _ => b_X10_readFactors_55 z_fit1 ?_) (fun _ => b_X10_readFactors_15 (fun _ => b_X10_readFactors_55 z_fit1 ?_) (fun z2 => absurd rfl z2)))
          all_goals
            rw [hQ]
            refine ⟨rfl, rfl, g12, fun k hk => by rw [i2], fun c0 hc => (by rw [hres] at hc; cases hc), fun c0 hc => ?_, 1, rfl⟩
            rw [hres] at hc
            have hc := Sum.inr.inj hc
            rw [← hc]
            exact ⟨rfl, i2, s3, s4, show ln + 1 ≤ 80 by omega, hF', hn'⟩
        · have x4 := zb_1.mp z
          rw [facsP_r e, zq_t x4] at hres
          obtain ⟨y1, y2, y3⟩ := u5 x4
          obtain ⟨I3, t1, t2, t3⟩ := c_adv (d := d) (J := J) (by omega) s3.2.1 s3.2.2
          refine b_X10_readFactors_42 l1 kl ?_
          rw [l2]
          refine ⟨_, _, _, _, t1, b_X10_readFactors_49 ?_⟩
          rw [nI_1, zb_t x4]
          refine ih (pnx B n c.2) (i + 1) _ _ I3 (by omega) ⟨hL', s3.2.1.fr t2, t3⟩ (g12.trans t2.rf) (by rw [t2.1 _ (by omega), s2, g2]) (s4.cg (t2.1 _ (by omega)) (t2.1 _ (by omega)) (t2.1 _ (by omega)) (t2.1 _ (by omega))) hF' hn' (by omega) y1 y2 hres
end CR2

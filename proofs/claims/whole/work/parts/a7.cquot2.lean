/-! THE CLASS: quotient, the call -/
section C48
variable {d a g w n s st : Nat} {t : Nat → Nat → Nat} {iv : Nat → Nat} {A : Wst} {x : Slt} {γ γ' : Nat → Slt} {S S' S2 : zS} {I I' I2 : zI} {J J' J2 : zJ}
/-- two rows of twenty are made -/
theorem z_two (S : zS) (hf : SF S) : ∃ S2, S2 = z_new (z_new S 100 (Int32.toNatClampNeg (20 : Int32)) (Int32.toNatClampNeg (20 : Int32))) 100 (Int32.toNatClampNeg (20 : Int32)) (Int32.toNatClampNeg (20 : Int32)) ∧ SF S2 ∧ z_sz S2 = z_sz S + 2 ∧ z_ce S2 = z_ce S + 2 ∧ z_sl S2 = z_sl S + 40 ∧ (∀ y, y ≤ z_sz S → (z_kd S2 y = z_kd S y ∧ z_ln S2 y = z_ln S y) ∧ z_rv S2 y = z_rv S y) ∧ (z_kd S2 (z_sz S + 1) = 100 ∧ z_ln S2 (z_sz S + 1) = 20) ∧ (z_kd S2 (z_sz S + 2) = 100 ∧ z_ln S2 (z_sz S + 2) = 20) := by
  have e20 : Int32.toNatClampNeg (20 : Int32) = 20 := by decide
  rw [e20]
  obtain ⟨S1, E1⟩ : ∃ S1, S1 = z_new S 100 20 20 := ⟨_, rfl⟩
  have s1 : z_sz S1 = z_sz S + 1 := by rw [E1]; rfl
  have k1 : z_kd S1 (z_sz S + 1) = 100 ∧ z_ln S1 (z_sz S + 1) = 20 := by rw [E1]; exact ⟨z_kd_new, z_ln_new⟩
  have o1 : ∀ y, y ≠ z_sz S + 1 → (z_kd S1 y = z_kd S y ∧ z_ln S1 y = z_ln S y) ∧ z_rv S1 y = z_rv S y := fun y hy => by
    rw [E1]; exact ⟨⟨z_kd_nev hy, z_ln_nev hy⟩, by funext j; exact z_rv_nev hy⟩
  have f1 : SF S1 := by rw [E1]; exact Mo.new.2.2 hf
  rw [← E1]
  obtain ⟨S2, E2⟩ : ∃ S2, S2 = z_new S1 100 20 20 := ⟨_, rfl⟩
  have k2 : z_kd S2 (z_sz S1 + 1) = 100 ∧ z_ln S2 (z_sz S1 + 1) = 20 := by rw [E2]; exact ⟨z_kd_new, z_ln_new⟩
  have o2 : ∀ y, y ≠ z_sz S1 + 1 → (z_kd S2 y = z_kd S1 y ∧ z_ln S2 y = z_ln S1 y) ∧ z_rv S2 y = z_rv S1 y := fun y hy => by
    rw [E2]; exact ⟨⟨z_kd_nev hy, z_ln_nev hy⟩, by funext j; exact z_rv_nev hy⟩
  have f2 : SF S2 := by rw [E2]; exact Mo.new.2.2 f1
  rw [s1] at k2 o2
  refine ⟨S2, E2, f2, by rw [E2, E1]; rfl, by rw [E2, E1]; rfl, ?_, fun y hy => ?_, ?_, k2⟩
  · rw [E2, E1]
    show z_sl S + 20 + 20 = z_sl S + 40
    omega
  · have p := o2 y (by omega)
    have q := o1 y (by omega)
    exact ⟨⟨by rw [p.1.1, q.1.1], by rw [p.1.2, q.1.2]⟩, by rw [p.2, q.2]⟩
  · have p := o2 (z_sz S + 1) (by omega)
    rw [p.1.1, p.1.2]; exact k1
theorem c_quotient (x1 x2 : Int32) (hd : 5 < d) (h : CW S I J a A) (hf : SF S) (hA : WOk A) (hz : a + 88 ≤ z_sz S) : ∃ S' I' J', z_ev d i_X11_quotient [.ref a, .int x1, .int x2] S I J (some (.int (aQuot A x1 x2))) S' I' J' ∧ CW S' I' J' a (wQuot A x1 x2) ∧ FR a S I J S' I' J' ∧ Cst 9 560 S S' := by
  obtain ⟨d, rfl⟩ := z_dep (d := d) (by omega)
  have hk := h.k
  rcases Classical.em (El 2 x1) with c | c
  · have e : aQuot A x1 x2 = _ := zq_t c
    have cc := c
    obtain ⟨s, hs, rfl⟩ := c
    rw [ix_nI (by omega)] at e
    rw [e]
    obtain ⟨w, g1, g2, g3, g4, _, g6⟩ := h.net hs
    have hg := g4.2.2.2.2.2.1
    have hn := hg.le
    have gd := g4.2.2.2.2.2.2.1.out
    have head : ∀ (S' : zS) (I' : zI) (J' : zJ) (v : Int32), (∀ v5 v6 v7 v8 v9, El (2 ^ (A.sl s).n) x2 → Go d i_X11_quotient 35 [.ref a, .int (nI s), .int x2, .ref w, .ref (z_rv S w 0), v5, v6, v7, v8, v9] [] S I J (z_eq (some (.int v)) S' I' J')) → (∀ v5 v6 v7 v8 v9, ¬ El (2 ^ (A.sl s).n) x2 → Go d i_X11_quotient 32 [.ref a, .int (nI s), .int x2, .ref w, .ref (z_rv S w 0), v5, v6, v7, v8, v9] [] S I J (z_eq (some (.int v)) S' I' J')) → z_ev (d + 1) i_X11_quotient [.ref a, .int (nI s), .int x2] S I J (some (.int v)) S' I' J' := fun S' I' J' v q1 q2 => by
      refine e_X11_quotient (b_X11_quotient_0 ⟨_, _, _, _, c_isSlot (nI s) (by omega), b_X11_quotient_4 (fun _ => b_X11_quotient_10 hk g6 (by rw [g1]; omega) (by rw [g1]; exact g3) (by rw [g1]; omega) (by rw [g1]; exact g4.1.1) ?_) (fun z => absurd cc (zb_0.mp z))⟩)
      rw [g1]
      exact ⟨_, _, _, _, c_isSet x2 (by omega) g4.1, b_X11_quotient_29 (fun z => q1 _ _ _ _ _ (zb_1.mp z)) (fun z => q2 _ _ _ _ _ (zb_0.mp z))⟩
    rcases Classical.em (El (2 ^ (A.sl s).n) x2) with c2 | c2
    · have cc2 := c2
      obtain ⟨b, hb, rfl⟩ := c2
      have hb31 := z_lt31 hn hb
      rw [zq_t cc2, ix_nI hb31]
      have mid : ∀ (v5 v6 v7 v8 v9 : Value) (Q : zQ), (knd (A.sl s).n (A.sl s).t (A.sl s).iv b = 2 → Go d i_X11_quotient 56 [.ref a, .int (nI s), .int (nI b), .ref w, .ref (z_rv S w 0), v5, v6, v7, v8, v9] [] S I J Q) → (¬ knd (A.sl s).n (A.sl s).t (A.sl s).iv b = 2 → Go d i_X11_quotient 53 [.ref a, .int (nI s), .int (nI b), .ref w, .ref (z_rv S w 0), v5, v6, v7, v8, v9] [] S I J Q) → Go d i_X11_quotient 35 [.ref a, .int (nI s), .int (nI b), .ref w, .ref (z_rv S w 0), v5, v6, v7, v8, v9] [] S I J Q := fun v5 v6 v7 v8 v9 Q q1 q2 => by
        refine b_X11_quotient_35 g4.1.1 ⟨_, _, _, _, c_isClosed (by omega) g4.1 hb, b_X11_quotient_41 (fun z => q2 ?_) (fun z => b_X11_quotient_44 g4.1.1 ⟨_, _, _, _, c_isOfWholeClasses (by omega) g4.1 hg g4.2.2.2.1 hb, b_X11_quotient_50 (fun z2 => q1 ?_) (fun z2 => q2 ?_)⟩)⟩
        · have z := zb_0.mp z
          unfold knd
          rw [if_neg z]; decide
        · have z := zb_1.mp z
          have z2 := zb_1.mp z2
          unfold knd
          rw [if_pos z, if_pos z2]
        · have z := zb_1.mp z
          have z2 := zb_0.mp z2
          unfold knd
          rw [if_pos z, if_neg z2]; decide
      rcases Classical.em (knd (A.sl s).n (A.sl s).t (A.sl s).iv b = 2) with c3 | c3
      · have cq : qOk A (nI s) (nI b) := ⟨cc, by rw [ix_nI (by omega)]; exact cc2, by rw [ix_nI (by omega), ix_nI hb31]; exact c3⟩
        have e' : wQuot A (nI s) (nI b) = _ := zq_t cq
        rw [zq_t c3, e', ix_nI (by omega), ix_nI hb31]
        have hN := knd_2 hg c3
        have hqo := quo_ok (hA.1 s hs) hN
        have hqg := q_grp hg hN
        have hqn := hqg.le
        obtain ⟨γ, h⟩ := h
        have h : CWg S I J a A γ := h
        obtain ⟨S1, I1, p1, p2, p3, p4, p5, p6, p7⟩ := h.keep (d := d) (by omega) hf hA hs g2
        have hf1 := p1.mo.2.2 hf
        have cs : CSl S1 I1 J a w γ (A.sl s) := p2.slot hs g2
        have r0 := p4 w (by omega)
        obtain ⟨e1, e2, e3, e4⟩ := cs.eqs
        have hG1 := p2.2.1 _ cs.1
        have hgo1 := cs.2.2.1.2.2.1
        rw [r0] at hG1 hgo1 e1 e2 e3 e4
        have gle : z_rv S w 0 ≤ z_sz S1 := by rw [← r0]; exact cs.1.2.1
        obtain ⟨S2, E2, f2, s2, ce2, sl2, o2, ku, kv⟩ := z_two S1 hf1
        obtain ⟨I2, F2⟩ : ∃ I2, I2 = z_ur (z_ur I1 (z_sz S1 + 1) (fun _ => 0)) (z_sz S1 + 2) (fun _ => (0 : Int32)) := ⟨_, rfl⟩
        have i2 : ∀ y, y ≤ z_sz S1 → I2 y = I1 y := fun y hy => by rw [F2, z_ur_row (by omega), z_ur_row (by omega)]
        have hX12 : SH a S1 S2 := ⟨by omega, fun y hy => (o2 y hy).1, fun y k hy _ => by rw [(o2 y hy).2]⟩
        have gk2 : z_kd S2 (z_rv S w 0) = 2 := by rw [(o2 _ gle).1.1]; exact hgo1.1.1
        have r2g := (o2 _ gle).2
        have tle : z_rv S1 (z_rv S w 0) 1 ≤ z_sz S1 := hf1.le hgo1.1.2.2.2.1 (by decide)
        have hgo2 : GO S2 I2 a (z_rv S w 0) (A.sl s).n (A.sl s).t (A.sl s).iv := GO.mv (x := A.sl s) hgo1 hf1 hX12 (by rw [i2 _ gle]) (fun y hy _ _ => i2 y hy)
        obtain ⟨I3, n1, n2, n3, n4⟩ := c_numberCosets (d := d) (J := J) (by omega) hgo2.1 hg hN ku kv (by omega) (by omega) (by rw [r2g]; omega)
        have i3 : ∀ y, y ≤ z_sz S1 → I3 y = I1 y := fun y hy => by rw [n2 y (by omega) (by omega), i2 y hy]
        have hG2 : GC S2 I3 a (z_rv S w 0) (γ (z_rv S w 0)) := hG1.st hf1 hX12 (i3 _ gle) (fun y hy _ _ => i3 y hy) (by rw [r2g])
        have hgo3 : GO S2 I3 a (z_rv S w 0) (A.sl s).n (A.sl s).t (A.sl s).iv := by
          have := hG2.1
          rw [e1, e2, e3] at this; exact this
        have hnm3 : CNm S2 I3 (z_rv S w 0) (A.sl s).n (A.sl s).nm := by
          have := hG2.2.1
          rw [e1, e4] at this; exact this
        obtain ⟨S4, I4, m1, m2, m3, m4, m5, m6, m7, m8, m9, m10, m11, m12, m13, m14, m15, m16, m17, m18⟩ := c_dividedBy (d := d) (J := J) (by omega) hgo3.1 hg hN hnm3 ku kv n3 n4 (by omega) (f2.le hgo3.1.2.2.2.1 (by decide)) (f2.le hnm3.2.2.1.1 (by decide)) (by omega) (by omega)
        have f4 := m1.mo.2.2 f2
        obtain ⟨X, EX⟩ : ∃ X, X = quo (A.sl s) b := ⟨_, rfl⟩
        obtain ⟨γ', Eγ⟩ : ∃ γ' : Nat → Slt, γ' = fun y => if y = z_sz S2 + 3 then X else γ y := ⟨_, rfl⟩
        have gn : γ' (z_sz S2 + 3) = X := by rw [Eγ]; exact if_pos rfl
        have go' : ∀ y, y ≤ z_sz S1 → γ' y = γ y := fun y hy => by rw [Eγ]; exact if_neg (by omega)
        have hX14 : SH a S1 S4 := ⟨by omega, fun y hy => by
          have q1 := m5.2.1 y (by omega)
          have q2 := (o2 y hy).1
          exact ⟨by rw [q1.1, q2.1], by rw [q1.2, q2.2]⟩, fun y k hy _ => by rw [(m5.2.2 y (by omega) (fun z => z)).1, (o2 y hy).2]⟩
        have hr4 : ∀ y, y ≤ z_sz S1 → z_rv S4 y = z_rv S1 y := fun y hy => by rw [(m5.2.2 y (by omega) (fun z => z)).1, (o2 y hy).2]
        have hI4 : ∀ y, y ≤ z_sz S1 → I4 y = I1 y := fun y hy => by rw [(m5.2.2 y (by omega) (fun z => z)).2, i3 y hy]
        have hzs : a + 88 ≤ z_sz S1 := by omega
        have hdy : ∀ y, z_sz S1 < y → Dyn a y := fun y hy => by unfold Dyn; omega
        have hgoX : GO S4 I4 a (z_sz S2 + 3) X.n X.t X.iv := by
          rw [EX]
          refine ⟨m6, m7, m8, m9, m10, hqg, hdy _ (by omega), fun k k1 k2 => ?_⟩
          by_cases ek : k = 1
          · rw [ek, m11]; exact hdy _ (by omega)
          · rw [m12 k (by omega) k2]; exact hdy _ (by omega)
        obtain ⟨z1, z2, ⟨z3, z4, z5, z6⟩, z7, z8, z9⟩ := hnm3
        obtain ⟨⟨y6, y7, yt, yf⟩, _, _⟩ := hG2.2.2
        rw [e4] at yt yf
        have le6 : z_rv S2 (z_rv S w 0) 6 ≤ z_sz S2 := f2.le z2 (by decide)
        have x6 := m5.2.2 _ le6 (fun z => z)
        have kpt : ∀ {y : Nat}, z_isI (z_kd S2 y) = true → Kpt S2 a y → Kpt S4 a y ∧ z_kd S4 y = z_kd S2 y ∧ z_ln S4 y = z_ln S2 y ∧ I4 y = I3 y := fun {y} q1 q2 => by
          have hl := f2.isI q1
          have q3 := m5.2.1 y hl
          refine ⟨?_, q3.1, q3.2, (m5.2.2 y hl (fun z => z)).2⟩
          rcases q2 with q2 | q2
          · exact Or.inl q2
          · right; rw [q3.1]; exact q2
        have hnmX : CNm S4 I4 (z_sz S2 + 3) X.n X.nm := by
          rw [EX]
          unfold CNm
          rw [m13, m14, x6.1, x6.2]
          refine ⟨hqo.2.2.2, by rw [(m5.2.1 _ le6).1]; exact z2, ⟨m18.1, by rw [m18.2.1]; exact Nat.le_refl _, by rw [m18.2.1]; omega, m18.2.2⟩, m15, fun q => ?_, fun q => ?_⟩
          · have q : (A.sl s).nm.ki = true := q
            obtain ⟨v1, v2, v3, v4, v5⟩ := z8 q
            obtain ⟨_, w1, w2, w3⟩ := kpt v2 (yt q)
            refine ⟨v1, by rw [w1]; exact v2, by rw [w2]; exact v3, v4, fun i hi => ?_⟩
            rw [w2, w3]
            exact v5 _ (lea_spec hi).1
          · have q : (A.sl s).nm.ki = false := q
            obtain ⟨v1, v2, v3, v4⟩ := z9 q
            obtain ⟨_, w1, w2, w3⟩ := kpt v2 (yf q)
            refine ⟨v1, by rw [w1]; exact v2, by rw [w2]; exact v3, fun i hi => ?_⟩
            rw [w3]; exact v4 i hi
        have hGX : GC S4 I4 a (z_sz S2 + 3) X := by
          refine ⟨hgoX, hnmX, ?_, Or.inl m16, Or.inl m17⟩
          rw [m13, m14, x6.1]
          refine ⟨y6, hdy _ (by omega), fun q => ?_, fun q => ?_⟩
          · rw [EX] at q
            exact (kpt (z8 q).2.1 (yt q)).1
          · rw [EX] at q
            exact (kpt (z9 q).2.1 (yf q)).1
        have hcw : CWg S4 I4 (z_ur J (z_sz S2 + 3) (fun _ => 0)) a (A.keep s) γ' := by
          refine p2.ext hf1 hzs hX14 hr4 hI4 (fun y hy => by rw [z_ur_row (by omega)]) (fun y hy hG => ?_) go'
          have hy2 := hG.2.1
          have hy3 := hG.2.2
          have kk : y = z_sz S2 + 3 := by
            rcases (show y = z_sz S1 + 1 ∨ y = z_sz S1 + 2 ∨ y = z_sz S2 + 1 ∨ y = z_sz S2 + 2 ∨ y = z_sz S2 + 3 ∨ y = z_sz S2 + 2 + 2 ∨ y = z_sz S2 + 2 + 3 ∨ y = z_sz S2 + 2 + 4 ∨ y = z_sz S2 + 2 + 5 by omega) with q | q | q | q | q | q | q | q | q
            · rw [q, (m5.2.1 _ (by omega)).1, ku.1] at hy3; cases hy3
            · rw [q, (m5.2.1 _ (by omega)).1, kv.1] at hy3; cases hy3
            · have := m6.2.2.2.1
              rw [m11, ← q, hy3] at this; cases this
            · have := m18.1
              rw [← q, hy3] at this; cases this
            · exact q
            · have := m7.1
              rw [m12 2 (by decide) (by decide), ← q, hy3] at this; cases this
            · have := m8.1
              rw [m12 3 (by decide) (by decide), ← q, hy3] at this; cases this
            · have := m9.1
              rw [m12 4 (by decide) (by decide), ← q, hy3] at this; cases this
            · have := m10.1
              rw [m12 5 (by decide) (by decide), ← q, hy3] at this; cases this
          rw [kk, gn]
          exact hGX
        have hIsG : IsG S4 a (z_sz S2 + 3) := ⟨hdy _ (by omega), by omega, m6.1⟩
        have hst : quS (A.sl s) b < 2 ^ (γ' (z_sz S2 + 3)).n := by rw [gn, EX]; exact hqo.2.1
        have hst0 : (quS (A.sl s) b).testBit 0 = false := hqo.2.2.1
        obtain ⟨S5, I5, J5, v1, v2, v3, v4, _⟩ := hcw.become (d := d) (by omega) f4 hs g2 hIsG hst hst0
        have eX : (γ' (z_sz S2 + 3)).to (quS (A.sl s) b) = quo (A.sl s) b := by rw [gn, EX]; rfl
        rw [eX] at v2
        have h44 := h.1.2.2.2.2.2.1
        have k1w : z_kd S1 w = 9 := cs.2.2.1.2.1.1
        have k2w : z_kd S2 w = 9 := by rw [(o2 w (by omega)).1.1]; exact k1w
        have k4a : z_kd S4 a = 12 := hcw.1.1
        have wst : I3 w 1 = nI (A.sl s).st := by rw [i3 w (by omega)]; exact cs.2.2.1.2.2.2.1
        have hqs := quS_eq (x := A.sl s) hg hN
        have stb := cs.2.2.1.2.2.2.2.1
        refine ⟨S5, I5, J5, head S5 I5 J5 _ (fun v5 v6 v7 v8 v9 _ => mid v5 v6 v7 v8 v9 _ (fun _ => ?_) (fun q => absurd c3 q)) (fun _ _ _ _ _ q => absurd cc2 q), ⟨γ', v2⟩, FR.trans (S' := S1) (I' := I1) (J' := J) (fun y hy => ⟨p4 y (by omega), p3 y (by omega), rfl⟩) (FR.trans (S' := S4) (I' := I4) (J' := z_ur J (z_sz S2 + 3) (fun _ => 0)) (fun y hy => ⟨hr4 y (by omega), hI4 y (by omega), by rw [z_ur_row (by omega)]⟩) v3), ?_⟩
        · refine b_X11_quotient_56 hk (by rw [h44.1]; exact h44.2.1) ?_
          rw [h44.1]
          refine ⟨_, _, _, _, p1, b_X11_quotient_65 (by decide) (by omega) (by decide) E2 F2 (by omega) gk2 ?_⟩
          refine ⟨_, _, _, _, n1, b_X11_quotient_87 (c_qloop hgo3.1 k2w wst stb ku n3 (fun y hy => by have := csn_lt hg hN hy; omega) (fun x9 => b_X11_quotient_135 gk2 ⟨_, _, _, _, m1, b_X11_quotient_148 k4a ?_⟩))⟩
          rw [hqs]
          exact ⟨_, _, _, _, v1, b_X11_quotient_156 ⟨rfl, rfl, rfl, rfl⟩⟩
        · have q1 := p5.1
          have q2 := p5.2
          have q3 := v4.1
          have q4 := v4.2
          have hm : qn (A.sl s).n (A.sl s).t (A.sl s).iv b * qn (A.sl s).n (A.sl s).t (A.sl s).iv b ≤ 20 * 20 := Nat.mul_le_mul hqn hqn
          exact ⟨by omega, by omega⟩
      · have cq : ¬ qOk A (nI s) (nI b) := fun q => c3 (by
          have := q.2.2
          rw [ix_nI (by omega), ix_nI hb31] at this
          exact this)
        have e' : wQuot A (nI s) (nI b) = _ := zq_f cq
        rw [zq_f c3, e']
        exact ⟨S, I, J, head S I J _ (fun v5 v6 v7 v8 v9 _ => mid v5 v6 v7 v8 v9 _ (fun q => absurd q c3) (fun _ => b_X11_quotient_53 ⟨rfl, rfl, rfl, rfl⟩)) (fun _ _ _ _ _ q => absurd cc2 q), h, FR.refl, Cst.refl⟩
    · have cq : ¬ qOk A (nI s) x2 := fun q => c2 (by
        have := q.2.1
        rw [ix_nI (by omega)] at this
        exact this)
      have e' : wQuot A (nI s) x2 = _ := zq_f cq
      rw [zq_f c2, e']
      exact ⟨S, I, J, head S I J _ (fun _ _ _ _ _ q => absurd q c2) (fun _ _ _ _ _ _ => b_X11_quotient_32 ⟨rfl, rfl, rfl, rfl⟩), h, FR.refl, Cst.refl⟩
  · have e : aQuot A x1 x2 = _ := zq_f c
    have e' : wQuot A x1 x2 = _ := zq_f (fun q => c q.1)
    rw [e, e']
    exact ⟨S, I, J, e_X11_quotient (b_X11_quotient_0 ⟨_, _, _, _, c_isSlot x1 (by omega), b_X11_quotient_4 (fun z => absurd (zb_1.mp z) c) (fun _ => b_X11_quotient_7 ⟨rfl, rfl, rfl, rfl⟩)⟩), h, FR.refl, Cst.refl⟩
end C48

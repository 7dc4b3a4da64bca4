/-! THE CLASS: step, both, undo -/
section C46
variable {d a g w n s st : Nat} {A : Wst} {x : Slt} {γ γ' : Nat → Slt} {S S' S2 : zS} {I I' I2 : zI} {J J' J2 : zJ}
/-- an act by hand: it is kept, and the slot has other steps -/
theorem CW.act (hd : 2 < d) (h : CW S I J a A) (hf : SF S) (hA : WOk A) (hs : s < 2) (hw : w = a + 20 + 12 * s) (hst : st < 2 ^ (A.sl s).n) (h0 : st.testBit 0 = false) : ∃ S1 I1, z_ev d i_X4_keep [.ref (a + 44), .int (nI s), .ref w] S I J none S1 I1 J ∧ CW S1 I1 J a (A.keep s) ∧ (z_rv S1 w = z_rv S w ∧ z_kd S1 w = 9 ∧ I1 w = I w ∧ z_kd S1 a = 12) ∧ ∃ S2 I2 J2, z_ev d i_X11_become [.ref a, .int (nI s), .ref (z_rv S1 w 0), .int (nI st)] S1 I1 J none S2 I2 J2 ∧ CW S2 I2 J2 a ((A.keep s).put s ((A.sl s).to st)) ∧ FR a S I J S2 I2 J2 ∧ Cst 0 0 S S2 ∧ I2 w 1 = nI st ∧ z_kd S2 w = 9 := by
  obtain ⟨γ, h⟩ := h
  have h : CWg S I J a A γ := h
  obtain ⟨S1, I1, p1, p2, p3, p4, p5, p6, p7⟩ := h.keep (d := d) (by omega) hf hA hs hw
  have hf1 := p1.mo.2.2 hf
  have cs := p2.slot hs hw
  have cs : CSl S1 I1 J a w γ (A.sl s) := cs
  obtain ⟨e1, e2, e3, e4⟩ := cs.eqs
  obtain ⟨S2, I2, J2, q1, q2, q3, q4, q5, q6, _, _⟩ := p2.become (d := d) (by omega) hf1 hs hw cs.1 (by rw [e1]; exact hst) h0
  have et : (γ (z_rv S1 w 0)).to st = (A.sl s).to st := by unfold Slt.to; rw [e1, e2, e3, e4]
  rw [et] at q2
  have h0' : Cst 0 0 S S2 := p5.trans q4
  exact ⟨S1, I1, p1, ⟨γ, p2⟩, ⟨p4 w (by omega), cs.2.2.1.2.1.1, p3 w (by omega), p2.1.1⟩, S2, I2, J2, q1, ⟨γ, q2⟩, FR.trans (fun y hy => ⟨p4 y (by omega), p3 y (by omega), rfl⟩) q3, h0', q5, q6⟩
theorem c_step (x1 x2 : Int32) (hd : 3 < d) (h : CW S I J a A) (hf : SF S) (hA : WOk A) : ∃ S' I' J', z_ev d i_X11_step [.ref a, .int x1, .int x2] S I J (some (.int (aStep A x1 x2))) S' I' J' ∧ CW S' I' J' a (wStep A x1 x2) ∧ FR a S I J S' I' J' ∧ Cst 0 0 S S' := by
  obtain ⟨d, rfl⟩ := z_dep (d := d) (by omega)
  have hok := wStep_ok (x1 := x1) (x2 := x2) hA
  have hk := h.k
  have hel := c_isElement (d := d) x1 x2 (by omega) h
  rcases Classical.em ((El 2 x1 ∧ El (A.sl (ix x1)).n x2) ∧ x2 ≠ 0) with c | c
  · have e : aStep A x1 x2 = _ := zq_t c
    have e' : wStep A x1 x2 = _ := zq_t c
    rw [e'] at hok
    rw [e, e']
    have cc := c
    obtain ⟨⟨⟨s, hs, rfl⟩, c3⟩, c4⟩ := c
    rw [ix_nI (by omega)] at c3 hok ⊢
    obtain ⟨x, hx, rfl⟩ := c3
    obtain ⟨w, g1, g2, g3, g4, _, g6⟩ := h.net hs
    have hn := g4.2.2.2.2.2.1.le
    rw [ix_nI (by omega)] at hok ⊢
    obtain ⟨t1, t2, t3⟩ := h.st hs
    rw [← g2] at t1
    have ho : SlOk ((A.sl s).to ((A.sl s).st ^^^ 2 ^ x)) := by
      have := hok.1 s hs
      have e : (((A.keep s).put s ((A.sl s).to ((A.sl s).st ^^^ 2 ^ x))).sl s) = (A.sl s).to ((A.sl s).st ^^^ 2 ^ x) := if_pos rfl
      rw [e] at this
      exact this
    have ho2 : (A.sl s).st ^^^ 2 ^ x < 2 ^ (A.sl s).n := ho.2.1
    have ho3 : ((A.sl s).st ^^^ 2 ^ x).testBit 0 = false := ho.2.2.1
    obtain ⟨S1, I1, p1, p2, ⟨p3, p4, p5, p6⟩, S2, I2, J2, q1, q2, q3, q4, q5, q6⟩ := h.act (d := d) (by omega) hf hA hs g2 ho2 ho3
    have h44 : z_rv S a 6 = a + 44 ∧ z_kd S (a + 44) = 5 := by
      obtain ⟨γ, h⟩ := h
      exact ⟨h.1.2.2.2.2.2.1.1, h.1.2.2.2.2.2.1.2.1⟩
    have h24 := z_lt24 hn ho2
    refine ⟨S2, I2, J2, e_X11_step (b_X11_step_0 hk ⟨_, _, _, _, hel, b_X11_step_6 (fun z => absurd cc.1 (zb_0.mp z)) (fun _ => b_X11_step_9 (fun _ => b_X11_step_16 hk g6 (by rw [g1]; omega) hk (by rw [h44.1]; exact h44.2) ?_) (fun z => absurd z c4))⟩), q2, q3, q4⟩
    rw [g1, h44.1]
    refine ⟨_, _, _, _, p1, b_X11_step_32 p4 p4 p6 ?_⟩
    rw [p5, t1, z_shl1 (by omega), z_xor]
    refine ⟨_, _, _, _, q1, b_X11_step_49 q6 ⟨z_someI ?_, rfl, rfl, rfl⟩⟩
    rw [q5, z_bit (by omega) (by omega)]
  · have e : aStep A x1 x2 = _ := zq_f c
    have e' : wStep A x1 x2 = _ := zq_f c
    rw [e, e']
    refine ⟨S, I, J, e_X11_step (b_X11_step_0 hk ⟨_, _, _, _, hel, b_X11_step_6 (fun _ => b_X11_step_13 ⟨rfl, rfl, rfl, rfl⟩) (fun z => b_X11_step_9 (fun z2 => absurd ⟨zb_1.mp z, z2⟩ c) (fun _ => b_X11_step_13 ⟨rfl, rfl, rfl, rfl⟩))⟩), h, FR.refl, Cst.refl⟩
theorem c_both (x1 : Int32) (hd : 3 < d) (h : CW S I J a A) (hf : SF S) (hA : WOk A) : ∃ S' I' J', z_ev d i_X11_both [.ref a, .int x1] S I J (some (.int (aBoth A x1))) S' I' J' ∧ CW S' I' J' a (wBoth A x1) ∧ FR a S I J S' I' J' ∧ Cst 0 0 S S' := by
  obtain ⟨d, rfl⟩ := z_dep (d := d) (by omega)
  have hok := wBoth_ok (x1 := x1) hA
  have hk := h.k
  rcases Classical.em (El 2 x1) with c | c
  · have e : aBoth A x1 = _ := zq_t c
    have e' : wBoth A x1 = _ := zq_t c
    rw [e'] at hok
    rw [e, e']
    have cc := c
    obtain ⟨s, hs, rfl⟩ := c
    rw [ix_nI (by omega)] at hok ⊢
    obtain ⟨w, g1, g2, g3, g4, _, g6⟩ := h.net hs
    have hn := g4.2.2.2.2.2.1.le
    obtain ⟨t1, t2, t3⟩ := h.st hs
    rw [← g2] at t1
    have ho : SlOk ((A.sl s).to (bth (A.sl s))) := by
      have := hok.1 s hs
      have e : (((A.keep s).put s ((A.sl s).to (bth (A.sl s)))).sl s) = (A.sl s).to (bth (A.sl s)) := if_pos rfl
      rw [e] at this
      exact this
    have ho2 : bth (A.sl s) < 2 ^ (A.sl s).n := ho.2.1
    have ho3 : (bth (A.sl s)).testBit 0 = false := ho.2.2.1
    obtain ⟨S1, I1, p1, p2, ⟨p3, p4, p5, p6⟩, S2, I2, J2, q1, q2, q3, q4, q5, q6⟩ := h.act (d := d) (by omega) hf hA hs g2 ho2 ho3
    have h44 : z_rv S a 6 = a + 44 ∧ z_kd S (a + 44) = 5 := by
      obtain ⟨γ, h⟩ := h
      exact ⟨h.1.2.2.2.2.2.1.1, h.1.2.2.2.2.2.1.2.1⟩
    obtain ⟨w', k1, k2, k3, k4, _, k6⟩ := p2.net hs
    rw [← g2] at k2
    subst k2
    have k4 : GO S1 I1 a (z_rv S1 w' 0) (A.sl s).n (A.sl s).t (A.sl s).iv := k4
    have hwi := c_withInverses (d := d) (J := J) (by omega) k4.1 k4.2.2.2.2.2.1 k4.2.1 t2
    refine ⟨S2, I2, J2, e_X11_both (b_X11_both_0 ⟨_, _, _, _, c_isSlot (nI s) (by omega), b_X11_both_4 (fun _ => b_X11_both_10 hk g6 (by rw [g1]; omega) hk (by rw [h44.1]; exact h44.2) ?_) (fun z => absurd cc (zb_0.mp z))⟩), q2, q3, q4⟩
    rw [g1, h44.1]
    refine ⟨_, _, _, _, p1, b_X11_both_26 p4 p4 p4 k4.1.1 ?_⟩
    rw [p5, t1]
    refine ⟨_, _, _, _, hwi, b_X11_both_43 p6 ⟨_, _, _, _, q1, b_X11_both_46 q6 ?_⟩⟩
    rw [q5]
    refine ⟨_, _, _, _, ev_bitCount (by omega) (z_lt24 hn ho2), b_X11_both_53 ⟨z_someI ?_, rfl, rfl, rfl⟩⟩
    rw [zc24 hn ho2]
  · have e : aBoth A x1 = _ := zq_f c
    have e' : wBoth A x1 = _ := zq_f c
    rw [e, e']
    exact ⟨S, I, J, e_X11_both (b_X11_both_0 ⟨_, _, _, _, c_isSlot x1 (by omega), b_X11_both_4 (fun z => absurd (zb_1.mp z) c) (fun _ => b_X11_both_7 ⟨rfl, rfl, rfl, rfl⟩)⟩), h, FR.refl, Cst.refl⟩
theorem c_undo (hd : 3 < d) (h : CW S I J a A) (hf : SF S) (hA : WOk A) : ∃ S' I' J', z_ev d i_X11_undo [.ref a] S I J (some (.int (aUndo A))) S' I' J' ∧ CW S' I' J' a (wUndo A) ∧ FR a S I J S' I' J' ∧ Cst 0 0 S S' := by
  obtain ⟨d, rfl⟩ := z_dep (d := d) (by omega)
  have hk := h.k
  have h' := h
  obtain ⟨γ, h⟩ := h
  have h : CWg S I J a A γ := h
  obtain ⟨nx, n1, n2, n3, n4⟩ := h.2.2.2.2.1
  have hkp := hA.2.1
  have hH := h.1.2.2.2.2.2.1
  unfold aUndo wUndo
  by_cases c : A.kp = 0
  · rw [if_pos c, if_pos c]
    refine ⟨S, I, J, e_X11_undo (b_X11_undo_0 hk (by rw [hH.1]; exact hH.2.1) (fun z => absurd ?_ z) (fun _ => b_X11_undo_10 ⟨rfl, rfl, rfl, rfl⟩)), h', FR.refl, Cst.refl⟩
    rw [hH.1, n3, c]; rfl
  · rw [if_neg c, if_neg c]
    obtain ⟨kp, ek⟩ : ∃ kp, A.kp = kp + 1 := ⟨A.kp - 1, by omega⟩
    obtain ⟨m1, m2, m3, m4⟩ := n4 kp (by omega)
    have ei : (nx + 8 - A.kp + kp) % 8 = (nx + 7) % 8 := by omega
    rw [ei] at m1 m2 m3 m4
    obtain ⟨o1, o2⟩ := hA.2.2.1 kp (by omega)
    obtain ⟨I1, p1, p2, p3, p4⟩ := c_stepBack (d := d) (J := J) (by omega) hH.2 n2 n1 (by rw [n3, ek]) (by omega)
    have hlt : (nx + 7) % 8 < 8 := Nat.mod_lt _ (by decide)
    have u1 := c_hgroup (d := d) (J := J) (by omega) hH.2 p3 hlt
    have u2 := c_hslot (d := d) (J := J) (by omega) hH.2 p3 hlt
    have u3 := c_hsteps (d := d) (J := J) (by omega) hH.2 p3 hlt
    rw [show a + 44 + 2 = a + 46 from rfl] at u1
    rw [show a + 44 + 1 = a + 45 from rfl, p2 (a + 45) (by omega), m1] at u2
    rw [show a + 44 + 3 = a + 47 from rfl, p2 (a + 47) (by omega), m4] at u3
    have go := m2.1.out
    -- the state behind stepBack
    obtain ⟨A1, E1⟩ : ∃ A1 : Wst, A1 = (A.sl, kp, A.hi, A.tl, A.tp, A.fa, A.pl) := ⟨_, rfl⟩
    have hA1 : CWg S I1 J a A1 γ := by
      have ot : ∀ s', s' < 2 → CSl S I1 J a (a + 20 + 12 * s') γ (A.sl s') := fun s' hs' => by
        have c2 := h.slot hs' rfl
        exact c2.fr (fun y q1 q2 => p2 y (by omega)) (fun y hy => p2 y (by have := hy.out; omega))
      obtain ⟨hL, hg, c0, c1, cH, ⟨ht, hp⟩, ⟨f1, f2⟩, hK⟩ := h
      have ea : I1 a = I a := p2 a (by omega)
      rw [E1]
      refine ⟨hL, fun y hy => (hg y hy).fr (fun u hu => p2 u (by have := hu.out hL; omega)), ot 0 (by decide), ot 1 (by decide), ⟨(nx + 7) % 8, hlt, p3, p4, fun k hk => ?_⟩, ⟨by rw [ea]; exact ht, by rw [p2 (a + 1) (by omega)]; exact hp⟩, ⟨by rw [ea]; exact f1, by rw [ea]; exact f2⟩, CKn.fr (A := A) hK (by rw [ea]; exact ⟨rfl, rfl, rfl, rfl⟩) (p2 _ (by omega)) (p2 _ (by omega))⟩
      have hk : k < kp := hk
      have := n4 k (by omega)
      rw [show (nx + 8 - A.kp + k) % 8 = ((nx + 7) % 8 + 8 - kp + k) % 8 by omega] at this
      rw [p2 (a + 45) (by omega), p2 (a + 47) (by omega)]
      exact this
    have e1 : (γ (z_rv S (a + 46) ((nx + 7) % 8))).n = (A.hi kp).2.n := by rw [m3]; rfl
    obtain ⟨S2, I2, J2, q1, q2, q3, q4, q5, q6, q7, q8⟩ := hA1.become (d := d) (by omega) hf o1 rfl m2 (by rw [e1]; exact o2.2.1) o2.2.2.1
    have k2 : z_kd S2 a = 12 := q2.1.1
    have eA : A1.put (A.hi kp).1 ((γ (z_rv S (a + 46) ((nx + 7) % 8))).to (A.hi kp).2.st) = A.back := by
      rw [← m3, E1]
      unfold Wst.back
      rw [ek]
      rfl
    rw [eA] at q2
    have hH2 := q2.1.2.2.2.2.2.1
    refine ⟨S2, I2, J2, e_X11_undo (b_X11_undo_0 hk (by rw [hH.1]; exact hH.2.1) (fun _ => b_X11_undo_13 hk (by rw [hH.1]; exact hH.2.1) ?_) (fun z => absurd z ?_)), ⟨γ, q2⟩, FR.trans (fun y hy => ⟨rfl, p2 y (by omega), rfl⟩) q3, q4⟩
    · rw [hH.1]
      refine ⟨_, _, _, _, p1, b_X11_undo_20 hk (by rw [hH.1]; exact hH.2.1) ?_⟩
      rw [hH.1]
      refine ⟨_, _, _, _, u1, b_X11_undo_27 (by omega) (fun z => absurd z (by omega)) (fun _ => b_X11_undo_32 hk (by rw [hH.1]; exact hH.2.1) ?_)⟩
      rw [hH.1]
      refine ⟨_, _, _, _, u2, b_X11_undo_40 hk (by rw [hH.1]; exact hH.2.1) ?_⟩
      rw [hH.1]
      refine ⟨_, _, _, _, u3, b_X11_undo_48 hk ⟨_, _, _, _, q1, b_X11_undo_51 k2 (by rw [hH2.1]; exact hH2.2.1) ⟨z_someI ?_, rfl, rfl, rfl⟩⟩⟩
      rw [hH2.1, q7 (a + 44) (by omega) (by have := o1; omega), p4, ek]
      rfl
    · rw [hH.1, n3]
      exact nI_ne0 (by omega) (by omega)
end C46

/-! THE MODEL: step, both, undo, feed -/
noncomputable def wStep (A : Wst) (x1 x2 : Int32) : Wst := zq ((El 2 x1 ∧ El (A.sl (ix x1)).n x2) ∧ x2 ≠ 0) ((A.keep (ix x1)).put (ix x1) ((A.sl (ix x1)).to ((A.sl (ix x1)).st ^^^ 2 ^ ix x2))) A
noncomputable def aStep (A : Wst) (x1 x2 : Int32) : Int32 := zq ((El 2 x1 ∧ El (A.sl (ix x1)).n x2) ∧ x2 ≠ 0) (nI (((A.sl (ix x1)).st ^^^ 2 ^ ix x2).testBit (ix x2)).toNat) (-2)
/-- steps with their inverses -/
def bth (x : Slt) : Nat := x.st ||| zim (fun i => x.st.testBit i) x.iv x.n
noncomputable def wBoth (A : Wst) (x1 : Int32) : Wst := zq (El 2 x1) ((A.keep (ix x1)).put (ix x1) ((A.sl (ix x1)).to (bth (A.sl (ix x1))))) A
noncomputable def aBoth (A : Wst) (x1 : Int32) : Int32 := zq (El 2 x1) (nI (zc (A.sl (ix x1)).n (bth (A.sl (ix x1))))) (-2)
def Wst.back (A : Wst) : Wst := ((fun i => if i = (A.hi (A.kp - 1)).1 then (A.hi (A.kp - 1)).2 else A.sl i), A.kp - 1, A.hi, A.tl, A.tp, A.fa, A.pl)
def wUndo (A : Wst) : Wst := if A.kp = 0 then A else A.back
def aUndo (A : Wst) : Int32 := if A.kp = 0 then -5 else nI (A.kp - 1)
section M22
variable {d m s : Nat} {A : Wst} {x : Slt} {S : zS} {I I0 I1 I' : zI} {J : zJ}
theorem WOk.put (hA : WOk A) (hx : SlOk x) : WOk (A.put s x) := by
  refine ⟨fun i hi => ?_, hA.2.1, hA.2.2.1, hA.2.2.2⟩
  show SlOk (if i = s then x else A.sl i)
  by_cases e : i = s
  · rw [if_pos e]; exact hx
  · rw [if_neg e]; exact hA.1 i hi
theorem SlOk.to {st : Nat} (h : SlOk x) (h1 : st < 2 ^ x.n) (h2 : st.testBit 0 = false) : SlOk (x.to st) := ⟨h.1, h1, h2, h.2.2.2⟩
theorem MW.put {st : Nat} (h : MW S I m A) (hA : WOk A) (hs : s < 2) : MW S (z_u2 I (m + 1) (665 * s + 1) (nI st)) m (A.put s ((A.sl s).to st)) := by
  obtain ⟨h1, h2, h3, h4, h5, h6, h7, h8⟩ := h
  unfold MW
  rw [z_u2_row (show m ≠ m + 1 by omega), z_u2_row (show m + 7 ≠ m + 1 by omega), z_u2_row (show m + 2 ≠ m + 1 by omega)]
  refine ⟨h1, fun i hi => ?_, h3, h4, h5, h6, h7, h8⟩
  show MSl _ (if i = s then (A.sl s).to st else A.sl i)
  by_cases e : i = s
  · rw [if_pos e, e]
    exact (h2 s hs).to (hA.1 s hs) z_u2_same (fun j hj hj1 => by rw [z_u2_nk (by omega)])
  · rw [if_neg e]
    exact (h2 i hi).cg (hA.1 i hi) (fun j hj => by rw [z_u2_nk (by omega)])
theorem wStep_ok {x1 x2 : Int32} (hA : WOk A) : WOk (wStep A x1 x2) := by
  rcases Classical.em ((El 2 x1 ∧ El (A.sl (ix x1)).n x2) ∧ x2 ≠ 0) with c | c
  · rw [wStep, zq_t c]
    obtain ⟨⟨⟨s, hs, rfl⟩, c2⟩, c3⟩ := c
    rw [ix_nI (by omega)] at c2 ⊢
    obtain ⟨x, hx, rfl⟩ := c2
    have hn := (hA.1 s hs).1.le
    rw [ix_nI (by omega)]
    refine (hA.keep hs).put ((hA.1 s hs).to (Nat.xor_lt_two_pow (hA.1 s hs).2.1 (z_pw hx)) ?_)
    rw [Nat.testBit_xor, (hA.1 s hs).2.2.1, z_tb_pow]
    have : x ≠ 0 := fun e => c3 (by rw [e]; rfl)
    simp only [Bool.false_xor]
    exact decide_eq_false (fun e => this e.symm)
  · rw [wStep, zq_f c]; exact hA
theorem m_step (x1 x2 : Int32) (hd : 3 < d) (h : MW S I0 m A) (hA : WOk A) : ∃ I', z_ev d i_X12_step [.ref m, .int x1, .int x2] S I0 J (some (.int (aStep A x1 x2))) S I' J ∧ MFr I0 I' m ∧ MW S I' m (wStep A x1 x2) := by
  obtain ⟨d, rfl⟩ := z_dep (d := d) (by omega)
  have hL := h.1
  have hk := hL.k
  have b0 := hL.a0
  have ha := h.mq mq_th
  refine aQ.ex (R := fun I' => MFr I0 I' m ∧ MW S I' m (wStep A x1 x2)) (w_X12_step (b_X12_step_0 hk hk ⟨_, _, _, _, m_isEl x1 x2 (by omega) (ha.ms hA) hA.gs, ?_⟩))
  have bad : ¬ ((El 2 x1 ∧ El (A.sl (ix x1)).n x2) ∧ x2 ≠ 0) → Go d i_X12_step 18 [.ref m, .int x1, .int x2] [] S (z_u2 I0 m 1 0) J (aQ S J (aStep A x1 x2) (fun I' => MFr I0 I' m ∧ MW S I' m (wStep A x1 x2))) := fun c => b_X12_step_18 ⟨z_someI (zq_f c).symm, rfl, rfl, mq_th.mf, by rw [wStep, zq_f c]; exact ha⟩
  refine b_X12_step_11 (fun c => bad (fun q => (zb_0.mp c) q.1)) (fun c => b_X12_step_14 (fun c3 => ?_) (fun c3 => bad (fun q => q.2 c3)))
  have c := zb_1.mp c
  have e1 : aStep A x1 x2 = _ := zq_t ⟨c, c3⟩
  have e2 : wStep A x1 x2 = _ := zq_t ⟨c, c3⟩
  obtain ⟨⟨s, hs, rfl⟩, c2⟩ := c
  have c2 : El (A.sl (ix (nI s))).n x2 := c2
  rw [ix_nI (by omega)] at c2 e1 e2
  obtain ⟨x, hx, rfl⟩ := c2
  have ho := hA.1 s hs
  have hn := ho.1.le
  have h20 : 2 ^ (A.sl s).n ≤ 2 ^ 20 := Nat.pow_le_pow_right (by decide) hn
  rw [ix_nI (by omega)] at e1 e2
  rw [e1, e2]
  obtain ⟨I1, q1, q2, q3⟩ := m_keeps (d := d) (J := J) (by omega) ha hA hs
  have hx2 := Nat.xor_lt_two_pow ho.2.1 (z_pw hx)
  refine b_X12_step_21 hk ⟨_, _, _, _, q1, ?_⟩
  have ea : ((665 : Int32) * nI s) + 1 = nI (665 * s + 1) := by rw [z_lit 665, pk_mul, nI_1]
  have es : I1 (m + 1) (665 * s + 1) = nI (A.sl s).st := (q3.2.1 s hs).2.1
  refine b_X12_step_26 hk (by rw [ea]; exact b0.rd (by omega) (by decide)) (by rw [ea]; exact b0.wr (by omega) (by decide)) rfl hk ?_
  rw [ea, b0.1, nI_clamp (by omega), es, z_shl1 (by omega), z_xor]
  have hp : MW S (z_u2 I1 (m + 1) (665 * s + 1) (nI ((A.sl s).st ^^^ 2 ^ x))) m ((A.keep s).put s ((A.sl s).to ((A.sl s).st ^^^ 2 ^ x))) := q3.put (hA.keep hs) hs
  have fr : MFr I0 (z_u2 I1 (m + 1) (665 * s + 1) (nI ((A.sl s).st ^^^ 2 ^ x))) m := (mq_th.mf.trans q2).w (by omega) (by omega)
  refine ⟨_, _, _, _, m_steps (by omega) hL.ma (by omega), ?_⟩
  rw [b0.1, z_u2_same]
  refine b_X12_step_49 ⟨_, _, _, _, m_has (by omega) (by omega) (by omega), ?_⟩
  cases hb : ((A.sl s).st ^^^ 2 ^ x).testBit x with
  | false => exact b_X12_step_53 (fun _ => b_X12_step_60 ⟨rfl, rfl, rfl, fr, hp⟩) (fun c => absurd rfl c)
  | true => exact b_X12_step_53 (fun c => absurd c (by decide)) (fun _ => b_X12_step_56 ⟨rfl, rfl, rfl, fr, hp⟩)
theorem bth_ok (h : SlOk x) : bth x < 2 ^ x.n ∧ (bth x).testBit 0 = false := by
  have hg := h.1
  have h2 := h.2.1
  have h0 := h.2.2.1
  have hz : ∀ b, (zim (fun i => x.st.testBit i) x.iv x.n).testBit b = true → ∃ i, i < x.n ∧ x.st.testBit i = true ∧ x.iv i = b := fun b hb => by
    rw [zim_bit] at hb; exact hb
  constructor
  · refine z_or_lt h2 (Nat.lt_pow_two_of_testBit _ (fun b hb => ?_))
    cases q : (zim (fun i => x.st.testBit i) x.iv x.n).testBit b with
    | false => rfl
    | true =>
      obtain ⟨i, hi, _, e⟩ := hz b q
      have := hg.il hi; omega
  · rw [bth, Nat.testBit_or, h0, Bool.false_or]
    cases q : (zim (fun i => x.st.testBit i) x.iv x.n).testBit 0 with
    | false => rfl
    | true =>
      obtain ⟨i, hi, e1, e⟩ := hz 0 q
      have : i = 0 := by rw [← hg.ii hi, e, hg.i0]
      rw [this, h0] at e1; cases e1
theorem wBoth_ok {x1 : Int32} (hA : WOk A) : WOk (wBoth A x1) := by
  rcases Classical.em (El 2 x1) with c | c
  · rw [wBoth, zq_t c]
    obtain ⟨s, hs, rfl⟩ := c
    rw [ix_nI (by omega)]
    exact (hA.keep hs).put ((hA.1 s hs).to (bth_ok (hA.1 s hs)).1 (bth_ok (hA.1 s hs)).2)
  · rw [wBoth, zq_f c]; exact hA
theorem m_both (x1 : Int32) (hd : 4 < d) (h : MW S I0 m A) (hA : WOk A) : ∃ I', z_ev d i_X12_both [.ref m, .int x1] S I0 J (some (.int (aBoth A x1))) S I' J ∧ MFr I0 I' m ∧ MW S I' m (wBoth A x1) := by
  obtain ⟨d, rfl⟩ := z_dep (d := d) (by omega)
  have hL := h.1
  have hk := hL.k
  have b0 := hL.a0
  have ha := h.mq mq_th
  refine aQ.ex (R := fun I' => MFr I0 I' m ∧ MW S I' m (wBoth A x1)) (w_X12_both (b_X12_both_0 hk ⟨_, _, _, _, m_isSlot x1 (by omega), ?_⟩))
  refine b_X12_both_9 (fun c => ?_) (fun c => b_X12_both_12 ⟨z_someI (zq_f (zb_0.mp c)).symm, rfl, rfl, mq_th.mf, by rw [wBoth, zq_f (zb_0.mp c)]; exact ha⟩)
  have c := zb_1.mp c
  have e1 : aBoth A x1 = _ := zq_t c
  have e2 : wBoth A x1 = _ := zq_t c
  obtain ⟨s, hs, rfl⟩ := c
  rw [ix_nI (by omega)] at e1 e2
  have ho := hA.1 s hs
  have hn := ho.1.le
  obtain ⟨o1, o2⟩ := bth_ok ho
  rw [e1, e2]
  obtain ⟨I1, q1, q2, q3⟩ := m_keeps (d := d) (J := J) (by omega) ha hA hs
  refine b_X12_both_15 hk ⟨_, _, _, _, q1, ?_⟩
  have ea : ((665 : Int32) * nI s) + 1 = nI (665 * s + 1) := by rw [z_lit 665, pk_mul, nI_1]
  have e665 : (665 : Int32) * nI s = nI (665 * s) := by rw [z_lit 665, pk_mul]
  have es : I1 (m + 1) (665 * s + 1) = nI (A.sl s).st := (q3.2.1 s hs).2.1
  refine b_X12_both_20 hk (by rw [ea]; exact b0.rd (by omega) (by decide)) hk ⟨_, _, _, _, m_steps (by omega) hL.ma (by omega), ?_⟩
  rw [ea, e665, b0.1, nI_clamp (by omega), es]
  have ms : MS S I1 m s (A.sl s).n (A.sl s).t := ((q3.ms (hA.keep hs)).2 s hs).1
  refine b_X12_both_44 hk ⟨_, _, _, _, m_undoing (by omega) ms ho.1 ho.2.1, ?_⟩
  have hp : MW S (z_u2 I1 (m + 1) (665 * s + 1) (nI (bth (A.sl s)))) m ((A.keep s).put s ((A.sl s).to (bth (A.sl s)))) := q3.put (hA.keep hs) hs
  have fr : MFr I0 (z_u2 I1 (m + 1) (665 * s + 1) (nI (bth (A.sl s)))) m := (mq_th.mf.trans q2).w (by omega) (by omega)
  refine b_X12_both_47 ⟨b0.2.1, by rw [b0.2.2]; exact vp_in_nI (by omega) (by decide)⟩ hk ?_
  rw [nI_clamp (by omega), z_or]
  refine ⟨_, _, _, _, m_steps (by omega) hL.ma (by omega), ?_⟩
  rw [b0.1, z_u2_same]
  exact b_X12_both_54 ⟨_, _, _, _, m_bits (by omega) hn o1, b_X12_both_57 ⟨rfl, rfl, rfl, fr, hp⟩⟩
theorem wUndo_ok (hA : WOk A) : WOk (wUndo A) := by
  by_cases e : A.kp = 0
  · rw [wUndo, if_pos e]; exact hA
  · rw [wUndo, if_neg e]
    refine ⟨fun i hi => ?_, show A.kp - 1 ≤ 8 by have := hA.2.1; omega, fun k hk => hA.2.2.1 k (by have hk : k < A.kp - 1 := hk; omega), hA.2.2.2⟩
    show SlOk (if i = (A.hi (A.kp - 1)).1 then (A.hi (A.kp - 1)).2 else A.sl i)
    by_cases e2 : i = (A.hi (A.kp - 1)).1
    · rw [if_pos e2]; exact (hA.2.2.1 _ (by omega)).2
    · rw [if_neg e2]; exact hA.1 i hi
theorem m_undo (hd : 1 < d) (h : MW S I0 m A) (hA : WOk A) : ∃ I', z_ev d i_X12_undo [.ref m] S I0 J (some (.int (aUndo A))) S I' J ∧ MFr I0 I' m ∧ MW S I' m (wUndo A) := by
  obtain ⟨d, rfl⟩ := z_dep (d := d) (by omega)
  have ha := h.mq mq_th
  obtain ⟨hL, h2, h3, h4, h5, h6, h7, h8⟩ := ha
  have hk := hL.k
  have b0 := hL.a0
  have b18 := hL.a18
  have hkp := hA.2.1
  refine aQ.ex (R := fun I' => MFr I0 I' m ∧ MW S I' m (wUndo A)) (w_X12_undo (b_X12_undo_0 hk hk (fun c => ?_) (fun c => b_X12_undo_12 ⟨z_someI ?_, rfl, rfl, mq_th.mf, ?_⟩)))
  · rw [h3, z_lit 0, nI_eq (by omega) (by decide)] at c
    obtain ⟨k, hkk⟩ : ∃ k, A.kp = k + 1 := ⟨A.kp - 1, by omega⟩
    have e7 : (z_u2 I0 m 1 0) m 19 - 1 = nI k := by rw [h3, hkk, nI_pred]
    obtain ⟨Ia, hIa⟩ : ∃ Ia, Ia = z_u2 (z_u2 I0 m 1 0) m 19 (nI k) := ⟨_, rfl⟩
    have fa : ∀ h, h ≠ m → Ia h = z_u2 I0 m 1 0 h := fun h hh => by rw [hIa, z_u2_row hh]
    obtain ⟨f1, f2⟩ := h4 k (by omega)
    obtain ⟨f3, f4⟩ := hA.2.2.1 k (by omega)
    have ek : Ia m 19 = nI k := by rw [hIa, z_u2_same]
    have ea : (666 : Int32) * Ia m 19 + 665 = nI (666 * k + 665) := by rw [ek, z_lit 666, pk_mul, z_lit 665, nI_add]
    have eb : Ia (z_rv S m 18) (Int32.toNatClampNeg ((666 : Int32) * Ia m 19 + 665)) = nI (A.hi k).1 := by rw [ea, nI_clamp (by omega), b18.1, fa (m + 7) (by omega)]; exact f2
    refine b_X12_undo_15 hk hk hk hk hk hk (by rw [e7, ← hIa, ea]; exact b18.rd (by omega) (by decide)) rfl ?_
    rw [e7, ← hIa, eb, b0.1, b18.1, ek, z_lit 666, pk_mul, z_lit 665, pk_mul]
    obtain ⟨I2, q1, q2, q3, q4⟩ := m_copies (d := d) (S := S) (I := Ia) (J := J) (u := m + 7) (v := m + 1) (p := 666 * k) (r := 665 * (A.hi k).1) (by omega) ⟨by rw [b18.2.1]; rfl, b18.2.2⟩ ⟨b0.2.1, b0.2.2⟩ (by omega) (by omega) (by omega) (by decide) (by decide)
    refine ⟨_, _, _, _, q1, b_X12_undo_60 hk ⟨z_someI ?_, rfl, rfl, ?_, ?_⟩⟩
    · rw [q2 m (by omega), ek, aUndo, if_neg c, hkk]; rfl
    · exact ⟨fun h hh => by rw [q2 h (by omega), fa h (by omega)]; exact mq_th.mf.1 h hh, by rw [q2 m (by omega), hIa, z_u2_nk (by decide)]; exact mq_th.mf.2⟩
    · rw [wUndo, if_neg c, Wst.back, show A.kp - 1 = k by omega]
      have g : ∀ j, j ≠ 19 → I2 m j = z_u2 I0 m 1 0 m j := fun j hj => by rw [q2 m (by omega), hIa, z_u2_nk hj]
      refine ⟨hL, fun i hi => ?_, ?_, fun i hi => ?_, ?_, fun j hj => ?_, ?_, ?_⟩
      · show MSl _ (if i = (A.hi k).1 then (A.hi k).2 else A.sl i)
        by_cases e : i = (A.hi k).1
        · rw [if_pos e, e]
          exact f1.cg f4 (fun j hj => by rw [q3 j hj, fa (m + 7) (by omega)])
        · rw [if_neg e]
          exact (h2 i hi).cg (hA.1 i hi) (fun j hj => by rw [q4 _ (by omega), fa (m + 1) (by omega)])
      · rw [q2 m (by omega), ek]; rfl
      · have hi : i < k := hi
        rw [q2 (m + 7) (by omega), fa (m + 7) (by omega)]
        exact h4 i (by omega)
      · rw [g 3 (by decide)]; exact h5
      · rw [q2 (m + 2) (by omega), fa (m + 2) (by omega)]; exact h6 j hj
      · rw [g 6 (by decide)]; exact h7
      · rw [g 7 (by decide)]; exact h8
  · rw [h3, z_lit 0, nI_eq (by omega) (by decide)] at c
    rw [aUndo, if_pos c]
  · rw [h3, z_lit 0, nI_eq (by omega) (by decide)] at c
    rw [wUndo, if_pos c]
    exact ⟨hL, h2, h3, h4, h5, h6, h7, h8⟩
end M22

/-! THE CLASS: symmetries, alikeTo, regular, alike, other -/
section C43
variable {d a g w n s st : Nat} {t t' : Nat → Nat → Nat} {iv iv' : Nat → Nat} {A : Wst} {x : Slt} {γ γ' : Nat → Slt} {S S' S2 : zS} {I I' I2 : zI} {J J' J2 : zJ}
theorem Cst.trans {c l c' l' : Nat} (h : Cst c l S S') (h' : Cst c' l' S' S2) : Cst (c + c') (l + l') S S2 := ⟨by have := h.1; have := h'.1; omega, by have := h.2; have := h'.2; omega⟩
theorem c_symmetries (x1 : Int32) (hd : 73 < d) (h : CW S I J a A) (hf : SF S) : ∃ S' I' J', z_ev d i_X11_symmetries [.ref a, .int x1] S I J (some (.long (aSym (fun s => (A.sl s).n) (fun s => (A.sl s).t) (fun s => (A.sl s).iv) (fun s => (A.sl s).st) x1))) S' I' J' ∧ CW S' I' J' a A ∧ FR a S I J S' I' J' ∧ Cst 0 0 S S' := by
  obtain ⟨d, rfl⟩ := z_dep (d := d) (by omega)
  rcases Classical.em (El 2 x1) with c | c
  · have e : aSym (fun s => (A.sl s).n) (fun s => (A.sl s).t) (fun s => (A.sl s).iv) (fun s => (A.sl s).st) x1 = _ := zq_t c
    have cc := c
    obtain ⟨s, hs, rfl⟩ := c
    rw [ix_nI (by omega)] at e
    rw [e]
    obtain ⟨S1, I1, J1, p1, p2, p3, p4, p5, p6⟩ := c_solved (d := d) (by omega) h hf hs rfl
    obtain ⟨w, g1, g2, g3, g4, _, g6⟩ := p2.net hs
    rw [← g2] at p1 p5
    have hn := g4.2.2.2.2.2.1.le
    refine ⟨S1, I1, J1, e_X11_symmetries (b_X11_symmetries_0 ⟨_, _, _, _, c_isSlot (nI s) (by omega), b_X11_symmetries_4 (fun _ => b_X11_symmetries_11 h.k ⟨_, _, _, _, p1, b_X11_symmetries_16 g3 p2.k g6 (by rw [g1]; exact g3) (by rw [g1]; exact g4.1.1) ⟨?_, rfl, rfl, rfl⟩⟩) (fun z => absurd cc (zb_0.mp z))⟩), p2, p3, p4⟩
    rw [g1, g4.1.2.1, p5, nI_l (by omega)]
    rfl
  · exact ⟨S, I, J, e_X11_symmetries (b_X11_symmetries_0 ⟨_, _, _, _, c_isSlot x1 (by omega), b_X11_symmetries_4 (fun z => absurd (zb_1.mp z) c) (fun _ => b_X11_symmetries_7 ⟨by rw [show aSym (fun s => (A.sl s).n) (fun s => (A.sl s).t) (fun s => (A.sl s).iv) (fun s => (A.sl s).st) x1 = -2 from zq_f c], rfl, rfl, rfl⟩)⟩), h, FR.refl, Cst.refl⟩
theorem c_alikeTo (x1 x2 : Int32) (hd : 73 < d) (h : CW S I J a A) (hf : SF S) : ∃ S' I' J', z_ev d i_X11_alikeTo [.ref a, .int x1, .int x2] S I J (some (.int (aAlikeTo (fun s => (A.sl s).n) (fun s => (A.sl s).t) (fun s => (A.sl s).iv) (fun s => (A.sl s).st) x1 x2))) S' I' J' ∧ CW S' I' J' a A ∧ FR a S I J S' I' J' ∧ Cst 0 0 S S' := by
  obtain ⟨d, rfl⟩ := z_dep (d := d) (by omega)
  rcases Classical.em (El 2 x1 ∧ El (A.sl (ix x1)).n x2) with c | c
  · have e : aAlikeTo (fun s => (A.sl s).n) (fun s => (A.sl s).t) (fun s => (A.sl s).iv) (fun s => (A.sl s).st) x1 x2 = _ := zq_t c
    have cc := c
    obtain ⟨⟨s, hs, rfl⟩, c3⟩ := c
    rw [ix_nI (by omega)] at c3 e
    obtain ⟨x, hx, rfl⟩ := c3
    obtain ⟨S1, I1, J1, p1, p2, p3, p4, p5, p6⟩ := c_solved (d := d) (by omega) h hf hs rfl
    obtain ⟨w, g1, g2, g3, g4, _, g6⟩ := p2.net hs
    rw [← g2] at p1 p6
    have hn := g4.2.2.2.2.2.1.le
    rw [ix_nI (by omega)] at e
    rw [e]
    have l4 : Ar S1 w 4 (w + 1) 100 20 := by
      obtain ⟨γ, p2⟩ := p2
      exact (CWg.slot (γ := γ) p2 hs g2).2.2.1.2.1.2.1
    refine ⟨S1, I1, J1, e_X11_alikeTo (b_X11_alikeTo_0 h.k ⟨_, _, _, _, c_isElement (nI s) (nI x) (by omega) h, b_X11_alikeTo_6 (fun z => absurd cc (zb_0.mp z)) (fun _ => b_X11_alikeTo_9 h.k ⟨_, _, _, _, p1, b_X11_alikeTo_14 g3 (l4.rd (by omega) (by decide)) ⟨z_someI ?_, rfl, rfl, rfl⟩⟩)⟩), p2, p3, p4⟩
    rw [l4.1, nI_clamp (by omega)]
    exact p6 x hx
  · exact ⟨S, I, J, e_X11_alikeTo (b_X11_alikeTo_0 h.k ⟨_, _, _, _, c_isElement x1 x2 (by omega) h, b_X11_alikeTo_6 (fun _ => b_X11_alikeTo_22 ⟨z_someI (zq_f c).symm, rfl, rfl, rfl⟩) (fun z => absurd (zb_1.mp z) c)⟩), h, FR.refl, Cst.refl⟩
theorem z_nzb {p : Prop} : nI (zb p) = if nI (zb p) = 0 then (0 : Int32) else 1 := by
  rcases Classical.em p with h | h
  · rw [zb_t h]; decide
  · rw [zb_f h]; decide
theorem c_regular (x1 x2 : Int32) (hd : 73 < d) (h : CW S I J a A) (hf : SF S) : ∃ S' I' J', z_ev d i_X11_regular [.ref a, .int x1, .int x2] S I J (some (.int (aRegular (fun s => (A.sl s).n) (fun s => (A.sl s).t) (fun s => (A.sl s).iv) (fun s => (A.sl s).st) x1 x2))) S' I' J' ∧ CW S' I' J' a A ∧ FR a S I J S' I' J' ∧ Cst 0 0 S S' := by
  obtain ⟨d, rfl⟩ := z_dep (d := d) (by omega)
  rcases Classical.em (El 2 x1) with c | c
  · have e : aRegular (fun s => (A.sl s).n) (fun s => (A.sl s).t) (fun s => (A.sl s).iv) (fun s => (A.sl s).st) x1 x2 = _ := zq_t c
    have cc := c
    obtain ⟨s, hs, rfl⟩ := c
    rw [ix_nI (by omega)] at e
    rw [e]
    have head : ∀ (S' : zS) (I' : zI) (J' : zJ) (v : Int32), Go d i_X11_regular (if x2 = 0 then 40 else if x2 = 1 then 57 else if x2 = 2 then 74 else if x2 = 3 then 98 else 104) [.ref a, .int (nI s), .int x2] [] S I J (z_eq (some (.int v)) S' I' J') → z_ev (d + 1) i_X11_regular [.ref a, .int (nI s), .int x2] S I J (some (.int v)) S' I' J' := fun S' I' J' v hgo =>
      e_X11_regular (b_X11_regular_0 ⟨_, _, _, _, c_isSlot (nI s) (by omega), b_X11_regular_4 (fun _ => b_X11_regular_10 hgo) (fun z => absurd cc (zb_0.mp z))⟩)
    unfold rgv
    obtain ⟨S1, I1, J1, p1, p2, p3, p4, p5, p6⟩ := c_solved (d := d) (by omega) h hf hs rfl
    obtain ⟨w, g1, g2, g3, g4, _, g6⟩ := p2.net hs
    rw [← g2] at p1 p5 p6
    have hn := g4.2.2.2.2.2.1.le
    have l4 : NSt S1 I1 a w (A.sl s).n (A.sl s).t (A.sl s).iv (A.sl s).st := by
      obtain ⟨γ, p2⟩ := p2
      exact (CWg.slot (γ := γ) p2 hs g2).2.2.1
    by_cases e0 : x2 = 0
    · refine ⟨S1, I1, J1, head S1 I1 J1 _ ?_, p2, p3, p4⟩
      rw [if_pos e0, if_pos e0]
      have q := c_arcsAlike (d := d) (J := J1) (by omega) g3 l4.2.1.2.1 g4.1 g4.2.2.2.2.2.1 l4.2.2.2.1 l4.2.2.2.2.1 l4.2.2.2.2.2.1 p6
      refine b_X11_regular_40 h.k ⟨_, _, _, _, p1, b_X11_regular_45 g3 ⟨_, _, _, _, q, b_X11_regular_48 (fun z => b_X11_regular_55 ⟨z_someI ?_, rfl, rfl, rfl⟩) (fun z => b_X11_regular_51 ⟨z_someI ?_, rfl, rfl, rfl⟩)⟩⟩
      · exact z.symm
      · have := z_nzb (p := AAl (A.sl s).n (fd (A.sl s).n (A.sl s).t (A.sl s).iv (A.sl s).st) (A.sl s).st)
        rw [if_neg z] at this
        exact this.symm
    rw [if_neg e0] at head
    rw [if_neg e0]
    by_cases e1 : x2 = 1
    · rw [if_pos e1] at head
      rw [if_pos e1]
      obtain ⟨n1, n2, n3⟩ := p2.nk hs g2
      have gd := g4.2.2.2.2.2.2.1.out
      have e5 := l4.2.1.2.2.1.1
      have e6 := l4.2.1.2.2.2.1.1
      obtain ⟨I2, q1, q2, q3⟩ := c_farAlike (d := d) (J := J1) (by omega) n1 n2 g4.1 g4.2.2.2.2.2.1 l4.2.2.2.1 l4.2.2.2.2.1 l4.2.2.2.2.2.1 n3 l4.2.1.2.1 p6 (by rw [e5, e6]; omega) (by rw [e5, e6]; omega)
      refine ⟨S1, I2, J1, head S1 I2 J1 _ ?_, p2.ms hs g2 q2 q3, p3.trans (fun y hy => ⟨rfl, p2.nf hs g2 q2 y (by omega), rfl⟩), p4⟩
      refine b_X11_regular_57 h.k ⟨_, _, _, _, p1, b_X11_regular_62 g3 ⟨_, _, _, _, q1, b_X11_regular_65 (fun z => b_X11_regular_72 ⟨z_someI ?_, rfl, rfl, rfl⟩) (fun z => b_X11_regular_68 ⟨z_someI ?_, rfl, rfl, rfl⟩)⟩⟩
      · exact z.symm
      · have := z_nzb (p := FAl (A.sl s).n (fd (A.sl s).n (A.sl s).t (A.sl s).iv (A.sl s).st))
        rw [if_neg z] at this
        exact this.symm
    rw [if_neg e1] at head
    rw [if_neg e1]
    by_cases e2 : x2 = 2
    · rw [if_pos e2] at head
      rw [if_pos e2]
      obtain ⟨S2, I2, q1, q2, q3, q4⟩ := c_ownCount (d := d) (by omega) p2 (p1.mo.2.2 hf) hs
      refine ⟨S2, I2, J1, head S2 I2 J1 _ ?_, q2, p3.trans q3, p4.trans q4⟩
      refine b_X11_regular_74 h.k ⟨_, _, _, _, p1, b_X11_regular_79 g3 p2.k ⟨_, _, _, _, q1, b_X11_regular_87 (fun z => b_X11_regular_96 ⟨z_someI ?_, rfl, rfl, rfl⟩) (fun z => b_X11_regular_92 ⟨z_someI ?_, rfl, rfl, rfl⟩)⟩⟩
      · rw [lg_cmp_eq, p5] at z
        exact (congrArg nI (zb_f z)).symm
      · rw [lg_cmp_eq, p5] at z
        exact (congrArg nI (zb_t z)).symm
    rw [if_neg e2] at head
    rw [if_neg e2]
    by_cases e3 : x2 = 3
    · rw [if_pos e3] at head
      rw [if_pos e3]
      obtain ⟨S2, I2, q1, q2, q3, q4⟩ := c_ownCount (d := d) (by omega) h hf hs
      exact ⟨S2, I2, J, head S2 I2 J _ (b_X11_regular_98 h.k ⟨_, _, _, _, q1, b_X11_regular_103 ⟨rfl, rfl, rfl, rfl⟩⟩), q2, q3, q4⟩
    rw [if_neg e3] at head
    rw [if_neg e3]
    exact ⟨S, I, J, head S I J _ (b_X11_regular_104 ⟨rfl, rfl, rfl, rfl⟩), h, FR.refl, Cst.refl⟩
  · exact ⟨S, I, J, e_X11_regular (b_X11_regular_0 ⟨_, _, _, _, c_isSlot x1 (by omega), b_X11_regular_4 (fun z => absurd (zb_1.mp z) c) (fun _ => b_X11_regular_7 ⟨z_someI (zq_f c).symm, rfl, rfl, rfl⟩)⟩), h, FR.refl, Cst.refl⟩
end C43

/-! THE CLASS: far -/
section C33
variable {d a w : Nat} {A : Wst} {x : Slt} {γ : Nat → Slt} {S : zS} {I I' : zI} {J : zJ}
theorem CSl.ms (h : CSl S I J a w γ x) (hF : NF S I I' w) (hM : Msd S I' w x.n x.t x.st) : CSl S I' J a w γ x := by
  obtain ⟨c1, c2, ⟨q1, q2, q3, q4, q5, q6, q7, q8⟩, c4, c5⟩ := h
  have e5 := q2.2.2.1.1
  have e6 := q2.2.2.2.1.1
  have fr : ∀ y, y ≠ w → y ≠ w + 2 → y ≠ w + 3 → I' y = I y := fun y g1 g2 g3 => hF.1 y g1 (by rw [e5]; exact g2) (by rw [e6]; exact g3)
  refine ⟨c1, c2, ⟨q1, q2, q3.fr ?_ (fun y hy _ => fr y (by unfold Dyn at hy; omega) (by unfold Dyn at hy; omega) (by unfold Dyn at hy; omega)), by rw [hF.2 1 (by decide) (by decide)]; exact q4, q5, q6, Or.inr hM, ?_⟩, ?_, by rw [hF.2 3 (by decide) (by decide)]; exact c5⟩
  · have gd := q3.2.2.2.2.2.2.1
    rw [fr _ (by unfold Dyn at gd; omega) (by unfold Dyn at gd; omega) (by unfold Dyn at gd; omega)]
  · rw [hF.2 9 (by decide) (by decide)]
    rcases q8 with q8 | ⟨p1, p2⟩
    · exact Or.inl q8
    · exact Or.inr ⟨p1, p2.fr (fun y g1 g2 => fr y (by omega) (by omega) (by omega))⟩
  · rw [fr (w + 1) (by omega) (by omega) (by omega)]; exact c4
theorem CW.ms (h : CW S I J a A) {s : Nat} (hs : s < 2) (hw : w = a + 20 + 12 * s) (hF : NF S I I' w) (hM : Msd S I' w (A.sl s).n (A.sl s).t (A.sl s).st) : CW S I' J a A := by
  obtain ⟨γ, hL, hG, c0, c1, cH, ⟨ht, hp⟩, hf, hK⟩ := h
  have l0 := hL.2.2.2.2.2.2.2.2.2.2.2.1
  have l1 := hL.2.2.2.2.2.2.2.2.2.2.2.2
  have lw : NLay S w := by
    rcases (show s = 0 ∨ s = 1 by omega) with e | e
    · rw [hw, e]; exact l0
    · rw [hw, e]; exact l1
  have fr : ∀ y, y ≠ w → y ≠ w + 2 → y ≠ w + 3 → I' y = I y := fun y g1 g2 g3 => hF.1 y g1 (by rw [lw.2.2.1.1]; exact g2) (by rw [lw.2.2.2.1.1]; exact g3)
  have fd : ∀ y, Dyn a y → I' y = I y := fun y hy => fr y (by unfold Dyn at hy; omega) (by unfold Dyn at hy; omega) (by unfold Dyn at hy; omega)
  have fk : ∀ y, Kpt S a y → I' y = I y := fun y hy => by
    rcases hy with hy | hy
    · exact fd y hy
    · refine fr y (fun e => ?_) (fun e => ?_) (fun e => ?_)
      · rw [e, lw.1] at hy; cases hy
      · rw [e, lw.2.2.1.2.1] at hy; cases hy
      · rw [e, lw.2.2.2.1.2.1] at hy; cases hy
  refine ⟨γ, hL, fun y hy => (hG y hy).fr fk, ?_, ?_, cH.fr (fun y g1 g2 => fr y (by omega) (by omega) (by omega)), ?_, ?_, ?_⟩
  · rcases (show s = 0 ∨ s = 1 by omega) with e | e
    · subst e
      have hw : w = a + 20 := hw
      subst hw
      exact c0.ms hF hM
    · exact c0.fr (fun y g1 g2 => fr y (by omega) (by omega) (by omega)) fd
  · rcases (show s = 0 ∨ s = 1 by omega) with e | e
    · exact c1.fr (fun y g1 g2 => fr y (by omega) (by omega) (by omega)) fd
    · subst e
      have hw : w = a + 32 := hw
      subst hw
      exact c1.ms hF hM
  · rw [fr a (by omega) (by omega) (by omega), fr (a + 1) (by omega) (by omega) (by omega)]; exact ⟨ht, hp⟩
  · rw [fr a (by omega) (by omega) (by omega)]; exact hf
  · exact hK.fr (by rw [fr a (by omega) (by omega) (by omega)]; exact ⟨rfl, rfl, rfl, rfl⟩) (fr _ (by omega) (by omega) (by omega)) (fr _ (by omega) (by omega) (by omega))
/-- what a call on a Network wants -/
theorem CW.nk (h : CW S I J a A) {s : Nat} (hs : s < 2) (hw : w = a + 20 + 12 * s) : NK S w ∧ NG S w (z_rv S w 0) ∧ (I w 8 = 0 ∨ Msd S I w (A.sl s).n (A.sl s).t (A.sl s).st) := by
  obtain ⟨γ, hL, hG, c0, c1, _⟩ := h
  have key : ∀ w x, CSl S I J a w γ x → NK S w ∧ NG S w (z_rv S w 0) ∧ (I w 8 = 0 ∨ Msd S I w x.n x.t x.st) := fun w x hc => by
    obtain ⟨_, _, ⟨q1, ⟨l1, l2, l3, l4, _⟩, q3, _, _, _, q7, _⟩, _⟩ := hc
    have d1 := q3.2.2.2.2.2.2.2 1 (by decide) (by decide)
    have d2 := q3.2.2.2.2.2.2.2 2 (by decide) (by decide)
    unfold Dyn at d1 d2
    refine ⟨⟨l1, l3.kd, l3.ln, l4.kd, l4.ln, by rw [l3.1, l4.1]; omega⟩, ⟨?_, ?_, ?_, ?_⟩, q7⟩
    · rw [l3.1]; omega
    · rw [l4.1]; omega
    · rw [l3.1]; omega
    · rw [l4.1]; omega
  rcases (show s = 0 ∨ s = 1 by omega) with e | e
  · subst e; rw [hw]; exact key _ _ c0
  · subst e; rw [hw]; exact key _ _ c1
theorem c_far (x1 x2 x3 : Int32) (hd : 3 < d) (h : CW S I J a A) : ∃ I', z_ev d i_X11_far [.ref a, .int x1, .int x2, .int x3] S I J (some (.int (aFar (fun s => (A.sl s).n) (fun s => (A.sl s).t) (fun s => (A.sl s).iv) (fun s => (A.sl s).st) x1 x2 x3))) S I' J ∧ (∀ y, y < a ∨ a + 71 < y → I' y = I y) ∧ CW S I' J a A := by
  obtain ⟨d, rfl⟩ := z_dep (d := d) (by omega)
  rcases Classical.em (El 2 x1 ∧ El (A.sl (ix x1)).n x2) with c | c
  · rcases Classical.em (El 2 x1 ∧ El (A.sl (ix x1)).n x3) with c2 | c2
    · have e : aFar (fun s => (A.sl s).n) (fun s => (A.sl s).t) (fun s => (A.sl s).iv) (fun s => (A.sl s).st) x1 x2 x3 = _ := zq_t ⟨c, c2⟩
      have cc := c
      have cc2 := c2
      obtain ⟨⟨s, hs, rfl⟩, c3⟩ := c
      have c4 := c2.2
      rw [ix_nI (by omega)] at c3 c4 e
      obtain ⟨x, hx, rfl⟩ := c3
      obtain ⟨y, hy, rfl⟩ := c4
      obtain ⟨w, g1, g2, g3, g4, _, g6⟩ := h.net hs
      obtain ⟨t1, t2, t3⟩ := h.st hs
      rw [← g2] at t1
      obtain ⟨n1, n2, n3⟩ := h.nk hs g2
      have hg := g4.2.2.2.2.2.1
      have hn := hg.le
      rw [ix_nI (by omega), ix_nI (by omega)] at e
      rw [e]
      obtain ⟨I1, p1, p2, p3, _⟩ := c_distance (d := d) (J := J) (by omega) n1 n2 g4.1 g4.2.1 hg t1 t2 t3 n3 hx hy
      have hcw := h.ms hs g2 p2 p3
      have lw : z_rv S w 5 = w + 2 ∧ z_rv S w 6 = w + 3 := by
        obtain ⟨γ, hL, _⟩ := h
        have l0 := hL.2.2.2.2.2.2.2.2.2.2.2.1
        have l1 := hL.2.2.2.2.2.2.2.2.2.2.2.2
        rcases (show s = 0 ∨ s = 1 by omega) with e | e
        · rw [g2, e]; exact ⟨l0.2.2.1.1, l0.2.2.2.1.1⟩
        · rw [g2, e]; exact ⟨l1.2.2.1.1, l1.2.2.2.1.1⟩
      refine ⟨I1, e_X11_far (b_X11_far_0 h.k ⟨_, _, _, _, c_isElement (nI s) (nI x) (by omega) h, b_X11_far_6 (fun z => absurd cc (zb_0.mp z)) (fun _ => b_X11_far_9 h.k ⟨_, _, _, _, c_isElement (nI s) (nI y) (by omega) h, b_X11_far_15 (fun _ => b_X11_far_21 h.k g6 (by rw [g1]; exact g3) ?_) (fun z => absurd cc2 (zb_0.mp z))⟩)⟩), fun y hy => p2.1 y (by omega) (by rw [lw.1]; omega) (by rw [lw.2]; omega), hcw⟩
      rw [g1]
      exact ⟨_, _, _, _, p1, b_X11_far_32 ⟨rfl, rfl, rfl, rfl⟩⟩
    · exact ⟨I, e_X11_far (b_X11_far_0 h.k ⟨_, _, _, _, c_isElement x1 x2 (by omega) h, b_X11_far_6 (fun z => absurd c (zb_0.mp z)) (fun _ => b_X11_far_9 h.k ⟨_, _, _, _, c_isElement x1 x3 (by omega) h, b_X11_far_15 (fun z => absurd (zb_1.mp z) c2) (fun _ => b_X11_far_18 ⟨z_someI (zq_f (fun q => c2 q.2)).symm, rfl, rfl, rfl⟩)⟩)⟩), fun _ _ => rfl, h⟩
  · exact ⟨I, e_X11_far (b_X11_far_0 h.k ⟨_, _, _, _, c_isElement x1 x2 (by omega) h, b_X11_far_6 (fun _ => b_X11_far_18 ⟨z_someI (zq_f (fun q => c q.1)).symm, rfl, rfl, rfl⟩) (fun z => absurd (zb_1.mp z) c)⟩), fun _ _ => rfl, h⟩
end C33

/-! THE CLASS: sphere, ring -/
section C34
variable {d a w : Nat} {A : Wst} {S : zS} {I I' : zI} {J : zJ}
theorem CW.nf (h : CW S I J a A) {s : Nat} (hs : s < 2) (hw : w = a + 20 + 12 * s) (hF : NF S I I' w) : ∀ y, y < a ∨ a + 71 < y → I' y = I y := by
  obtain ⟨γ, hL, _⟩ := h
  have l0 := hL.2.2.2.2.2.2.2.2.2.2.2.1
  have l1 := hL.2.2.2.2.2.2.2.2.2.2.2.2
  have lw : z_rv S w 5 = w + 2 ∧ z_rv S w 6 = w + 3 := by
    rcases (show s = 0 ∨ s = 1 by omega) with e | e
    · rw [hw, e]; exact ⟨l0.2.2.1.1, l0.2.2.2.1.1⟩
    · rw [hw, e]; exact ⟨l1.2.2.1.1, l1.2.2.2.1.1⟩
  exact fun y hy => hF.1 y (by omega) (by rw [lw.1]; omega) (by rw [lw.2]; omega)
theorem c_ring (x1 : Int32) (hd : 3 < d) (h : CW S I J a A) : ∃ I', z_ev d i_X11_ring [.ref a, .int x1] S I J (some (.int (aRing (fun s => (A.sl s).n) (fun s => (A.sl s).t) (fun s => (A.sl s).st) x1))) S I' J ∧ (∀ y, y < a ∨ a + 71 < y → I' y = I y) ∧ CW S I' J a A := by
  obtain ⟨d, rfl⟩ := z_dep (d := d) (by omega)
  rcases Classical.em (El 2 x1) with c | c
  · have e : aRing (fun s => (A.sl s).n) (fun s => (A.sl s).t) (fun s => (A.sl s).st) x1 = _ := zq_t c
    have cc := c
    obtain ⟨s, hs, rfl⟩ := c
    rw [ix_nI (by omega)] at e
    obtain ⟨w, g1, g2, g3, g4, _, g6⟩ := h.net hs
    obtain ⟨t1, t2, t3⟩ := h.st hs
    rw [← g2] at t1
    obtain ⟨n1, n2, n3⟩ := h.nk hs g2
    obtain ⟨I1, p1, p2, p3⟩ := c_shortestRing (d := d) (J := J) (by omega) (show NW S I w (A.sl s).n (A.sl s).t (A.sl s).iv (A.sl s).st from ⟨n1, n2, g4.1, g4.2.1, g4.2.2.2.2.2.1, t1, t2, t3⟩) n3
    rw [e]
    refine ⟨I1, e_X11_ring (b_X11_ring_0 ⟨_, _, _, _, c_isSlot (nI s) (by omega), b_X11_ring_4 (fun z => absurd cc (zb_0.mp z)) (fun _ => b_X11_ring_7 h.k g6 (by rw [g1]; exact g3) ?_)⟩), h.nf hs g2 p2, h.ms hs g2 p2 p3⟩
    rw [g1]
    exact ⟨_, _, _, _, p1, b_X11_ring_16 ⟨rfl, rfl, rfl, rfl⟩⟩
  · exact ⟨I, e_X11_ring (b_X11_ring_0 ⟨_, _, _, _, c_isSlot x1 (by omega), b_X11_ring_4 (fun _ => b_X11_ring_19 ⟨z_someI (zq_f c).symm, rfl, rfl, rfl⟩) (fun z => absurd (zb_1.mp z) c)⟩), fun _ _ => rfl, h⟩
theorem c_sphere (x1 x2 : Int32) (hd : 3 < d) (h : CW S I J a A) : ∃ I', z_ev d i_X11_sphere [.ref a, .int x1, .int x2] S I J (some (.int (aSphere (fun s => (A.sl s).n) (fun s => (A.sl s).t) (fun s => (A.sl s).st) x1 x2))) S I' J ∧ (∀ y, y < a ∨ a + 71 < y → I' y = I y) ∧ CW S I' J a A := by
  obtain ⟨d, rfl⟩ := z_dep (d := d) (by omega)
  rcases Classical.em (El 2 x1) with c | c
  · have e : aSphere (fun s => (A.sl s).n) (fun s => (A.sl s).t) (fun s => (A.sl s).st) x1 x2 = _ := zq_t c
    have cc := c
    obtain ⟨s, hs, rfl⟩ := c
    rw [ix_nI (by omega)] at e
    rw [e]
    obtain ⟨w, g1, g2, g3, g4, _, g6⟩ := h.net hs
    obtain ⟨t1, t2, t3⟩ := h.st hs
    rw [← g2] at t1
    obtain ⟨n1, n2, n3⟩ := h.nk hs g2
    have hn := g4.2.2.2.2.2.1.le
    by_cases c2 : -1 ≤ x2
    · rw [zq_f (fun q => (i32_nle.mpr q) c2)]
      by_cases c3 : x2 = -1
      · obtain ⟨I1, k, p1, p2, p3, p4, p5, p6⟩ := c_deepest (d := d) (J := J) (by omega) n1 n2 g4.1 g4.2.2.2.2.2.1 t1 t2 t3 n3
        rw [zq_t c3, mxf_e (by omega) p5 p6]
        refine ⟨I1, e_X11_sphere (b_X11_sphere_0 ⟨_, _, _, _, c_isSlot (nI s) (by omega), b_X11_sphere_4 (fun _ => b_X11_sphere_10 (fun _ => b_X11_sphere_18 (fun z => absurd c3 z) (fun _ => b_X11_sphere_23 h.k g6 (by rw [g1]; exact g3) ?_)) (fun z => absurd c2 z)) (fun z => absurd cc (zb_0.mp z))⟩), h.nf hs g2 p2, h.ms hs g2 p2 p3⟩
        rw [g1]
        exact ⟨_, _, _, _, p1, b_X11_sphere_32 ⟨rfl, rfl, rfl, rfl⟩⟩
      · obtain ⟨I1, p1, p2, p3⟩ := c_pointsAt (d := d) (J := J) (k := x2) (by omega) n1 n2 g4.1 g4.2.2.2.2.2.1 t1 t2 t3 n3
        rw [zq_f c3]
        refine ⟨I1, e_X11_sphere (b_X11_sphere_0 ⟨_, _, _, _, c_isSlot (nI s) (by omega), b_X11_sphere_4 (fun _ => b_X11_sphere_10 (fun _ => b_X11_sphere_18 (fun _ => b_X11_sphere_35 h.k g6 (by rw [g1]; exact g3) ?_) (fun z => absurd z c3)) (fun z => absurd c2 z)) (fun z => absurd cc (zb_0.mp z))⟩), h.nf hs g2 p2, h.ms hs g2 p2 p3⟩
        rw [g1]
        exact ⟨_, _, _, _, p1, b_X11_sphere_45 ⟨rfl, rfl, rfl, rfl⟩⟩
    · rw [zq_t (i32_nle.mp c2)]
      exact ⟨I, e_X11_sphere (b_X11_sphere_0 ⟨_, _, _, _, c_isSlot (nI s) (by omega), b_X11_sphere_4 (fun _ => b_X11_sphere_10 (fun z => absurd z c2) (fun _ => b_X11_sphere_15 ⟨rfl, rfl, rfl, rfl⟩)) (fun z => absurd cc (zb_0.mp z))⟩), fun _ _ => rfl, h⟩
  · exact ⟨I, e_X11_sphere (b_X11_sphere_0 ⟨_, _, _, _, c_isSlot x1 (by omega), b_X11_sphere_4 (fun z => absurd (zb_1.mp z) c) (fun _ => b_X11_sphere_7 ⟨z_someI (zq_f c).symm, rfl, rfl, rfl⟩)⟩), fun _ _ => rfl, h⟩
end C34

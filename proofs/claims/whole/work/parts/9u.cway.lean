/-! THE CLASS: way -/
section C35
variable {d a : Nat} {A : Wst} {S : zS} {I : zI} {J : zJ}
theorem c_way (x1 x2 x3 : Int32) (hd : 5 < d) (h : CW S I J a A) : ∃ I', z_ev d i_X11_way [.ref a, .int x1, .int x2, .int x3] S I J (some (.int (aWay (fun s => (A.sl s).n) (fun s => (A.sl s).t) (fun s => (A.sl s).iv) (fun s => (A.sl s).st) x1 x2 x3))) S I' J ∧ (∀ y, y < a ∨ a + 71 < y → I' y = I y) ∧ CW S I' J a A := by
  obtain ⟨d, rfl⟩ := z_dep (d := d) (by omega)
  rcases Classical.em (El 2 x1 ∧ El (A.sl (ix x1)).n x2) with c | c
  · have e : aWay (fun s => (A.sl s).n) (fun s => (A.sl s).t) (fun s => (A.sl s).iv) (fun s => (A.sl s).st) x1 x2 x3 = _ := zq_t c
    have cc := c
    obtain ⟨⟨s, hs, rfl⟩, c3⟩ := c
    rw [ix_nI (by omega)] at c3 e
    obtain ⟨x, hx, rfl⟩ := c3
    obtain ⟨w, g1, g2, g3, g4, _, g6⟩ := h.net hs
    obtain ⟨t1, t2, t3⟩ := h.st hs
    rw [← g2] at t1
    obtain ⟨n1, n2, n3⟩ := h.nk hs g2
    have hn := g4.2.2.2.2.2.1.le
    rw [ix_nI (by omega)] at e
    rw [e]
    by_cases c2 : 0 ≤ x3
    · have c4 : ¬ x3 < 0 := fun q => (i32_nle.mpr q) c2
      rw [zq_f c4]
      obtain ⟨I1, p1, p2, p3⟩ := c_stepOfWay (d := d) (J := J) (x := x3) (by omega) (show NW S I w (A.sl s).n (A.sl s).t (A.sl s).iv (A.sl s).st from ⟨n1, n2, g4.1, g4.2.1, g4.2.2.2.2.2.1, t1, t2, t3⟩) n3 hx c4
      refine ⟨I1, e_X11_way (b_X11_way_0 h.k ⟨_, _, _, _, c_isElement (nI s) (nI x) (by omega) h, b_X11_way_6 (fun _ => b_X11_way_12 (fun _ => b_X11_way_19 h.k g6 (by rw [g1]; exact g3) ?_) (fun z => absurd c2 z)) (fun z => absurd cc (zb_0.mp z))⟩), h.nf hs g2 p2, h.ms hs g2 p2 p3⟩
      rw [g1]
      exact ⟨_, _, _, _, p1, b_X11_way_30 ⟨rfl, rfl, rfl, rfl⟩⟩
    · rw [zq_t (i32_nle.mp c2)]
      exact ⟨I, e_X11_way (b_X11_way_0 h.k ⟨_, _, _, _, c_isElement (nI s) (nI x) (by omega) h, b_X11_way_6 (fun _ => b_X11_way_12 (fun z => absurd z c2) (fun _ => b_X11_way_16 ⟨rfl, rfl, rfl, rfl⟩)) (fun z => absurd cc (zb_0.mp z))⟩), fun _ _ => rfl, h⟩
  · exact ⟨I, e_X11_way (b_X11_way_0 h.k ⟨_, _, _, _, c_isElement x1 x2 (by omega) h, b_X11_way_6 (fun z => absurd (zb_1.mp z) c) (fun _ => b_X11_way_9 ⟨z_someI (zq_f c).symm, rfl, rfl, rfl⟩)⟩), fun _ _ => rfl, h⟩
end C35

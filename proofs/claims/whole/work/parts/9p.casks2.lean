/-! THE CLASS: more calls that ask of groups -/
section C30
variable {d a : Nat} {A : Wst} {S : zS} {I : zI} {J : zJ}
theorem c_classOf (x1 x2 : Int32) (hd : 2 < d) (h : CW S I J a A) : z_ev d i_X11_classOf [.ref a, .int x1, .int x2] S I J (some (.int (aClassOf (fun s => (A.sl s).n) (fun s => (A.sl s).t) (fun s => (A.sl s).iv) x1 x2))) S I J := by
  obtain ⟨d, rfl⟩ := z_dep (d := d) (by omega)
  refine e_X11_classOf (b_X11_classOf_0 h.k ⟨_, _, _, _, c_isElement x1 x2 (by omega) h, b_X11_classOf_6 (fun c => b_X11_classOf_26 ⟨z_someI (zq_f (zb_0.mp c)).symm, rfl, rfl, rfl⟩) (fun c => ?_)⟩)
  have c := zb_1.mp c
  have e : aClassOf (fun s => (A.sl s).n) (fun s => (A.sl s).t) (fun s => (A.sl s).iv) x1 x2 = _ := zq_t c
  obtain ⟨⟨s, hs, rfl⟩, c3⟩ := c
  rw [ix_nI (by omega)] at c3 e
  obtain ⟨x, hx, rfl⟩ := c3
  obtain ⟨w, g1, g2, g3, g4, _, g6⟩ := h.net hs
  have hn := g4.2.2.2.2.2.1.le
  have hc := g4.2.2.2.1
  rw [ix_nI (by omega)] at e
  rw [e]
  refine b_X11_classOf_9 h.k g6 (by rw [g1]; exact g3) (by rw [g1]; exact g4.1.1) (by rw [g1, hc.1, hc.2.1]; exact ⟨rfl, vp_in_nI hx (by omega)⟩) ⟨?_, rfl, rfl, rfl⟩
  rw [g1, nI_clamp (show x < 2 ^ 31 by omega)]
  exact z_someI (hc.2.2 x hx)
theorem c_generated (x1 x2 : Int32) (hd : 3 < d) (h : CW S I J a A) : z_ev d i_X11_generated [.ref a, .int x1, .int x2] S I J (some (.int (aGenerated (fun s => (A.sl s).n) (fun s => (A.sl s).t) x1 x2))) S I J := by
  obtain ⟨d, rfl⟩ := z_dep (d := d) (by omega)
  refine e_X11_generated (b_X11_generated_0 ⟨_, _, _, _, c_isSlot x1 (by omega), b_X11_generated_4 (fun c => ?_) (fun c => b_X11_generated_7 ⟨z_someI (zq_f (zb_0.mp c)).symm, rfl, rfl, rfl⟩)⟩)
  have c := zb_1.mp c
  have e : aGenerated (fun s => (A.sl s).n) (fun s => (A.sl s).t) x1 x2 = _ := zq_t c
  obtain ⟨s, hs, rfl⟩ := c
  rw [ix_nI (by omega)] at e
  obtain ⟨w, g1, g2, g3, g4, _, g6⟩ := h.net hs
  have hn := g4.2.2.2.2.2.1.le
  have gd := g4.2.2.2.2.2.2.1
  rw [e]
  refine b_X11_generated_10 h.k g6 (by rw [g1]; exact g3) (by rw [g1]; unfold Dyn at gd; omega) (by rw [g1]; exact g4.1.1) ?_
  rw [g1]
  refine ⟨_, _, _, _, c_isSet x2 (by omega) g4.1, b_X11_generated_25 (fun c => b_X11_generated_36 ⟨z_someI (zq_f (zb_0.mp c)).symm, rfl, rfl, rfl⟩) (fun c => ?_)⟩
  have c := zb_1.mp c
  rw [zq_t (show El (2 ^ (A.sl s).n) x2 from c)]
  obtain ⟨b, hb, rfl⟩ := c
  rw [ix_nI (z_lt31 hn hb)]
  exact b_X11_generated_28 g4.1.1 ⟨_, _, _, _, c_span (by omega) g4.1 hb, b_X11_generated_33 ⟨rfl, rfl, rfl, rfl⟩⟩
theorem c_kind (x1 x2 : Int32) (hd : 4 < d) (h : CW S I J a A) : z_ev d i_X11_kind [.ref a, .int x1, .int x2] S I J (some (.int (aKind (fun s => (A.sl s).n) (fun s => (A.sl s).t) (fun s => (A.sl s).iv) x1 x2))) S I J := by
  obtain ⟨d, rfl⟩ := z_dep (d := d) (by omega)
  refine e_X11_kind (b_X11_kind_0 ⟨_, _, _, _, c_isSlot x1 (by omega), b_X11_kind_4 (fun c => ?_) (fun c => b_X11_kind_7 ⟨z_someI (zq_f (zb_0.mp c)).symm, rfl, rfl, rfl⟩)⟩)
  have c := zb_1.mp c
  have e : aKind (fun s => (A.sl s).n) (fun s => (A.sl s).t) (fun s => (A.sl s).iv) x1 x2 = _ := zq_t c
  obtain ⟨s, hs, rfl⟩ := c
  rw [ix_nI (by omega)] at e
  obtain ⟨w, g1, g2, g3, g4, _, g6⟩ := h.net hs
  have hg := g4.2.2.2.2.2.1
  have hn := hg.le
  have gd := g4.2.2.2.2.2.2.1
  rw [e]
  refine b_X11_kind_10 h.k g6 (by rw [g1]; exact g3) (by rw [g1]; unfold Dyn at gd; omega) (by rw [g1]; exact g4.1.1) ?_
  rw [g1]
  refine ⟨_, _, _, _, c_isSet x2 (by omega) g4.1, b_X11_kind_25 (fun c => ?_) (fun c => b_X11_kind_28 ⟨z_someI (zq_f (zb_0.mp c)).symm, rfl, rfl, rfl⟩)⟩
  have c := zb_1.mp c
  rw [zq_t (show El (2 ^ (A.sl s).n) x2 from c)]
  obtain ⟨b, hb, rfl⟩ := c
  rw [ix_nI (z_lt31 hn hb)]
  refine b_X11_kind_31 g4.1.1 ⟨_, _, _, _, c_isClosed (by omega) g4.1 hb, b_X11_kind_36 (fun c => ?_) (fun c => b_X11_kind_39 ⟨z_someI ?_, rfl, rfl, rfl⟩)⟩
  · have c := zb_1.mp c
    refine b_X11_kind_41 g4.1.1 ⟨_, _, _, _, c_isOfWholeClasses (by omega) g4.1 hg g4.2.2.2.1 hb, b_X11_kind_46 (fun c2 => b_X11_kind_53 ⟨z_someI ?_, rfl, rfl, rfl⟩) (fun c2 => b_X11_kind_49 ⟨z_someI ?_, rfl, rfl, rfl⟩)⟩
    · have c2 := zb_0.mp c2
      have : knd (A.sl s).n (A.sl s).t (A.sl s).iv b = 1 := by unfold knd; rw [if_pos c, if_neg c2]
      rw [this]; rfl
    · have c2 := zb_1.mp c2
      have : knd (A.sl s).n (A.sl s).t (A.sl s).iv b = 2 := by unfold knd; rw [if_pos c, if_pos c2]
      rw [this]; rfl
  · have c := zb_0.mp c
    have : knd (A.sl s).n (A.sl s).t (A.sl s).iv b = 0 := by unfold knd; rw [if_neg c]
    rw [this]; rfl
end C30

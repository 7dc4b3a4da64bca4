/-! THE CLASS: parts -/
section C32
variable {d a : Nat} {A : Wst} {S : zS} {I : zI} {J : zJ}
theorem c_parts (x1 : Int32) (hd : 3 < d) (h : CW S I J a A) : z_ev d i_X11_parts [.ref a, .int x1] S I J (some (.int (aParts (fun s => (A.sl s).n) (fun s => (A.sl s).t) (fun s => (A.sl s).st) x1))) S I J := by
  obtain ⟨d, rfl⟩ := z_dep (d := d) (by omega)
  refine e_X11_parts (b_X11_parts_0 ⟨_, _, _, _, c_isSlot x1 (by omega), b_X11_parts_4 (fun c => ?_) (fun c => b_X11_parts_7 ⟨z_someI (zq_f (zb_0.mp c)).symm, rfl, rfl, rfl⟩)⟩)
  have c := zb_1.mp c
  have e : aParts (fun s => (A.sl s).n) (fun s => (A.sl s).t) (fun s => (A.sl s).st) x1 = _ := zq_t c
  obtain ⟨s, hs, rfl⟩ := c
  rw [ix_nI (by omega)] at e
  obtain ⟨w, g1, g2, g3, g4, _, g6⟩ := h.net hs
  obtain ⟨t1, t2, t3⟩ := h.st hs
  rw [← g2] at t1
  have hg := g4.2.2.2.2.2.1
  have hn := hg.le
  have hgl := gen_lt (A.sl s).n (A.sl s).t (A.sl s).st
  have hpos : 0 < zc (A.sl s).n (gen (A.sl s).n (A.sl s).t (A.sl s).st) := zc_pos hg.pos (gen_SG hg (A.sl s).st).z
  have hzc := zc_le (A.sl s).n (gen (A.sl s).n (A.sl s).t (A.sl s).st)
  rw [e]
  refine b_X11_parts_10 h.k g6 (by rw [g1]; omega) (by rw [g1]; exact g3) (by rw [g1]; exact g3) (by rw [g1]; exact g4.1.1) ?_
  rw [g1, t1]
  refine ⟨_, _, _, _, c_span (by omega) g4.1 t2, b_X11_parts_28 ⟨_, _, _, _, ev_bitCount (by omega) (z_lt24 hn hgl), ?_⟩⟩
  rw [zc24 hn hgl]
  refine b_X11_parts_31 (fun z => absurd z (nI_nle hpos (by omega))) (fun _ => b_X11_parts_36 g3 g4.1.1 (nI_ne0 hpos (by omega)) ⟨z_someI ?_, rfl, rfl, rfl⟩)
  rw [g4.1.2.1, pk_div (by omega) hpos (by omega)]
end C32

/-! THE LAW'S LOOP: each call that changes something, on both sides -/
section LW4
variable {d a : Nat} {A A' : Wst} {S : zS} {I : zI} {J : zJ}
theorem tp_same (h : TpOk A) (h1 : A'.tl = A.tl) (h2 : A'.tp = A.tp) : TpOk A' := fun j hj => by rw [h2]; exact h j (by rw [← h1]; exact hj)
theorem both_fault (x1 : Int32) (hd : 100 < d) (h : Inv S I J a A) : Bth d i_X11_fault i_X12_fault [.int x1] S I J a := by
  have e := c_fault x1 (d := d) (by omega) h.1
  obtain ⟨I2, e2, m⟩ := m_fault x1 (d := d) (I := I) (J := J) (by omega) h.2.1.1
  rw [h.2.1.2.2.2.2.2.2.1, h.2.1.2.2.2.2.2.2.2] at e2
  exact ⟨_, S, I, J, I2, A, e, e2, Hlf.ask h m, Cst.refl, Mo.refl, fun y hy => ⟨rfl, m.1 y (by omega) (by omega)⟩⟩
theorem both_count (x1 : Int32) (hd : 100 < d) (h : Inv S I J a A) : Bth d i_X11_count i_X12_count [.int x1] S I J a := by
  have e := c_count x1 (d := d) (by omega) h.1
  obtain ⟨I2, e2, m⟩ := m_count x1 (d := d) (I := I) (J := J) (by omega) h.2.1.1
  rw [h.2.1.2.2.1, h.2.1.2.2.2.2.1] at e2
  exact ⟨_, S, I, J, I2, A, e, e2, Hlf.ask h m, Cst.refl, Mo.refl, fun y hy => ⟨rfl, m.1 y (by omega) (by omega)⟩⟩
theorem wStep_tp {x1 x2 : Int32} (h : TpOk A) : TpOk (wStep A x1 x2) := by
  unfold wStep
  rcases Classical.em ((El 2 x1 ∧ El (A.sl (ix x1)).n x2) ∧ x2 ≠ 0) with c | c
  · rw [zq_t c]; exact tp_same h rfl rfl
  · rw [zq_f c]; exact h
theorem wBoth_tp {x1 : Int32} (h : TpOk A) : TpOk (wBoth A x1) := by
  unfold wBoth
  rcases Classical.em (El 2 x1) with c | c
  · rw [zq_t c]; exact tp_same h rfl rfl
  · rw [zq_f c]; exact h
theorem wQuot_tp {x1 x2 : Int32} (h : TpOk A) : TpOk (wQuot A x1 x2) := by
  unfold wQuot
  rcases Classical.em (qOk A x1 x2) with c | c
  · rw [zq_t c]; exact tp_same h rfl rfl
  · rw [zq_f c]; exact h
theorem wUndo_tp (h : TpOk A) : TpOk (wUndo A) := by
  unfold wUndo
  split
  · exact h
  · exact tp_same h rfl rfl
theorem both_step (x1 x2 : Int32) (hd : 100 < d) (h : Inv S I J a A) : Bth d i_X11_step i_X12_step [.int x1, .int x2] S I J a := by
  obtain ⟨S1, I1, J1, e, w, F, c⟩ := c_step x1 x2 (d := d) (by omega) h.1 h.2.2.2.2.2.2.1 h.2.2.1
  have q := h.cls w F (z_ev.mo e)
  obtain ⟨I2, e2, m, w2⟩ := m_step x1 x2 (d := d) (J := J1) (by omega) q.2.1 q.2.2.1
  exact ⟨_, S1, I1, J1, I2, _, e, e2, q.mfr m w2 (wStep_ok h.2.2.1) (wStep_tp h.2.2.2.1), c.up (by omega) (by omega), z_ev.mo e, fun y hy => ⟨(F y (Or.inl hy)).2.1, (m.1 y (by omega)).trans (F y (Or.inl hy)).2.1⟩⟩
theorem both_both (x1 : Int32) (hd : 100 < d) (h : Inv S I J a A) : Bth d i_X11_both i_X12_both [.int x1] S I J a := by
  obtain ⟨S1, I1, J1, e, w, F, c⟩ := c_both x1 (d := d) (by omega) h.1 h.2.2.2.2.2.2.1 h.2.2.1
  have q := h.cls w F (z_ev.mo e)
  obtain ⟨I2, e2, m, w2⟩ := m_both x1 (d := d) (J := J1) (by omega) q.2.1 q.2.2.1
  exact ⟨_, S1, I1, J1, I2, _, e, e2, q.mfr m w2 (wBoth_ok h.2.2.1) (wBoth_tp h.2.2.2.1), c.up (by omega) (by omega), z_ev.mo e, fun y hy => ⟨(F y (Or.inl hy)).2.1, (m.1 y (by omega)).trans (F y (Or.inl hy)).2.1⟩⟩
theorem both_quotient (x1 x2 : Int32) (hd : 100 < d) (h : Inv S I J a A) : Bth d i_X11_quotient i_X12_quotient [.int x1, .int x2] S I J a := by
  obtain ⟨S1, I1, J1, e, w, F, c⟩ := c_quotient x1 x2 (d := d) (by omega) h.1 h.2.2.2.2.2.2.1 h.2.2.1 h.2.2.2.2.2.2.2
  have q := h.cls w F (z_ev.mo e)
  obtain ⟨I2, e2, m, w2⟩ := m_quotient x1 x2 (d := d) (J := J1) (by omega) q.2.1 q.2.2.1
  exact ⟨_, S1, I1, J1, I2, _, e, e2, q.mfr m w2 (wQuot_ok h.2.2.1) (wQuot_tp h.2.2.2.1), c.up (by omega) (by omega), z_ev.mo e, fun y hy => ⟨(F y (Or.inl hy)).2.1, (m.1 y (by omega)).trans (F y (Or.inl hy)).2.1⟩⟩
theorem both_undo (hd : 100 < d) (h : Inv S I J a A) : Bth d i_X11_undo i_X12_undo [] S I J a := by
  obtain ⟨S1, I1, J1, e, w, F, c⟩ := c_undo (d := d) (by omega) h.1 h.2.2.2.2.2.2.1 h.2.2.1
  have q := h.cls w F (z_ev.mo e)
  obtain ⟨I2, e2, m, w2⟩ := m_undo (d := d) (J := J1) (by omega) q.2.1 q.2.2.1
  exact ⟨_, S1, I1, J1, I2, _, e, e2, q.mfr m w2 (wUndo_ok h.2.2.1) (wUndo_tp h.2.2.2.1), c.up (by omega) (by omega), z_ev.mo e, fun y hy => ⟨(F y (Or.inl hy)).2.1, (m.1 y (by omega)).trans (F y (Or.inl hy)).2.1⟩⟩
end LW4

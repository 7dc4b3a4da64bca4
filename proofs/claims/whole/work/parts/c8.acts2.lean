/-! THE LAW'S LOOP: feed, tell and symmetries on both sides -/
section LW5
variable {d a : Nat} {A A' : Wst} {S : zS} {I : zI} {J : zJ}
theorem wFeed_tp {x1 x2 x3 x4 x5 : Int32} (h : TpOk A) : TpOk (wFeed A x1 x2 x3 x4 x5) := by
  unfold wFeed
  split
  · intro j _
    show Byt (if j < A.tl then A.tp j else fdb x1 x2 x3 x4 x5 (j - A.tl))
    split
    · exact h j (by assumption)
    · exact ⟨_, rfl⟩
  · exact h
theorem wTell_tp {x1 x2 : Int32} (h : TpOk A) : TpOk (wTell A x1 x2) := by
  unfold wTell
  rcases Classical.em (El 2 x1 ∧ El (A.tl + 1) x2) with c | c
  · rw [zq_t c]
    rcases txR A (ix x1) (ix x2) with r | r
    · exact fun j hj => absurd (show j < 0 from hj) (by omega)
    · exact fun j hj => absurd (show j < 0 from hj) (by omega)
  · rw [zq_f c]; exact h
theorem both_feed (x1 x2 x3 x4 x5 : Int32) (hd : 100 < d) (h : Inv S I J a A) : Bth d i_X11_feed i_X12_feed [.int x1, .int x2, .int x3, .int x4, .int x5] S I J a := by
  obtain ⟨I1, e, f, w⟩ := c_feed x1 x2 x3 x4 x5 (d := d) (by omega) h.1 h.2.2.1
  have F : FR a S I J S I1 J := FR.ints (fun y hy => f y (by omega) (by omega))
  have q := h.cls w F (z_ev.mo e)
  obtain ⟨I2, e2, m, w2⟩ := m_feed x1 x2 x3 x4 x5 (d := d) (J := J) (by omega) q.2.1 q.2.2.1
  exact ⟨_, S, I1, J, I2, _, e, e2, q.mfr m w2 (wFeed_ok h.2.2.1) (wFeed_tp h.2.2.2.1), Cst.refl, Mo.refl, fun y hy => ⟨(F y (Or.inl hy)).2.1, (m.1 y (by omega)).trans (F y (Or.inl hy)).2.1⟩⟩
theorem both_tell (x1 x2 : Int32) (hd : 100 < d) (h : Inv S I J a A) : Bth d i_X11_tell i_X12_tell [.int x1, .int x2] S I J a := by
  obtain ⟨S1, I1, J1, e, w, F, c⟩ := c_tell x1 x2 (d := d) (by omega) h.1 h.2.2.2.2.2.2.1 h.2.2.2.2.2.2.2 h.2.2.2.2.2.1 h.2.2.1
  have q := h.cls w F (z_ev.mo e)
  obtain ⟨I2, e2, m, ev, w2, ok⟩ := m_tell x1 x2 (d := d) (J := J1) (by omega) q.2.1 q.2.2.1 q.2.2.2.1 q.2.2.2.2.2.1.2.2.1 q.2.2.2.2.1
  exact ⟨_, S1, I1, J1, I2, _, e, e2, q.act (fun y hy => m y (by omega)) ev w2 ok (wTell_tp h.2.2.2.1), c, z_ev.mo e, fun y hy => ⟨(F y (Or.inl hy)).2.1, (m y (by omega)).trans (F y (Or.inl hy)).2.1⟩⟩
theorem both_symmetries (x1 : Int32) (hd : 100 < d) (h : Inv S I J a A) : ∃ (v : Int64) (S1 : zS) (I1 : zI) (J1 : zJ) (I2 : zI) (A2 : Wst), z_ev d i_X11_symmetries [.ref a, .int x1] S I J (some (.long v)) S1 I1 J1 ∧ z_ev d i_X12_symmetries [.ref (a + 72), .int x1] S1 I1 J1 (some (.long v)) S1 I2 J1 ∧ Inv S1 I2 J1 a A2 ∧ Cst 9 700 S S1 ∧ Mo S S1 ∧ ∀ y, y < a → I1 y = I y ∧ I2 y = I y := by
  obtain ⟨S1, I1, J1, e, w, F, c⟩ := c_symmetries x1 (d := d) (by omega) h.1 h.2.2.2.2.2.2.1
  have q := h.cls w F (z_ev.mo e)
  obtain ⟨I2, e2, m⟩ := m_symmetries x1 (d := d) (J := J1) (by omega) (q.2.1.ms q.2.2.1) q.2.2.1.gsx
  exact ⟨_, S1, I1, J1, I2, A, e, e2, q.ask m, c.up (by omega) (by omega), z_ev.mo e, fun y hy => ⟨(F y (Or.inl hy)).2.1, (m.1 y (by omega) (by omega)).trans (F y (Or.inl hy)).2.1⟩⟩
end LW5

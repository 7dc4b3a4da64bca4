/-! THE LAW'S LOOP: each call that asks, on both sides (written by wip/whole/gen_c6.py) -/
/-- both sides do a call and answer alike -/
def Bth (d yc ym : Nat) (xs : List Value) (S : zS) (I : zI) (J : zJ) (a : Nat) : Prop := ∃ (v : Int32) (S1 : zS) (I1 : zI) (J1 : zJ) (I2 : zI) (A2 : Wst), z_ev d yc (.ref a :: xs) S I J (some (.int v)) S1 I1 J1 ∧ z_ev d ym (.ref (a + 72) :: xs) S1 I1 J1 (some (.int v)) S1 I2 J1 ∧ Inv S1 I2 J1 a A2 ∧ Cst 9 700 S S1 ∧ Mo S S1 ∧ ∀ y, y < a → I1 y = I y ∧ I2 y = I y
section LW3
variable {d a : Nat} {A : Wst} {S : zS} {I : zI} {J : zJ}
theorem WOk.gsx (h : WOk A) : GS (fun s => (A.sl s).n) (fun s => (A.sl s).t) (fun s => (A.sl s).iv) (fun s => (A.sl s).st) := fun s hs => ⟨(h.1 s hs).1, (h.1 s hs).2.1, (h.1 s hs).2.2.1⟩
theorem Cst.up {c l : Nat} {S' : zS} (h : Cst c l S S') (hc : c ≤ 9) (hl : l ≤ 700) : Cst 9 700 S S' := ⟨by have := h.1; omega, by have := h.2; omega⟩
theorem both_size (x1 x2 : Int32) (hd : 100 < d) (h : Inv S I J a A) : Bth d i_X11_size i_X12_size [.int x1, .int x2] S I J a := by
  obtain ⟨S1, I1, e, w, F, c⟩ := c_size x1 x2 (d := d) (by omega) h.1 h.2.2.2.2.2.2.1 h.2.2.2.2.2.2.2
  have q := h.cls w F (z_ev.mo e)
  have fr : ∀ y, y < a → I1 y = I y := fun y hy => (F y (Or.inl hy)).2.1
  obtain ⟨I2, e2, m⟩ := m_size x1 x2 (d := d) (J := J) (by omega) (q.2.1.ms q.2.2.1) q.2.2.1.gsx
  exact ⟨_, S1, I1, J, I2, A, e, e2, q.ask m, c.up (by omega) (by omega), z_ev.mo e, fun y hy => ⟨fr y hy, (m.1 y (by omega) (by omega)).trans (fr y hy)⟩⟩
theorem both_product (x1 x2 x3 : Int32) (hd : 100 < d) (h : Inv S I J a A) : Bth d i_X11_product i_X12_product [.int x1, .int x2, .int x3] S I J a := by
  have e := c_product x1 x2 x3 (d := d) (by omega) h.1
  have q : Hlf S I J a A A := h
  have fr : ∀ y, y < a → I y = I y := fun _ _ => rfl
  obtain ⟨I2, e2, m⟩ := m_product x1 x2 x3 (d := d) (J := J) (by omega) (q.2.1.ms q.2.2.1) q.2.2.1.gsx
  exact ⟨_, S, I, J, I2, A, e, e2, q.ask m, Cst.refl, Mo.refl, fun y hy => ⟨fr y hy, (m.1 y (by omega) (by omega)).trans (fr y hy)⟩⟩
theorem both_element (x1 x2 x3 : Int32) (hd : 100 < d) (h : Inv S I J a A) : Bth d i_X11_element i_X12_element [.int x1, .int x2, .int x3] S I J a := by
  have e := c_element x1 x2 x3 (d := d) (by omega) h.1
  have q : Hlf S I J a A A := h
  have fr : ∀ y, y < a → I y = I y := fun _ _ => rfl
  obtain ⟨I2, e2, m⟩ := m_element x1 x2 x3 (d := d) (J := J) (by omega) (q.2.1.ms q.2.2.1) q.2.2.1.gsx
  exact ⟨_, S, I, J, I2, A, e, e2, q.ask m, Cst.refl, Mo.refl, fun y hy => ⟨fr y hy, (m.1 y (by omega) (by omega)).trans (fr y hy)⟩⟩
theorem both_classOf (x1 x2 : Int32) (hd : 100 < d) (h : Inv S I J a A) : Bth d i_X11_classOf i_X12_classOf [.int x1, .int x2] S I J a := by
  have e := c_classOf x1 x2 (d := d) (by omega) h.1
  have q : Hlf S I J a A A := h
  have fr : ∀ y, y < a → I y = I y := fun _ _ => rfl
  obtain ⟨I2, e2, m⟩ := m_classOf x1 x2 (d := d) (J := J) (by omega) (q.2.1.ms q.2.2.1) q.2.2.1.gsx
  exact ⟨_, S, I, J, I2, A, e, e2, q.ask m, Cst.refl, Mo.refl, fun y hy => ⟨fr y hy, (m.1 y (by omega) (by omega)).trans (fr y hy)⟩⟩
theorem both_generated (x1 x2 : Int32) (hd : 100 < d) (h : Inv S I J a A) : Bth d i_X11_generated i_X12_generated [.int x1, .int x2] S I J a := by
  have e := c_generated x1 x2 (d := d) (by omega) h.1
  have q : Hlf S I J a A A := h
  have fr : ∀ y, y < a → I y = I y := fun _ _ => rfl
  obtain ⟨I2, e2, m⟩ := m_generated x1 x2 (d := d) (J := J) (by omega) (q.2.1.ms q.2.2.1) q.2.2.1.gsx
  exact ⟨_, S, I, J, I2, A, e, e2, q.ask m, Cst.refl, Mo.refl, fun y hy => ⟨fr y hy, (m.1 y (by omega) (by omega)).trans (fr y hy)⟩⟩
theorem both_subgroup (x1 x2 : Int32) (hd : 100 < d) (h : Inv S I J a A) : Bth d i_X11_subgroup i_X12_subgroup [.int x1, .int x2] S I J a := by
  obtain ⟨S1, I1, e, w, F, c⟩ := c_subgroup x1 x2 (d := d) (by omega) h.1 h.2.2.2.2.2.2.1 h.2.2.2.2.2.2.2
  have q := h.cls w F (z_ev.mo e)
  have fr : ∀ y, y < a → I1 y = I y := fun y hy => (F y (Or.inl hy)).2.1
  obtain ⟨I2, e2, m⟩ := m_subgroup x1 x2 (d := d) (J := J) (by omega) (q.2.1.ms q.2.2.1) q.2.2.1.gsx
  exact ⟨_, S1, I1, J, I2, A, e, e2, q.ask m, c.up (by omega) (by omega), z_ev.mo e, fun y hy => ⟨fr y hy, (m.1 y (by omega) (by omega)).trans (fr y hy)⟩⟩
theorem both_kind (x1 x2 : Int32) (hd : 100 < d) (h : Inv S I J a A) : Bth d i_X11_kind i_X12_kind [.int x1, .int x2] S I J a := by
  have e := c_kind x1 x2 (d := d) (by omega) h.1
  have q : Hlf S I J a A A := h
  have fr : ∀ y, y < a → I y = I y := fun _ _ => rfl
  obtain ⟨I2, e2, m⟩ := m_kind x1 x2 (d := d) (J := J) (by omega) (q.2.1.ms q.2.2.1) q.2.2.1.gsx
  exact ⟨_, S, I, J, I2, A, e, e2, q.ask m, Cst.refl, Mo.refl, fun y hy => ⟨fr y hy, (m.1 y (by omega) (by omega)).trans (fr y hy)⟩⟩
theorem both_maps (x1 : Int32) (hd : 100 < d) (h : Inv S I J a A) : Bth d i_X11_maps i_X12_maps [.int x1] S I J a := by
  obtain ⟨S1, I1, e, w, F, c⟩ := c_maps x1 (d := d) (by omega) h.1 h.2.2.2.2.2.2.1 h.2.2.2.2.2.2.2
  have q := h.cls w F (z_ev.mo e)
  have fr : ∀ y, y < a → I1 y = I y := fun y hy => (F y (Or.inl hy)).2.1
  obtain ⟨I2, e2, m⟩ := m_maps x1 (d := d) (J := J) (by omega) (q.2.1.ms q.2.2.1) q.2.2.1.gsx
  exact ⟨_, S1, I1, J, I2, A, e, e2, q.ask m, c.up (by omega) (by omega), z_ev.mo e, fun y hy => ⟨fr y hy, (m.1 y (by omega) (by omega)).trans (fr y hy)⟩⟩
theorem both_mapped (x1 : Int32) (hd : 100 < d) (h : Inv S I J a A) : Bth d i_X11_mapped i_X12_mapped [.int x1] S I J a := by
  obtain ⟨S1, I1, e, w, F, c⟩ := c_mapped x1 (d := d) (by omega) h.1 h.2.2.2.2.2.2.1
  have q := h.cls w F (z_ev.mo e)
  have fr : ∀ y, y < a → I1 y = I y := fun y hy => (F y (Or.inl hy)).2.1
  obtain ⟨I2, e2, m⟩ := m_mapped x1 (d := d) (J := J) (by omega) (q.2.1.ms q.2.2.1) q.2.2.1.gsx
  exact ⟨_, S1, I1, J, I2, A, e, e2, q.ask m, c.up (by omega) (by omega), z_ev.mo e, fun y hy => ⟨fr y hy, (m.1 y (by omega) (by omega)).trans (fr y hy)⟩⟩
theorem both_far (x1 x2 x3 : Int32) (hd : 100 < d) (h : Inv S I J a A) : Bth d i_X11_far i_X12_far [.int x1, .int x2, .int x3] S I J a := by
  obtain ⟨I1, e, f, w⟩ := c_far x1 x2 x3 (d := d) (by omega) h.1
  have q := h.cls w (FR.ints f) (z_ev.mo e)
  have fr : ∀ y, y < a → I1 y = I y := fun y hy => f y (Or.inl hy)
  obtain ⟨I2, e2, m⟩ := m_far x1 x2 x3 (d := d) (J := J) (by omega) (q.2.1.ms q.2.2.1) q.2.2.1.gsx
  exact ⟨_, S, I1, J, I2, A, e, e2, q.ask m, Cst.refl, Mo.refl, fun y hy => ⟨fr y hy, (m.1 y (by omega) (by omega)).trans (fr y hy)⟩⟩
theorem both_sphere (x1 x2 : Int32) (hd : 100 < d) (h : Inv S I J a A) : Bth d i_X11_sphere i_X12_sphere [.int x1, .int x2] S I J a := by
  obtain ⟨I1, e, f, w⟩ := c_sphere x1 x2 (d := d) (by omega) h.1
  have q := h.cls w (FR.ints f) (z_ev.mo e)
  have fr : ∀ y, y < a → I1 y = I y := fun y hy => f y (Or.inl hy)
  obtain ⟨I2, e2, m⟩ := m_sphere x1 x2 (d := d) (J := J) (by omega) (q.2.1.ms q.2.2.1) q.2.2.1.gsx
  exact ⟨_, S, I1, J, I2, A, e, e2, q.ask m, Cst.refl, Mo.refl, fun y hy => ⟨fr y hy, (m.1 y (by omega) (by omega)).trans (fr y hy)⟩⟩
theorem both_way (x1 x2 x3 : Int32) (hd : 100 < d) (h : Inv S I J a A) : Bth d i_X11_way i_X12_way [.int x1, .int x2, .int x3] S I J a := by
  obtain ⟨I1, e, f, w⟩ := c_way x1 x2 x3 (d := d) (by omega) h.1
  have q := h.cls w (FR.ints f) (z_ev.mo e)
  have fr : ∀ y, y < a → I1 y = I y := fun y hy => f y (Or.inl hy)
  obtain ⟨I2, e2, m⟩ := m_way x1 x2 x3 (d := d) (J := J) (by omega) (q.2.1.ms q.2.2.1) q.2.2.1.gsx
  exact ⟨_, S, I1, J, I2, A, e, e2, q.ask m, Cst.refl, Mo.refl, fun y hy => ⟨fr y hy, (m.1 y (by omega) (by omega)).trans (fr y hy)⟩⟩
theorem both_ring (x1 : Int32) (hd : 100 < d) (h : Inv S I J a A) : Bth d i_X11_ring i_X12_ring [.int x1] S I J a := by
  obtain ⟨I1, e, f, w⟩ := c_ring x1 (d := d) (by omega) h.1
  have q := h.cls w (FR.ints f) (z_ev.mo e)
  have fr : ∀ y, y < a → I1 y = I y := fun y hy => f y (Or.inl hy)
  obtain ⟨I2, e2, m⟩ := m_ring x1 (d := d) (J := J) (by omega) (q.2.1.ms q.2.2.1) q.2.2.1.gsx
  exact ⟨_, S, I1, J, I2, A, e, e2, q.ask m, Cst.refl, Mo.refl, fun y hy => ⟨fr y hy, (m.1 y (by omega) (by omega)).trans (fr y hy)⟩⟩
theorem both_parts (x1 : Int32) (hd : 100 < d) (h : Inv S I J a A) : Bth d i_X11_parts i_X12_parts [.int x1] S I J a := by
  have e := c_parts x1 (d := d) (by omega) h.1
  have q : Hlf S I J a A A := h
  have fr : ∀ y, y < a → I y = I y := fun _ _ => rfl
  obtain ⟨I2, e2, m⟩ := m_parts x1 (d := d) (J := J) (by omega) (q.2.1.ms q.2.2.1) q.2.2.1.gsx
  exact ⟨_, S, I, J, I2, A, e, e2, q.ask m, Cst.refl, Mo.refl, fun y hy => ⟨fr y hy, (m.1 y (by omega) (by omega)).trans (fr y hy)⟩⟩
theorem both_alikeTo (x1 x2 : Int32) (hd : 100 < d) (h : Inv S I J a A) : Bth d i_X11_alikeTo i_X12_alikeTo [.int x1, .int x2] S I J a := by
  obtain ⟨S1, I1, J1, e, w, F, c⟩ := c_alikeTo x1 x2 (d := d) (by omega) h.1 h.2.2.2.2.2.2.1
  have q := h.cls w F (z_ev.mo e)
  have fr : ∀ y, y < a → I1 y = I y := fun y hy => (F y (Or.inl hy)).2.1
  obtain ⟨I2, e2, m⟩ := m_alikeTo x1 x2 (d := d) (J := J1) (by omega) (q.2.1.ms q.2.2.1) q.2.2.1.gsx
  exact ⟨_, S1, I1, J1, I2, A, e, e2, q.ask m, c.up (by omega) (by omega), z_ev.mo e, fun y hy => ⟨fr y hy, (m.1 y (by omega) (by omega)).trans (fr y hy)⟩⟩
theorem both_regular (x1 x2 : Int32) (hd : 100 < d) (h : Inv S I J a A) : Bth d i_X11_regular i_X12_regular [.int x1, .int x2] S I J a := by
  obtain ⟨S1, I1, J1, e, w, F, c⟩ := c_regular x1 x2 (d := d) (by omega) h.1 h.2.2.2.2.2.2.1
  have q := h.cls w F (z_ev.mo e)
  have fr : ∀ y, y < a → I1 y = I y := fun y hy => (F y (Or.inl hy)).2.1
  obtain ⟨I2, e2, m⟩ := m_regular x1 x2 (d := d) (J := J1) (by omega) (q.2.1.ms q.2.2.1) q.2.2.1.gsx
  exact ⟨_, S1, I1, J1, I2, A, e, e2, q.ask m, c.up (by omega) (by omega), z_ev.mo e, fun y hy => ⟨fr y hy, (m.1 y (by omega) (by omega)).trans (fr y hy)⟩⟩
theorem both_alike (x1 : Int32) (hd : 100 < d) (h : Inv S I J a A) : Bth d i_X11_alike i_X12_alike [.int x1] S I J a := by
  obtain ⟨S1, I1, e, w, F, c⟩ := c_alike x1 (d := d) (by omega) h.1 h.2.2.2.2.2.2.1
  have q := h.cls w F (z_ev.mo e)
  have fr : ∀ y, y < a → I1 y = I y := fun y hy => (F y (Or.inl hy)).2.1
  obtain ⟨I2, e2, m⟩ := m_alike x1 (d := d) (J := J) (by omega) (q.2.1.ms q.2.2.1) q.2.2.1.gsx
  exact ⟨_, S1, I1, J, I2, A, e, e2, q.ask m, c.up (by omega) (by omega), z_ev.mo e, fun y hy => ⟨fr y hy, (m.1 y (by omega) (by omega)).trans (fr y hy)⟩⟩
theorem both_other (hd : 100 < d) (h : Inv S I J a A) : Bth d i_X11_other i_X12_other [] S I J a := by
  obtain ⟨S1, I1, e, w, F, c⟩ := c_other (d := d) (by omega) h.1 h.2.2.2.2.2.2.1
  have q := h.cls w F (z_ev.mo e)
  have fr : ∀ y, y < a → I1 y = I y := fun y hy => (F y (Or.inl hy)).2.1
  obtain ⟨I2, e2, m⟩ := m_other (d := d) (J := J) (by omega) (q.2.1.ms q.2.2.1) q.2.2.1.gsx
  exact ⟨_, S1, I1, J, I2, A, e, e2, q.ask m, c.up (by omega) (by omega), z_ev.mo e, fun y hy => ⟨fr y hy, (m.1 y (by omega) (by omega)).trans (fr y hy)⟩⟩
theorem both_name (x1 x2 x3 : Int32) (hd : 100 < d) (h : Inv S I J a A) : Bth d i_X11_name i_X12_name [.int x1, .int x2, .int x3] S I J a := by
  have e := c_name x1 x2 x3 (d := d) (by omega) h.1
  have q : Hlf S I J a A A := h
  have fr : ∀ y, y < a → I y = I y := fun _ _ => rfl
  obtain ⟨I2, e2, m⟩ := m_name x1 x2 x3 (d := d) (J := J) (by omega) (q.2.1.ms q.2.2.1) q.2.2.1.gsx (q.2.1.nm q.2.2.1)
  exact ⟨_, S, I, J, I2, A, e, e2, q.ask m, Cst.refl, Mo.refl, fun y hy => ⟨fr y hy, (m.1 y (by omega) (by omega)).trans (fr y hy)⟩⟩
end LW3

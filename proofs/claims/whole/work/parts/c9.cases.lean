/-! THE LAW'S LOOP: its 28 cases (written by wip/whole/gen_c9.py) -/
/-- the script's places that a call reads -/
def Scr (S : zS) (h0 : Nat) (x3 : Int32) : Prop := ∀ j : Int32, (j = 1 ∨ j = 2 ∨ j = 3 ∨ j = 4 ∨ j = 5) → z_isI (z_kd S h0) = true ∧ vp_in (x3 + j) (z_ln S h0)
section LW6
variable {d a h0 : Nat} {x3 : Int32} {A : Wst} {S S1 : zS} {I : zI} {J : zJ} {Q : zQ}
theorem Scr.mo (h : Scr S h0 x3) (hm : Mo S S1) (hh : h0 ≤ z_sz S) : Scr S1 h0 x3 := fun j hj => by
  rw [(hm.2.1 h0 hh).1, (hm.2.1 h0 hh).2]; exact h j hj
theorem lg_same (w : Int64) : lg_cmp w w = 0 := by
  unfold lg_cmp
  simp
/-- what comes after a call -/
def Nxt (d a h0 : Nat) (x3 : Int32) (S : zS) (I : zI) (Q : zQ) : Prop := ∀ (S1 : zS) (I1 : zI) (J1 : zJ) (A2 : Wst), Inv S1 I1 J1 a A2 → Cst 9 700 S S1 → Mo S S1 → (∀ y, y < a → I1 y = I y) → Go d i_law 1035 [.ref h0, .ref a, .ref (a + 72), .int x3] [] S1 I1 J1 Q
theorem lw_feed (hd : 100 < d) (h : Inv S I J a A) (hh : h0 < a) (g : Scr S h0 x3) (K : Nxt d a h0 x3 S I Q) : Go d i_law 160 [.ref h0, .ref a, .ref (a + 72), .int x3] [] S I J Q := by
  obtain ⟨v, S1, I1, J1, I2, A2, e, e2, w, c, mo, fr⟩ := both_feed (I h0 (Int32.toNatClampNeg (x3 + (1 : Int32)))) (I h0 (Int32.toNatClampNeg (x3 + (2 : Int32)))) (I h0 (Int32.toNatClampNeg (x3 + (3 : Int32)))) (I h0 (Int32.toNatClampNeg (x3 + (4 : Int32)))) (I h0 (Int32.toNatClampNeg (x3 + (5 : Int32)))) hd h
  have g1 := g.mo mo (by have := h.2.2.2.2.2.2.2; omega)
  refine b_law_160 (g 1 (Or.inl rfl)) (g 2 (Or.inr (Or.inl rfl))) (g 3 (Or.inr (Or.inr (Or.inl rfl)))) (g 4 (Or.inr (Or.inr (Or.inr (Or.inl rfl))))) (g 5 (Or.inr (Or.inr (Or.inr (Or.inr rfl))))) h.1.k (z_ev.wp e (b_law_189 (g1 1 (Or.inl rfl)) (g1 2 (Or.inr (Or.inl rfl))) (g1 3 (Or.inr (Or.inr (Or.inl rfl)))) (g1 4 (Or.inr (Or.inr (Or.inr (Or.inl rfl))))) (g1 5 (Or.inr (Or.inr (Or.inr (Or.inr rfl))))) w.2.1.1.1 ?_))
  rw [(fr h0 hh).1]
  exact z_ev.wp e2 (b_law_218 (fun _ => K S1 I2 J1 A2 w c mo (fun y hy => (fr y hy).2)) (fun z => absurd (rfl) z))
theorem lw_tell (hd : 100 < d) (h : Inv S I J a A) (hh : h0 < a) (g : Scr S h0 x3) (K : Nxt d a h0 x3 S I Q) : Go d i_law 223 [.ref h0, .ref a, .ref (a + 72), .int x3] [] S I J Q := by
  obtain ⟨v, S1, I1, J1, I2, A2, e, e2, w, c, mo, fr⟩ := both_tell (I h0 (Int32.toNatClampNeg (x3 + (1 : Int32)))) (I h0 (Int32.toNatClampNeg (x3 + (2 : Int32)))) hd h
  have g1 := g.mo mo (by have := h.2.2.2.2.2.2.2; omega)
  refine b_law_223 (g 1 (Or.inl rfl)) (g 2 (Or.inr (Or.inl rfl))) h.1.k (z_ev.wp e (b_law_237 (g1 1 (Or.inl rfl)) (g1 2 (Or.inr (Or.inl rfl))) w.2.1.1.1 ?_))
  rw [(fr h0 hh).1]
  exact z_ev.wp e2 (b_law_251 (fun _ => K S1 I2 J1 A2 w c mo (fun y hy => (fr y hy).2)) (fun z => absurd (rfl) z))
theorem lw_fault (hd : 100 < d) (h : Inv S I J a A) (hh : h0 < a) (g : Scr S h0 x3) (K : Nxt d a h0 x3 S I Q) : Go d i_law 256 [.ref h0, .ref a, .ref (a + 72), .int x3] [] S I J Q := by
  obtain ⟨v, S1, I1, J1, I2, A2, e, e2, w, c, mo, fr⟩ := both_fault (I h0 (Int32.toNatClampNeg (x3 + (1 : Int32)))) hd h
  have g1 := g.mo mo (by have := h.2.2.2.2.2.2.2; omega)
  refine b_law_256 (g 1 (Or.inl rfl)) h.1.k (z_ev.wp e (b_law_265 (g1 1 (Or.inl rfl)) w.2.1.1.1 ?_))
  rw [(fr h0 hh).1]
  exact z_ev.wp e2 (b_law_274 (fun _ => K S1 I2 J1 A2 w c mo (fun y hy => (fr y hy).2)) (fun z => absurd (rfl) z))
theorem lw_step (hd : 100 < d) (h : Inv S I J a A) (hh : h0 < a) (g : Scr S h0 x3) (K : Nxt d a h0 x3 S I Q) : Go d i_law 279 [.ref h0, .ref a, .ref (a + 72), .int x3] [] S I J Q := by
  obtain ⟨v, S1, I1, J1, I2, A2, e, e2, w, c, mo, fr⟩ := both_step (I h0 (Int32.toNatClampNeg (x3 + (1 : Int32)))) (I h0 (Int32.toNatClampNeg (x3 + (2 : Int32)))) hd h
  have g1 := g.mo mo (by have := h.2.2.2.2.2.2.2; omega)
  refine b_law_279 (g 1 (Or.inl rfl)) (g 2 (Or.inr (Or.inl rfl))) h.1.k (z_ev.wp e (b_law_293 (g1 1 (Or.inl rfl)) (g1 2 (Or.inr (Or.inl rfl))) w.2.1.1.1 ?_))
  rw [(fr h0 hh).1]
  exact z_ev.wp e2 (b_law_307 (fun _ => K S1 I2 J1 A2 w c mo (fun y hy => (fr y hy).2)) (fun z => absurd (rfl) z))
theorem lw_both (hd : 100 < d) (h : Inv S I J a A) (hh : h0 < a) (g : Scr S h0 x3) (K : Nxt d a h0 x3 S I Q) : Go d i_law 312 [.ref h0, .ref a, .ref (a + 72), .int x3] [] S I J Q := by
  obtain ⟨v, S1, I1, J1, I2, A2, e, e2, w, c, mo, fr⟩ := both_both (I h0 (Int32.toNatClampNeg (x3 + (1 : Int32)))) hd h
  have g1 := g.mo mo (by have := h.2.2.2.2.2.2.2; omega)
  refine b_law_312 (g 1 (Or.inl rfl)) h.1.k (z_ev.wp e (b_law_321 (g1 1 (Or.inl rfl)) w.2.1.1.1 ?_))
  rw [(fr h0 hh).1]
  exact z_ev.wp e2 (b_law_330 (fun _ => K S1 I2 J1 A2 w c mo (fun y hy => (fr y hy).2)) (fun z => absurd (rfl) z))
theorem lw_quotient (hd : 100 < d) (h : Inv S I J a A) (hh : h0 < a) (g : Scr S h0 x3) (K : Nxt d a h0 x3 S I Q) : Go d i_law 335 [.ref h0, .ref a, .ref (a + 72), .int x3] [] S I J Q := by
  obtain ⟨v, S1, I1, J1, I2, A2, e, e2, w, c, mo, fr⟩ := both_quotient (I h0 (Int32.toNatClampNeg (x3 + (1 : Int32)))) (I h0 (Int32.toNatClampNeg (x3 + (2 : Int32)))) hd h
  have g1 := g.mo mo (by have := h.2.2.2.2.2.2.2; omega)
  refine b_law_335 (g 1 (Or.inl rfl)) (g 2 (Or.inr (Or.inl rfl))) h.1.k (z_ev.wp e (b_law_349 (g1 1 (Or.inl rfl)) (g1 2 (Or.inr (Or.inl rfl))) w.2.1.1.1 ?_))
  rw [(fr h0 hh).1]
  exact z_ev.wp e2 (b_law_363 (fun _ => K S1 I2 J1 A2 w c mo (fun y hy => (fr y hy).2)) (fun z => absurd (rfl) z))
theorem lw_undo (hd : 100 < d) (h : Inv S I J a A) (hh : h0 < a) (g : Scr S h0 x3) (K : Nxt d a h0 x3 S I Q) : Go d i_law 368 [.ref h0, .ref a, .ref (a + 72), .int x3] [] S I J Q := by
  obtain ⟨v, S1, I1, J1, I2, A2, e, e2, w, c, mo, fr⟩ := both_undo hd h
  have g1 := g.mo mo (by have := h.2.2.2.2.2.2.2; omega)
  refine b_law_368 h.1.k (z_ev.wp e (b_law_372 w.2.1.1.1 ?_))
  exact z_ev.wp e2 (b_law_376 (fun _ => K S1 I2 J1 A2 w c mo (fun y hy => (fr y hy).2)) (fun z => absurd (rfl) z))
theorem lw_size (hd : 100 < d) (h : Inv S I J a A) (hh : h0 < a) (g : Scr S h0 x3) (K : Nxt d a h0 x3 S I Q) : Go d i_law 381 [.ref h0, .ref a, .ref (a + 72), .int x3] [] S I J Q := by
  obtain ⟨v, S1, I1, J1, I2, A2, e, e2, w, c, mo, fr⟩ := both_size (I h0 (Int32.toNatClampNeg (x3 + (1 : Int32)))) (I h0 (Int32.toNatClampNeg (x3 + (2 : Int32)))) hd h
  have g1 := g.mo mo (by have := h.2.2.2.2.2.2.2; omega)
  refine b_law_381 (g 1 (Or.inl rfl)) (g 2 (Or.inr (Or.inl rfl))) h.1.k (z_ev.wp e (b_law_395 (g1 1 (Or.inl rfl)) (g1 2 (Or.inr (Or.inl rfl))) w.2.1.1.1 ?_))
  rw [(fr h0 hh).1]
  exact z_ev.wp e2 (b_law_409 (fun _ => K S1 I2 J1 A2 w c mo (fun y hy => (fr y hy).2)) (fun z => absurd (rfl) z))
theorem lw_product (hd : 100 < d) (h : Inv S I J a A) (hh : h0 < a) (g : Scr S h0 x3) (K : Nxt d a h0 x3 S I Q) : Go d i_law 414 [.ref h0, .ref a, .ref (a + 72), .int x3] [] S I J Q := by
  obtain ⟨v, S1, I1, J1, I2, A2, e, e2, w, c, mo, fr⟩ := both_product (I h0 (Int32.toNatClampNeg (x3 + (1 : Int32)))) (I h0 (Int32.toNatClampNeg (x3 + (2 : Int32)))) (I h0 (Int32.toNatClampNeg (x3 + (3 : Int32)))) hd h
  have g1 := g.mo mo (by have := h.2.2.2.2.2.2.2; omega)
  refine b_law_414 (g 1 (Or.inl rfl)) (g 2 (Or.inr (Or.inl rfl))) (g 3 (Or.inr (Or.inr (Or.inl rfl)))) h.1.k (z_ev.wp e (b_law_433 (g1 1 (Or.inl rfl)) (g1 2 (Or.inr (Or.inl rfl))) (g1 3 (Or.inr (Or.inr (Or.inl rfl)))) w.2.1.1.1 ?_))
  rw [(fr h0 hh).1]
  exact z_ev.wp e2 (b_law_452 (fun _ => K S1 I2 J1 A2 w c mo (fun y hy => (fr y hy).2)) (fun z => absurd (rfl) z))
theorem lw_element (hd : 100 < d) (h : Inv S I J a A) (hh : h0 < a) (g : Scr S h0 x3) (K : Nxt d a h0 x3 S I Q) : Go d i_law 457 [.ref h0, .ref a, .ref (a + 72), .int x3] [] S I J Q := by
  obtain ⟨v, S1, I1, J1, I2, A2, e, e2, w, c, mo, fr⟩ := both_element (I h0 (Int32.toNatClampNeg (x3 + (1 : Int32)))) (I h0 (Int32.toNatClampNeg (x3 + (2 : Int32)))) (I h0 (Int32.toNatClampNeg (x3 + (3 : Int32)))) hd h
  have g1 := g.mo mo (by have := h.2.2.2.2.2.2.2; omega)
  refine b_law_457 (g 1 (Or.inl rfl)) (g 2 (Or.inr (Or.inl rfl))) (g 3 (Or.inr (Or.inr (Or.inl rfl)))) h.1.k (z_ev.wp e (b_law_476 (g1 1 (Or.inl rfl)) (g1 2 (Or.inr (Or.inl rfl))) (g1 3 (Or.inr (Or.inr (Or.inl rfl)))) w.2.1.1.1 ?_))
  rw [(fr h0 hh).1]
  exact z_ev.wp e2 (b_law_495 (fun _ => K S1 I2 J1 A2 w c mo (fun y hy => (fr y hy).2)) (fun z => absurd (rfl) z))
theorem lw_classOf (hd : 100 < d) (h : Inv S I J a A) (hh : h0 < a) (g : Scr S h0 x3) (K : Nxt d a h0 x3 S I Q) : Go d i_law 500 [.ref h0, .ref a, .ref (a + 72), .int x3] [] S I J Q := by
  obtain ⟨v, S1, I1, J1, I2, A2, e, e2, w, c, mo, fr⟩ := both_classOf (I h0 (Int32.toNatClampNeg (x3 + (1 : Int32)))) (I h0 (Int32.toNatClampNeg (x3 + (2 : Int32)))) hd h
  have g1 := g.mo mo (by have := h.2.2.2.2.2.2.2; omega)
  refine b_law_500 (g 1 (Or.inl rfl)) (g 2 (Or.inr (Or.inl rfl))) h.1.k (z_ev.wp e (b_law_514 (g1 1 (Or.inl rfl)) (g1 2 (Or.inr (Or.inl rfl))) w.2.1.1.1 ?_))
  rw [(fr h0 hh).1]
  exact z_ev.wp e2 (b_law_528 (fun _ => K S1 I2 J1 A2 w c mo (fun y hy => (fr y hy).2)) (fun z => absurd (rfl) z))
theorem lw_generated (hd : 100 < d) (h : Inv S I J a A) (hh : h0 < a) (g : Scr S h0 x3) (K : Nxt d a h0 x3 S I Q) : Go d i_law 533 [.ref h0, .ref a, .ref (a + 72), .int x3] [] S I J Q := by
  obtain ⟨v, S1, I1, J1, I2, A2, e, e2, w, c, mo, fr⟩ := both_generated (I h0 (Int32.toNatClampNeg (x3 + (1 : Int32)))) (I h0 (Int32.toNatClampNeg (x3 + (2 : Int32)))) hd h
  have g1 := g.mo mo (by have := h.2.2.2.2.2.2.2; omega)
  refine b_law_533 (g 1 (Or.inl rfl)) (g 2 (Or.inr (Or.inl rfl))) h.1.k (z_ev.wp e (b_law_547 (g1 1 (Or.inl rfl)) (g1 2 (Or.inr (Or.inl rfl))) w.2.1.1.1 ?_))
  rw [(fr h0 hh).1]
  exact z_ev.wp e2 (b_law_561 (fun _ => K S1 I2 J1 A2 w c mo (fun y hy => (fr y hy).2)) (fun z => absurd (rfl) z))
theorem lw_subgroup (hd : 100 < d) (h : Inv S I J a A) (hh : h0 < a) (g : Scr S h0 x3) (K : Nxt d a h0 x3 S I Q) : Go d i_law 566 [.ref h0, .ref a, .ref (a + 72), .int x3] [] S I J Q := by
  obtain ⟨v, S1, I1, J1, I2, A2, e, e2, w, c, mo, fr⟩ := both_subgroup (I h0 (Int32.toNatClampNeg (x3 + (1 : Int32)))) (I h0 (Int32.toNatClampNeg (x3 + (2 : Int32)))) hd h
  have g1 := g.mo mo (by have := h.2.2.2.2.2.2.2; omega)
  refine b_law_566 (g 1 (Or.inl rfl)) (g 2 (Or.inr (Or.inl rfl))) h.1.k (z_ev.wp e (b_law_580 (g1 1 (Or.inl rfl)) (g1 2 (Or.inr (Or.inl rfl))) w.2.1.1.1 ?_))
  rw [(fr h0 hh).1]
  exact z_ev.wp e2 (b_law_594 (fun _ => K S1 I2 J1 A2 w c mo (fun y hy => (fr y hy).2)) (fun z => absurd (rfl) z))
theorem lw_kind (hd : 100 < d) (h : Inv S I J a A) (hh : h0 < a) (g : Scr S h0 x3) (K : Nxt d a h0 x3 S I Q) : Go d i_law 599 [.ref h0, .ref a, .ref (a + 72), .int x3] [] S I J Q := by
  obtain ⟨v, S1, I1, J1, I2, A2, e, e2, w, c, mo, fr⟩ := both_kind (I h0 (Int32.toNatClampNeg (x3 + (1 : Int32)))) (I h0 (Int32.toNatClampNeg (x3 + (2 : Int32)))) hd h
  have g1 := g.mo mo (by have := h.2.2.2.2.2.2.2; omega)
  refine b_law_599 (g 1 (Or.inl rfl)) (g 2 (Or.inr (Or.inl rfl))) h.1.k (z_ev.wp e (b_law_613 (g1 1 (Or.inl rfl)) (g1 2 (Or.inr (Or.inl rfl))) w.2.1.1.1 ?_))
  rw [(fr h0 hh).1]
  exact z_ev.wp e2 (b_law_627 (fun _ => K S1 I2 J1 A2 w c mo (fun y hy => (fr y hy).2)) (fun z => absurd (rfl) z))
theorem lw_maps (hd : 100 < d) (h : Inv S I J a A) (hh : h0 < a) (g : Scr S h0 x3) (K : Nxt d a h0 x3 S I Q) : Go d i_law 632 [.ref h0, .ref a, .ref (a + 72), .int x3] [] S I J Q := by
  obtain ⟨v, S1, I1, J1, I2, A2, e, e2, w, c, mo, fr⟩ := both_maps (I h0 (Int32.toNatClampNeg (x3 + (1 : Int32)))) hd h
  have g1 := g.mo mo (by have := h.2.2.2.2.2.2.2; omega)
  refine b_law_632 (g 1 (Or.inl rfl)) h.1.k (z_ev.wp e (b_law_641 (g1 1 (Or.inl rfl)) w.2.1.1.1 ?_))
  rw [(fr h0 hh).1]
  exact z_ev.wp e2 (b_law_650 (fun _ => K S1 I2 J1 A2 w c mo (fun y hy => (fr y hy).2)) (fun z => absurd (rfl) z))
theorem lw_mapped (hd : 100 < d) (h : Inv S I J a A) (hh : h0 < a) (g : Scr S h0 x3) (K : Nxt d a h0 x3 S I Q) : Go d i_law 655 [.ref h0, .ref a, .ref (a + 72), .int x3] [] S I J Q := by
  obtain ⟨v, S1, I1, J1, I2, A2, e, e2, w, c, mo, fr⟩ := both_mapped (I h0 (Int32.toNatClampNeg (x3 + (1 : Int32)))) hd h
  have g1 := g.mo mo (by have := h.2.2.2.2.2.2.2; omega)
  refine b_law_655 (g 1 (Or.inl rfl)) h.1.k (z_ev.wp e (b_law_664 (g1 1 (Or.inl rfl)) w.2.1.1.1 ?_))
  rw [(fr h0 hh).1]
  exact z_ev.wp e2 (b_law_673 (fun _ => K S1 I2 J1 A2 w c mo (fun y hy => (fr y hy).2)) (fun z => absurd (rfl) z))
theorem lw_far (hd : 100 < d) (h : Inv S I J a A) (hh : h0 < a) (g : Scr S h0 x3) (K : Nxt d a h0 x3 S I Q) : Go d i_law 678 [.ref h0, .ref a, .ref (a + 72), .int x3] [] S I J Q := by
  obtain ⟨v, S1, I1, J1, I2, A2, e, e2, w, c, mo, fr⟩ := both_far (I h0 (Int32.toNatClampNeg (x3 + (1 : Int32)))) (I h0 (Int32.toNatClampNeg (x3 + (2 : Int32)))) (I h0 (Int32.toNatClampNeg (x3 + (3 : Int32)))) hd h
  have g1 := g.mo mo (by have := h.2.2.2.2.2.2.2; omega)
  refine b_law_678 (g 1 (Or.inl rfl)) (g 2 (Or.inr (Or.inl rfl))) (g 3 (Or.inr (Or.inr (Or.inl rfl)))) h.1.k (z_ev.wp e (b_law_697 (g1 1 (Or.inl rfl)) (g1 2 (Or.inr (Or.inl rfl))) (g1 3 (Or.inr (Or.inr (Or.inl rfl)))) w.2.1.1.1 ?_))
  rw [(fr h0 hh).1]
  exact z_ev.wp e2 (b_law_716 (fun _ => K S1 I2 J1 A2 w c mo (fun y hy => (fr y hy).2)) (fun z => absurd (rfl) z))
theorem lw_sphere (hd : 100 < d) (h : Inv S I J a A) (hh : h0 < a) (g : Scr S h0 x3) (K : Nxt d a h0 x3 S I Q) : Go d i_law 721 [.ref h0, .ref a, .ref (a + 72), .int x3] [] S I J Q := by
  obtain ⟨v, S1, I1, J1, I2, A2, e, e2, w, c, mo, fr⟩ := both_sphere (I h0 (Int32.toNatClampNeg (x3 + (1 : Int32)))) (I h0 (Int32.toNatClampNeg (x3 + (2 : Int32)))) hd h
  have g1 := g.mo mo (by have := h.2.2.2.2.2.2.2; omega)
  refine b_law_721 (g 1 (Or.inl rfl)) (g 2 (Or.inr (Or.inl rfl))) h.1.k (z_ev.wp e (b_law_735 (g1 1 (Or.inl rfl)) (g1 2 (Or.inr (Or.inl rfl))) w.2.1.1.1 ?_))
  rw [(fr h0 hh).1]
  exact z_ev.wp e2 (b_law_749 (fun _ => K S1 I2 J1 A2 w c mo (fun y hy => (fr y hy).2)) (fun z => absurd (rfl) z))
theorem lw_way (hd : 100 < d) (h : Inv S I J a A) (hh : h0 < a) (g : Scr S h0 x3) (K : Nxt d a h0 x3 S I Q) : Go d i_law 754 [.ref h0, .ref a, .ref (a + 72), .int x3] [] S I J Q := by
  obtain ⟨v, S1, I1, J1, I2, A2, e, e2, w, c, mo, fr⟩ := both_way (I h0 (Int32.toNatClampNeg (x3 + (1 : Int32)))) (I h0 (Int32.toNatClampNeg (x3 + (2 : Int32)))) (I h0 (Int32.toNatClampNeg (x3 + (3 : Int32)))) hd h
  have g1 := g.mo mo (by have := h.2.2.2.2.2.2.2; omega)
  refine b_law_754 (g 1 (Or.inl rfl)) (g 2 (Or.inr (Or.inl rfl))) (g 3 (Or.inr (Or.inr (Or.inl rfl)))) h.1.k (z_ev.wp e (b_law_773 (g1 1 (Or.inl rfl)) (g1 2 (Or.inr (Or.inl rfl))) (g1 3 (Or.inr (Or.inr (Or.inl rfl)))) w.2.1.1.1 ?_))
  rw [(fr h0 hh).1]
  exact z_ev.wp e2 (b_law_792 (fun _ => K S1 I2 J1 A2 w c mo (fun y hy => (fr y hy).2)) (fun z => absurd (rfl) z))
theorem lw_ring (hd : 100 < d) (h : Inv S I J a A) (hh : h0 < a) (g : Scr S h0 x3) (K : Nxt d a h0 x3 S I Q) : Go d i_law 797 [.ref h0, .ref a, .ref (a + 72), .int x3] [] S I J Q := by
  obtain ⟨v, S1, I1, J1, I2, A2, e, e2, w, c, mo, fr⟩ := both_ring (I h0 (Int32.toNatClampNeg (x3 + (1 : Int32)))) hd h
  have g1 := g.mo mo (by have := h.2.2.2.2.2.2.2; omega)
  refine b_law_797 (g 1 (Or.inl rfl)) h.1.k (z_ev.wp e (b_law_806 (g1 1 (Or.inl rfl)) w.2.1.1.1 ?_))
  rw [(fr h0 hh).1]
  exact z_ev.wp e2 (b_law_815 (fun _ => K S1 I2 J1 A2 w c mo (fun y hy => (fr y hy).2)) (fun z => absurd (rfl) z))
theorem lw_parts (hd : 100 < d) (h : Inv S I J a A) (hh : h0 < a) (g : Scr S h0 x3) (K : Nxt d a h0 x3 S I Q) : Go d i_law 820 [.ref h0, .ref a, .ref (a + 72), .int x3] [] S I J Q := by
  obtain ⟨v, S1, I1, J1, I2, A2, e, e2, w, c, mo, fr⟩ := both_parts (I h0 (Int32.toNatClampNeg (x3 + (1 : Int32)))) hd h
  have g1 := g.mo mo (by have := h.2.2.2.2.2.2.2; omega)
  refine b_law_820 (g 1 (Or.inl rfl)) h.1.k (z_ev.wp e (b_law_829 (g1 1 (Or.inl rfl)) w.2.1.1.1 ?_))
  rw [(fr h0 hh).1]
  exact z_ev.wp e2 (b_law_838 (fun _ => K S1 I2 J1 A2 w c mo (fun y hy => (fr y hy).2)) (fun z => absurd (rfl) z))
theorem lw_symmetries (hd : 100 < d) (h : Inv S I J a A) (hh : h0 < a) (g : Scr S h0 x3) (K : Nxt d a h0 x3 S I Q) : Go d i_law 843 [.ref h0, .ref a, .ref (a + 72), .int x3] [] S I J Q := by
  obtain ⟨v, S1, I1, J1, I2, A2, e, e2, w, c, mo, fr⟩ := both_symmetries (I h0 (Int32.toNatClampNeg (x3 + (1 : Int32)))) hd h
  have g1 := g.mo mo (by have := h.2.2.2.2.2.2.2; omega)
  refine b_law_843 (g 1 (Or.inl rfl)) h.1.k (z_ev.wp e (b_law_852 (g1 1 (Or.inl rfl)) w.2.1.1.1 ?_))
  rw [(fr h0 hh).1]
  exact z_ev.wp e2 (b_law_861 (fun _ => K S1 I2 J1 A2 w c mo (fun y hy => (fr y hy).2)) (fun z => absurd (lg_same v) z))
theorem lw_alikeTo (hd : 100 < d) (h : Inv S I J a A) (hh : h0 < a) (g : Scr S h0 x3) (K : Nxt d a h0 x3 S I Q) : Go d i_law 867 [.ref h0, .ref a, .ref (a + 72), .int x3] [] S I J Q := by
  obtain ⟨v, S1, I1, J1, I2, A2, e, e2, w, c, mo, fr⟩ := both_alikeTo (I h0 (Int32.toNatClampNeg (x3 + (1 : Int32)))) (I h0 (Int32.toNatClampNeg (x3 + (2 : Int32)))) hd h
  have g1 := g.mo mo (by have := h.2.2.2.2.2.2.2; omega)
  refine b_law_867 (g 1 (Or.inl rfl)) (g 2 (Or.inr (Or.inl rfl))) h.1.k (z_ev.wp e (b_law_881 (g1 1 (Or.inl rfl)) (g1 2 (Or.inr (Or.inl rfl))) w.2.1.1.1 ?_))
  rw [(fr h0 hh).1]
  exact z_ev.wp e2 (b_law_895 (fun _ => K S1 I2 J1 A2 w c mo (fun y hy => (fr y hy).2)) (fun z => absurd (rfl) z))
theorem lw_regular (hd : 100 < d) (h : Inv S I J a A) (hh : h0 < a) (g : Scr S h0 x3) (K : Nxt d a h0 x3 S I Q) : Go d i_law 900 [.ref h0, .ref a, .ref (a + 72), .int x3] [] S I J Q := by
  obtain ⟨v, S1, I1, J1, I2, A2, e, e2, w, c, mo, fr⟩ := both_regular (I h0 (Int32.toNatClampNeg (x3 + (1 : Int32)))) (I h0 (Int32.toNatClampNeg (x3 + (2 : Int32)))) hd h
  have g1 := g.mo mo (by have := h.2.2.2.2.2.2.2; omega)
  refine b_law_900 (g 1 (Or.inl rfl)) (g 2 (Or.inr (Or.inl rfl))) h.1.k (z_ev.wp e (b_law_914 (g1 1 (Or.inl rfl)) (g1 2 (Or.inr (Or.inl rfl))) w.2.1.1.1 ?_))
  rw [(fr h0 hh).1]
  exact z_ev.wp e2 (b_law_928 (fun _ => K S1 I2 J1 A2 w c mo (fun y hy => (fr y hy).2)) (fun z => absurd (rfl) z))
theorem lw_alike (hd : 100 < d) (h : Inv S I J a A) (hh : h0 < a) (g : Scr S h0 x3) (K : Nxt d a h0 x3 S I Q) : Go d i_law 933 [.ref h0, .ref a, .ref (a + 72), .int x3] [] S I J Q := by
  obtain ⟨v, S1, I1, J1, I2, A2, e, e2, w, c, mo, fr⟩ := both_alike (I h0 (Int32.toNatClampNeg (x3 + (1 : Int32)))) hd h
  have g1 := g.mo mo (by have := h.2.2.2.2.2.2.2; omega)
  refine b_law_933 (g 1 (Or.inl rfl)) h.1.k (z_ev.wp e (b_law_942 (g1 1 (Or.inl rfl)) w.2.1.1.1 ?_))
  rw [(fr h0 hh).1]
  exact z_ev.wp e2 (b_law_951 (fun _ => K S1 I2 J1 A2 w c mo (fun y hy => (fr y hy).2)) (fun z => absurd (rfl) z))
theorem lw_other (hd : 100 < d) (h : Inv S I J a A) (hh : h0 < a) (g : Scr S h0 x3) (K : Nxt d a h0 x3 S I Q) : Go d i_law 956 [.ref h0, .ref a, .ref (a + 72), .int x3] [] S I J Q := by
  obtain ⟨v, S1, I1, J1, I2, A2, e, e2, w, c, mo, fr⟩ := both_other hd h
  have g1 := g.mo mo (by have := h.2.2.2.2.2.2.2; omega)
  refine b_law_956 h.1.k (z_ev.wp e (b_law_960 w.2.1.1.1 ?_))
  exact z_ev.wp e2 (b_law_964 (fun _ => K S1 I2 J1 A2 w c mo (fun y hy => (fr y hy).2)) (fun z => absurd (rfl) z))
theorem lw_name (hd : 100 < d) (h : Inv S I J a A) (hh : h0 < a) (g : Scr S h0 x3) (K : Nxt d a h0 x3 S I Q) : Go d i_law 969 [.ref h0, .ref a, .ref (a + 72), .int x3] [] S I J Q := by
  obtain ⟨v, S1, I1, J1, I2, A2, e, e2, w, c, mo, fr⟩ := both_name (I h0 (Int32.toNatClampNeg (x3 + (1 : Int32)))) (I h0 (Int32.toNatClampNeg (x3 + (2 : Int32)))) (I h0 (Int32.toNatClampNeg (x3 + (3 : Int32)))) hd h
  have g1 := g.mo mo (by have := h.2.2.2.2.2.2.2; omega)
  refine b_law_969 (g 1 (Or.inl rfl)) (g 2 (Or.inr (Or.inl rfl))) (g 3 (Or.inr (Or.inr (Or.inl rfl)))) h.1.k (z_ev.wp e (b_law_988 (g1 1 (Or.inl rfl)) (g1 2 (Or.inr (Or.inl rfl))) (g1 3 (Or.inr (Or.inr (Or.inl rfl)))) w.2.1.1.1 ?_))
  rw [(fr h0 hh).1]
  exact z_ev.wp e2 (b_law_1007 (fun _ => K S1 I2 J1 A2 w c mo (fun y hy => (fr y hy).2)) (fun z => absurd (rfl) z))
theorem lw_count (hd : 100 < d) (h : Inv S I J a A) (hh : h0 < a) (g : Scr S h0 x3) (K : Nxt d a h0 x3 S I Q) : Go d i_law 1012 [.ref h0, .ref a, .ref (a + 72), .int x3] [] S I J Q := by
  obtain ⟨v, S1, I1, J1, I2, A2, e, e2, w, c, mo, fr⟩ := both_count (I h0 (Int32.toNatClampNeg (x3 + (1 : Int32)))) hd h
  have g1 := g.mo mo (by have := h.2.2.2.2.2.2.2; omega)
  refine b_law_1012 (g 1 (Or.inl rfl)) h.1.k (z_ev.wp e (b_law_1021 (g1 1 (Or.inl rfl)) w.2.1.1.1 ?_))
  rw [(fr h0 hh).1]
  exact z_ev.wp e2 (b_law_1030 (fun _ => K S1 I2 J1 A2 w c mo (fun y hy => (fr y hy).2)) (fun z => absurd (rfl) z))
end LW6

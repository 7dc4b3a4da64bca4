/-! CONSTRUCTORS: those of the class's parts -/
section KI2
variable {d g h1 p q : Nat} {S S' : zS} {I : zI} {J : zJ}
theorem HL.bk {w : Nat} (h : HL S w) (hb : Blk p q S S') (h1 : p ≤ w) (h2 : w + 3 ≤ q) : HL S' w := by
  obtain ⟨a0, a1, a2, a3⟩ := h
  exact ⟨by rw [(hb w h1 (by omega)).1]; exact a0, hb.ar a1 h1 (by omega) (by omega) (by omega), hb.ar a2 h1 (by omega) (by omega) (by omega), hb.ar a3 h1 (by omega) (by omega) (by omega)⟩
theorem ML.bk {w : Nat} (h : ML S w) (hb : Blk p q S S') (h1 : p ≤ w) (h2 : w + 3 ≤ q) : ML S' w := by
  obtain ⟨a0, a1, a2, a3⟩ := h
  exact ⟨by rw [(hb w h1 (by omega)).1]; exact a0, hb.ar a1 h1 (by omega) (by omega) (by omega), hb.ar a2 h1 (by omega) (by omega) (by omega), hb.ar a3 h1 (by omega) (by omega) (by omega)⟩
theorem QLay.bk {w : Nat} (h : QLay S w) (hb : Blk p q S S') (h1 : p ≤ w) (h2 : w + 4 ≤ q) : QLay S' w := by
  obtain ⟨a0, a1, a2, a3, a4⟩ := h
  exact ⟨by rw [(hb w h1 (by omega)).1]; exact a0, hb.ar a1 h1 (by omega) (by omega) (by omega), hb.ar a2 h1 (by omega) (by omega) (by omega), hb.ar a3 h1 (by omega) (by omega) (by omega), hb.ar a4 h1 (by omega) (by omega) (by omega)⟩
theorem BL.bk {w : Nat} (h : BL S w) (hb : Blk p q S S') (h1 : p ≤ w) (h2 : w + 5 ≤ q) : BL S' w := by
  obtain ⟨a0, a1, a2, a3, a4, a5⟩ := h
  exact ⟨by rw [(hb w h1 (by omega)).1]; exact a0, hb.ar a1 h1 (by omega) (by omega) (by omega), hb.ar a2 h1 (by omega) (by omega) (by omega), hb.ar a3 h1 (by omega) (by omega) (by omega), hb.ar a4 h1 (by omega) (by omega) (by omega), hb.ar a5 h1 (by omega) (by omega) (by omega)⟩
theorem OL.bk {w : Nat} (h : OL S w) (hb : Blk p q S S') (h1 : p ≤ w) (h2 : w + 12 ≤ q) : OL S' w := by
  obtain ⟨a0, a1, a2, a3, a4, a5, a6⟩ := h
  exact ⟨by rw [(hb w h1 (by omega)).1]; exact a0, hb.ar a1 h1 (by omega) (by omega) (by omega), hb.ar a2 h1 (by omega) (by omega) (by omega), hb.ar a3 h1 (by omega) (by omega) (by omega), hb.ar a4 h1 (by omega) (by omega) (by omega), by rw [(hb w h1 (by omega)).2.2]; exact a5, a6.bk hb (by omega) (by omega)⟩
theorem NLay.bk {w : Nat} (h : NLay S w) (hb : Blk p q S S') (h1 : p ≤ w) (h2 : w + 11 ≤ q) : NLay S' w := by
  obtain ⟨a0, a1, a2, a3, a4, a5⟩ := h
  exact ⟨by rw [(hb w h1 (by omega)).1]; exact a0, hb.ar a1 h1 (by omega) (by omega) (by omega), hb.ar a2 h1 (by omega) (by omega) (by omega), hb.ar a3 h1 (by omega) (by omega) (by omega), by rw [(hb w h1 (by omega)).2.2]; exact a4, a5.bk hb (by omega) (by omega)⟩
theorem k_builder (hd : 0 < d) (hg : 0 < g) (hz : z_sz S = g) (hk : z_kd S g = 3) : ∃ S' I' J', z_ev d i_X2_init [.ref g] S I J none S' I' J' ∧ Mkd g 5 621 S I J S' I' J' ∧ BL S' g := by
  obtain ⟨d, rfl⟩ := z_dep hd
  have m0 : Mkd g 0 0 S I J S I J := Mkd.refl hz
  have l0 : Lays S g [] := trivial
  obtain ⟨S1, I1, e1, f1, m1, l1, x1, _⟩ := m0.arr l0 100 0 150 150 rfl rfl
  obtain ⟨S2, I2, e2, f2, m2, l2, x2, _⟩ := m1.arr l1 100 1 150 150 rfl rfl
  obtain ⟨S3, I3, e3, f3, m3, l3, x3, _⟩ := m2.arr l2 100 2 150 150 rfl rfl
  obtain ⟨S4, I4, e4, f4, m4, l4, x4, _⟩ := m3.arr l3 100 5 150 150 rfl rfl
  obtain ⟨S5, I5, e5, f5, m5, l5, x5, _⟩ := m4.arr l4 100 8 21 21 rfl rfl
  have kk : z_kd S5 g = 3 := by rw [m5.ki]; exact hk
  refine ⟨S5, _, J, e_X2_init (b_X2_init_0 (by omega) (by decide) (by rw [m0.nk]; exact hk) ?_), (m5.int 4 1), kk, l5.2.2.2.2.1, l5.2.2.2.1, l5.2.2.1, l5.2.1, l5.1⟩
  rw [e1, f1]
  refine b_X2_init_13 (by decide) (by rw [m1.nk]; exact hk) ?_
  rw [e2, f2]
  refine b_X2_init_22 (by decide) (by rw [m2.nk]; exact hk) ?_
  rw [e3, f3]
  refine b_X2_init_31 (by decide) (by rw [m3.nk]; exact hk) ?_
  rw [e4, f4]
  refine b_X2_init_40 (by decide) (by rw [m4.nk]; exact hk) ?_
  rw [e5, f5]
  exact b_X2_init_48 kk (b_X2_init_53 ⟨rfl, rfl, rfl, rfl⟩)
theorem k_match (hd : 0 < d) (hg : 0 < g) (hz : z_sz S = g) (hk : z_kd S g = 4) : ∃ S' I' J', z_ev d i_X3_init [.ref g] S I J none S' I' J' ∧ Mkd g 4 80 S I J S' I' J' ∧ QLay S' g := by
  obtain ⟨d, rfl⟩ := z_dep hd
  have m0 : Mkd g 0 0 S I J S I J := Mkd.refl hz
  have l0 : Lays S g [] := trivial
  obtain ⟨S1, I1, e1, f1, m1, l1, x1, _⟩ := m0.arr l0 100 5 20 20 rfl rfl
  obtain ⟨S2, I2, e2, f2, m2, l2, x2, _⟩ := m1.arr l1 100 6 20 20 rfl rfl
  obtain ⟨S3, I3, e3, f3, m3, l3, x3, _⟩ := m2.arr l2 100 7 20 20 rfl rfl
  obtain ⟨S4, I4, e4, f4, m4, l4, x4, _⟩ := m3.arr l3 100 8 20 20 rfl rfl
  have kk : z_kd S4 g = 4 := by rw [m4.ki]; exact hk
  refine ⟨S4, _, J, e_X3_init (b_X3_init_0 (by omega) (by decide) (by rw [m0.nk]; exact hk) ?_), (m4.int 4 0), kk, l4.2.2.2.1, l4.2.2.1, l4.2.1, l4.1⟩
  rw [e1, f1]
  refine b_X3_init_12 (by decide) (by rw [m1.nk]; exact hk) ?_
  rw [e2, f2]
  refine b_X3_init_20 (by decide) (by rw [m2.nk]; exact hk) ?_
  rw [e3, f3]
  refine b_X3_init_28 (by decide) (by rw [m3.nk]; exact hk) ?_
  rw [e4, f4]
  exact b_X3_init_36 kk (b_X3_init_41 ⟨rfl, rfl, rfl, rfl⟩)
theorem k_history (hd : 0 < d) (hg : 0 < g) (hz : z_sz S = g) (hk : z_kd S g = 5) (hI : ∀ k, I g k = 0) : ∃ S' I' J', z_ev d i_X4_init [.ref g] S I J none S' I' J' ∧ Mkd g 3 24 S I J S' I' J' ∧ I' g = I g ∧ HL S' g := by
  obtain ⟨d, rfl⟩ := z_dep hd
  have m0 : Mkd g 0 0 S I J S I J := Mkd.refl hz
  have l0 : Lays S g [] := trivial
  obtain ⟨S1, I1, e1, f1, m1, l1, x1, _⟩ := m0.arr l0 100 2 8 8 rfl rfl
  obtain ⟨S2, e2, m2, l2, x2, _⟩ := m1.aar l1 103 3 8 8 rfl rfl
  obtain ⟨S3, I3, e3, f3, m3, l3, x3, _⟩ := m2.arr l2 100 4 8 8 rfl rfl
  have kk : z_kd S3 g = 5 := by rw [m3.ki]; exact hk
  refine ⟨S3, _, J, e_X4_init (b_X4_init_0 (by omega) (by decide) (by rw [m0.nk]; exact hk) ?_), ((m3.int 0 0).int 1 0), ?_, kk, l3.2.2.1, l3.2.1, l3.1⟩
  · rw [e1, f1]
    refine b_X4_init_12 (by decide) (by rw [m1.nk]; exact hk) ?_
    rw [e2]
    refine b_X4_init_21 (by decide) (by rw [m2.nk]; exact hk) ?_
    rw [e3, f3]
    exact b_X4_init_29 kk (b_X4_init_34 kk (b_X4_init_39 ⟨rfl, rfl, rfl, rfl⟩))
  · have hr : I3 g = I g := by rw [(x3 g (by omega)).2.2.2.1, (x2 g (by omega)).2.2.2.1, (x1 g (by omega)).2.2.2.1]
    funext j
    rcases Nat.decEq j 0 with j0 | j0
    · rcases Nat.decEq j 1 with j1 | j1
      · rw [z_u2_nk j1, z_u2_nk j0, hr]
      · rw [j1, z_u2_same, hI]
    · rw [j0, z_u2_nk (by decide), z_u2_same, hI]
theorem k_maker (hd : 0 < d) (hg : 0 < g) (hz : z_sz S = g) (hk : z_kd S g = 8) : ∃ S' I' J', z_ev d i_X7_init [.ref g] S I J none S' I' J' ∧ Mkd g 3 460 S I J S' I' J' ∧ ML S' g := by
  obtain ⟨d, rfl⟩ := z_dep hd
  have m0 : Mkd g 0 0 S I J S I J := Mkd.refl hz
  have l0 : Lays S g [] := trivial
  obtain ⟨S1, I1, e1, f1, m1, l1, x1, _⟩ := m0.arr l0 100 4 20 20 rfl rfl
  obtain ⟨S2, I2, e2, f2, m2, l2, x2, _⟩ := m1.arr l1 100 5 420 420 rfl rfl
  obtain ⟨S3, I3, e3, f3, m3, l3, x3, _⟩ := m2.arr l2 100 6 20 20 rfl rfl
  have kk : z_kd S3 g = 8 := by rw [m3.ki]; exact hk
  refine ⟨S3, _, J, e_X7_init (b_X7_init_0 (by omega) (by decide) (by rw [m0.nk]; exact hk) ?_), (m3.int 2 0), kk, l3.2.2.1, l3.2.1, l3.1⟩
  rw [e1, f1]
  refine b_X7_init_12 (by decide) (by rw [m1.nk]; exact hk) ?_
  rw [e2, f2]
  refine b_X7_init_21 (by decide) (by rw [m2.nk]; exact hk) ?_
  rw [e3, f3]
  exact b_X7_init_29 kk (b_X7_init_34 ⟨rfl, rfl, rfl, rfl⟩)
theorem k_lexer (hd : 0 < d) (hg : 0 < g) (hz : z_sz S = g) (hk : z_kd S g = 6) : ∃ S' I' J', z_ev d i_X5_init [.ref g, .ref h1] S I J none S' I' J' ∧ Mkd g 0 0 S I J S' I' J' ∧ z_kd S' g = 6 ∧ z_rv S' g 0 = h1 := by
  obtain ⟨d, rfl⟩ := z_dep hd
  have m0 : Mkd g 0 0 S I J S I J := Mkd.refl hz
  obtain ⟨S1, e1, m1, l1, x1, _, r1⟩ := m0.set (L := []) trivial 0 h1 rfl
  have k1 : z_kd S1 g = 6 := by rw [m1.ki]; exact hk
  refine ⟨S1, _, J, e_X5_init (b_X5_init_0 (by omega) hk ?_), m1.int 1 0, k1, r1⟩
  rw [e1]
  exact b_X5_init_9 k1 (b_X5_init_14 ⟨rfl, rfl, rfl, rfl⟩)
theorem k_other (hd : 1 < d) (hg : 0 < g) (hz : z_sz S = g) (hk : z_kd S g = 10) : ∃ S' I' J', z_ev d i_X9_init [.ref g] S I J none S' I' J' ∧ Mkd g 12 973 S I J S' I' J' ∧ OL S' g := by
  obtain ⟨d, rfl⟩ := z_dep (d := d) (by omega)
  have m0 : Mkd g 0 0 S I J S I J := Mkd.refl hz
  have l0 : Lays S g [] := trivial
  obtain ⟨S1, I1, e1, f1, m1, l1, x1, _⟩ := m0.arr l0 100 0 4 4 rfl rfl
  obtain ⟨S2, I2, e2, f2, m2, l2, x2, _⟩ := m1.arr l1 100 2 20 20 rfl rfl
  obtain ⟨S3, I3, e3, f3, m3, l3, x3, _⟩ := m2.arr l2 100 3 20 20 rfl rfl
  obtain ⟨S4, I4, e4, f4, m4, l4, x4, _⟩ := m3.arr l3 100 4 20 20 rfl rfl
  obtain ⟨S5, I5, J5, e5, m5, c5⟩ := k_colour (d := d) (g := z_sz S4 + 1) (S := z_new S4 1 0 9) (I := z_ur I4 (z_sz S4 + 1) (fun _ => 0)) (J := z_ur J (z_sz S4 + 1) (fun _ => 0)) (by omega) (by omega) rfl z_kd_new
  obtain ⟨S6, e6, m6, l6, x6, y6, r6, b6, k6, _⟩ := m4.sub l4 5 m5 rfl
  have z4 : z_sz S4 + 1 = g + 5 := by have := m4.1; omega
  have k7 : z_kd S6 g = 10 := by rw [m6.ki]; exact hk
  rw [z4] at c5
  refine ⟨S6, _, J5, e_X9_init (b_X9_init_0 (by omega) (by decide) (by rw [m0.nk]; exact hk) ?_), m6.int 1 0, k7, l6.2.2.2.1, l6.2.2.1, l6.2.1, l6.1, r6, c5.bk b6 (by omega) (by omega)⟩
  rw [e1, f1]
  refine b_X9_init_11 (by decide) (by rw [m1.nk]; exact hk) ?_
  rw [e2, f2]
  refine b_X9_init_19 (by decide) (by rw [m2.nk]; exact hk) ?_
  rw [e3, f3]
  refine b_X9_init_27 (by decide) (by rw [m3.nk]; exact hk) ?_
  rw [e4, f4]
  refine b_X9_init_35 (by omega) (z_ev.wp e5 (b_X9_init_43 (by rw [k6]; exact hk) ?_))
  rw [e6]
  exact b_X9_init_46 k7 (b_X9_init_51 ⟨rfl, rfl, rfl, rfl⟩)
theorem k_net (hd : 1 < d) (hg : 0 < g) (hz : z_sz S = g) (hk : z_kd S g = 9) : ∃ S' I' J', z_ev d i_X8_init [.ref g, .ref h1] S I J none S' I' J' ∧ Mkd g 11 969 S I J S' I' J' ∧ I' g = I g ∧ z_rv S' g 0 = h1 ∧ NLay S' g := by
  obtain ⟨d, rfl⟩ := z_dep (d := d) (by omega)
  have m0 : Mkd g 0 0 S I J S I J := Mkd.refl hz
  have l0 : Lays S g [] := trivial
  obtain ⟨S1, I1, e1, f1, m1, l1, x1, _⟩ := m0.arr l0 100 4 20 20 rfl rfl
  obtain ⟨S2, I2, e2, f2, m2, l2, x2, _⟩ := m1.arr l1 100 5 20 20 rfl rfl
  obtain ⟨S3, I3, e3, f3, m3, l3, x3, _⟩ := m2.arr l2 100 6 20 20 rfl rfl
  obtain ⟨S5, I5, J5, e5, m5, c5⟩ := k_colour (d := d) (g := z_sz S3 + 1) (S := z_new S3 1 0 9) (I := z_ur I3 (z_sz S3 + 1) (fun _ => 0)) (J := z_ur J (z_sz S3 + 1) (fun _ => 0)) (by omega) (by omega) rfl z_kd_new
  obtain ⟨S6, e6, m6, l6, x6, y6, r6, b6, k6, _⟩ := m3.sub l3 10 m5 rfl
  obtain ⟨S7, e7, m7, l7, x7, y7, r7⟩ := m6.set l6 0 h1 rfl
  have z3 : z_sz S3 + 1 = g + 4 := by have := m3.1; omega
  have k7 : z_kd S6 g = 9 := by rw [m6.ki]; exact hk
  rw [z3] at c5
  refine ⟨S7, I5, J5, e_X8_init (b_X8_init_0 (by omega) (by decide) (by rw [m0.nk]; exact hk) ?_), m7, by rw [(x6 g (by omega)).2.2.2.1, (x3 g (by omega)).2.2.2.1, (x2 g (by omega)).2.2.2.1, (x1 g (by omega)).2.2.2.1], r7, by rw [m7.ki]; exact hk, l7.2.2.1, l7.2.1, l7.1, by rw [y7 10 (by decide)]; exact r6, (c5.bk b6 (by omega) (by omega)).bk (x7.blk (Nat.lt_succ_self g)) (by omega) (by omega)⟩
  rw [e1, f1]
  refine b_X8_init_12 (by decide) (by rw [m1.nk]; exact hk) ?_
  rw [e2, f2]
  refine b_X8_init_20 (by decide) (by rw [m2.nk]; exact hk) ?_
  rw [e3, f3]
  refine b_X8_init_28 (by omega) (z_ev.wp e5 (b_X8_init_36 (by rw [k6]; exact hk) ?_))
  rw [e6]
  refine b_X8_init_39 k7 ?_
  rw [e7]
  exact b_X8_init_44 ⟨rfl, rfl, rfl, rfl⟩
theorem k_reader (hd : 1 < d) (hg : 0 < g) (hz : z_sz S = g) (hk : z_kd S g = 11) : ∃ S' I' J', z_ev d i_X10_init [.ref g, .ref h1] S I J none S' I' J' ∧ Mkd g 7 635 S I J S' I' J' ∧ (z_rv S' g 5 = g + 7 ∧ z_rv S' g 6 = g + 1 ∧ BL S' (g + 1) ∧ z_kd S' (g + 7) = 6 ∧ z_rv S' (g + 7) 0 = h1) := by
  obtain ⟨d, rfl⟩ := z_dep (d := d) (by omega)
  have m0 : Mkd g 0 0 S I J S I J := Mkd.refl hz
  obtain ⟨S1, I1, J1, e1, m1, c1⟩ := k_builder (d := d) (g := z_sz S + 1) (S := z_new S 3 0 9) (I := z_ur I (z_sz S + 1) (fun _ => 0)) (J := z_ur J (z_sz S + 1) (fun _ => 0)) (by omega) (by omega) rfl z_kd_new
  obtain ⟨S2, e2, m2, l2, x2, y2, r2, b2, k2, _⟩ := m0.sub (L := []) trivial 6 m1 rfl
  obtain ⟨S3, I3, J3, e3, m3, c3, d3⟩ := k_lexer (d := d) (h1 := h1) (g := z_sz S2 + 1) (S := z_new S2 6 0 5) (I := z_ur I1 (z_sz S2 + 1) (fun _ => 0)) (J := z_ur J1 (z_sz S2 + 1) (fun _ => 0)) (by omega) (by omega) rfl z_kd_new
  obtain ⟨S4, e4, m4, l4, x4, y4, r4, b4, k4, _⟩ := m2.sub (L := []) trivial 5 m3 rfl
  have z2 : z_sz S2 + 1 = g + 7 := by have := m2.1; omega
  have z1 : z_sz S + 1 = g + 1 := by omega
  rw [z1] at c1
  rw [z2] at c3 d3
  refine ⟨S4, I3, J3, e_X10_init (b_X10_init_0 (by omega) (by omega) (z_ev.wp e1 (b_X10_init_12 (by rw [k2]; exact hk) ?_))), m4, r4, by rw [y4 6 (by decide)]; exact r2, (c1.bk b2 (by omega) (by omega)).bk (x4.blk (Nat.lt_succ_self g)) (by omega) (by omega), by rw [(b4 (g + 7) (by omega) (by omega)).1]; exact c3, by rw [(b4 (g + 7) (by omega) (by omega)).2.2]; exact d3⟩
  rw [e2]
  refine b_X10_init_15 (by omega) (z_ev.wp e3 (b_X10_init_24 (by rw [k4]; exact hk) ?_))
  rw [e4]
  exact b_X10_init_27 ⟨rfl, rfl, rfl, rfl⟩
end KI2

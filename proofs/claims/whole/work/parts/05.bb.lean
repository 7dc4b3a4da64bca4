theorem w_X3_init {d : Nat} {S : zS} {I : zI} {J : zJ} {Q : zQ} {h0 : Nat} (h : Go d i_X3_init 0 [.ref h0] [] S I J Q) : z_wp (d + 1) i_X3_init [.ref h0] S I J Q := Go.wp (Nat.le_of_ble_eq_true rfl) h
theorem e_X3_init {d : Nat} {S S2 : zS} {I I2 : zI} {J J2 : zJ} {r : Option Value} {h0 : Nat} (h : Go d i_X3_init 0 [.ref h0] [] S I J (z_eq r S2 I2 J2)) : z_ev (d + 1) i_X3_init [.ref h0] S I J r S2 I2 J2 := Go.ev (Nat.le_of_ble_eq_true rfl) h
theorem b_X3_init_0 {d : Nat} {S : zS} {I : zI} {J : zJ} {Q : zQ} {h0 : Nat} (g1 : ¬ h0 = 0) (g2 : ¬ (20 : Int32) < 0 ∧ (Int32.toNatClampNeg (20 : Int32)) * 4 ≤ 536870912) (g3 : z_kd (z_new S 100 (Int32.toNatClampNeg (20 : Int32)) (Int32.toNatClampNeg (20 : Int32))) h0 = 4) (kk : Go d i_X3_init 12 [.ref h0] [] (z_setR (z_new S 100 (Int32.toNatClampNeg (20 : Int32)) (Int32.toNatClampNeg (20 : Int32))) h0 5 (z_sz S + 1)) (z_ur I (z_sz S + 1) (fun _ => 0)) J Q) : Go d i_X3_init 0 [.ref h0] [] S I J Q := by
  have h := (And.intro g1 (And.intro g2 (And.intro g3 kk)))
  exact Go.n tb_X3_init 6 h
theorem b_X3_init_12 {d : Nat} {S : zS} {I : zI} {J : zJ} {Q : zQ} {h0 : Nat} (g1 : ¬ (20 : Int32) < 0 ∧ (Int32.toNatClampNeg (20 : Int32)) * 4 ≤ 536870912) (g2 : z_kd (z_new S 100 (Int32.toNatClampNeg (20 : Int32)) (Int32.toNatClampNeg (20 : Int32))) h0 = 4) (kk : Go d i_X3_init 20 [.ref h0] [] (z_setR (z_new S 100 (Int32.toNatClampNeg (20 : Int32)) (Int32.toNatClampNeg (20 : Int32))) h0 6 (z_sz S + 1)) (z_ur I (z_sz S + 1) (fun _ => 0)) J Q) : Go d i_X3_init 12 [.ref h0] [] S I J Q := by
  have h := (And.intro g1 (And.intro g2 kk))
  exact Go.n tb_X3_init 4 h
theorem b_X3_init_20 {d : Nat} {S : zS} {I : zI} {J : zJ} {Q : zQ} {h0 : Nat} (g1 : ¬ (20 : Int32) < 0 ∧ (Int32.toNatClampNeg (20 : Int32)) * 4 ≤ 536870912) (g2 : z_kd (z_new S 100 (Int32.toNatClampNeg (20 : Int32)) (Int32.toNatClampNeg (20 : Int32))) h0 = 4) (kk : Go d i_X3_init 28 [.ref h0] [] (z_setR (z_new S 100 (Int32.toNatClampNeg (20 : Int32)) (Int32.toNatClampNeg (20 : Int32))) h0 7 (z_sz S + 1)) (z_ur I (z_sz S + 1) (fun _ => 0)) J Q) : Go d i_X3_init 20 [.ref h0] [] S I J Q := by
  have h := (And.intro g1 (And.intro g2 kk))
  exact Go.n tb_X3_init 4 h
theorem b_X3_init_28 {d : Nat} {S : zS} {I : zI} {J : zJ} {Q : zQ} {h0 : Nat} (g1 : ¬ (20 : Int32) < 0 ∧ (Int32.toNatClampNeg (20 : Int32)) * 4 ≤ 536870912) (g2 : z_kd (z_new S 100 (Int32.toNatClampNeg (20 : Int32)) (Int32.toNatClampNeg (20 : Int32))) h0 = 4) (kk : Go d i_X3_init 36 [.ref h0] [] (z_setR (z_new S 100 (Int32.toNatClampNeg (20 : Int32)) (Int32.toNatClampNeg (20 : Int32))) h0 8 (z_sz S + 1)) (z_ur I (z_sz S + 1) (fun _ => 0)) J Q) : Go d i_X3_init 28 [.ref h0] [] S I J Q := by
  have h := (And.intro g1 (And.intro g2 kk))
  exact Go.n tb_X3_init 4 h
theorem b_X3_init_36 {d : Nat} {S : zS} {I : zI} {J : zJ} {Q : zQ} {h0 : Nat} (g1 : z_kd S h0 = 4) (kk : Go d i_X3_init 41 [.ref h0] [] S (z_u2 I h0 4 (0 : Int32)) J Q) : Go d i_X3_init 36 [.ref h0] [] S I J Q := by
  have h := (And.intro g1 kk)
  exact Go.n tb_X3_init 3 h
theorem b_X3_init_41 {d : Nat} {S : zS} {I : zI} {J : zJ} {Q : zQ} {h0 : Nat} (kk : Q none S I J) : Go d i_X3_init 41 [.ref h0] [] S I J Q := by
  have h := (And.intro trivial kk)
  exact Go.n tb_X3_init 1 h
theorem w_X3_begin {d : Nat} {S : zS} {I : zI} {J : zJ} {Q : zQ} {h0 : Nat} {h1 : Nat} {h2 : Nat} {h3 : Nat} {h4 : Nat} (h : Go d i_X3_begin 0 [.ref h0, .ref h1, .ref h2, .ref h3, .ref h4, .retAddr 0, .retAddr 0] [] S I J Q) : z_wp (d + 1) i_X3_begin [.ref h0, .ref h1, .ref h2, .ref h3, .ref h4] S I J Q := Go.wp (Nat.le_of_ble_eq_true rfl) h
theorem e_X3_begin {d : Nat} {S S2 : zS} {I I2 : zI} {J J2 : zJ} {r : Option Value} {h0 : Nat} {h1 : Nat} {h2 : Nat} {h3 : Nat} {h4 : Nat} (h : Go d i_X3_begin 0 [.ref h0, .ref h1, .ref h2, .ref h3, .ref h4, .retAddr 0, .retAddr 0] [] S I J (z_eq r S2 I2 J2)) : z_ev (d + 1) i_X3_begin [.ref h0, .ref h1, .ref h2, .ref h3, .ref h4] S I J r S2 I2 J2 := Go.ev (Nat.le_of_ble_eq_true rfl) h
theorem b_X3_begin_0 {d : Nat} {S : zS} {I : zI} {J : zJ} {Q : zQ} {h0 : Nat} {h1 : Nat} {h2 : Nat} {h3 : Nat} {h4 : Nat} {v5 : Value} {v6 : Value} (g1 : z_kd S h0 = 4) (g2 : z_kd (z_setR S h0 0 h1) h0 = 4) (g3 : z_kd (z_setR (z_setR S h0 0 h1) h0 1 h2) h0 = 4) (g4 : z_kd (z_setR (z_setR (z_setR S h0 0 h1) h0 1 h2) h0 2 h3) h0 = 4) (g5 : z_kd (z_setR (z_setR (z_setR (z_setR S h0 0 h1) h0 1 h2) h0 2 h3) h0 3 h4) h0 = 4) (kk : Go d i_X3_begin 32 [.ref h0, .ref h1, .ref h2, .ref h3, .ref h4, .int (1 : Int32), .int (1 : Int32)] [] (z_setR (z_setR (z_setR (z_setR S h0 0 h1) h0 1 h2) h0 2 h3) h0 3 h4) (z_u2 I h0 4 (0 : Int32)) J Q) : Go d i_X3_begin 0 [.ref h0, .ref h1, .ref h2, .ref h3, .ref h4, v5, v6] [] S I J Q := by
  have h := (And.intro g1 (And.intro g2 (And.intro g3 (And.intro g4 (And.intro g5 kk)))))
  exact Go.n tb_X3_begin 19 h
theorem b_X3_begin_32 {d : Nat} {S : zS} {I : zI} {J : zJ} {Q : zQ} {h0 : Nat} {h1 : Nat} {h2 : Nat} {h3 : Nat} {h4 : Nat} {x5 : Int32} {x6 : Int32} (g1 : z_kd S h1 = 2) (kt : (I h1 0) ≤ x6 → Go d i_X3_begin 100 [.ref h0, .ref h1, .ref h2, .ref h3, .ref h4, .int x5, .int x6] [] S I J Q) (kf : ¬ (I h1 0) ≤ x6 → Go d i_X3_begin 41 [.ref h0, .ref h1, .ref h2, .ref h3, .ref h4, .int x5, .int x6] [] S I J Q) : Go d i_X3_begin 32 [.ref h0, .ref h1, .ref h2, .ref h3, .ref h4, .int x5, .int x6] [] S I J Q := by
  have h := (And.intro g1 (Go.ite kt kf))
  exact Go.n tb_X3_begin 4 h
theorem b_X3_begin_41 {d : Nat} {S : zS} {I : zI} {J : zJ} {Q : zQ} {h0 : Nat} {h1 : Nat} {h2 : Nat} {h3 : Nat} {h4 : Nat} {x5 : Int32} {x6 : Int32} (g1 : z_kd S h0 = 4) (kt : (20 : Int32) ≤ (I h0 4) → Go d i_X3_begin 100 [.ref h0, .ref h1, .ref h2, .ref h3, .ref h4, .int x5, .int x6] [] S I J Q) (kf : ¬ (20 : Int32) ≤ (I h0 4) → Go d i_X3_begin 50 [.ref h0, .ref h1, .ref h2, .ref h3, .ref h4, .int x5, .int x6] [] S I J Q) : Go d i_X3_begin 41 [.ref h0, .ref h1, .ref h2, .ref h3, .ref h4, .int x5, .int x6] [] S I J Q := by
  have h := (And.intro g1 (Go.ite kt kf))
  exact Go.n tb_X3_begin 4 h
theorem b_X3_begin_50 {d : Nat} {S : zS} {I : zI} {J : zJ} {Q : zQ} {h0 : Nat} {h1 : Nat} {h2 : Nat} {h3 : Nat} {h4 : Nat} {x5 : Int32} {x6 : Int32} (kt : ¬ ((x5 >>> (x6 &&& 31)) &&& (1 : Int32)) = (0 : Int32) → Go d i_X3_begin 94 [.ref h0, .ref h1, .ref h2, .ref h3, .ref h4, .int x5, .int x6] [] S I J Q) (kf : ((x5 >>> (x6 &&& 31)) &&& (1 : Int32)) = (0 : Int32) → Go d i_X3_begin 60 [.ref h0, .ref h1, .ref h2, .ref h3, .ref h4, .int x5, .int x6] [] S I J Q) : Go d i_X3_begin 50 [.ref h0, .ref h1, .ref h2, .ref h3, .ref h4, .int x5, .int x6] [] S I J Q := by
  have h := (Go.eti kt kf)
  exact Go.n tb_X3_begin 6 h
theorem b_X3_begin_60 {d : Nat} {S : zS} {I : zI} {J : zJ} {Q : zQ} {h0 : Nat} {h1 : Nat} {h2 : Nat} {h3 : Nat} {h4 : Nat} {x5 : Int32} {x6 : Int32} {I1 : zI} (g1 : z_kd S h0 = 4) (g2 : z_kd S h0 = 4) (g3 : z_kd S (z_rv S h0 5) = 100 ∧ vp_in (I h0 4) (z_ln S (z_rv S h0 5))) (g4 : z_kd S h0 = 4) (g5 : z_kd S h0 = 4) (eI1 : I1 = z_u2 (z_u2 I (z_rv S h0 5) (Int32.toNatClampNeg (I h0 4)) x6) h0 4 (((z_u2 I (z_rv S h0 5) (Int32.toNatClampNeg (I h0 4)) x6) h0 4) + (1 : Int32))) (g7 : z_kd S h1 = 2) (kk : z_wp d i_X1_span [.ref h1, .int (x5 ||| ((1 : Int32) <<< (x6 &&& 31)))] S I1 J (fun vv SS II JJ => Go d i_X3_begin 92 [.ref h0, .ref h1, .ref h2, .ref h3, .ref h4, .int x5, .int x6] (vv.toList ++ []) SS II JJ Q)) : Go d i_X3_begin 60 [.ref h0, .ref h1, .ref h2, .ref h3, .ref h4, .int x5, .int x6] [] S I J Q := by
  subst eI1
  have h := (And.intro g1 (And.intro g2 (And.intro g3 (And.intro g4 (And.intro g5 (And.intro g7 kk))))))
  exact Go.n tb_X3_begin 19 h
theorem b_X3_begin_92 {d : Nat} {S : zS} {I : zI} {J : zJ} {Q : zQ} {h0 : Nat} {h1 : Nat} {h2 : Nat} {h3 : Nat} {h4 : Nat} {x5 : Int32} {x6 : Int32} {y0 : Int32} (kk : Go d i_X3_begin 32 [.ref h0, .ref h1, .ref h2, .ref h3, .ref h4, .int y0, .int (x6 + (1 : Int32))] [] S I J Q) : Go d i_X3_begin 92 [.ref h0, .ref h1, .ref h2, .ref h3, .ref h4, .int x5, .int x6] [.int y0] S I J Q := by
  have h := kk
  exact Go.n tb_X3_begin 3 h
theorem b_X3_begin_94 {d : Nat} {S : zS} {I : zI} {J : zJ} {Q : zQ} {h0 : Nat} {h1 : Nat} {h2 : Nat} {h3 : Nat} {h4 : Nat} {x5 : Int32} {x6 : Int32} (kk : Go d i_X3_begin 32 [.ref h0, .ref h1, .ref h2, .ref h3, .ref h4, .int x5, .int (x6 + (1 : Int32))] [] S I J Q) : Go d i_X3_begin 94 [.ref h0, .ref h1, .ref h2, .ref h3, .ref h4, .int x5, .int x6] [] S I J Q := by
  have h := kk
  exact Go.n tb_X3_begin 2 h
theorem b_X3_begin_100 {d : Nat} {S : zS} {I : zI} {J : zJ} {Q : zQ} {h0 : Nat} {h1 : Nat} {h2 : Nat} {h3 : Nat} {h4 : Nat} {x5 : Int32} {x6 : Int32} (kk : Q none S I J) : Go d i_X3_begin 100 [.ref h0, .ref h1, .ref h2, .ref h3, .ref h4, .int x5, .int x6] [] S I J Q := by
  have h := (And.intro trivial kk)
  exact Go.n tb_X3_begin 1 h
theorem w_X3_fits {d : Nat} {S : zS} {I : zI} {J : zJ} {Q : zQ} {h0 : Nat} {x1 : Int32} {x2 : Int32} (h : Go d i_X3_fits 0 [.ref h0, .int x1, .int x2] [] S I J Q) : z_wp (d + 1) i_X3_fits [.ref h0, .int x1, .int x2] S I J Q := Go.wp (Nat.le_of_ble_eq_true rfl) h
theorem e_X3_fits {d : Nat} {S S2 : zS} {I I2 : zI} {J J2 : zJ} {r : Option Value} {h0 : Nat} {x1 : Int32} {x2 : Int32} (h : Go d i_X3_fits 0 [.ref h0, .int x1, .int x2] [] S I J (z_eq r S2 I2 J2)) : z_ev (d + 1) i_X3_fits [.ref h0, .int x1, .int x2] S I J r S2 I2 J2 := Go.ev (Nat.le_of_ble_eq_true rfl) h
theorem b_X3_fits_0 {d : Nat} {S : zS} {I : zI} {J : zJ} {Q : zQ} {h0 : Nat} {x1 : Int32} {x2 : Int32} (g1 : z_kd S h0 = 4) (g2 : z_kd S (z_rv S h0 0) = 2) (g3 : z_isI (z_kd S (z_rv S (z_rv S h0 0) 5)) = true ∧ vp_in x1 (z_ln S (z_rv S (z_rv S h0 0) 5))) (g4 : z_kd S h0 = 4) (g5 : z_kd S (z_rv S h0 1) = 2) (g6 : z_isI (z_kd S (z_rv S (z_rv S h0 1) 5)) = true ∧ vp_in x2 (z_ln S (z_rv S (z_rv S h0 1) 5))) (kt : ¬ (I (z_rv S (z_rv S h0 0) 5) (Int32.toNatClampNeg x1)) = (I (z_rv S (z_rv S h0 1) 5) (Int32.toNatClampNeg x2)) → Go d i_X3_fits 40 [.ref h0, .int x1, .int x2] [] S I J Q) (kf : (I (z_rv S (z_rv S h0 0) 5) (Int32.toNatClampNeg x1)) = (I (z_rv S (z_rv S h0 1) 5) (Int32.toNatClampNeg x2)) → Go d i_X3_fits 21 [.ref h0, .int x1, .int x2] [] S I J Q) : Go d i_X3_fits 0 [.ref h0, .int x1, .int x2] [] S I J Q := by
  have h := (And.intro g1 (And.intro g2 (And.intro g3 (And.intro g4 (And.intro g5 (And.intro g6 (Go.eti kt kf)))))))
  exact Go.n tb_X3_fits 11 h
theorem b_X3_fits_21 {d : Nat} {S : zS} {I : zI} {J : zJ} {Q : zQ} {h0 : Nat} {x1 : Int32} {x2 : Int32} (g1 : z_kd S h0 = 4) (g2 : z_isI (z_kd S (z_rv S h0 2)) = true ∧ vp_in x1 (z_ln S (z_rv S h0 2))) (g3 : z_kd S h0 = 4) (g4 : z_isI (z_kd S (z_rv S h0 3)) = true ∧ vp_in x2 (z_ln S (z_rv S h0 3))) (kt : ¬ (I (z_rv S h0 2) (Int32.toNatClampNeg x1)) = (I (z_rv S h0 3) (Int32.toNatClampNeg x2)) → Go d i_X3_fits 40 [.ref h0, .int x1, .int x2] [] S I J Q) (kf : (I (z_rv S h0 2) (Int32.toNatClampNeg x1)) = (I (z_rv S h0 3) (Int32.toNatClampNeg x2)) → Go d i_X3_fits 36 [.ref h0, .int x1, .int x2] [] S I J Q) : Go d i_X3_fits 21 [.ref h0, .int x1, .int x2] [] S I J Q := by
  have h := (And.intro g1 (And.intro g2 (And.intro g3 (And.intro g4 (Go.eti kt kf)))))
  exact Go.n tb_X3_fits 9 h
theorem b_X3_fits_36 {d : Nat} {S : zS} {I : zI} {J : zJ} {Q : zQ} {h0 : Nat} {x1 : Int32} {x2 : Int32} (g1 : z_fit 3 (1 : Int32)) (kk : Q (some (.int (1 : Int32))) S I J) : Go d i_X3_fits 36 [.ref h0, .int x1, .int x2] [] S I J Q := by
  have h := (And.intro g1 kk)
  exact Go.n tb_X3_fits 3 h
theorem b_X3_fits_40 {d : Nat} {S : zS} {I : zI} {J : zJ} {Q : zQ} {h0 : Nat} {x1 : Int32} {x2 : Int32} (g1 : z_fit 3 (0 : Int32)) (kk : Q (some (.int (0 : Int32))) S I J) : Go d i_X3_fits 40 [.ref h0, .int x1, .int x2] [] S I J Q := by
  have h := (And.intro g1 kk)
  exact Go.n tb_X3_fits 2 h
theorem w_X3_spread {d : Nat} {S : zS} {I : zI} {J : zJ} {Q : zQ} {h0 : Nat} {x1 : Int32} (h : Go d i_X3_spread 0 [.ref h0, .int x1, .retAddr 0, .retAddr 0, .retAddr 0, .retAddr 0, .retAddr 0, .retAddr 0, .retAddr 0, .retAddr 0] [] S I J Q) : z_wp (d + 1) i_X3_spread [.ref h0, .int x1] S I J Q := Go.wp (Nat.le_of_ble_eq_true rfl) h
theorem e_X3_spread {d : Nat} {S S2 : zS} {I I2 : zI} {J J2 : zJ} {r : Option Value} {h0 : Nat} {x1 : Int32} (h : Go d i_X3_spread 0 [.ref h0, .int x1, .retAddr 0, .retAddr 0, .retAddr 0, .retAddr 0, .retAddr 0, .retAddr 0, .retAddr 0, .retAddr 0] [] S I J (z_eq r S2 I2 J2)) : z_ev (d + 1) i_X3_spread [.ref h0, .int x1] S I J r S2 I2 J2 := Go.ev (Nat.le_of_ble_eq_true rfl) h
theorem b_X3_spread_0 {d : Nat} {S : zS} {I : zI} {J : zJ} {Q : zQ} {h0 : Nat} {x1 : Int32} {v2 : Value} {v3 : Value} {v4 : Value} {v5 : Value} {v6 : Value} {v7 : Value} {v8 : Value} {v9 : Value} {I1 : zI} (g1 : z_kd S h0 = 4) (g2 : z_kd S (z_rv S h0 8) = 100 ∧ vp_in (0 : Int32) (z_ln S (z_rv S h0 8))) (g3 : z_kd S h0 = 4) (g4 : z_kd S (z_rv S h0 7) = 100 ∧ vp_in (0 : Int32) (z_ln S (z_rv S h0 7))) (eI1 : I1 = z_u2 (z_u2 I (z_rv S h0 8) (Int32.toNatClampNeg (0 : Int32)) (0 : Int32)) (z_rv S h0 7) (Int32.toNatClampNeg (0 : Int32)) (0 : Int32)) (kk : Go d i_X3_spread 24 [.ref h0, .int x1, .int (1 : Int32), .int (1 : Int32), .int (1 : Int32), .int (0 : Int32), v6, v7, v8, v9] [] S I1 J Q) : Go d i_X3_spread 0 [.ref h0, .int x1, v2, v3, v4, v5, v6, v7, v8, v9] [] S I J Q := by
  subst eI1
  have h := (And.intro g1 (And.intro g2 (And.intro g3 (And.intro g4 kk))))
  exact Go.n tb_X3_spread 18 h
theorem b_X3_spread_24 {d : Nat} {S : zS} {I : zI} {J : zJ} {Q : zQ} {h0 : Nat} {x1 : Int32} {x2 : Int32} {x3 : Int32} {x4 : Int32} {x5 : Int32} {v6 : Value} {v7 : Value} {v8 : Value} {v9 : Value} (kt : x4 ≤ x5 → Go d i_X3_spread 201 [.ref h0, .int x1, .int x2, .int x3, .int x4, .int x5, v6, v7, v8, v9] [] S I J Q) (kf : ¬ x4 ≤ x5 → Go d i_X3_spread 31 [.ref h0, .int x1, .int x2, .int x3, .int x4, .int x5, v6, v7, v8, v9] [] S I J Q) : Go d i_X3_spread 24 [.ref h0, .int x1, .int x2, .int x3, .int x4, .int x5, v6, v7, v8, v9] [] S I J Q := by
  have h := (Go.ite kt kf)
  exact Go.n tb_X3_spread 3 h
theorem b_X3_spread_31 {d : Nat} {S : zS} {I : zI} {J : zJ} {Q : zQ} {h0 : Nat} {x1 : Int32} {x2 : Int32} {x3 : Int32} {x4 : Int32} {x5 : Int32} {v6 : Value} {v7 : Value} {v8 : Value} {v9 : Value} (g1 : z_kd S h0 = 4) (g2 : z_kd S (z_rv S h0 0) = 2) (kt : (I (z_rv S h0 0) 0) ≤ x5 → Go d i_X3_spread 201 [.ref h0, .int x1, .int x2, .int x3, .int x4, .int x5, v6, v7, v8, v9] [] S I J Q) (kf : ¬ (I (z_rv S h0 0) 0) ≤ x5 → Go d i_X3_spread 43 [.ref h0, .int x1, .int x2, .int x3, .int x4, .int x5, v6, v7, v8, v9] [] S I J Q) : Go d i_X3_spread 31 [.ref h0, .int x1, .int x2, .int x3, .int x4, .int x5, v6, v7, v8, v9] [] S I J Q := by
  have h := (And.intro g1 (And.intro g2 (Go.ite kt kf)))
  exact Go.n tb_X3_spread 5 h
theorem b_X3_spread_43 {d : Nat} {S : zS} {I : zI} {J : zJ} {Q : zQ} {h0 : Nat} {x1 : Int32} {x2 : Int32} {x3 : Int32} {x4 : Int32} {x5 : Int32} {v6 : Value} {v7 : Value} {v8 : Value} {v9 : Value} (g1 : z_kd S h0 = 4) (g2 : z_isI (z_kd S (z_rv S h0 8)) = true ∧ vp_in x5 (z_ln S (z_rv S h0 8))) (kk : Go d i_X3_spread 55 [.ref h0, .int x1, .int x2, .int x3, .int x4, .int x5, .int (I (z_rv S h0 8) (Int32.toNatClampNeg x5)), .int (0 : Int32), v8, v9] [] S I J Q) : Go d i_X3_spread 43 [.ref h0, .int x1, .int x2, .int x3, .int x4, .int x5, v6, v7, v8, v9] [] S I J Q := by
  have h := (And.intro g1 (And.intro g2 kk))
  exact Go.n tb_X3_spread 7 h
theorem b_X3_spread_55 {d : Nat} {S : zS} {I : zI} {J : zJ} {Q : zQ} {h0 : Nat} {x1 : Int32} {x2 : Int32} {x3 : Int32} {x4 : Int32} {x5 : Int32} {x6 : Int32} {x7 : Int32} {v8 : Value} {v9 : Value} (kt : x1 ≤ x7 → Go d i_X3_spread 195 [.ref h0, .int x1, .int x2, .int x3, .int x4, .int x5, .int x6, .int x7, v8, v9] [] S I J Q) (kf : ¬ x1 ≤ x7 → Go d i_X3_spread 61 [.ref h0, .int x1, .int x2, .int x3, .int x4, .int x5, .int x6, .int x7, v8, v9] [] S I J Q) : Go d i_X3_spread 55 [.ref h0, .int x1, .int x2, .int x3, .int x4, .int x5, .int x6, .int x7, v8, v9] [] S I J Q := by
  have h := (Go.ite kt kf)
  exact Go.n tb_X3_spread 3 h
theorem b_X3_spread_61 {d : Nat} {S : zS} {I : zI} {J : zJ} {Q : zQ} {h0 : Nat} {x1 : Int32} {x2 : Int32} {x3 : Int32} {x4 : Int32} {x5 : Int32} {x6 : Int32} {x7 : Int32} {v8 : Value} {v9 : Value} (g1 : z_kd S h0 = 4) (g2 : z_kd S h0 = 4) (g3 : z_isI (z_kd S (z_rv S h0 5)) = true ∧ vp_in x7 (z_ln S (z_rv S h0 5))) (g4 : z_kd S (z_rv S h0 0) = 2) (kk : z_wp d i_X1_times [.ref (z_rv S h0 0), .int x6, .int (I (z_rv S h0 5) (Int32.toNatClampNeg x7))] S I J (fun vv SS II JJ => Go d i_X3_spread 77 [.ref h0, .int x1, .int x2, .int x3, .int x4, .int x5, .int x6, .int x7, v8, v9] (vv.toList ++ []) SS II JJ Q)) : Go d i_X3_spread 61 [.ref h0, .int x1, .int x2, .int x3, .int x4, .int x5, .int x6, .int x7, v8, v9] [] S I J Q := by
  have h := (And.intro g1 (And.intro g2 (And.intro g3 (And.intro g4 kk))))
  exact Go.n tb_X3_spread 8 h
theorem b_X3_spread_77 {d : Nat} {S : zS} {I : zI} {J : zJ} {Q : zQ} {h0 : Nat} {x1 : Int32} {x2 : Int32} {x3 : Int32} {x4 : Int32} {x5 : Int32} {x6 : Int32} {x7 : Int32} {v8 : Value} {v9 : Value} {y0 : Int32} (g1 : z_kd S h0 = 4) (g2 : z_kd S h0 = 4) (g3 : z_isI (z_kd S (z_rv S h0 7)) = true ∧ vp_in x6 (z_ln S (z_rv S h0 7))) (g4 : z_kd S h0 = 4) (g5 : z_isI (z_kd S (z_rv S h0 6)) = true ∧ vp_in x7 (z_ln S (z_rv S h0 6))) (g6 : z_kd S (z_rv S h0 1) = 2) (kk : z_wp d i_X1_times [.ref (z_rv S h0 1), .int (I (z_rv S h0 7) (Int32.toNatClampNeg x6)), .int (I (z_rv S h0 6) (Int32.toNatClampNeg x7))] S I J (fun vv SS II JJ => Go d i_X3_spread 100 [.ref h0, .int x1, .int x2, .int x3, .int x4, .int x5, .int x6, .int x7, .int y0, v9] (vv.toList ++ []) SS II JJ Q)) : Go d i_X3_spread 77 [.ref h0, .int x1, .int x2, .int x3, .int x4, .int x5, .int x6, .int x7, v8, v9] [.int y0] S I J Q := by
  have h := (And.intro g1 (And.intro g2 (And.intro g3 (And.intro g4 (And.intro g5 (And.intro g6 kk))))))
  exact Go.n tb_X3_spread 12 h
theorem b_X3_spread_100 {d : Nat} {S : zS} {I : zI} {J : zJ} {Q : zQ} {h0 : Nat} {x1 : Int32} {x2 : Int32} {x3 : Int32} {x4 : Int32} {x5 : Int32} {x6 : Int32} {x7 : Int32} {x8 : Int32} {v9 : Value} {y0 : Int32} (kt : ((x2 >>> (x8 &&& 31)) &&& (1 : Int32)) = (0 : Int32) → Go d i_X3_spread 125 [.ref h0, .int x1, .int x2, .int x3, .int x4, .int x5, .int x6, .int x7, .int x8, .int y0] [] S I J Q) (kf : ¬ ((x2 >>> (x8 &&& 31)) &&& (1 : Int32)) = (0 : Int32) → Go d i_X3_spread 111 [.ref h0, .int x1, .int x2, .int x3, .int x4, .int x5, .int x6, .int x7, .int x8, .int y0] [] S I J Q) : Go d i_X3_spread 100 [.ref h0, .int x1, .int x2, .int x3, .int x4, .int x5, .int x6, .int x7, .int x8, v9] [.int y0] S I J Q := by
  have h := (Go.ite kt kf)
  exact Go.n tb_X3_spread 7 h
theorem b_X3_spread_111 {d : Nat} {S : zS} {I : zI} {J : zJ} {Q : zQ} {h0 : Nat} {x1 : Int32} {x2 : Int32} {x3 : Int32} {x4 : Int32} {x5 : Int32} {x6 : Int32} {x7 : Int32} {x8 : Int32} {x9 : Int32} (g1 : z_kd S h0 = 4) (g2 : z_isI (z_kd S (z_rv S h0 7)) = true ∧ vp_in x8 (z_ln S (z_rv S h0 7))) (kt : (I (z_rv S h0 7) (Int32.toNatClampNeg x8)) = x9 → Go d i_X3_spread 189 [.ref h0, .int x1, .int x2, .int x3, .int x4, .int x5, .int x6, .int x7, .int x8, .int x9] [] S I J Q) (kf : ¬ (I (z_rv S h0 7) (Int32.toNatClampNeg x8)) = x9 → Go d i_X3_spread 123 [.ref h0, .int x1, .int x2, .int x3, .int x4, .int x5, .int x6, .int x7, .int x8, .int x9] [] S I J Q) : Go d i_X3_spread 111 [.ref h0, .int x1, .int x2, .int x3, .int x4, .int x5, .int x6, .int x7, .int x8, .int x9] [] S I J Q := by
  have h := (And.intro g1 (And.intro g2 (Go.ite kt kf)))
  exact Go.n tb_X3_spread 6 h
theorem b_X3_spread_123 {d : Nat} {S : zS} {I : zI} {J : zJ} {Q : zQ} {h0 : Nat} {x1 : Int32} {x2 : Int32} {x3 : Int32} {x4 : Int32} {x5 : Int32} {x6 : Int32} {x7 : Int32} {x8 : Int32} {x9 : Int32} (g1 : z_fit 3 (0 : Int32)) (kk : Q (some (.int (0 : Int32))) S I J) : Go d i_X3_spread 123 [.ref h0, .int x1, .int x2, .int x3, .int x4, .int x5, .int x6, .int x7, .int x8, .int x9] [] S I J Q := by
  have h := (And.intro g1 kk)
  exact Go.n tb_X3_spread 2 h
theorem b_X3_spread_125 {d : Nat} {S : zS} {I : zI} {J : zJ} {Q : zQ} {h0 : Nat} {x1 : Int32} {x2 : Int32} {x3 : Int32} {x4 : Int32} {x5 : Int32} {x6 : Int32} {x7 : Int32} {x8 : Int32} {x9 : Int32} (kt : ¬ ((x3 >>> (x9 &&& 31)) &&& (1 : Int32)) = (0 : Int32) → Go d i_X3_spread 152 [.ref h0, .int x1, .int x2, .int x3, .int x4, .int x5, .int x6, .int x7, .int x8, .int x9] [] S I J Q) (kf : ((x3 >>> (x9 &&& 31)) &&& (1 : Int32)) = (0 : Int32) → Go d i_X3_spread 134 [.ref h0, .int x1, .int x2, .int x3, .int x4, .int x5, .int x6, .int x7, .int x8, .int x9] [] S I J Q) : Go d i_X3_spread 125 [.ref h0, .int x1, .int x2, .int x3, .int x4, .int x5, .int x6, .int x7, .int x8, .int x9] [] S I J Q := by
  have h := (Go.eti kt kf)
  exact Go.n tb_X3_spread 6 h
theorem b_X3_spread_134 {d : Nat} {S : zS} {I : zI} {J : zJ} {Q : zQ} {h0 : Nat} {x1 : Int32} {x2 : Int32} {x3 : Int32} {x4 : Int32} {x5 : Int32} {x6 : Int32} {x7 : Int32} {x8 : Int32} {x9 : Int32} (g1 : z_kd S h0 = 4) (kk : z_wp d i_X3_fits [.ref h0, .int x8, .int x9] S I J (fun vv SS II JJ => Go d i_X3_spread 142 [.ref h0, .int x1, .int x2, .int x3, .int x4, .int x5, .int x6, .int x7, .int x8, .int x9] (vv.toList ++ []) SS II JJ Q)) : Go d i_X3_spread 134 [.ref h0, .int x1, .int x2, .int x3, .int x4, .int x5, .int x6, .int x7, .int x8, .int x9] [] S I J Q := by
  have h := (And.intro g1 kk)
  exact Go.n tb_X3_spread 4 h
theorem b_X3_spread_142 {d : Nat} {S : zS} {I : zI} {J : zJ} {Q : zQ} {h0 : Nat} {x1 : Int32} {x2 : Int32} {x3 : Int32} {x4 : Int32} {x5 : Int32} {x6 : Int32} {x7 : Int32} {x8 : Int32} {x9 : Int32} {y0 : Int32} (kt : y0 = (0 : Int32) → Go d i_X3_spread 152 [.ref h0, .int x1, .int x2, .int x3, .int x4, .int x5, .int x6, .int x7, .int x8, .int x9] [] S I J Q) (kf : ¬ y0 = (0 : Int32) → Go d i_X3_spread 145 [.ref h0, .int x1, .int x2, .int x3, .int x4, .int x5, .int x6, .int x7, .int x8, .int x9] [] S I J Q) : Go d i_X3_spread 142 [.ref h0, .int x1, .int x2, .int x3, .int x4, .int x5, .int x6, .int x7, .int x8, .int x9] [.int y0] S I J Q := by
  have h := (Go.ite kt kf)
  exact Go.n tb_X3_spread 1 h
theorem b_X3_spread_145 {d : Nat} {S : zS} {I : zI} {J : zJ} {Q : zQ} {h0 : Nat} {x1 : Int32} {x2 : Int32} {x3 : Int32} {x4 : Int32} {x5 : Int32} {x6 : Int32} {x7 : Int32} {x8 : Int32} {x9 : Int32} (kt : x4 < (20 : Int32) → Go d i_X3_spread 154 [.ref h0, .int x1, .int x2, .int x3, .int x4, .int x5, .int x6, .int x7, .int x8, .int x9] [] S I J Q) (kf : ¬ x4 < (20 : Int32) → Go d i_X3_spread 152 [.ref h0, .int x1, .int x2, .int x3, .int x4, .int x5, .int x6, .int x7, .int x8, .int x9] [] S I J Q) : Go d i_X3_spread 145 [.ref h0, .int x1, .int x2, .int x3, .int x4, .int x5, .int x6, .int x7, .int x8, .int x9] [] S I J Q := by
  have h := (Go.ite kt kf)
  exact Go.n tb_X3_spread 3 h
theorem b_X3_spread_152 {d : Nat} {S : zS} {I : zI} {J : zJ} {Q : zQ} {h0 : Nat} {x1 : Int32} {x2 : Int32} {x3 : Int32} {x4 : Int32} {x5 : Int32} {x6 : Int32} {x7 : Int32} {x8 : Int32} {x9 : Int32} (g1 : z_fit 3 (0 : Int32)) (kk : Q (some (.int (0 : Int32))) S I J) : Go d i_X3_spread 152 [.ref h0, .int x1, .int x2, .int x3, .int x4, .int x5, .int x6, .int x7, .int x8, .int x9] [] S I J Q := by
  have h := (And.intro g1 kk)
  exact Go.n tb_X3_spread 2 h
theorem b_X3_spread_154 {d : Nat} {S : zS} {I : zI} {J : zJ} {Q : zQ} {h0 : Nat} {x1 : Int32} {x2 : Int32} {x3 : Int32} {x4 : Int32} {x5 : Int32} {x6 : Int32} {x7 : Int32} {x8 : Int32} {x9 : Int32} (g1 : z_kd S h0 = 4) (g2 : z_kd S (z_rv S h0 7) = 100 ∧ vp_in x8 (z_ln S (z_rv S h0 7))) (g3 : z_kd S h0 = 4) (g4 : z_kd S (z_rv S h0 8) = 100 ∧ vp_in x4 (z_ln S (z_rv S h0 8))) (kk : Go d i_X3_spread 55 [.ref h0, .int x1, .int (x2 ||| ((1 : Int32) <<< (x8 &&& 31))), .int (x3 ||| ((1 : Int32) <<< (x9 &&& 31))), .int (x4 + (1 : Int32)), .int x5, .int x6, .int (x7 + (1 : Int32)), .int x8, .int x9] [] S (z_u2 (z_u2 I (z_rv S h0 7) (Int32.toNatClampNeg x8) x9) (z_rv S h0 8) (Int32.toNatClampNeg x4) x8) J Q) : Go d i_X3_spread 154 [.ref h0, .int x1, .int x2, .int x3, .int x4, .int x5, .int x6, .int x7, .int x8, .int x9] [] S I J Q := by
  have h := (And.intro g1 (And.intro g2 (And.intro g3 (And.intro g4 kk))))
  exact Go.n tb_X3_spread 25 h
theorem b_X3_spread_189 {d : Nat} {S : zS} {I : zI} {J : zJ} {Q : zQ} {h0 : Nat} {x1 : Int32} {x2 : Int32} {x3 : Int32} {x4 : Int32} {x5 : Int32} {x6 : Int32} {x7 : Int32} {x8 : Int32} {x9 : Int32} (kk : Go d i_X3_spread 55 [.ref h0, .int x1, .int x2, .int x3, .int x4, .int x5, .int x6, .int (x7 + (1 : Int32)), .int x8, .int x9] [] S I J Q) : Go d i_X3_spread 189 [.ref h0, .int x1, .int x2, .int x3, .int x4, .int x5, .int x6, .int x7, .int x8, .int x9] [] S I J Q := by
  have h := kk
  exact Go.n tb_X3_spread 2 h
theorem b_X3_spread_195 {d : Nat} {S : zS} {I : zI} {J : zJ} {Q : zQ} {h0 : Nat} {x1 : Int32} {x2 : Int32} {x3 : Int32} {x4 : Int32} {x5 : Int32} {x6 : Int32} {x7 : Int32} {v8 : Value} {v9 : Value} (kk : Go d i_X3_spread 24 [.ref h0, .int x1, .int x2, .int x3, .int x4, .int (x5 + (1 : Int32)), .int x6, .int x7, v8, v9] [] S I J Q) : Go d i_X3_spread 195 [.ref h0, .int x1, .int x2, .int x3, .int x4, .int x5, .int x6, .int x7, v8, v9] [] S I J Q := by
  have h := kk
  exact Go.n tb_X3_spread 2 h
theorem b_X3_spread_201 {d : Nat} {S : zS} {I : zI} {J : zJ} {Q : zQ} {h0 : Nat} {x1 : Int32} {x2 : Int32} {x3 : Int32} {x4 : Int32} {x5 : Int32} {v6 : Value} {v7 : Value} {v8 : Value} {v9 : Value} (g1 : z_fit 3 (1 : Int32)) (kk : Q (some (.int (1 : Int32))) S I J) : Go d i_X3_spread 201 [.ref h0, .int x1, .int x2, .int x3, .int x4, .int x5, v6, v7, v8, v9] [] S I J Q := by
  have h := (And.intro g1 kk)
  exact Go.n tb_X3_spread 2 h
theorem w_X3_tryImage {d : Nat} {S : zS} {I : zI} {J : zJ} {Q : zQ} {h0 : Nat} {x1 : Int32} {x2 : Int32} (h : Go d i_X3_tryImage 0 [.ref h0, .int x1, .int x2] [] S I J Q) : z_wp (d + 1) i_X3_tryImage [.ref h0, .int x1, .int x2] S I J Q := Go.wp (Nat.le_of_ble_eq_true rfl) h
theorem e_X3_tryImage {d : Nat} {S S2 : zS} {I I2 : zI} {J J2 : zJ} {r : Option Value} {h0 : Nat} {x1 : Int32} {x2 : Int32} (h : Go d i_X3_tryImage 0 [.ref h0, .int x1, .int x2] [] S I J (z_eq r S2 I2 J2)) : z_ev (d + 1) i_X3_tryImage [.ref h0, .int x1, .int x2] S I J r S2 I2 J2 := Go.ev (Nat.le_of_ble_eq_true rfl) h
theorem b_X3_tryImage_0 {d : Nat} {S : zS} {I : zI} {J : zJ} {Q : zQ} {h0 : Nat} {x1 : Int32} {x2 : Int32} (g1 : z_kd S h0 = 4) (g2 : z_kd S (z_rv S h0 6) = 100 ∧ vp_in x1 (z_ln S (z_rv S h0 6))) (g3 : z_kd S h0 = 4) (g4 : z_isI (z_kd S (z_rv S h0 5)) = true ∧ vp_in x1 (z_ln S (z_rv S h0 5))) (g5 : z_kd S h0 = 4) (kk : z_wp d i_X3_fits [.ref h0, .int ((z_u2 I (z_rv S h0 6) (Int32.toNatClampNeg x1) x2) (z_rv S h0 5) (Int32.toNatClampNeg x1)), .int x2] S (z_u2 I (z_rv S h0 6) (Int32.toNatClampNeg x1) x2) J (fun vv SS II JJ => Go d i_X3_tryImage 18 [.ref h0, .int x1, .int x2] (vv.toList ++ []) SS II JJ Q)) : Go d i_X3_tryImage 0 [.ref h0, .int x1, .int x2] [] S I J Q := by
  have h := (And.intro g1 (And.intro g2 (And.intro g3 (And.intro g4 (And.intro g5 kk)))))
  exact Go.n tb_X3_tryImage 12 h
theorem b_X3_tryImage_18 {d : Nat} {S : zS} {I : zI} {J : zJ} {Q : zQ} {h0 : Nat} {x1 : Int32} {x2 : Int32} {y0 : Int32} (kt : y0 = (0 : Int32) → Go d i_X3_tryImage 35 [.ref h0, .int x1, .int x2] [] S I J Q) (kf : ¬ y0 = (0 : Int32) → Go d i_X3_tryImage 21 [.ref h0, .int x1, .int x2] [] S I J Q) : Go d i_X3_tryImage 18 [.ref h0, .int x1, .int x2] [.int y0] S I J Q := by
  have h := (Go.ite kt kf)
  exact Go.n tb_X3_tryImage 1 h
theorem b_X3_tryImage_21 {d : Nat} {S : zS} {I : zI} {J : zJ} {Q : zQ} {h0 : Nat} {x1 : Int32} {x2 : Int32} (g1 : z_kd S h0 = 4) (kk : z_wp d i_X3_spread [.ref h0, .int (x1 + (1 : Int32))] S I J (fun vv SS II JJ => Go d i_X3_tryImage 28 [.ref h0, .int x1, .int x2] (vv.toList ++ []) SS II JJ Q)) : Go d i_X3_tryImage 21 [.ref h0, .int x1, .int x2] [] S I J Q := by
  have h := (And.intro g1 kk)
  exact Go.n tb_X3_tryImage 5 h
theorem b_X3_tryImage_28 {d : Nat} {S : zS} {I : zI} {J : zJ} {Q : zQ} {h0 : Nat} {x1 : Int32} {x2 : Int32} {y0 : Int32} (kt : y0 = (0 : Int32) → Go d i_X3_tryImage 35 [.ref h0, .int x1, .int x2] [] S I J Q) (kf : ¬ y0 = (0 : Int32) → Go d i_X3_tryImage 31 [.ref h0, .int x1, .int x2] [] S I J Q) : Go d i_X3_tryImage 28 [.ref h0, .int x1, .int x2] [.int y0] S I J Q := by
  have h := (Go.ite kt kf)
  exact Go.n tb_X3_tryImage 1 h
theorem b_X3_tryImage_31 {d : Nat} {S : zS} {I : zI} {J : zJ} {Q : zQ} {h0 : Nat} {x1 : Int32} {x2 : Int32} (g1 : z_fit 3 (1 : Int32)) (kk : Q (some (.int (1 : Int32))) S I J) : Go d i_X3_tryImage 31 [.ref h0, .int x1, .int x2] [] S I J Q := by
  have h := (And.intro g1 kk)
  exact Go.n tb_X3_tryImage 3 h
theorem b_X3_tryImage_35 {d : Nat} {S : zS} {I : zI} {J : zJ} {Q : zQ} {h0 : Nat} {x1 : Int32} {x2 : Int32} (g1 : z_fit 3 (0 : Int32)) (kk : Q (some (.int (0 : Int32))) S I J) : Go d i_X3_tryImage 35 [.ref h0, .int x1, .int x2] [] S I J Q := by
  have h := (And.intro g1 kk)
  exact Go.n tb_X3_tryImage 2 h
theorem w_X3_complete {d : Nat} {S : zS} {I : zI} {J : zJ} {Q : zQ} {h0 : Nat} {x1 : Int32} (h : Go d i_X3_complete 0 [.ref h0, .int x1, .retAddr 0] [] S I J Q) : z_wp (d + 1) i_X3_complete [.ref h0, .int x1] S I J Q := Go.wp (Nat.le_of_ble_eq_true rfl) h
theorem e_X3_complete {d : Nat} {S S2 : zS} {I I2 : zI} {J J2 : zJ} {r : Option Value} {h0 : Nat} {x1 : Int32} (h : Go d i_X3_complete 0 [.ref h0, .int x1, .retAddr 0] [] S I J (z_eq r S2 I2 J2)) : z_ev (d + 1) i_X3_complete [.ref h0, .int x1] S I J r S2 I2 J2 := Go.ev (Nat.le_of_ble_eq_true rfl) h
theorem b_X3_complete_0 {d : Nat} {S : zS} {I : zI} {J : zJ} {Q : zQ} {h0 : Nat} {x1 : Int32} {v2 : Value} (g1 : z_kd S h0 = 4) (kt : (I h0 4) ≤ x1 → Go d i_X3_complete 14 [.ref h0, .int x1, v2] [] S I J Q) (kf : ¬ (I h0 4) ≤ x1 → Go d i_X3_complete 8 [.ref h0, .int x1, v2] [] S I J Q) : Go d i_X3_complete 0 [.ref h0, .int x1, v2] [] S I J Q := by
  have h := (And.intro g1 (Go.ite kt kf))
  exact Go.n tb_X3_complete 4 h
theorem b_X3_complete_8 {d : Nat} {S : zS} {I : zI} {J : zJ} {Q : zQ} {h0 : Nat} {x1 : Int32} {v2 : Value} (kt : x1 < (20 : Int32) → Go d i_X3_complete 16 [.ref h0, .int x1, v2] [] S I J Q) (kf : ¬ x1 < (20 : Int32) → Go d i_X3_complete 14 [.ref h0, .int x1, v2] [] S I J Q) : Go d i_X3_complete 8 [.ref h0, .int x1, v2] [] S I J Q := by
  have h := (Go.ite kt kf)
  exact Go.n tb_X3_complete 3 h
theorem b_X3_complete_14 {d : Nat} {S : zS} {I : zI} {J : zJ} {Q : zQ} {h0 : Nat} {x1 : Int32} {v2 : Value} (g1 : z_fit 3 (1 : Int32)) (kk : Q (some (.int (1 : Int32))) S I J) : Go d i_X3_complete 14 [.ref h0, .int x1, v2] [] S I J Q := by
  have h := (And.intro g1 kk)
  exact Go.n tb_X3_complete 2 h
theorem b_X3_complete_16 {d : Nat} {S : zS} {I : zI} {J : zJ} {Q : zQ} {h0 : Nat} {x1 : Int32} {v2 : Value} (kk : Go d i_X3_complete 18 [.ref h0, .int x1, .int (1 : Int32)] [] S I J Q) : Go d i_X3_complete 16 [.ref h0, .int x1, v2] [] S I J Q := by
  have h := kk
  exact Go.n tb_X3_complete 2 h
theorem b_X3_complete_18 {d : Nat} {S : zS} {I : zI} {J : zJ} {Q : zQ} {h0 : Nat} {x1 : Int32} {x2 : Int32} (g1 : z_kd S h0 = 4) (g2 : z_kd S (z_rv S h0 1) = 2) (kt : (I (z_rv S h0 1) 0) ≤ x2 → Go d i_X3_complete 56 [.ref h0, .int x1, .int x2] [] S I J Q) (kf : ¬ (I (z_rv S h0 1) 0) ≤ x2 → Go d i_X3_complete 29 [.ref h0, .int x1, .int x2] [] S I J Q) : Go d i_X3_complete 18 [.ref h0, .int x1, .int x2] [] S I J Q := by
  have h := (And.intro g1 (And.intro g2 (Go.ite kt kf)))
  exact Go.n tb_X3_complete 5 h
theorem b_X3_complete_29 {d : Nat} {S : zS} {I : zI} {J : zJ} {Q : zQ} {h0 : Nat} {x1 : Int32} {x2 : Int32} (g1 : z_kd S h0 = 4) (kk : z_wp d i_X3_tryImage [.ref h0, .int x1, .int x2] S I J (fun vv SS II JJ => Go d i_X3_complete 35 [.ref h0, .int x1, .int x2] (vv.toList ++ []) SS II JJ Q)) : Go d i_X3_complete 29 [.ref h0, .int x1, .int x2] [] S I J Q := by
  have h := (And.intro g1 kk)
  exact Go.n tb_X3_complete 4 h
theorem b_X3_complete_35 {d : Nat} {S : zS} {I : zI} {J : zJ} {Q : zQ} {h0 : Nat} {x1 : Int32} {x2 : Int32} {y0 : Int32} (kt : y0 = (0 : Int32) → Go d i_X3_complete 50 [.ref h0, .int x1, .int x2] [] S I J Q) (kf : ¬ y0 = (0 : Int32) → Go d i_X3_complete 38 [.ref h0, .int x1, .int x2] [] S I J Q) : Go d i_X3_complete 35 [.ref h0, .int x1, .int x2] [.int y0] S I J Q := by
  have h := (Go.ite kt kf)
  exact Go.n tb_X3_complete 1 h
theorem b_X3_complete_38 {d : Nat} {S : zS} {I : zI} {J : zJ} {Q : zQ} {h0 : Nat} {x1 : Int32} {x2 : Int32} (g1 : z_kd S h0 = 4) (kk : z_wp d i_X3_complete [.ref h0, .int (x1 + (1 : Int32))] S I J (fun vv SS II JJ => Go d i_X3_complete 45 [.ref h0, .int x1, .int x2] (vv.toList ++ []) SS II JJ Q)) : Go d i_X3_complete 38 [.ref h0, .int x1, .int x2] [] S I J Q := by
  have h := (And.intro g1 kk)
  exact Go.n tb_X3_complete 5 h
theorem b_X3_complete_45 {d : Nat} {S : zS} {I : zI} {J : zJ} {Q : zQ} {h0 : Nat} {x1 : Int32} {x2 : Int32} {y0 : Int32} (kt : y0 = (0 : Int32) → Go d i_X3_complete 50 [.ref h0, .int x1, .int x2] [] S I J Q) (kf : ¬ y0 = (0 : Int32) → Go d i_X3_complete 48 [.ref h0, .int x1, .int x2] [] S I J Q) : Go d i_X3_complete 45 [.ref h0, .int x1, .int x2] [.int y0] S I J Q := by
  have h := (Go.ite kt kf)
  exact Go.n tb_X3_complete 1 h
theorem b_X3_complete_48 {d : Nat} {S : zS} {I : zI} {J : zJ} {Q : zQ} {h0 : Nat} {x1 : Int32} {x2 : Int32} (g1 : z_fit 3 (1 : Int32)) (kk : Q (some (.int (1 : Int32))) S I J) : Go d i_X3_complete 48 [.ref h0, .int x1, .int x2] [] S I J Q := by
  have h := (And.intro g1 kk)
  exact Go.n tb_X3_complete 2 h
theorem b_X3_complete_50 {d : Nat} {S : zS} {I : zI} {J : zJ} {Q : zQ} {h0 : Nat} {x1 : Int32} {x2 : Int32} (kk : Go d i_X3_complete 18 [.ref h0, .int x1, .int (x2 + (1 : Int32))] [] S I J Q) : Go d i_X3_complete 50 [.ref h0, .int x1, .int x2] [] S I J Q := by
  have h := kk
  exact Go.n tb_X3_complete 2 h
theorem b_X3_complete_56 {d : Nat} {S : zS} {I : zI} {J : zJ} {Q : zQ} {h0 : Nat} {x1 : Int32} {x2 : Int32} (g1 : z_fit 3 (0 : Int32)) (kk : Q (some (.int (0 : Int32))) S I J) : Go d i_X3_complete 56 [.ref h0, .int x1, .int x2] [] S I J Q := by
  have h := (And.intro g1 kk)
  exact Go.n tb_X3_complete 2 h
theorem w_X3_findFirst {d : Nat} {S : zS} {I : zI} {J : zJ} {Q : zQ} {h0 : Nat} {h1 : Nat} {h2 : Nat} {h3 : Nat} (h : Go d i_X3_findFirst 0 [.ref h0, .ref h1, .ref h2, .ref h3, .retAddr 0, .retAddr 0] [] S I J Q) : z_wp (d + 1) i_X3_findFirst [.ref h0, .ref h1, .ref h2, .ref h3] S I J Q := Go.wp (Nat.le_of_ble_eq_true rfl) h
theorem e_X3_findFirst {d : Nat} {S S2 : zS} {I I2 : zI} {J J2 : zJ} {r : Option Value} {h0 : Nat} {h1 : Nat} {h2 : Nat} {h3 : Nat} (h : Go d i_X3_findFirst 0 [.ref h0, .ref h1, .ref h2, .ref h3, .retAddr 0, .retAddr 0] [] S I J (z_eq r S2 I2 J2)) : z_ev (d + 1) i_X3_findFirst [.ref h0, .ref h1, .ref h2, .ref h3] S I J r S2 I2 J2 := Go.ev (Nat.le_of_ble_eq_true rfl) h
theorem b_X3_findFirst_0 {d : Nat} {S : zS} {I : zI} {J : zJ} {Q : zQ} {h0 : Nat} {h1 : Nat} {h2 : Nat} {h3 : Nat} {v4 : Value} {v5 : Value} (g1 : z_kd S h1 = 2) (kk : z_wp d i_X1_hasMarksOf [.ref h1, .ref h2] S I J (fun vv SS II JJ => Go d i_X3_findFirst 8 [.ref h0, .ref h1, .ref h2, .ref h3, .int (0 : Int32), v5] (vv.toList ++ []) SS II JJ Q)) : Go d i_X3_findFirst 0 [.ref h0, .ref h1, .ref h2, .ref h3, v4, v5] [] S I J Q := by
  have h := (And.intro g1 kk)
  exact Go.n tb_X3_findFirst 5 h
theorem b_X3_findFirst_8 {d : Nat} {S : zS} {I : zI} {J : zJ} {Q : zQ} {h0 : Nat} {h1 : Nat} {h2 : Nat} {h3 : Nat} {x4 : Int32} {v5 : Value} {y0 : Int32} (kt : y0 = (0 : Int32) → Go d i_X3_findFirst 39 [.ref h0, .ref h1, .ref h2, .ref h3, .int x4, v5] [] S I J Q) (kf : ¬ y0 = (0 : Int32) → Go d i_X3_findFirst 11 [.ref h0, .ref h1, .ref h2, .ref h3, .int x4, v5] [] S I J Q) : Go d i_X3_findFirst 8 [.ref h0, .ref h1, .ref h2, .ref h3, .int x4, v5] [.int y0] S I J Q := by
  have h := (Go.ite kt kf)
  exact Go.n tb_X3_findFirst 1 h
theorem b_X3_findFirst_11 {d : Nat} {S : zS} {I : zI} {J : zJ} {Q : zQ} {h0 : Nat} {h1 : Nat} {h2 : Nat} {h3 : Nat} {x4 : Int32} {v5 : Value} (g1 : z_kd S h1 = 2) (g2 : z_kd S h2 = 2) (g3 : z_kd S h0 = 4) (kk : z_wp d i_X3_begin [.ref h0, .ref h1, .ref h2, .ref (z_rv S h1 5), .ref (z_rv S h2 5)] S I J (fun vv SS II JJ => Go d i_X3_findFirst 25 [.ref h0, .ref h1, .ref h2, .ref h3, .int x4, v5] (vv.toList ++ []) SS II JJ Q)) : Go d i_X3_findFirst 11 [.ref h0, .ref h1, .ref h2, .ref h3, .int x4, v5] [] S I J Q := by
  have h := (And.intro g1 (And.intro g2 (And.intro g3 kk)))
  exact Go.n tb_X3_findFirst 8 h
theorem b_X3_findFirst_25 {d : Nat} {S : zS} {I : zI} {J : zJ} {Q : zQ} {h0 : Nat} {h1 : Nat} {h2 : Nat} {h3 : Nat} {x4 : Int32} {v5 : Value} (g1 : z_kd S h0 = 4) (g2 : z_kd S (z_rv S h0 7) = 100 ∧ vp_in (0 : Int32) (z_ln S (z_rv S h0 7))) (g3 : z_kd S h0 = 4) (kk : z_wp d i_X3_complete [.ref h0, .int (0 : Int32)] S (z_u2 I (z_rv S h0 7) (Int32.toNatClampNeg (0 : Int32)) (0 : Int32)) J (fun vv SS II JJ => Go d i_X3_findFirst 37 [.ref h0, .ref h1, .ref h2, .ref h3, .int x4, v5] (vv.toList ++ []) SS II JJ Q)) : Go d i_X3_findFirst 25 [.ref h0, .ref h1, .ref h2, .ref h3, .int x4, v5] [] S I J Q := by
  have h := (And.intro g1 (And.intro g2 (And.intro g3 kk)))
  exact Go.n tb_X3_findFirst 8 h
theorem b_X3_findFirst_37 {d : Nat} {S : zS} {I : zI} {J : zJ} {Q : zQ} {h0 : Nat} {h1 : Nat} {h2 : Nat} {h3 : Nat} {x4 : Int32} {v5 : Value} {y0 : Int32} (kk : Go d i_X3_findFirst 42 [.ref h0, .ref h1, .ref h2, .ref h3, .int y0, .int (0 : Int32)] [] S I J Q) : Go d i_X3_findFirst 37 [.ref h0, .ref h1, .ref h2, .ref h3, .int x4, v5] [.int y0] S I J Q := by
  have h := kk
  exact Go.n tb_X3_findFirst 3 h
theorem b_X3_findFirst_39 {d : Nat} {S : zS} {I : zI} {J : zJ} {Q : zQ} {h0 : Nat} {h1 : Nat} {h2 : Nat} {h3 : Nat} {x4 : Int32} {v5 : Value} (kk : Go d i_X3_findFirst 42 [.ref h0, .ref h1, .ref h2, .ref h3, .int x4, .int (0 : Int32)] [] S I J Q) : Go d i_X3_findFirst 39 [.ref h0, .ref h1, .ref h2, .ref h3, .int x4, v5] [] S I J Q := by
  have h := kk
  exact Go.n tb_X3_findFirst 2 h
theorem b_X3_findFirst_42 {d : Nat} {S : zS} {I : zI} {J : zJ} {Q : zQ} {h0 : Nat} {h1 : Nat} {h2 : Nat} {h3 : Nat} {x4 : Int32} {x5 : Int32} (g1 : z_kd S h1 = 2) (kt : (I h1 0) ≤ x5 → Go d i_X3_findFirst 77 [.ref h0, .ref h1, .ref h2, .ref h3, .int x4, .int x5] [] S I J Q) (kf : ¬ (I h1 0) ≤ x5 → Go d i_X3_findFirst 51 [.ref h0, .ref h1, .ref h2, .ref h3, .int x4, .int x5] [] S I J Q) : Go d i_X3_findFirst 42 [.ref h0, .ref h1, .ref h2, .ref h3, .int x4, .int x5] [] S I J Q := by
  have h := (And.intro g1 (Go.ite kt kf))
  exact Go.n tb_X3_findFirst 4 h
theorem b_X3_findFirst_51 {d : Nat} {S : zS} {I : zI} {J : zJ} {Q : zQ} {h0 : Nat} {h1 : Nat} {h2 : Nat} {h3 : Nat} {x4 : Int32} {x5 : Int32} (kt : x4 = (0 : Int32) → Go d i_X3_findFirst 69 [.ref h0, .ref h1, .ref h2, .ref h3, .int x4, .int x5] [.int x5, .ref h3] S I J Q) (kf : ¬ x4 = (0 : Int32) → Go d i_X3_findFirst 59 [.ref h0, .ref h1, .ref h2, .ref h3, .int x4, .int x5] [.int x5, .ref h3] S I J Q) : Go d i_X3_findFirst 51 [.ref h0, .ref h1, .ref h2, .ref h3, .int x4, .int x5] [] S I J Q := by
  have h := (Go.ite kt kf)
  exact Go.n tb_X3_findFirst 4 h
theorem b_X3_findFirst_59 {d : Nat} {S : zS} {I : zI} {J : zJ} {Q : zQ} {h0 : Nat} {h1 : Nat} {h2 : Nat} {h3 : Nat} {x4 : Int32} {x5 : Int32} {q0 : Nat} {y1 : Int32} (g1 : z_kd S h0 = 4) (g2 : z_isI (z_kd S (z_rv S h0 7)) = true ∧ vp_in x5 (z_ln S (z_rv S h0 7))) (g3 : z_kd S q0 = 100 ∧ vp_in y1 (z_ln S q0)) (kk : Go d i_X3_findFirst 42 [.ref h0, .ref h1, .ref h2, .ref h3, .int x4, .int (x5 + (1 : Int32))] [] S (z_u2 I q0 (Int32.toNatClampNeg y1) (I (z_rv S h0 7) (Int32.toNatClampNeg x5))) J Q) : Go d i_X3_findFirst 59 [.ref h0, .ref h1, .ref h2, .ref h3, .int x4, .int x5] [.int y1, .ref q0] S I J Q := by
  have h := (And.intro g1 (And.intro g2 (And.intro g3 kk)))
  exact Go.n tb_X3_findFirst 8 h
theorem b_X3_findFirst_69 {d : Nat} {S : zS} {I : zI} {J : zJ} {Q : zQ} {h0 : Nat} {h1 : Nat} {h2 : Nat} {h3 : Nat} {x4 : Int32} {x5 : Int32} {q0 : Nat} {y1 : Int32} (g1 : z_kd S q0 = 100 ∧ vp_in y1 (z_ln S q0)) (kk : Go d i_X3_findFirst 42 [.ref h0, .ref h1, .ref h2, .ref h3, .int x4, .int (x5 + (1 : Int32))] [] S (z_u2 I q0 (Int32.toNatClampNeg y1) (-1 : Int32)) J Q) : Go d i_X3_findFirst 69 [.ref h0, .ref h1, .ref h2, .ref h3, .int x4, .int x5] [.int y1, .ref q0] S I J Q := by
  have h := (And.intro g1 kk)
  exact Go.n tb_X3_findFirst 4 h
theorem b_X3_findFirst_77 {d : Nat} {S : zS} {I : zI} {J : zJ} {Q : zQ} {h0 : Nat} {h1 : Nat} {h2 : Nat} {h3 : Nat} {x4 : Int32} {x5 : Int32} (kk : Q none S I J) : Go d i_X3_findFirst 77 [.ref h0, .ref h1, .ref h2, .ref h3, .int x4, .int x5] [] S I J Q := by
  have h := (And.intro trivial kk)
  exact Go.n tb_X3_findFirst 1 h
theorem w_X3_countOwn {d : Nat} {S : zS} {I : zI} {J : zJ} {Q : zQ} {h0 : Nat} {h1 : Nat} {h2 : Nat} (h : Go d i_X3_countOwn 0 [.ref h0, .ref h1, .ref h2, .retAddr 0, .retAddr 0, .retAddr 0, .retAddr 0] [] S I J Q) : z_wp (d + 1) i_X3_countOwn [.ref h0, .ref h1, .ref h2] S I J Q := Go.wp (Nat.le_of_ble_eq_true rfl) h
theorem e_X3_countOwn {d : Nat} {S S2 : zS} {I I2 : zI} {J J2 : zJ} {r : Option Value} {h0 : Nat} {h1 : Nat} {h2 : Nat} (h : Go d i_X3_countOwn 0 [.ref h0, .ref h1, .ref h2, .retAddr 0, .retAddr 0, .retAddr 0, .retAddr 0] [] S I J (z_eq r S2 I2 J2)) : z_ev (d + 1) i_X3_countOwn [.ref h0, .ref h1, .ref h2] S I J r S2 I2 J2 := Go.ev (Nat.le_of_ble_eq_true rfl) h
theorem b_X3_countOwn_0 {d : Nat} {S : zS} {I : zI} {J : zJ} {Q : zQ} {h0 : Nat} {h1 : Nat} {h2 : Nat} {v3 : Value} {v4 : Value} {v5 : Value} {v6 : Value} (g1 : z_kd S h0 = 4) (kk : z_wp d i_X3_begin [.ref h0, .ref h1, .ref h1, .ref h2, .ref h2] S I J (fun vv SS II JJ => Go d i_X3_countOwn 8 [.ref h0, .ref h1, .ref h2, v3, v4, v5, v6] (vv.toList ++ []) SS II JJ Q)) : Go d i_X3_countOwn 0 [.ref h0, .ref h1, .ref h2, v3, v4, v5, v6] [] S I J Q := by
  have h := (And.intro g1 kk)
  exact Go.n tb_X3_countOwn 6 h
theorem b_X3_countOwn_8 {d : Nat} {S : zS} {I : zI} {J : zJ} {Q : zQ} {h0 : Nat} {h1 : Nat} {h2 : Nat} {v3 : Value} {v4 : Value} {v5 : Value} {v6 : Value} (kk : Go d i_X3_countOwn 13 [.ref h0, .ref h1, .ref h2, .int (1 : Int32), .int (0 : Int32), v5, v6] [] S I J Q) : Go d i_X3_countOwn 8 [.ref h0, .ref h1, .ref h2, v3, v4, v5, v6] [] S I J Q := by
  have h := kk
  exact Go.n tb_X3_countOwn 4 h
theorem b_X3_countOwn_13 {d : Nat} {S : zS} {I : zI} {J : zJ} {Q : zQ} {h0 : Nat} {h1 : Nat} {h2 : Nat} {x3 : Int32} {x4 : Int32} {v5 : Value} {v6 : Value} (g1 : z_kd S h0 = 4) (kt : (I h0 4) ≤ x4 → Go d i_X3_countOwn 93 [.ref h0, .ref h1, .ref h2, .int x3, .int x4, v5, v6] [] S I J Q) (kf : ¬ (I h0 4) ≤ x4 → Go d i_X3_countOwn 22 [.ref h0, .ref h1, .ref h2, .int x3, .int x4, v5, v6] [] S I J Q) : Go d i_X3_countOwn 13 [.ref h0, .ref h1, .ref h2, .int x3, .int x4, v5, v6] [] S I J Q := by
  have h := (And.intro g1 (Go.ite kt kf))
  exact Go.n tb_X3_countOwn 4 h
theorem b_X3_countOwn_22 {d : Nat} {S : zS} {I : zI} {J : zJ} {Q : zQ} {h0 : Nat} {h1 : Nat} {h2 : Nat} {x3 : Int32} {x4 : Int32} {v5 : Value} {v6 : Value} (kk : Go d i_X3_countOwn 28 [.ref h0, .ref h1, .ref h2, .int x3, .int x4, .int (0 : Int32), .int (1 : Int32)] [] S I J Q) : Go d i_X3_countOwn 22 [.ref h0, .ref h1, .ref h2, .int x3, .int x4, v5, v6] [] S I J Q := by
  have h := kk
  exact Go.n tb_X3_countOwn 4 h
theorem b_X3_countOwn_28 {d : Nat} {S : zS} {I : zI} {J : zJ} {Q : zQ} {h0 : Nat} {h1 : Nat} {h2 : Nat} {x3 : Int32} {x4 : Int32} {x5 : Int32} {x6 : Int32} (g1 : z_kd S h1 = 2) (kt : (I h1 0) ≤ x6 → Go d i_X3_countOwn 68 [.ref h0, .ref h1, .ref h2, .int x3, .int x4, .int x5, .int x6] [] S I J Q) (kf : ¬ (I h1 0) ≤ x6 → Go d i_X3_countOwn 37 [.ref h0, .ref h1, .ref h2, .int x3, .int x4, .int x5, .int x6] [] S I J Q) : Go d i_X3_countOwn 28 [.ref h0, .ref h1, .ref h2, .int x3, .int x4, .int x5, .int x6] [] S I J Q := by
  have h := (And.intro g1 (Go.ite kt kf))
  exact Go.n tb_X3_countOwn 4 h
theorem b_X3_countOwn_37 {d : Nat} {S : zS} {I : zI} {J : zJ} {Q : zQ} {h0 : Nat} {h1 : Nat} {h2 : Nat} {x3 : Int32} {x4 : Int32} {x5 : Int32} {x6 : Int32} (g1 : z_kd S h0 = 4) (kk : z_wp d i_X3_tryImage [.ref h0, .int x4, .int x6] S I J (fun vv SS II JJ => Go d i_X3_countOwn 45 [.ref h0, .ref h1, .ref h2, .int x3, .int x4, .int x5, .int x6] (vv.toList ++ []) SS II JJ Q)) : Go d i_X3_countOwn 37 [.ref h0, .ref h1, .ref h2, .int x3, .int x4, .int x5, .int x6] [] S I J Q := by
  have h := (And.intro g1 kk)
  exact Go.n tb_X3_countOwn 4 h
theorem b_X3_countOwn_45 {d : Nat} {S : zS} {I : zI} {J : zJ} {Q : zQ} {h0 : Nat} {h1 : Nat} {h2 : Nat} {x3 : Int32} {x4 : Int32} {x5 : Int32} {x6 : Int32} {y0 : Int32} (kt : y0 = (0 : Int32) → Go d i_X3_countOwn 62 [.ref h0, .ref h1, .ref h2, .int x3, .int x4, .int x5, .int x6] [] S I J Q) (kf : ¬ y0 = (0 : Int32) → Go d i_X3_countOwn 48 [.ref h0, .ref h1, .ref h2, .int x3, .int x4, .int x5, .int x6] [] S I J Q) : Go d i_X3_countOwn 45 [.ref h0, .ref h1, .ref h2, .int x3, .int x4, .int x5, .int x6] [.int y0] S I J Q := by
  have h := (Go.ite kt kf)
  exact Go.n tb_X3_countOwn 1 h
theorem b_X3_countOwn_48 {d : Nat} {S : zS} {I : zI} {J : zJ} {Q : zQ} {h0 : Nat} {h1 : Nat} {h2 : Nat} {x3 : Int32} {x4 : Int32} {x5 : Int32} {x6 : Int32} (g1 : z_kd S h0 = 4) (kk : z_wp d i_X3_complete [.ref h0, .int (x4 + (1 : Int32))] S I J (fun vv SS II JJ => Go d i_X3_countOwn 56 [.ref h0, .ref h1, .ref h2, .int x3, .int x4, .int x5, .int x6] (vv.toList ++ []) SS II JJ Q)) : Go d i_X3_countOwn 48 [.ref h0, .ref h1, .ref h2, .int x3, .int x4, .int x5, .int x6] [] S I J Q := by
  have h := (And.intro g1 kk)
  exact Go.n tb_X3_countOwn 5 h
theorem b_X3_countOwn_56 {d : Nat} {S : zS} {I : zI} {J : zJ} {Q : zQ} {h0 : Nat} {h1 : Nat} {h2 : Nat} {x3 : Int32} {x4 : Int32} {x5 : Int32} {x6 : Int32} {y0 : Int32} (kt : y0 = (0 : Int32) → Go d i_X3_countOwn 62 [.ref h0, .ref h1, .ref h2, .int x3, .int x4, .int x5, .int x6] [] S I J Q) (kf : ¬ y0 = (0 : Int32) → Go d i_X3_countOwn 59 [.ref h0, .ref h1, .ref h2, .int x3, .int x4, .int x5, .int x6] [] S I J Q) : Go d i_X3_countOwn 56 [.ref h0, .ref h1, .ref h2, .int x3, .int x4, .int x5, .int x6] [.int y0] S I J Q := by
  have h := (Go.ite kt kf)
  exact Go.n tb_X3_countOwn 1 h
theorem b_X3_countOwn_59 {d : Nat} {S : zS} {I : zI} {J : zJ} {Q : zQ} {h0 : Nat} {h1 : Nat} {h2 : Nat} {x3 : Int32} {x4 : Int32} {x5 : Int32} {x6 : Int32} (kk : Go d i_X3_countOwn 28 [.ref h0, .ref h1, .ref h2, .int x3, .int x4, .int (x5 + (1 : Int32)), .int (x6 + (1 : Int32))] [] S I J Q) : Go d i_X3_countOwn 59 [.ref h0, .ref h1, .ref h2, .int x3, .int x4, .int x5, .int x6] [] S I J Q := by
  have h := kk
  exact Go.n tb_X3_countOwn 3 h
theorem b_X3_countOwn_62 {d : Nat} {S : zS} {I : zI} {J : zJ} {Q : zQ} {h0 : Nat} {h1 : Nat} {h2 : Nat} {x3 : Int32} {x4 : Int32} {x5 : Int32} {x6 : Int32} (kk : Go d i_X3_countOwn 28 [.ref h0, .ref h1, .ref h2, .int x3, .int x4, .int x5, .int (x6 + (1 : Int32))] [] S I J Q) : Go d i_X3_countOwn 62 [.ref h0, .ref h1, .ref h2, .int x3, .int x4, .int x5, .int x6] [] S I J Q := by
  have h := kk
  exact Go.n tb_X3_countOwn 2 h
theorem b_X3_countOwn_68 {d : Nat} {S : zS} {I : zI} {J : zJ} {Q : zQ} {h0 : Nat} {h1 : Nat} {h2 : Nat} {x3 : Int32} {x4 : Int32} {x5 : Int32} {x6 : Int32} (g1 : z_kd S h0 = 4) (g2 : z_kd S h0 = 4) (g3 : z_isI (z_kd S (z_rv S h0 5)) = true ∧ vp_in x4 (z_ln S (z_rv S h0 5))) (g4 : z_kd S (z_rv S h0 6) = 100 ∧ vp_in x4 (z_ln S (z_rv S h0 6))) (kk : Go d i_X3_countOwn 13 [.ref h0, .ref h1, .ref h2, .int (x3 * x5), .int (x4 + (1 : Int32)), .int x5, .int x6] [] S (z_u2 I (z_rv S h0 6) (Int32.toNatClampNeg x4) (I (z_rv S h0 5) (Int32.toNatClampNeg x4))) J Q) : Go d i_X3_countOwn 68 [.ref h0, .ref h1, .ref h2, .int x3, .int x4, .int x5, .int x6] [] S I J Q := by
  have h := (And.intro g1 (And.intro g2 (And.intro g3 (And.intro g4 kk))))
  exact Go.n tb_X3_countOwn 14 h
theorem b_X3_countOwn_93 {d : Nat} {S : zS} {I : zI} {J : zJ} {Q : zQ} {h0 : Nat} {h1 : Nat} {h2 : Nat} {x3 : Int32} {x4 : Int32} {v5 : Value} {v6 : Value} (kk : Q (some (.int x3)) S I J) : Go d i_X3_countOwn 93 [.ref h0, .ref h1, .ref h2, .int x3, .int x4, v5, v6] [] S I J Q := by
  have h := (And.intro trivial kk)
  exact Go.n tb_X3_countOwn 2 h
theorem w_X4_init {d : Nat} {S : zS} {I : zI} {J : zJ} {Q : zQ} {h0 : Nat} (h : Go d i_X4_init 0 [.ref h0] [] S I J Q) : z_wp (d + 1) i_X4_init [.ref h0] S I J Q := Go.wp (Nat.le_of_ble_eq_true rfl) h
theorem e_X4_init {d : Nat} {S S2 : zS} {I I2 : zI} {J J2 : zJ} {r : Option Value} {h0 : Nat} (h : Go d i_X4_init 0 [.ref h0] [] S I J (z_eq r S2 I2 J2)) : z_ev (d + 1) i_X4_init [.ref h0] S I J r S2 I2 J2 := Go.ev (Nat.le_of_ble_eq_true rfl) h
theorem b_X4_init_0 {d : Nat} {S : zS} {I : zI} {J : zJ} {Q : zQ} {h0 : Nat} (g1 : ¬ h0 = 0) (g2 : ¬ (8 : Int32) < 0 ∧ (Int32.toNatClampNeg (8 : Int32)) * 4 ≤ 536870912) (g3 : z_kd (z_new S 100 (Int32.toNatClampNeg (8 : Int32)) (Int32.toNatClampNeg (8 : Int32))) h0 = 5) (kk : Go d i_X4_init 12 [.ref h0] [] (z_setR (z_new S 100 (Int32.toNatClampNeg (8 : Int32)) (Int32.toNatClampNeg (8 : Int32))) h0 2 (z_sz S + 1)) (z_ur I (z_sz S + 1) (fun _ => 0)) J Q) : Go d i_X4_init 0 [.ref h0] [] S I J Q := by
  have h := (And.intro g1 (And.intro g2 (And.intro g3 kk)))
  exact Go.n tb_X4_init 6 h
theorem b_X4_init_12 {d : Nat} {S : zS} {I : zI} {J : zJ} {Q : zQ} {h0 : Nat} (g1 : ¬ (8 : Int32) < 0 ∧ (Int32.toNatClampNeg (8 : Int32)) * 4 ≤ 536870912) (g2 : z_kd (z_new S 103 (Int32.toNatClampNeg (8 : Int32)) (Int32.toNatClampNeg (8 : Int32))) h0 = 5) (kk : Go d i_X4_init 21 [.ref h0] [] (z_setR (z_new S 103 (Int32.toNatClampNeg (8 : Int32)) (Int32.toNatClampNeg (8 : Int32))) h0 3 (z_sz S + 1)) I J Q) : Go d i_X4_init 12 [.ref h0] [] S I J Q := by
  have h := (And.intro g1 (And.intro g2 kk))
  exact Go.n tb_X4_init 4 h
theorem b_X4_init_21 {d : Nat} {S : zS} {I : zI} {J : zJ} {Q : zQ} {h0 : Nat} (g1 : ¬ (8 : Int32) < 0 ∧ (Int32.toNatClampNeg (8 : Int32)) * 4 ≤ 536870912) (g2 : z_kd (z_new S 100 (Int32.toNatClampNeg (8 : Int32)) (Int32.toNatClampNeg (8 : Int32))) h0 = 5) (kk : Go d i_X4_init 29 [.ref h0] [] (z_setR (z_new S 100 (Int32.toNatClampNeg (8 : Int32)) (Int32.toNatClampNeg (8 : Int32))) h0 4 (z_sz S + 1)) (z_ur I (z_sz S + 1) (fun _ => 0)) J Q) : Go d i_X4_init 21 [.ref h0] [] S I J Q := by
  have h := (And.intro g1 (And.intro g2 kk))
  exact Go.n tb_X4_init 4 h
theorem b_X4_init_29 {d : Nat} {S : zS} {I : zI} {J : zJ} {Q : zQ} {h0 : Nat} (g1 : z_kd S h0 = 5) (kk : Go d i_X4_init 34 [.ref h0] [] S (z_u2 I h0 0 (0 : Int32)) J Q) : Go d i_X4_init 29 [.ref h0] [] S I J Q := by
  have h := (And.intro g1 kk)
  exact Go.n tb_X4_init 3 h
theorem b_X4_init_34 {d : Nat} {S : zS} {I : zI} {J : zJ} {Q : zQ} {h0 : Nat} (g1 : z_kd S h0 = 5) (kk : Go d i_X4_init 39 [.ref h0] [] S (z_u2 I h0 1 (0 : Int32)) J Q) : Go d i_X4_init 34 [.ref h0] [] S I J Q := by
  have h := (And.intro g1 kk)
  exact Go.n tb_X4_init 3 h
theorem b_X4_init_39 {d : Nat} {S : zS} {I : zI} {J : zJ} {Q : zQ} {h0 : Nat} (kk : Q none S I J) : Go d i_X4_init 39 [.ref h0] [] S I J Q := by
  have h := (And.intro trivial kk)
  exact Go.n tb_X4_init 1 h
theorem w_X4_keep {d : Nat} {S : zS} {I : zI} {J : zJ} {Q : zQ} {h0 : Nat} {x1 : Int32} {h2 : Nat} (h : Go d i_X4_keep 0 [.ref h0, .int x1, .ref h2] [] S I J Q) : z_wp (d + 1) i_X4_keep [.ref h0, .int x1, .ref h2] S I J Q := Go.wp (Nat.le_of_ble_eq_true rfl) h
theorem e_X4_keep {d : Nat} {S S2 : zS} {I I2 : zI} {J J2 : zJ} {r : Option Value} {h0 : Nat} {x1 : Int32} {h2 : Nat} (h : Go d i_X4_keep 0 [.ref h0, .int x1, .ref h2] [] S I J (z_eq r S2 I2 J2)) : z_ev (d + 1) i_X4_keep [.ref h0, .int x1, .ref h2] S I J r S2 I2 J2 := Go.ev (Nat.le_of_ble_eq_true rfl) h
theorem b_X4_keep_0 {d : Nat} {S : zS} {I : zI} {J : zJ} {Q : zQ} {h0 : Nat} {x1 : Int32} {h2 : Nat} {S1 : zS} {I2 : zI} (g1 : z_kd S h0 = 5) (g2 : z_kd S h0 = 5) (g3 : z_kd S (z_rv S h0 2) = 100 ∧ vp_in (I h0 1) (z_ln S (z_rv S h0 2))) (g4 : z_kd S h0 = 5) (g5 : z_kd S h0 = 5) (g6 : z_kd S h2 = 9) (g7 : z_isR (z_kd S (z_rv S h0 3)) = true ∧ vp_in ((z_u2 I (z_rv S h0 2) (Int32.toNatClampNeg (I h0 1)) x1) h0 1) (z_ln S (z_rv S h0 3)) ∧ z_kd S (z_rv S h2 0) = z_el (z_kd S (z_rv S h0 3))) (eS1 : S1 = z_setR S (z_rv S h0 3) (Int32.toNatClampNeg ((z_u2 I (z_rv S h0 2) (Int32.toNatClampNeg (I h0 1)) x1) h0 1)) (z_rv S h2 0)) (g9 : z_kd S1 h0 = 5) (g10 : z_kd S1 h0 = 5) (g11 : z_kd S1 h2 = 9) (g12 : z_kd S1 (z_rv S1 h0 4) = 100 ∧ vp_in ((z_u2 I (z_rv S h0 2) (Int32.toNatClampNeg (I h0 1)) x1) h0 1) (z_ln S1 (z_rv S1 h0 4))) (eI2 : I2 = z_u2 (z_u2 I (z_rv S h0 2) (Int32.toNatClampNeg (I h0 1)) x1) (z_rv S1 h0 4) (Int32.toNatClampNeg ((z_u2 I (z_rv S h0 2) (Int32.toNatClampNeg (I h0 1)) x1) h0 1)) ((z_u2 I (z_rv S h0 2) (Int32.toNatClampNeg (I h0 1)) x1) h2 1)) (g14 : z_kd S1 h0 = 5) (g15 : ¬ (8 : Int32) = 0) (g16 : z_kd S1 h0 = 5) (g17 : z_kd S1 h0 = 5) (kk : z_wp d i_J9_min_7cf53 [.int (8 : Int32), .int (((z_u2 I2 h0 1 (((I2 h0 1) + (1 : Int32)) - ((I2 h0 1) + (1 : Int32)) / (8 : Int32) * (8 : Int32))) h0 0) + (1 : Int32))] S1 (z_u2 I2 h0 1 (((I2 h0 1) + (1 : Int32)) - ((I2 h0 1) + (1 : Int32)) / (8 : Int32) * (8 : Int32))) J (fun vv SS II JJ => Go d i_X4_keep 61 [.ref h0, .int x1, .ref h2] (vv.toList ++ [.ref h0]) SS II JJ Q)) : Go d i_X4_keep 0 [.ref h0, .int x1, .ref h2] [] S I J Q := by
  subst eI2
  subst eS1
  have h := (And.intro g1 (And.intro g2 (And.intro g3 (And.intro g4 (And.intro g5 (And.intro g6 (And.intro g7 (And.intro g9 (And.intro g10 (And.intro g11 (And.intro g12 (And.intro g14 (And.intro g15 (And.intro g16 (And.intro g17 (And.intro trivial kk))))))))))))))))
  exact Go.n tb_X4_keep 35 h
theorem b_X4_keep_61 {d : Nat} {S : zS} {I : zI} {J : zJ} {Q : zQ} {h0 : Nat} {x1 : Int32} {h2 : Nat} {q0 : Nat} {y1 : Int32} (g1 : z_kd S q0 = 5) (kk : Q none S (z_u2 I q0 0 y1) J) : Go d i_X4_keep 61 [.ref h0, .int x1, .ref h2] [.int y1, .ref q0] S I J Q := by
  have h := (And.intro g1 (And.intro trivial kk))
  exact Go.n tb_X4_keep 2 h
theorem w_X4_stepBack {d : Nat} {S : zS} {I : zI} {J : zJ} {Q : zQ} {h0 : Nat} (h : Go d i_X4_stepBack 0 [.ref h0] [] S I J Q) : z_wp (d + 1) i_X4_stepBack [.ref h0] S I J Q := Go.wp (Nat.le_of_ble_eq_true rfl) h
theorem e_X4_stepBack {d : Nat} {S S2 : zS} {I I2 : zI} {J J2 : zJ} {r : Option Value} {h0 : Nat} (h : Go d i_X4_stepBack 0 [.ref h0] [] S I J (z_eq r S2 I2 J2)) : z_ev (d + 1) i_X4_stepBack [.ref h0] S I J r S2 I2 J2 := Go.ev (Nat.le_of_ble_eq_true rfl) h
theorem b_X4_stepBack_0 {d : Nat} {S : zS} {I : zI} {J : zJ} {Q : zQ} {h0 : Nat} {I1 : zI} (g1 : z_kd S h0 = 5) (g2 : ¬ (8 : Int32) = 0) (g3 : z_kd S h0 = 5) (eI1 : I1 = z_u2 I h0 1 ((((I h0 1) + (8 : Int32)) - (1 : Int32)) - (((I h0 1) + (8 : Int32)) - (1 : Int32)) / (8 : Int32) * (8 : Int32))) (g5 : z_kd S h0 = 5) (kk : z_wp d i_J9_max_7cf53 [.int (0 : Int32), .int ((I1 h0 0) - (1 : Int32))] S I1 J (fun vv SS II JJ => Go d i_X4_stepBack 27 [.ref h0] (vv.toList ++ [.ref h0]) SS II JJ Q)) : Go d i_X4_stepBack 0 [.ref h0] [] S I J Q := by
  subst eI1
  have h := (And.intro g1 (And.intro g2 (And.intro g3 (And.intro g5 (And.intro trivial kk)))))
  exact Go.n tb_X4_stepBack 17 h
theorem b_X4_stepBack_27 {d : Nat} {S : zS} {I : zI} {J : zJ} {Q : zQ} {h0 : Nat} {q0 : Nat} {y1 : Int32} (g1 : z_kd S q0 = 5) (kk : Q none S (z_u2 I q0 0 y1) J) : Go d i_X4_stepBack 27 [.ref h0] [.int y1, .ref q0] S I J Q := by
  have h := (And.intro g1 (And.intro trivial kk))
  exact Go.n tb_X4_stepBack 2 h
theorem w_X4_forget {d : Nat} {S : zS} {I : zI} {J : zJ} {Q : zQ} {h0 : Nat} (h : Go d i_X4_forget 0 [.ref h0] [] S I J Q) : z_wp (d + 1) i_X4_forget [.ref h0] S I J Q := Go.wp (Nat.le_of_ble_eq_true rfl) h
theorem e_X4_forget {d : Nat} {S S2 : zS} {I I2 : zI} {J J2 : zJ} {r : Option Value} {h0 : Nat} (h : Go d i_X4_forget 0 [.ref h0] [] S I J (z_eq r S2 I2 J2)) : z_ev (d + 1) i_X4_forget [.ref h0] S I J r S2 I2 J2 := Go.ev (Nat.le_of_ble_eq_true rfl) h
theorem b_X4_forget_0 {d : Nat} {S : zS} {I : zI} {J : zJ} {Q : zQ} {h0 : Nat} (g1 : z_kd S h0 = 5) (kk : Q none S (z_u2 I h0 0 (0 : Int32)) J) : Go d i_X4_forget 0 [.ref h0] [] S I J Q := by
  have h := (And.intro g1 (And.intro trivial kk))
  exact Go.n tb_X4_forget 4 h
theorem w_X4_slot {d : Nat} {S : zS} {I : zI} {J : zJ} {Q : zQ} {h0 : Nat} (h : Go d i_X4_slot 0 [.ref h0] [] S I J Q) : z_wp (d + 1) i_X4_slot [.ref h0] S I J Q := Go.wp (Nat.le_of_ble_eq_true rfl) h
theorem e_X4_slot {d : Nat} {S S2 : zS} {I I2 : zI} {J J2 : zJ} {r : Option Value} {h0 : Nat} (h : Go d i_X4_slot 0 [.ref h0] [] S I J (z_eq r S2 I2 J2)) : z_ev (d + 1) i_X4_slot [.ref h0] S I J r S2 I2 J2 := Go.ev (Nat.le_of_ble_eq_true rfl) h
theorem b_X4_slot_0 {d : Nat} {S : zS} {I : zI} {J : zJ} {Q : zQ} {h0 : Nat} (g1 : z_kd S h0 = 5) (g2 : z_kd S h0 = 5) (g3 : z_isI (z_kd S (z_rv S h0 2)) = true ∧ vp_in (I h0 1) (z_ln S (z_rv S h0 2))) (kk : Q (some (.int (I (z_rv S h0 2) (Int32.toNatClampNeg (I h0 1))))) S I J) : Go d i_X4_slot 0 [.ref h0] [] S I J Q := by
  have h := (And.intro g1 (And.intro g2 (And.intro g3 (And.intro trivial kk))))
  exact Go.n tb_X4_slot 6 h
theorem w_X4_group {d : Nat} {S : zS} {I : zI} {J : zJ} {Q : zQ} {h0 : Nat} (h : Go d i_X4_group 0 [.ref h0] [] S I J Q) : z_wp (d + 1) i_X4_group [.ref h0] S I J Q := Go.wp (Nat.le_of_ble_eq_true rfl) h
theorem e_X4_group {d : Nat} {S S2 : zS} {I I2 : zI} {J J2 : zJ} {r : Option Value} {h0 : Nat} (h : Go d i_X4_group 0 [.ref h0] [] S I J (z_eq r S2 I2 J2)) : z_ev (d + 1) i_X4_group [.ref h0] S I J r S2 I2 J2 := Go.ev (Nat.le_of_ble_eq_true rfl) h
theorem b_X4_group_0 {d : Nat} {S : zS} {I : zI} {J : zJ} {Q : zQ} {h0 : Nat} (g1 : z_kd S h0 = 5) (g2 : z_kd S h0 = 5) (g3 : z_isR (z_kd S (z_rv S h0 3)) = true ∧ vp_in (I h0 1) (z_ln S (z_rv S h0 3))) (kk : Q (some (.ref (z_rv S (z_rv S h0 3) (Int32.toNatClampNeg (I h0 1))))) S I J) : Go d i_X4_group 0 [.ref h0] [] S I J Q := by
  have h := (And.intro g1 (And.intro g2 (And.intro g3 (And.intro trivial kk))))
  exact Go.n tb_X4_group 6 h
theorem w_X4_steps {d : Nat} {S : zS} {I : zI} {J : zJ} {Q : zQ} {h0 : Nat} (h : Go d i_X4_steps 0 [.ref h0] [] S I J Q) : z_wp (d + 1) i_X4_steps [.ref h0] S I J Q := Go.wp (Nat.le_of_ble_eq_true rfl) h
theorem e_X4_steps {d : Nat} {S S2 : zS} {I I2 : zI} {J J2 : zJ} {r : Option Value} {h0 : Nat} (h : Go d i_X4_steps 0 [.ref h0] [] S I J (z_eq r S2 I2 J2)) : z_ev (d + 1) i_X4_steps [.ref h0] S I J r S2 I2 J2 := Go.ev (Nat.le_of_ble_eq_true rfl) h
theorem b_X4_steps_0 {d : Nat} {S : zS} {I : zI} {J : zJ} {Q : zQ} {h0 : Nat} (g1 : z_kd S h0 = 5) (g2 : z_kd S h0 = 5) (g3 : z_isI (z_kd S (z_rv S h0 4)) = true ∧ vp_in (I h0 1) (z_ln S (z_rv S h0 4))) (kk : Q (some (.int (I (z_rv S h0 4) (Int32.toNatClampNeg (I h0 1))))) S I J) : Go d i_X4_steps 0 [.ref h0] [] S I J Q := by
  have h := (And.intro g1 (And.intro g2 (And.intro g3 (And.intro trivial kk))))
  exact Go.n tb_X4_steps 6 h
theorem w_X5_init {d : Nat} {S : zS} {I : zI} {J : zJ} {Q : zQ} {h0 : Nat} {h1 : Nat} (h : Go d i_X5_init 0 [.ref h0, .ref h1] [] S I J Q) : z_wp (d + 1) i_X5_init [.ref h0, .ref h1] S I J Q := Go.wp (Nat.le_of_ble_eq_true rfl) h
theorem e_X5_init {d : Nat} {S S2 : zS} {I I2 : zI} {J J2 : zJ} {r : Option Value} {h0 : Nat} {h1 : Nat} (h : Go d i_X5_init 0 [.ref h0, .ref h1] [] S I J (z_eq r S2 I2 J2)) : z_ev (d + 1) i_X5_init [.ref h0, .ref h1] S I J r S2 I2 J2 := Go.ev (Nat.le_of_ble_eq_true rfl) h
theorem b_X5_init_0 {d : Nat} {S : zS} {I : zI} {J : zJ} {Q : zQ} {h0 : Nat} {h1 : Nat} (g1 : ¬ h0 = 0) (g2 : z_kd S h0 = 6) (kk : Go d i_X5_init 9 [.ref h0, .ref h1] [] (z_setR S h0 0 h1) I J Q) : Go d i_X5_init 0 [.ref h0, .ref h1] [] S I J Q := by
  have h := (And.intro g1 (And.intro g2 kk))
  exact Go.n tb_X5_init 5 h
theorem b_X5_init_9 {d : Nat} {S : zS} {I : zI} {J : zJ} {Q : zQ} {h0 : Nat} {h1 : Nat} (g1 : z_kd S h0 = 6) (kk : Go d i_X5_init 14 [.ref h0, .ref h1] [] S (z_u2 I h0 1 (0 : Int32)) J Q) : Go d i_X5_init 9 [.ref h0, .ref h1] [] S I J Q := by
  have h := (And.intro g1 kk)
  exact Go.n tb_X5_init 3 h
theorem b_X5_init_14 {d : Nat} {S : zS} {I : zI} {J : zJ} {Q : zQ} {h0 : Nat} {h1 : Nat} (kk : Q none S I J) : Go d i_X5_init 14 [.ref h0, .ref h1] [] S I J Q := by
  have h := (And.intro trivial kk)
  exact Go.n tb_X5_init 1 h
theorem w_X5_begin {d : Nat} {S : zS} {I : zI} {J : zJ} {Q : zQ} {h0 : Nat} {x1 : Int32} (h : Go d i_X5_begin 0 [.ref h0, .int x1] [] S I J Q) : z_wp (d + 1) i_X5_begin [.ref h0, .int x1] S I J Q := Go.wp (Nat.le_of_ble_eq_true rfl) h
theorem e_X5_begin {d : Nat} {S S2 : zS} {I I2 : zI} {J J2 : zJ} {r : Option Value} {h0 : Nat} {x1 : Int32} (h : Go d i_X5_begin 0 [.ref h0, .int x1] [] S I J (z_eq r S2 I2 J2)) : z_ev (d + 1) i_X5_begin [.ref h0, .int x1] S I J r S2 I2 J2 := Go.ev (Nat.le_of_ble_eq_true rfl) h
theorem b_X5_begin_0 {d : Nat} {S : zS} {I : zI} {J : zJ} {Q : zQ} {h0 : Nat} {x1 : Int32} (g1 : z_kd S h0 = 6) (g2 : z_isA (z_kd S (z_rv S h0 0)) = true) (kk : z_wp d i_J9_min_7cf53 [.int x1, .int (nI (z_ln S (z_rv S h0 0)))] S I J (fun vv SS II JJ => Go d i_X5_begin 10 [.ref h0, .int x1] (vv.toList ++ [.ref h0]) SS II JJ Q)) : Go d i_X5_begin 0 [.ref h0, .int x1] [] S I J Q := by
  have h := (And.intro g1 (And.intro g2 (And.intro trivial kk)))
  exact Go.n tb_X5_begin 6 h
theorem b_X5_begin_10 {d : Nat} {S : zS} {I : zI} {J : zJ} {Q : zQ} {h0 : Nat} {x1 : Int32} {q0 : Nat} {y1 : Int32} (g1 : z_kd S q0 = 6) (g2 : z_kd S h0 = 6) (g3 : z_kd S h0 = 6) (kk : z_wp d i_X5_advance [.ref h0] S (z_u2 (z_u2 I q0 1 y1) h0 3 (0 : Int32)) J (fun vv SS II JJ => Go d i_X5_begin 22 [.ref h0, .int x1] (vv.toList ++ []) SS II JJ Q)) : Go d i_X5_begin 10 [.ref h0, .int x1] [.int y1, .ref q0] S I J Q := by
  have h := (And.intro g1 (And.intro g2 (And.intro g3 kk)))
  exact Go.n tb_X5_begin 6 h
theorem b_X5_begin_22 {d : Nat} {S : zS} {I : zI} {J : zJ} {Q : zQ} {h0 : Nat} {x1 : Int32} (kk : Q none S I J) : Go d i_X5_begin 22 [.ref h0, .int x1] [] S I J Q := by
  have h := (And.intro trivial kk)
  exact Go.n tb_X5_begin 1 h
theorem w_X5_advance {d : Nat} {S : zS} {I : zI} {J : zJ} {Q : zQ} {h0 : Nat} (h : Go d i_X5_advance 0 [.ref h0] [] S I J Q) : z_wp (d + 1) i_X5_advance [.ref h0] S I J Q := Go.wp (Nat.le_of_ble_eq_true rfl) h
theorem e_X5_advance {d : Nat} {S S2 : zS} {I I2 : zI} {J J2 : zJ} {r : Option Value} {h0 : Nat} (h : Go d i_X5_advance 0 [.ref h0] [] S I J (z_eq r S2 I2 J2)) : z_ev (d + 1) i_X5_advance [.ref h0] S I J r S2 I2 J2 := Go.ev (Nat.le_of_ble_eq_true rfl) h
theorem b_X5_advance_0 {d : Nat} {S : zS} {I : zI} {J : zJ} {Q : zQ} {h0 : Nat} (g1 : z_kd S h0 = 6) (g2 : z_kd S h0 = 6) (kk : Go d i_X5_advance 8 [.ref h0] [] S (z_u2 I h0 2 (I h0 3)) J Q) : Go d i_X5_advance 0 [.ref h0] [] S I J Q := by
  have h := (And.intro g1 (And.intro g2 kk))
  exact Go.n tb_X5_advance 4 h
theorem b_X5_advance_8 {d : Nat} {S : zS} {I : zI} {J : zJ} {Q : zQ} {h0 : Nat} (g1 : z_kd S h0 = 6) (g2 : z_kd S h0 = 6) (kt : (I h0 1) ≤ (I h0 2) → Go d i_X5_advance 46 [.ref h0] [] S I J Q) (kf : ¬ (I h0 1) ≤ (I h0 2) → Go d i_X5_advance 19 [.ref h0] [] S I J Q) : Go d i_X5_advance 8 [.ref h0] [] S I J Q := by
  have h := (And.intro g1 (And.intro g2 (Go.ite kt kf)))
  exact Go.n tb_X5_advance 5 h
theorem b_X5_advance_19 {d : Nat} {S : zS} {I : zI} {J : zJ} {Q : zQ} {h0 : Nat} (g1 : z_kd S h0 = 6) (g2 : z_kd S h0 = 6) (g3 : z_isB (z_kd S (z_rv S h0 0)) = true ∧ vp_in (I h0 2) (z_ln S (z_rv S h0 0))) (kt : ¬ (I (z_rv S h0 0) (Int32.toNatClampNeg (I h0 2))) = (32 : Int32) → Go d i_X5_advance 46 [.ref h0] [] S I J Q) (kf : (I (z_rv S h0 0) (Int32.toNatClampNeg (I h0 2))) = (32 : Int32) → Go d i_X5_advance 33 [.ref h0] [] S I J Q) : Go d i_X5_advance 19 [.ref h0] [] S I J Q := by
  have h := (And.intro g1 (And.intro g2 (And.intro g3 (Go.eti kt kf))))
  exact Go.n tb_X5_advance 7 h
theorem b_X5_advance_33 {d : Nat} {S : zS} {I : zI} {J : zJ} {Q : zQ} {h0 : Nat} (g1 : z_kd S h0 = 6) (g2 : z_kd S h0 = 6) (kk : Go d i_X5_advance 8 [.ref h0] [] S (z_u2 I h0 2 ((I h0 2) + (1 : Int32))) J Q) : Go d i_X5_advance 33 [.ref h0] [] S I J Q := by
  have h := (And.intro g1 (And.intro g2 kk))
  exact Go.n tb_X5_advance 7 h
theorem b_X5_advance_46 {d : Nat} {S : zS} {I : zI} {J : zJ} {Q : zQ} {h0 : Nat} (g1 : z_kd S h0 = 6) (g2 : z_kd S h0 = 6) (kt : (I h0 2) < (I h0 1) → Go d i_X5_advance 79 [.ref h0] [] S I J Q) (kf : ¬ (I h0 2) < (I h0 1) → Go d i_X5_advance 57 [.ref h0] [] S I J Q) : Go d i_X5_advance 46 [.ref h0] [] S I J Q := by
  have h := (And.intro g1 (And.intro g2 (Go.ite kt kf)))
  exact Go.n tb_X5_advance 5 h
theorem b_X5_advance_57 {d : Nat} {S : zS} {I : zI} {J : zJ} {Q : zQ} {h0 : Nat} (g1 : z_kd S h0 = 6) (g2 : z_kd S h0 = 6) (g3 : z_kd S h0 = 6) (g4 : z_kd S h0 = 6) (g5 : z_kd S h0 = 6) (kk : Q none S (z_u2 (z_u2 (z_u2 I h0 2 (I h0 1)) h0 3 ((z_u2 I h0 2 (I h0 1)) h0 1)) h0 4 (0 : Int32)) J) : Go d i_X5_advance 57 [.ref h0] [] S I J Q := by
  have h := (And.intro g1 (And.intro g2 (And.intro g3 (And.intro g4 (And.intro g5 (And.intro trivial kk))))))
  exact Go.n tb_X5_advance 12 h
theorem b_X5_advance_79 {d : Nat} {S : zS} {I : zI} {J : zJ} {Q : zQ} {h0 : Nat} (g1 : z_kd S h0 = 6) (kk : z_wp d i_X5_goesOn [.ref h0, .int (97 : Int32), .int (122 : Int32)] S I J (fun vv SS II JJ => Go d i_X5_advance 87 [.ref h0] (vv.toList ++ []) SS II JJ Q)) : Go d i_X5_advance 79 [.ref h0] [] S I J Q := by
  have h := (And.intro g1 kk)
  exact Go.n tb_X5_advance 4 h
theorem b_X5_advance_87 {d : Nat} {S : zS} {I : zI} {J : zJ} {Q : zQ} {h0 : Nat} {y0 : Int32} (kt : y0 = (0 : Int32) → Go d i_X5_advance 98 [.ref h0] [] S I J Q) (kf : ¬ y0 = (0 : Int32) → Go d i_X5_advance 90 [.ref h0] [] S I J Q) : Go d i_X5_advance 87 [.ref h0] [.int y0] S I J Q := by
  have h := (Go.ite kt kf)
  exact Go.n tb_X5_advance 1 h
theorem b_X5_advance_90 {d : Nat} {S : zS} {I : zI} {J : zJ} {Q : zQ} {h0 : Nat} (g1 : z_kd S h0 = 6) (kk : Q none S (z_u2 I h0 4 (1 : Int32)) J) : Go d i_X5_advance 90 [.ref h0] [] S I J Q := by
  have h := (And.intro g1 (And.intro trivial kk))
  exact Go.n tb_X5_advance 5 h
theorem b_X5_advance_98 {d : Nat} {S : zS} {I : zI} {J : zJ} {Q : zQ} {h0 : Nat} (g1 : z_kd S h0 = 6) (kk : z_wp d i_X5_goesOn [.ref h0, .int (48 : Int32), .int (57 : Int32)] S I J (fun vv SS II JJ => Go d i_X5_advance 106 [.ref h0] (vv.toList ++ []) SS II JJ Q)) : Go d i_X5_advance 98 [.ref h0] [] S I J Q := by
  have h := (And.intro g1 kk)
  exact Go.n tb_X5_advance 4 h
theorem b_X5_advance_106 {d : Nat} {S : zS} {I : zI} {J : zJ} {Q : zQ} {h0 : Nat} {y0 : Int32} (kt : y0 = (0 : Int32) → Go d i_X5_advance 117 [.ref h0] [] S I J Q) (kf : ¬ y0 = (0 : Int32) → Go d i_X5_advance 109 [.ref h0] [] S I J Q) : Go d i_X5_advance 106 [.ref h0] [.int y0] S I J Q := by
  have h := (Go.ite kt kf)
  exact Go.n tb_X5_advance 1 h
theorem b_X5_advance_109 {d : Nat} {S : zS} {I : zI} {J : zJ} {Q : zQ} {h0 : Nat} (g1 : z_kd S h0 = 6) (kk : Q none S (z_u2 I h0 4 (2 : Int32)) J) : Go d i_X5_advance 109 [.ref h0] [] S I J Q := by
  have h := (And.intro g1 (And.intro trivial kk))
  exact Go.n tb_X5_advance 5 h
theorem b_X5_advance_117 {d : Nat} {S : zS} {I : zI} {J : zJ} {Q : zQ} {h0 : Nat} (g1 : z_kd S h0 = 6) (g2 : z_kd S h0 = 6) (g3 : z_kd S h0 = 6) (kk : Q none S (z_u2 (z_u2 I h0 4 (3 : Int32)) h0 3 (((z_u2 I h0 4 (3 : Int32)) h0 2) + (1 : Int32))) J) : Go d i_X5_advance 117 [.ref h0] [] S I J Q := by
  have h := (And.intro g1 (And.intro g2 (And.intro g3 (And.intro trivial kk))))
  exact Go.n tb_X5_advance 10 h
theorem w_X5_goesOn {d : Nat} {S : zS} {I : zI} {J : zJ} {Q : zQ} {h0 : Nat} {x1 : Int32} {x2 : Int32} (h : Go d i_X5_goesOn 0 [.ref h0, .int x1, .int x2] [] S I J Q) : z_wp (d + 1) i_X5_goesOn [.ref h0, .int x1, .int x2] S I J Q := Go.wp (Nat.le_of_ble_eq_true rfl) h
theorem e_X5_goesOn {d : Nat} {S S2 : zS} {I I2 : zI} {J J2 : zJ} {r : Option Value} {h0 : Nat} {x1 : Int32} {x2 : Int32} (h : Go d i_X5_goesOn 0 [.ref h0, .int x1, .int x2] [] S I J (z_eq r S2 I2 J2)) : z_ev (d + 1) i_X5_goesOn [.ref h0, .int x1, .int x2] S I J r S2 I2 J2 := Go.ev (Nat.le_of_ble_eq_true rfl) h
theorem b_X5_goesOn_0 {d : Nat} {S : zS} {I : zI} {J : zJ} {Q : zQ} {h0 : Nat} {x1 : Int32} {x2 : Int32} (g1 : z_kd S h0 = 6) (g2 : z_kd S h0 = 6) (kk : Go d i_X5_goesOn 8 [.ref h0, .int x1, .int x2] [] S (z_u2 I h0 3 (I h0 2)) J Q) : Go d i_X5_goesOn 0 [.ref h0, .int x1, .int x2] [] S I J Q := by
  have h := (And.intro g1 (And.intro g2 kk))
  exact Go.n tb_X5_goesOn 4 h
theorem b_X5_goesOn_8 {d : Nat} {S : zS} {I : zI} {J : zJ} {Q : zQ} {h0 : Nat} {x1 : Int32} {x2 : Int32} (g1 : z_kd S h0 = 6) (g2 : z_kd S h0 = 6) (kt : (I h0 1) ≤ (I h0 3) → Go d i_X5_goesOn 58 [.ref h0, .int x1, .int x2] [] S I J Q) (kf : ¬ (I h0 1) ≤ (I h0 3) → Go d i_X5_goesOn 19 [.ref h0, .int x1, .int x2] [] S I J Q) : Go d i_X5_goesOn 8 [.ref h0, .int x1, .int x2] [] S I J Q := by
  have h := (And.intro g1 (And.intro g2 (Go.ite kt kf)))
  exact Go.n tb_X5_goesOn 5 h
theorem b_X5_goesOn_19 {d : Nat} {S : zS} {I : zI} {J : zJ} {Q : zQ} {h0 : Nat} {x1 : Int32} {x2 : Int32} (g1 : z_kd S h0 = 6) (g2 : z_kd S h0 = 6) (g3 : z_isB (z_kd S (z_rv S h0 0)) = true ∧ vp_in (I h0 3) (z_ln S (z_rv S h0 0))) (kt : (I (z_rv S h0 0) (Int32.toNatClampNeg (I h0 3))) < x1 → Go d i_X5_goesOn 58 [.ref h0, .int x1, .int x2] [] S I J Q) (kf : ¬ (I (z_rv S h0 0) (Int32.toNatClampNeg (I h0 3))) < x1 → Go d i_X5_goesOn 32 [.ref h0, .int x1, .int x2] [] S I J Q) : Go d i_X5_goesOn 19 [.ref h0, .int x1, .int x2] [] S I J Q := by
  have h := (And.intro g1 (And.intro g2 (And.intro g3 (Go.ite kt kf))))
  exact Go.n tb_X5_goesOn 7 h
theorem b_X5_goesOn_32 {d : Nat} {S : zS} {I : zI} {J : zJ} {Q : zQ} {h0 : Nat} {x1 : Int32} {x2 : Int32} (g1 : z_kd S h0 = 6) (g2 : z_kd S h0 = 6) (g3 : z_isB (z_kd S (z_rv S h0 0)) = true ∧ vp_in (I h0 3) (z_ln S (z_rv S h0 0))) (kt : x2 < (I (z_rv S h0 0) (Int32.toNatClampNeg (I h0 3))) → Go d i_X5_goesOn 58 [.ref h0, .int x1, .int x2] [] S I J Q) (kf : ¬ x2 < (I (z_rv S h0 0) (Int32.toNatClampNeg (I h0 3))) → Go d i_X5_goesOn 45 [.ref h0, .int x1, .int x2] [] S I J Q) : Go d i_X5_goesOn 32 [.ref h0, .int x1, .int x2] [] S I J Q := by
  have h := (And.intro g1 (And.intro g2 (And.intro g3 (Go.ite kt kf))))
  exact Go.n tb_X5_goesOn 7 h
theorem b_X5_goesOn_45 {d : Nat} {S : zS} {I : zI} {J : zJ} {Q : zQ} {h0 : Nat} {x1 : Int32} {x2 : Int32} (g1 : z_kd S h0 = 6) (g2 : z_kd S h0 = 6) (kk : Go d i_X5_goesOn 8 [.ref h0, .int x1, .int x2] [] S (z_u2 I h0 3 ((I h0 3) + (1 : Int32))) J Q) : Go d i_X5_goesOn 45 [.ref h0, .int x1, .int x2] [] S I J Q := by
  have h := (And.intro g1 (And.intro g2 kk))
  exact Go.n tb_X5_goesOn 7 h
theorem b_X5_goesOn_58 {d : Nat} {S : zS} {I : zI} {J : zJ} {Q : zQ} {h0 : Nat} {x1 : Int32} {x2 : Int32} (g1 : z_kd S h0 = 6) (g2 : z_kd S h0 = 6) (kt : (I h0 3) ≤ (I h0 2) → Go d i_X5_goesOn 73 [.ref h0, .int x1, .int x2] [] S I J Q) (kf : ¬ (I h0 3) ≤ (I h0 2) → Go d i_X5_goesOn 69 [.ref h0, .int x1, .int x2] [] S I J Q) : Go d i_X5_goesOn 58 [.ref h0, .int x1, .int x2] [] S I J Q := by
  have h := (And.intro g1 (And.intro g2 (Go.ite kt kf)))
  exact Go.n tb_X5_goesOn 5 h
theorem b_X5_goesOn_69 {d : Nat} {S : zS} {I : zI} {J : zJ} {Q : zQ} {h0 : Nat} {x1 : Int32} {x2 : Int32} (g1 : z_fit 3 (1 : Int32)) (kk : Q (some (.int (1 : Int32))) S I J) : Go d i_X5_goesOn 69 [.ref h0, .int x1, .int x2] [] S I J Q := by
  have h := (And.intro g1 kk)
  exact Go.n tb_X5_goesOn 3 h
theorem b_X5_goesOn_73 {d : Nat} {S : zS} {I : zI} {J : zJ} {Q : zQ} {h0 : Nat} {x1 : Int32} {x2 : Int32} (g1 : z_fit 3 (0 : Int32)) (kk : Q (some (.int (0 : Int32))) S I J) : Go d i_X5_goesOn 73 [.ref h0, .int x1, .int x2] [] S I J Q := by
  have h := (And.intro g1 kk)
  exact Go.n tb_X5_goesOn 2 h
theorem w_X5_isWord {d : Nat} {S : zS} {I : zI} {J : zJ} {Q : zQ} {h0 : Nat} {h1 : Nat} (h : Go d i_X5_isWord 0 [.ref h0, .ref h1, .retAddr 0] [] S I J Q) : z_wp (d + 1) i_X5_isWord [.ref h0, .ref h1] S I J Q := Go.wp (Nat.le_of_ble_eq_true rfl) h
theorem e_X5_isWord {d : Nat} {S S2 : zS} {I I2 : zI} {J J2 : zJ} {r : Option Value} {h0 : Nat} {h1 : Nat} (h : Go d i_X5_isWord 0 [.ref h0, .ref h1, .retAddr 0] [] S I J (z_eq r S2 I2 J2)) : z_ev (d + 1) i_X5_isWord [.ref h0, .ref h1] S I J r S2 I2 J2 := Go.ev (Nat.le_of_ble_eq_true rfl) h
theorem b_X5_isWord_0 {d : Nat} {S : zS} {I : zI} {J : zJ} {Q : zQ} {h0 : Nat} {h1 : Nat} {v2 : Value} (g1 : z_kd S h0 = 6) (kt : ¬ (I h0 4) = (1 : Int32) → Go d i_X5_isWord 24 [.ref h0, .ref h1, v2] [] S I J Q) (kf : (I h0 4) = (1 : Int32) → Go d i_X5_isWord 8 [.ref h0, .ref h1, v2] [] S I J Q) : Go d i_X5_isWord 0 [.ref h0, .ref h1, v2] [] S I J Q := by
  have h := (And.intro g1 (Go.eti kt kf))
  exact Go.n tb_X5_isWord 4 h
theorem b_X5_isWord_8 {d : Nat} {S : zS} {I : zI} {J : zJ} {Q : zQ} {h0 : Nat} {h1 : Nat} {v2 : Value} (g1 : z_kd S h1 = 22) (kk : z_wp d i_J0_length_8abf5 [.ref h1] S I J (fun vv SS II JJ => Go d i_X5_isWord 12 [.ref h0, .ref h1, v2] (vv.toList ++ []) SS II JJ Q)) : Go d i_X5_isWord 8 [.ref h0, .ref h1, v2] [] S I J Q := by
  have h := (And.intro g1 kk)
  exact Go.n tb_X5_isWord 2 h
theorem b_X5_isWord_12 {d : Nat} {S : zS} {I : zI} {J : zJ} {Q : zQ} {h0 : Nat} {h1 : Nat} {v2 : Value} {y0 : Int32} (g1 : z_kd S h0 = 6) (g2 : z_kd S h0 = 6) (kt : y0 = ((I h0 3) - (I h0 2)) → Go d i_X5_isWord 26 [.ref h0, .ref h1, v2] [] S I J Q) (kf : ¬ y0 = ((I h0 3) - (I h0 2)) → Go d i_X5_isWord 24 [.ref h0, .ref h1, v2] [] S I J Q) : Go d i_X5_isWord 12 [.ref h0, .ref h1, v2] [.int y0] S I J Q := by
  have h := (And.intro g1 (And.intro g2 (Go.ite kt kf)))
  exact Go.n tb_X5_isWord 6 h
theorem b_X5_isWord_24 {d : Nat} {S : zS} {I : zI} {J : zJ} {Q : zQ} {h0 : Nat} {h1 : Nat} {v2 : Value} (g1 : z_fit 3 (0 : Int32)) (kk : Q (some (.int (0 : Int32))) S I J) : Go d i_X5_isWord 24 [.ref h0, .ref h1, v2] [] S I J Q := by
  have h := (And.intro g1 kk)
  exact Go.n tb_X5_isWord 2 h
theorem b_X5_isWord_26 {d : Nat} {S : zS} {I : zI} {J : zJ} {Q : zQ} {h0 : Nat} {h1 : Nat} {v2 : Value} (kk : Go d i_X5_isWord 28 [.ref h0, .ref h1, .int (0 : Int32)] [] S I J Q) : Go d i_X5_isWord 26 [.ref h0, .ref h1, v2] [] S I J Q := by
  have h := kk
  exact Go.n tb_X5_isWord 2 h
theorem b_X5_isWord_28 {d : Nat} {S : zS} {I : zI} {J : zJ} {Q : zQ} {h0 : Nat} {h1 : Nat} {x2 : Int32} (g1 : z_kd S h1 = 22) (kk : z_wp d i_J0_length_8abf5 [.ref h1] S I J (fun vv SS II JJ => Go d i_X5_isWord 33 [.ref h0, .ref h1, .int x2] (vv.toList ++ [.int x2]) SS II JJ Q)) : Go d i_X5_isWord 28 [.ref h0, .ref h1, .int x2] [] S I J Q := by
  have h := (And.intro g1 kk)
  exact Go.n tb_X5_isWord 3 h
theorem b_X5_isWord_33 {d : Nat} {S : zS} {I : zI} {J : zJ} {Q : zQ} {h0 : Nat} {h1 : Nat} {x2 : Int32} {y0 : Int32} {y1 : Int32} (kt : y1 ≤ y0 → Go d i_X5_isWord 63 [.ref h0, .ref h1, .int x2] [] S I J Q) (kf : ¬ y1 ≤ y0 → Go d i_X5_isWord 36 [.ref h0, .ref h1, .int x2] [] S I J Q) : Go d i_X5_isWord 33 [.ref h0, .ref h1, .int x2] [.int y1, .int y0] S I J Q := by
  have h := (Go.ite kt kf)
  exact Go.n tb_X5_isWord 1 h
theorem b_X5_isWord_36 {d : Nat} {S : zS} {I : zI} {J : zJ} {Q : zQ} {h0 : Nat} {h1 : Nat} {x2 : Int32} (g1 : z_kd S h0 = 6) (g2 : z_kd S h0 = 6) (g3 : z_isB (z_kd S (z_rv S h0 0)) = true ∧ vp_in ((I h0 2) + x2) (z_ln S (z_rv S h0 0))) (g4 : z_kd S h1 = 22) (kk : z_wp d i_J0_charAt_5068e [.ref h1, .int x2] S I J (fun vv SS II JJ => Go d i_X5_isWord 52 [.ref h0, .ref h1, .int x2] (vv.toList ++ [.int (I (z_rv S h0 0) (Int32.toNatClampNeg ((I h0 2) + x2)))]) SS II JJ Q)) : Go d i_X5_isWord 36 [.ref h0, .ref h1, .int x2] [] S I J Q := by
  have h := (And.intro g1 (And.intro g2 (And.intro g3 (And.intro g4 kk))))
  exact Go.n tb_X5_isWord 10 h
theorem b_X5_isWord_52 {d : Nat} {S : zS} {I : zI} {J : zJ} {Q : zQ} {h0 : Nat} {h1 : Nat} {x2 : Int32} {y0 : Int32} {y1 : Int32} (kt : y0 = y1 → Go d i_X5_isWord 57 [.ref h0, .ref h1, .int x2] [] S I J Q) (kf : ¬ y0 = y1 → Go d i_X5_isWord 55 [.ref h0, .ref h1, .int x2] [] S I J Q) : Go d i_X5_isWord 52 [.ref h0, .ref h1, .int x2] [.int y1, .int y0] S I J Q := by
  have h := (Go.ite kt kf)
  exact Go.n tb_X5_isWord 1 h
theorem b_X5_isWord_55 {d : Nat} {S : zS} {I : zI} {J : zJ} {Q : zQ} {h0 : Nat} {h1 : Nat} {x2 : Int32} (g1 : z_fit 3 (0 : Int32)) (kk : Q (some (.int (0 : Int32))) S I J) : Go d i_X5_isWord 55 [.ref h0, .ref h1, .int x2] [] S I J Q := by
  have h := (And.intro g1 kk)
  exact Go.n tb_X5_isWord 2 h
theorem b_X5_isWord_57 {d : Nat} {S : zS} {I : zI} {J : zJ} {Q : zQ} {h0 : Nat} {h1 : Nat} {x2 : Int32} (kk : Go d i_X5_isWord 28 [.ref h0, .ref h1, .int (x2 + (1 : Int32))] [] S I J Q) : Go d i_X5_isWord 57 [.ref h0, .ref h1, .int x2] [] S I J Q := by
  have h := kk
  exact Go.n tb_X5_isWord 2 h
theorem b_X5_isWord_63 {d : Nat} {S : zS} {I : zI} {J : zJ} {Q : zQ} {h0 : Nat} {h1 : Nat} {x2 : Int32} (g1 : z_fit 3 (1 : Int32)) (kk : Q (some (.int (1 : Int32))) S I J) : Go d i_X5_isWord 63 [.ref h0, .ref h1, .int x2] [] S I J Q := by
  have h := (And.intro g1 kk)
  exact Go.n tb_X5_isWord 2 h
theorem w_X5_isSign {d : Nat} {S : zS} {I : zI} {J : zJ} {Q : zQ} {h0 : Nat} {x1 : Int32} (h : Go d i_X5_isSign 0 [.ref h0, .int x1] [] S I J Q) : z_wp (d + 1) i_X5_isSign [.ref h0, .int x1] S I J Q := Go.wp (Nat.le_of_ble_eq_true rfl) h
theorem e_X5_isSign {d : Nat} {S S2 : zS} {I I2 : zI} {J J2 : zJ} {r : Option Value} {h0 : Nat} {x1 : Int32} (h : Go d i_X5_isSign 0 [.ref h0, .int x1] [] S I J (z_eq r S2 I2 J2)) : z_ev (d + 1) i_X5_isSign [.ref h0, .int x1] S I J r S2 I2 J2 := Go.ev (Nat.le_of_ble_eq_true rfl) h
theorem b_X5_isSign_0 {d : Nat} {S : zS} {I : zI} {J : zJ} {Q : zQ} {h0 : Nat} {x1 : Int32} (g1 : z_kd S h0 = 6) (kt : ¬ (I h0 4) = (3 : Int32) → Go d i_X5_isSign 25 [.ref h0, .int x1] [] S I J Q) (kf : (I h0 4) = (3 : Int32) → Go d i_X5_isSign 8 [.ref h0, .int x1] [] S I J Q) : Go d i_X5_isSign 0 [.ref h0, .int x1] [] S I J Q := by
  have h := (And.intro g1 (Go.eti kt kf))
  exact Go.n tb_X5_isSign 4 h
theorem b_X5_isSign_8 {d : Nat} {S : zS} {I : zI} {J : zJ} {Q : zQ} {h0 : Nat} {x1 : Int32} (g1 : z_kd S h0 = 6) (g2 : z_kd S h0 = 6) (g3 : z_isB (z_kd S (z_rv S h0 0)) = true ∧ vp_in (I h0 2) (z_ln S (z_rv S h0 0))) (kt : ¬ (I (z_rv S h0 0) (Int32.toNatClampNeg (I h0 2))) = x1 → Go d i_X5_isSign 25 [.ref h0, .int x1] [] S I J Q) (kf : (I (z_rv S h0 0) (Int32.toNatClampNeg (I h0 2))) = x1 → Go d i_X5_isSign 21 [.ref h0, .int x1] [] S I J Q) : Go d i_X5_isSign 8 [.ref h0, .int x1] [] S I J Q := by
  have h := (And.intro g1 (And.intro g2 (And.intro g3 (Go.eti kt kf))))
  exact Go.n tb_X5_isSign 7 h
theorem b_X5_isSign_21 {d : Nat} {S : zS} {I : zI} {J : zJ} {Q : zQ} {h0 : Nat} {x1 : Int32} (g1 : z_fit 3 (1 : Int32)) (kk : Q (some (.int (1 : Int32))) S I J) : Go d i_X5_isSign 21 [.ref h0, .int x1] [] S I J Q := by
  have h := (And.intro g1 kk)
  exact Go.n tb_X5_isSign 3 h
theorem b_X5_isSign_25 {d : Nat} {S : zS} {I : zI} {J : zJ} {Q : zQ} {h0 : Nat} {x1 : Int32} (g1 : z_fit 3 (0 : Int32)) (kk : Q (some (.int (0 : Int32))) S I J) : Go d i_X5_isSign 25 [.ref h0, .int x1] [] S I J Q := by
  have h := (And.intro g1 kk)
  exact Go.n tb_X5_isSign 2 h
theorem w_X5_number {d : Nat} {S : zS} {I : zI} {J : zJ} {Q : zQ} {h0 : Nat} (h : Go d i_X5_number 0 [.ref h0, .retAddr 0, .retAddr 0] [] S I J Q) : z_wp (d + 1) i_X5_number [.ref h0] S I J Q := Go.wp (Nat.le_of_ble_eq_true rfl) h
theorem e_X5_number {d : Nat} {S S2 : zS} {I I2 : zI} {J J2 : zJ} {r : Option Value} {h0 : Nat} (h : Go d i_X5_number 0 [.ref h0, .retAddr 0, .retAddr 0] [] S I J (z_eq r S2 I2 J2)) : z_ev (d + 1) i_X5_number [.ref h0] S I J r S2 I2 J2 := Go.ev (Nat.le_of_ble_eq_true rfl) h
theorem b_X5_number_0 {d : Nat} {S : zS} {I : zI} {J : zJ} {Q : zQ} {h0 : Nat} {v1 : Value} {v2 : Value} (g1 : z_kd S h0 = 6) (g2 : z_kd S h0 = 6) (kt : ((I h0 3) - (I h0 2)) ≤ (2 : Int32) → Go d i_X5_number 15 [.ref h0, v1, v2] [] S I J Q) (kf : ¬ ((I h0 3) - (I h0 2)) ≤ (2 : Int32) → Go d i_X5_number 13 [.ref h0, v1, v2] [] S I J Q) : Go d i_X5_number 0 [.ref h0, v1, v2] [] S I J Q := by
  have h := (And.intro g1 (And.intro g2 (Go.ite kt kf)))
  exact Go.n tb_X5_number 7 h
theorem b_X5_number_13 {d : Nat} {S : zS} {I : zI} {J : zJ} {Q : zQ} {h0 : Nat} {v1 : Value} {v2 : Value} (kk : Q (some (.int (-1 : Int32))) S I J) : Go d i_X5_number 13 [.ref h0, v1, v2] [] S I J Q := by
  have h := (And.intro trivial kk)
  exact Go.n tb_X5_number 2 h
theorem b_X5_number_15 {d : Nat} {S : zS} {I : zI} {J : zJ} {Q : zQ} {h0 : Nat} {v1 : Value} {v2 : Value} (g1 : z_kd S h0 = 6) (kk : Go d i_X5_number 22 [.ref h0, .int (0 : Int32), .int (I h0 2)] [] S I J Q) : Go d i_X5_number 15 [.ref h0, v1, v2] [] S I J Q := by
  have h := (And.intro g1 kk)
  exact Go.n tb_X5_number 5 h
theorem b_X5_number_22 {d : Nat} {S : zS} {I : zI} {J : zJ} {Q : zQ} {h0 : Nat} {x1 : Int32} {x2 : Int32} (g1 : z_kd S h0 = 6) (kt : (I h0 3) ≤ x2 → Go d i_X5_number 51 [.ref h0, .int x1, .int x2] [] S I J Q) (kf : ¬ (I h0 3) ≤ x2 → Go d i_X5_number 30 [.ref h0, .int x1, .int x2] [] S I J Q) : Go d i_X5_number 22 [.ref h0, .int x1, .int x2] [] S I J Q := by
  have h := (And.intro g1 (Go.ite kt kf))
  exact Go.n tb_X5_number 4 h
theorem b_X5_number_30 {d : Nat} {S : zS} {I : zI} {J : zJ} {Q : zQ} {h0 : Nat} {x1 : Int32} {x2 : Int32} (g1 : z_kd S h0 = 6) (g2 : z_isB (z_kd S (z_rv S h0 0)) = true ∧ vp_in x2 (z_ln S (z_rv S h0 0))) (kk : Go d i_X5_number 22 [.ref h0, .int ((((10 : Int32) * x1) + (I (z_rv S h0 0) (Int32.toNatClampNeg x2))) - (48 : Int32)), .int (x2 + (1 : Int32))] [] S I J Q) : Go d i_X5_number 30 [.ref h0, .int x1, .int x2] [] S I J Q := by
  have h := (And.intro g1 (And.intro g2 kk))
  exact Go.n tb_X5_number 13 h
theorem b_X5_number_51 {d : Nat} {S : zS} {I : zI} {J : zJ} {Q : zQ} {h0 : Nat} {x1 : Int32} {x2 : Int32} (kk : Q (some (.int x1)) S I J) : Go d i_X5_number 51 [.ref h0, .int x1, .int x2] [] S I J Q := by
  have h := (And.intro trivial kk)
  exact Go.n tb_X5_number 2 h
theorem w_X5_row {d : Nat} {S : zS} {I : zI} {J : zJ} {Q : zQ} {h0 : Nat} (h : Go d i_X5_row 0 [.ref h0, .retAddr 0, .retAddr 0, .retAddr 0, .retAddr 0, .retAddr 0] [] S I J Q) : z_wp (d + 1) i_X5_row [.ref h0] S I J Q := Go.wp (Nat.le_of_ble_eq_true rfl) h
theorem e_X5_row {d : Nat} {S S2 : zS} {I I2 : zI} {J J2 : zJ} {r : Option Value} {h0 : Nat} (h : Go d i_X5_row 0 [.ref h0, .retAddr 0, .retAddr 0, .retAddr 0, .retAddr 0, .retAddr 0] [] S I J (z_eq r S2 I2 J2)) : z_ev (d + 1) i_X5_row [.ref h0] S I J r S2 I2 J2 := Go.ev (Nat.le_of_ble_eq_true rfl) h
theorem b_X5_row_0 {d : Nat} {S : zS} {I : zI} {J : zJ} {Q : zQ} {h0 : Nat} {v1 : Value} {v2 : Value} {v3 : Value} {v4 : Value} {v5 : Value} (g1 : z_kd S h0 = 6) (g2 : z_kd S h0 = 6) (kt : ((I h0 3) - (I h0 2)) < (2 : Int32) → Go d i_X5_row 21 [.ref h0, .int ((I h0 3) - (I h0 2)), v2, v3, v4, v5] [] S I J Q) (kf : ¬ ((I h0 3) - (I h0 2)) < (2 : Int32) → Go d i_X5_row 15 [.ref h0, .int ((I h0 3) - (I h0 2)), v2, v3, v4, v5] [] S I J Q) : Go d i_X5_row 0 [.ref h0, v1, v2, v3, v4, v5] [] S I J Q := by
  have h := (And.intro g1 (And.intro g2 (Go.ite kt kf)))
  exact Go.n tb_X5_row 9 h
theorem b_X5_row_15 {d : Nat} {S : zS} {I : zI} {J : zJ} {Q : zQ} {h0 : Nat} {x1 : Int32} {v2 : Value} {v3 : Value} {v4 : Value} {v5 : Value} (kt : x1 ≤ (8 : Int32) → Go d i_X5_row 23 [.ref h0, .int x1, v2, v3, v4, v5] [] S I J Q) (kf : ¬ x1 ≤ (8 : Int32) → Go d i_X5_row 21 [.ref h0, .int x1, v2, v3, v4, v5] [] S I J Q) : Go d i_X5_row 15 [.ref h0, .int x1, v2, v3, v4, v5] [] S I J Q := by
  have h := (Go.ite kt kf)
  exact Go.n tb_X5_row 3 h
theorem b_X5_row_21 {d : Nat} {S : zS} {I : zI} {J : zJ} {Q : zQ} {h0 : Nat} {x1 : Int32} {v2 : Value} {v3 : Value} {v4 : Value} {v5 : Value} (kk : Q (some (.int (-1 : Int32))) S I J) : Go d i_X5_row 21 [.ref h0, .int x1, v2, v3, v4, v5] [] S I J Q := by
  have h := (And.intro trivial kk)
  exact Go.n tb_X5_row 2 h
theorem b_X5_row_23 {d : Nat} {S : zS} {I : zI} {J : zJ} {Q : zQ} {h0 : Nat} {x1 : Int32} {v2 : Value} {v3 : Value} {v4 : Value} {v5 : Value} (g1 : z_kd S h0 = 6) (kk : Go d i_X5_row 33 [.ref h0, .int x1, .int (0 : Int32), .int (0 : Int32), .int (I h0 2), v5] [] S I J Q) : Go d i_X5_row 23 [.ref h0, .int x1, v2, v3, v4, v5] [] S I J Q := by
  have h := (And.intro g1 kk)
  exact Go.n tb_X5_row 7 h
theorem b_X5_row_33 {d : Nat} {S : zS} {I : zI} {J : zJ} {Q : zQ} {h0 : Nat} {x1 : Int32} {x2 : Int32} {x3 : Int32} {x4 : Int32} {v5 : Value} (g1 : z_kd S h0 = 6) (kt : (I h0 3) ≤ x4 → Go d i_X5_row 91 [.ref h0, .int x1, .int x2, .int x3, .int x4, v5] [] S I J Q) (kf : ¬ (I h0 3) ≤ x4 → Go d i_X5_row 42 [.ref h0, .int x1, .int x2, .int x3, .int x4, v5] [] S I J Q) : Go d i_X5_row 33 [.ref h0, .int x1, .int x2, .int x3, .int x4, v5] [] S I J Q := by
  have h := (And.intro g1 (Go.ite kt kf))
  exact Go.n tb_X5_row 4 h
theorem b_X5_row_42 {d : Nat} {S : zS} {I : zI} {J : zJ} {Q : zQ} {h0 : Nat} {x1 : Int32} {x2 : Int32} {x3 : Int32} {x4 : Int32} {v5 : Value} (g1 : z_kd S h0 = 6) (g2 : z_isB (z_kd S (z_rv S h0 0)) = true ∧ vp_in x4 (z_ln S (z_rv S h0 0))) (kt : x1 ≤ ((I (z_rv S h0 0) (Int32.toNatClampNeg x4)) - (48 : Int32)) → Go d i_X5_row 69 [.ref h0, .int x1, .int x2, .int x3, .int x4, .int ((I (z_rv S h0 0) (Int32.toNatClampNeg x4)) - (48 : Int32))] [] S I J Q) (kf : ¬ x1 ≤ ((I (z_rv S h0 0) (Int32.toNatClampNeg x4)) - (48 : Int32)) → Go d i_X5_row 60 [.ref h0, .int x1, .int x2, .int x3, .int x4, .int ((I (z_rv S h0 0) (Int32.toNatClampNeg x4)) - (48 : Int32))] [] S I J Q) : Go d i_X5_row 42 [.ref h0, .int x1, .int x2, .int x3, .int x4, v5] [] S I J Q := by
  have h := (And.intro g1 (And.intro g2 (Go.ite kt kf)))
  exact Go.n tb_X5_row 10 h
theorem b_X5_row_60 {d : Nat} {S : zS} {I : zI} {J : zJ} {Q : zQ} {h0 : Nat} {x1 : Int32} {x2 : Int32} {x3 : Int32} {x4 : Int32} {x5 : Int32} (kt : ((x3 >>> (x5 &&& 31)) &&& (1 : Int32)) = (0 : Int32) → Go d i_X5_row 71 [.ref h0, .int x1, .int x2, .int x3, .int x4, .int x5] [] S I J Q) (kf : ¬ ((x3 >>> (x5 &&& 31)) &&& (1 : Int32)) = (0 : Int32) → Go d i_X5_row 69 [.ref h0, .int x1, .int x2, .int x3, .int x4, .int x5] [] S I J Q) : Go d i_X5_row 60 [.ref h0, .int x1, .int x2, .int x3, .int x4, .int x5] [] S I J Q := by
  have h := (Go.ite kt kf)
  exact Go.n tb_X5_row 6 h
theorem b_X5_row_69 {d : Nat} {S : zS} {I : zI} {J : zJ} {Q : zQ} {h0 : Nat} {x1 : Int32} {x2 : Int32} {x3 : Int32} {x4 : Int32} {x5 : Int32} (kk : Q (some (.int (-1 : Int32))) S I J) : Go d i_X5_row 69 [.ref h0, .int x1, .int x2, .int x3, .int x4, .int x5] [] S I J Q := by
  have h := (And.intro trivial kk)
  exact Go.n tb_X5_row 2 h
theorem b_X5_row_71 {d : Nat} {S : zS} {I : zI} {J : zJ} {Q : zQ} {h0 : Nat} {x1 : Int32} {x2 : Int32} {x3 : Int32} {x4 : Int32} {x5 : Int32} (kk : Go d i_X5_row 33 [.ref h0, .int x1, .int ((x2 <<< ((3 : Int32) &&& 31)) ||| x5), .int (x3 ||| ((1 : Int32) <<< (x5 &&& 31))), .int (x4 + (1 : Int32)), .int x5] [] S I J Q) : Go d i_X5_row 71 [.ref h0, .int x1, .int x2, .int x3, .int x4, .int x5] [] S I J Q := by
  have h := kk
  exact Go.n tb_X5_row 14 h
theorem b_X5_row_91 {d : Nat} {S : zS} {I : zI} {J : zJ} {Q : zQ} {h0 : Nat} {x1 : Int32} {x2 : Int32} {x3 : Int32} {x4 : Int32} {v5 : Value} (kk : Q (some (.int x2)) S I J) : Go d i_X5_row 91 [.ref h0, .int x1, .int x2, .int x3, .int x4, v5] [] S I J Q := by
  have h := (And.intro trivial kk)
  exact Go.n tb_X5_row 2 h
theorem w_X6_init {d : Nat} {S : zS} {I : zI} {J : zJ} {Q : zQ} {h0 : Nat} {h1 : Nat} {h2 : Nat} {x3 : Int32} (h : Go d i_X6_init 0 [.ref h0, .ref h1, .ref h2, .int x3] [] S I J Q) : z_wp (d + 1) i_X6_init [.ref h0, .ref h1, .ref h2, .int x3] S I J Q := Go.wp (Nat.le_of_ble_eq_true rfl) h
theorem e_X6_init {d : Nat} {S S2 : zS} {I I2 : zI} {J J2 : zJ} {r : Option Value} {h0 : Nat} {h1 : Nat} {h2 : Nat} {x3 : Int32} (h : Go d i_X6_init 0 [.ref h0, .ref h1, .ref h2, .int x3] [] S I J (z_eq r S2 I2 J2)) : z_ev (d + 1) i_X6_init [.ref h0, .ref h1, .ref h2, .int x3] S I J r S2 I2 J2 := Go.ev (Nat.le_of_ble_eq_true rfl) h
theorem b_X6_init_0 {d : Nat} {S : zS} {I : zI} {J : zJ} {Q : zQ} {h0 : Nat} {h1 : Nat} {h2 : Nat} {x3 : Int32} (g1 : ¬ h0 = 0) (g2 : z_kd S h0 = 7) (kk : Go d i_X6_init 9 [.ref h0, .ref h1, .ref h2, .int x3] [] (z_setR S h0 0 h1) I J Q) : Go d i_X6_init 0 [.ref h0, .ref h1, .ref h2, .int x3] [] S I J Q := by
  have h := (And.intro g1 (And.intro g2 kk))
  exact Go.n tb_X6_init 5 h
theorem b_X6_init_9 {d : Nat} {S : zS} {I : zI} {J : zJ} {Q : zQ} {h0 : Nat} {h1 : Nat} {h2 : Nat} {x3 : Int32} (g1 : z_kd S h0 = 7) (kk : Go d i_X6_init 14 [.ref h0, .ref h1, .ref h2, .int x3] [] (z_setR S h0 1 h2) I J Q) : Go d i_X6_init 9 [.ref h0, .ref h1, .ref h2, .int x3] [] S I J Q := by
  have h := (And.intro g1 kk)
  exact Go.n tb_X6_init 3 h
theorem b_X6_init_14 {d : Nat} {S : zS} {I : zI} {J : zJ} {Q : zQ} {h0 : Nat} {h1 : Nat} {h2 : Nat} {x3 : Int32} (g1 : z_kd S h0 = 7) (kk : Go d i_X6_init 19 [.ref h0, .ref h1, .ref h2, .int x3] [] S (z_u2 I h0 2 x3) J Q) : Go d i_X6_init 14 [.ref h0, .ref h1, .ref h2, .int x3] [] S I J Q := by
  have h := (And.intro g1 kk)
  exact Go.n tb_X6_init 3 h
theorem b_X6_init_19 {d : Nat} {S : zS} {I : zI} {J : zJ} {Q : zQ} {h0 : Nat} {h1 : Nat} {h2 : Nat} {x3 : Int32} (kk : Q none S I J) : Go d i_X6_init 19 [.ref h0, .ref h1, .ref h2, .int x3] [] S I J Q := by
  have h := (And.intro trivial kk)
  exact Go.n tb_X6_init 1 h
theorem w_X6_byteAt {d : Nat} {S : zS} {I : zI} {J : zJ} {Q : zQ} {h0 : Nat} {x1 : Int32} {x2 : Int32} (h : Go d i_X6_byteAt 0 [.ref h0, .int x1, .int x2] [] S I J Q) : z_wp (d + 1) i_X6_byteAt [.ref h0, .int x1, .int x2] S I J Q := Go.wp (Nat.le_of_ble_eq_true rfl) h
theorem e_X6_byteAt {d : Nat} {S S2 : zS} {I I2 : zI} {J J2 : zJ} {r : Option Value} {h0 : Nat} {x1 : Int32} {x2 : Int32} (h : Go d i_X6_byteAt 0 [.ref h0, .int x1, .int x2] [] S I J (z_eq r S2 I2 J2)) : z_ev (d + 1) i_X6_byteAt [.ref h0, .int x1, .int x2] S I J r S2 I2 J2 := Go.ev (Nat.le_of_ble_eq_true rfl) h
theorem b_X6_byteAt_0 {d : Nat} {S : zS} {I : zI} {J : zJ} {Q : zQ} {h0 : Nat} {x1 : Int32} {x2 : Int32} (g1 : z_kd S h0 = 7) (kt : (z_rv S h0 1) = 0 → Go d i_X6_byteAt 61 [.ref h0, .int x1, .int x2] [] S I J Q) (kf : ¬ (z_rv S h0 1) = 0 → Go d i_X6_byteAt 7 [.ref h0, .int x1, .int x2] [] S I J Q) : Go d i_X6_byteAt 0 [.ref h0, .int x1, .int x2] [] S I J Q := by
  have h := (And.intro g1 (Go.ite kt kf))
  exact Go.n tb_X6_byteAt 3 h
theorem b_X6_byteAt_7 {d : Nat} {S : zS} {I : zI} {J : zJ} {Q : zQ} {h0 : Nat} {x1 : Int32} {x2 : Int32} (g1 : z_kd S h0 = 7) (kt : x2 < (I h0 2) → Go d i_X6_byteAt 24 [.ref h0, .int x1, .int x2] [] S I J Q) (kf : ¬ x2 < (I h0 2) → Go d i_X6_byteAt 15 [.ref h0, .int x1, .int x2] [] S I J Q) : Go d i_X6_byteAt 7 [.ref h0, .int x1, .int x2] [] S I J Q := by
  have h := (And.intro g1 (Go.ite kt kf))
  exact Go.n tb_X6_byteAt 4 h
theorem b_X6_byteAt_15 {d : Nat} {S : zS} {I : zI} {J : zJ} {Q : zQ} {h0 : Nat} {x1 : Int32} {x2 : Int32} (g1 : z_kd S h0 = 7) (kk : Q (some (.int ((-1 : Int32) - (x2 - (I h0 2))))) S I J) : Go d i_X6_byteAt 15 [.ref h0, .int x1, .int x2] [] S I J Q := by
  have h := (And.intro g1 (And.intro trivial kk))
  exact Go.n tb_X6_byteAt 7 h
theorem b_X6_byteAt_24 {d : Nat} {S : zS} {I : zI} {J : zJ} {Q : zQ} {h0 : Nat} {x1 : Int32} {x2 : Int32} (g1 : z_kd S h0 = 7) (g2 : z_isA (z_kd S (z_rv S h0 1)) = true) (kt : (nI (z_ln S (z_rv S h0 1))) ≤ x1 → Go d i_X6_byteAt 59 [.ref h0, .int x1, .int x2] [] S I J Q) (kf : ¬ (nI (z_ln S (z_rv S h0 1))) ≤ x1 → Go d i_X6_byteAt 33 [.ref h0, .int x1, .int x2] [] S I J Q) : Go d i_X6_byteAt 24 [.ref h0, .int x1, .int x2] [] S I J Q := by
  have h := (And.intro g1 (And.intro g2 (Go.ite kt kf)))
  exact Go.n tb_X6_byteAt 5 h
theorem b_X6_byteAt_33 {d : Nat} {S : zS} {I : zI} {J : zJ} {Q : zQ} {h0 : Nat} {x1 : Int32} {x2 : Int32} (g1 : z_kd S h0 = 7) (g2 : z_isI (z_kd S (z_rv S h0 1)) = true ∧ vp_in x1 (z_ln S (z_rv S h0 1))) (g3 : z_kd S h0 = 7) (kk : Q (some (.int ((48 : Int32) + (((I (z_rv S h0 1) (Int32.toNatClampNeg x1)) >>> (((3 : Int32) * (((I h0 2) - (1 : Int32)) - x2)) &&& 31)) &&& (7 : Int32))))) S I J) : Go d i_X6_byteAt 33 [.ref h0, .int x1, .int x2] [] S I J Q := by
  have h := (And.intro g1 (And.intro g2 (And.intro g3 (And.intro trivial kk))))
  exact Go.n tb_X6_byteAt 19 h
theorem b_X6_byteAt_59 {d : Nat} {S : zS} {I : zI} {J : zJ} {Q : zQ} {h0 : Nat} {x1 : Int32} {x2 : Int32} (kk : Q (some (.int (-1 : Int32))) S I J) : Go d i_X6_byteAt 59 [.ref h0, .int x1, .int x2] [] S I J Q := by
  have h := (And.intro trivial kk)
  exact Go.n tb_X6_byteAt 2 h
theorem b_X6_byteAt_61 {d : Nat} {S : zS} {I : zI} {J : zJ} {Q : zQ} {h0 : Nat} {x1 : Int32} {x2 : Int32} (g1 : z_kd S h0 = 7) (kk : z_wp d i_X6_byteOfNumbers [.ref h0, .int x1, .int x2] S I J (fun vv SS II JJ => Go d i_X6_byteAt 67 [.ref h0, .int x1, .int x2] (vv.toList ++ []) SS II JJ Q)) : Go d i_X6_byteAt 61 [.ref h0, .int x1, .int x2] [] S I J Q := by
  have h := (And.intro g1 kk)
  exact Go.n tb_X6_byteAt 4 h
theorem b_X6_byteAt_67 {d : Nat} {S : zS} {I : zI} {J : zJ} {Q : zQ} {h0 : Nat} {x1 : Int32} {x2 : Int32} {y0 : Int32} (kk : Q (some (.int y0)) S I J) : Go d i_X6_byteAt 67 [.ref h0, .int x1, .int x2] [.int y0] S I J Q := by
  have h := (And.intro trivial kk)
  exact Go.n tb_X6_byteAt 1 h
theorem w_X6_byteOfNumbers {d : Nat} {S : zS} {I : zI} {J : zJ} {Q : zQ} {h0 : Nat} {x1 : Int32} {x2 : Int32} (h : Go d i_X6_byteOfNumbers 0 [.ref h0, .int x1, .int x2, .retAddr 0, .retAddr 0, .retAddr 0, .retAddr 0, .retAddr 0] [] S I J Q) : z_wp (d + 1) i_X6_byteOfNumbers [.ref h0, .int x1, .int x2] S I J Q := Go.wp (Nat.le_of_ble_eq_true rfl) h
theorem e_X6_byteOfNumbers {d : Nat} {S S2 : zS} {I I2 : zI} {J J2 : zJ} {r : Option Value} {h0 : Nat} {x1 : Int32} {x2 : Int32} (h : Go d i_X6_byteOfNumbers 0 [.ref h0, .int x1, .int x2, .retAddr 0, .retAddr 0, .retAddr 0, .retAddr 0, .retAddr 0] [] S I J (z_eq r S2 I2 J2)) : z_ev (d + 1) i_X6_byteOfNumbers [.ref h0, .int x1, .int x2] S I J r S2 I2 J2 := Go.ev (Nat.le_of_ble_eq_true rfl) h
theorem b_X6_byteOfNumbers_0 {d : Nat} {S : zS} {I : zI} {J : zJ} {Q : zQ} {h0 : Nat} {x1 : Int32} {x2 : Int32} {v3 : Value} {v4 : Value} {v5 : Value} {v6 : Value} {v7 : Value} (kk : Go d i_X6_byteOfNumbers 8 [.ref h0, .int x1, .int x2, .int x1, .int (0 : Int32), .int (0 : Int32), v6, v7] [] S I J Q) : Go d i_X6_byteOfNumbers 0 [.ref h0, .int x1, .int x2, v3, v4, v5, v6, v7] [] S I J Q := by
  have h := kk
  exact Go.n tb_X6_byteOfNumbers 6 h
theorem b_X6_byteOfNumbers_8 {d : Nat} {S : zS} {I : zI} {J : zJ} {Q : zQ} {h0 : Nat} {x1 : Int32} {x2 : Int32} {x3 : Int32} {x4 : Int32} {x5 : Int32} {v6 : Value} {v7 : Value} (g1 : z_kd S h0 = 7) (g2 : z_isA (z_kd S (z_rv S h0 0)) = true) (kt : (nI (z_ln S (z_rv S h0 0))) ≤ x5 → Go d i_X6_byteOfNumbers 108 [.ref h0, .int x1, .int x2, .int x3, .int x4, .int x5, v6, v7] [] S I J Q) (kf : ¬ (nI (z_ln S (z_rv S h0 0))) ≤ x5 → Go d i_X6_byteOfNumbers 18 [.ref h0, .int x1, .int x2, .int x3, .int x4, .int x5, v6, v7] [] S I J Q) : Go d i_X6_byteOfNumbers 8 [.ref h0, .int x1, .int x2, .int x3, .int x4, .int x5, v6, v7] [] S I J Q := by
  have h := (And.intro g1 (And.intro g2 (Go.ite kt kf)))
  exact Go.n tb_X6_byteOfNumbers 5 h
theorem b_X6_byteOfNumbers_18 {d : Nat} {S : zS} {I : zI} {J : zJ} {Q : zQ} {h0 : Nat} {x1 : Int32} {x2 : Int32} {x3 : Int32} {x4 : Int32} {x5 : Int32} {v6 : Value} {v7 : Value} (g1 : z_kd S h0 = 7) (g2 : z_isI (z_kd S (z_rv S h0 0)) = true ∧ vp_in x5 (z_ln S (z_rv S h0 0))) (kk : z_wp d i_J9_max_7cf53 [.int (1 : Int32), .int (I (z_rv S h0 0) (Int32.toNatClampNeg x5))] S I J (fun vv SS II JJ => Go d i_X6_byteOfNumbers 29 [.ref h0, .int x1, .int x2, .int x3, .int x4, .int x5, v6, v7] (vv.toList ++ []) SS II JJ Q)) : Go d i_X6_byteOfNumbers 18 [.ref h0, .int x1, .int x2, .int x3, .int x4, .int x5, v6, v7] [] S I J Q := by
  have h := (And.intro g1 (And.intro g2 (And.intro trivial kk)))
  exact Go.n tb_X6_byteOfNumbers 6 h
theorem b_X6_byteOfNumbers_29 {d : Nat} {S : zS} {I : zI} {J : zJ} {Q : zQ} {h0 : Nat} {x1 : Int32} {x2 : Int32} {x3 : Int32} {x4 : Int32} {x5 : Int32} {v6 : Value} {v7 : Value} {y0 : Int32} (g1 : ¬ y0 = 0) (g2 : ¬ y0 = 0) (kt : x5 ≤ (0 : Int32) → Go d i_X6_byteOfNumbers 59 [.ref h0, .int x1, .int x2, .int (x3 / y0), .int x4, .int x5, .int y0, .int (x3 - x3 / y0 * y0)] [] S I J Q) (kf : ¬ x5 ≤ (0 : Int32) → Go d i_X6_byteOfNumbers 47 [.ref h0, .int x1, .int x2, .int (x3 / y0), .int x4, .int x5, .int y0, .int (x3 - x3 / y0 * y0)] [] S I J Q) : Go d i_X6_byteOfNumbers 29 [.ref h0, .int x1, .int x2, .int x3, .int x4, .int x5, v6, v7] [.int y0] S I J Q := by
  have h := (And.intro g1 (And.intro g2 (Go.ite kt kf)))
  exact Go.n tb_X6_byteOfNumbers 11 h
theorem b_X6_byteOfNumbers_47 {d : Nat} {S : zS} {I : zI} {J : zJ} {Q : zQ} {h0 : Nat} {x1 : Int32} {x2 : Int32} {x3 : Int32} {x4 : Int32} {x5 : Int32} {x6 : Int32} {x7 : Int32} (kt : ¬ x2 = x4 → Go d i_X6_byteOfNumbers 56 [.ref h0, .int x1, .int x2, .int x3, .int x4, .int x5, .int x6, .int x7] [] S I J Q) (kf : x2 = x4 → Go d i_X6_byteOfNumbers 53 [.ref h0, .int x1, .int x2, .int x3, .int x4, .int x5, .int x6, .int x7] [] S I J Q) : Go d i_X6_byteOfNumbers 47 [.ref h0, .int x1, .int x2, .int x3, .int x4, .int x5, .int x6, .int x7] [] S I J Q := by
  have h := (Go.eti kt kf)
  exact Go.n tb_X6_byteOfNumbers 3 h
theorem b_X6_byteOfNumbers_53 {d : Nat} {S : zS} {I : zI} {J : zJ} {Q : zQ} {h0 : Nat} {x1 : Int32} {x2 : Int32} {x3 : Int32} {x4 : Int32} {x5 : Int32} {x6 : Int32} {x7 : Int32} (kk : Q (some (.int (44 : Int32))) S I J) : Go d i_X6_byteOfNumbers 53 [.ref h0, .int x1, .int x2, .int x3, .int x4, .int x5, .int x6, .int x7] [] S I J Q := by
  have h := (And.intro trivial kk)
  exact Go.n tb_X6_byteOfNumbers 2 h
theorem b_X6_byteOfNumbers_56 {d : Nat} {S : zS} {I : zI} {J : zJ} {Q : zQ} {h0 : Nat} {x1 : Int32} {x2 : Int32} {x3 : Int32} {x4 : Int32} {x5 : Int32} {x6 : Int32} {x7 : Int32} (kt : x7 ≤ (9 : Int32) → Go d i_X6_byteOfNumbers 84 [.ref h0, .int x1, .int x2, .int x3, .int (x4 + (1 : Int32)), .int x5, .int x6, .int x7] [] S I J Q) (kf : ¬ x7 ≤ (9 : Int32) → Go d i_X6_byteOfNumbers 66 [.ref h0, .int x1, .int x2, .int x3, .int (x4 + (1 : Int32)), .int x5, .int x6, .int x7] [] S I J Q) : Go d i_X6_byteOfNumbers 56 [.ref h0, .int x1, .int x2, .int x3, .int x4, .int x5, .int x6, .int x7] [] S I J Q := by
  have h := (Go.ite kt kf)
  exact Go.n tb_X6_byteOfNumbers 4 h
theorem b_X6_byteOfNumbers_59 {d : Nat} {S : zS} {I : zI} {J : zJ} {Q : zQ} {h0 : Nat} {x1 : Int32} {x2 : Int32} {x3 : Int32} {x4 : Int32} {x5 : Int32} {x6 : Int32} {x7 : Int32} (kt : x7 ≤ (9 : Int32) → Go d i_X6_byteOfNumbers 84 [.ref h0, .int x1, .int x2, .int x3, .int x4, .int x5, .int x6, .int x7] [] S I J Q) (kf : ¬ x7 ≤ (9 : Int32) → Go d i_X6_byteOfNumbers 66 [.ref h0, .int x1, .int x2, .int x3, .int x4, .int x5, .int x6, .int x7] [] S I J Q) : Go d i_X6_byteOfNumbers 59 [.ref h0, .int x1, .int x2, .int x3, .int x4, .int x5, .int x6, .int x7] [] S I J Q := by
  have h := (Go.ite kt kf)
  exact Go.n tb_X6_byteOfNumbers 3 h
theorem b_X6_byteOfNumbers_66 {d : Nat} {S : zS} {I : zI} {J : zJ} {Q : zQ} {h0 : Nat} {x1 : Int32} {x2 : Int32} {x3 : Int32} {x4 : Int32} {x5 : Int32} {x6 : Int32} {x7 : Int32} (kt : ¬ x2 = x4 → Go d i_X6_byteOfNumbers 81 [.ref h0, .int x1, .int x2, .int x3, .int x4, .int x5, .int x6, .int x7] [] S I J Q) (kf : x2 = x4 → Go d i_X6_byteOfNumbers 72 [.ref h0, .int x1, .int x2, .int x3, .int x4, .int x5, .int x6, .int x7] [] S I J Q) : Go d i_X6_byteOfNumbers 66 [.ref h0, .int x1, .int x2, .int x3, .int x4, .int x5, .int x6, .int x7] [] S I J Q := by
  have h := (Go.eti kt kf)
  exact Go.n tb_X6_byteOfNumbers 3 h
theorem b_X6_byteOfNumbers_72 {d : Nat} {S : zS} {I : zI} {J : zJ} {Q : zQ} {h0 : Nat} {x1 : Int32} {x2 : Int32} {x3 : Int32} {x4 : Int32} {x5 : Int32} {x6 : Int32} {x7 : Int32} (g1 : ¬ (10 : Int32) = 0) (kk : Q (some (.int ((48 : Int32) + (x7 / (10 : Int32))))) S I J) : Go d i_X6_byteOfNumbers 72 [.ref h0, .int x1, .int x2, .int x3, .int x4, .int x5, .int x6, .int x7] [] S I J Q := by
  have h := (And.intro g1 (And.intro trivial kk))
  exact Go.n tb_X6_byteOfNumbers 6 h
theorem b_X6_byteOfNumbers_81 {d : Nat} {S : zS} {I : zI} {J : zJ} {Q : zQ} {h0 : Nat} {x1 : Int32} {x2 : Int32} {x3 : Int32} {x4 : Int32} {x5 : Int32} {x6 : Int32} {x7 : Int32} (kt : ¬ x2 = (x4 + (1 : Int32)) → Go d i_X6_byteOfNumbers 99 [.ref h0, .int x1, .int x2, .int x3, .int (x4 + (1 : Int32)), .int x5, .int x6, .int x7] [] S I J Q) (kf : x2 = (x4 + (1 : Int32)) → Go d i_X6_byteOfNumbers 90 [.ref h0, .int x1, .int x2, .int x3, .int (x4 + (1 : Int32)), .int x5, .int x6, .int x7] [] S I J Q) : Go d i_X6_byteOfNumbers 81 [.ref h0, .int x1, .int x2, .int x3, .int x4, .int x5, .int x6, .int x7] [] S I J Q := by
  have h := (Go.eti kt kf)
  exact Go.n tb_X6_byteOfNumbers 4 h
theorem b_X6_byteOfNumbers_84 {d : Nat} {S : zS} {I : zI} {J : zJ} {Q : zQ} {h0 : Nat} {x1 : Int32} {x2 : Int32} {x3 : Int32} {x4 : Int32} {x5 : Int32} {x6 : Int32} {x7 : Int32} (kt : ¬ x2 = x4 → Go d i_X6_byteOfNumbers 99 [.ref h0, .int x1, .int x2, .int x3, .int x4, .int x5, .int x6, .int x7] [] S I J Q) (kf : x2 = x4 → Go d i_X6_byteOfNumbers 90 [.ref h0, .int x1, .int x2, .int x3, .int x4, .int x5, .int x6, .int x7] [] S I J Q) : Go d i_X6_byteOfNumbers 84 [.ref h0, .int x1, .int x2, .int x3, .int x4, .int x5, .int x6, .int x7] [] S I J Q := by
  have h := (Go.eti kt kf)
  exact Go.n tb_X6_byteOfNumbers 3 h
theorem b_X6_byteOfNumbers_90 {d : Nat} {S : zS} {I : zI} {J : zJ} {Q : zQ} {h0 : Nat} {x1 : Int32} {x2 : Int32} {x3 : Int32} {x4 : Int32} {x5 : Int32} {x6 : Int32} {x7 : Int32} (g1 : ¬ (10 : Int32) = 0) (kk : Q (some (.int ((48 : Int32) + (x7 - x7 / (10 : Int32) * (10 : Int32))))) S I J) : Go d i_X6_byteOfNumbers 90 [.ref h0, .int x1, .int x2, .int x3, .int x4, .int x5, .int x6, .int x7] [] S I J Q := by
  have h := (And.intro g1 (And.intro trivial kk))
  exact Go.n tb_X6_byteOfNumbers 6 h
theorem b_X6_byteOfNumbers_99 {d : Nat} {S : zS} {I : zI} {J : zJ} {Q : zQ} {h0 : Nat} {x1 : Int32} {x2 : Int32} {x3 : Int32} {x4 : Int32} {x5 : Int32} {x6 : Int32} {x7 : Int32} (kk : Go d i_X6_byteOfNumbers 8 [.ref h0, .int x1, .int x2, .int x3, .int (x4 + (1 : Int32)), .int (x5 + (1 : Int32)), .int x6, .int x7] [] S I J Q) : Go d i_X6_byteOfNumbers 99 [.ref h0, .int x1, .int x2, .int x3, .int x4, .int x5, .int x6, .int x7] [] S I J Q := by
  have h := kk
  exact Go.n tb_X6_byteOfNumbers 3 h
theorem b_X6_byteOfNumbers_108 {d : Nat} {S : zS} {I : zI} {J : zJ} {Q : zQ} {h0 : Nat} {x1 : Int32} {x2 : Int32} {x3 : Int32} {x4 : Int32} {x5 : Int32} {v6 : Value} {v7 : Value} (kk : Q (some (.int ((-1 : Int32) - (x2 - x4)))) S I J) : Go d i_X6_byteOfNumbers 108 [.ref h0, .int x1, .int x2, .int x3, .int x4, .int x5, v6, v7] [] S I J Q := by
  have h := (And.intro trivial kk)
  exact Go.n tb_X6_byteOfNumbers 6 h
theorem w_X7_init {d : Nat} {S : zS} {I : zI} {J : zJ} {Q : zQ} {h0 : Nat} (h : Go d i_X7_init 0 [.ref h0] [] S I J Q) : z_wp (d + 1) i_X7_init [.ref h0] S I J Q := Go.wp (Nat.le_of_ble_eq_true rfl) h
theorem e_X7_init {d : Nat} {S S2 : zS} {I I2 : zI} {J J2 : zJ} {r : Option Value} {h0 : Nat} (h : Go d i_X7_init 0 [.ref h0] [] S I J (z_eq r S2 I2 J2)) : z_ev (d + 1) i_X7_init [.ref h0] S I J r S2 I2 J2 := Go.ev (Nat.le_of_ble_eq_true rfl) h
theorem b_X7_init_0 {d : Nat} {S : zS} {I : zI} {J : zJ} {Q : zQ} {h0 : Nat} (g1 : ¬ h0 = 0) (g2 : ¬ (20 : Int32) < 0 ∧ (Int32.toNatClampNeg (20 : Int32)) * 4 ≤ 536870912) (g3 : z_kd (z_new S 100 (Int32.toNatClampNeg (20 : Int32)) (Int32.toNatClampNeg (20 : Int32))) h0 = 8) (kk : Go d i_X7_init 12 [.ref h0] [] (z_setR (z_new S 100 (Int32.toNatClampNeg (20 : Int32)) (Int32.toNatClampNeg (20 : Int32))) h0 4 (z_sz S + 1)) (z_ur I (z_sz S + 1) (fun _ => 0)) J Q) : Go d i_X7_init 0 [.ref h0] [] S I J Q := by
  have h := (And.intro g1 (And.intro g2 (And.intro g3 kk)))
  exact Go.n tb_X7_init 6 h
theorem b_X7_init_12 {d : Nat} {S : zS} {I : zI} {J : zJ} {Q : zQ} {h0 : Nat} (g1 : ¬ (420 : Int32) < 0 ∧ (Int32.toNatClampNeg (420 : Int32)) * 4 ≤ 536870912) (g2 : z_kd (z_new S 100 (Int32.toNatClampNeg (420 : Int32)) (Int32.toNatClampNeg (420 : Int32))) h0 = 8) (kk : Go d i_X7_init 21 [.ref h0] [] (z_setR (z_new S 100 (Int32.toNatClampNeg (420 : Int32)) (Int32.toNatClampNeg (420 : Int32))) h0 5 (z_sz S + 1)) (z_ur I (z_sz S + 1) (fun _ => 0)) J Q) : Go d i_X7_init 12 [.ref h0] [] S I J Q := by
  have h := (And.intro g1 (And.intro g2 kk))
  exact Go.n tb_X7_init 4 h
theorem b_X7_init_21 {d : Nat} {S : zS} {I : zI} {J : zJ} {Q : zQ} {h0 : Nat} (g1 : ¬ (20 : Int32) < 0 ∧ (Int32.toNatClampNeg (20 : Int32)) * 4 ≤ 536870912) (g2 : z_kd (z_new S 100 (Int32.toNatClampNeg (20 : Int32)) (Int32.toNatClampNeg (20 : Int32))) h0 = 8) (kk : Go d i_X7_init 29 [.ref h0] [] (z_setR (z_new S 100 (Int32.toNatClampNeg (20 : Int32)) (Int32.toNatClampNeg (20 : Int32))) h0 6 (z_sz S + 1)) (z_ur I (z_sz S + 1) (fun _ => 0)) J Q) : Go d i_X7_init 21 [.ref h0] [] S I J Q := by
  have h := (And.intro g1 (And.intro g2 kk))
  exact Go.n tb_X7_init 4 h
theorem b_X7_init_29 {d : Nat} {S : zS} {I : zI} {J : zJ} {Q : zQ} {h0 : Nat} (g1 : z_kd S h0 = 8) (kk : Go d i_X7_init 34 [.ref h0] [] S (z_u2 I h0 2 (0 : Int32)) J Q) : Go d i_X7_init 29 [.ref h0] [] S I J Q := by
  have h := (And.intro g1 kk)
  exact Go.n tb_X7_init 3 h
theorem b_X7_init_34 {d : Nat} {S : zS} {I : zI} {J : zJ} {Q : zQ} {h0 : Nat} (kk : Q none S I J) : Go d i_X7_init 34 [.ref h0] [] S I J Q := by
  have h := (And.intro trivial kk)
  exact Go.n tb_X7_init 1 h
theorem w_X7_begin {d : Nat} {S : zS} {I : zI} {J : zJ} {Q : zQ} {h0 : Nat} {h1 : Nat} {h2 : Nat} (h : Go d i_X7_begin 0 [.ref h0, .ref h1, .ref h2, .retAddr 0] [] S I J Q) : z_wp (d + 1) i_X7_begin [.ref h0, .ref h1, .ref h2] S I J Q := Go.wp (Nat.le_of_ble_eq_true rfl) h
theorem e_X7_begin {d : Nat} {S S2 : zS} {I I2 : zI} {J J2 : zJ} {r : Option Value} {h0 : Nat} {h1 : Nat} {h2 : Nat} (h : Go d i_X7_begin 0 [.ref h0, .ref h1, .ref h2, .retAddr 0] [] S I J (z_eq r S2 I2 J2)) : z_ev (d + 1) i_X7_begin [.ref h0, .ref h1, .ref h2] S I J r S2 I2 J2 := Go.ev (Nat.le_of_ble_eq_true rfl) h
theorem b_X7_begin_0 {d : Nat} {S : zS} {I : zI} {J : zJ} {Q : zQ} {h0 : Nat} {h1 : Nat} {h2 : Nat} {v3 : Value} (g1 : z_kd S h0 = 8) (g2 : z_kd (z_setR S h0 0 h1) h0 = 8) (g3 : z_kd (z_setR (z_setR S h0 0 h1) h0 1 h2) h1 = 1) (g4 : z_kd (z_setR (z_setR S h0 0 h1) h0 1 h2) h0 = 8) (g5 : z_kd (z_setR (z_setR S h0 0 h1) h0 1 h2) h0 = 8) (g6 : z_kd (z_setR (z_setR S h0 0 h1) h0 1 h2) h0 = 8) (g7 : z_kd (z_setR (z_setR S h0 0 h1) h0 1 h2) h0 = 8) (kk : z_wp d i_X7_fits [.ref h0, .ref h1, .ref h2] (z_setR (z_setR S h0 0 h1) h0 1 h2) (z_u2 (z_u2 I h0 2 (I h1 0)) h0 3 (((1 : Int32) <<< (((z_u2 I h0 2 (I h1 0)) h0 2) &&& 31)) - (1 : Int32))) J (fun vv SS II JJ => Go d i_X7_begin 36 [.ref h0, .ref h1, .ref h2, v3] (vv.toList ++ []) SS II JJ Q)) : Go d i_X7_begin 0 [.ref h0, .ref h1, .ref h2, v3] [] S I J Q := by
  have h := (And.intro g1 (And.intro g2 (And.intro g3 (And.intro g4 (And.intro g5 (And.intro g6 (And.intro g7 kk)))))))
  exact Go.n tb_X7_begin 22 h
theorem b_X7_begin_36 {d : Nat} {S : zS} {I : zI} {J : zJ} {Q : zQ} {h0 : Nat} {h1 : Nat} {h2 : Nat} {v3 : Value} {y0 : Int32} (kt : ¬ y0 = (0 : Int32) → Go d i_X7_begin 41 [.ref h0, .ref h1, .ref h2, v3] [] S I J Q) (kf : y0 = (0 : Int32) → Go d i_X7_begin 39 [.ref h0, .ref h1, .ref h2, v3] [] S I J Q) : Go d i_X7_begin 36 [.ref h0, .ref h1, .ref h2, v3] [.int y0] S I J Q := by
  have h := (Go.eti kt kf)
  exact Go.n tb_X7_begin 1 h
theorem b_X7_begin_39 {d : Nat} {S : zS} {I : zI} {J : zJ} {Q : zQ} {h0 : Nat} {h1 : Nat} {h2 : Nat} {v3 : Value} (g1 : z_fit 3 (0 : Int32)) (kk : Q (some (.int (0 : Int32))) S I J) : Go d i_X7_begin 39 [.ref h0, .ref h1, .ref h2, v3] [] S I J Q := by
  have h := (And.intro g1 kk)
  exact Go.n tb_X7_begin 2 h
theorem b_X7_begin_41 {d : Nat} {S : zS} {I : zI} {J : zJ} {Q : zQ} {h0 : Nat} {h1 : Nat} {h2 : Nat} {v3 : Value} (kk : Go d i_X7_begin 43 [.ref h0, .ref h1, .ref h2, .int (0 : Int32)] [] S I J Q) : Go d i_X7_begin 41 [.ref h0, .ref h1, .ref h2, v3] [] S I J Q := by
  have h := kk
  exact Go.n tb_X7_begin 2 h
theorem b_X7_begin_43 {d : Nat} {S : zS} {I : zI} {J : zJ} {Q : zQ} {h0 : Nat} {h1 : Nat} {h2 : Nat} {x3 : Int32} (g1 : z_kd S h0 = 8) (kt : (I h0 2) ≤ x3 → Go d i_X7_begin 67 [.ref h0, .ref h1, .ref h2, .int x3] [] S I J Q) (kf : ¬ (I h0 2) ≤ x3 → Go d i_X7_begin 51 [.ref h0, .ref h1, .ref h2, .int x3] [] S I J Q) : Go d i_X7_begin 43 [.ref h0, .ref h1, .ref h2, .int x3] [] S I J Q := by
  have h := (And.intro g1 (Go.ite kt kf))
  exact Go.n tb_X7_begin 4 h
theorem b_X7_begin_51 {d : Nat} {S : zS} {I : zI} {J : zJ} {Q : zQ} {h0 : Nat} {h1 : Nat} {h2 : Nat} {x3 : Int32} (g1 : z_kd S h0 = 8) (g2 : z_kd S h0 = 8) (g3 : z_kd S (z_rv S h0 5) = 100 ∧ vp_in x3 (z_ln S (z_rv S h0 5))) (kk : Go d i_X7_begin 43 [.ref h0, .ref h1, .ref h2, .int (x3 + (1 : Int32))] [] S (z_u2 I (z_rv S h0 5) (Int32.toNatClampNeg x3) (I h0 3)) J Q) : Go d i_X7_begin 51 [.ref h0, .ref h1, .ref h2, .int x3] [] S I J Q := by
  have h := (And.intro g1 (And.intro g2 (And.intro g3 kk)))
  exact Go.n tb_X7_begin 8 h
theorem b_X7_begin_67 {d : Nat} {S : zS} {I : zI} {J : zJ} {Q : zQ} {h0 : Nat} {h1 : Nat} {h2 : Nat} {x3 : Int32} (g1 : z_kd S h0 = 8) (kk : z_wp d i_X7_lead [.ref h0, .int (0 : Int32), .int (0 : Int32), .int (0 : Int32)] S I J (fun vv SS II JJ => Go d i_X7_begin 74 [.ref h0, .ref h1, .ref h2, .int x3] (vv.toList ++ []) SS II JJ Q)) : Go d i_X7_begin 67 [.ref h0, .ref h1, .ref h2, .int x3] [] S I J Q := by
  have h := (And.intro g1 kk)
  exact Go.n tb_X7_begin 5 h
theorem b_X7_begin_74 {d : Nat} {S : zS} {I : zI} {J : zJ} {Q : zQ} {h0 : Nat} {h1 : Nat} {h2 : Nat} {x3 : Int32} {y0 : Int32} (g1 : z_fit 3 y0) (kk : Q (some (.int y0)) S I J) : Go d i_X7_begin 74 [.ref h0, .ref h1, .ref h2, .int x3] [.int y0] S I J Q := by
  have h := (And.intro g1 kk)
  exact Go.n tb_X7_begin 1 h
theorem w_X7_fits {d : Nat} {S : zS} {I : zI} {J : zJ} {Q : zQ} {h0 : Nat} {h1 : Nat} {h2 : Nat} (h : Go d i_X7_fits 0 [.ref h0, .ref h1, .ref h2, .retAddr 0, .retAddr 0, .retAddr 0] [] S I J Q) : z_wp (d + 1) i_X7_fits [.ref h0, .ref h1, .ref h2] S I J Q := Go.wp (Nat.le_of_ble_eq_true rfl) h
theorem e_X7_fits {d : Nat} {S S2 : zS} {I I2 : zI} {J J2 : zJ} {r : Option Value} {h0 : Nat} {h1 : Nat} {h2 : Nat} (h : Go d i_X7_fits 0 [.ref h0, .ref h1, .ref h2, .retAddr 0, .retAddr 0, .retAddr 0] [] S I J (z_eq r S2 I2 J2)) : z_ev (d + 1) i_X7_fits [.ref h0, .ref h1, .ref h2] S I J r S2 I2 J2 := Go.ev (Nat.le_of_ble_eq_true rfl) h
theorem b_X7_fits_0 {d : Nat} {S : zS} {I : zI} {J : zJ} {Q : zQ} {h0 : Nat} {h1 : Nat} {h2 : Nat} {v3 : Value} {v4 : Value} {v5 : Value} (g1 : z_kd S h1 = 1) (g2 : z_kd S h2 = 1) (kt : ¬ (I h1 0) = (I h2 0) → Go d i_X7_fits 22 [.ref h0, .ref h1, .ref h2, v3, v4, v5] [] S I J Q) (kf : (I h1 0) = (I h2 0) → Go d i_X7_fits 11 [.ref h0, .ref h1, .ref h2, v3, v4, v5] [] S I J Q) : Go d i_X7_fits 0 [.ref h0, .ref h1, .ref h2, v3, v4, v5] [] S I J Q := by
  have h := (And.intro g1 (And.intro g2 (Go.eti kt kf)))
  exact Go.n tb_X7_fits 5 h
theorem b_X7_fits_11 {d : Nat} {S : zS} {I : zI} {J : zJ} {Q : zQ} {h0 : Nat} {h1 : Nat} {h2 : Nat} {v3 : Value} {v4 : Value} {v5 : Value} (g1 : z_kd S h1 = 1) (g2 : z_kd S h2 = 1) (kt : (I h1 1) = (I h2 1) → Go d i_X7_fits 24 [.ref h0, .ref h1, .ref h2, v3, v4, v5] [] S I J Q) (kf : ¬ (I h1 1) = (I h2 1) → Go d i_X7_fits 22 [.ref h0, .ref h1, .ref h2, v3, v4, v5] [] S I J Q) : Go d i_X7_fits 11 [.ref h0, .ref h1, .ref h2, v3, v4, v5] [] S I J Q := by
  have h := (And.intro g1 (And.intro g2 (Go.ite kt kf)))
  exact Go.n tb_X7_fits 5 h
theorem b_X7_fits_22 {d : Nat} {S : zS} {I : zI} {J : zJ} {Q : zQ} {h0 : Nat} {h1 : Nat} {h2 : Nat} {v3 : Value} {v4 : Value} {v5 : Value} (g1 : z_fit 3 (0 : Int32)) (kk : Q (some (.int (0 : Int32))) S I J) : Go d i_X7_fits 22 [.ref h0, .ref h1, .ref h2, v3, v4, v5] [] S I J Q := by
  have h := (And.intro g1 kk)
  exact Go.n tb_X7_fits 2 h
theorem b_X7_fits_24 {d : Nat} {S : zS} {I : zI} {J : zJ} {Q : zQ} {h0 : Nat} {h1 : Nat} {h2 : Nat} {v3 : Value} {v4 : Value} {v5 : Value} (kk : Go d i_X7_fits 26 [.ref h0, .ref h1, .ref h2, .int (0 : Int32), v4, v5] [] S I J Q) : Go d i_X7_fits 24 [.ref h0, .ref h1, .ref h2, v3, v4, v5] [] S I J Q := by
  have h := kk
  exact Go.n tb_X7_fits 2 h
theorem b_X7_fits_26 {d : Nat} {S : zS} {I : zI} {J : zJ} {Q : zQ} {h0 : Nat} {h1 : Nat} {h2 : Nat} {x3 : Int32} {v4 : Value} {v5 : Value} (g1 : z_kd S h1 = 1) (kt : (I h1 1) ≤ x3 → Go d i_X7_fits 96 [.ref h0, .ref h1, .ref h2, .int x3, v4, v5] [] S I J Q) (kf : ¬ (I h1 1) ≤ x3 → Go d i_X7_fits 34 [.ref h0, .ref h1, .ref h2, .int x3, v4, v5] [] S I J Q) : Go d i_X7_fits 26 [.ref h0, .ref h1, .ref h2, .int x3, v4, v5] [] S I J Q := by
  have h := (And.intro g1 (Go.ite kt kf))
  exact Go.n tb_X7_fits 4 h
theorem b_X7_fits_34 {d : Nat} {S : zS} {I : zI} {J : zJ} {Q : zQ} {h0 : Nat} {h1 : Nat} {h2 : Nat} {x3 : Int32} {v4 : Value} {v5 : Value} (g1 : z_kd S h1 = 1) (g2 : z_kd S h1 = 1) (g3 : z_isI (z_kd S (z_rv S h1 4)) = true ∧ vp_in x3 (z_ln S (z_rv S h1 4))) (g4 : z_isI (z_kd S (z_rv S h1 2)) = true ∧ vp_in (I (z_rv S h1 4) (Int32.toNatClampNeg x3)) (z_ln S (z_rv S h1 2))) (g5 : z_kd S h2 = 1) (kk : z_wp d i_X0_classOfHue [.ref h2, .int (I (z_rv S h1 2) (Int32.toNatClampNeg (I (z_rv S h1 4) (Int32.toNatClampNeg x3))))] S I J (fun vv SS II JJ => Go d i_X7_fits 53 [.ref h0, .ref h1, .ref h2, .int x3, .int (I (z_rv S h1 2) (Int32.toNatClampNeg (I (z_rv S h1 4) (Int32.toNatClampNeg x3)))), v5] (vv.toList ++ []) SS II JJ Q)) : Go d i_X7_fits 34 [.ref h0, .ref h1, .ref h2, .int x3, v4, v5] [] S I J Q := by
  have h := (And.intro g1 (And.intro g2 (And.intro g3 (And.intro g4 (And.intro g5 kk)))))
  exact Go.n tb_X7_fits 11 h
theorem b_X7_fits_53 {d : Nat} {S : zS} {I : zI} {J : zJ} {Q : zQ} {h0 : Nat} {h1 : Nat} {h2 : Nat} {x3 : Int32} {x4 : Int32} {v5 : Value} {y0 : Int32} (g1 : z_kd S h2 = 1) (kt : (I h2 1) ≤ y0 → Go d i_X7_fits 80 [.ref h0, .ref h1, .ref h2, .int x3, .int x4, .int y0] [] S I J Q) (kf : ¬ (I h2 1) ≤ y0 → Go d i_X7_fits 64 [.ref h0, .ref h1, .ref h2, .int x3, .int x4, .int y0] [] S I J Q) : Go d i_X7_fits 53 [.ref h0, .ref h1, .ref h2, .int x3, .int x4, v5] [.int y0] S I J Q := by
  have h := (And.intro g1 (Go.ite kt kf))
  exact Go.n tb_X7_fits 5 h
theorem b_X7_fits_64 {d : Nat} {S : zS} {I : zI} {J : zJ} {Q : zQ} {h0 : Nat} {h1 : Nat} {h2 : Nat} {x3 : Int32} {x4 : Int32} {x5 : Int32} (g1 : z_kd S h2 = 1) (g2 : z_isI (z_kd S (z_rv S h2 5)) = true ∧ vp_in x5 (z_ln S (z_rv S h2 5))) (g3 : z_kd S h1 = 1) (g4 : z_isI (z_kd S (z_rv S h1 5)) = true ∧ vp_in x3 (z_ln S (z_rv S h1 5))) (kt : (I (z_rv S h2 5) (Int32.toNatClampNeg x5)) = (I (z_rv S h1 5) (Int32.toNatClampNeg x3)) → Go d i_X7_fits 82 [.ref h0, .ref h1, .ref h2, .int x3, .int x4, .int x5] [] S I J Q) (kf : ¬ (I (z_rv S h2 5) (Int32.toNatClampNeg x5)) = (I (z_rv S h1 5) (Int32.toNatClampNeg x3)) → Go d i_X7_fits 80 [.ref h0, .ref h1, .ref h2, .int x3, .int x4, .int x5] [] S I J Q) : Go d i_X7_fits 64 [.ref h0, .ref h1, .ref h2, .int x3, .int x4, .int x5] [] S I J Q := by
  have h := (And.intro g1 (And.intro g2 (And.intro g3 (And.intro g4 (Go.ite kt kf)))))
  exact Go.n tb_X7_fits 9 h
theorem b_X7_fits_80 {d : Nat} {S : zS} {I : zI} {J : zJ} {Q : zQ} {h0 : Nat} {h1 : Nat} {h2 : Nat} {x3 : Int32} {x4 : Int32} {x5 : Int32} (g1 : z_fit 3 (0 : Int32)) (kk : Q (some (.int (0 : Int32))) S I J) : Go d i_X7_fits 80 [.ref h0, .ref h1, .ref h2, .int x3, .int x4, .int x5] [] S I J Q := by
  have h := (And.intro g1 kk)
  exact Go.n tb_X7_fits 2 h
theorem b_X7_fits_82 {d : Nat} {S : zS} {I : zI} {J : zJ} {Q : zQ} {h0 : Nat} {h1 : Nat} {h2 : Nat} {x3 : Int32} {x4 : Int32} {x5 : Int32} (g1 : z_kd S h0 = 8) (g2 : z_kd S (z_rv S h0 4) = 100 ∧ vp_in x3 (z_ln S (z_rv S h0 4))) (kk : Go d i_X7_fits 26 [.ref h0, .ref h1, .ref h2, .int (x3 + (1 : Int32)), .int x4, .int x5] [] S (z_u2 I (z_rv S h0 4) (Int32.toNatClampNeg x3) x5) J Q) : Go d i_X7_fits 82 [.ref h0, .ref h1, .ref h2, .int x3, .int x4, .int x5] [] S I J Q := by
  have h := (And.intro g1 (And.intro g2 kk))
  exact Go.n tb_X7_fits 7 h
theorem b_X7_fits_96 {d : Nat} {S : zS} {I : zI} {J : zJ} {Q : zQ} {h0 : Nat} {h1 : Nat} {h2 : Nat} {x3 : Int32} {v4 : Value} {v5 : Value} (g1 : z_fit 3 (1 : Int32)) (kk : Q (some (.int (1 : Int32))) S I J) : Go d i_X7_fits 96 [.ref h0, .ref h1, .ref h2, .int x3, v4, v5] [] S I J Q := by
  have h := (And.intro g1 kk)
  exact Go.n tb_X7_fits 2 h
theorem w_X7_lead {d : Nat} {S : zS} {I : zI} {J : zJ} {Q : zQ} {h0 : Nat} {x1 : Int32} {x2 : Int32} {x3 : Int32} (h : Go d i_X7_lead 0 [.ref h0, .int x1, .int x2, .int x3, .retAddr 0, .retAddr 0, .retAddr 0, .retAddr 0] [] S I J Q) : z_wp (d + 1) i_X7_lead [.ref h0, .int x1, .int x2, .int x3] S I J Q := Go.wp (Nat.le_of_ble_eq_true rfl) h
theorem e_X7_lead {d : Nat} {S S2 : zS} {I I2 : zI} {J J2 : zJ} {r : Option Value} {h0 : Nat} {x1 : Int32} {x2 : Int32} {x3 : Int32} (h : Go d i_X7_lead 0 [.ref h0, .int x1, .int x2, .int x3, .retAddr 0, .retAddr 0, .retAddr 0, .retAddr 0] [] S I J (z_eq r S2 I2 J2)) : z_ev (d + 1) i_X7_lead [.ref h0, .int x1, .int x2, .int x3] S I J r S2 I2 J2 := Go.ev (Nat.le_of_ble_eq_true rfl) h
theorem b_X7_lead_0 {d : Nat} {S : zS} {I : zI} {J : zJ} {Q : zQ} {h0 : Nat} {x1 : Int32} {x2 : Int32} {x3 : Int32} {v4 : Value} {v5 : Value} {v6 : Value} {v7 : Value} (g1 : z_kd S h0 = 8) (g2 : z_kd S (z_rv S h0 6) = 100 ∧ vp_in x2 (z_ln S (z_rv S h0 6))) (kk : Go d i_X7_lead 23 [.ref h0, .int x1, .int x2, .int x3, .int (x1 * (20 : Int32)), .int ((x1 * (20 : Int32)) + (20 : Int32)), .int (0 : Int32), v7] [] S (z_u2 I (z_rv S h0 6) (Int32.toNatClampNeg x2) x3) J Q) : Go d i_X7_lead 0 [.ref h0, .int x1, .int x2, .int x3, v4, v5, v6, v7] [] S I J Q := by
  have h := (And.intro g1 (And.intro g2 kk))
  exact Go.n tb_X7_lead 15 h
theorem b_X7_lead_23 {d : Nat} {S : zS} {I : zI} {J : zJ} {Q : zQ} {h0 : Nat} {x1 : Int32} {x2 : Int32} {x3 : Int32} {x4 : Int32} {x5 : Int32} {x6 : Int32} {v7 : Value} (g1 : z_kd S h0 = 8) (kt : (I h0 2) ≤ x6 → Go d i_X7_lead 103 [.ref h0, .int x1, .int x2, .int x3, .int x4, .int x5, .int x6, v7] [] S I J Q) (kf : ¬ (I h0 2) ≤ x6 → Go d i_X7_lead 32 [.ref h0, .int x1, .int x2, .int x3, .int x4, .int x5, .int x6, v7] [] S I J Q) : Go d i_X7_lead 23 [.ref h0, .int x1, .int x2, .int x3, .int x4, .int x5, .int x6, v7] [] S I J Q := by
  have h := (And.intro g1 (Go.ite kt kf))
  exact Go.n tb_X7_lead 4 h
theorem b_X7_lead_32 {d : Nat} {S : zS} {I : zI} {J : zJ} {Q : zQ} {h0 : Nat} {x1 : Int32} {x2 : Int32} {x3 : Int32} {x4 : Int32} {x5 : Int32} {x6 : Int32} {v7 : Value} {z1 : Int32} (g1 : z_kd S h0 = 8) (g2 : z_isI (z_kd S (z_rv S h0 5)) = true ∧ vp_in (x4 + x6) (z_ln S (z_rv S h0 5))) (g3 : z_kd S h0 = 8) (g4 : z_kd S (z_rv S h0 1) = 1) (g5 : z_kd S h0 = 8) (g6 : z_kd S h0 = 8) (g7 : z_kd S (z_rv S h0 0) = 1) (g8 : z_isI (z_kd S (z_rv S (z_rv S h0 0) 6)) = true ∧ vp_in ((x2 * (20 : Int32)) + x6) (z_ln S (z_rv S (z_rv S h0 0) 6))) (g9 : z_isI (z_kd S (z_rv S h0 4)) = true ∧ vp_in (I (z_rv S (z_rv S h0 0) 6) (Int32.toNatClampNeg ((x2 * (20 : Int32)) + x6))) (z_ln S (z_rv S h0 4))) (g10 : z_isI (z_kd S (z_rv S (z_rv S h0 1) 7)) = true ∧ vp_in (((I (z_rv S h0 4) (Int32.toNatClampNeg (I (z_rv S (z_rv S h0 0) 6) (Int32.toNatClampNeg ((x2 * (20 : Int32)) + x6))))) * (20 : Int32)) + x3) (z_ln S (z_rv S (z_rv S h0 1) 7))) (ez1 : z1 = (I (z_rv S (z_rv S h0 1) 7) (Int32.toNatClampNeg (((I (z_rv S h0 4) (Int32.toNatClampNeg (I (z_rv S (z_rv S h0 0) 6) (Int32.toNatClampNeg ((x2 * (20 : Int32)) + x6))))) * (20 : Int32)) + x3)))) (kt : ¬ ((I (z_rv S h0 5) (Int32.toNatClampNeg (x4 + x6))) &&& z1) = (0 : Int32) → Go d i_X7_lead 85 [.ref h0, .int x1, .int x2, .int x3, .int x4, .int x5, .int x6, .int ((I (z_rv S h0 5) (Int32.toNatClampNeg (x4 + x6))) &&& z1)] [] S I J Q) (kf : ((I (z_rv S h0 5) (Int32.toNatClampNeg (x4 + x6))) &&& z1) = (0 : Int32) → Go d i_X7_lead 83 [.ref h0, .int x1, .int x2, .int x3, .int x4, .int x5, .int x6, .int ((I (z_rv S h0 5) (Int32.toNatClampNeg (x4 + x6))) &&& z1)] [] S I J Q) : Go d i_X7_lead 32 [.ref h0, .int x1, .int x2, .int x3, .int x4, .int x5, .int x6, v7] [] S I J Q := by
  subst ez1
  have h := (And.intro g1 (And.intro g2 (And.intro g3 (And.intro g4 (And.intro g5 (And.intro g6 (And.intro g7 (And.intro g8 (And.intro g9 (And.intro g10 (Go.eti kt kf)))))))))))
  exact Go.n tb_X7_lead 30 h
theorem b_X7_lead_83 {d : Nat} {S : zS} {I : zI} {J : zJ} {Q : zQ} {h0 : Nat} {x1 : Int32} {x2 : Int32} {x3 : Int32} {x4 : Int32} {x5 : Int32} {x6 : Int32} {x7 : Int32} (g1 : z_fit 3 (0 : Int32)) (kk : Q (some (.int (0 : Int32))) S I J) : Go d i_X7_lead 83 [.ref h0, .int x1, .int x2, .int x3, .int x4, .int x5, .int x6, .int x7] [] S I J Q := by
  have h := (And.intro g1 kk)
  exact Go.n tb_X7_lead 2 h
theorem b_X7_lead_85 {d : Nat} {S : zS} {I : zI} {J : zJ} {Q : zQ} {h0 : Nat} {x1 : Int32} {x2 : Int32} {x3 : Int32} {x4 : Int32} {x5 : Int32} {x6 : Int32} {x7 : Int32} (g1 : z_kd S h0 = 8) (g2 : z_kd S (z_rv S h0 5) = 100 ∧ vp_in (x5 + x6) (z_ln S (z_rv S h0 5))) (kk : Go d i_X7_lead 23 [.ref h0, .int x1, .int x2, .int x3, .int x4, .int x5, .int (x6 + (1 : Int32)), .int x7] [] S (z_u2 I (z_rv S h0 5) (Int32.toNatClampNeg (x5 + x6)) x7) J Q) : Go d i_X7_lead 85 [.ref h0, .int x1, .int x2, .int x3, .int x4, .int x5, .int x6, .int x7] [] S I J Q := by
  have h := (And.intro g1 (And.intro g2 kk))
  exact Go.n tb_X7_lead 9 h
theorem b_X7_lead_103 {d : Nat} {S : zS} {I : zI} {J : zJ} {Q : zQ} {h0 : Nat} {x1 : Int32} {x2 : Int32} {x3 : Int32} {x4 : Int32} {x5 : Int32} {x6 : Int32} {v7 : Value} (g1 : z_fit 3 (1 : Int32)) (kk : Q (some (.int (1 : Int32))) S I J) : Go d i_X7_lead 103 [.ref h0, .int x1, .int x2, .int x3, .int x4, .int x5, .int x6, v7] [] S I J Q := by
  have h := (And.intro g1 kk)
  exact Go.n tb_X7_lead 2 h
theorem w_X7_complete {d : Nat} {S : zS} {I : zI} {J : zJ} {Q : zQ} {h0 : Nat} {x1 : Int32} {x2 : Int32} (h : Go d i_X7_complete 0 [.ref h0, .int x1, .int x2, .retAddr 0, .retAddr 0, .retAddr 0] [] S I J Q) : z_wp (d + 1) i_X7_complete [.ref h0, .int x1, .int x2] S I J Q := Go.wp (Nat.le_of_ble_eq_true rfl) h
theorem e_X7_complete {d : Nat} {S S2 : zS} {I I2 : zI} {J J2 : zJ} {r : Option Value} {h0 : Nat} {x1 : Int32} {x2 : Int32} (h : Go d i_X7_complete 0 [.ref h0, .int x1, .int x2, .retAddr 0, .retAddr 0, .retAddr 0] [] S I J (z_eq r S2 I2 J2)) : z_ev (d + 1) i_X7_complete [.ref h0, .int x1, .int x2] S I J r S2 I2 J2 := Go.ev (Nat.le_of_ble_eq_true rfl) h
theorem b_X7_complete_0 {d : Nat} {S : zS} {I : zI} {J : zJ} {Q : zQ} {h0 : Nat} {x1 : Int32} {x2 : Int32} {v3 : Value} {v4 : Value} {v5 : Value} (g1 : z_kd S h0 = 8) (kt : ¬ x2 = (I h0 3) → Go d i_X7_complete 10 [.ref h0, .int x1, .int x2, v3, v4, v5] [] S I J Q) (kf : x2 = (I h0 3) → Go d i_X7_complete 8 [.ref h0, .int x1, .int x2, v3, v4, v5] [] S I J Q) : Go d i_X7_complete 0 [.ref h0, .int x1, .int x2, v3, v4, v5] [] S I J Q := by
  have h := (And.intro g1 (Go.eti kt kf))
  exact Go.n tb_X7_complete 4 h
theorem b_X7_complete_8 {d : Nat} {S : zS} {I : zI} {J : zJ} {Q : zQ} {h0 : Nat} {x1 : Int32} {x2 : Int32} {v3 : Value} {v4 : Value} {v5 : Value} (g1 : z_fit 3 (1 : Int32)) (kk : Q (some (.int (1 : Int32))) S I J) : Go d i_X7_complete 8 [.ref h0, .int x1, .int x2, v3, v4, v5] [] S I J Q := by
  have h := (And.intro g1 kk)
  exact Go.n tb_X7_complete 2 h
theorem b_X7_complete_10 {d : Nat} {S : zS} {I : zI} {J : zJ} {Q : zQ} {h0 : Nat} {x1 : Int32} {x2 : Int32} {v3 : Value} {v4 : Value} {v5 : Value} (kt : x1 < (20 : Int32) → Go d i_X7_complete 18 [.ref h0, .int x1, .int x2, v3, v4, v5] [] S I J Q) (kf : ¬ x1 < (20 : Int32) → Go d i_X7_complete 16 [.ref h0, .int x1, .int x2, v3, v4, v5] [] S I J Q) : Go d i_X7_complete 10 [.ref h0, .int x1, .int x2, v3, v4, v5] [] S I J Q := by
  have h := (Go.ite kt kf)
  exact Go.n tb_X7_complete 3 h
theorem b_X7_complete_16 {d : Nat} {S : zS} {I : zI} {J : zJ} {Q : zQ} {h0 : Nat} {x1 : Int32} {x2 : Int32} {v3 : Value} {v4 : Value} {v5 : Value} (g1 : z_fit 3 (0 : Int32)) (kk : Q (some (.int (0 : Int32))) S I J) : Go d i_X7_complete 16 [.ref h0, .int x1, .int x2, v3, v4, v5] [] S I J Q := by
  have h := (And.intro g1 kk)
  exact Go.n tb_X7_complete 2 h
theorem b_X7_complete_18 {d : Nat} {S : zS} {I : zI} {J : zJ} {Q : zQ} {h0 : Nat} {x1 : Int32} {x2 : Int32} {v3 : Value} {v4 : Value} {v5 : Value} (g1 : z_kd S h0 = 8) (kk : z_wp d i_X7_pick [.ref h0, .int x1, .int x2] S I J (fun vv SS II JJ => Go d i_X7_complete 24 [.ref h0, .int x1, .int x2, v3, v4, v5] (vv.toList ++ []) SS II JJ Q)) : Go d i_X7_complete 18 [.ref h0, .int x1, .int x2, v3, v4, v5] [] S I J Q := by
  have h := (And.intro g1 kk)
  exact Go.n tb_X7_complete 4 h
theorem b_X7_complete_24 {d : Nat} {S : zS} {I : zI} {J : zJ} {Q : zQ} {h0 : Nat} {x1 : Int32} {x2 : Int32} {v3 : Value} {v4 : Value} {v5 : Value} {y0 : Int32} (g1 : z_kd S h0 = 8) (g2 : z_isI (z_kd S (z_rv S h0 5)) = true ∧ vp_in ((x1 * (20 : Int32)) + y0) (z_ln S (z_rv S h0 5))) (kk : Go d i_X7_complete 41 [.ref h0, .int x1, .int x2, .int y0, .int (I (z_rv S h0 5) (Int32.toNatClampNeg ((x1 * (20 : Int32)) + y0))), .int (0 : Int32)] [] S I J Q) : Go d i_X7_complete 24 [.ref h0, .int x1, .int x2, v3, v4, v5] [.int y0] S I J Q := by
  have h := (And.intro g1 (And.intro g2 kk))
  exact Go.n tb_X7_complete 12 h
theorem b_X7_complete_41 {d : Nat} {S : zS} {I : zI} {J : zJ} {Q : zQ} {h0 : Nat} {x1 : Int32} {x2 : Int32} {x3 : Int32} {x4 : Int32} {x5 : Int32} (g1 : z_kd S h0 = 8) (kt : (I h0 2) ≤ x5 → Go d i_X7_complete 94 [.ref h0, .int x1, .int x2, .int x3, .int x4, .int x5] [] S I J Q) (kf : ¬ (I h0 2) ≤ x5 → Go d i_X7_complete 50 [.ref h0, .int x1, .int x2, .int x3, .int x4, .int x5] [] S I J Q) : Go d i_X7_complete 41 [.ref h0, .int x1, .int x2, .int x3, .int x4, .int x5] [] S I J Q := by
  have h := (And.intro g1 (Go.ite kt kf))
  exact Go.n tb_X7_complete 4 h
theorem b_X7_complete_50 {d : Nat} {S : zS} {I : zI} {J : zJ} {Q : zQ} {h0 : Nat} {x1 : Int32} {x2 : Int32} {x3 : Int32} {x4 : Int32} {x5 : Int32} (kt : ((x4 >>> (x5 &&& 31)) &&& (1 : Int32)) = (0 : Int32) → Go d i_X7_complete 88 [.ref h0, .int x1, .int x2, .int x3, .int x4, .int x5] [] S I J Q) (kf : ¬ ((x4 >>> (x5 &&& 31)) &&& (1 : Int32)) = (0 : Int32) → Go d i_X7_complete 60 [.ref h0, .int x1, .int x2, .int x3, .int x4, .int x5] [] S I J Q) : Go d i_X7_complete 50 [.ref h0, .int x1, .int x2, .int x3, .int x4, .int x5] [] S I J Q := by
  have h := (Go.ite kt kf)
  exact Go.n tb_X7_complete 6 h
theorem b_X7_complete_60 {d : Nat} {S : zS} {I : zI} {J : zJ} {Q : zQ} {h0 : Nat} {x1 : Int32} {x2 : Int32} {x3 : Int32} {x4 : Int32} {x5 : Int32} (g1 : z_kd S h0 = 8) (kk : z_wp d i_X7_lead [.ref h0, .int x1, .int x3, .int x5] S I J (fun vv SS II JJ => Go d i_X7_complete 68 [.ref h0, .int x1, .int x2, .int x3, .int x4, .int x5] (vv.toList ++ []) SS II JJ Q)) : Go d i_X7_complete 60 [.ref h0, .int x1, .int x2, .int x3, .int x4, .int x5] [] S I J Q := by
  have h := (And.intro g1 kk)
  exact Go.n tb_X7_complete 5 h
theorem b_X7_complete_68 {d : Nat} {S : zS} {I : zI} {J : zJ} {Q : zQ} {h0 : Nat} {x1 : Int32} {x2 : Int32} {x3 : Int32} {x4 : Int32} {x5 : Int32} {y0 : Int32} (kt : y0 = (0 : Int32) → Go d i_X7_complete 88 [.ref h0, .int x1, .int x2, .int x3, .int x4, .int x5] [] S I J Q) (kf : ¬ y0 = (0 : Int32) → Go d i_X7_complete 71 [.ref h0, .int x1, .int x2, .int x3, .int x4, .int x5] [] S I J Q) : Go d i_X7_complete 68 [.ref h0, .int x1, .int x2, .int x3, .int x4, .int x5] [.int y0] S I J Q := by
  have h := (Go.ite kt kf)
  exact Go.n tb_X7_complete 1 h
theorem b_X7_complete_71 {d : Nat} {S : zS} {I : zI} {J : zJ} {Q : zQ} {h0 : Nat} {x1 : Int32} {x2 : Int32} {x3 : Int32} {x4 : Int32} {x5 : Int32} (g1 : z_kd S h0 = 8) (kk : z_wp d i_X7_complete [.ref h0, .int (x1 + (1 : Int32)), .int (x2 ||| ((1 : Int32) <<< (x3 &&& 31)))] S I J (fun vv SS II JJ => Go d i_X7_complete 83 [.ref h0, .int x1, .int x2, .int x3, .int x4, .int x5] (vv.toList ++ []) SS II JJ Q)) : Go d i_X7_complete 71 [.ref h0, .int x1, .int x2, .int x3, .int x4, .int x5] [] S I J Q := by
  have h := (And.intro g1 kk)
  exact Go.n tb_X7_complete 10 h
theorem b_X7_complete_83 {d : Nat} {S : zS} {I : zI} {J : zJ} {Q : zQ} {h0 : Nat} {x1 : Int32} {x2 : Int32} {x3 : Int32} {x4 : Int32} {x5 : Int32} {y0 : Int32} (kt : y0 = (0 : Int32) → Go d i_X7_complete 88 [.ref h0, .int x1, .int x2, .int x3, .int x4, .int x5] [] S I J Q) (kf : ¬ y0 = (0 : Int32) → Go d i_X7_complete 86 [.ref h0, .int x1, .int x2, .int x3, .int x4, .int x5] [] S I J Q) : Go d i_X7_complete 83 [.ref h0, .int x1, .int x2, .int x3, .int x4, .int x5] [.int y0] S I J Q := by
  have h := (Go.ite kt kf)
  exact Go.n tb_X7_complete 1 h
theorem b_X7_complete_86 {d : Nat} {S : zS} {I : zI} {J : zJ} {Q : zQ} {h0 : Nat} {x1 : Int32} {x2 : Int32} {x3 : Int32} {x4 : Int32} {x5 : Int32} (g1 : z_fit 3 (1 : Int32)) (kk : Q (some (.int (1 : Int32))) S I J) : Go d i_X7_complete 86 [.ref h0, .int x1, .int x2, .int x3, .int x4, .int x5] [] S I J Q := by
  have h := (And.intro g1 kk)
  exact Go.n tb_X7_complete 2 h
theorem b_X7_complete_88 {d : Nat} {S : zS} {I : zI} {J : zJ} {Q : zQ} {h0 : Nat} {x1 : Int32} {x2 : Int32} {x3 : Int32} {x4 : Int32} {x5 : Int32} (kk : Go d i_X7_complete 41 [.ref h0, .int x1, .int x2, .int x3, .int x4, .int (x5 + (1 : Int32))] [] S I J Q) : Go d i_X7_complete 88 [.ref h0, .int x1, .int x2, .int x3, .int x4, .int x5] [] S I J Q := by
  have h := kk
  exact Go.n tb_X7_complete 2 h
theorem b_X7_complete_94 {d : Nat} {S : zS} {I : zI} {J : zJ} {Q : zQ} {h0 : Nat} {x1 : Int32} {x2 : Int32} {x3 : Int32} {x4 : Int32} {x5 : Int32} (g1 : z_fit 3 (0 : Int32)) (kk : Q (some (.int (0 : Int32))) S I J) : Go d i_X7_complete 94 [.ref h0, .int x1, .int x2, .int x3, .int x4, .int x5] [] S I J Q := by
  have h := (And.intro g1 kk)
  exact Go.n tb_X7_complete 2 h
theorem w_X7_pick {d : Nat} {S : zS} {I : zI} {J : zJ} {Q : zQ} {h0 : Nat} {x1 : Int32} {x2 : Int32} (h : Go d i_X7_pick 0 [.ref h0, .int x1, .int x2, .retAddr 0, .retAddr 0, .retAddr 0, .retAddr 0] [] S I J Q) : z_wp (d + 1) i_X7_pick [.ref h0, .int x1, .int x2] S I J Q := Go.wp (Nat.le_of_ble_eq_true rfl) h
theorem e_X7_pick {d : Nat} {S S2 : zS} {I I2 : zI} {J J2 : zJ} {r : Option Value} {h0 : Nat} {x1 : Int32} {x2 : Int32} (h : Go d i_X7_pick 0 [.ref h0, .int x1, .int x2, .retAddr 0, .retAddr 0, .retAddr 0, .retAddr 0] [] S I J (z_eq r S2 I2 J2)) : z_ev (d + 1) i_X7_pick [.ref h0, .int x1, .int x2] S I J r S2 I2 J2 := Go.ev (Nat.le_of_ble_eq_true rfl) h
theorem b_X7_pick_0 {d : Nat} {S : zS} {I : zI} {J : zJ} {Q : zQ} {h0 : Nat} {x1 : Int32} {x2 : Int32} {v3 : Value} {v4 : Value} {v5 : Value} {v6 : Value} (kk : Go d i_X7_pick 9 [.ref h0, .int x1, .int x2, .int (0 : Int32), .int (21 : Int32), .int (0 : Int32), v6] [] S I J Q) : Go d i_X7_pick 0 [.ref h0, .int x1, .int x2, v3, v4, v5, v6] [] S I J Q := by
  have h := kk
  exact Go.n tb_X7_pick 6 h
theorem b_X7_pick_9 {d : Nat} {S : zS} {I : zI} {J : zJ} {Q : zQ} {h0 : Nat} {x1 : Int32} {x2 : Int32} {x3 : Int32} {x4 : Int32} {x5 : Int32} {v6 : Value} (g1 : z_kd S h0 = 8) (kt : (I h0 2) ≤ x5 → Go d i_X7_pick 76 [.ref h0, .int x1, .int x2, .int x3, .int x4, .int x5, v6] [] S I J Q) (kf : ¬ (I h0 2) ≤ x5 → Go d i_X7_pick 18 [.ref h0, .int x1, .int x2, .int x3, .int x4, .int x5, v6] [] S I J Q) : Go d i_X7_pick 9 [.ref h0, .int x1, .int x2, .int x3, .int x4, .int x5, v6] [] S I J Q := by
  have h := (And.intro g1 (Go.ite kt kf))
  exact Go.n tb_X7_pick 4 h
theorem b_X7_pick_18 {d : Nat} {S : zS} {I : zI} {J : zJ} {Q : zQ} {h0 : Nat} {x1 : Int32} {x2 : Int32} {x3 : Int32} {x4 : Int32} {x5 : Int32} {v6 : Value} (kt : ¬ ((x2 >>> (x5 &&& 31)) &&& (1 : Int32)) = (0 : Int32) → Go d i_X7_pick 70 [.ref h0, .int x1, .int x2, .int x3, .int x4, .int x5, v6] [] S I J Q) (kf : ((x2 >>> (x5 &&& 31)) &&& (1 : Int32)) = (0 : Int32) → Go d i_X7_pick 27 [.ref h0, .int x1, .int x2, .int x3, .int x4, .int x5, v6] [] S I J Q) : Go d i_X7_pick 18 [.ref h0, .int x1, .int x2, .int x3, .int x4, .int x5, v6] [] S I J Q := by
  have h := (Go.eti kt kf)
  exact Go.n tb_X7_pick 6 h
theorem b_X7_pick_27 {d : Nat} {S : zS} {I : zI} {J : zJ} {Q : zQ} {h0 : Nat} {x1 : Int32} {x2 : Int32} {x3 : Int32} {x4 : Int32} {x5 : Int32} {v6 : Value} (g1 : z_kd S h0 = 8) (kt : (I h0 7) = (0 : Int32) → Go d i_X7_pick 39 [.ref h0, .int x1, .int x2, .int x3, .int x4, .int x5, v6] [] S I J Q) (kf : ¬ (I h0 7) = (0 : Int32) → Go d i_X7_pick 34 [.ref h0, .int x1, .int x2, .int x3, .int x4, .int x5, v6] [] S I J Q) : Go d i_X7_pick 27 [.ref h0, .int x1, .int x2, .int x3, .int x4, .int x5, v6] [] S I J Q := by
  have h := (And.intro g1 (Go.ite kt kf))
  exact Go.n tb_X7_pick 3 h
theorem b_X7_pick_34 {d : Nat} {S : zS} {I : zI} {J : zJ} {Q : zQ} {h0 : Nat} {x1 : Int32} {x2 : Int32} {x3 : Int32} {x4 : Int32} {x5 : Int32} {v6 : Value} (kt : x4 ≤ x5 → Go d i_X7_pick 70 [.ref h0, .int x1, .int x2, .int x3, .int x4, .int x5, .int x5] [] S I J Q) (kf : ¬ x4 ≤ x5 → Go d i_X7_pick 63 [.ref h0, .int x1, .int x2, .int x3, .int x4, .int x5, .int x5] [] S I J Q) : Go d i_X7_pick 34 [.ref h0, .int x1, .int x2, .int x3, .int x4, .int x5, v6] [] S I J Q := by
  have h := (Go.ite kt kf)
  exact Go.n tb_X7_pick 6 h
theorem b_X7_pick_39 {d : Nat} {S : zS} {I : zI} {J : zJ} {Q : zQ} {h0 : Nat} {x1 : Int32} {x2 : Int32} {x3 : Int32} {x4 : Int32} {x5 : Int32} {v6 : Value} (g1 : z_kd S h0 = 8) (g2 : z_isI (z_kd S (z_rv S h0 5)) = true ∧ vp_in ((x1 * (20 : Int32)) + x5) (z_ln S (z_rv S h0 5))) (kk : z_wp d i_J6_bitCount_0f7a4 [.int (I (z_rv S h0 5) (Int32.toNatClampNeg ((x1 * (20 : Int32)) + x5)))] S I J (fun vv SS II JJ => Go d i_X7_pick 54 [.ref h0, .int x1, .int x2, .int x3, .int x4, .int x5, v6] (vv.toList ++ []) SS II JJ Q)) : Go d i_X7_pick 39 [.ref h0, .int x1, .int x2, .int x3, .int x4, .int x5, v6] [] S I J Q := by
  have h := (And.intro g1 (And.intro g2 (And.intro trivial kk)))
  exact Go.n tb_X7_pick 9 h
theorem b_X7_pick_54 {d : Nat} {S : zS} {I : zI} {J : zJ} {Q : zQ} {h0 : Nat} {x1 : Int32} {x2 : Int32} {x3 : Int32} {x4 : Int32} {x5 : Int32} {v6 : Value} {y0 : Int32} (kt : x4 ≤ y0 → Go d i_X7_pick 70 [.ref h0, .int x1, .int x2, .int x3, .int x4, .int x5, .int y0] [] S I J Q) (kf : ¬ x4 ≤ y0 → Go d i_X7_pick 63 [.ref h0, .int x1, .int x2, .int x3, .int x4, .int x5, .int y0] [] S I J Q) : Go d i_X7_pick 54 [.ref h0, .int x1, .int x2, .int x3, .int x4, .int x5, v6] [.int y0] S I J Q := by
  have h := (Go.ite kt kf)
  exact Go.n tb_X7_pick 4 h
theorem b_X7_pick_63 {d : Nat} {S : zS} {I : zI} {J : zJ} {Q : zQ} {h0 : Nat} {x1 : Int32} {x2 : Int32} {x3 : Int32} {x4 : Int32} {x5 : Int32} {x6 : Int32} (kk : Go d i_X7_pick 9 [.ref h0, .int x1, .int x2, .int x5, .int x6, .int (x5 + (1 : Int32)), .int x6] [] S I J Q) : Go d i_X7_pick 63 [.ref h0, .int x1, .int x2, .int x3, .int x4, .int x5, .int x6] [] S I J Q := by
  have h := kk
  exact Go.n tb_X7_pick 6 h
theorem b_X7_pick_70 {d : Nat} {S : zS} {I : zI} {J : zJ} {Q : zQ} {h0 : Nat} {x1 : Int32} {x2 : Int32} {x3 : Int32} {x4 : Int32} {x5 : Int32} {v6 : Value} (kk : Go d i_X7_pick 9 [.ref h0, .int x1, .int x2, .int x3, .int x4, .int (x5 + (1 : Int32)), v6] [] S I J Q) : Go d i_X7_pick 70 [.ref h0, .int x1, .int x2, .int x3, .int x4, .int x5, v6] [] S I J Q := by
  have h := kk
  exact Go.n tb_X7_pick 2 h
theorem b_X7_pick_76 {d : Nat} {S : zS} {I : zI} {J : zJ} {Q : zQ} {h0 : Nat} {x1 : Int32} {x2 : Int32} {x3 : Int32} {x4 : Int32} {x5 : Int32} {v6 : Value} (kk : Q (some (.int x3)) S I J) : Go d i_X7_pick 76 [.ref h0, .int x1, .int x2, .int x3, .int x4, .int x5, v6] [] S I J Q := by
  have h := (And.intro trivial kk)
  exact Go.n tb_X7_pick 2 h
theorem w_X7_isMatch {d : Nat} {S : zS} {I : zI} {J : zJ} {Q : zQ} {h0 : Nat} {h1 : Nat} {h2 : Nat} (h : Go d i_X7_isMatch 0 [.ref h0, .ref h1, .ref h2] [] S I J Q) : z_wp (d + 1) i_X7_isMatch [.ref h0, .ref h1, .ref h2] S I J Q := Go.wp (Nat.le_of_ble_eq_true rfl) h
theorem e_X7_isMatch {d : Nat} {S S2 : zS} {I I2 : zI} {J J2 : zJ} {r : Option Value} {h0 : Nat} {h1 : Nat} {h2 : Nat} (h : Go d i_X7_isMatch 0 [.ref h0, .ref h1, .ref h2] [] S I J (z_eq r S2 I2 J2)) : z_ev (d + 1) i_X7_isMatch [.ref h0, .ref h1, .ref h2] S I J r S2 I2 J2 := Go.ev (Nat.le_of_ble_eq_true rfl) h
theorem b_X7_isMatch_0 {d : Nat} {S : zS} {I : zI} {J : zJ} {Q : zQ} {h0 : Nat} {h1 : Nat} {h2 : Nat} (g1 : z_kd S h0 = 8 ∧ ((0 : Int32) = 0 ∨ (0 : Int32) = 1)) (g2 : z_kd S h0 = 8) (kk : z_wp d i_X7_begin [.ref h0, .ref h1, .ref h2] S (z_u2 I h0 7 (0 : Int32)) J (fun vv SS II JJ => Go d i_X7_isMatch 11 [.ref h0, .ref h1, .ref h2] (vv.toList ++ []) SS II JJ Q)) : Go d i_X7_isMatch 0 [.ref h0, .ref h1, .ref h2] [] S I J Q := by
  have h := (And.intro g1 (And.intro g2 kk))
  exact Go.n tb_X7_isMatch 7 h
theorem b_X7_isMatch_11 {d : Nat} {S : zS} {I : zI} {J : zJ} {Q : zQ} {h0 : Nat} {h1 : Nat} {h2 : Nat} {y0 : Int32} (kt : y0 = (0 : Int32) → Go d i_X7_isMatch 27 [.ref h0, .ref h1, .ref h2] [] S I J Q) (kf : ¬ y0 = (0 : Int32) → Go d i_X7_isMatch 14 [.ref h0, .ref h1, .ref h2] [] S I J Q) : Go d i_X7_isMatch 11 [.ref h0, .ref h1, .ref h2] [.int y0] S I J Q := by
  have h := (Go.ite kt kf)
  exact Go.n tb_X7_isMatch 1 h
theorem b_X7_isMatch_14 {d : Nat} {S : zS} {I : zI} {J : zJ} {Q : zQ} {h0 : Nat} {h1 : Nat} {h2 : Nat} (g1 : z_kd S h0 = 8) (kk : z_wp d i_X7_complete [.ref h0, .int (1 : Int32), .int (1 : Int32)] S I J (fun vv SS II JJ => Go d i_X7_isMatch 20 [.ref h0, .ref h1, .ref h2] (vv.toList ++ []) SS II JJ Q)) : Go d i_X7_isMatch 14 [.ref h0, .ref h1, .ref h2] [] S I J Q := by
  have h := (And.intro g1 kk)
  exact Go.n tb_X7_isMatch 4 h
theorem b_X7_isMatch_20 {d : Nat} {S : zS} {I : zI} {J : zJ} {Q : zQ} {h0 : Nat} {h1 : Nat} {h2 : Nat} {y0 : Int32} (kt : y0 = (0 : Int32) → Go d i_X7_isMatch 27 [.ref h0, .ref h1, .ref h2] [] S I J Q) (kf : ¬ y0 = (0 : Int32) → Go d i_X7_isMatch 23 [.ref h0, .ref h1, .ref h2] [] S I J Q) : Go d i_X7_isMatch 20 [.ref h0, .ref h1, .ref h2] [.int y0] S I J Q := by
  have h := (Go.ite kt kf)
  exact Go.n tb_X7_isMatch 1 h
theorem b_X7_isMatch_23 {d : Nat} {S : zS} {I : zI} {J : zJ} {Q : zQ} {h0 : Nat} {h1 : Nat} {h2 : Nat} (g1 : z_fit 3 (1 : Int32)) (kk : Q (some (.int (1 : Int32))) S I J) : Go d i_X7_isMatch 23 [.ref h0, .ref h1, .ref h2] [] S I J Q := by
  have h := (And.intro g1 kk)
  exact Go.n tb_X7_isMatch 3 h
theorem b_X7_isMatch_27 {d : Nat} {S : zS} {I : zI} {J : zJ} {Q : zQ} {h0 : Nat} {h1 : Nat} {h2 : Nat} (g1 : z_fit 3 (0 : Int32)) (kk : Q (some (.int (0 : Int32))) S I J) : Go d i_X7_isMatch 27 [.ref h0, .ref h1, .ref h2] [] S I J Q := by
  have h := (And.intro g1 kk)
  exact Go.n tb_X7_isMatch 2 h
theorem w_X7_findFirst {d : Nat} {S : zS} {I : zI} {J : zJ} {Q : zQ} {h0 : Nat} {h1 : Nat} {h2 : Nat} {h3 : Nat} (h : Go d i_X7_findFirst 0 [.ref h0, .ref h1, .ref h2, .ref h3, .retAddr 0, .retAddr 0] [] S I J Q) : z_wp (d + 1) i_X7_findFirst [.ref h0, .ref h1, .ref h2, .ref h3] S I J Q := Go.wp (Nat.le_of_ble_eq_true rfl) h
theorem e_X7_findFirst {d : Nat} {S S2 : zS} {I I2 : zI} {J J2 : zJ} {r : Option Value} {h0 : Nat} {h1 : Nat} {h2 : Nat} {h3 : Nat} (h : Go d i_X7_findFirst 0 [.ref h0, .ref h1, .ref h2, .ref h3, .retAddr 0, .retAddr 0] [] S I J (z_eq r S2 I2 J2)) : z_ev (d + 1) i_X7_findFirst [.ref h0, .ref h1, .ref h2, .ref h3] S I J r S2 I2 J2 := Go.ev (Nat.le_of_ble_eq_true rfl) h
theorem b_X7_findFirst_0 {d : Nat} {S : zS} {I : zI} {J : zJ} {Q : zQ} {h0 : Nat} {h1 : Nat} {h2 : Nat} {h3 : Nat} {v4 : Value} {v5 : Value} (g1 : z_kd S h1 = 9) (g2 : z_kd S (z_rv S h1 0) = 2) (g3 : z_kd S h2 = 9) (g4 : z_kd S (z_rv S h2 0) = 2) (kt : ¬ (I (z_rv S h1 0) 0) = (I (z_rv S h2 0) 0) → Go d i_X7_findFirst 56 [.ref h0, .ref h1, .ref h2, .ref h3, .int (0 : Int32), v5] [] S I J Q) (kf : (I (z_rv S h1 0) 0) = (I (z_rv S h2 0) 0) → Go d i_X7_findFirst 20 [.ref h0, .ref h1, .ref h2, .ref h3, .int (0 : Int32), v5] [] S I J Q) : Go d i_X7_findFirst 0 [.ref h0, .ref h1, .ref h2, .ref h3, v4, v5] [] S I J Q := by
  have h := (And.intro g1 (And.intro g2 (And.intro g3 (And.intro g4 (Go.eti kt kf)))))
  exact Go.n tb_X7_findFirst 9 h
theorem b_X7_findFirst_20 {d : Nat} {S : zS} {I : zI} {J : zJ} {Q : zQ} {h0 : Nat} {h1 : Nat} {h2 : Nat} {h3 : Nat} {x4 : Int32} {v5 : Value} (g1 : z_kd S h0 = 8 ∧ ((1 : Int32) = 0 ∨ (1 : Int32) = 1)) (g2 : z_kd S h1 = 9) (kk : z_wp d i_X8_painted [.ref h1] S (z_u2 I h0 7 (1 : Int32)) J (fun vv SS II JJ => Go d i_X7_findFirst 30 [.ref h0, .ref h1, .ref h2, .ref h3, .int x4, v5] (vv.toList ++ [.ref h0]) SS II JJ Q)) : Go d i_X7_findFirst 20 [.ref h0, .ref h1, .ref h2, .ref h3, .int x4, v5] [] S I J Q := by
  have h := (And.intro g1 (And.intro g2 kk))
  exact Go.n tb_X7_findFirst 6 h
theorem b_X7_findFirst_30 {d : Nat} {S : zS} {I : zI} {J : zJ} {Q : zQ} {h0 : Nat} {h1 : Nat} {h2 : Nat} {h3 : Nat} {x4 : Int32} {v5 : Value} {q0 : Nat} {q1 : Nat} (g1 : z_kd S h2 = 9) (kk : z_wp d i_X8_painted [.ref h2] S I J (fun vv SS II JJ => Go d i_X7_findFirst 34 [.ref h0, .ref h1, .ref h2, .ref h3, .int x4, v5] (vv.toList ++ [.ref q1, .ref q0]) SS II JJ Q)) : Go d i_X7_findFirst 30 [.ref h0, .ref h1, .ref h2, .ref h3, .int x4, v5] [.ref q1, .ref q0] S I J Q := by
  have h := (And.intro g1 kk)
  exact Go.n tb_X7_findFirst 2 h
theorem b_X7_findFirst_34 {d : Nat} {S : zS} {I : zI} {J : zJ} {Q : zQ} {h0 : Nat} {h1 : Nat} {h2 : Nat} {h3 : Nat} {x4 : Int32} {v5 : Value} {q0 : Nat} {q1 : Nat} {q2 : Nat} (g1 : z_kd S q0 = 8) (kk : z_wp d i_X7_begin [.ref q0, .ref q1, .ref q2] S I J (fun vv SS II JJ => Go d i_X7_findFirst 37 [.ref h0, .ref h1, .ref h2, .ref h3, .int x4, v5] (vv.toList ++ []) SS II JJ Q)) : Go d i_X7_findFirst 34 [.ref h0, .ref h1, .ref h2, .ref h3, .int x4, v5] [.ref q2, .ref q1, .ref q0] S I J Q := by
  have h := (And.intro g1 kk)
  exact Go.n tb_X7_findFirst 1 h
theorem b_X7_findFirst_37 {d : Nat} {S : zS} {I : zI} {J : zJ} {Q : zQ} {h0 : Nat} {h1 : Nat} {h2 : Nat} {h3 : Nat} {x4 : Int32} {v5 : Value} {y0 : Int32} (kt : y0 = (0 : Int32) → Go d i_X7_findFirst 53 [.ref h0, .ref h1, .ref h2, .ref h3, .int x4, v5] [] S I J Q) (kf : ¬ y0 = (0 : Int32) → Go d i_X7_findFirst 40 [.ref h0, .ref h1, .ref h2, .ref h3, .int x4, v5] [] S I J Q) : Go d i_X7_findFirst 37 [.ref h0, .ref h1, .ref h2, .ref h3, .int x4, v5] [.int y0] S I J Q := by
  have h := (Go.ite kt kf)
  exact Go.n tb_X7_findFirst 1 h
theorem b_X7_findFirst_40 {d : Nat} {S : zS} {I : zI} {J : zJ} {Q : zQ} {h0 : Nat} {h1 : Nat} {h2 : Nat} {h3 : Nat} {x4 : Int32} {v5 : Value} (g1 : z_kd S h0 = 8) (kk : z_wp d i_X7_complete [.ref h0, .int (1 : Int32), .int (1 : Int32)] S I J (fun vv SS II JJ => Go d i_X7_findFirst 46 [.ref h0, .ref h1, .ref h2, .ref h3, .int x4, v5] (vv.toList ++ []) SS II JJ Q)) : Go d i_X7_findFirst 40 [.ref h0, .ref h1, .ref h2, .ref h3, .int x4, v5] [] S I J Q := by
  have h := (And.intro g1 kk)
  exact Go.n tb_X7_findFirst 4 h
theorem b_X7_findFirst_46 {d : Nat} {S : zS} {I : zI} {J : zJ} {Q : zQ} {h0 : Nat} {h1 : Nat} {h2 : Nat} {h3 : Nat} {x4 : Int32} {v5 : Value} {y0 : Int32} (kt : y0 = (0 : Int32) → Go d i_X7_findFirst 53 [.ref h0, .ref h1, .ref h2, .ref h3, .int x4, v5] [] S I J Q) (kf : ¬ y0 = (0 : Int32) → Go d i_X7_findFirst 49 [.ref h0, .ref h1, .ref h2, .ref h3, .int x4, v5] [] S I J Q) : Go d i_X7_findFirst 46 [.ref h0, .ref h1, .ref h2, .ref h3, .int x4, v5] [.int y0] S I J Q := by
  have h := (Go.ite kt kf)
  exact Go.n tb_X7_findFirst 1 h
theorem b_X7_findFirst_49 {d : Nat} {S : zS} {I : zI} {J : zJ} {Q : zQ} {h0 : Nat} {h1 : Nat} {h2 : Nat} {h3 : Nat} {x4 : Int32} {v5 : Value} (kk : Go d i_X7_findFirst 59 [.ref h0, .ref h1, .ref h2, .ref h3, .int (1 : Int32), .int (0 : Int32)] [] S I J Q) : Go d i_X7_findFirst 49 [.ref h0, .ref h1, .ref h2, .ref h3, .int x4, v5] [] S I J Q := by
  have h := kk
  exact Go.n tb_X7_findFirst 5 h
theorem b_X7_findFirst_53 {d : Nat} {S : zS} {I : zI} {J : zJ} {Q : zQ} {h0 : Nat} {h1 : Nat} {h2 : Nat} {h3 : Nat} {x4 : Int32} {v5 : Value} (kk : Go d i_X7_findFirst 59 [.ref h0, .ref h1, .ref h2, .ref h3, .int (0 : Int32), .int (0 : Int32)] [] S I J Q) : Go d i_X7_findFirst 53 [.ref h0, .ref h1, .ref h2, .ref h3, .int x4, v5] [] S I J Q := by
  have h := kk
  exact Go.n tb_X7_findFirst 4 h
theorem b_X7_findFirst_56 {d : Nat} {S : zS} {I : zI} {J : zJ} {Q : zQ} {h0 : Nat} {h1 : Nat} {h2 : Nat} {h3 : Nat} {x4 : Int32} {v5 : Value} (kk : Go d i_X7_findFirst 59 [.ref h0, .ref h1, .ref h2, .ref h3, .int x4, .int (0 : Int32)] [] S I J Q) : Go d i_X7_findFirst 56 [.ref h0, .ref h1, .ref h2, .ref h3, .int x4, v5] [] S I J Q := by
  have h := kk
  exact Go.n tb_X7_findFirst 2 h
theorem b_X7_findFirst_59 {d : Nat} {S : zS} {I : zI} {J : zJ} {Q : zQ} {h0 : Nat} {h1 : Nat} {h2 : Nat} {h3 : Nat} {x4 : Int32} {x5 : Int32} (g1 : z_kd S h1 = 9) (g2 : z_kd S (z_rv S h1 0) = 2) (kt : (I (z_rv S h1 0) 0) ≤ x5 → Go d i_X7_findFirst 97 [.ref h0, .ref h1, .ref h2, .ref h3, .int x4, .int x5] [] S I J Q) (kf : ¬ (I (z_rv S h1 0) 0) ≤ x5 → Go d i_X7_findFirst 71 [.ref h0, .ref h1, .ref h2, .ref h3, .int x4, .int x5] [] S I J Q) : Go d i_X7_findFirst 59 [.ref h0, .ref h1, .ref h2, .ref h3, .int x4, .int x5] [] S I J Q := by
  have h := (And.intro g1 (And.intro g2 (Go.ite kt kf)))
  exact Go.n tb_X7_findFirst 5 h
theorem b_X7_findFirst_71 {d : Nat} {S : zS} {I : zI} {J : zJ} {Q : zQ} {h0 : Nat} {h1 : Nat} {h2 : Nat} {h3 : Nat} {x4 : Int32} {x5 : Int32} (kt : x4 = (0 : Int32) → Go d i_X7_findFirst 89 [.ref h0, .ref h1, .ref h2, .ref h3, .int x4, .int x5] [.int x5, .ref h3] S I J Q) (kf : ¬ x4 = (0 : Int32) → Go d i_X7_findFirst 79 [.ref h0, .ref h1, .ref h2, .ref h3, .int x4, .int x5] [.int x5, .ref h3] S I J Q) : Go d i_X7_findFirst 71 [.ref h0, .ref h1, .ref h2, .ref h3, .int x4, .int x5] [] S I J Q := by
  have h := (Go.ite kt kf)
  exact Go.n tb_X7_findFirst 4 h
theorem b_X7_findFirst_79 {d : Nat} {S : zS} {I : zI} {J : zJ} {Q : zQ} {h0 : Nat} {h1 : Nat} {h2 : Nat} {h3 : Nat} {x4 : Int32} {x5 : Int32} {q0 : Nat} {y1 : Int32} (g1 : z_kd S h0 = 8) (g2 : z_isI (z_kd S (z_rv S h0 6)) = true ∧ vp_in x5 (z_ln S (z_rv S h0 6))) (g3 : z_kd S q0 = 100 ∧ vp_in y1 (z_ln S q0)) (kk : Go d i_X7_findFirst 59 [.ref h0, .ref h1, .ref h2, .ref h3, .int x4, .int (x5 + (1 : Int32))] [] S (z_u2 I q0 (Int32.toNatClampNeg y1) (I (z_rv S h0 6) (Int32.toNatClampNeg x5))) J Q) : Go d i_X7_findFirst 79 [.ref h0, .ref h1, .ref h2, .ref h3, .int x4, .int x5] [.int y1, .ref q0] S I J Q := by
  have h := (And.intro g1 (And.intro g2 (And.intro g3 kk)))
  exact Go.n tb_X7_findFirst 8 h
theorem b_X7_findFirst_89 {d : Nat} {S : zS} {I : zI} {J : zJ} {Q : zQ} {h0 : Nat} {h1 : Nat} {h2 : Nat} {h3 : Nat} {x4 : Int32} {x5 : Int32} {q0 : Nat} {y1 : Int32} (g1 : z_kd S q0 = 100 ∧ vp_in y1 (z_ln S q0)) (kk : Go d i_X7_findFirst 59 [.ref h0, .ref h1, .ref h2, .ref h3, .int x4, .int (x5 + (1 : Int32))] [] S (z_u2 I q0 (Int32.toNatClampNeg y1) (-1 : Int32)) J Q) : Go d i_X7_findFirst 89 [.ref h0, .ref h1, .ref h2, .ref h3, .int x4, .int x5] [.int y1, .ref q0] S I J Q := by
  have h := (And.intro g1 kk)
  exact Go.n tb_X7_findFirst 4 h
theorem b_X7_findFirst_97 {d : Nat} {S : zS} {I : zI} {J : zJ} {Q : zQ} {h0 : Nat} {h1 : Nat} {h2 : Nat} {h3 : Nat} {x4 : Int32} {x5 : Int32} (kk : Q none S I J) : Go d i_X7_findFirst 97 [.ref h0, .ref h1, .ref h2, .ref h3, .int x4, .int x5] [] S I J Q := by
  have h := (And.intro trivial kk)
  exact Go.n tb_X7_findFirst 1 h
theorem w_X7_countStaying {d : Nat} {S : zS} {I : zI} {J : zJ} {Q : zQ} {h0 : Nat} {h1 : Nat} {h2 : Nat} (h : Go d i_X7_countStaying 0 [.ref h0, .ref h1, .ref h2, .retAddr 0] [] S I J Q) : z_wp (d + 1) i_X7_countStaying [.ref h0, .ref h1, .ref h2] S I J Q := Go.wp (Nat.le_of_ble_eq_true rfl) h
theorem e_X7_countStaying {d : Nat} {S S2 : zS} {I I2 : zI} {J J2 : zJ} {r : Option Value} {h0 : Nat} {h1 : Nat} {h2 : Nat} (h : Go d i_X7_countStaying 0 [.ref h0, .ref h1, .ref h2, .retAddr 0] [] S I J (z_eq r S2 I2 J2)) : z_ev (d + 1) i_X7_countStaying [.ref h0, .ref h1, .ref h2] S I J r S2 I2 J2 := Go.ev (Nat.le_of_ble_eq_true rfl) h
theorem b_X7_countStaying_0 {d : Nat} {S : zS} {I : zI} {J : zJ} {Q : zQ} {h0 : Nat} {h1 : Nat} {h2 : Nat} {v3 : Value} (kk : Go d i_X7_countStaying 2 [.ref h0, .ref h1, .ref h2, .int (0 : Int32)] [] S I J Q) : Go d i_X7_countStaying 0 [.ref h0, .ref h1, .ref h2, v3] [] S I J Q := by
  have h := kk
  exact Go.n tb_X7_countStaying 2 h
theorem b_X7_countStaying_2 {d : Nat} {S : zS} {I : zI} {J : zJ} {Q : zQ} {h0 : Nat} {h1 : Nat} {h2 : Nat} {x3 : Int32} (g1 : z_kd S h1 = 1) (kt : (I h1 0) ≤ x3 → Go d i_X7_countStaying 22 [.ref h0, .ref h1, .ref h2, .int x3] [] S I J Q) (kf : ¬ (I h1 0) ≤ x3 → Go d i_X7_countStaying 10 [.ref h0, .ref h1, .ref h2, .int x3] [] S I J Q) : Go d i_X7_countStaying 2 [.ref h0, .ref h1, .ref h2, .int x3] [] S I J Q := by
  have h := (And.intro g1 (Go.ite kt kf))
  exact Go.n tb_X7_countStaying 4 h
theorem b_X7_countStaying_10 {d : Nat} {S : zS} {I : zI} {J : zJ} {Q : zQ} {h0 : Nat} {h1 : Nat} {h2 : Nat} {x3 : Int32} (g1 : z_kd S h2 = 100 ∧ vp_in x3 (z_ln S h2)) (kk : Go d i_X7_countStaying 2 [.ref h0, .ref h1, .ref h2, .int (x3 + (1 : Int32))] [] S (z_u2 I h2 (Int32.toNatClampNeg x3) ((1 : Int32) <<< (x3 &&& 31))) J Q) : Go d i_X7_countStaying 10 [.ref h0, .ref h1, .ref h2, .int x3] [] S I J Q := by
  have h := (And.intro g1 kk)
  exact Go.n tb_X7_countStaying 8 h
theorem b_X7_countStaying_22 {d : Nat} {S : zS} {I : zI} {J : zJ} {Q : zQ} {h0 : Nat} {h1 : Nat} {h2 : Nat} {x3 : Int32} (g1 : z_kd S h0 = 8 ∧ ((0 : Int32) = 0 ∨ (0 : Int32) = 1)) (g2 : z_kd S h0 = 8) (kk : z_wp d i_X7_begin [.ref h0, .ref h1, .ref h1] S (z_u2 I h0 7 (0 : Int32)) J (fun vv SS II JJ => Go d i_X7_countStaying 33 [.ref h0, .ref h1, .ref h2, .int x3] (vv.toList ++ []) SS II JJ Q)) : Go d i_X7_countStaying 22 [.ref h0, .ref h1, .ref h2, .int x3] [] S I J Q := by
  have h := (And.intro g1 (And.intro g2 kk))
  exact Go.n tb_X7_countStaying 7 h
theorem b_X7_countStaying_33 {d : Nat} {S : zS} {I : zI} {J : zJ} {Q : zQ} {h0 : Nat} {h1 : Nat} {h2 : Nat} {x3 : Int32} {y0 : Int32} (kt : y0 = (0 : Int32) → Go d i_X7_countStaying 46 [.ref h0, .ref h1, .ref h2, .int x3] [] S I J Q) (kf : ¬ y0 = (0 : Int32) → Go d i_X7_countStaying 36 [.ref h0, .ref h1, .ref h2, .int x3] [] S I J Q) : Go d i_X7_countStaying 33 [.ref h0, .ref h1, .ref h2, .int x3] [.int y0] S I J Q := by
  have h := (Go.ite kt kf)
  exact Go.n tb_X7_countStaying 1 h
theorem b_X7_countStaying_36 {d : Nat} {S : zS} {I : zI} {J : zJ} {Q : zQ} {h0 : Nat} {h1 : Nat} {h2 : Nat} {x3 : Int32} (g1 : z_kd S h0 = 8) (kk : z_wp d i_X7_chain [.ref h0, .int (1 : Int32), .int (1 : Int32), .ref h2] S I J (fun vv SS II JJ => Go d i_X7_countStaying 43 [.ref h0, .ref h1, .ref h2, .int x3] (vv.toList ++ []) SS II JJ Q)) : Go d i_X7_countStaying 36 [.ref h0, .ref h1, .ref h2, .int x3] [] S I J Q := by
  have h := (And.intro g1 kk)
  exact Go.n tb_X7_countStaying 5 h
theorem b_X7_countStaying_43 {d : Nat} {S : zS} {I : zI} {J : zJ} {Q : zQ} {h0 : Nat} {h1 : Nat} {h2 : Nat} {x3 : Int32} {w0 : Int64} (kk : Q (some (.long w0)) S I J) : Go d i_X7_countStaying 43 [.ref h0, .ref h1, .ref h2, .int x3] [.long w0] S I J Q := by
  have h := (And.intro trivial kk)
  exact Go.n tb_X7_countStaying 2 h
theorem b_X7_countStaying_46 {d : Nat} {S : zS} {I : zI} {J : zJ} {Q : zQ} {h0 : Nat} {h1 : Nat} {h2 : Nat} {x3 : Int32} (kk : Q (some (.long (1 : Int64))) S I J) : Go d i_X7_countStaying 46 [.ref h0, .ref h1, .ref h2, .int x3] [] S I J Q := by
  have h := (And.intro trivial kk)
  exact Go.n tb_X7_countStaying 2 h
theorem w_X7_chain {d : Nat} {S : zS} {I : zI} {J : zJ} {Q : zQ} {h0 : Nat} {x1 : Int32} {x2 : Int32} {h3 : Nat} (h : Go d i_X7_chain 0 [.ref h0, .int x1, .int x2, .ref h3, .retAddr 0, .retAddr 0, .retAddr 0, .retAddr 0, .retAddr 0, .retAddr 0] [] S I J Q) : z_wp (d + 1) i_X7_chain [.ref h0, .int x1, .int x2, .ref h3] S I J Q := Go.wp (Nat.le_of_ble_eq_true rfl) h
theorem e_X7_chain {d : Nat} {S S2 : zS} {I I2 : zI} {J J2 : zJ} {r : Option Value} {h0 : Nat} {x1 : Int32} {x2 : Int32} {h3 : Nat} (h : Go d i_X7_chain 0 [.ref h0, .int x1, .int x2, .ref h3, .retAddr 0, .retAddr 0, .retAddr 0, .retAddr 0, .retAddr 0, .retAddr 0] [] S I J (z_eq r S2 I2 J2)) : z_ev (d + 1) i_X7_chain [.ref h0, .int x1, .int x2, .ref h3] S I J r S2 I2 J2 := Go.ev (Nat.le_of_ble_eq_true rfl) h
theorem b_X7_chain_0 {d : Nat} {S : zS} {I : zI} {J : zJ} {Q : zQ} {h0 : Nat} {x1 : Int32} {x2 : Int32} {h3 : Nat} {v4 : Value} {v5 : Value} {v6 : Value} {v7 : Value} {v8 : Value} {v9 : Value} (g1 : z_kd S h0 = 8) (kt : x2 = (I h0 3) → Go d i_X7_chain 14 [.ref h0, .int x1, .int x2, .ref h3, v4, v5, v6, v7, v8, v9] [] S I J Q) (kf : ¬ x2 = (I h0 3) → Go d i_X7_chain 8 [.ref h0, .int x1, .int x2, .ref h3, v4, v5, v6, v7, v8, v9] [] S I J Q) : Go d i_X7_chain 0 [.ref h0, .int x1, .int x2, .ref h3, v4, v5, v6, v7, v8, v9] [] S I J Q := by
  have h := (And.intro g1 (Go.ite kt kf))
  exact Go.n tb_X7_chain 4 h
theorem b_X7_chain_8 {d : Nat} {S : zS} {I : zI} {J : zJ} {Q : zQ} {h0 : Nat} {x1 : Int32} {x2 : Int32} {h3 : Nat} {v4 : Value} {v5 : Value} {v6 : Value} {v7 : Value} {v8 : Value} {v9 : Value} (kt : x1 < (20 : Int32) → Go d i_X7_chain 16 [.ref h0, .int x1, .int x2, .ref h3, v4, v5, v6, v7, v8, v9] [] S I J Q) (kf : ¬ x1 < (20 : Int32) → Go d i_X7_chain 14 [.ref h0, .int x1, .int x2, .ref h3, v4, v5, v6, v7, v8, v9] [] S I J Q) : Go d i_X7_chain 8 [.ref h0, .int x1, .int x2, .ref h3, v4, v5, v6, v7, v8, v9] [] S I J Q := by
  have h := (Go.ite kt kf)
  exact Go.n tb_X7_chain 3 h
theorem b_X7_chain_14 {d : Nat} {S : zS} {I : zI} {J : zJ} {Q : zQ} {h0 : Nat} {x1 : Int32} {x2 : Int32} {h3 : Nat} {v4 : Value} {v5 : Value} {v6 : Value} {v7 : Value} {v8 : Value} {v9 : Value} (kk : Q (some (.long (1 : Int64))) S I J) : Go d i_X7_chain 14 [.ref h0, .int x1, .int x2, .ref h3, v4, v5, v6, v7, v8, v9] [] S I J Q := by
  have h := (And.intro trivial kk)
  exact Go.n tb_X7_chain 2 h
theorem b_X7_chain_16 {d : Nat} {S : zS} {I : zI} {J : zJ} {Q : zQ} {h0 : Nat} {x1 : Int32} {x2 : Int32} {h3 : Nat} {v4 : Value} {v5 : Value} {v6 : Value} {v7 : Value} {v8 : Value} {v9 : Value} (g1 : z_kd S h0 = 8) (kk : z_wp d i_X7_pick [.ref h0, .int x1, .int x2] S I J (fun vv SS II JJ => Go d i_X7_chain 22 [.ref h0, .int x1, .int x2, .ref h3, v4, v5, v6, v7, v8, v9] (vv.toList ++ []) SS II JJ Q)) : Go d i_X7_chain 16 [.ref h0, .int x1, .int x2, .ref h3, v4, v5, v6, v7, v8, v9] [] S I J Q := by
  have h := (And.intro g1 kk)
  exact Go.n tb_X7_chain 4 h
theorem b_X7_chain_22 {d : Nat} {S : zS} {I : zI} {J : zJ} {Q : zQ} {h0 : Nat} {x1 : Int32} {x2 : Int32} {h3 : Nat} {v4 : Value} {v5 : Value} {v6 : Value} {v7 : Value} {v8 : Value} {v9 : Value} {y0 : Int32} (g1 : z_kd S h0 = 8) (g2 : z_isI (z_kd S (z_rv S h0 5)) = true ∧ vp_in ((x1 * (20 : Int32)) + y0) (z_ln S (z_rv S h0 5))) (g3 : z_kd S h0 = 8) (kk : z_wp d i_X7_lead [.ref h0, .int x1, .int y0, .int y0] S I J (fun vv SS II JJ => Go d i_X7_chain 50 [.ref h0, .int x1, .int x2, .ref h3, .int y0, .int (I (z_rv S h0 5) (Int32.toNatClampNeg ((x1 * (20 : Int32)) + y0))), .long (1 : Int64), (.retAddr 0), v8, v9] (vv.toList ++ []) SS II JJ Q)) : Go d i_X7_chain 22 [.ref h0, .int x1, .int x2, .ref h3, v4, v5, v6, v7, v8, v9] [.int y0] S I J Q := by
  have h := (And.intro g1 (And.intro g2 (And.intro g3 kk)))
  exact Go.n tb_X7_chain 17 h
theorem b_X7_chain_50 {d : Nat} {S : zS} {I : zI} {J : zJ} {Q : zQ} {h0 : Nat} {x1 : Int32} {x2 : Int32} {h3 : Nat} {x4 : Int32} {x5 : Int32} {j6 : Int64} {v7 : Value} {v8 : Value} {v9 : Value} {y0 : Int32} (kt : y0 = (0 : Int32) → Go d i_X7_chain 69 [.ref h0, .int x1, .int x2, .ref h3, .int x4, .int x5, .long j6, v7, v8, v9] [] S I J Q) (kf : ¬ y0 = (0 : Int32) → Go d i_X7_chain 53 [.ref h0, .int x1, .int x2, .ref h3, .int x4, .int x5, .long j6, v7, v8, v9] [] S I J Q) : Go d i_X7_chain 50 [.ref h0, .int x1, .int x2, .ref h3, .int x4, .int x5, .long j6, v7, v8, v9] [.int y0] S I J Q := by
  have h := (Go.ite kt kf)
  exact Go.n tb_X7_chain 1 h
theorem b_X7_chain_53 {d : Nat} {S : zS} {I : zI} {J : zJ} {Q : zQ} {h0 : Nat} {x1 : Int32} {x2 : Int32} {h3 : Nat} {x4 : Int32} {x5 : Int32} {j6 : Int64} {v7 : Value} {v8 : Value} {v9 : Value} (g1 : z_kd S h0 = 8) (kk : z_wp d i_X7_chain [.ref h0, .int (x1 + (1 : Int32)), .int (x2 ||| ((1 : Int32) <<< (x4 &&& 31))), .ref h3] S I J (fun vv SS II JJ => Go d i_X7_chain 67 [.ref h0, .int x1, .int x2, .ref h3, .int x4, .int x5, .long j6, v7, v8, v9] (vv.toList ++ []) SS II JJ Q)) : Go d i_X7_chain 53 [.ref h0, .int x1, .int x2, .ref h3, .int x4, .int x5, .long j6, v7, v8, v9] [] S I J Q := by
  have h := (And.intro g1 kk)
  exact Go.n tb_X7_chain 11 h
theorem b_X7_chain_67 {d : Nat} {S : zS} {I : zI} {J : zJ} {Q : zQ} {h0 : Nat} {x1 : Int32} {x2 : Int32} {h3 : Nat} {x4 : Int32} {x5 : Int32} {j6 : Int64} {v7 : Value} {v8 : Value} {v9 : Value} {w0 : Int64} (kk : Go d i_X7_chain 78 [.ref h0, .int x1, .int x2, .ref h3, .int x4, .int x5, .long w0, (.retAddr 0), .int ((1 : Int32) <<< (x4 &&& 31)), .int (0 : Int32)] [] S I J Q) : Go d i_X7_chain 67 [.ref h0, .int x1, .int x2, .ref h3, .int x4, .int x5, .long j6, v7, v8, v9] [.long w0] S I J Q := by
  have h := kk
  exact Go.n tb_X7_chain 7 h
theorem b_X7_chain_69 {d : Nat} {S : zS} {I : zI} {J : zJ} {Q : zQ} {h0 : Nat} {x1 : Int32} {x2 : Int32} {h3 : Nat} {x4 : Int32} {x5 : Int32} {j6 : Int64} {v7 : Value} {v8 : Value} {v9 : Value} (kk : Go d i_X7_chain 78 [.ref h0, .int x1, .int x2, .ref h3, .int x4, .int x5, .long j6, (z_kill v7), .int ((1 : Int32) <<< (x4 &&& 31)), .int (0 : Int32)] [] S I J Q) : Go d i_X7_chain 69 [.ref h0, .int x1, .int x2, .ref h3, .int x4, .int x5, .long j6, v7, v8, v9] [] S I J Q := by
  have h := kk
  exact Go.n tb_X7_chain 6 h
theorem b_X7_chain_78 {d : Nat} {S : zS} {I : zI} {J : zJ} {Q : zQ} {h0 : Nat} {x1 : Int32} {x2 : Int32} {h3 : Nat} {x4 : Int32} {x5 : Int32} {j6 : Int64} {v7 : Value} {x8 : Int32} {x9 : Int32} (g1 : z_kd S h0 = 8) (kt : (I h0 2) ≤ x9 → Go d i_X7_chain 155 [.ref h0, .int x1, .int x2, .ref h3, .int x4, .int x5, .long j6, v7, .int x8, .int x9] [] S I J Q) (kf : ¬ (I h0 2) ≤ x9 → Go d i_X7_chain 87 [.ref h0, .int x1, .int x2, .ref h3, .int x4, .int x5, .long j6, v7, .int x8, .int x9] [] S I J Q) : Go d i_X7_chain 78 [.ref h0, .int x1, .int x2, .ref h3, .int x4, .int x5, .long j6, v7, .int x8, .int x9] [] S I J Q := by
  have h := (And.intro g1 (Go.ite kt kf))
  exact Go.n tb_X7_chain 4 h
theorem b_X7_chain_87 {d : Nat} {S : zS} {I : zI} {J : zJ} {Q : zQ} {h0 : Nat} {x1 : Int32} {x2 : Int32} {h3 : Nat} {x4 : Int32} {x5 : Int32} {j6 : Int64} {v7 : Value} {x8 : Int32} {x9 : Int32} (kt : ((x5 >>> (x9 &&& 31)) &&& (1 : Int32)) = (0 : Int32) → Go d i_X7_chain 149 [.ref h0, .int x1, .int x2, .ref h3, .int x4, .int x5, .long j6, v7, .int x8, .int x9] [] S I J Q) (kf : ¬ ((x5 >>> (x9 &&& 31)) &&& (1 : Int32)) = (0 : Int32) → Go d i_X7_chain 97 [.ref h0, .int x1, .int x2, .ref h3, .int x4, .int x5, .long j6, v7, .int x8, .int x9] [] S I J Q) : Go d i_X7_chain 87 [.ref h0, .int x1, .int x2, .ref h3, .int x4, .int x5, .long j6, v7, .int x8, .int x9] [] S I J Q := by
  have h := (Go.ite kt kf)
  exact Go.n tb_X7_chain 6 h
theorem b_X7_chain_97 {d : Nat} {S : zS} {I : zI} {J : zJ} {Q : zQ} {h0 : Nat} {x1 : Int32} {x2 : Int32} {h3 : Nat} {x4 : Int32} {x5 : Int32} {j6 : Int64} {v7 : Value} {x8 : Int32} {x9 : Int32} (g1 : z_isI (z_kd S h3) = true ∧ vp_in x9 (z_ln S h3)) (kt : ¬ ((I h3 (Int32.toNatClampNeg x9)) &&& x8) = (0 : Int32) → Go d i_X7_chain 149 [.ref h0, .int x1, .int x2, .ref h3, .int x4, .int x5, .long j6, v7, .int x8, .int x9] [] S I J Q) (kf : ((I h3 (Int32.toNatClampNeg x9)) &&& x8) = (0 : Int32) → Go d i_X7_chain 107 [.ref h0, .int x1, .int x2, .ref h3, .int x4, .int x5, .long j6, v7, .int x8, .int x9] [] S I J Q) : Go d i_X7_chain 97 [.ref h0, .int x1, .int x2, .ref h3, .int x4, .int x5, .long j6, v7, .int x8, .int x9] [] S I J Q := by
  have h := (And.intro g1 (Go.eti kt kf))
  exact Go.n tb_X7_chain 6 h
theorem b_X7_chain_107 {d : Nat} {S : zS} {I : zI} {J : zJ} {Q : zQ} {h0 : Nat} {x1 : Int32} {x2 : Int32} {h3 : Nat} {x4 : Int32} {x5 : Int32} {j6 : Int64} {v7 : Value} {x8 : Int32} {x9 : Int32} (g1 : z_kd S h0 = 8) (kk : z_wp d i_X7_lead [.ref h0, .int x1, .int x4, .int x9] S I J (fun vv SS II JJ => Go d i_X7_chain 125 [.ref h0, .int x1, .int x2, .ref h3, .int x4, .int x5, .long j6, (z_kill v7), .int (x8 ||| ((1 : Int32) <<< (x9 &&& 31))), .int x9] (vv.toList ++ []) SS II JJ Q)) : Go d i_X7_chain 107 [.ref h0, .int x1, .int x2, .ref h3, .int x4, .int x5, .long j6, v7, .int x8, .int x9] [] S I J Q := by
  have h := (And.intro g1 kk)
  exact Go.n tb_X7_chain 11 h
theorem b_X7_chain_125 {d : Nat} {S : zS} {I : zI} {J : zJ} {Q : zQ} {h0 : Nat} {x1 : Int32} {x2 : Int32} {h3 : Nat} {x4 : Int32} {x5 : Int32} {j6 : Int64} {v7 : Value} {x8 : Int32} {x9 : Int32} {y0 : Int32} (kt : y0 = (0 : Int32) → Go d i_X7_chain 149 [.ref h0, .int x1, .int x2, .ref h3, .int x4, .int x5, .long j6, v7, .int x8, .int x9] [] S I J Q) (kf : ¬ y0 = (0 : Int32) → Go d i_X7_chain 128 [.ref h0, .int x1, .int x2, .ref h3, .int x4, .int x5, .long j6, v7, .int x8, .int x9] [] S I J Q) : Go d i_X7_chain 125 [.ref h0, .int x1, .int x2, .ref h3, .int x4, .int x5, .long j6, v7, .int x8, .int x9] [.int y0] S I J Q := by
  have h := (Go.ite kt kf)
  exact Go.n tb_X7_chain 1 h
theorem b_X7_chain_128 {d : Nat} {S : zS} {I : zI} {J : zJ} {Q : zQ} {h0 : Nat} {x1 : Int32} {x2 : Int32} {h3 : Nat} {x4 : Int32} {x5 : Int32} {j6 : Int64} {v7 : Value} {x8 : Int32} {x9 : Int32} (g1 : z_kd S h0 = 8) (kk : z_wp d i_X7_complete [.ref h0, .int (x1 + (1 : Int32)), .int (x2 ||| ((1 : Int32) <<< (x4 &&& 31)))] S I J (fun vv SS II JJ => Go d i_X7_chain 141 [.ref h0, .int x1, .int x2, .ref h3, .int x4, .int x5, .long j6, v7, .int x8, .int x9] (vv.toList ++ []) SS II JJ Q)) : Go d i_X7_chain 128 [.ref h0, .int x1, .int x2, .ref h3, .int x4, .int x5, .long j6, v7, .int x8, .int x9] [] S I J Q := by
  have h := (And.intro g1 kk)
  exact Go.n tb_X7_chain 10 h
theorem b_X7_chain_141 {d : Nat} {S : zS} {I : zI} {J : zJ} {Q : zQ} {h0 : Nat} {x1 : Int32} {x2 : Int32} {h3 : Nat} {x4 : Int32} {x5 : Int32} {j6 : Int64} {v7 : Value} {x8 : Int32} {x9 : Int32} {y0 : Int32} (kt : y0 = (0 : Int32) → Go d i_X7_chain 149 [.ref h0, .int x1, .int x2, .ref h3, .int x4, .int x5, .long j6, v7, .int x8, .int x9] [] S I J Q) (kf : ¬ y0 = (0 : Int32) → Go d i_X7_chain 144 [.ref h0, .int x1, .int x2, .ref h3, .int x4, .int x5, .long j6, v7, .int x8, .int x9] [] S I J Q) : Go d i_X7_chain 141 [.ref h0, .int x1, .int x2, .ref h3, .int x4, .int x5, .long j6, v7, .int x8, .int x9] [.int y0] S I J Q := by
  have h := (Go.ite kt kf)
  exact Go.n tb_X7_chain 1 h
theorem b_X7_chain_144 {d : Nat} {S : zS} {I : zI} {J : zJ} {Q : zQ} {h0 : Nat} {x1 : Int32} {x2 : Int32} {h3 : Nat} {x4 : Int32} {x5 : Int32} {j6 : Int64} {v7 : Value} {x8 : Int32} {x9 : Int32} (g1 : z_kd S h0 = 8) (kk : z_wp d i_X7_joinOrbits [.ref h0, .ref h3] S I J (fun vv SS II JJ => Go d i_X7_chain 149 [.ref h0, .int x1, .int x2, .ref h3, .int x4, .int x5, .long j6, v7, .int x8, .int x9] (vv.toList ++ []) SS II JJ Q)) : Go d i_X7_chain 144 [.ref h0, .int x1, .int x2, .ref h3, .int x4, .int x5, .long j6, v7, .int x8, .int x9] [] S I J Q := by
  have h := (And.intro g1 kk)
  exact Go.n tb_X7_chain 3 h
theorem b_X7_chain_149 {d : Nat} {S : zS} {I : zI} {J : zJ} {Q : zQ} {h0 : Nat} {x1 : Int32} {x2 : Int32} {h3 : Nat} {x4 : Int32} {x5 : Int32} {j6 : Int64} {v7 : Value} {x8 : Int32} {x9 : Int32} (kk : Go d i_X7_chain 78 [.ref h0, .int x1, .int x2, .ref h3, .int x4, .int x5, .long j6, v7, .int x8, .int (x9 + (1 : Int32))] [] S I J Q) : Go d i_X7_chain 149 [.ref h0, .int x1, .int x2, .ref h3, .int x4, .int x5, .long j6, v7, .int x8, .int x9] [] S I J Q := by
  have h := kk
  exact Go.n tb_X7_chain 2 h
theorem b_X7_chain_155 {d : Nat} {S : zS} {I : zI} {J : zJ} {Q : zQ} {h0 : Nat} {x1 : Int32} {x2 : Int32} {h3 : Nat} {x4 : Int32} {x5 : Int32} {j6 : Int64} {v7 : Value} {x8 : Int32} {x9 : Int32} (g1 : z_isI (z_kd S h3) = true ∧ vp_in x4 (z_ln S h3)) (kk : z_wp d i_J6_bitCount_0f7a4 [.int (I h3 (Int32.toNatClampNeg x4))] S I J (fun vv SS II JJ => Go d i_X7_chain 164 [.ref h0, .int x1, .int x2, .ref h3, .int x4, .int x5, .long j6, v7, .int x8, .int x9] (vv.toList ++ [.long j6]) SS II JJ Q)) : Go d i_X7_chain 155 [.ref h0, .int x1, .int x2, .ref h3, .int x4, .int x5, .long j6, v7, .int x8, .int x9] [] S I J Q := by
  have h := (And.intro g1 (And.intro trivial kk))
  exact Go.n tb_X7_chain 5 h
theorem b_X7_chain_164 {d : Nat} {S : zS} {I : zI} {J : zJ} {Q : zQ} {h0 : Nat} {x1 : Int32} {x2 : Int32} {h3 : Nat} {x4 : Int32} {x5 : Int32} {j6 : Int64} {v7 : Value} {x8 : Int32} {x9 : Int32} {w0 : Int64} {y1 : Int32} (kk : Q (some (.long (w0 * (Int32.toInt64 y1)))) S I J) : Go d i_X7_chain 164 [.ref h0, .int x1, .int x2, .ref h3, .int x4, .int x5, .long j6, v7, .int x8, .int x9] [.int y1, .long w0] S I J Q := by
  have h := (And.intro trivial kk)
  exact Go.n tb_X7_chain 3 h
theorem w_X7_joinOrbits {d : Nat} {S : zS} {I : zI} {J : zJ} {Q : zQ} {h0 : Nat} {h1 : Nat} (h : Go d i_X7_joinOrbits 0 [.ref h0, .ref h1, .retAddr 0, .retAddr 0, .retAddr 0] [] S I J Q) : z_wp (d + 1) i_X7_joinOrbits [.ref h0, .ref h1] S I J Q := Go.wp (Nat.le_of_ble_eq_true rfl) h
theorem e_X7_joinOrbits {d : Nat} {S S2 : zS} {I I2 : zI} {J J2 : zJ} {r : Option Value} {h0 : Nat} {h1 : Nat} (h : Go d i_X7_joinOrbits 0 [.ref h0, .ref h1, .retAddr 0, .retAddr 0, .retAddr 0] [] S I J (z_eq r S2 I2 J2)) : z_ev (d + 1) i_X7_joinOrbits [.ref h0, .ref h1] S I J r S2 I2 J2 := Go.ev (Nat.le_of_ble_eq_true rfl) h
theorem b_X7_joinOrbits_0 {d : Nat} {S : zS} {I : zI} {J : zJ} {Q : zQ} {h0 : Nat} {h1 : Nat} {v2 : Value} {v3 : Value} {v4 : Value} (kk : Go d i_X7_joinOrbits 2 [.ref h0, .ref h1, .int (0 : Int32), v3, v4] [] S I J Q) : Go d i_X7_joinOrbits 0 [.ref h0, .ref h1, v2, v3, v4] [] S I J Q := by
  have h := kk
  exact Go.n tb_X7_joinOrbits 2 h
theorem b_X7_joinOrbits_2 {d : Nat} {S : zS} {I : zI} {J : zJ} {Q : zQ} {h0 : Nat} {h1 : Nat} {x2 : Int32} {v3 : Value} {v4 : Value} (g1 : z_kd S h0 = 8) (kt : (I h0 2) ≤ x2 → Go d i_X7_joinOrbits 61 [.ref h0, .ref h1, .int x2, v3, v4] [] S I J Q) (kf : ¬ (I h0 2) ≤ x2 → Go d i_X7_joinOrbits 10 [.ref h0, .ref h1, .int x2, v3, v4] [] S I J Q) : Go d i_X7_joinOrbits 2 [.ref h0, .ref h1, .int x2, v3, v4] [] S I J Q := by
  have h := (And.intro g1 (Go.ite kt kf))
  exact Go.n tb_X7_joinOrbits 4 h
theorem b_X7_joinOrbits_10 {d : Nat} {S : zS} {I : zI} {J : zJ} {Q : zQ} {h0 : Nat} {h1 : Nat} {x2 : Int32} {v3 : Value} {v4 : Value} (g1 : z_isI (z_kd S h1) = true ∧ vp_in x2 (z_ln S h1)) (g2 : z_kd S h0 = 8) (g3 : z_isI (z_kd S (z_rv S h0 6)) = true ∧ vp_in x2 (z_ln S (z_rv S h0 6))) (g4 : z_isI (z_kd S h1) = true ∧ vp_in (I (z_rv S h0 6) (Int32.toNatClampNeg x2)) (z_ln S h1)) (kk : Go d i_X7_joinOrbits 26 [.ref h0, .ref h1, .int x2, .int ((I h1 (Int32.toNatClampNeg x2)) ||| (I h1 (Int32.toNatClampNeg (I (z_rv S h0 6) (Int32.toNatClampNeg x2))))), .int (0 : Int32)] [] S I J Q) : Go d i_X7_joinOrbits 10 [.ref h0, .ref h1, .int x2, v3, v4] [] S I J Q := by
  have h := (And.intro g1 (And.intro g2 (And.intro g3 (And.intro g4 kk))))
  exact Go.n tb_X7_joinOrbits 13 h
theorem b_X7_joinOrbits_26 {d : Nat} {S : zS} {I : zI} {J : zJ} {Q : zQ} {h0 : Nat} {h1 : Nat} {x2 : Int32} {x3 : Int32} {x4 : Int32} (g1 : z_kd S h0 = 8) (kt : (I h0 2) ≤ x4 → Go d i_X7_joinOrbits 55 [.ref h0, .ref h1, .int x2, .int x3, .int x4] [] S I J Q) (kf : ¬ (I h0 2) ≤ x4 → Go d i_X7_joinOrbits 35 [.ref h0, .ref h1, .int x2, .int x3, .int x4] [] S I J Q) : Go d i_X7_joinOrbits 26 [.ref h0, .ref h1, .int x2, .int x3, .int x4] [] S I J Q := by
  have h := (And.intro g1 (Go.ite kt kf))
  exact Go.n tb_X7_joinOrbits 4 h
theorem b_X7_joinOrbits_35 {d : Nat} {S : zS} {I : zI} {J : zJ} {Q : zQ} {h0 : Nat} {h1 : Nat} {x2 : Int32} {x3 : Int32} {x4 : Int32} (kt : ((x3 >>> (x4 &&& 31)) &&& (1 : Int32)) = (0 : Int32) → Go d i_X7_joinOrbits 49 [.ref h0, .ref h1, .int x2, .int x3, .int x4] [] S I J Q) (kf : ¬ ((x3 >>> (x4 &&& 31)) &&& (1 : Int32)) = (0 : Int32) → Go d i_X7_joinOrbits 44 [.ref h0, .ref h1, .int x2, .int x3, .int x4] [] S I J Q) : Go d i_X7_joinOrbits 35 [.ref h0, .ref h1, .int x2, .int x3, .int x4] [] S I J Q := by
  have h := (Go.ite kt kf)
  exact Go.n tb_X7_joinOrbits 6 h
theorem b_X7_joinOrbits_44 {d : Nat} {S : zS} {I : zI} {J : zJ} {Q : zQ} {h0 : Nat} {h1 : Nat} {x2 : Int32} {x3 : Int32} {x4 : Int32} (g1 : z_kd S h1 = 100 ∧ vp_in x4 (z_ln S h1)) (kk : Go d i_X7_joinOrbits 26 [.ref h0, .ref h1, .int x2, .int x3, .int (x4 + (1 : Int32))] [] S (z_u2 I h1 (Int32.toNatClampNeg x4) x3) J Q) : Go d i_X7_joinOrbits 44 [.ref h0, .ref h1, .int x2, .int x3, .int x4] [] S I J Q := by
  have h := (And.intro g1 kk)
  exact Go.n tb_X7_joinOrbits 6 h
theorem b_X7_joinOrbits_49 {d : Nat} {S : zS} {I : zI} {J : zJ} {Q : zQ} {h0 : Nat} {h1 : Nat} {x2 : Int32} {x3 : Int32} {x4 : Int32} (kk : Go d i_X7_joinOrbits 26 [.ref h0, .ref h1, .int x2, .int x3, .int (x4 + (1 : Int32))] [] S I J Q) : Go d i_X7_joinOrbits 49 [.ref h0, .ref h1, .int x2, .int x3, .int x4] [] S I J Q := by
  have h := kk
  exact Go.n tb_X7_joinOrbits 2 h
theorem b_X7_joinOrbits_55 {d : Nat} {S : zS} {I : zI} {J : zJ} {Q : zQ} {h0 : Nat} {h1 : Nat} {x2 : Int32} {x3 : Int32} {x4 : Int32} (kk : Go d i_X7_joinOrbits 2 [.ref h0, .ref h1, .int (x2 + (1 : Int32)), .int x3, .int x4] [] S I J Q) : Go d i_X7_joinOrbits 55 [.ref h0, .ref h1, .int x2, .int x3, .int x4] [] S I J Q := by
  have h := kk
  exact Go.n tb_X7_joinOrbits 2 h
theorem b_X7_joinOrbits_61 {d : Nat} {S : zS} {I : zI} {J : zJ} {Q : zQ} {h0 : Nat} {h1 : Nat} {x2 : Int32} {v3 : Value} {v4 : Value} (kk : Q none S I J) : Go d i_X7_joinOrbits 61 [.ref h0, .ref h1, .int x2, v3, v4] [] S I J Q := by
  have h := (And.intro trivial kk)
  exact Go.n tb_X7_joinOrbits 1 h

theorem w_X0_init {d : Nat} {S : zS} {I : zI} {J : zJ} {Q : zQ} {h0 : Nat} (h : Go d i_X0_init 0 [.ref h0] [] S I J Q) : z_wp (d + 1) i_X0_init [.ref h0] S I J Q := Go.wp (Nat.le_of_ble_eq_true rfl) h
theorem e_X0_init {d : Nat} {S S2 : zS} {I I2 : zI} {J J2 : zJ} {r : Option Value} {h0 : Nat} (h : Go d i_X0_init 0 [.ref h0] [] S I J (z_eq r S2 I2 J2)) : z_ev (d + 1) i_X0_init [.ref h0] S I J r S2 I2 J2 := Go.ev (Nat.le_of_ble_eq_true rfl) h
theorem b_X0_init_0 {d : Nat} {S : zS} {I : zI} {J : zJ} {Q : zQ} {h0 : Nat} (g1 : ¬ h0 = 0) (g2 : ¬ (20 : Int32) < 0 ∧ (Int32.toNatClampNeg (20 : Int32)) * 4 ≤ 536870912) (g3 : z_kd (z_new S 100 (Int32.toNatClampNeg (20 : Int32)) (Int32.toNatClampNeg (20 : Int32))) h0 = 1) (kk : Go d i_X0_init 12 [.ref h0] [] (z_setR (z_new S 100 (Int32.toNatClampNeg (20 : Int32)) (Int32.toNatClampNeg (20 : Int32))) h0 2 (z_sz S + 1)) (z_ur I (z_sz S + 1) (fun _ => 0)) J Q) : Go d i_X0_init 0 [.ref h0] [] S I J Q := by
  have h := (And.intro g1 (And.intro g2 (And.intro g3 kk)))
  exact Go.n tb_X0_init 6 h
theorem b_X0_init_12 {d : Nat} {S : zS} {I : zI} {J : zJ} {Q : zQ} {h0 : Nat} (g1 : ¬ (20 : Int32) < 0 ∧ (Int32.toNatClampNeg (20 : Int32)) * 4 ≤ 536870912) (g2 : z_kd (z_new S 100 (Int32.toNatClampNeg (20 : Int32)) (Int32.toNatClampNeg (20 : Int32))) h0 = 1) (kk : Go d i_X0_init 20 [.ref h0] [] (z_setR (z_new S 100 (Int32.toNatClampNeg (20 : Int32)) (Int32.toNatClampNeg (20 : Int32))) h0 3 (z_sz S + 1)) (z_ur I (z_sz S + 1) (fun _ => 0)) J Q) : Go d i_X0_init 12 [.ref h0] [] S I J Q := by
  have h := (And.intro g1 (And.intro g2 kk))
  exact Go.n tb_X0_init 4 h
theorem b_X0_init_20 {d : Nat} {S : zS} {I : zI} {J : zJ} {Q : zQ} {h0 : Nat} (g1 : ¬ (20 : Int32) < 0 ∧ (Int32.toNatClampNeg (20 : Int32)) * 4 ≤ 536870912) (g2 : z_kd (z_new S 100 (Int32.toNatClampNeg (20 : Int32)) (Int32.toNatClampNeg (20 : Int32))) h0 = 1) (kk : Go d i_X0_init 28 [.ref h0] [] (z_setR (z_new S 100 (Int32.toNatClampNeg (20 : Int32)) (Int32.toNatClampNeg (20 : Int32))) h0 4 (z_sz S + 1)) (z_ur I (z_sz S + 1) (fun _ => 0)) J Q) : Go d i_X0_init 20 [.ref h0] [] S I J Q := by
  have h := (And.intro g1 (And.intro g2 kk))
  exact Go.n tb_X0_init 4 h
theorem b_X0_init_28 {d : Nat} {S : zS} {I : zI} {J : zJ} {Q : zQ} {h0 : Nat} (g1 : ¬ (20 : Int32) < 0 ∧ (Int32.toNatClampNeg (20 : Int32)) * 4 ≤ 536870912) (g2 : z_kd (z_new S 100 (Int32.toNatClampNeg (20 : Int32)) (Int32.toNatClampNeg (20 : Int32))) h0 = 1) (kk : Go d i_X0_init 36 [.ref h0] [] (z_setR (z_new S 100 (Int32.toNatClampNeg (20 : Int32)) (Int32.toNatClampNeg (20 : Int32))) h0 5 (z_sz S + 1)) (z_ur I (z_sz S + 1) (fun _ => 0)) J Q) : Go d i_X0_init 28 [.ref h0] [] S I J Q := by
  have h := (And.intro g1 (And.intro g2 kk))
  exact Go.n tb_X0_init 4 h
theorem b_X0_init_36 {d : Nat} {S : zS} {I : zI} {J : zJ} {Q : zQ} {h0 : Nat} (g1 : ¬ (400 : Int32) < 0 ∧ (Int32.toNatClampNeg (400 : Int32)) * 4 ≤ 536870912) (g2 : z_kd (z_new S 100 (Int32.toNatClampNeg (400 : Int32)) (Int32.toNatClampNeg (400 : Int32))) h0 = 1) (kk : Go d i_X0_init 45 [.ref h0] [] (z_setR (z_new S 100 (Int32.toNatClampNeg (400 : Int32)) (Int32.toNatClampNeg (400 : Int32))) h0 6 (z_sz S + 1)) (z_ur I (z_sz S + 1) (fun _ => 0)) J Q) : Go d i_X0_init 36 [.ref h0] [] S I J Q := by
  have h := (And.intro g1 (And.intro g2 kk))
  exact Go.n tb_X0_init 4 h
theorem b_X0_init_45 {d : Nat} {S : zS} {I : zI} {J : zJ} {Q : zQ} {h0 : Nat} (g1 : ¬ (400 : Int32) < 0 ∧ (Int32.toNatClampNeg (400 : Int32)) * 4 ≤ 536870912) (g2 : z_kd (z_new S 100 (Int32.toNatClampNeg (400 : Int32)) (Int32.toNatClampNeg (400 : Int32))) h0 = 1) (kk : Go d i_X0_init 54 [.ref h0] [] (z_setR (z_new S 100 (Int32.toNatClampNeg (400 : Int32)) (Int32.toNatClampNeg (400 : Int32))) h0 7 (z_sz S + 1)) (z_ur I (z_sz S + 1) (fun _ => 0)) J Q) : Go d i_X0_init 45 [.ref h0] [] S I J Q := by
  have h := (And.intro g1 (And.intro g2 kk))
  exact Go.n tb_X0_init 4 h
theorem b_X0_init_54 {d : Nat} {S : zS} {I : zI} {J : zJ} {Q : zQ} {h0 : Nat} (g1 : ¬ (20 : Int32) < 0 ∧ (Int32.toNatClampNeg (20 : Int32)) * 4 ≤ 536870912) (g2 : z_kd (z_new S 100 (Int32.toNatClampNeg (20 : Int32)) (Int32.toNatClampNeg (20 : Int32))) h0 = 1) (kk : Go d i_X0_init 62 [.ref h0] [] (z_setR (z_new S 100 (Int32.toNatClampNeg (20 : Int32)) (Int32.toNatClampNeg (20 : Int32))) h0 8 (z_sz S + 1)) (z_ur I (z_sz S + 1) (fun _ => 0)) J Q) : Go d i_X0_init 54 [.ref h0] [] S I J Q := by
  have h := (And.intro g1 (And.intro g2 kk))
  exact Go.n tb_X0_init 4 h
theorem b_X0_init_62 {d : Nat} {S : zS} {I : zI} {J : zJ} {Q : zQ} {h0 : Nat} (g1 : z_kd S h0 = 1) (kk : Go d i_X0_init 67 [.ref h0] [] S (z_u2 I h0 0 (0 : Int32)) J Q) : Go d i_X0_init 62 [.ref h0] [] S I J Q := by
  have h := (And.intro g1 kk)
  exact Go.n tb_X0_init 3 h
theorem b_X0_init_67 {d : Nat} {S : zS} {I : zI} {J : zJ} {Q : zQ} {h0 : Nat} (g1 : z_kd S h0 = 1) (kk : Go d i_X0_init 72 [.ref h0] [] S (z_u2 I h0 1 (0 : Int32)) J Q) : Go d i_X0_init 67 [.ref h0] [] S I J Q := by
  have h := (And.intro g1 kk)
  exact Go.n tb_X0_init 3 h
theorem b_X0_init_72 {d : Nat} {S : zS} {I : zI} {J : zJ} {Q : zQ} {h0 : Nat} (kk : Q none S I J) : Go d i_X0_init 72 [.ref h0] [] S I J Q := by
  have h := (And.intro trivial kk)
  exact Go.n tb_X0_init 1 h
theorem w_X0_paint {d : Nat} {S : zS} {I : zI} {J : zJ} {Q : zQ} {h0 : Nat} {h1 : Nat} {x2 : Int32} (h : Go d i_X0_paint 0 [.ref h0, .ref h1, .int x2, .retAddr 0, .retAddr 0] [] S I J Q) : z_wp (d + 1) i_X0_paint [.ref h0, .ref h1, .int x2] S I J Q := Go.wp (Nat.le_of_ble_eq_true rfl) h
theorem e_X0_paint {d : Nat} {S S2 : zS} {I I2 : zI} {J J2 : zJ} {r : Option Value} {h0 : Nat} {h1 : Nat} {x2 : Int32} (h : Go d i_X0_paint 0 [.ref h0, .ref h1, .int x2, .retAddr 0, .retAddr 0] [] S I J (z_eq r S2 I2 J2)) : z_ev (d + 1) i_X0_paint [.ref h0, .ref h1, .int x2] S I J r S2 I2 J2 := Go.ev (Nat.le_of_ble_eq_true rfl) h
theorem b_X0_paint_0 {d : Nat} {S : zS} {I : zI} {J : zJ} {Q : zQ} {h0 : Nat} {h1 : Nat} {x2 : Int32} {v3 : Value} {v4 : Value} (g1 : z_kd S h1 = 2) (g2 : z_kd S h0 = 1) (kk : Go d i_X0_paint 10 [.ref h0, .ref h1, .int x2, .int (0 : Int32), v4] [] S (z_u2 I h0 0 (I h1 0)) J Q) : Go d i_X0_paint 0 [.ref h0, .ref h1, .int x2, v3, v4] [] S I J Q := by
  have h := (And.intro g1 (And.intro g2 kk))
  exact Go.n tb_X0_paint 6 h
theorem b_X0_paint_10 {d : Nat} {S : zS} {I : zI} {J : zJ} {Q : zQ} {h0 : Nat} {h1 : Nat} {x2 : Int32} {x3 : Int32} {v4 : Value} (g1 : z_kd S h0 = 1) (kt : (I h0 0) ≤ x3 → Go d i_X0_paint 58 [.ref h0, .ref h1, .int x2, .int x3, v4] [] S I J Q) (kf : ¬ (I h0 0) ≤ x3 → Go d i_X0_paint 18 [.ref h0, .ref h1, .int x2, .int x3, v4] [] S I J Q) : Go d i_X0_paint 10 [.ref h0, .ref h1, .int x2, .int x3, v4] [] S I J Q := by
  have h := (And.intro g1 (Go.ite kt kf))
  exact Go.n tb_X0_paint 4 h
theorem b_X0_paint_18 {d : Nat} {S : zS} {I : zI} {J : zJ} {Q : zQ} {h0 : Nat} {h1 : Nat} {x2 : Int32} {x3 : Int32} {v4 : Value} (g1 : z_kd S h0 = 1) (kt : ¬ x3 = (0 : Int32) → Go d i_X0_paint 31 [.ref h0, .ref h1, .int x2, .int x3, v4] [.int x3, .ref (z_rv S h0 2)] S I J Q) (kf : x3 = (0 : Int32) → Go d i_X0_paint 27 [.ref h0, .ref h1, .int x2, .int x3, v4] [.int x3, .ref (z_rv S h0 2)] S I J Q) : Go d i_X0_paint 18 [.ref h0, .ref h1, .int x2, .int x3, v4] [] S I J Q := by
  have h := (And.intro g1 (Go.eti kt kf))
  exact Go.n tb_X0_paint 5 h
theorem b_X0_paint_27 {d : Nat} {S : zS} {I : zI} {J : zJ} {Q : zQ} {h0 : Nat} {h1 : Nat} {x2 : Int32} {x3 : Int32} {v4 : Value} {q0 : Nat} {y1 : Int32} (g1 : z_kd S q0 = 100 ∧ vp_in y1 (z_ln S q0)) (kk : Go d i_X0_paint 10 [.ref h0, .ref h1, .int x2, .int (x3 + (1 : Int32)), v4] [] S (z_u2 I q0 (Int32.toNatClampNeg y1) (0 : Int32)) J Q) : Go d i_X0_paint 27 [.ref h0, .ref h1, .int x2, .int x3, v4] [.int y1, .ref q0] S I J Q := by
  have h := (And.intro g1 kk)
  exact Go.n tb_X0_paint 5 h
theorem b_X0_paint_31 {d : Nat} {S : zS} {I : zI} {J : zJ} {Q : zQ} {h0 : Nat} {h1 : Nat} {x2 : Int32} {x3 : Int32} {v4 : Value} {q0 : Nat} {y1 : Int32} {z1 : Int32} (g1 : z_kd S h1 = 2) (g2 : z_isI (z_kd S (z_rv S h1 2)) = true ∧ vp_in x3 (z_ln S (z_rv S h1 2))) (ez1 : z1 = (((1 : Int32) + ((x2 >>> (x3 &&& 31)) &&& (1 : Int32))) + ((2 : Int32) * ((x2 >>> ((I (z_rv S h1 2) (Int32.toNatClampNeg x3)) &&& 31)) &&& (1 : Int32))))) (g4 : z_kd S q0 = 100 ∧ vp_in y1 (z_ln S q0)) (kk : Go d i_X0_paint 10 [.ref h0, .ref h1, .int x2, .int (x3 + (1 : Int32)), v4] [] S (z_u2 I q0 (Int32.toNatClampNeg y1) z1) J Q) : Go d i_X0_paint 31 [.ref h0, .ref h1, .int x2, .int x3, v4] [.int y1, .ref q0] S I J Q := by
  subst ez1
  have h := (And.intro g1 (And.intro g2 (And.intro g4 kk)))
  exact Go.n tb_X0_paint 21 h
theorem b_X0_paint_58 {d : Nat} {S : zS} {I : zI} {J : zJ} {Q : zQ} {h0 : Nat} {h1 : Nat} {x2 : Int32} {x3 : Int32} {v4 : Value} (g1 : z_kd S h0 = 1) (kk : z_wp d i_X0_sortOut [.ref h0] S I J (fun vv SS II JJ => Go d i_X0_paint 62 [.ref h0, .ref h1, .int x2, .int x3, v4] (vv.toList ++ []) SS II JJ Q)) : Go d i_X0_paint 58 [.ref h0, .ref h1, .int x2, .int x3, v4] [] S I J Q := by
  have h := (And.intro g1 kk)
  exact Go.n tb_X0_paint 2 h
theorem b_X0_paint_62 {d : Nat} {S : zS} {I : zI} {J : zJ} {Q : zQ} {h0 : Nat} {h1 : Nat} {x2 : Int32} {x3 : Int32} {v4 : Value} (kk : Go d i_X0_paint 64 [.ref h0, .ref h1, .int x2, .int (0 : Int32), v4] [] S I J Q) : Go d i_X0_paint 62 [.ref h0, .ref h1, .int x2, .int x3, v4] [] S I J Q := by
  have h := kk
  exact Go.n tb_X0_paint 2 h
theorem b_X0_paint_64 {d : Nat} {S : zS} {I : zI} {J : zJ} {Q : zQ} {h0 : Nat} {h1 : Nat} {x2 : Int32} {x3 : Int32} {v4 : Value} (g1 : z_kd S h0 = 1) (kt : (I h0 0) ≤ x3 → Go d i_X0_paint 103 [.ref h0, .ref h1, .int x2, .int x3, v4] [] S I J Q) (kf : ¬ (I h0 0) ≤ x3 → Go d i_X0_paint 72 [.ref h0, .ref h1, .int x2, .int x3, v4] [] S I J Q) : Go d i_X0_paint 64 [.ref h0, .ref h1, .int x2, .int x3, v4] [] S I J Q := by
  have h := (And.intro g1 (Go.ite kt kf))
  exact Go.n tb_X0_paint 4 h
theorem b_X0_paint_72 {d : Nat} {S : zS} {I : zI} {J : zJ} {Q : zQ} {h0 : Nat} {h1 : Nat} {x2 : Int32} {x3 : Int32} {v4 : Value} (g1 : z_kd S h0 = 1) (g2 : z_kd S h0 = 1) (kk : z_wp d i_X0_refine [.ref h0, .ref h1] S I J (fun vv SS II JJ => Go d i_X0_paint 83 [.ref h0, .ref h1, .int x2, .int x3, .int (I h0 1)] (vv.toList ++ []) SS II JJ Q)) : Go d i_X0_paint 72 [.ref h0, .ref h1, .int x2, .int x3, v4] [] S I J Q := by
  have h := (And.intro g1 (And.intro g2 kk))
  exact Go.n tb_X0_paint 6 h
theorem b_X0_paint_83 {d : Nat} {S : zS} {I : zI} {J : zJ} {Q : zQ} {h0 : Nat} {h1 : Nat} {x2 : Int32} {x3 : Int32} {x4 : Int32} (g1 : z_kd S h0 = 1) (kk : z_wp d i_X0_sortOut [.ref h0] S I J (fun vv SS II JJ => Go d i_X0_paint 87 [.ref h0, .ref h1, .int x2, .int x3, .int x4] (vv.toList ++ []) SS II JJ Q)) : Go d i_X0_paint 83 [.ref h0, .ref h1, .int x2, .int x3, .int x4] [] S I J Q := by
  have h := (And.intro g1 kk)
  exact Go.n tb_X0_paint 2 h
theorem b_X0_paint_87 {d : Nat} {S : zS} {I : zI} {J : zJ} {Q : zQ} {h0 : Nat} {h1 : Nat} {x2 : Int32} {x3 : Int32} {x4 : Int32} (g1 : z_kd S h0 = 1) (kt : ¬ (I h0 1) = x4 → Go d i_X0_paint 97 [.ref h0, .ref h1, .int x2, .int x3, .int x4] [] S I J Q) (kf : (I h0 1) = x4 → Go d i_X0_paint 96 [.ref h0, .ref h1, .int x2, .int x3, .int x4] [] S I J Q) : Go d i_X0_paint 87 [.ref h0, .ref h1, .int x2, .int x3, .int x4] [] S I J Q := by
  have h := (And.intro g1 (Go.eti kt kf))
  exact Go.n tb_X0_paint 4 h
theorem b_X0_paint_96 {d : Nat} {S : zS} {I : zI} {J : zJ} {Q : zQ} {h0 : Nat} {h1 : Nat} {x2 : Int32} {x3 : Int32} {x4 : Int32} (kk : Q none S I J) : Go d i_X0_paint 96 [.ref h0, .ref h1, .int x2, .int x3, .int x4] [] S I J Q := by
  have h := (And.intro trivial kk)
  exact Go.n tb_X0_paint 1 h
theorem b_X0_paint_97 {d : Nat} {S : zS} {I : zI} {J : zJ} {Q : zQ} {h0 : Nat} {h1 : Nat} {x2 : Int32} {x3 : Int32} {x4 : Int32} (kk : Go d i_X0_paint 64 [.ref h0, .ref h1, .int x2, .int (x3 + (1 : Int32)), .int x4] [] S I J Q) : Go d i_X0_paint 97 [.ref h0, .ref h1, .int x2, .int x3, .int x4] [] S I J Q := by
  have h := kk
  exact Go.n tb_X0_paint 2 h
theorem b_X0_paint_103 {d : Nat} {S : zS} {I : zI} {J : zJ} {Q : zQ} {h0 : Nat} {h1 : Nat} {x2 : Int32} {x3 : Int32} {v4 : Value} (kk : Q none S I J) : Go d i_X0_paint 103 [.ref h0, .ref h1, .int x2, .int x3, v4] [] S I J Q := by
  have h := (And.intro trivial kk)
  exact Go.n tb_X0_paint 1 h
theorem w_X0_refine {d : Nat} {S : zS} {I : zI} {J : zJ} {Q : zQ} {h0 : Nat} {h1 : Nat} (h : Go d i_X0_refine 0 [.ref h0, .ref h1, .retAddr 0, .retAddr 0, .retAddr 0, .retAddr 0] [] S I J Q) : z_wp (d + 1) i_X0_refine [.ref h0, .ref h1] S I J Q := Go.wp (Nat.le_of_ble_eq_true rfl) h
theorem e_X0_refine {d : Nat} {S S2 : zS} {I I2 : zI} {J J2 : zJ} {r : Option Value} {h0 : Nat} {h1 : Nat} (h : Go d i_X0_refine 0 [.ref h0, .ref h1, .retAddr 0, .retAddr 0, .retAddr 0, .retAddr 0] [] S I J (z_eq r S2 I2 J2)) : z_ev (d + 1) i_X0_refine [.ref h0, .ref h1] S I J r S2 I2 J2 := Go.ev (Nat.le_of_ble_eq_true rfl) h
theorem b_X0_refine_0 {d : Nat} {S : zS} {I : zI} {J : zJ} {Q : zQ} {h0 : Nat} {h1 : Nat} {v2 : Value} {v3 : Value} {v4 : Value} {v5 : Value} (g1 : z_kd S h1 = 2) (g2 : ¬ (z_rv S h1 1) = 0) (kk : Go d i_X0_refine 7 [.ref h0, .ref h1, .ref (z_rv S h1 1), .int (0 : Int32), v4, v5] [] S I J Q) : Go d i_X0_refine 0 [.ref h0, .ref h1, v2, v3, v4, v5] [] S I J Q := by
  have h := (And.intro g1 (And.intro g2 kk))
  exact Go.n tb_X0_refine 5 h
theorem b_X0_refine_7 {d : Nat} {S : zS} {I : zI} {J : zJ} {Q : zQ} {h0 : Nat} {h1 : Nat} {h2 : Nat} {x3 : Int32} {v4 : Value} {v5 : Value} (g1 : z_kd S h0 = 1) (kt : (I h0 0) ≤ x3 → Go d i_X0_refine 108 [.ref h0, .ref h1, .ref h2, .int x3, v4, v5] [] S I J Q) (kf : ¬ (I h0 0) ≤ x3 → Go d i_X0_refine 15 [.ref h0, .ref h1, .ref h2, .int x3, v4, v5] [] S I J Q) : Go d i_X0_refine 7 [.ref h0, .ref h1, .ref h2, .int x3, v4, v5] [] S I J Q := by
  have h := (And.intro g1 (Go.ite kt kf))
  exact Go.n tb_X0_refine 4 h
theorem b_X0_refine_15 {d : Nat} {S : zS} {I : zI} {J : zJ} {Q : zQ} {h0 : Nat} {h1 : Nat} {h2 : Nat} {x3 : Int32} {v4 : Value} {v5 : Value} (kk : Go d i_X0_refine 21 [.ref h0, .ref h1, .ref h2, .int x3, .int (0 : Int32), .int (0 : Int32)] [] S I J Q) : Go d i_X0_refine 15 [.ref h0, .ref h1, .ref h2, .int x3, v4, v5] [] S I J Q := by
  have h := kk
  exact Go.n tb_X0_refine 4 h
theorem b_X0_refine_21 {d : Nat} {S : zS} {I : zI} {J : zJ} {Q : zQ} {h0 : Nat} {h1 : Nat} {h2 : Nat} {x3 : Int32} {x4 : Int32} {x5 : Int32} (g1 : z_kd S h0 = 1) (kt : (I h0 0) ≤ x5 → Go d i_X0_refine 72 [.ref h0, .ref h1, .ref h2, .int x3, .int x4, .int x5] [] S I J Q) (kf : ¬ (I h0 0) ≤ x5 → Go d i_X0_refine 30 [.ref h0, .ref h1, .ref h2, .int x3, .int x4, .int x5] [] S I J Q) : Go d i_X0_refine 21 [.ref h0, .ref h1, .ref h2, .int x3, .int x4, .int x5] [] S I J Q := by
  have h := (And.intro g1 (Go.ite kt kf))
  exact Go.n tb_X0_refine 4 h
theorem b_X0_refine_30 {d : Nat} {S : zS} {I : zI} {J : zJ} {Q : zQ} {h0 : Nat} {h1 : Nat} {h2 : Nat} {x3 : Int32} {x4 : Int32} {x5 : Int32} (g1 : z_kd S h0 = 1) (g2 : z_isI (z_kd S (z_rv S h0 2)) = true ∧ vp_in x5 (z_ln S (z_rv S h0 2))) (g3 : z_kd S h0 = 1) (g4 : z_kd S h1 = 2) (g5 : z_isI (z_kd S (z_rv S h1 2)) = true ∧ vp_in x5 (z_ln S (z_rv S h1 2))) (g6 : z_kd S h0 = 1) (g7 : z_isI (z_kd S h2) = true ∧ vp_in (((I (z_rv S h1 2) (Int32.toNatClampNeg x5)) * (I h0 0)) + x3) (z_ln S h2)) (g8 : z_isI (z_kd S (z_rv S h0 2)) = true ∧ vp_in (I h2 (Int32.toNatClampNeg (((I (z_rv S h1 2) (Int32.toNatClampNeg x5)) * (I h0 0)) + x3))) (z_ln S (z_rv S h0 2))) (kk : z_wp d i_X0_mix [.int (I (z_rv S h0 2) (Int32.toNatClampNeg x5)), .int (I (z_rv S h0 2) (Int32.toNatClampNeg (I h2 (Int32.toNatClampNeg (((I (z_rv S h1 2) (Int32.toNatClampNeg x5)) * (I h0 0)) + x3)))))] S I J (fun vv SS II JJ => Go d i_X0_refine 63 [.ref h0, .ref h1, .ref h2, .int x3, .int x4, .int x5] (vv.toList ++ [.int x4]) SS II JJ Q)) : Go d i_X0_refine 30 [.ref h0, .ref h1, .ref h2, .int x3, .int x4, .int x5] [] S I J Q := by
  have h := (And.intro g1 (And.intro g2 (And.intro g3 (And.intro g4 (And.intro g5 (And.intro g6 (And.intro g7 (And.intro g8 (And.intro trivial kk)))))))))
  exact Go.n tb_X0_refine 20 h
theorem b_X0_refine_63 {d : Nat} {S : zS} {I : zI} {J : zJ} {Q : zQ} {h0 : Nat} {h1 : Nat} {h2 : Nat} {x3 : Int32} {x4 : Int32} {x5 : Int32} {y0 : Int32} {y1 : Int32} (kk : Go d i_X0_refine 21 [.ref h0, .ref h1, .ref h2, .int x3, .int (y0 + y1), .int (x5 + (1 : Int32))] [] S I J Q) : Go d i_X0_refine 63 [.ref h0, .ref h1, .ref h2, .int x3, .int x4, .int x5] [.int y1, .int y0] S I J Q := by
  have h := kk
  exact Go.n tb_X0_refine 4 h
theorem b_X0_refine_72 {d : Nat} {S : zS} {I : zI} {J : zJ} {Q : zQ} {h0 : Nat} {h1 : Nat} {h2 : Nat} {x3 : Int32} {x4 : Int32} {x5 : Int32} (g1 : z_kd S h0 = 1) (g2 : z_kd S h0 = 1) (g3 : z_isI (z_kd S (z_rv S h0 2)) = true ∧ vp_in x3 (z_ln S (z_rv S h0 2))) (kk : z_wp d i_X0_mix [.int (I (z_rv S h0 2) (Int32.toNatClampNeg x3)), .int x4] S I J (fun vv SS II JJ => Go d i_X0_refine 88 [.ref h0, .ref h1, .ref h2, .int x3, .int x4, .int x5] (vv.toList ++ [.int x3, .ref (z_rv S h0 8)]) SS II JJ Q)) : Go d i_X0_refine 72 [.ref h0, .ref h1, .ref h2, .int x3, .int x4, .int x5] [] S I J Q := by
  have h := (And.intro g1 (And.intro g2 (And.intro g3 (And.intro trivial kk))))
  exact Go.n tb_X0_refine 9 h
theorem b_X0_refine_88 {d : Nat} {S : zS} {I : zI} {J : zJ} {Q : zQ} {h0 : Nat} {h1 : Nat} {h2 : Nat} {x3 : Int32} {x4 : Int32} {x5 : Int32} {q0 : Nat} {y1 : Int32} {y2 : Int32} {I1 : zI} (g1 : z_kd S h0 = 1) (g2 : z_isI (z_kd S (z_rv S h0 2)) = true ∧ vp_in x3 (z_ln S (z_rv S h0 2))) (g3 : z_kd S q0 = 100 ∧ vp_in y1 (z_ln S q0)) (eI1 : I1 = z_u2 I q0 (Int32.toNatClampNeg y1) ((y2 &&& (-8 : Int32)) ||| ((I (z_rv S h0 2) (Int32.toNatClampNeg x3)) &&& (7 : Int32)))) (kk : Go d i_X0_refine 7 [.ref h0, .ref h1, .ref h2, .int (x3 + (1 : Int32)), .int x4, .int x5] [] S I1 J Q) : Go d i_X0_refine 88 [.ref h0, .ref h1, .ref h2, .int x3, .int x4, .int x5] [.int y2, .int y1, .ref q0] S I J Q := by
  subst eI1
  have h := (And.intro g1 (And.intro g2 (And.intro g3 kk)))
  exact Go.n tb_X0_refine 12 h
theorem b_X0_refine_108 {d : Nat} {S : zS} {I : zI} {J : zJ} {Q : zQ} {h0 : Nat} {h1 : Nat} {h2 : Nat} {x3 : Int32} {v4 : Value} {v5 : Value} (kk : Go d i_X0_refine 110 [.ref h0, .ref h1, .ref h2, .int (0 : Int32), v4, v5] [] S I J Q) : Go d i_X0_refine 108 [.ref h0, .ref h1, .ref h2, .int x3, v4, v5] [] S I J Q := by
  have h := kk
  exact Go.n tb_X0_refine 2 h
theorem b_X0_refine_110 {d : Nat} {S : zS} {I : zI} {J : zJ} {Q : zQ} {h0 : Nat} {h1 : Nat} {h2 : Nat} {x3 : Int32} {v4 : Value} {v5 : Value} (g1 : z_kd S h0 = 1) (kt : (I h0 0) ≤ x3 → Go d i_X0_refine 136 [.ref h0, .ref h1, .ref h2, .int x3, v4, v5] [] S I J Q) (kf : ¬ (I h0 0) ≤ x3 → Go d i_X0_refine 118 [.ref h0, .ref h1, .ref h2, .int x3, v4, v5] [] S I J Q) : Go d i_X0_refine 110 [.ref h0, .ref h1, .ref h2, .int x3, v4, v5] [] S I J Q := by
  have h := (And.intro g1 (Go.ite kt kf))
  exact Go.n tb_X0_refine 4 h
theorem b_X0_refine_118 {d : Nat} {S : zS} {I : zI} {J : zJ} {Q : zQ} {h0 : Nat} {h1 : Nat} {h2 : Nat} {x3 : Int32} {v4 : Value} {v5 : Value} (g1 : z_kd S h0 = 1) (g2 : z_kd S h0 = 1) (g3 : z_isI (z_kd S (z_rv S h0 8)) = true ∧ vp_in x3 (z_ln S (z_rv S h0 8))) (g4 : z_kd S (z_rv S h0 2) = 100 ∧ vp_in x3 (z_ln S (z_rv S h0 2))) (kk : Go d i_X0_refine 110 [.ref h0, .ref h1, .ref h2, .int (x3 + (1 : Int32)), v4, v5] [] S (z_u2 I (z_rv S h0 2) (Int32.toNatClampNeg x3) (I (z_rv S h0 8) (Int32.toNatClampNeg x3))) J Q) : Go d i_X0_refine 118 [.ref h0, .ref h1, .ref h2, .int x3, v4, v5] [] S I J Q := by
  have h := (And.intro g1 (And.intro g2 (And.intro g3 (And.intro g4 kk))))
  exact Go.n tb_X0_refine 10 h
theorem b_X0_refine_136 {d : Nat} {S : zS} {I : zI} {J : zJ} {Q : zQ} {h0 : Nat} {h1 : Nat} {h2 : Nat} {x3 : Int32} {v4 : Value} {v5 : Value} (kk : Q none S I J) : Go d i_X0_refine 136 [.ref h0, .ref h1, .ref h2, .int x3, v4, v5] [] S I J Q := by
  have h := (And.intro trivial kk)
  exact Go.n tb_X0_refine 1 h
theorem w_X0_mix {d : Nat} {S : zS} {I : zI} {J : zJ} {Q : zQ} {x0 : Int32} {x1 : Int32} (h : Go d i_X0_mix 0 [.int x0, .int x1, .retAddr 0] [] S I J Q) : z_wp (d + 1) i_X0_mix [.int x0, .int x1] S I J Q := Go.wp (Nat.le_of_ble_eq_true rfl) h
theorem e_X0_mix {d : Nat} {S S2 : zS} {I I2 : zI} {J J2 : zJ} {r : Option Value} {x0 : Int32} {x1 : Int32} (h : Go d i_X0_mix 0 [.int x0, .int x1, .retAddr 0] [] S I J (z_eq r S2 I2 J2)) : z_ev (d + 1) i_X0_mix [.int x0, .int x1] S I J r S2 I2 J2 := Go.ev (Nat.le_of_ble_eq_true rfl) h
theorem b_X0_mix_0 {d : Nat} {S : zS} {I : zI} {J : zJ} {Q : zQ} {x0 : Int32} {x1 : Int32} {v2 : Value} {z1 : Int32} (ez1 : z1 = (((x0 * (-1640531535 : Int32)) + x1) ^^^ ((Int32.toUInt32 ((x0 * (-1640531535 : Int32)) + x1) >>> (Int32.toUInt32 (15 : Int32) &&& Int32.toUInt32 31)).toInt32))) (kk : Q (some (.int ((z1 * (-2048144777 : Int32)) ^^^ ((Int32.toUInt32 (z1 * (-2048144777 : Int32)) >>> (Int32.toUInt32 (13 : Int32) &&& Int32.toUInt32 31)).toInt32)))) S I J) : Go d i_X0_mix 0 [.int x0, .int x1, v2] [] S I J Q := by
  subst ez1
  have h := (And.intro trivial kk)
  exact Go.n tb_X0_mix 20 h
theorem w_X0_sortOut {d : Nat} {S : zS} {I : zI} {J : zJ} {Q : zQ} {h0 : Nat} (h : Go d i_X0_sortOut 0 [.ref h0, .retAddr 0, .retAddr 0] [] S I J Q) : z_wp (d + 1) i_X0_sortOut [.ref h0] S I J Q := Go.wp (Nat.le_of_ble_eq_true rfl) h
theorem e_X0_sortOut {d : Nat} {S S2 : zS} {I I2 : zI} {J J2 : zJ} {r : Option Value} {h0 : Nat} (h : Go d i_X0_sortOut 0 [.ref h0, .retAddr 0, .retAddr 0] [] S I J (z_eq r S2 I2 J2)) : z_ev (d + 1) i_X0_sortOut [.ref h0] S I J r S2 I2 J2 := Go.ev (Nat.le_of_ble_eq_true rfl) h
theorem b_X0_sortOut_0 {d : Nat} {S : zS} {I : zI} {J : zJ} {Q : zQ} {h0 : Nat} {v1 : Value} {v2 : Value} (g1 : z_kd S h0 = 1) (kk : Go d i_X0_sortOut 7 [.ref h0, .int (0 : Int32), v2] [] S (z_u2 I h0 1 (0 : Int32)) J Q) : Go d i_X0_sortOut 0 [.ref h0, v1, v2] [] S I J Q := by
  have h := (And.intro g1 kk)
  exact Go.n tb_X0_sortOut 5 h
theorem b_X0_sortOut_7 {d : Nat} {S : zS} {I : zI} {J : zJ} {Q : zQ} {h0 : Nat} {x1 : Int32} {v2 : Value} (g1 : z_kd S h0 = 1) (kt : (I h0 0) ≤ x1 → Go d i_X0_sortOut 81 [.ref h0, .int x1, v2] [] S I J Q) (kf : ¬ (I h0 0) ≤ x1 → Go d i_X0_sortOut 15 [.ref h0, .int x1, v2] [] S I J Q) : Go d i_X0_sortOut 7 [.ref h0, .int x1, v2] [] S I J Q := by
  have h := (And.intro g1 (Go.ite kt kf))
  exact Go.n tb_X0_sortOut 4 h
theorem b_X0_sortOut_15 {d : Nat} {S : zS} {I : zI} {J : zJ} {Q : zQ} {h0 : Nat} {x1 : Int32} {v2 : Value} (g1 : z_kd S h0 = 1) (g2 : z_isI (z_kd S (z_rv S h0 2)) = true ∧ vp_in x1 (z_ln S (z_rv S h0 2))) (g3 : z_kd S h0 = 1) (kk : z_wp d i_X0_classOfHue [.ref h0, .int (I (z_rv S h0 2) (Int32.toNatClampNeg x1))] S I J (fun vv SS II JJ => Go d i_X0_sortOut 25 [.ref h0, .int x1, v2] (vv.toList ++ []) SS II JJ Q)) : Go d i_X0_sortOut 15 [.ref h0, .int x1, v2] [] S I J Q := by
  have h := (And.intro g1 (And.intro g2 (And.intro g3 kk)))
  exact Go.n tb_X0_sortOut 6 h
theorem b_X0_sortOut_25 {d : Nat} {S : zS} {I : zI} {J : zJ} {Q : zQ} {h0 : Nat} {x1 : Int32} {v2 : Value} {y0 : Int32} (g1 : z_kd S h0 = 1) (kt : ¬ y0 = (I h0 1) → Go d i_X0_sortOut 58 [.ref h0, .int x1, .int y0] [] S I J Q) (kf : y0 = (I h0 1) → Go d i_X0_sortOut 34 [.ref h0, .int x1, .int y0] [] S I J Q) : Go d i_X0_sortOut 25 [.ref h0, .int x1, v2] [.int y0] S I J Q := by
  have h := (And.intro g1 (Go.eti kt kf))
  exact Go.n tb_X0_sortOut 5 h
theorem b_X0_sortOut_34 {d : Nat} {S : zS} {I : zI} {J : zJ} {Q : zQ} {h0 : Nat} {x1 : Int32} {x2 : Int32} {I1 : zI} {I2 : zI} (g1 : z_kd S h0 = 1) (g2 : z_kd S (z_rv S h0 4) = 100 ∧ vp_in x2 (z_ln S (z_rv S h0 4))) (g3 : z_kd S h0 = 1) (g4 : z_kd S (z_rv S h0 5) = 100 ∧ vp_in x2 (z_ln S (z_rv S h0 5))) (g5 : z_kd S h0 = 1) (g6 : z_kd S h0 = 1) (eI1 : I1 = z_u2 (z_u2 (z_u2 I (z_rv S h0 4) (Int32.toNatClampNeg x2) x1) (z_rv S h0 5) (Int32.toNatClampNeg x2) (0 : Int32)) h0 1 (((z_u2 (z_u2 I (z_rv S h0 4) (Int32.toNatClampNeg x2) x1) (z_rv S h0 5) (Int32.toNatClampNeg x2) (0 : Int32)) h0 1) + (1 : Int32))) (g8 : z_kd S h0 = 1) (g9 : z_kd S (z_rv S h0 3) = 100 ∧ vp_in x1 (z_ln S (z_rv S h0 3))) (g10 : z_kd S h0 = 1) (g11 : z_isI (z_kd S (z_rv S h0 5)) = true ∧ vp_in x2 (z_ln S (z_rv S h0 5))) (g12 : z_kd S (z_rv S h0 5) = 100 ∧ vp_in x2 (z_ln S (z_rv S h0 5))) (eI2 : I2 = z_u2 (z_u2 I1 (z_rv S h0 3) (Int32.toNatClampNeg x1) x2) (z_rv S h0 5) (Int32.toNatClampNeg x2) (((z_u2 I1 (z_rv S h0 3) (Int32.toNatClampNeg x1) x2) (z_rv S h0 5) (Int32.toNatClampNeg x2)) + (1 : Int32))) (kk : Go d i_X0_sortOut 7 [.ref h0, .int (x1 + (1 : Int32)), .int x2] [] S I2 J Q) : Go d i_X0_sortOut 34 [.ref h0, .int x1, .int x2] [] S I J Q := by
  subst eI2
  subst eI1
  have h := (And.intro g1 (And.intro g2 (And.intro g3 (And.intro g4 (And.intro g5 (And.intro g6 (And.intro g8 (And.intro g9 (And.intro g10 (And.intro g11 (And.intro g12 kk)))))))))))
  exact Go.n tb_X0_sortOut 31 h
theorem b_X0_sortOut_58 {d : Nat} {S : zS} {I : zI} {J : zJ} {Q : zQ} {h0 : Nat} {x1 : Int32} {x2 : Int32} {I1 : zI} (g1 : z_kd S h0 = 1) (g2 : z_kd S (z_rv S h0 3) = 100 ∧ vp_in x1 (z_ln S (z_rv S h0 3))) (g3 : z_kd S h0 = 1) (g4 : z_isI (z_kd S (z_rv S h0 5)) = true ∧ vp_in x2 (z_ln S (z_rv S h0 5))) (g5 : z_kd S (z_rv S h0 5) = 100 ∧ vp_in x2 (z_ln S (z_rv S h0 5))) (eI1 : I1 = z_u2 (z_u2 I (z_rv S h0 3) (Int32.toNatClampNeg x1) x2) (z_rv S h0 5) (Int32.toNatClampNeg x2) (((z_u2 I (z_rv S h0 3) (Int32.toNatClampNeg x1) x2) (z_rv S h0 5) (Int32.toNatClampNeg x2)) + (1 : Int32))) (kk : Go d i_X0_sortOut 7 [.ref h0, .int (x1 + (1 : Int32)), .int x2] [] S I1 J Q) : Go d i_X0_sortOut 58 [.ref h0, .int x1, .int x2] [] S I J Q := by
  subst eI1
  have h := (And.intro g1 (And.intro g2 (And.intro g3 (And.intro g4 (And.intro g5 kk)))))
  exact Go.n tb_X0_sortOut 15 h
theorem b_X0_sortOut_81 {d : Nat} {S : zS} {I : zI} {J : zJ} {Q : zQ} {h0 : Nat} {x1 : Int32} {v2 : Value} (kk : Q none S I J) : Go d i_X0_sortOut 81 [.ref h0, .int x1, v2] [] S I J Q := by
  have h := (And.intro trivial kk)
  exact Go.n tb_X0_sortOut 1 h
theorem w_X0_classOfHue {d : Nat} {S : zS} {I : zI} {J : zJ} {Q : zQ} {h0 : Nat} {x1 : Int32} (h : Go d i_X0_classOfHue 0 [.ref h0, .int x1, .retAddr 0] [] S I J Q) : z_wp (d + 1) i_X0_classOfHue [.ref h0, .int x1] S I J Q := Go.wp (Nat.le_of_ble_eq_true rfl) h
theorem e_X0_classOfHue {d : Nat} {S S2 : zS} {I I2 : zI} {J J2 : zJ} {r : Option Value} {h0 : Nat} {x1 : Int32} (h : Go d i_X0_classOfHue 0 [.ref h0, .int x1, .retAddr 0] [] S I J (z_eq r S2 I2 J2)) : z_ev (d + 1) i_X0_classOfHue [.ref h0, .int x1] S I J r S2 I2 J2 := Go.ev (Nat.le_of_ble_eq_true rfl) h
theorem b_X0_classOfHue_0 {d : Nat} {S : zS} {I : zI} {J : zJ} {Q : zQ} {h0 : Nat} {x1 : Int32} {v2 : Value} (kk : Go d i_X0_classOfHue 2 [.ref h0, .int x1, .int (0 : Int32)] [] S I J Q) : Go d i_X0_classOfHue 0 [.ref h0, .int x1, v2] [] S I J Q := by
  have h := kk
  exact Go.n tb_X0_classOfHue 2 h
theorem b_X0_classOfHue_2 {d : Nat} {S : zS} {I : zI} {J : zJ} {Q : zQ} {h0 : Nat} {x1 : Int32} {x2 : Int32} (g1 : z_kd S h0 = 1) (kt : (I h0 1) ≤ x2 → Go d i_X0_classOfHue 33 [.ref h0, .int x1, .int x2] [] S I J Q) (kf : ¬ (I h0 1) ≤ x2 → Go d i_X0_classOfHue 10 [.ref h0, .int x1, .int x2] [] S I J Q) : Go d i_X0_classOfHue 2 [.ref h0, .int x1, .int x2] [] S I J Q := by
  have h := (And.intro g1 (Go.ite kt kf))
  exact Go.n tb_X0_classOfHue 4 h
theorem b_X0_classOfHue_10 {d : Nat} {S : zS} {I : zI} {J : zJ} {Q : zQ} {h0 : Nat} {x1 : Int32} {x2 : Int32} (g1 : z_kd S h0 = 1) (g2 : z_kd S h0 = 1) (g3 : z_isI (z_kd S (z_rv S h0 4)) = true ∧ vp_in x2 (z_ln S (z_rv S h0 4))) (g4 : z_isI (z_kd S (z_rv S h0 2)) = true ∧ vp_in (I (z_rv S h0 4) (Int32.toNatClampNeg x2)) (z_ln S (z_rv S h0 2))) (kt : ¬ (I (z_rv S h0 2) (Int32.toNatClampNeg (I (z_rv S h0 4) (Int32.toNatClampNeg x2)))) = x1 → Go d i_X0_classOfHue 27 [.ref h0, .int x1, .int x2] [] S I J Q) (kf : (I (z_rv S h0 2) (Int32.toNatClampNeg (I (z_rv S h0 4) (Int32.toNatClampNeg x2)))) = x1 → Go d i_X0_classOfHue 25 [.ref h0, .int x1, .int x2] [] S I J Q) : Go d i_X0_classOfHue 10 [.ref h0, .int x1, .int x2] [] S I J Q := by
  have h := (And.intro g1 (And.intro g2 (And.intro g3 (And.intro g4 (Go.eti kt kf)))))
  exact Go.n tb_X0_classOfHue 9 h
theorem b_X0_classOfHue_25 {d : Nat} {S : zS} {I : zI} {J : zJ} {Q : zQ} {h0 : Nat} {x1 : Int32} {x2 : Int32} (kk : Q (some (.int x2)) S I J) : Go d i_X0_classOfHue 25 [.ref h0, .int x1, .int x2] [] S I J Q := by
  have h := (And.intro trivial kk)
  exact Go.n tb_X0_classOfHue 2 h
theorem b_X0_classOfHue_27 {d : Nat} {S : zS} {I : zI} {J : zJ} {Q : zQ} {h0 : Nat} {x1 : Int32} {x2 : Int32} (kk : Go d i_X0_classOfHue 2 [.ref h0, .int x1, .int (x2 + (1 : Int32))] [] S I J Q) : Go d i_X0_classOfHue 27 [.ref h0, .int x1, .int x2] [] S I J Q := by
  have h := kk
  exact Go.n tb_X0_classOfHue 2 h
theorem b_X0_classOfHue_33 {d : Nat} {S : zS} {I : zI} {J : zJ} {Q : zQ} {h0 : Nat} {x1 : Int32} {x2 : Int32} (g1 : z_kd S h0 = 1) (kk : Q (some (.int (I h0 1))) S I J) : Go d i_X0_classOfHue 33 [.ref h0, .int x1, .int x2] [] S I J Q := by
  have h := (And.intro g1 (And.intro trivial kk))
  exact Go.n tb_X0_classOfHue 3 h
theorem w_X0_spreadOut {d : Nat} {S : zS} {I : zI} {J : zJ} {Q : zQ} {h0 : Nat} {h1 : Nat} (h : Go d i_X0_spreadOut 0 [.ref h0, .ref h1, .retAddr 0, .retAddr 0, .retAddr 0] [] S I J Q) : z_wp (d + 1) i_X0_spreadOut [.ref h0, .ref h1] S I J Q := Go.wp (Nat.le_of_ble_eq_true rfl) h
theorem e_X0_spreadOut {d : Nat} {S S2 : zS} {I I2 : zI} {J J2 : zJ} {r : Option Value} {h0 : Nat} {h1 : Nat} (h : Go d i_X0_spreadOut 0 [.ref h0, .ref h1, .retAddr 0, .retAddr 0, .retAddr 0] [] S I J (z_eq r S2 I2 J2)) : z_ev (d + 1) i_X0_spreadOut [.ref h0, .ref h1] S I J r S2 I2 J2 := Go.ev (Nat.le_of_ble_eq_true rfl) h
theorem b_X0_spreadOut_0 {d : Nat} {S : zS} {I : zI} {J : zJ} {Q : zQ} {h0 : Nat} {h1 : Nat} {v2 : Value} {v3 : Value} {v4 : Value} (kk : Go d i_X0_spreadOut 2 [.ref h0, .ref h1, .int (0 : Int32), v3, v4] [] S I J Q) : Go d i_X0_spreadOut 0 [.ref h0, .ref h1, v2, v3, v4] [] S I J Q := by
  have h := kk
  exact Go.n tb_X0_spreadOut 2 h
theorem b_X0_spreadOut_2 {d : Nat} {S : zS} {I : zI} {J : zJ} {Q : zQ} {h0 : Nat} {h1 : Nat} {x2 : Int32} {v3 : Value} {v4 : Value} (g1 : z_kd S h0 = 1) (g2 : z_isA (z_kd S (z_rv S h0 7)) = true) (kt : (nI (z_ln S (z_rv S h0 7))) ≤ x2 → Go d i_X0_spreadOut 24 [.ref h0, .ref h1, .int x2, v3, v4] [] S I J Q) (kf : ¬ (nI (z_ln S (z_rv S h0 7))) ≤ x2 → Go d i_X0_spreadOut 11 [.ref h0, .ref h1, .int x2, v3, v4] [] S I J Q) : Go d i_X0_spreadOut 2 [.ref h0, .ref h1, .int x2, v3, v4] [] S I J Q := by
  have h := (And.intro g1 (And.intro g2 (Go.ite kt kf)))
  exact Go.n tb_X0_spreadOut 5 h
theorem b_X0_spreadOut_11 {d : Nat} {S : zS} {I : zI} {J : zJ} {Q : zQ} {h0 : Nat} {h1 : Nat} {x2 : Int32} {v3 : Value} {v4 : Value} (g1 : z_kd S h0 = 1) (g2 : z_kd S (z_rv S h0 7) = 100 ∧ vp_in x2 (z_ln S (z_rv S h0 7))) (kk : Go d i_X0_spreadOut 2 [.ref h0, .ref h1, .int (x2 + (1 : Int32)), v3, v4] [] S (z_u2 I (z_rv S h0 7) (Int32.toNatClampNeg x2) (0 : Int32)) J Q) : Go d i_X0_spreadOut 11 [.ref h0, .ref h1, .int x2, v3, v4] [] S I J Q := by
  have h := (And.intro g1 (And.intro g2 kk))
  exact Go.n tb_X0_spreadOut 7 h
theorem b_X0_spreadOut_24 {d : Nat} {S : zS} {I : zI} {J : zJ} {Q : zQ} {h0 : Nat} {h1 : Nat} {x2 : Int32} {v3 : Value} {v4 : Value} (kk : Go d i_X0_spreadOut 26 [.ref h0, .ref h1, .int (0 : Int32), v3, v4] [] S I J Q) : Go d i_X0_spreadOut 24 [.ref h0, .ref h1, .int x2, v3, v4] [] S I J Q := by
  have h := kk
  exact Go.n tb_X0_spreadOut 2 h
theorem b_X0_spreadOut_26 {d : Nat} {S : zS} {I : zI} {J : zJ} {Q : zQ} {h0 : Nat} {h1 : Nat} {x2 : Int32} {v3 : Value} {v4 : Value} (g1 : z_kd S h0 = 1) (kt : (I h0 0) ≤ x2 → Go d i_X0_spreadOut 105 [.ref h0, .ref h1, .int x2, v3, v4] [] S I J Q) (kf : ¬ (I h0 0) ≤ x2 → Go d i_X0_spreadOut 34 [.ref h0, .ref h1, .int x2, v3, v4] [] S I J Q) : Go d i_X0_spreadOut 26 [.ref h0, .ref h1, .int x2, v3, v4] [] S I J Q := by
  have h := (And.intro g1 (Go.ite kt kf))
  exact Go.n tb_X0_spreadOut 4 h
theorem b_X0_spreadOut_34 {d : Nat} {S : zS} {I : zI} {J : zJ} {Q : zQ} {h0 : Nat} {h1 : Nat} {x2 : Int32} {v3 : Value} {v4 : Value} (kk : Go d i_X0_spreadOut 36 [.ref h0, .ref h1, .int x2, .int (0 : Int32), v4] [] S I J Q) : Go d i_X0_spreadOut 34 [.ref h0, .ref h1, .int x2, v3, v4] [] S I J Q := by
  have h := kk
  exact Go.n tb_X0_spreadOut 2 h
theorem b_X0_spreadOut_36 {d : Nat} {S : zS} {I : zI} {J : zJ} {Q : zQ} {h0 : Nat} {h1 : Nat} {x2 : Int32} {x3 : Int32} {v4 : Value} (g1 : z_kd S h0 = 1) (kt : (I h0 0) ≤ x3 → Go d i_X0_spreadOut 99 [.ref h0, .ref h1, .int x2, .int x3, v4] [] S I J Q) (kf : ¬ (I h0 0) ≤ x3 → Go d i_X0_spreadOut 44 [.ref h0, .ref h1, .int x2, .int x3, v4] [] S I J Q) : Go d i_X0_spreadOut 36 [.ref h0, .ref h1, .int x2, .int x3, v4] [] S I J Q := by
  have h := (And.intro g1 (Go.ite kt kf))
  exact Go.n tb_X0_spreadOut 4 h
theorem b_X0_spreadOut_44 {d : Nat} {S : zS} {I : zI} {J : zJ} {Q : zQ} {h0 : Nat} {h1 : Nat} {x2 : Int32} {x3 : Int32} {v4 : Value} (g1 : z_kd S h0 = 1) (g2 : z_kd S h1 = 2) (g3 : z_isI (z_kd S (z_rv S h1 2)) = true ∧ vp_in x2 (z_ln S (z_rv S h1 2))) (g4 : z_kd S h1 = 2) (kk : z_wp d i_X1_times [.ref h1, .int (I (z_rv S h1 2) (Int32.toNatClampNeg x2)), .int x3] S I J (fun vv SS II JJ => Go d i_X0_spreadOut 59 [.ref h0, .ref h1, .int x2, .int x3, v4] (vv.toList ++ [.ref (z_rv S h0 3)]) SS II JJ Q)) : Go d i_X0_spreadOut 44 [.ref h0, .ref h1, .int x2, .int x3, v4] [] S I J Q := by
  have h := (And.intro g1 (And.intro g2 (And.intro g3 (And.intro g4 kk))))
  exact Go.n tb_X0_spreadOut 9 h
theorem b_X0_spreadOut_59 {d : Nat} {S : zS} {I : zI} {J : zJ} {Q : zQ} {h0 : Nat} {h1 : Nat} {x2 : Int32} {x3 : Int32} {v4 : Value} {q0 : Nat} {y1 : Int32} {z1 : Int32} {I2 : zI} (g1 : z_isI (z_kd S q0) = true ∧ vp_in y1 (z_ln S q0)) (g2 : z_kd S h0 = 1) (g3 : z_kd S (z_rv S h0 6) = 100 ∧ vp_in ((x2 * (20 : Int32)) + x3) (z_ln S (z_rv S h0 6))) (g4 : z_kd S h0 = 1) (g5 : z_isI (z_kd S (z_rv S h0 7)) = true ∧ vp_in (((I q0 (Int32.toNatClampNeg y1)) * (20 : Int32)) + x2) (z_ln S (z_rv S h0 7))) (ez1 : z1 = ((z_u2 I (z_rv S h0 6) (Int32.toNatClampNeg ((x2 * (20 : Int32)) + x3)) (I q0 (Int32.toNatClampNeg y1))) (z_rv S h0 7) (Int32.toNatClampNeg (((I q0 (Int32.toNatClampNeg y1)) * (20 : Int32)) + x2)))) (g7 : z_kd S (z_rv S h0 7) = 100 ∧ vp_in (((I q0 (Int32.toNatClampNeg y1)) * (20 : Int32)) + x2) (z_ln S (z_rv S h0 7))) (eI2 : I2 = z_u2 (z_u2 I (z_rv S h0 6) (Int32.toNatClampNeg ((x2 * (20 : Int32)) + x3)) (I q0 (Int32.toNatClampNeg y1))) (z_rv S h0 7) (Int32.toNatClampNeg (((I q0 (Int32.toNatClampNeg y1)) * (20 : Int32)) + x2)) (z1 ||| ((1 : Int32) <<< (x3 &&& 31)))) (kk : Go d i_X0_spreadOut 36 [.ref h0, .ref h1, .int x2, .int (x3 + (1 : Int32)), .int (I q0 (Int32.toNatClampNeg y1))] [] S I2 J Q) : Go d i_X0_spreadOut 59 [.ref h0, .ref h1, .int x2, .int x3, v4] [.int y1, .ref q0] S I J Q := by
  subst eI2
  subst ez1
  have h := (And.intro g1 (And.intro g2 (And.intro g3 (And.intro g4 (And.intro g5 (And.intro g7 kk))))))
  exact Go.n tb_X0_spreadOut 27 h
theorem b_X0_spreadOut_99 {d : Nat} {S : zS} {I : zI} {J : zJ} {Q : zQ} {h0 : Nat} {h1 : Nat} {x2 : Int32} {x3 : Int32} {v4 : Value} (kk : Go d i_X0_spreadOut 26 [.ref h0, .ref h1, .int (x2 + (1 : Int32)), .int x3, v4] [] S I J Q) : Go d i_X0_spreadOut 99 [.ref h0, .ref h1, .int x2, .int x3, v4] [] S I J Q := by
  have h := kk
  exact Go.n tb_X0_spreadOut 2 h
theorem b_X0_spreadOut_105 {d : Nat} {S : zS} {I : zI} {J : zJ} {Q : zQ} {h0 : Nat} {h1 : Nat} {x2 : Int32} {v3 : Value} {v4 : Value} (kk : Q none S I J) : Go d i_X0_spreadOut 105 [.ref h0, .ref h1, .int x2, v3, v4] [] S I J Q := by
  have h := (And.intro trivial kk)
  exact Go.n tb_X0_spreadOut 1 h
theorem w_X1_init {d : Nat} {S : zS} {I : zI} {J : zJ} {Q : zQ} {h0 : Nat} {x1 : Int32} {h2 : Nat} {h3 : Nat} {h4 : Nat} {x5 : Int32} (h : Go d i_X1_init 0 [.ref h0, .int x1, .ref h2, .ref h3, .ref h4, .int x5] [] S I J Q) : z_wp (d + 1) i_X1_init [.ref h0, .int x1, .ref h2, .ref h3, .ref h4, .int x5] S I J Q := Go.wp (Nat.le_of_ble_eq_true rfl) h
theorem e_X1_init {d : Nat} {S S2 : zS} {I I2 : zI} {J J2 : zJ} {r : Option Value} {h0 : Nat} {x1 : Int32} {h2 : Nat} {h3 : Nat} {h4 : Nat} {x5 : Int32} (h : Go d i_X1_init 0 [.ref h0, .int x1, .ref h2, .ref h3, .ref h4, .int x5] [] S I J (z_eq r S2 I2 J2)) : z_ev (d + 1) i_X1_init [.ref h0, .int x1, .ref h2, .ref h3, .ref h4, .int x5] S I J r S2 I2 J2 := Go.ev (Nat.le_of_ble_eq_true rfl) h
theorem b_X1_init_0 {d : Nat} {S : zS} {I : zI} {J : zJ} {Q : zQ} {h0 : Nat} {x1 : Int32} {h2 : Nat} {h3 : Nat} {h4 : Nat} {x5 : Int32} (g1 : ¬ h0 = 0) (g2 : z_kd S h0 = 2) (kk : Go d i_X1_init 9 [.ref h0, .int x1, .ref h2, .ref h3, .ref h4, .int x5] [] S (z_u2 I h0 0 x1) J Q) : Go d i_X1_init 0 [.ref h0, .int x1, .ref h2, .ref h3, .ref h4, .int x5] [] S I J Q := by
  have h := (And.intro g1 (And.intro g2 kk))
  exact Go.n tb_X1_init 5 h
theorem b_X1_init_9 {d : Nat} {S : zS} {I : zI} {J : zJ} {Q : zQ} {h0 : Nat} {x1 : Int32} {h2 : Nat} {h3 : Nat} {h4 : Nat} {x5 : Int32} (g1 : z_kd S h0 = 2) (kk : Go d i_X1_init 14 [.ref h0, .int x1, .ref h2, .ref h3, .ref h4, .int x5] [] (z_setR S h0 1 h2) I J Q) : Go d i_X1_init 9 [.ref h0, .int x1, .ref h2, .ref h3, .ref h4, .int x5] [] S I J Q := by
  have h := (And.intro g1 kk)
  exact Go.n tb_X1_init 3 h
theorem b_X1_init_14 {d : Nat} {S : zS} {I : zI} {J : zJ} {Q : zQ} {h0 : Nat} {x1 : Int32} {h2 : Nat} {h3 : Nat} {h4 : Nat} {x5 : Int32} (g1 : z_kd S h0 = 2) (kk : Go d i_X1_init 19 [.ref h0, .int x1, .ref h2, .ref h3, .ref h4, .int x5] [] (z_setR S h0 6 h3) I J Q) : Go d i_X1_init 14 [.ref h0, .int x1, .ref h2, .ref h3, .ref h4, .int x5] [] S I J Q := by
  have h := (And.intro g1 kk)
  exact Go.n tb_X1_init 3 h
theorem b_X1_init_19 {d : Nat} {S : zS} {I : zI} {J : zJ} {Q : zQ} {h0 : Nat} {x1 : Int32} {h2 : Nat} {h3 : Nat} {h4 : Nat} {x5 : Int32} (g1 : z_kd S h0 = 2) (kk : Go d i_X1_init 25 [.ref h0, .int x1, .ref h2, .ref h3, .ref h4, .int x5] [] (z_setR S h0 7 h4) I J Q) : Go d i_X1_init 19 [.ref h0, .int x1, .ref h2, .ref h3, .ref h4, .int x5] [] S I J Q := by
  have h := (And.intro g1 kk)
  exact Go.n tb_X1_init 3 h
theorem b_X1_init_25 {d : Nat} {S : zS} {I : zI} {J : zJ} {Q : zQ} {h0 : Nat} {x1 : Int32} {h2 : Nat} {h3 : Nat} {h4 : Nat} {x5 : Int32} (g1 : z_kd S h0 = 2) (kk : Go d i_X1_init 31 [.ref h0, .int x1, .ref h2, .ref h3, .ref h4, .int x5] [] S (z_u2 I h0 8 x5) J Q) : Go d i_X1_init 25 [.ref h0, .int x1, .ref h2, .ref h3, .ref h4, .int x5] [] S I J Q := by
  have h := (And.intro g1 kk)
  exact Go.n tb_X1_init 3 h
theorem b_X1_init_31 {d : Nat} {S : zS} {I : zI} {J : zJ} {Q : zQ} {h0 : Nat} {x1 : Int32} {h2 : Nat} {h3 : Nat} {h4 : Nat} {x5 : Int32} (g1 : ¬ x1 < 0 ∧ (Int32.toNatClampNeg x1) * 4 ≤ 536870912) (g2 : z_kd (z_new S 100 (Int32.toNatClampNeg x1) (Int32.toNatClampNeg x1)) h0 = 2) (kk : Go d i_X1_init 38 [.ref h0, .int x1, .ref h2, .ref h3, .ref h4, .int x5] [] (z_setR (z_new S 100 (Int32.toNatClampNeg x1) (Int32.toNatClampNeg x1)) h0 2 (z_sz S + 1)) (z_ur I (z_sz S + 1) (fun _ => 0)) J Q) : Go d i_X1_init 31 [.ref h0, .int x1, .ref h2, .ref h3, .ref h4, .int x5] [] S I J Q := by
  have h := (And.intro g1 (And.intro g2 kk))
  exact Go.n tb_X1_init 4 h
theorem b_X1_init_38 {d : Nat} {S : zS} {I : zI} {J : zJ} {Q : zQ} {h0 : Nat} {x1 : Int32} {h2 : Nat} {h3 : Nat} {h4 : Nat} {x5 : Int32} (g1 : ¬ x1 < 0 ∧ (Int32.toNatClampNeg x1) * 4 ≤ 536870912) (g2 : z_kd (z_new S 100 (Int32.toNatClampNeg x1) (Int32.toNatClampNeg x1)) h0 = 2) (kk : Go d i_X1_init 45 [.ref h0, .int x1, .ref h2, .ref h3, .ref h4, .int x5] [] (z_setR (z_new S 100 (Int32.toNatClampNeg x1) (Int32.toNatClampNeg x1)) h0 3 (z_sz S + 1)) (z_ur I (z_sz S + 1) (fun _ => 0)) J Q) : Go d i_X1_init 38 [.ref h0, .int x1, .ref h2, .ref h3, .ref h4, .int x5] [] S I J Q := by
  have h := (And.intro g1 (And.intro g2 kk))
  exact Go.n tb_X1_init 4 h
theorem b_X1_init_45 {d : Nat} {S : zS} {I : zI} {J : zJ} {Q : zQ} {h0 : Nat} {x1 : Int32} {h2 : Nat} {h3 : Nat} {h4 : Nat} {x5 : Int32} (g1 : ¬ x1 < 0 ∧ (Int32.toNatClampNeg x1) * 4 ≤ 536870912) (g2 : z_kd (z_new S 100 (Int32.toNatClampNeg x1) (Int32.toNatClampNeg x1)) h0 = 2) (kk : Go d i_X1_init 52 [.ref h0, .int x1, .ref h2, .ref h3, .ref h4, .int x5] [] (z_setR (z_new S 100 (Int32.toNatClampNeg x1) (Int32.toNatClampNeg x1)) h0 4 (z_sz S + 1)) (z_ur I (z_sz S + 1) (fun _ => 0)) J Q) : Go d i_X1_init 45 [.ref h0, .int x1, .ref h2, .ref h3, .ref h4, .int x5] [] S I J Q := by
  have h := (And.intro g1 (And.intro g2 kk))
  exact Go.n tb_X1_init 4 h
theorem b_X1_init_52 {d : Nat} {S : zS} {I : zI} {J : zJ} {Q : zQ} {h0 : Nat} {x1 : Int32} {h2 : Nat} {h3 : Nat} {h4 : Nat} {x5 : Int32} (g1 : ¬ x1 < 0 ∧ (Int32.toNatClampNeg x1) * 4 ≤ 536870912) (g2 : z_kd (z_new S 100 (Int32.toNatClampNeg x1) (Int32.toNatClampNeg x1)) h0 = 2) (kk : Go d i_X1_init 59 [.ref h0, .int x1, .ref h2, .ref h3, .ref h4, .int x5] [] (z_setR (z_new S 100 (Int32.toNatClampNeg x1) (Int32.toNatClampNeg x1)) h0 5 (z_sz S + 1)) (z_ur I (z_sz S + 1) (fun _ => 0)) J Q) : Go d i_X1_init 52 [.ref h0, .int x1, .ref h2, .ref h3, .ref h4, .int x5] [] S I J Q := by
  have h := (And.intro g1 (And.intro g2 kk))
  exact Go.n tb_X1_init 4 h
theorem b_X1_init_59 {d : Nat} {S : zS} {I : zI} {J : zJ} {Q : zQ} {h0 : Nat} {x1 : Int32} {h2 : Nat} {h3 : Nat} {h4 : Nat} {x5 : Int32} (g1 : z_kd S h0 = 2) (kk : z_wp d i_X1_findInverses [.ref h0] S I J (fun vv SS II JJ => Go d i_X1_init 63 [.ref h0, .int x1, .ref h2, .ref h3, .ref h4, .int x5] (vv.toList ++ []) SS II JJ Q)) : Go d i_X1_init 59 [.ref h0, .int x1, .ref h2, .ref h3, .ref h4, .int x5] [] S I J Q := by
  have h := (And.intro g1 kk)
  exact Go.n tb_X1_init 2 h
theorem b_X1_init_63 {d : Nat} {S : zS} {I : zI} {J : zJ} {Q : zQ} {h0 : Nat} {x1 : Int32} {h2 : Nat} {h3 : Nat} {h4 : Nat} {x5 : Int32} (g1 : z_kd S h0 = 2) (kk : z_wp d i_X1_findPeriods [.ref h0] S I J (fun vv SS II JJ => Go d i_X1_init 67 [.ref h0, .int x1, .ref h2, .ref h3, .ref h4, .int x5] (vv.toList ++ []) SS II JJ Q)) : Go d i_X1_init 63 [.ref h0, .int x1, .ref h2, .ref h3, .ref h4, .int x5] [] S I J Q := by
  have h := (And.intro g1 kk)
  exact Go.n tb_X1_init 2 h
theorem b_X1_init_67 {d : Nat} {S : zS} {I : zI} {J : zJ} {Q : zQ} {h0 : Nat} {x1 : Int32} {h2 : Nat} {h3 : Nat} {h4 : Nat} {x5 : Int32} (g1 : z_kd S h0 = 2) (kk : z_wp d i_X1_findClasses [.ref h0] S I J (fun vv SS II JJ => Go d i_X1_init 71 [.ref h0, .int x1, .ref h2, .ref h3, .ref h4, .int x5] (vv.toList ++ []) SS II JJ Q)) : Go d i_X1_init 67 [.ref h0, .int x1, .ref h2, .ref h3, .ref h4, .int x5] [] S I J Q := by
  have h := (And.intro g1 kk)
  exact Go.n tb_X1_init 2 h
theorem b_X1_init_71 {d : Nat} {S : zS} {I : zI} {J : zJ} {Q : zQ} {h0 : Nat} {x1 : Int32} {h2 : Nat} {h3 : Nat} {h4 : Nat} {x5 : Int32} (g1 : z_kd S h0 = 2) (kk : z_wp d i_X1_findMarks [.ref h0] S I J (fun vv SS II JJ => Go d i_X1_init 75 [.ref h0, .int x1, .ref h2, .ref h3, .ref h4, .int x5] (vv.toList ++ []) SS II JJ Q)) : Go d i_X1_init 71 [.ref h0, .int x1, .ref h2, .ref h3, .ref h4, .int x5] [] S I J Q := by
  have h := (And.intro g1 kk)
  exact Go.n tb_X1_init 2 h
theorem b_X1_init_75 {d : Nat} {S : zS} {I : zI} {J : zJ} {Q : zQ} {h0 : Nat} {x1 : Int32} {h2 : Nat} {h3 : Nat} {h4 : Nat} {x5 : Int32} (kk : Q none S I J) : Go d i_X1_init 75 [.ref h0, .int x1, .ref h2, .ref h3, .ref h4, .int x5] [] S I J Q := by
  have h := (And.intro trivial kk)
  exact Go.n tb_X1_init 1 h
theorem w_X1_times {d : Nat} {S : zS} {I : zI} {J : zJ} {Q : zQ} {h0 : Nat} {x1 : Int32} {x2 : Int32} (h : Go d i_X1_times 0 [.ref h0, .int x1, .int x2] [] S I J Q) : z_wp (d + 1) i_X1_times [.ref h0, .int x1, .int x2] S I J Q := Go.wp (Nat.le_of_ble_eq_true rfl) h
theorem e_X1_times {d : Nat} {S S2 : zS} {I I2 : zI} {J J2 : zJ} {r : Option Value} {h0 : Nat} {x1 : Int32} {x2 : Int32} (h : Go d i_X1_times 0 [.ref h0, .int x1, .int x2] [] S I J (z_eq r S2 I2 J2)) : z_ev (d + 1) i_X1_times [.ref h0, .int x1, .int x2] S I J r S2 I2 J2 := Go.ev (Nat.le_of_ble_eq_true rfl) h
theorem b_X1_times_0 {d : Nat} {S : zS} {I : zI} {J : zJ} {Q : zQ} {h0 : Nat} {x1 : Int32} {x2 : Int32} (g1 : z_kd S h0 = 2) (g2 : z_kd S h0 = 2) (g3 : z_isI (z_kd S (z_rv S h0 1)) = true ∧ vp_in ((x1 * (I h0 0)) + x2) (z_ln S (z_rv S h0 1))) (kk : Q (some (.int (I (z_rv S h0 1) (Int32.toNatClampNeg ((x1 * (I h0 0)) + x2))))) S I J) : Go d i_X1_times 0 [.ref h0, .int x1, .int x2] [] S I J Q := by
  have h := (And.intro g1 (And.intro g2 (And.intro g3 (And.intro trivial kk))))
  exact Go.n tb_X1_times 10 h
theorem w_X1_findInverses {d : Nat} {S : zS} {I : zI} {J : zJ} {Q : zQ} {h0 : Nat} (h : Go d i_X1_findInverses 0 [.ref h0, .retAddr 0, .retAddr 0] [] S I J Q) : z_wp (d + 1) i_X1_findInverses [.ref h0] S I J Q := Go.wp (Nat.le_of_ble_eq_true rfl) h
theorem e_X1_findInverses {d : Nat} {S S2 : zS} {I I2 : zI} {J J2 : zJ} {r : Option Value} {h0 : Nat} (h : Go d i_X1_findInverses 0 [.ref h0, .retAddr 0, .retAddr 0] [] S I J (z_eq r S2 I2 J2)) : z_ev (d + 1) i_X1_findInverses [.ref h0] S I J r S2 I2 J2 := Go.ev (Nat.le_of_ble_eq_true rfl) h
theorem b_X1_findInverses_0 {d : Nat} {S : zS} {I : zI} {J : zJ} {Q : zQ} {h0 : Nat} {v1 : Value} {v2 : Value} (kk : Go d i_X1_findInverses 2 [.ref h0, .int (0 : Int32), v2] [] S I J Q) : Go d i_X1_findInverses 0 [.ref h0, v1, v2] [] S I J Q := by
  have h := kk
  exact Go.n tb_X1_findInverses 2 h
theorem b_X1_findInverses_2 {d : Nat} {S : zS} {I : zI} {J : zJ} {Q : zQ} {h0 : Nat} {x1 : Int32} {v2 : Value} (g1 : z_kd S h0 = 2) (kt : (I h0 0) ≤ x1 → Go d i_X1_findInverses 55 [.ref h0, .int x1, v2] [] S I J Q) (kf : ¬ (I h0 0) ≤ x1 → Go d i_X1_findInverses 10 [.ref h0, .int x1, v2] [] S I J Q) : Go d i_X1_findInverses 2 [.ref h0, .int x1, v2] [] S I J Q := by
  have h := (And.intro g1 (Go.ite kt kf))
  exact Go.n tb_X1_findInverses 4 h
theorem b_X1_findInverses_10 {d : Nat} {S : zS} {I : zI} {J : zJ} {Q : zQ} {h0 : Nat} {x1 : Int32} {v2 : Value} (kk : Go d i_X1_findInverses 12 [.ref h0, .int x1, .int (0 : Int32)] [] S I J Q) : Go d i_X1_findInverses 10 [.ref h0, .int x1, v2] [] S I J Q := by
  have h := kk
  exact Go.n tb_X1_findInverses 2 h
theorem b_X1_findInverses_12 {d : Nat} {S : zS} {I : zI} {J : zJ} {Q : zQ} {h0 : Nat} {x1 : Int32} {x2 : Int32} (g1 : z_kd S h0 = 2) (kt : (I h0 0) ≤ x2 → Go d i_X1_findInverses 49 [.ref h0, .int x1, .int x2] [] S I J Q) (kf : ¬ (I h0 0) ≤ x2 → Go d i_X1_findInverses 20 [.ref h0, .int x1, .int x2] [] S I J Q) : Go d i_X1_findInverses 12 [.ref h0, .int x1, .int x2] [] S I J Q := by
  have h := (And.intro g1 (Go.ite kt kf))
  exact Go.n tb_X1_findInverses 4 h
theorem b_X1_findInverses_20 {d : Nat} {S : zS} {I : zI} {J : zJ} {Q : zQ} {h0 : Nat} {x1 : Int32} {x2 : Int32} (g1 : z_kd S h0 = 2) (g2 : z_kd S h0 = 2) (g3 : z_isI (z_kd S (z_rv S h0 1)) = true ∧ vp_in ((x1 * (I h0 0)) + x2) (z_ln S (z_rv S h0 1))) (kt : ¬ (I (z_rv S h0 1) (Int32.toNatClampNeg ((x1 * (I h0 0)) + x2))) = (0 : Int32) → Go d i_X1_findInverses 43 [.ref h0, .int x1, .int x2] [] S I J Q) (kf : (I (z_rv S h0 1) (Int32.toNatClampNeg ((x1 * (I h0 0)) + x2))) = (0 : Int32) → Go d i_X1_findInverses 36 [.ref h0, .int x1, .int x2] [] S I J Q) : Go d i_X1_findInverses 20 [.ref h0, .int x1, .int x2] [] S I J Q := by
  have h := (And.intro g1 (And.intro g2 (And.intro g3 (Go.eti kt kf))))
  exact Go.n tb_X1_findInverses 10 h
theorem b_X1_findInverses_36 {d : Nat} {S : zS} {I : zI} {J : zJ} {Q : zQ} {h0 : Nat} {x1 : Int32} {x2 : Int32} (g1 : z_kd S h0 = 2) (g2 : z_kd S (z_rv S h0 2) = 100 ∧ vp_in x1 (z_ln S (z_rv S h0 2))) (kk : Go d i_X1_findInverses 12 [.ref h0, .int x1, .int (x2 + (1 : Int32))] [] S (z_u2 I (z_rv S h0 2) (Int32.toNatClampNeg x1) x2) J Q) : Go d i_X1_findInverses 36 [.ref h0, .int x1, .int x2] [] S I J Q := by
  have h := (And.intro g1 (And.intro g2 kk))
  exact Go.n tb_X1_findInverses 7 h
theorem b_X1_findInverses_43 {d : Nat} {S : zS} {I : zI} {J : zJ} {Q : zQ} {h0 : Nat} {x1 : Int32} {x2 : Int32} (kk : Go d i_X1_findInverses 12 [.ref h0, .int x1, .int (x2 + (1 : Int32))] [] S I J Q) : Go d i_X1_findInverses 43 [.ref h0, .int x1, .int x2] [] S I J Q := by
  have h := kk
  exact Go.n tb_X1_findInverses 2 h
theorem b_X1_findInverses_49 {d : Nat} {S : zS} {I : zI} {J : zJ} {Q : zQ} {h0 : Nat} {x1 : Int32} {x2 : Int32} (kk : Go d i_X1_findInverses 2 [.ref h0, .int (x1 + (1 : Int32)), .int x2] [] S I J Q) : Go d i_X1_findInverses 49 [.ref h0, .int x1, .int x2] [] S I J Q := by
  have h := kk
  exact Go.n tb_X1_findInverses 2 h
theorem b_X1_findInverses_55 {d : Nat} {S : zS} {I : zI} {J : zJ} {Q : zQ} {h0 : Nat} {x1 : Int32} {v2 : Value} (kk : Q none S I J) : Go d i_X1_findInverses 55 [.ref h0, .int x1, v2] [] S I J Q := by
  have h := (And.intro trivial kk)
  exact Go.n tb_X1_findInverses 1 h
theorem w_X1_findPeriods {d : Nat} {S : zS} {I : zI} {J : zJ} {Q : zQ} {h0 : Nat} (h : Go d i_X1_findPeriods 0 [.ref h0, .retAddr 0, .retAddr 0, .retAddr 0] [] S I J Q) : z_wp (d + 1) i_X1_findPeriods [.ref h0] S I J Q := Go.wp (Nat.le_of_ble_eq_true rfl) h
theorem e_X1_findPeriods {d : Nat} {S S2 : zS} {I I2 : zI} {J J2 : zJ} {r : Option Value} {h0 : Nat} (h : Go d i_X1_findPeriods 0 [.ref h0, .retAddr 0, .retAddr 0, .retAddr 0] [] S I J (z_eq r S2 I2 J2)) : z_ev (d + 1) i_X1_findPeriods [.ref h0] S I J r S2 I2 J2 := Go.ev (Nat.le_of_ble_eq_true rfl) h
theorem b_X1_findPeriods_0 {d : Nat} {S : zS} {I : zI} {J : zJ} {Q : zQ} {h0 : Nat} {v1 : Value} {v2 : Value} {v3 : Value} (kk : Go d i_X1_findPeriods 2 [.ref h0, .int (0 : Int32), v2, v3] [] S I J Q) : Go d i_X1_findPeriods 0 [.ref h0, v1, v2, v3] [] S I J Q := by
  have h := kk
  exact Go.n tb_X1_findPeriods 2 h
theorem b_X1_findPeriods_2 {d : Nat} {S : zS} {I : zI} {J : zJ} {Q : zQ} {h0 : Nat} {x1 : Int32} {v2 : Value} {v3 : Value} (g1 : z_kd S h0 = 2) (kt : (I h0 0) ≤ x1 → Go d i_X1_findPeriods 52 [.ref h0, .int x1, v2, v3] [] S I J Q) (kf : ¬ (I h0 0) ≤ x1 → Go d i_X1_findPeriods 10 [.ref h0, .int x1, v2, v3] [] S I J Q) : Go d i_X1_findPeriods 2 [.ref h0, .int x1, v2, v3] [] S I J Q := by
  have h := (And.intro g1 (Go.ite kt kf))
  exact Go.n tb_X1_findPeriods 4 h
theorem b_X1_findPeriods_10 {d : Nat} {S : zS} {I : zI} {J : zJ} {Q : zQ} {h0 : Nat} {x1 : Int32} {v2 : Value} {v3 : Value} (kk : Go d i_X1_findPeriods 14 [.ref h0, .int x1, .int x1, .int (1 : Int32)] [] S I J Q) : Go d i_X1_findPeriods 10 [.ref h0, .int x1, v2, v3] [] S I J Q := by
  have h := kk
  exact Go.n tb_X1_findPeriods 4 h
theorem b_X1_findPeriods_14 {d : Nat} {S : zS} {I : zI} {J : zJ} {Q : zQ} {h0 : Nat} {x1 : Int32} {x2 : Int32} {x3 : Int32} (kt : x2 = (0 : Int32) → Go d i_X1_findPeriods 39 [.ref h0, .int x1, .int x2, .int x3] [] S I J Q) (kf : ¬ x2 = (0 : Int32) → Go d i_X1_findPeriods 18 [.ref h0, .int x1, .int x2, .int x3] [] S I J Q) : Go d i_X1_findPeriods 14 [.ref h0, .int x1, .int x2, .int x3] [] S I J Q := by
  have h := (Go.ite kt kf)
  exact Go.n tb_X1_findPeriods 2 h
theorem b_X1_findPeriods_18 {d : Nat} {S : zS} {I : zI} {J : zJ} {Q : zQ} {h0 : Nat} {x1 : Int32} {x2 : Int32} {x3 : Int32} (g1 : z_kd S h0 = 2) (kt : (I h0 0) ≤ x3 → Go d i_X1_findPeriods 39 [.ref h0, .int x1, .int x2, .int x3] [] S I J Q) (kf : ¬ (I h0 0) ≤ x3 → Go d i_X1_findPeriods 26 [.ref h0, .int x1, .int x2, .int x3] [] S I J Q) : Go d i_X1_findPeriods 18 [.ref h0, .int x1, .int x2, .int x3] [] S I J Q := by
  have h := (And.intro g1 (Go.ite kt kf))
  exact Go.n tb_X1_findPeriods 4 h
theorem b_X1_findPeriods_26 {d : Nat} {S : zS} {I : zI} {J : zJ} {Q : zQ} {h0 : Nat} {x1 : Int32} {x2 : Int32} {x3 : Int32} (g1 : z_kd S h0 = 2) (kk : z_wp d i_X1_times [.ref h0, .int x2, .int x1] S I J (fun vv SS II JJ => Go d i_X1_findPeriods 32 [.ref h0, .int x1, .int x2, .int x3] (vv.toList ++ []) SS II JJ Q)) : Go d i_X1_findPeriods 26 [.ref h0, .int x1, .int x2, .int x3] [] S I J Q := by
  have h := (And.intro g1 kk)
  exact Go.n tb_X1_findPeriods 4 h
theorem b_X1_findPeriods_32 {d : Nat} {S : zS} {I : zI} {J : zJ} {Q : zQ} {h0 : Nat} {x1 : Int32} {x2 : Int32} {x3 : Int32} {y0 : Int32} (kk : Go d i_X1_findPeriods 14 [.ref h0, .int x1, .int y0, .int (x3 + (1 : Int32))] [] S I J Q) : Go d i_X1_findPeriods 32 [.ref h0, .int x1, .int x2, .int x3] [.int y0] S I J Q := by
  have h := kk
  exact Go.n tb_X1_findPeriods 3 h
theorem b_X1_findPeriods_39 {d : Nat} {S : zS} {I : zI} {J : zJ} {Q : zQ} {h0 : Nat} {x1 : Int32} {x2 : Int32} {x3 : Int32} (g1 : z_kd S h0 = 2) (g2 : z_kd S (z_rv S h0 3) = 100 ∧ vp_in x1 (z_ln S (z_rv S h0 3))) (kk : Go d i_X1_findPeriods 2 [.ref h0, .int (x1 + (1 : Int32)), .int x2, .int x3] [] S (z_u2 I (z_rv S h0 3) (Int32.toNatClampNeg x1) x3) J Q) : Go d i_X1_findPeriods 39 [.ref h0, .int x1, .int x2, .int x3] [] S I J Q := by
  have h := (And.intro g1 (And.intro g2 kk))
  exact Go.n tb_X1_findPeriods 7 h
theorem b_X1_findPeriods_52 {d : Nat} {S : zS} {I : zI} {J : zJ} {Q : zQ} {h0 : Nat} {x1 : Int32} {v2 : Value} {v3 : Value} (kk : Q none S I J) : Go d i_X1_findPeriods 52 [.ref h0, .int x1, v2, v3] [] S I J Q := by
  have h := (And.intro trivial kk)
  exact Go.n tb_X1_findPeriods 1 h
theorem w_X1_findClasses {d : Nat} {S : zS} {I : zI} {J : zJ} {Q : zQ} {h0 : Nat} (h : Go d i_X1_findClasses 0 [.ref h0, .retAddr 0, .retAddr 0, .retAddr 0] [] S I J Q) : z_wp (d + 1) i_X1_findClasses [.ref h0] S I J Q := Go.wp (Nat.le_of_ble_eq_true rfl) h
theorem e_X1_findClasses {d : Nat} {S S2 : zS} {I I2 : zI} {J J2 : zJ} {r : Option Value} {h0 : Nat} (h : Go d i_X1_findClasses 0 [.ref h0, .retAddr 0, .retAddr 0, .retAddr 0] [] S I J (z_eq r S2 I2 J2)) : z_ev (d + 1) i_X1_findClasses [.ref h0] S I J r S2 I2 J2 := Go.ev (Nat.le_of_ble_eq_true rfl) h
theorem b_X1_findClasses_0 {d : Nat} {S : zS} {I : zI} {J : zJ} {Q : zQ} {h0 : Nat} {v1 : Value} {v2 : Value} {v3 : Value} (kk : Go d i_X1_findClasses 2 [.ref h0, .int (0 : Int32), v2, v3] [] S I J Q) : Go d i_X1_findClasses 0 [.ref h0, v1, v2, v3] [] S I J Q := by
  have h := kk
  exact Go.n tb_X1_findClasses 2 h
theorem b_X1_findClasses_2 {d : Nat} {S : zS} {I : zI} {J : zJ} {Q : zQ} {h0 : Nat} {x1 : Int32} {v2 : Value} {v3 : Value} (g1 : z_kd S h0 = 2) (kt : (I h0 0) ≤ x1 → Go d i_X1_findClasses 62 [.ref h0, .int x1, v2, v3] [] S I J Q) (kf : ¬ (I h0 0) ≤ x1 → Go d i_X1_findClasses 10 [.ref h0, .int x1, v2, v3] [] S I J Q) : Go d i_X1_findClasses 2 [.ref h0, .int x1, v2, v3] [] S I J Q := by
  have h := (And.intro g1 (Go.ite kt kf))
  exact Go.n tb_X1_findClasses 4 h
theorem b_X1_findClasses_10 {d : Nat} {S : zS} {I : zI} {J : zJ} {Q : zQ} {h0 : Nat} {x1 : Int32} {v2 : Value} {v3 : Value} (kk : Go d i_X1_findClasses 14 [.ref h0, .int x1, .int (0 : Int32), .int (0 : Int32)] [] S I J Q) : Go d i_X1_findClasses 10 [.ref h0, .int x1, v2, v3] [] S I J Q := by
  have h := kk
  exact Go.n tb_X1_findClasses 4 h
theorem b_X1_findClasses_14 {d : Nat} {S : zS} {I : zI} {J : zJ} {Q : zQ} {h0 : Nat} {x1 : Int32} {x2 : Int32} {x3 : Int32} (g1 : z_kd S h0 = 2) (kt : (I h0 0) ≤ x3 → Go d i_X1_findClasses 49 [.ref h0, .int x1, .int x2, .int x3] [] S I J Q) (kf : ¬ (I h0 0) ≤ x3 → Go d i_X1_findClasses 22 [.ref h0, .int x1, .int x2, .int x3] [] S I J Q) : Go d i_X1_findClasses 14 [.ref h0, .int x1, .int x2, .int x3] [] S I J Q := by
  have h := (And.intro g1 (Go.ite kt kf))
  exact Go.n tb_X1_findClasses 4 h
theorem b_X1_findClasses_22 {d : Nat} {S : zS} {I : zI} {J : zJ} {Q : zQ} {h0 : Nat} {x1 : Int32} {x2 : Int32} {x3 : Int32} (g1 : z_kd S h0 = 2) (g2 : z_isI (z_kd S (z_rv S h0 2)) = true ∧ vp_in x3 (z_ln S (z_rv S h0 2))) (g3 : z_kd S h0 = 2) (kk : z_wp d i_X1_times [.ref h0, .int x1, .int x3] S I J (fun vv SS II JJ => Go d i_X1_findClasses 37 [.ref h0, .int x1, .int x2, .int x3] (vv.toList ++ [.int (I (z_rv S h0 2) (Int32.toNatClampNeg x3)), .ref h0, .int (1 : Int32), .int x2]) SS II JJ Q)) : Go d i_X1_findClasses 22 [.ref h0, .int x1, .int x2, .int x3] [] S I J Q := by
  have h := (And.intro g1 (And.intro g2 (And.intro g3 kk)))
  exact Go.n tb_X1_findClasses 11 h
theorem b_X1_findClasses_37 {d : Nat} {S : zS} {I : zI} {J : zJ} {Q : zQ} {h0 : Nat} {x1 : Int32} {x2 : Int32} {x3 : Int32} {y0 : Int32} {y1 : Int32} {q2 : Nat} {y3 : Int32} {y4 : Int32} (g1 : z_kd S q2 = 2) (kk : z_wp d i_X1_times [.ref q2, .int y3, .int y4] S I J (fun vv SS II JJ => Go d i_X1_findClasses 40 [.ref h0, .int x1, .int x2, .int x3] (vv.toList ++ [.int y1, .int y0]) SS II JJ Q)) : Go d i_X1_findClasses 37 [.ref h0, .int x1, .int x2, .int x3] [.int y4, .int y3, .ref q2, .int y1, .int y0] S I J Q := by
  have h := (And.intro g1 kk)
  exact Go.n tb_X1_findClasses 1 h
theorem b_X1_findClasses_40 {d : Nat} {S : zS} {I : zI} {J : zJ} {Q : zQ} {h0 : Nat} {x1 : Int32} {x2 : Int32} {x3 : Int32} {y0 : Int32} {y1 : Int32} {y2 : Int32} (kk : Go d i_X1_findClasses 14 [.ref h0, .int x1, .int (y0 ||| (y1 <<< (y2 &&& 31))), .int (x3 + (1 : Int32))] [] S I J Q) : Go d i_X1_findClasses 40 [.ref h0, .int x1, .int x2, .int x3] [.int y2, .int y1, .int y0] S I J Q := by
  have h := kk
  exact Go.n tb_X1_findClasses 5 h
theorem b_X1_findClasses_49 {d : Nat} {S : zS} {I : zI} {J : zJ} {Q : zQ} {h0 : Nat} {x1 : Int32} {x2 : Int32} {x3 : Int32} (g1 : z_kd S h0 = 2) (g2 : z_kd S (z_rv S h0 4) = 100 ∧ vp_in x1 (z_ln S (z_rv S h0 4))) (kk : Go d i_X1_findClasses 2 [.ref h0, .int (x1 + (1 : Int32)), .int x2, .int x3] [] S (z_u2 I (z_rv S h0 4) (Int32.toNatClampNeg x1) x2) J Q) : Go d i_X1_findClasses 49 [.ref h0, .int x1, .int x2, .int x3] [] S I J Q := by
  have h := (And.intro g1 (And.intro g2 kk))
  exact Go.n tb_X1_findClasses 7 h
theorem b_X1_findClasses_62 {d : Nat} {S : zS} {I : zI} {J : zJ} {Q : zQ} {h0 : Nat} {x1 : Int32} {v2 : Value} {v3 : Value} (kk : Q none S I J) : Go d i_X1_findClasses 62 [.ref h0, .int x1, v2, v3] [] S I J Q := by
  have h := (And.intro trivial kk)
  exact Go.n tb_X1_findClasses 1 h
theorem w_X1_findMarks {d : Nat} {S : zS} {I : zI} {J : zJ} {Q : zQ} {h0 : Nat} (h : Go d i_X1_findMarks 0 [.ref h0, .retAddr 0] [] S I J Q) : z_wp (d + 1) i_X1_findMarks [.ref h0] S I J Q := Go.wp (Nat.le_of_ble_eq_true rfl) h
theorem e_X1_findMarks {d : Nat} {S S2 : zS} {I I2 : zI} {J J2 : zJ} {r : Option Value} {h0 : Nat} (h : Go d i_X1_findMarks 0 [.ref h0, .retAddr 0] [] S I J (z_eq r S2 I2 J2)) : z_ev (d + 1) i_X1_findMarks [.ref h0] S I J r S2 I2 J2 := Go.ev (Nat.le_of_ble_eq_true rfl) h
theorem b_X1_findMarks_0 {d : Nat} {S : zS} {I : zI} {J : zJ} {Q : zQ} {h0 : Nat} {v1 : Value} (kk : Go d i_X1_findMarks 2 [.ref h0, .int (0 : Int32)] [] S I J Q) : Go d i_X1_findMarks 0 [.ref h0, v1] [] S I J Q := by
  have h := kk
  exact Go.n tb_X1_findMarks 2 h
theorem b_X1_findMarks_2 {d : Nat} {S : zS} {I : zI} {J : zJ} {Q : zQ} {h0 : Nat} {x1 : Int32} (g1 : z_kd S h0 = 2) (kt : (I h0 0) ≤ x1 → Go d i_X1_findMarks 61 [.ref h0, .int x1] [] S I J Q) (kf : ¬ (I h0 0) ≤ x1 → Go d i_X1_findMarks 10 [.ref h0, .int x1] [] S I J Q) : Go d i_X1_findMarks 2 [.ref h0, .int x1] [] S I J Q := by
  have h := (And.intro g1 (Go.ite kt kf))
  exact Go.n tb_X1_findMarks 4 h
theorem b_X1_findMarks_10 {d : Nat} {S : zS} {I : zI} {J : zJ} {Q : zQ} {h0 : Nat} {x1 : Int32} (g1 : z_kd S h0 = 2) (g2 : z_isI (z_kd S (z_rv S h0 5)) = true ∧ vp_in x1 (z_ln S (z_rv S h0 5))) (g3 : z_kd S h0 = 2) (g4 : z_isI (z_kd S (z_rv S h0 3)) = true ∧ vp_in x1 (z_ln S (z_rv S h0 3))) (g5 : z_kd S h0 = 2) (g6 : z_isI (z_kd S (z_rv S h0 4)) = true ∧ vp_in x1 (z_ln S (z_rv S h0 4))) (kk : z_wp d i_J6_bitCount_0f7a4 [.int (I (z_rv S h0 4) (Int32.toNatClampNeg x1))] S I J (fun vv SS II JJ => Go d i_X1_findMarks 35 [.ref h0, .int x1] (vv.toList ++ [.int ((I (z_rv S h0 3) (Int32.toNatClampNeg x1)) <<< ((10 : Int32) &&& 31)), .int (I (z_rv S h0 5) (Int32.toNatClampNeg x1)), .int x1, .ref (z_rv S h0 5)]) SS II JJ Q)) : Go d i_X1_findMarks 10 [.ref h0, .int x1] [] S I J Q := by
  have h := (And.intro g1 (And.intro g2 (And.intro g3 (And.intro g4 (And.intro g5 (And.intro g6 (And.intro trivial kk)))))))
  exact Go.n tb_X1_findMarks 16 h
theorem b_X1_findMarks_35 {d : Nat} {S : zS} {I : zI} {J : zJ} {Q : zQ} {h0 : Nat} {x1 : Int32} {q0 : Nat} {y1 : Int32} {y2 : Int32} {y3 : Int32} {y4 : Int32} (g1 : z_kd S q0 = 100 ∧ vp_in y1 (z_ln S q0)) (g2 : z_kd S h0 = 2) (g3 : z_kd S h0 = 2) (kk : z_wp d i_X1_times [.ref h0, .int x1, .int x1] S (z_u2 I q0 (Int32.toNatClampNeg y1) (y2 + (y3 ||| (y4 <<< ((5 : Int32) &&& 31))))) J (fun vv SS II JJ => Go d i_X1_findMarks 50 [.ref h0, .int x1] (vv.toList ++ [.ref (z_rv S h0 5)]) SS II JJ Q)) : Go d i_X1_findMarks 35 [.ref h0, .int x1] [.int y4, .int y3, .int y2, .int y1, .ref q0] S I J Q := by
  have h := (And.intro g1 (And.intro g2 (And.intro g3 kk)))
  exact Go.n tb_X1_findMarks 11 h
theorem b_X1_findMarks_50 {d : Nat} {S : zS} {I : zI} {J : zJ} {Q : zQ} {h0 : Nat} {x1 : Int32} {q0 : Nat} {y1 : Int32} (g1 : z_isI (z_kd S q0) = true ∧ vp_in y1 (z_ln S q0)) (g2 : z_kd S q0 = 100 ∧ vp_in y1 (z_ln S q0)) (kk : Go d i_X1_findMarks 2 [.ref h0, .int (x1 + (1 : Int32))] [] S (z_u2 I q0 (Int32.toNatClampNeg y1) ((I q0 (Int32.toNatClampNeg y1)) + (1 : Int32))) J Q) : Go d i_X1_findMarks 50 [.ref h0, .int x1] [.int y1, .ref q0] S I J Q := by
  have h := (And.intro g1 (And.intro g2 kk))
  exact Go.n tb_X1_findMarks 7 h
theorem b_X1_findMarks_61 {d : Nat} {S : zS} {I : zI} {J : zJ} {Q : zQ} {h0 : Nat} {x1 : Int32} (kk : Q none S I J) : Go d i_X1_findMarks 61 [.ref h0, .int x1] [] S I J Q := by
  have h := (And.intro trivial kk)
  exact Go.n tb_X1_findMarks 1 h
theorem w_X1_hasMarksOf {d : Nat} {S : zS} {I : zI} {J : zJ} {Q : zQ} {h0 : Nat} {h1 : Nat} (h : Go d i_X1_hasMarksOf 0 [.ref h0, .ref h1, .retAddr 0] [] S I J Q) : z_wp (d + 1) i_X1_hasMarksOf [.ref h0, .ref h1] S I J Q := Go.wp (Nat.le_of_ble_eq_true rfl) h
theorem e_X1_hasMarksOf {d : Nat} {S S2 : zS} {I I2 : zI} {J J2 : zJ} {r : Option Value} {h0 : Nat} {h1 : Nat} (h : Go d i_X1_hasMarksOf 0 [.ref h0, .ref h1, .retAddr 0] [] S I J (z_eq r S2 I2 J2)) : z_ev (d + 1) i_X1_hasMarksOf [.ref h0, .ref h1] S I J r S2 I2 J2 := Go.ev (Nat.le_of_ble_eq_true rfl) h
theorem b_X1_hasMarksOf_0 {d : Nat} {S : zS} {I : zI} {J : zJ} {Q : zQ} {h0 : Nat} {h1 : Nat} {v2 : Value} (kk : Go d i_X1_hasMarksOf 2 [.ref h0, .ref h1, .int (0 : Int32)] [] S I J Q) : Go d i_X1_hasMarksOf 0 [.ref h0, .ref h1, v2] [] S I J Q := by
  have h := kk
  exact Go.n tb_X1_hasMarksOf 2 h
theorem b_X1_hasMarksOf_2 {d : Nat} {S : zS} {I : zI} {J : zJ} {Q : zQ} {h0 : Nat} {h1 : Nat} {x2 : Int32} (g1 : z_kd S h0 = 2) (kt : (I h0 0) ≤ x2 → Go d i_X1_hasMarksOf 41 [.ref h0, .ref h1, .int x2] [] S I J Q) (kf : ¬ (I h0 0) ≤ x2 → Go d i_X1_hasMarksOf 10 [.ref h0, .ref h1, .int x2] [] S I J Q) : Go d i_X1_hasMarksOf 2 [.ref h0, .ref h1, .int x2] [] S I J Q := by
  have h := (And.intro g1 (Go.ite kt kf))
  exact Go.n tb_X1_hasMarksOf 4 h
theorem b_X1_hasMarksOf_10 {d : Nat} {S : zS} {I : zI} {J : zJ} {Q : zQ} {h0 : Nat} {h1 : Nat} {x2 : Int32} (g1 : z_kd S h0 = 2) (g2 : z_isI (z_kd S (z_rv S h0 5)) = true ∧ vp_in x2 (z_ln S (z_rv S h0 5))) (g3 : z_kd S h0 = 2) (kk : z_wp d i_X1_countMark [.ref h0, .int (I (z_rv S h0 5) (Int32.toNatClampNeg x2))] S I J (fun vv SS II JJ => Go d i_X1_hasMarksOf 20 [.ref h0, .ref h1, .int x2] (vv.toList ++ []) SS II JJ Q)) : Go d i_X1_hasMarksOf 10 [.ref h0, .ref h1, .int x2] [] S I J Q := by
  have h := (And.intro g1 (And.intro g2 (And.intro g3 kk)))
  exact Go.n tb_X1_hasMarksOf 6 h
theorem b_X1_hasMarksOf_20 {d : Nat} {S : zS} {I : zI} {J : zJ} {Q : zQ} {h0 : Nat} {h1 : Nat} {x2 : Int32} {y0 : Int32} (g1 : z_kd S h0 = 2) (g2 : z_isI (z_kd S (z_rv S h0 5)) = true ∧ vp_in x2 (z_ln S (z_rv S h0 5))) (g3 : z_kd S h1 = 2) (kk : z_wp d i_X1_countMark [.ref h1, .int (I (z_rv S h0 5) (Int32.toNatClampNeg x2))] S I J (fun vv SS II JJ => Go d i_X1_hasMarksOf 30 [.ref h0, .ref h1, .int x2] (vv.toList ++ [.int y0]) SS II JJ Q)) : Go d i_X1_hasMarksOf 20 [.ref h0, .ref h1, .int x2] [.int y0] S I J Q := by
  have h := (And.intro g1 (And.intro g2 (And.intro g3 kk)))
  exact Go.n tb_X1_hasMarksOf 6 h
theorem b_X1_hasMarksOf_30 {d : Nat} {S : zS} {I : zI} {J : zJ} {Q : zQ} {h0 : Nat} {h1 : Nat} {x2 : Int32} {y0 : Int32} {y1 : Int32} (kt : y0 = y1 → Go d i_X1_hasMarksOf 35 [.ref h0, .ref h1, .int x2] [] S I J Q) (kf : ¬ y0 = y1 → Go d i_X1_hasMarksOf 33 [.ref h0, .ref h1, .int x2] [] S I J Q) : Go d i_X1_hasMarksOf 30 [.ref h0, .ref h1, .int x2] [.int y1, .int y0] S I J Q := by
  have h := (Go.ite kt kf)
  exact Go.n tb_X1_hasMarksOf 1 h
theorem b_X1_hasMarksOf_33 {d : Nat} {S : zS} {I : zI} {J : zJ} {Q : zQ} {h0 : Nat} {h1 : Nat} {x2 : Int32} (g1 : z_fit 3 (0 : Int32)) (kk : Q (some (.int (0 : Int32))) S I J) : Go d i_X1_hasMarksOf 33 [.ref h0, .ref h1, .int x2] [] S I J Q := by
  have h := (And.intro g1 kk)
  exact Go.n tb_X1_hasMarksOf 2 h
theorem b_X1_hasMarksOf_35 {d : Nat} {S : zS} {I : zI} {J : zJ} {Q : zQ} {h0 : Nat} {h1 : Nat} {x2 : Int32} (kk : Go d i_X1_hasMarksOf 2 [.ref h0, .ref h1, .int (x2 + (1 : Int32))] [] S I J Q) : Go d i_X1_hasMarksOf 35 [.ref h0, .ref h1, .int x2] [] S I J Q := by
  have h := kk
  exact Go.n tb_X1_hasMarksOf 2 h
theorem b_X1_hasMarksOf_41 {d : Nat} {S : zS} {I : zI} {J : zJ} {Q : zQ} {h0 : Nat} {h1 : Nat} {x2 : Int32} (g1 : z_kd S h0 = 2) (g2 : z_kd S h1 = 2) (kt : ¬ (I h0 0) = (I h1 0) → Go d i_X1_hasMarksOf 56 [.ref h0, .ref h1, .int x2] [] S I J Q) (kf : (I h0 0) = (I h1 0) → Go d i_X1_hasMarksOf 52 [.ref h0, .ref h1, .int x2] [] S I J Q) : Go d i_X1_hasMarksOf 41 [.ref h0, .ref h1, .int x2] [] S I J Q := by
  have h := (And.intro g1 (And.intro g2 (Go.eti kt kf)))
  exact Go.n tb_X1_hasMarksOf 5 h
theorem b_X1_hasMarksOf_52 {d : Nat} {S : zS} {I : zI} {J : zJ} {Q : zQ} {h0 : Nat} {h1 : Nat} {x2 : Int32} (g1 : z_fit 3 (1 : Int32)) (kk : Q (some (.int (1 : Int32))) S I J) : Go d i_X1_hasMarksOf 52 [.ref h0, .ref h1, .int x2] [] S I J Q := by
  have h := (And.intro g1 kk)
  exact Go.n tb_X1_hasMarksOf 3 h
theorem b_X1_hasMarksOf_56 {d : Nat} {S : zS} {I : zI} {J : zJ} {Q : zQ} {h0 : Nat} {h1 : Nat} {x2 : Int32} (g1 : z_fit 3 (0 : Int32)) (kk : Q (some (.int (0 : Int32))) S I J) : Go d i_X1_hasMarksOf 56 [.ref h0, .ref h1, .int x2] [] S I J Q := by
  have h := (And.intro g1 kk)
  exact Go.n tb_X1_hasMarksOf 2 h
theorem w_X1_countMark {d : Nat} {S : zS} {I : zI} {J : zJ} {Q : zQ} {h0 : Nat} {x1 : Int32} (h : Go d i_X1_countMark 0 [.ref h0, .int x1, .retAddr 0, .retAddr 0] [] S I J Q) : z_wp (d + 1) i_X1_countMark [.ref h0, .int x1] S I J Q := Go.wp (Nat.le_of_ble_eq_true rfl) h
theorem e_X1_countMark {d : Nat} {S S2 : zS} {I I2 : zI} {J J2 : zJ} {r : Option Value} {h0 : Nat} {x1 : Int32} (h : Go d i_X1_countMark 0 [.ref h0, .int x1, .retAddr 0, .retAddr 0] [] S I J (z_eq r S2 I2 J2)) : z_ev (d + 1) i_X1_countMark [.ref h0, .int x1] S I J r S2 I2 J2 := Go.ev (Nat.le_of_ble_eq_true rfl) h
theorem b_X1_countMark_0 {d : Nat} {S : zS} {I : zI} {J : zJ} {Q : zQ} {h0 : Nat} {x1 : Int32} {v2 : Value} {v3 : Value} (kk : Go d i_X1_countMark 4 [.ref h0, .int x1, .int (0 : Int32), .int (0 : Int32)] [] S I J Q) : Go d i_X1_countMark 0 [.ref h0, .int x1, v2, v3] [] S I J Q := by
  have h := kk
  exact Go.n tb_X1_countMark 4 h
theorem b_X1_countMark_4 {d : Nat} {S : zS} {I : zI} {J : zJ} {Q : zQ} {h0 : Nat} {x1 : Int32} {x2 : Int32} {x3 : Int32} (g1 : z_kd S h0 = 2) (kt : (I h0 0) ≤ x3 → Go d i_X1_countMark 31 [.ref h0, .int x1, .int x2, .int x3] [] S I J Q) (kf : ¬ (I h0 0) ≤ x3 → Go d i_X1_countMark 12 [.ref h0, .int x1, .int x2, .int x3] [] S I J Q) : Go d i_X1_countMark 4 [.ref h0, .int x1, .int x2, .int x3] [] S I J Q := by
  have h := (And.intro g1 (Go.ite kt kf))
  exact Go.n tb_X1_countMark 4 h
theorem b_X1_countMark_12 {d : Nat} {S : zS} {I : zI} {J : zJ} {Q : zQ} {h0 : Nat} {x1 : Int32} {x2 : Int32} {x3 : Int32} (g1 : z_kd S h0 = 2) (g2 : z_isI (z_kd S (z_rv S h0 5)) = true ∧ vp_in x3 (z_ln S (z_rv S h0 5))) (kt : ¬ (I (z_rv S h0 5) (Int32.toNatClampNeg x3)) = x1 → Go d i_X1_countMark 25 [.ref h0, .int x1, .int x2, .int x3] [] S I J Q) (kf : (I (z_rv S h0 5) (Int32.toNatClampNeg x3)) = x1 → Go d i_X1_countMark 22 [.ref h0, .int x1, .int x2, .int x3] [] S I J Q) : Go d i_X1_countMark 12 [.ref h0, .int x1, .int x2, .int x3] [] S I J Q := by
  have h := (And.intro g1 (And.intro g2 (Go.eti kt kf)))
  exact Go.n tb_X1_countMark 6 h
theorem b_X1_countMark_22 {d : Nat} {S : zS} {I : zI} {J : zJ} {Q : zQ} {h0 : Nat} {x1 : Int32} {x2 : Int32} {x3 : Int32} (kk : Go d i_X1_countMark 4 [.ref h0, .int x1, .int (x2 + (1 : Int32)), .int (x3 + (1 : Int32))] [] S I J Q) : Go d i_X1_countMark 22 [.ref h0, .int x1, .int x2, .int x3] [] S I J Q := by
  have h := kk
  exact Go.n tb_X1_countMark 3 h
theorem b_X1_countMark_25 {d : Nat} {S : zS} {I : zI} {J : zJ} {Q : zQ} {h0 : Nat} {x1 : Int32} {x2 : Int32} {x3 : Int32} (kk : Go d i_X1_countMark 4 [.ref h0, .int x1, .int x2, .int (x3 + (1 : Int32))] [] S I J Q) : Go d i_X1_countMark 25 [.ref h0, .int x1, .int x2, .int x3] [] S I J Q := by
  have h := kk
  exact Go.n tb_X1_countMark 2 h
theorem b_X1_countMark_31 {d : Nat} {S : zS} {I : zI} {J : zJ} {Q : zQ} {h0 : Nat} {x1 : Int32} {x2 : Int32} {x3 : Int32} (kk : Q (some (.int x2)) S I J) : Go d i_X1_countMark 31 [.ref h0, .int x1, .int x2, .int x3] [] S I J Q := by
  have h := (And.intro trivial kk)
  exact Go.n tb_X1_countMark 2 h
theorem w_X1_isSet {d : Nat} {S : zS} {I : zI} {J : zJ} {Q : zQ} {h0 : Nat} {x1 : Int32} (h : Go d i_X1_isSet 0 [.ref h0, .int x1] [] S I J Q) : z_wp (d + 1) i_X1_isSet [.ref h0, .int x1] S I J Q := Go.wp (Nat.le_of_ble_eq_true rfl) h
theorem e_X1_isSet {d : Nat} {S S2 : zS} {I I2 : zI} {J J2 : zJ} {r : Option Value} {h0 : Nat} {x1 : Int32} (h : Go d i_X1_isSet 0 [.ref h0, .int x1] [] S I J (z_eq r S2 I2 J2)) : z_ev (d + 1) i_X1_isSet [.ref h0, .int x1] S I J r S2 I2 J2 := Go.ev (Nat.le_of_ble_eq_true rfl) h
theorem b_X1_isSet_0 {d : Nat} {S : zS} {I : zI} {J : zJ} {Q : zQ} {h0 : Nat} {x1 : Int32} (kt : x1 < (0 : Int32) → Go d i_X1_isSet 17 [.ref h0, .int x1] [] S I J Q) (kf : ¬ x1 < (0 : Int32) → Go d i_X1_isSet 4 [.ref h0, .int x1] [] S I J Q) : Go d i_X1_isSet 0 [.ref h0, .int x1] [] S I J Q := by
  have h := (Go.ite kt kf)
  exact Go.n tb_X1_isSet 2 h
theorem b_X1_isSet_4 {d : Nat} {S : zS} {I : zI} {J : zJ} {Q : zQ} {h0 : Nat} {x1 : Int32} (g1 : z_kd S h0 = 2) (kt : ¬ (x1 >>> ((I h0 0) &&& 31)) = (0 : Int32) → Go d i_X1_isSet 17 [.ref h0, .int x1] [] S I J Q) (kf : (x1 >>> ((I h0 0) &&& 31)) = (0 : Int32) → Go d i_X1_isSet 13 [.ref h0, .int x1] [] S I J Q) : Go d i_X1_isSet 4 [.ref h0, .int x1] [] S I J Q := by
  have h := (And.intro g1 (Go.eti kt kf))
  exact Go.n tb_X1_isSet 5 h
theorem b_X1_isSet_13 {d : Nat} {S : zS} {I : zI} {J : zJ} {Q : zQ} {h0 : Nat} {x1 : Int32} (g1 : z_fit 3 (1 : Int32)) (kk : Q (some (.int (1 : Int32))) S I J) : Go d i_X1_isSet 13 [.ref h0, .int x1] [] S I J Q := by
  have h := (And.intro g1 kk)
  exact Go.n tb_X1_isSet 3 h
theorem b_X1_isSet_17 {d : Nat} {S : zS} {I : zI} {J : zJ} {Q : zQ} {h0 : Nat} {x1 : Int32} (g1 : z_fit 3 (0 : Int32)) (kk : Q (some (.int (0 : Int32))) S I J) : Go d i_X1_isSet 17 [.ref h0, .int x1] [] S I J Q := by
  have h := (And.intro g1 kk)
  exact Go.n tb_X1_isSet 2 h
theorem w_X1_isClosed {d : Nat} {S : zS} {I : zI} {J : zJ} {Q : zQ} {h0 : Nat} {x1 : Int32} (h : Go d i_X1_isClosed 0 [.ref h0, .int x1] [] S I J Q) : z_wp (d + 1) i_X1_isClosed [.ref h0, .int x1] S I J Q := Go.wp (Nat.le_of_ble_eq_true rfl) h
theorem e_X1_isClosed {d : Nat} {S S2 : zS} {I I2 : zI} {J J2 : zJ} {r : Option Value} {h0 : Nat} {x1 : Int32} (h : Go d i_X1_isClosed 0 [.ref h0, .int x1] [] S I J (z_eq r S2 I2 J2)) : z_ev (d + 1) i_X1_isClosed [.ref h0, .int x1] S I J r S2 I2 J2 := Go.ev (Nat.le_of_ble_eq_true rfl) h
theorem b_X1_isClosed_0 {d : Nat} {S : zS} {I : zI} {J : zJ} {Q : zQ} {h0 : Nat} {x1 : Int32} (g1 : z_kd S h0 = 2) (kk : z_wp d i_X1_span [.ref h0, .int x1] S I J (fun vv SS II JJ => Go d i_X1_isClosed 5 [.ref h0, .int x1] (vv.toList ++ []) SS II JJ Q)) : Go d i_X1_isClosed 0 [.ref h0, .int x1] [] S I J Q := by
  have h := (And.intro g1 kk)
  exact Go.n tb_X1_isClosed 3 h
theorem b_X1_isClosed_5 {d : Nat} {S : zS} {I : zI} {J : zJ} {Q : zQ} {h0 : Nat} {x1 : Int32} {y0 : Int32} (kt : ¬ y0 = x1 → Go d i_X1_isClosed 13 [.ref h0, .int x1] [] S I J Q) (kf : y0 = x1 → Go d i_X1_isClosed 9 [.ref h0, .int x1] [] S I J Q) : Go d i_X1_isClosed 5 [.ref h0, .int x1] [.int y0] S I J Q := by
  have h := (Go.eti kt kf)
  exact Go.n tb_X1_isClosed 2 h
theorem b_X1_isClosed_9 {d : Nat} {S : zS} {I : zI} {J : zJ} {Q : zQ} {h0 : Nat} {x1 : Int32} (g1 : z_fit 3 (1 : Int32)) (kk : Q (some (.int (1 : Int32))) S I J) : Go d i_X1_isClosed 9 [.ref h0, .int x1] [] S I J Q := by
  have h := (And.intro g1 kk)
  exact Go.n tb_X1_isClosed 3 h
theorem b_X1_isClosed_13 {d : Nat} {S : zS} {I : zI} {J : zJ} {Q : zQ} {h0 : Nat} {x1 : Int32} (g1 : z_fit 3 (0 : Int32)) (kk : Q (some (.int (0 : Int32))) S I J) : Go d i_X1_isClosed 13 [.ref h0, .int x1] [] S I J Q := by
  have h := (And.intro g1 kk)
  exact Go.n tb_X1_isClosed 2 h
theorem w_X1_isOfWholeClasses {d : Nat} {S : zS} {I : zI} {J : zJ} {Q : zQ} {h0 : Nat} {x1 : Int32} (h : Go d i_X1_isOfWholeClasses 0 [.ref h0, .int x1, .retAddr 0] [] S I J Q) : z_wp (d + 1) i_X1_isOfWholeClasses [.ref h0, .int x1] S I J Q := Go.wp (Nat.le_of_ble_eq_true rfl) h
theorem e_X1_isOfWholeClasses {d : Nat} {S S2 : zS} {I I2 : zI} {J J2 : zJ} {r : Option Value} {h0 : Nat} {x1 : Int32} (h : Go d i_X1_isOfWholeClasses 0 [.ref h0, .int x1, .retAddr 0] [] S I J (z_eq r S2 I2 J2)) : z_ev (d + 1) i_X1_isOfWholeClasses [.ref h0, .int x1] S I J r S2 I2 J2 := Go.ev (Nat.le_of_ble_eq_true rfl) h
theorem b_X1_isOfWholeClasses_0 {d : Nat} {S : zS} {I : zI} {J : zJ} {Q : zQ} {h0 : Nat} {x1 : Int32} {v2 : Value} (kk : Go d i_X1_isOfWholeClasses 2 [.ref h0, .int x1, .int (0 : Int32)] [] S I J Q) : Go d i_X1_isOfWholeClasses 0 [.ref h0, .int x1, v2] [] S I J Q := by
  have h := kk
  exact Go.n tb_X1_isOfWholeClasses 2 h
theorem b_X1_isOfWholeClasses_2 {d : Nat} {S : zS} {I : zI} {J : zJ} {Q : zQ} {h0 : Nat} {x1 : Int32} {x2 : Int32} (g1 : z_kd S h0 = 2) (kt : (I h0 0) ≤ x2 → Go d i_X1_isOfWholeClasses 39 [.ref h0, .int x1, .int x2] [] S I J Q) (kf : ¬ (I h0 0) ≤ x2 → Go d i_X1_isOfWholeClasses 10 [.ref h0, .int x1, .int x2] [] S I J Q) : Go d i_X1_isOfWholeClasses 2 [.ref h0, .int x1, .int x2] [] S I J Q := by
  have h := (And.intro g1 (Go.ite kt kf))
  exact Go.n tb_X1_isOfWholeClasses 4 h
theorem b_X1_isOfWholeClasses_10 {d : Nat} {S : zS} {I : zI} {J : zJ} {Q : zQ} {h0 : Nat} {x1 : Int32} {x2 : Int32} (kt : ((x1 >>> (x2 &&& 31)) &&& (1 : Int32)) = (0 : Int32) → Go d i_X1_isOfWholeClasses 33 [.ref h0, .int x1, .int x2] [] S I J Q) (kf : ¬ ((x1 >>> (x2 &&& 31)) &&& (1 : Int32)) = (0 : Int32) → Go d i_X1_isOfWholeClasses 18 [.ref h0, .int x1, .int x2] [] S I J Q) : Go d i_X1_isOfWholeClasses 10 [.ref h0, .int x1, .int x2] [] S I J Q := by
  have h := (Go.ite kt kf)
  exact Go.n tb_X1_isOfWholeClasses 6 h
theorem b_X1_isOfWholeClasses_18 {d : Nat} {S : zS} {I : zI} {J : zJ} {Q : zQ} {h0 : Nat} {x1 : Int32} {x2 : Int32} (g1 : z_kd S h0 = 2) (g2 : z_isI (z_kd S (z_rv S h0 4)) = true ∧ vp_in x2 (z_ln S (z_rv S h0 4))) (kt : ((I (z_rv S h0 4) (Int32.toNatClampNeg x2)) &&& (x1 ^^^ (-1 : Int32))) = (0 : Int32) → Go d i_X1_isOfWholeClasses 33 [.ref h0, .int x1, .int x2] [] S I J Q) (kf : ¬ ((I (z_rv S h0 4) (Int32.toNatClampNeg x2)) &&& (x1 ^^^ (-1 : Int32))) = (0 : Int32) → Go d i_X1_isOfWholeClasses 31 [.ref h0, .int x1, .int x2] [] S I J Q) : Go d i_X1_isOfWholeClasses 18 [.ref h0, .int x1, .int x2] [] S I J Q := by
  have h := (And.intro g1 (And.intro g2 (Go.ite kt kf)))
  exact Go.n tb_X1_isOfWholeClasses 9 h
theorem b_X1_isOfWholeClasses_31 {d : Nat} {S : zS} {I : zI} {J : zJ} {Q : zQ} {h0 : Nat} {x1 : Int32} {x2 : Int32} (g1 : z_fit 3 (0 : Int32)) (kk : Q (some (.int (0 : Int32))) S I J) : Go d i_X1_isOfWholeClasses 31 [.ref h0, .int x1, .int x2] [] S I J Q := by
  have h := (And.intro g1 kk)
  exact Go.n tb_X1_isOfWholeClasses 2 h
theorem b_X1_isOfWholeClasses_33 {d : Nat} {S : zS} {I : zI} {J : zJ} {Q : zQ} {h0 : Nat} {x1 : Int32} {x2 : Int32} (kk : Go d i_X1_isOfWholeClasses 2 [.ref h0, .int x1, .int (x2 + (1 : Int32))] [] S I J Q) : Go d i_X1_isOfWholeClasses 33 [.ref h0, .int x1, .int x2] [] S I J Q := by
  have h := kk
  exact Go.n tb_X1_isOfWholeClasses 2 h
theorem b_X1_isOfWholeClasses_39 {d : Nat} {S : zS} {I : zI} {J : zJ} {Q : zQ} {h0 : Nat} {x1 : Int32} {x2 : Int32} (g1 : z_fit 3 (1 : Int32)) (kk : Q (some (.int (1 : Int32))) S I J) : Go d i_X1_isOfWholeClasses 39 [.ref h0, .int x1, .int x2] [] S I J Q := by
  have h := (And.intro g1 kk)
  exact Go.n tb_X1_isOfWholeClasses 2 h
theorem w_X1_withInverses {d : Nat} {S : zS} {I : zI} {J : zJ} {Q : zQ} {h0 : Nat} {x1 : Int32} (h : Go d i_X1_withInverses 0 [.ref h0, .int x1, .retAddr 0, .retAddr 0] [] S I J Q) : z_wp (d + 1) i_X1_withInverses [.ref h0, .int x1] S I J Q := Go.wp (Nat.le_of_ble_eq_true rfl) h
theorem e_X1_withInverses {d : Nat} {S S2 : zS} {I I2 : zI} {J J2 : zJ} {r : Option Value} {h0 : Nat} {x1 : Int32} (h : Go d i_X1_withInverses 0 [.ref h0, .int x1, .retAddr 0, .retAddr 0] [] S I J (z_eq r S2 I2 J2)) : z_ev (d + 1) i_X1_withInverses [.ref h0, .int x1] S I J r S2 I2 J2 := Go.ev (Nat.le_of_ble_eq_true rfl) h
theorem b_X1_withInverses_0 {d : Nat} {S : zS} {I : zI} {J : zJ} {Q : zQ} {h0 : Nat} {x1 : Int32} {v2 : Value} {v3 : Value} (kk : Go d i_X1_withInverses 4 [.ref h0, .int x1, .int x1, .int (0 : Int32)] [] S I J Q) : Go d i_X1_withInverses 0 [.ref h0, .int x1, v2, v3] [] S I J Q := by
  have h := kk
  exact Go.n tb_X1_withInverses 4 h
theorem b_X1_withInverses_4 {d : Nat} {S : zS} {I : zI} {J : zJ} {Q : zQ} {h0 : Nat} {x1 : Int32} {x2 : Int32} {x3 : Int32} (g1 : z_kd S h0 = 2) (kt : (I h0 0) ≤ x3 → Go d i_X1_withInverses 37 [.ref h0, .int x1, .int x2, .int x3] [] S I J Q) (kf : ¬ (I h0 0) ≤ x3 → Go d i_X1_withInverses 12 [.ref h0, .int x1, .int x2, .int x3] [] S I J Q) : Go d i_X1_withInverses 4 [.ref h0, .int x1, .int x2, .int x3] [] S I J Q := by
  have h := (And.intro g1 (Go.ite kt kf))
  exact Go.n tb_X1_withInverses 4 h
theorem b_X1_withInverses_12 {d : Nat} {S : zS} {I : zI} {J : zJ} {Q : zQ} {h0 : Nat} {x1 : Int32} {x2 : Int32} {x3 : Int32} (kt : ((x1 >>> (x3 &&& 31)) &&& (1 : Int32)) = (0 : Int32) → Go d i_X1_withInverses 31 [.ref h0, .int x1, .int x2, .int x3] [] S I J Q) (kf : ¬ ((x1 >>> (x3 &&& 31)) &&& (1 : Int32)) = (0 : Int32) → Go d i_X1_withInverses 20 [.ref h0, .int x1, .int x2, .int x3] [] S I J Q) : Go d i_X1_withInverses 12 [.ref h0, .int x1, .int x2, .int x3] [] S I J Q := by
  have h := (Go.ite kt kf)
  exact Go.n tb_X1_withInverses 6 h
theorem b_X1_withInverses_20 {d : Nat} {S : zS} {I : zI} {J : zJ} {Q : zQ} {h0 : Nat} {x1 : Int32} {x2 : Int32} {x3 : Int32} (g1 : z_kd S h0 = 2) (g2 : z_isI (z_kd S (z_rv S h0 2)) = true ∧ vp_in x3 (z_ln S (z_rv S h0 2))) (kk : Go d i_X1_withInverses 4 [.ref h0, .int x1, .int (x2 ||| ((1 : Int32) <<< ((I (z_rv S h0 2) (Int32.toNatClampNeg x3)) &&& 31))), .int (x3 + (1 : Int32))] [] S I J Q) : Go d i_X1_withInverses 20 [.ref h0, .int x1, .int x2, .int x3] [] S I J Q := by
  have h := (And.intro g1 (And.intro g2 kk))
  exact Go.n tb_X1_withInverses 11 h
theorem b_X1_withInverses_31 {d : Nat} {S : zS} {I : zI} {J : zJ} {Q : zQ} {h0 : Nat} {x1 : Int32} {x2 : Int32} {x3 : Int32} (kk : Go d i_X1_withInverses 4 [.ref h0, .int x1, .int x2, .int (x3 + (1 : Int32))] [] S I J Q) : Go d i_X1_withInverses 31 [.ref h0, .int x1, .int x2, .int x3] [] S I J Q := by
  have h := kk
  exact Go.n tb_X1_withInverses 2 h
theorem b_X1_withInverses_37 {d : Nat} {S : zS} {I : zI} {J : zJ} {Q : zQ} {h0 : Nat} {x1 : Int32} {x2 : Int32} {x3 : Int32} (kk : Q (some (.int x2)) S I J) : Go d i_X1_withInverses 37 [.ref h0, .int x1, .int x2, .int x3] [] S I J Q := by
  have h := (And.intro trivial kk)
  exact Go.n tb_X1_withInverses 2 h
theorem w_X1_onward {d : Nat} {S : zS} {I : zI} {J : zJ} {Q : zQ} {h0 : Nat} {x1 : Int32} {x2 : Int32} (h : Go d i_X1_onward 0 [.ref h0, .int x1, .int x2, .retAddr 0, .retAddr 0] [] S I J Q) : z_wp (d + 1) i_X1_onward [.ref h0, .int x1, .int x2] S I J Q := Go.wp (Nat.le_of_ble_eq_true rfl) h
theorem e_X1_onward {d : Nat} {S S2 : zS} {I I2 : zI} {J J2 : zJ} {r : Option Value} {h0 : Nat} {x1 : Int32} {x2 : Int32} (h : Go d i_X1_onward 0 [.ref h0, .int x1, .int x2, .retAddr 0, .retAddr 0] [] S I J (z_eq r S2 I2 J2)) : z_ev (d + 1) i_X1_onward [.ref h0, .int x1, .int x2] S I J r S2 I2 J2 := Go.ev (Nat.le_of_ble_eq_true rfl) h
theorem b_X1_onward_0 {d : Nat} {S : zS} {I : zI} {J : zJ} {Q : zQ} {h0 : Nat} {x1 : Int32} {x2 : Int32} {v3 : Value} {v4 : Value} (kk : Go d i_X1_onward 5 [.ref h0, .int x1, .int x2, .int (0 : Int32), .int (0 : Int32)] [] S I J Q) : Go d i_X1_onward 0 [.ref h0, .int x1, .int x2, v3, v4] [] S I J Q := by
  have h := kk
  exact Go.n tb_X1_onward 4 h
theorem b_X1_onward_5 {d : Nat} {S : zS} {I : zI} {J : zJ} {Q : zQ} {h0 : Nat} {x1 : Int32} {x2 : Int32} {x3 : Int32} {x4 : Int32} (g1 : z_kd S h0 = 2) (kt : (I h0 0) ≤ x4 → Go d i_X1_onward 39 [.ref h0, .int x1, .int x2, .int x3, .int x4] [] S I J Q) (kf : ¬ (I h0 0) ≤ x4 → Go d i_X1_onward 14 [.ref h0, .int x1, .int x2, .int x3, .int x4] [] S I J Q) : Go d i_X1_onward 5 [.ref h0, .int x1, .int x2, .int x3, .int x4] [] S I J Q := by
  have h := (And.intro g1 (Go.ite kt kf))
  exact Go.n tb_X1_onward 4 h
theorem b_X1_onward_14 {d : Nat} {S : zS} {I : zI} {J : zJ} {Q : zQ} {h0 : Nat} {x1 : Int32} {x2 : Int32} {x3 : Int32} {x4 : Int32} (kt : ((x1 >>> (x4 &&& 31)) &&& (1 : Int32)) = (0 : Int32) → Go d i_X1_onward 33 [.ref h0, .int x1, .int x2, .int x3, .int x4] [] S I J Q) (kf : ¬ ((x1 >>> (x4 &&& 31)) &&& (1 : Int32)) = (0 : Int32) → Go d i_X1_onward 23 [.ref h0, .int x1, .int x2, .int x3, .int x4] [] S I J Q) : Go d i_X1_onward 14 [.ref h0, .int x1, .int x2, .int x3, .int x4] [] S I J Q := by
  have h := (Go.ite kt kf)
  exact Go.n tb_X1_onward 6 h
theorem b_X1_onward_23 {d : Nat} {S : zS} {I : zI} {J : zJ} {Q : zQ} {h0 : Nat} {x1 : Int32} {x2 : Int32} {x3 : Int32} {x4 : Int32} (g1 : z_kd S h0 = 2) (kk : z_wp d i_X1_shifted [.ref h0, .int x4, .int x2] S I J (fun vv SS II JJ => Go d i_X1_onward 31 [.ref h0, .int x1, .int x2, .int x3, .int x4] (vv.toList ++ [.int x3]) SS II JJ Q)) : Go d i_X1_onward 23 [.ref h0, .int x1, .int x2, .int x3, .int x4] [] S I J Q := by
  have h := (And.intro g1 kk)
  exact Go.n tb_X1_onward 5 h
theorem b_X1_onward_31 {d : Nat} {S : zS} {I : zI} {J : zJ} {Q : zQ} {h0 : Nat} {x1 : Int32} {x2 : Int32} {x3 : Int32} {x4 : Int32} {y0 : Int32} {y1 : Int32} (kk : Go d i_X1_onward 5 [.ref h0, .int x1, .int x2, .int (y0 ||| y1), .int (x4 + (1 : Int32))] [] S I J Q) : Go d i_X1_onward 31 [.ref h0, .int x1, .int x2, .int x3, .int x4] [.int y1, .int y0] S I J Q := by
  have h := kk
  exact Go.n tb_X1_onward 4 h
theorem b_X1_onward_33 {d : Nat} {S : zS} {I : zI} {J : zJ} {Q : zQ} {h0 : Nat} {x1 : Int32} {x2 : Int32} {x3 : Int32} {x4 : Int32} (kk : Go d i_X1_onward 5 [.ref h0, .int x1, .int x2, .int x3, .int (x4 + (1 : Int32))] [] S I J Q) : Go d i_X1_onward 33 [.ref h0, .int x1, .int x2, .int x3, .int x4] [] S I J Q := by
  have h := kk
  exact Go.n tb_X1_onward 2 h
theorem b_X1_onward_39 {d : Nat} {S : zS} {I : zI} {J : zJ} {Q : zQ} {h0 : Nat} {x1 : Int32} {x2 : Int32} {x3 : Int32} {x4 : Int32} (kk : Q (some (.int x3)) S I J) : Go d i_X1_onward 39 [.ref h0, .int x1, .int x2, .int x3, .int x4] [] S I J Q := by
  have h := (And.intro trivial kk)
  exact Go.n tb_X1_onward 2 h
theorem w_X1_shifted {d : Nat} {S : zS} {I : zI} {J : zJ} {Q : zQ} {h0 : Nat} {x1 : Int32} {x2 : Int32} (h : Go d i_X1_shifted 0 [.ref h0, .int x1, .int x2, .retAddr 0, .retAddr 0] [] S I J Q) : z_wp (d + 1) i_X1_shifted [.ref h0, .int x1, .int x2] S I J Q := Go.wp (Nat.le_of_ble_eq_true rfl) h
theorem e_X1_shifted {d : Nat} {S S2 : zS} {I I2 : zI} {J J2 : zJ} {r : Option Value} {h0 : Nat} {x1 : Int32} {x2 : Int32} (h : Go d i_X1_shifted 0 [.ref h0, .int x1, .int x2, .retAddr 0, .retAddr 0] [] S I J (z_eq r S2 I2 J2)) : z_ev (d + 1) i_X1_shifted [.ref h0, .int x1, .int x2] S I J r S2 I2 J2 := Go.ev (Nat.le_of_ble_eq_true rfl) h
theorem b_X1_shifted_0 {d : Nat} {S : zS} {I : zI} {J : zJ} {Q : zQ} {h0 : Nat} {x1 : Int32} {x2 : Int32} {v3 : Value} {v4 : Value} (kk : Go d i_X1_shifted 5 [.ref h0, .int x1, .int x2, .int (0 : Int32), .int (0 : Int32)] [] S I J Q) : Go d i_X1_shifted 0 [.ref h0, .int x1, .int x2, v3, v4] [] S I J Q := by
  have h := kk
  exact Go.n tb_X1_shifted 4 h
theorem b_X1_shifted_5 {d : Nat} {S : zS} {I : zI} {J : zJ} {Q : zQ} {h0 : Nat} {x1 : Int32} {x2 : Int32} {x3 : Int32} {x4 : Int32} (g1 : z_kd S h0 = 2) (kt : (I h0 0) ≤ x4 → Go d i_X1_shifted 48 [.ref h0, .int x1, .int x2, .int x3, .int x4] [] S I J Q) (kf : ¬ (I h0 0) ≤ x4 → Go d i_X1_shifted 14 [.ref h0, .int x1, .int x2, .int x3, .int x4] [] S I J Q) : Go d i_X1_shifted 5 [.ref h0, .int x1, .int x2, .int x3, .int x4] [] S I J Q := by
  have h := (And.intro g1 (Go.ite kt kf))
  exact Go.n tb_X1_shifted 4 h
theorem b_X1_shifted_14 {d : Nat} {S : zS} {I : zI} {J : zJ} {Q : zQ} {h0 : Nat} {x1 : Int32} {x2 : Int32} {x3 : Int32} {x4 : Int32} (kt : ((x2 >>> (x4 &&& 31)) &&& (1 : Int32)) = (0 : Int32) → Go d i_X1_shifted 42 [.ref h0, .int x1, .int x2, .int x3, .int x4] [] S I J Q) (kf : ¬ ((x2 >>> (x4 &&& 31)) &&& (1 : Int32)) = (0 : Int32) → Go d i_X1_shifted 23 [.ref h0, .int x1, .int x2, .int x3, .int x4] [] S I J Q) : Go d i_X1_shifted 14 [.ref h0, .int x1, .int x2, .int x3, .int x4] [] S I J Q := by
  have h := (Go.ite kt kf)
  exact Go.n tb_X1_shifted 6 h
theorem b_X1_shifted_23 {d : Nat} {S : zS} {I : zI} {J : zJ} {Q : zQ} {h0 : Nat} {x1 : Int32} {x2 : Int32} {x3 : Int32} {x4 : Int32} (g1 : z_kd S h0 = 2) (g2 : z_kd S h0 = 2) (g3 : z_isI (z_kd S (z_rv S h0 1)) = true ∧ vp_in ((x1 * (I h0 0)) + x4) (z_ln S (z_rv S h0 1))) (kk : Go d i_X1_shifted 5 [.ref h0, .int x1, .int x2, .int (x3 ||| ((1 : Int32) <<< ((I (z_rv S h0 1) (Int32.toNatClampNeg ((x1 * (I h0 0)) + x4))) &&& 31))), .int (x4 + (1 : Int32))] [] S I J Q) : Go d i_X1_shifted 23 [.ref h0, .int x1, .int x2, .int x3, .int x4] [] S I J Q := by
  have h := (And.intro g1 (And.intro g2 (And.intro g3 kk)))
  exact Go.n tb_X1_shifted 16 h
theorem b_X1_shifted_42 {d : Nat} {S : zS} {I : zI} {J : zJ} {Q : zQ} {h0 : Nat} {x1 : Int32} {x2 : Int32} {x3 : Int32} {x4 : Int32} (kk : Go d i_X1_shifted 5 [.ref h0, .int x1, .int x2, .int x3, .int (x4 + (1 : Int32))] [] S I J Q) : Go d i_X1_shifted 42 [.ref h0, .int x1, .int x2, .int x3, .int x4] [] S I J Q := by
  have h := kk
  exact Go.n tb_X1_shifted 2 h
theorem b_X1_shifted_48 {d : Nat} {S : zS} {I : zI} {J : zJ} {Q : zQ} {h0 : Nat} {x1 : Int32} {x2 : Int32} {x3 : Int32} {x4 : Int32} (kk : Q (some (.int x3)) S I J) : Go d i_X1_shifted 48 [.ref h0, .int x1, .int x2, .int x3, .int x4] [] S I J Q := by
  have h := (And.intro trivial kk)
  exact Go.n tb_X1_shifted 2 h
theorem w_X1_span {d : Nat} {S : zS} {I : zI} {J : zJ} {Q : zQ} {h0 : Nat} {x1 : Int32} (h : Go d i_X1_span 0 [.ref h0, .int x1, .retAddr 0, .retAddr 0, .retAddr 0] [] S I J Q) : z_wp (d + 1) i_X1_span [.ref h0, .int x1] S I J Q := Go.wp (Nat.le_of_ble_eq_true rfl) h
theorem e_X1_span {d : Nat} {S S2 : zS} {I I2 : zI} {J J2 : zJ} {r : Option Value} {h0 : Nat} {x1 : Int32} (h : Go d i_X1_span 0 [.ref h0, .int x1, .retAddr 0, .retAddr 0, .retAddr 0] [] S I J (z_eq r S2 I2 J2)) : z_ev (d + 1) i_X1_span [.ref h0, .int x1] S I J r S2 I2 J2 := Go.ev (Nat.le_of_ble_eq_true rfl) h
theorem b_X1_span_0 {d : Nat} {S : zS} {I : zI} {J : zJ} {Q : zQ} {h0 : Nat} {x1 : Int32} {v2 : Value} {v3 : Value} {v4 : Value} (kk : Go d i_X1_span 7 [.ref h0, .int x1, .int (1 : Int32), .int (1 : Int32), .int (0 : Int32)] [] S I J Q) : Go d i_X1_span 0 [.ref h0, .int x1, v2, v3, v4] [] S I J Q := by
  have h := kk
  exact Go.n tb_X1_span 6 h
theorem b_X1_span_7 {d : Nat} {S : zS} {I : zI} {J : zJ} {Q : zQ} {h0 : Nat} {x1 : Int32} {x2 : Int32} {x3 : Int32} {x4 : Int32} (g1 : z_kd S h0 = 2) (kt : (I h0 0) ≤ x4 → Go d i_X1_span 41 [.ref h0, .int x1, .int x2, .int x3, .int x4] [] S I J Q) (kf : ¬ (I h0 0) ≤ x4 → Go d i_X1_span 16 [.ref h0, .int x1, .int x2, .int x3, .int x4] [] S I J Q) : Go d i_X1_span 7 [.ref h0, .int x1, .int x2, .int x3, .int x4] [] S I J Q := by
  have h := (And.intro g1 (Go.ite kt kf))
  exact Go.n tb_X1_span 4 h
theorem b_X1_span_16 {d : Nat} {S : zS} {I : zI} {J : zJ} {Q : zQ} {h0 : Nat} {x1 : Int32} {x2 : Int32} {x3 : Int32} {x4 : Int32} (kt : x3 = (0 : Int32) → Go d i_X1_span 41 [.ref h0, .int x1, .int x2, .int x3, .int x4] [] S I J Q) (kf : ¬ x3 = (0 : Int32) → Go d i_X1_span 20 [.ref h0, .int x1, .int x2, .int x3, .int x4] [] S I J Q) : Go d i_X1_span 16 [.ref h0, .int x1, .int x2, .int x3, .int x4] [] S I J Q := by
  have h := (Go.ite kt kf)
  exact Go.n tb_X1_span 2 h
theorem b_X1_span_20 {d : Nat} {S : zS} {I : zI} {J : zJ} {Q : zQ} {h0 : Nat} {x1 : Int32} {x2 : Int32} {x3 : Int32} {x4 : Int32} (g1 : z_kd S h0 = 2) (kk : z_wp d i_X1_onward [.ref h0, .int x3, .int x1] S I J (fun vv SS II JJ => Go d i_X1_span 26 [.ref h0, .int x1, .int x2, .int x3, .int x4] (vv.toList ++ []) SS II JJ Q)) : Go d i_X1_span 20 [.ref h0, .int x1, .int x2, .int x3, .int x4] [] S I J Q := by
  have h := (And.intro g1 kk)
  exact Go.n tb_X1_span 4 h
theorem b_X1_span_26 {d : Nat} {S : zS} {I : zI} {J : zJ} {Q : zQ} {h0 : Nat} {x1 : Int32} {x2 : Int32} {x3 : Int32} {x4 : Int32} {y0 : Int32} (kk : Go d i_X1_span 7 [.ref h0, .int x1, .int (x2 ||| (y0 &&& (x2 ^^^ (-1 : Int32)))), .int (y0 &&& (x2 ^^^ (-1 : Int32))), .int (x4 + (1 : Int32))] [] S I J Q) : Go d i_X1_span 26 [.ref h0, .int x1, .int x2, .int x3, .int x4] [.int y0] S I J Q := by
  have h := kk
  exact Go.n tb_X1_span 11 h
theorem b_X1_span_41 {d : Nat} {S : zS} {I : zI} {J : zJ} {Q : zQ} {h0 : Nat} {x1 : Int32} {x2 : Int32} {x3 : Int32} {x4 : Int32} (kk : Q (some (.int x2)) S I J) : Go d i_X1_span 41 [.ref h0, .int x1, .int x2, .int x3, .int x4] [] S I J Q := by
  have h := (And.intro trivial kk)
  exact Go.n tb_X1_span 2 h
theorem w_X1_centreOrder {d : Nat} {S : zS} {I : zI} {J : zJ} {Q : zQ} {h0 : Nat} (h : Go d i_X1_centreOrder 0 [.ref h0, .retAddr 0, .retAddr 0] [] S I J Q) : z_wp (d + 1) i_X1_centreOrder [.ref h0] S I J Q := Go.wp (Nat.le_of_ble_eq_true rfl) h
theorem e_X1_centreOrder {d : Nat} {S S2 : zS} {I I2 : zI} {J J2 : zJ} {r : Option Value} {h0 : Nat} (h : Go d i_X1_centreOrder 0 [.ref h0, .retAddr 0, .retAddr 0] [] S I J (z_eq r S2 I2 J2)) : z_ev (d + 1) i_X1_centreOrder [.ref h0] S I J r S2 I2 J2 := Go.ev (Nat.le_of_ble_eq_true rfl) h
theorem b_X1_centreOrder_0 {d : Nat} {S : zS} {I : zI} {J : zJ} {Q : zQ} {h0 : Nat} {v1 : Value} {v2 : Value} (kk : Go d i_X1_centreOrder 4 [.ref h0, .int (0 : Int32), .int (0 : Int32)] [] S I J Q) : Go d i_X1_centreOrder 0 [.ref h0, v1, v2] [] S I J Q := by
  have h := kk
  exact Go.n tb_X1_centreOrder 4 h
theorem b_X1_centreOrder_4 {d : Nat} {S : zS} {I : zI} {J : zJ} {Q : zQ} {h0 : Nat} {x1 : Int32} {x2 : Int32} (g1 : z_kd S h0 = 2) (kt : (I h0 0) ≤ x2 → Go d i_X1_centreOrder 33 [.ref h0, .int x1, .int x2] [] S I J Q) (kf : ¬ (I h0 0) ≤ x2 → Go d i_X1_centreOrder 12 [.ref h0, .int x1, .int x2] [] S I J Q) : Go d i_X1_centreOrder 4 [.ref h0, .int x1, .int x2] [] S I J Q := by
  have h := (And.intro g1 (Go.ite kt kf))
  exact Go.n tb_X1_centreOrder 4 h
theorem b_X1_centreOrder_12 {d : Nat} {S : zS} {I : zI} {J : zJ} {Q : zQ} {h0 : Nat} {x1 : Int32} {x2 : Int32} (g1 : z_kd S h0 = 2) (g2 : z_isI (z_kd S (z_rv S h0 4)) = true ∧ vp_in x2 (z_ln S (z_rv S h0 4))) (kt : ¬ (I (z_rv S h0 4) (Int32.toNatClampNeg x2)) = ((1 : Int32) <<< (x2 &&& 31)) → Go d i_X1_centreOrder 27 [.ref h0, .int x1, .int x2] [] S I J Q) (kf : (I (z_rv S h0 4) (Int32.toNatClampNeg x2)) = ((1 : Int32) <<< (x2 &&& 31)) → Go d i_X1_centreOrder 24 [.ref h0, .int x1, .int x2] [] S I J Q) : Go d i_X1_centreOrder 12 [.ref h0, .int x1, .int x2] [] S I J Q := by
  have h := (And.intro g1 (And.intro g2 (Go.eti kt kf)))
  exact Go.n tb_X1_centreOrder 8 h
theorem b_X1_centreOrder_24 {d : Nat} {S : zS} {I : zI} {J : zJ} {Q : zQ} {h0 : Nat} {x1 : Int32} {x2 : Int32} (kk : Go d i_X1_centreOrder 4 [.ref h0, .int (x1 + (1 : Int32)), .int (x2 + (1 : Int32))] [] S I J Q) : Go d i_X1_centreOrder 24 [.ref h0, .int x1, .int x2] [] S I J Q := by
  have h := kk
  exact Go.n tb_X1_centreOrder 3 h
theorem b_X1_centreOrder_27 {d : Nat} {S : zS} {I : zI} {J : zJ} {Q : zQ} {h0 : Nat} {x1 : Int32} {x2 : Int32} (kk : Go d i_X1_centreOrder 4 [.ref h0, .int x1, .int (x2 + (1 : Int32))] [] S I J Q) : Go d i_X1_centreOrder 27 [.ref h0, .int x1, .int x2] [] S I J Q := by
  have h := kk
  exact Go.n tb_X1_centreOrder 2 h
theorem b_X1_centreOrder_33 {d : Nat} {S : zS} {I : zI} {J : zJ} {Q : zQ} {h0 : Nat} {x1 : Int32} {x2 : Int32} (kk : Q (some (.int x1)) S I J) : Go d i_X1_centreOrder 33 [.ref h0, .int x1, .int x2] [] S I J Q := by
  have h := (And.intro trivial kk)
  exact Go.n tb_X1_centreOrder 2 h
theorem w_X1_countClasses {d : Nat} {S : zS} {I : zI} {J : zJ} {Q : zQ} {h0 : Nat} (h : Go d i_X1_countClasses 0 [.ref h0, .retAddr 0, .retAddr 0, .retAddr 0] [] S I J Q) : z_wp (d + 1) i_X1_countClasses [.ref h0] S I J Q := Go.wp (Nat.le_of_ble_eq_true rfl) h
theorem e_X1_countClasses {d : Nat} {S S2 : zS} {I I2 : zI} {J J2 : zJ} {r : Option Value} {h0 : Nat} (h : Go d i_X1_countClasses 0 [.ref h0, .retAddr 0, .retAddr 0, .retAddr 0] [] S I J (z_eq r S2 I2 J2)) : z_ev (d + 1) i_X1_countClasses [.ref h0] S I J r S2 I2 J2 := Go.ev (Nat.le_of_ble_eq_true rfl) h
theorem b_X1_countClasses_0 {d : Nat} {S : zS} {I : zI} {J : zJ} {Q : zQ} {h0 : Nat} {v1 : Value} {v2 : Value} {v3 : Value} (kk : Go d i_X1_countClasses 4 [.ref h0, .int (0 : Int32), .int (0 : Int32), v3] [] S I J Q) : Go d i_X1_countClasses 0 [.ref h0, v1, v2, v3] [] S I J Q := by
  have h := kk
  exact Go.n tb_X1_countClasses 4 h
theorem b_X1_countClasses_4 {d : Nat} {S : zS} {I : zI} {J : zJ} {Q : zQ} {h0 : Nat} {x1 : Int32} {x2 : Int32} {v3 : Value} (g1 : z_kd S h0 = 2) (kt : (I h0 0) ≤ x2 → Go d i_X1_countClasses 38 [.ref h0, .int x1, .int x2, v3] [] S I J Q) (kf : ¬ (I h0 0) ≤ x2 → Go d i_X1_countClasses 12 [.ref h0, .int x1, .int x2, v3] [] S I J Q) : Go d i_X1_countClasses 4 [.ref h0, .int x1, .int x2, v3] [] S I J Q := by
  have h := (And.intro g1 (Go.ite kt kf))
  exact Go.n tb_X1_countClasses 4 h
theorem b_X1_countClasses_12 {d : Nat} {S : zS} {I : zI} {J : zJ} {Q : zQ} {h0 : Nat} {x1 : Int32} {x2 : Int32} {v3 : Value} (g1 : z_kd S h0 = 2) (g2 : z_isI (z_kd S (z_rv S h0 4)) = true ∧ vp_in x2 (z_ln S (z_rv S h0 4))) (kt : ¬ ((I (z_rv S h0 4) (Int32.toNatClampNeg x2)) &&& (((1 : Int32) <<< (x2 &&& 31)) - (1 : Int32))) = (0 : Int32) → Go d i_X1_countClasses 32 [.ref h0, .int x1, .int x2, .int (((1 : Int32) <<< (x2 &&& 31)) - (1 : Int32))] [] S I J Q) (kf : ((I (z_rv S h0 4) (Int32.toNatClampNeg x2)) &&& (((1 : Int32) <<< (x2 &&& 31)) - (1 : Int32))) = (0 : Int32) → Go d i_X1_countClasses 29 [.ref h0, .int x1, .int x2, .int (((1 : Int32) <<< (x2 &&& 31)) - (1 : Int32))] [] S I J Q) : Go d i_X1_countClasses 12 [.ref h0, .int x1, .int x2, v3] [] S I J Q := by
  have h := (And.intro g1 (And.intro g2 (Go.eti kt kf)))
  exact Go.n tb_X1_countClasses 13 h
theorem b_X1_countClasses_29 {d : Nat} {S : zS} {I : zI} {J : zJ} {Q : zQ} {h0 : Nat} {x1 : Int32} {x2 : Int32} {x3 : Int32} (kk : Go d i_X1_countClasses 4 [.ref h0, .int (x1 + (1 : Int32)), .int (x2 + (1 : Int32)), .int x3] [] S I J Q) : Go d i_X1_countClasses 29 [.ref h0, .int x1, .int x2, .int x3] [] S I J Q := by
  have h := kk
  exact Go.n tb_X1_countClasses 3 h
theorem b_X1_countClasses_32 {d : Nat} {S : zS} {I : zI} {J : zJ} {Q : zQ} {h0 : Nat} {x1 : Int32} {x2 : Int32} {x3 : Int32} (kk : Go d i_X1_countClasses 4 [.ref h0, .int x1, .int (x2 + (1 : Int32)), .int x3] [] S I J Q) : Go d i_X1_countClasses 32 [.ref h0, .int x1, .int x2, .int x3] [] S I J Q := by
  have h := kk
  exact Go.n tb_X1_countClasses 2 h
theorem b_X1_countClasses_38 {d : Nat} {S : zS} {I : zI} {J : zJ} {Q : zQ} {h0 : Nat} {x1 : Int32} {x2 : Int32} {v3 : Value} (kk : Q (some (.int x1)) S I J) : Go d i_X1_countClasses 38 [.ref h0, .int x1, .int x2, v3] [] S I J Q := by
  have h := (And.intro trivial kk)
  exact Go.n tb_X1_countClasses 2 h
theorem w_X1_derived {d : Nat} {S : zS} {I : zI} {J : zJ} {Q : zQ} {h0 : Nat} (h : Go d i_X1_derived 0 [.ref h0, .retAddr 0, .retAddr 0, .retAddr 0] [] S I J Q) : z_wp (d + 1) i_X1_derived [.ref h0] S I J Q := Go.wp (Nat.le_of_ble_eq_true rfl) h
theorem e_X1_derived {d : Nat} {S S2 : zS} {I I2 : zI} {J J2 : zJ} {r : Option Value} {h0 : Nat} (h : Go d i_X1_derived 0 [.ref h0, .retAddr 0, .retAddr 0, .retAddr 0] [] S I J (z_eq r S2 I2 J2)) : z_ev (d + 1) i_X1_derived [.ref h0] S I J r S2 I2 J2 := Go.ev (Nat.le_of_ble_eq_true rfl) h
theorem b_X1_derived_0 {d : Nat} {S : zS} {I : zI} {J : zJ} {Q : zQ} {h0 : Nat} {v1 : Value} {v2 : Value} {v3 : Value} (kk : Go d i_X1_derived 4 [.ref h0, .int (0 : Int32), .int (0 : Int32), v3] [] S I J Q) : Go d i_X1_derived 0 [.ref h0, v1, v2, v3] [] S I J Q := by
  have h := kk
  exact Go.n tb_X1_derived 4 h
theorem b_X1_derived_4 {d : Nat} {S : zS} {I : zI} {J : zJ} {Q : zQ} {h0 : Nat} {x1 : Int32} {x2 : Int32} {v3 : Value} (g1 : z_kd S h0 = 2) (kt : (I h0 0) ≤ x2 → Go d i_X1_derived 65 [.ref h0, .int x1, .int x2, v3] [] S I J Q) (kf : ¬ (I h0 0) ≤ x2 → Go d i_X1_derived 12 [.ref h0, .int x1, .int x2, v3] [] S I J Q) : Go d i_X1_derived 4 [.ref h0, .int x1, .int x2, v3] [] S I J Q := by
  have h := (And.intro g1 (Go.ite kt kf))
  exact Go.n tb_X1_derived 4 h
theorem b_X1_derived_12 {d : Nat} {S : zS} {I : zI} {J : zJ} {Q : zQ} {h0 : Nat} {x1 : Int32} {x2 : Int32} {v3 : Value} (kk : Go d i_X1_derived 14 [.ref h0, .int x1, .int x2, .int (0 : Int32)] [] S I J Q) : Go d i_X1_derived 12 [.ref h0, .int x1, .int x2, v3] [] S I J Q := by
  have h := kk
  exact Go.n tb_X1_derived 2 h
theorem b_X1_derived_14 {d : Nat} {S : zS} {I : zI} {J : zJ} {Q : zQ} {h0 : Nat} {x1 : Int32} {x2 : Int32} {x3 : Int32} (g1 : z_kd S h0 = 2) (kt : (I h0 0) ≤ x3 → Go d i_X1_derived 59 [.ref h0, .int x1, .int x2, .int x3] [] S I J Q) (kf : ¬ (I h0 0) ≤ x3 → Go d i_X1_derived 22 [.ref h0, .int x1, .int x2, .int x3] [] S I J Q) : Go d i_X1_derived 14 [.ref h0, .int x1, .int x2, .int x3] [] S I J Q := by
  have h := (And.intro g1 (Go.ite kt kf))
  exact Go.n tb_X1_derived 4 h
theorem b_X1_derived_22 {d : Nat} {S : zS} {I : zI} {J : zJ} {Q : zQ} {h0 : Nat} {x1 : Int32} {x2 : Int32} {x3 : Int32} (g1 : z_kd S h0 = 2) (g2 : z_isI (z_kd S (z_rv S h0 2)) = true ∧ vp_in x2 (z_ln S (z_rv S h0 2))) (g3 : z_kd S h0 = 2) (g4 : z_isI (z_kd S (z_rv S h0 2)) = true ∧ vp_in x3 (z_ln S (z_rv S h0 2))) (g5 : z_kd S h0 = 2) (kk : z_wp d i_X1_times [.ref h0, .int (I (z_rv S h0 2) (Int32.toNatClampNeg x2)), .int (I (z_rv S h0 2) (Int32.toNatClampNeg x3))] S I J (fun vv SS II JJ => Go d i_X1_derived 41 [.ref h0, .int x1, .int x2, .int x3] (vv.toList ++ [.ref h0, .int (1 : Int32), .int x1]) SS II JJ Q)) : Go d i_X1_derived 22 [.ref h0, .int x1, .int x2, .int x3] [] S I J Q := by
  have h := (And.intro g1 (And.intro g2 (And.intro g3 (And.intro g4 (And.intro g5 kk)))))
  exact Go.n tb_X1_derived 13 h
theorem b_X1_derived_41 {d : Nat} {S : zS} {I : zI} {J : zJ} {Q : zQ} {h0 : Nat} {x1 : Int32} {x2 : Int32} {x3 : Int32} {y0 : Int32} {y1 : Int32} {q2 : Nat} {y3 : Int32} (g1 : z_kd S h0 = 2) (kk : z_wp d i_X1_times [.ref h0, .int x2, .int x3] S I J (fun vv SS II JJ => Go d i_X1_derived 47 [.ref h0, .int x1, .int x2, .int x3] (vv.toList ++ [.int y3, .ref q2, .int y1, .int y0]) SS II JJ Q)) : Go d i_X1_derived 41 [.ref h0, .int x1, .int x2, .int x3] [.int y3, .ref q2, .int y1, .int y0] S I J Q := by
  have h := (And.intro g1 kk)
  exact Go.n tb_X1_derived 4 h
theorem b_X1_derived_47 {d : Nat} {S : zS} {I : zI} {J : zJ} {Q : zQ} {h0 : Nat} {x1 : Int32} {x2 : Int32} {x3 : Int32} {y0 : Int32} {y1 : Int32} {q2 : Nat} {y3 : Int32} {y4 : Int32} (g1 : z_kd S q2 = 2) (kk : z_wp d i_X1_times [.ref q2, .int y3, .int y4] S I J (fun vv SS II JJ => Go d i_X1_derived 50 [.ref h0, .int x1, .int x2, .int x3] (vv.toList ++ [.int y1, .int y0]) SS II JJ Q)) : Go d i_X1_derived 47 [.ref h0, .int x1, .int x2, .int x3] [.int y4, .int y3, .ref q2, .int y1, .int y0] S I J Q := by
  have h := (And.intro g1 kk)
  exact Go.n tb_X1_derived 1 h
theorem b_X1_derived_50 {d : Nat} {S : zS} {I : zI} {J : zJ} {Q : zQ} {h0 : Nat} {x1 : Int32} {x2 : Int32} {x3 : Int32} {y0 : Int32} {y1 : Int32} {y2 : Int32} (kk : Go d i_X1_derived 14 [.ref h0, .int (y0 ||| (y1 <<< (y2 &&& 31))), .int x2, .int (x3 + (1 : Int32))] [] S I J Q) : Go d i_X1_derived 50 [.ref h0, .int x1, .int x2, .int x3] [.int y2, .int y1, .int y0] S I J Q := by
  have h := kk
  exact Go.n tb_X1_derived 5 h
theorem b_X1_derived_59 {d : Nat} {S : zS} {I : zI} {J : zJ} {Q : zQ} {h0 : Nat} {x1 : Int32} {x2 : Int32} {x3 : Int32} (kk : Go d i_X1_derived 4 [.ref h0, .int x1, .int (x2 + (1 : Int32)), .int x3] [] S I J Q) : Go d i_X1_derived 59 [.ref h0, .int x1, .int x2, .int x3] [] S I J Q := by
  have h := kk
  exact Go.n tb_X1_derived 2 h
theorem b_X1_derived_65 {d : Nat} {S : zS} {I : zI} {J : zJ} {Q : zQ} {h0 : Nat} {x1 : Int32} {x2 : Int32} {v3 : Value} (g1 : z_kd S h0 = 2) (kk : z_wp d i_X1_span [.ref h0, .int x1] S I J (fun vv SS II JJ => Go d i_X1_derived 70 [.ref h0, .int x1, .int x2, v3] (vv.toList ++ []) SS II JJ Q)) : Go d i_X1_derived 65 [.ref h0, .int x1, .int x2, v3] [] S I J Q := by
  have h := (And.intro g1 kk)
  exact Go.n tb_X1_derived 3 h
theorem b_X1_derived_70 {d : Nat} {S : zS} {I : zI} {J : zJ} {Q : zQ} {h0 : Nat} {x1 : Int32} {x2 : Int32} {v3 : Value} {y0 : Int32} (kk : Q (some (.int y0)) S I J) : Go d i_X1_derived 70 [.ref h0, .int x1, .int x2, v3] [.int y0] S I J Q := by
  have h := (And.intro trivial kk)
  exact Go.n tb_X1_derived 1 h
theorem w_X1_exponent {d : Nat} {S : zS} {I : zI} {J : zJ} {Q : zQ} {h0 : Nat} (h : Go d i_X1_exponent 0 [.ref h0, .retAddr 0, .retAddr 0, .retAddr 0, .retAddr 0, .retAddr 0] [] S I J Q) : z_wp (d + 1) i_X1_exponent [.ref h0] S I J Q := Go.wp (Nat.le_of_ble_eq_true rfl) h
theorem e_X1_exponent {d : Nat} {S S2 : zS} {I I2 : zI} {J J2 : zJ} {r : Option Value} {h0 : Nat} (h : Go d i_X1_exponent 0 [.ref h0, .retAddr 0, .retAddr 0, .retAddr 0, .retAddr 0, .retAddr 0] [] S I J (z_eq r S2 I2 J2)) : z_ev (d + 1) i_X1_exponent [.ref h0] S I J r S2 I2 J2 := Go.ev (Nat.le_of_ble_eq_true rfl) h
theorem b_X1_exponent_0 {d : Nat} {S : zS} {I : zI} {J : zJ} {Q : zQ} {h0 : Nat} {v1 : Value} {v2 : Value} {v3 : Value} {v4 : Value} {v5 : Value} (kk : Go d i_X1_exponent 4 [.ref h0, .int (1 : Int32), .int (0 : Int32), v3, v4, v5] [] S I J Q) : Go d i_X1_exponent 0 [.ref h0, v1, v2, v3, v4, v5] [] S I J Q := by
  have h := kk
  exact Go.n tb_X1_exponent 4 h
theorem b_X1_exponent_4 {d : Nat} {S : zS} {I : zI} {J : zJ} {Q : zQ} {h0 : Nat} {x1 : Int32} {x2 : Int32} {v3 : Value} {v4 : Value} {v5 : Value} (g1 : z_kd S h0 = 2) (kt : (I h0 0) ≤ x2 → Go d i_X1_exponent 63 [.ref h0, .int x1, .int x2, v3, v4, v5] [] S I J Q) (kf : ¬ (I h0 0) ≤ x2 → Go d i_X1_exponent 12 [.ref h0, .int x1, .int x2, v3, v4, v5] [] S I J Q) : Go d i_X1_exponent 4 [.ref h0, .int x1, .int x2, v3, v4, v5] [] S I J Q := by
  have h := (And.intro g1 (Go.ite kt kf))
  exact Go.n tb_X1_exponent 4 h
theorem b_X1_exponent_12 {d : Nat} {S : zS} {I : zI} {J : zJ} {Q : zQ} {h0 : Nat} {x1 : Int32} {x2 : Int32} {v3 : Value} {v4 : Value} {v5 : Value} (g1 : z_kd S h0 = 2) (g2 : z_isI (z_kd S (z_rv S h0 3)) = true ∧ vp_in x2 (z_ln S (z_rv S h0 3))) (kk : z_wp d i_J9_max_7cf53 [.int (1 : Int32), .int (I (z_rv S h0 3) (Int32.toNatClampNeg x2))] S I J (fun vv SS II JJ => Go d i_X1_exponent 22 [.ref h0, .int x1, .int x2, v3, v4, v5] (vv.toList ++ []) SS II JJ Q)) : Go d i_X1_exponent 12 [.ref h0, .int x1, .int x2, v3, v4, v5] [] S I J Q := by
  have h := (And.intro g1 (And.intro g2 (And.intro trivial kk)))
  exact Go.n tb_X1_exponent 6 h
theorem b_X1_exponent_22 {d : Nat} {S : zS} {I : zI} {J : zJ} {Q : zQ} {h0 : Nat} {x1 : Int32} {x2 : Int32} {v3 : Value} {v4 : Value} {v5 : Value} {y0 : Int32} (kk : Go d i_X1_exponent 29 [.ref h0, .int x1, .int x2, .int y0, .int x1, .int (0 : Int32)] [] S I J Q) : Go d i_X1_exponent 22 [.ref h0, .int x1, .int x2, v3, v4, v5] [.int y0] S I J Q := by
  have h := kk
  exact Go.n tb_X1_exponent 5 h
theorem b_X1_exponent_29 {d : Nat} {S : zS} {I : zI} {J : zJ} {Q : zQ} {h0 : Nat} {x1 : Int32} {x2 : Int32} {x3 : Int32} {x4 : Int32} {x5 : Int32} (kt : x3 ≤ x5 → Go d i_X1_exponent 54 [.ref h0, .int x1, .int x2, .int x3, .int x4, .int x5] [] S I J Q) (kf : ¬ x3 ≤ x5 → Go d i_X1_exponent 35 [.ref h0, .int x1, .int x2, .int x3, .int x4, .int x5] [] S I J Q) : Go d i_X1_exponent 29 [.ref h0, .int x1, .int x2, .int x3, .int x4, .int x5] [] S I J Q := by
  have h := (Go.ite kt kf)
  exact Go.n tb_X1_exponent 3 h
theorem b_X1_exponent_35 {d : Nat} {S : zS} {I : zI} {J : zJ} {Q : zQ} {h0 : Nat} {x1 : Int32} {x2 : Int32} {x3 : Int32} {x4 : Int32} {x5 : Int32} (g1 : ¬ x3 = 0) (kt : (x4 - x4 / x3 * x3) = (0 : Int32) → Go d i_X1_exponent 54 [.ref h0, .int x1, .int x2, .int x3, .int x4, .int x5] [] S I J Q) (kf : ¬ (x4 - x4 / x3 * x3) = (0 : Int32) → Go d i_X1_exponent 42 [.ref h0, .int x1, .int x2, .int x3, .int x4, .int x5] [] S I J Q) : Go d i_X1_exponent 35 [.ref h0, .int x1, .int x2, .int x3, .int x4, .int x5] [] S I J Q := by
  have h := (And.intro g1 (Go.ite kt kf))
  exact Go.n tb_X1_exponent 4 h
theorem b_X1_exponent_42 {d : Nat} {S : zS} {I : zI} {J : zJ} {Q : zQ} {h0 : Nat} {x1 : Int32} {x2 : Int32} {x3 : Int32} {x4 : Int32} {x5 : Int32} (kk : Go d i_X1_exponent 29 [.ref h0, .int x1, .int x2, .int x3, .int (x4 + x1), .int (x5 + (1 : Int32))] [] S I J Q) : Go d i_X1_exponent 42 [.ref h0, .int x1, .int x2, .int x3, .int x4, .int x5] [] S I J Q := by
  have h := kk
  exact Go.n tb_X1_exponent 6 h
theorem b_X1_exponent_54 {d : Nat} {S : zS} {I : zI} {J : zJ} {Q : zQ} {h0 : Nat} {x1 : Int32} {x2 : Int32} {x3 : Int32} {x4 : Int32} {x5 : Int32} (kk : Go d i_X1_exponent 4 [.ref h0, .int x4, .int (x2 + (1 : Int32)), .int x3, .int x4, .int x5] [] S I J Q) : Go d i_X1_exponent 54 [.ref h0, .int x1, .int x2, .int x3, .int x4, .int x5] [] S I J Q := by
  have h := kk
  exact Go.n tb_X1_exponent 4 h
theorem b_X1_exponent_63 {d : Nat} {S : zS} {I : zI} {J : zJ} {Q : zQ} {h0 : Nat} {x1 : Int32} {x2 : Int32} {v3 : Value} {v4 : Value} {v5 : Value} (kk : Q (some (.int x1)) S I J) : Go d i_X1_exponent 63 [.ref h0, .int x1, .int x2, v3, v4, v5] [] S I J Q := by
  have h := (And.intro trivial kk)
  exact Go.n tb_X1_exponent 2 h
theorem w_X1_countSubgroups {d : Nat} {S : zS} {I : zI} {J : zJ} {Q : zQ} {h0 : Nat} (h : Go d i_X1_countSubgroups 0 [.ref h0] [] S I J Q) : z_wp (d + 1) i_X1_countSubgroups [.ref h0] S I J Q := Go.wp (Nat.le_of_ble_eq_true rfl) h
theorem e_X1_countSubgroups {d : Nat} {S S2 : zS} {I I2 : zI} {J J2 : zJ} {r : Option Value} {h0 : Nat} (h : Go d i_X1_countSubgroups 0 [.ref h0] [] S I J (z_eq r S2 I2 J2)) : z_ev (d + 1) i_X1_countSubgroups [.ref h0] S I J r S2 I2 J2 := Go.ev (Nat.le_of_ble_eq_true rfl) h
theorem b_X1_countSubgroups_0 {d : Nat} {S : zS} {I : zI} {J : zJ} {Q : zQ} {h0 : Nat} (g1 : z_kd S h0 = 2) (kt : ¬ (z_rv S h0 10) = 0 → Go d i_X1_countSubgroups 11 [.ref h0] [] S I J Q) (kf : (z_rv S h0 10) = 0 → Go d i_X1_countSubgroups 7 [.ref h0] [] S I J Q) : Go d i_X1_countSubgroups 0 [.ref h0] [] S I J Q := by
  have h := (And.intro g1 (Go.eti kt kf))
  exact Go.n tb_X1_countSubgroups 3 h
theorem b_X1_countSubgroups_7 {d : Nat} {S : zS} {I : zI} {J : zJ} {Q : zQ} {h0 : Nat} (g1 : z_kd S h0 = 2) (kk : z_wp d i_X1_findSubgroups [.ref h0] S I J (fun vv SS II JJ => Go d i_X1_countSubgroups 11 [.ref h0] (vv.toList ++ []) SS II JJ Q)) : Go d i_X1_countSubgroups 7 [.ref h0] [] S I J Q := by
  have h := (And.intro g1 kk)
  exact Go.n tb_X1_countSubgroups 2 h
theorem b_X1_countSubgroups_11 {d : Nat} {S : zS} {I : zI} {J : zJ} {Q : zQ} {h0 : Nat} (g1 : z_kd S h0 = 2) (kk : Q (some (.int (I h0 11))) S I J) : Go d i_X1_countSubgroups 11 [.ref h0] [] S I J Q := by
  have h := (And.intro g1 (And.intro trivial kk))
  exact Go.n tb_X1_countSubgroups 3 h
theorem w_X1_subgroupAt {d : Nat} {S : zS} {I : zI} {J : zJ} {Q : zQ} {h0 : Nat} {x1 : Int32} (h : Go d i_X1_subgroupAt 0 [.ref h0, .int x1] [] S I J Q) : z_wp (d + 1) i_X1_subgroupAt [.ref h0, .int x1] S I J Q := Go.wp (Nat.le_of_ble_eq_true rfl) h
theorem e_X1_subgroupAt {d : Nat} {S S2 : zS} {I I2 : zI} {J J2 : zJ} {r : Option Value} {h0 : Nat} {x1 : Int32} (h : Go d i_X1_subgroupAt 0 [.ref h0, .int x1] [] S I J (z_eq r S2 I2 J2)) : z_ev (d + 1) i_X1_subgroupAt [.ref h0, .int x1] S I J r S2 I2 J2 := Go.ev (Nat.le_of_ble_eq_true rfl) h
theorem b_X1_subgroupAt_0 {d : Nat} {S : zS} {I : zI} {J : zJ} {Q : zQ} {h0 : Nat} {x1 : Int32} (g1 : z_kd S h0 = 2) (kk : z_wp d i_X1_countSubgroups [.ref h0] S I J (fun vv SS II JJ => Go d i_X1_subgroupAt 5 [.ref h0, .int x1] (vv.toList ++ [.int x1]) SS II JJ Q)) : Go d i_X1_subgroupAt 0 [.ref h0, .int x1] [] S I J Q := by
  have h := (And.intro g1 kk)
  exact Go.n tb_X1_subgroupAt 3 h
theorem b_X1_subgroupAt_5 {d : Nat} {S : zS} {I : zI} {J : zJ} {Q : zQ} {h0 : Nat} {x1 : Int32} {y0 : Int32} {y1 : Int32} (kt : y1 ≤ y0 → Go d i_X1_subgroupAt 26 [.ref h0, .int x1] [] S I J Q) (kf : ¬ y1 ≤ y0 → Go d i_X1_subgroupAt 8 [.ref h0, .int x1] [] S I J Q) : Go d i_X1_subgroupAt 5 [.ref h0, .int x1] [.int y1, .int y0] S I J Q := by
  have h := (Go.ite kt kf)
  exact Go.n tb_X1_subgroupAt 1 h
theorem b_X1_subgroupAt_8 {d : Nat} {S : zS} {I : zI} {J : zJ} {Q : zQ} {h0 : Nat} {x1 : Int32} (g1 : z_kd S h0 = 2) (g2 : z_isA (z_kd S (z_rv S h0 10)) = true) (kt : (nI (z_ln S (z_rv S h0 10))) ≤ x1 → Go d i_X1_subgroupAt 26 [.ref h0, .int x1] [] S I J Q) (kf : ¬ (nI (z_ln S (z_rv S h0 10))) ≤ x1 → Go d i_X1_subgroupAt 17 [.ref h0, .int x1] [] S I J Q) : Go d i_X1_subgroupAt 8 [.ref h0, .int x1] [] S I J Q := by
  have h := (And.intro g1 (And.intro g2 (Go.ite kt kf)))
  exact Go.n tb_X1_subgroupAt 5 h
theorem b_X1_subgroupAt_17 {d : Nat} {S : zS} {I : zI} {J : zJ} {Q : zQ} {h0 : Nat} {x1 : Int32} (g1 : z_kd S h0 = 2) (g2 : z_isI (z_kd S (z_rv S h0 10)) = true ∧ vp_in x1 (z_ln S (z_rv S h0 10))) (kk : Q (some (.int (I (z_rv S h0 10) (Int32.toNatClampNeg x1)))) S I J) : Go d i_X1_subgroupAt 17 [.ref h0, .int x1] [] S I J Q := by
  have h := (And.intro g1 (And.intro g2 (And.intro trivial kk)))
  exact Go.n tb_X1_subgroupAt 6 h
theorem b_X1_subgroupAt_26 {d : Nat} {S : zS} {I : zI} {J : zJ} {Q : zQ} {h0 : Nat} {x1 : Int32} (kk : Q (some (.int (-1 : Int32))) S I J) : Go d i_X1_subgroupAt 26 [.ref h0, .int x1] [] S I J Q := by
  have h := (And.intro trivial kk)
  exact Go.n tb_X1_subgroupAt 2 h
theorem w_X1_findSubgroups {d : Nat} {S : zS} {I : zI} {J : zJ} {Q : zQ} {h0 : Nat} (h : Go d i_X1_findSubgroups 0 [.ref h0, .retAddr 0, .retAddr 0, .retAddr 0, .retAddr 0, .retAddr 0] [] S I J Q) : z_wp (d + 1) i_X1_findSubgroups [.ref h0] S I J Q := Go.wp (Nat.le_of_ble_eq_true rfl) h
theorem e_X1_findSubgroups {d : Nat} {S S2 : zS} {I I2 : zI} {J J2 : zJ} {r : Option Value} {h0 : Nat} (h : Go d i_X1_findSubgroups 0 [.ref h0, .retAddr 0, .retAddr 0, .retAddr 0, .retAddr 0, .retAddr 0] [] S I J (z_eq r S2 I2 J2)) : z_ev (d + 1) i_X1_findSubgroups [.ref h0] S I J r S2 I2 J2 := Go.ev (Nat.le_of_ble_eq_true rfl) h
theorem b_X1_findSubgroups_0 {d : Nat} {S : zS} {I : zI} {J : zJ} {Q : zQ} {h0 : Nat} {v1 : Value} {v2 : Value} {v3 : Value} {v4 : Value} {v5 : Value} (g1 : z_kd S h0 = 2) (kt : (I h0 0) ≤ (8 : Int32) → Go d i_X1_findSubgroups 15 [.ref h0, v1, v2, v3, v4, v5] [.ref h0] S I J Q) (kf : ¬ (I h0 0) ≤ (8 : Int32) → Go d i_X1_findSubgroups 10 [.ref h0, v1, v2, v3, v4, v5] [.ref h0] S I J Q) : Go d i_X1_findSubgroups 0 [.ref h0, v1, v2, v3, v4, v5] [] S I J Q := by
  have h := (And.intro g1 (Go.ite kt kf))
  exact Go.n tb_X1_findSubgroups 5 h
theorem b_X1_findSubgroups_10 {d : Nat} {S : zS} {I : zI} {J : zJ} {Q : zQ} {h0 : Nat} {v1 : Value} {v2 : Value} {v3 : Value} {v4 : Value} {v5 : Value} {q0 : Nat} {I1 : zI} (g1 : ¬ (80 : Int32) < 0 ∧ (Int32.toNatClampNeg (80 : Int32)) * 4 ≤ 536870912) (g2 : z_kd (z_new S 100 (Int32.toNatClampNeg (80 : Int32)) (Int32.toNatClampNeg (80 : Int32))) q0 = 2) (g3 : z_kd (z_setR (z_new S 100 (Int32.toNatClampNeg (80 : Int32)) (Int32.toNatClampNeg (80 : Int32))) q0 10 (z_sz S + 1)) h0 = 2) (g4 : z_kd (z_setR (z_new S 100 (Int32.toNatClampNeg (80 : Int32)) (Int32.toNatClampNeg (80 : Int32))) q0 10 (z_sz S + 1)) (z_rv (z_setR (z_new S 100 (Int32.toNatClampNeg (80 : Int32)) (Int32.toNatClampNeg (80 : Int32))) q0 10 (z_sz S + 1)) h0 10) = 100 ∧ vp_in (0 : Int32) (z_ln (z_setR (z_new S 100 (Int32.toNatClampNeg (80 : Int32)) (Int32.toNatClampNeg (80 : Int32))) q0 10 (z_sz S + 1)) (z_rv (z_setR (z_new S 100 (Int32.toNatClampNeg (80 : Int32)) (Int32.toNatClampNeg (80 : Int32))) q0 10 (z_sz S + 1)) h0 10))) (eI1 : I1 = z_u2 (z_ur I (z_sz S + 1) (fun _ => 0)) (z_rv (z_setR (z_new S 100 (Int32.toNatClampNeg (80 : Int32)) (Int32.toNatClampNeg (80 : Int32))) q0 10 (z_sz S + 1)) h0 10) (Int32.toNatClampNeg (0 : Int32)) (1 : Int32)) (g6 : z_kd (z_setR (z_new S 100 (Int32.toNatClampNeg (80 : Int32)) (Int32.toNatClampNeg (80 : Int32))) q0 10 (z_sz S + 1)) h0 = 2) (kk : Go d i_X1_findSubgroups 36 [.ref h0, .int (0 : Int32), v2, v3, v4, v5] [] (z_setR (z_new S 100 (Int32.toNatClampNeg (80 : Int32)) (Int32.toNatClampNeg (80 : Int32))) q0 10 (z_sz S + 1)) (z_u2 I1 h0 11 (1 : Int32)) J Q) : Go d i_X1_findSubgroups 10 [.ref h0, v1, v2, v3, v4, v5] [.ref q0] S I J Q := by
  subst eI1
  have h := (And.intro g1 (And.intro g2 (And.intro g3 (And.intro g4 (And.intro g6 kk)))))
  exact Go.n tb_X1_findSubgroups 14 h
theorem b_X1_findSubgroups_15 {d : Nat} {S : zS} {I : zI} {J : zJ} {Q : zQ} {h0 : Nat} {v1 : Value} {v2 : Value} {v3 : Value} {v4 : Value} {v5 : Value} {q0 : Nat} {I1 : zI} (g1 : ¬ (16 : Int32) < 0 ∧ (Int32.toNatClampNeg (16 : Int32)) * 4 ≤ 536870912) (g2 : z_kd (z_new S 100 (Int32.toNatClampNeg (16 : Int32)) (Int32.toNatClampNeg (16 : Int32))) q0 = 2) (g3 : z_kd (z_setR (z_new S 100 (Int32.toNatClampNeg (16 : Int32)) (Int32.toNatClampNeg (16 : Int32))) q0 10 (z_sz S + 1)) h0 = 2) (g4 : z_kd (z_setR (z_new S 100 (Int32.toNatClampNeg (16 : Int32)) (Int32.toNatClampNeg (16 : Int32))) q0 10 (z_sz S + 1)) (z_rv (z_setR (z_new S 100 (Int32.toNatClampNeg (16 : Int32)) (Int32.toNatClampNeg (16 : Int32))) q0 10 (z_sz S + 1)) h0 10) = 100 ∧ vp_in (0 : Int32) (z_ln (z_setR (z_new S 100 (Int32.toNatClampNeg (16 : Int32)) (Int32.toNatClampNeg (16 : Int32))) q0 10 (z_sz S + 1)) (z_rv (z_setR (z_new S 100 (Int32.toNatClampNeg (16 : Int32)) (Int32.toNatClampNeg (16 : Int32))) q0 10 (z_sz S + 1)) h0 10))) (eI1 : I1 = z_u2 (z_ur I (z_sz S + 1) (fun _ => 0)) (z_rv (z_setR (z_new S 100 (Int32.toNatClampNeg (16 : Int32)) (Int32.toNatClampNeg (16 : Int32))) q0 10 (z_sz S + 1)) h0 10) (Int32.toNatClampNeg (0 : Int32)) (1 : Int32)) (g6 : z_kd (z_setR (z_new S 100 (Int32.toNatClampNeg (16 : Int32)) (Int32.toNatClampNeg (16 : Int32))) q0 10 (z_sz S + 1)) h0 = 2) (kk : Go d i_X1_findSubgroups 36 [.ref h0, .int (0 : Int32), v2, v3, v4, v5] [] (z_setR (z_new S 100 (Int32.toNatClampNeg (16 : Int32)) (Int32.toNatClampNeg (16 : Int32))) q0 10 (z_sz S + 1)) (z_u2 I1 h0 11 (1 : Int32)) J Q) : Go d i_X1_findSubgroups 15 [.ref h0, v1, v2, v3, v4, v5] [.ref q0] S I J Q := by
  subst eI1
  have h := (And.intro g1 (And.intro g2 (And.intro g3 (And.intro g4 (And.intro g6 kk)))))
  exact Go.n tb_X1_findSubgroups 13 h
theorem b_X1_findSubgroups_36 {d : Nat} {S : zS} {I : zI} {J : zJ} {Q : zQ} {h0 : Nat} {x1 : Int32} {v2 : Value} {v3 : Value} {v4 : Value} {v5 : Value} (g1 : z_kd S h0 = 2) (kt : (I h0 11) ≤ x1 → Go d i_X1_findSubgroups 134 [.ref h0, .int x1, v2, v3, v4, v5] [] S I J Q) (kf : ¬ (I h0 11) ≤ x1 → Go d i_X1_findSubgroups 44 [.ref h0, .int x1, v2, v3, v4, v5] [] S I J Q) : Go d i_X1_findSubgroups 36 [.ref h0, .int x1, v2, v3, v4, v5] [] S I J Q := by
  have h := (And.intro g1 (Go.ite kt kf))
  exact Go.n tb_X1_findSubgroups 4 h
theorem b_X1_findSubgroups_44 {d : Nat} {S : zS} {I : zI} {J : zJ} {Q : zQ} {h0 : Nat} {x1 : Int32} {v2 : Value} {v3 : Value} {v4 : Value} {v5 : Value} (g1 : z_kd S h0 = 2) (g2 : z_isA (z_kd S (z_rv S h0 10)) = true) (kt : (nI (z_ln S (z_rv S h0 10))) ≤ x1 → Go d i_X1_findSubgroups 134 [.ref h0, .int x1, v2, v3, v4, v5] [] S I J Q) (kf : ¬ (nI (z_ln S (z_rv S h0 10))) ≤ x1 → Go d i_X1_findSubgroups 53 [.ref h0, .int x1, v2, v3, v4, v5] [] S I J Q) : Go d i_X1_findSubgroups 44 [.ref h0, .int x1, v2, v3, v4, v5] [] S I J Q := by
  have h := (And.intro g1 (And.intro g2 (Go.ite kt kf)))
  exact Go.n tb_X1_findSubgroups 5 h
theorem b_X1_findSubgroups_53 {d : Nat} {S : zS} {I : zI} {J : zJ} {Q : zQ} {h0 : Nat} {x1 : Int32} {v2 : Value} {v3 : Value} {v4 : Value} {v5 : Value} (g1 : z_kd S h0 = 2) (g2 : z_isI (z_kd S (z_rv S h0 10)) = true ∧ vp_in x1 (z_ln S (z_rv S h0 10))) (kk : Go d i_X1_findSubgroups 65 [.ref h0, .int x1, .int (I (z_rv S h0 10) (Int32.toNatClampNeg x1)), .int (I (z_rv S h0 10) (Int32.toNatClampNeg x1)), .int (0 : Int32), v5] [] S I J Q) : Go d i_X1_findSubgroups 53 [.ref h0, .int x1, v2, v3, v4, v5] [] S I J Q := by
  have h := (And.intro g1 (And.intro g2 kk))
  exact Go.n tb_X1_findSubgroups 9 h
theorem b_X1_findSubgroups_65 {d : Nat} {S : zS} {I : zI} {J : zJ} {Q : zQ} {h0 : Nat} {x1 : Int32} {x2 : Int32} {x3 : Int32} {x4 : Int32} {v5 : Value} (g1 : z_kd S h0 = 2) (kt : (I h0 0) ≤ x4 → Go d i_X1_findSubgroups 128 [.ref h0, .int x1, .int x2, .int x3, .int x4, v5] [] S I J Q) (kf : ¬ (I h0 0) ≤ x4 → Go d i_X1_findSubgroups 74 [.ref h0, .int x1, .int x2, .int x3, .int x4, v5] [] S I J Q) : Go d i_X1_findSubgroups 65 [.ref h0, .int x1, .int x2, .int x3, .int x4, v5] [] S I J Q := by
  have h := (And.intro g1 (Go.ite kt kf))
  exact Go.n tb_X1_findSubgroups 4 h
theorem b_X1_findSubgroups_74 {d : Nat} {S : zS} {I : zI} {J : zJ} {Q : zQ} {h0 : Nat} {x1 : Int32} {x2 : Int32} {x3 : Int32} {x4 : Int32} {v5 : Value} (kt : ¬ ((x3 >>> (x4 &&& 31)) &&& (1 : Int32)) = (0 : Int32) → Go d i_X1_findSubgroups 122 [.ref h0, .int x1, .int x2, .int x3, .int x4, v5] [] S I J Q) (kf : ((x3 >>> (x4 &&& 31)) &&& (1 : Int32)) = (0 : Int32) → Go d i_X1_findSubgroups 83 [.ref h0, .int x1, .int x2, .int x3, .int x4, v5] [] S I J Q) : Go d i_X1_findSubgroups 74 [.ref h0, .int x1, .int x2, .int x3, .int x4, v5] [] S I J Q := by
  have h := (Go.eti kt kf)
  exact Go.n tb_X1_findSubgroups 6 h
theorem b_X1_findSubgroups_83 {d : Nat} {S : zS} {I : zI} {J : zJ} {Q : zQ} {h0 : Nat} {x1 : Int32} {x2 : Int32} {x3 : Int32} {x4 : Int32} {v5 : Value} (g1 : z_kd S h0 = 2) (kk : z_wp d i_X1_span [.ref h0, .int (x2 ||| ((1 : Int32) <<< (x4 &&& 31)))] S I J (fun vv SS II JJ => Go d i_X1_findSubgroups 93 [.ref h0, .int x1, .int x2, .int x3, .int x4, v5] (vv.toList ++ []) SS II JJ Q)) : Go d i_X1_findSubgroups 83 [.ref h0, .int x1, .int x2, .int x3, .int x4, v5] [] S I J Q := by
  have h := (And.intro g1 kk)
  exact Go.n tb_X1_findSubgroups 7 h
theorem b_X1_findSubgroups_93 {d : Nat} {S : zS} {I : zI} {J : zJ} {Q : zQ} {h0 : Nat} {x1 : Int32} {x2 : Int32} {x3 : Int32} {x4 : Int32} {v5 : Value} {y0 : Int32} (g1 : z_kd S h0 = 2) (kk : z_wp d i_X1_keepSubgroup [.ref h0, .int y0] S I J (fun vv SS II JJ => Go d i_X1_findSubgroups 101 [.ref h0, .int x1, .int x2, .int x3, .int x4, .int y0] (vv.toList ++ []) SS II JJ Q)) : Go d i_X1_findSubgroups 93 [.ref h0, .int x1, .int x2, .int x3, .int x4, v5] [.int y0] S I J Q := by
  have h := (And.intro g1 kk)
  exact Go.n tb_X1_findSubgroups 4 h
theorem b_X1_findSubgroups_101 {d : Nat} {S : zS} {I : zI} {J : zJ} {Q : zQ} {h0 : Nat} {x1 : Int32} {x2 : Int32} {x3 : Int32} {x4 : Int32} {x5 : Int32} (kk : z_wp d i_X1_hasNoneBetween [.int x2, .int x5] S I J (fun vv SS II JJ => Go d i_X1_findSubgroups 108 [.ref h0, .int x1, .int x2, .int x3, .int x4, .int x5] (vv.toList ++ [.int x3]) SS II JJ Q)) : Go d i_X1_findSubgroups 101 [.ref h0, .int x1, .int x2, .int x3, .int x4, .int x5] [] S I J Q := by
  have h := (And.intro trivial kk)
  exact Go.n tb_X1_findSubgroups 4 h
theorem b_X1_findSubgroups_108 {d : Nat} {S : zS} {I : zI} {J : zJ} {Q : zQ} {h0 : Nat} {x1 : Int32} {x2 : Int32} {x3 : Int32} {x4 : Int32} {x5 : Int32} {y0 : Int32} {y1 : Int32} (kt : y1 = (0 : Int32) → Go d i_X1_findSubgroups 116 [.ref h0, .int x1, .int x2, .int x3, .int x4, .int x5] [.int y0] S I J Q) (kf : ¬ y1 = (0 : Int32) → Go d i_X1_findSubgroups 111 [.ref h0, .int x1, .int x2, .int x3, .int x4, .int x5] [.int y0] S I J Q) : Go d i_X1_findSubgroups 108 [.ref h0, .int x1, .int x2, .int x3, .int x4, .int x5] [.int y1, .int y0] S I J Q := by
  have h := (Go.ite kt kf)
  exact Go.n tb_X1_findSubgroups 1 h
theorem b_X1_findSubgroups_111 {d : Nat} {S : zS} {I : zI} {J : zJ} {Q : zQ} {h0 : Nat} {x1 : Int32} {x2 : Int32} {x3 : Int32} {x4 : Int32} {x5 : Int32} {y0 : Int32} (kk : Go d i_X1_findSubgroups 65 [.ref h0, .int x1, .int x2, .int (y0 ||| x5), .int (x4 + (1 : Int32)), .int x5] [] S I J Q) : Go d i_X1_findSubgroups 111 [.ref h0, .int x1, .int x2, .int x3, .int x4, .int x5] [.int y0] S I J Q := by
  have h := kk
  exact Go.n tb_X1_findSubgroups 6 h
theorem b_X1_findSubgroups_116 {d : Nat} {S : zS} {I : zI} {J : zJ} {Q : zQ} {h0 : Nat} {x1 : Int32} {x2 : Int32} {x3 : Int32} {x4 : Int32} {x5 : Int32} {y0 : Int32} (kk : Go d i_X1_findSubgroups 65 [.ref h0, .int x1, .int x2, .int (y0 ||| ((1 : Int32) <<< (x4 &&& 31))), .int (x4 + (1 : Int32)), .int x5] [] S I J Q) : Go d i_X1_findSubgroups 116 [.ref h0, .int x1, .int x2, .int x3, .int x4, .int x5] [.int y0] S I J Q := by
  have h := kk
  exact Go.n tb_X1_findSubgroups 7 h
theorem b_X1_findSubgroups_122 {d : Nat} {S : zS} {I : zI} {J : zJ} {Q : zQ} {h0 : Nat} {x1 : Int32} {x2 : Int32} {x3 : Int32} {x4 : Int32} {v5 : Value} (kk : Go d i_X1_findSubgroups 65 [.ref h0, .int x1, .int x2, .int x3, .int (x4 + (1 : Int32)), v5] [] S I J Q) : Go d i_X1_findSubgroups 122 [.ref h0, .int x1, .int x2, .int x3, .int x4, v5] [] S I J Q := by
  have h := kk
  exact Go.n tb_X1_findSubgroups 2 h
theorem b_X1_findSubgroups_128 {d : Nat} {S : zS} {I : zI} {J : zJ} {Q : zQ} {h0 : Nat} {x1 : Int32} {x2 : Int32} {x3 : Int32} {x4 : Int32} {v5 : Value} (kk : Go d i_X1_findSubgroups 36 [.ref h0, .int (x1 + (1 : Int32)), .int x2, .int x3, .int x4, v5] [] S I J Q) : Go d i_X1_findSubgroups 128 [.ref h0, .int x1, .int x2, .int x3, .int x4, v5] [] S I J Q := by
  have h := kk
  exact Go.n tb_X1_findSubgroups 2 h
theorem b_X1_findSubgroups_134 {d : Nat} {S : zS} {I : zI} {J : zJ} {Q : zQ} {h0 : Nat} {x1 : Int32} {v2 : Value} {v3 : Value} {v4 : Value} {v5 : Value} (g1 : z_kd S h0 = 2) (kk : z_wp d i_X1_sortSubgroups [.ref h0] S I J (fun vv SS II JJ => Go d i_X1_findSubgroups 138 [.ref h0, .int x1, v2, v3, v4, v5] (vv.toList ++ []) SS II JJ Q)) : Go d i_X1_findSubgroups 134 [.ref h0, .int x1, v2, v3, v4, v5] [] S I J Q := by
  have h := (And.intro g1 kk)
  exact Go.n tb_X1_findSubgroups 2 h
theorem b_X1_findSubgroups_138 {d : Nat} {S : zS} {I : zI} {J : zJ} {Q : zQ} {h0 : Nat} {x1 : Int32} {v2 : Value} {v3 : Value} {v4 : Value} {v5 : Value} (kk : Q none S I J) : Go d i_X1_findSubgroups 138 [.ref h0, .int x1, v2, v3, v4, v5] [] S I J Q := by
  have h := (And.intro trivial kk)
  exact Go.n tb_X1_findSubgroups 1 h
theorem w_X1_hasNoneBetween {d : Nat} {S : zS} {I : zI} {J : zJ} {Q : zQ} {x0 : Int32} {x1 : Int32} (h : Go d i_X1_hasNoneBetween 0 [.int x0, .int x1, .retAddr 0, .retAddr 0] [] S I J Q) : z_wp (d + 1) i_X1_hasNoneBetween [.int x0, .int x1] S I J Q := Go.wp (Nat.le_of_ble_eq_true rfl) h
theorem e_X1_hasNoneBetween {d : Nat} {S S2 : zS} {I I2 : zI} {J J2 : zJ} {r : Option Value} {x0 : Int32} {x1 : Int32} (h : Go d i_X1_hasNoneBetween 0 [.int x0, .int x1, .retAddr 0, .retAddr 0] [] S I J (z_eq r S2 I2 J2)) : z_ev (d + 1) i_X1_hasNoneBetween [.int x0, .int x1] S I J r S2 I2 J2 := Go.ev (Nat.le_of_ble_eq_true rfl) h
theorem b_X1_hasNoneBetween_0 {d : Nat} {S : zS} {I : zI} {J : zJ} {Q : zQ} {x0 : Int32} {x1 : Int32} {v2 : Value} {v3 : Value} (kk : z_wp d i_J6_bitCount_0f7a4 [.int x1] S I J (fun vv SS II JJ => Go d i_X1_hasNoneBetween 4 [.int x0, .int x1, v2, v3] (vv.toList ++ []) SS II JJ Q)) : Go d i_X1_hasNoneBetween 0 [.int x0, .int x1, v2, v3] [] S I J Q := by
  have h := (And.intro trivial kk)
  exact Go.n tb_X1_hasNoneBetween 2 h
theorem b_X1_hasNoneBetween_4 {d : Nat} {S : zS} {I : zI} {J : zJ} {Q : zQ} {x0 : Int32} {x1 : Int32} {v2 : Value} {v3 : Value} {y0 : Int32} (kk : z_wp d i_J6_bitCount_0f7a4 [.int x0] S I J (fun vv SS II JJ => Go d i_X1_hasNoneBetween 9 [.int x0, .int x1, v2, v3] (vv.toList ++ [.int (1 : Int32), .int y0]) SS II JJ Q)) : Go d i_X1_hasNoneBetween 4 [.int x0, .int x1, v2, v3] [.int y0] S I J Q := by
  have h := (And.intro trivial kk)
  exact Go.n tb_X1_hasNoneBetween 3 h
theorem b_X1_hasNoneBetween_9 {d : Nat} {S : zS} {I : zI} {J : zJ} {Q : zQ} {x0 : Int32} {x1 : Int32} {v2 : Value} {v3 : Value} {y0 : Int32} {y1 : Int32} {y2 : Int32} (kk : z_wp d i_J9_max_7cf53 [.int y1, .int y2] S I J (fun vv SS II JJ => Go d i_X1_hasNoneBetween 12 [.int x0, .int x1, v2, v3] (vv.toList ++ [.int y0]) SS II JJ Q)) : Go d i_X1_hasNoneBetween 9 [.int x0, .int x1, v2, v3] [.int y2, .int y1, .int y0] S I J Q := by
  have h := (And.intro trivial kk)
  exact Go.n tb_X1_hasNoneBetween 1 h
theorem b_X1_hasNoneBetween_12 {d : Nat} {S : zS} {I : zI} {J : zJ} {Q : zQ} {x0 : Int32} {x1 : Int32} {v2 : Value} {v3 : Value} {y0 : Int32} {y1 : Int32} (g1 : ¬ y1 = 0) (kk : Go d i_X1_hasNoneBetween 16 [.int x0, .int x1, .int (y0 / y1), .int (2 : Int32)] [] S I J Q) : Go d i_X1_hasNoneBetween 12 [.int x0, .int x1, v2, v3] [.int y1, .int y0] S I J Q := by
  have h := (And.intro g1 kk)
  exact Go.n tb_X1_hasNoneBetween 4 h
theorem b_X1_hasNoneBetween_16 {d : Nat} {S : zS} {I : zI} {J : zJ} {Q : zQ} {x0 : Int32} {x1 : Int32} {x2 : Int32} {x3 : Int32} (kt : x2 ≤ x3 → Go d i_X1_hasNoneBetween 35 [.int x0, .int x1, .int x2, .int x3] [] S I J Q) (kf : ¬ x2 ≤ x3 → Go d i_X1_hasNoneBetween 21 [.int x0, .int x1, .int x2, .int x3] [] S I J Q) : Go d i_X1_hasNoneBetween 16 [.int x0, .int x1, .int x2, .int x3] [] S I J Q := by
  have h := (Go.ite kt kf)
  exact Go.n tb_X1_hasNoneBetween 3 h
theorem b_X1_hasNoneBetween_21 {d : Nat} {S : zS} {I : zI} {J : zJ} {Q : zQ} {x0 : Int32} {x1 : Int32} {x2 : Int32} {x3 : Int32} (g1 : ¬ x3 = 0) (kt : ¬ (x2 - x2 / x3 * x3) = (0 : Int32) → Go d i_X1_hasNoneBetween 29 [.int x0, .int x1, .int x2, .int x3] [] S I J Q) (kf : (x2 - x2 / x3 * x3) = (0 : Int32) → Go d i_X1_hasNoneBetween 27 [.int x0, .int x1, .int x2, .int x3] [] S I J Q) : Go d i_X1_hasNoneBetween 21 [.int x0, .int x1, .int x2, .int x3] [] S I J Q := by
  have h := (And.intro g1 (Go.eti kt kf))
  exact Go.n tb_X1_hasNoneBetween 4 h
theorem b_X1_hasNoneBetween_27 {d : Nat} {S : zS} {I : zI} {J : zJ} {Q : zQ} {x0 : Int32} {x1 : Int32} {x2 : Int32} {x3 : Int32} (g1 : z_fit 3 (0 : Int32)) (kk : Q (some (.int (0 : Int32))) S I J) : Go d i_X1_hasNoneBetween 27 [.int x0, .int x1, .int x2, .int x3] [] S I J Q := by
  have h := (And.intro g1 kk)
  exact Go.n tb_X1_hasNoneBetween 2 h
theorem b_X1_hasNoneBetween_29 {d : Nat} {S : zS} {I : zI} {J : zJ} {Q : zQ} {x0 : Int32} {x1 : Int32} {x2 : Int32} {x3 : Int32} (kk : Go d i_X1_hasNoneBetween 16 [.int x0, .int x1, .int x2, .int (x3 + (1 : Int32))] [] S I J Q) : Go d i_X1_hasNoneBetween 29 [.int x0, .int x1, .int x2, .int x3] [] S I J Q := by
  have h := kk
  exact Go.n tb_X1_hasNoneBetween 2 h
theorem b_X1_hasNoneBetween_35 {d : Nat} {S : zS} {I : zI} {J : zJ} {Q : zQ} {x0 : Int32} {x1 : Int32} {x2 : Int32} {x3 : Int32} (g1 : z_fit 3 (1 : Int32)) (kk : Q (some (.int (1 : Int32))) S I J) : Go d i_X1_hasNoneBetween 35 [.int x0, .int x1, .int x2, .int x3] [] S I J Q := by
  have h := (And.intro g1 kk)
  exact Go.n tb_X1_hasNoneBetween 2 h
theorem w_X1_keepSubgroup {d : Nat} {S : zS} {I : zI} {J : zJ} {Q : zQ} {h0 : Nat} {x1 : Int32} (h : Go d i_X1_keepSubgroup 0 [.ref h0, .int x1] [] S I J Q) : z_wp (d + 1) i_X1_keepSubgroup [.ref h0, .int x1] S I J Q := Go.wp (Nat.le_of_ble_eq_true rfl) h
theorem e_X1_keepSubgroup {d : Nat} {S S2 : zS} {I I2 : zI} {J J2 : zJ} {r : Option Value} {h0 : Nat} {x1 : Int32} (h : Go d i_X1_keepSubgroup 0 [.ref h0, .int x1] [] S I J (z_eq r S2 I2 J2)) : z_ev (d + 1) i_X1_keepSubgroup [.ref h0, .int x1] S I J r S2 I2 J2 := Go.ev (Nat.le_of_ble_eq_true rfl) h
theorem b_X1_keepSubgroup_0 {d : Nat} {S : zS} {I : zI} {J : zJ} {Q : zQ} {h0 : Nat} {x1 : Int32} (g1 : z_kd S h0 = 2) (g2 : z_kd S h0 = 2) (kk : z_wp d i_X11_indexOf [.ref (z_rv S h0 10), .int (I h0 11), .int x1] S I J (fun vv SS II JJ => Go d i_X1_keepSubgroup 12 [.ref h0, .int x1] (vv.toList ++ []) SS II JJ Q)) : Go d i_X1_keepSubgroup 0 [.ref h0, .int x1] [] S I J Q := by
  have h := (And.intro g1 (And.intro g2 (And.intro trivial kk)))
  exact Go.n tb_X1_keepSubgroup 6 h
theorem b_X1_keepSubgroup_12 {d : Nat} {S : zS} {I : zI} {J : zJ} {Q : zQ} {h0 : Nat} {x1 : Int32} {y0 : Int32} (kt : ¬ y0 = (-1 : Int32) → Go d i_X1_keepSubgroup 48 [.ref h0, .int x1] [] S I J Q) (kf : y0 = (-1 : Int32) → Go d i_X1_keepSubgroup 16 [.ref h0, .int x1] [] S I J Q) : Go d i_X1_keepSubgroup 12 [.ref h0, .int x1] [.int y0] S I J Q := by
  have h := (Go.eti kt kf)
  exact Go.n tb_X1_keepSubgroup 2 h
theorem b_X1_keepSubgroup_16 {d : Nat} {S : zS} {I : zI} {J : zJ} {Q : zQ} {h0 : Nat} {x1 : Int32} (g1 : z_kd S h0 = 2) (g2 : z_kd S h0 = 2) (g3 : z_isA (z_kd S (z_rv S h0 10)) = true) (kt : (nI (z_ln S (z_rv S h0 10))) ≤ (I h0 11) → Go d i_X1_keepSubgroup 48 [.ref h0, .int x1] [] S I J Q) (kf : ¬ (nI (z_ln S (z_rv S h0 10))) ≤ (I h0 11) → Go d i_X1_keepSubgroup 28 [.ref h0, .int x1] [] S I J Q) : Go d i_X1_keepSubgroup 16 [.ref h0, .int x1] [] S I J Q := by
  have h := (And.intro g1 (And.intro g2 (And.intro g3 (Go.ite kt kf))))
  exact Go.n tb_X1_keepSubgroup 6 h
theorem b_X1_keepSubgroup_28 {d : Nat} {S : zS} {I : zI} {J : zJ} {Q : zQ} {h0 : Nat} {x1 : Int32} {I1 : zI} (g1 : z_kd S h0 = 2) (g2 : z_kd S h0 = 2) (g3 : z_kd S (z_rv S h0 10) = 100 ∧ vp_in (I h0 11) (z_ln S (z_rv S h0 10))) (g4 : z_kd S h0 = 2) (g5 : z_kd S h0 = 2) (eI1 : I1 = z_u2 (z_u2 I (z_rv S h0 10) (Int32.toNatClampNeg (I h0 11)) x1) h0 11 (((z_u2 I (z_rv S h0 10) (Int32.toNatClampNeg (I h0 11)) x1) h0 11) + (1 : Int32))) (kk : Q none S I1 J) : Go d i_X1_keepSubgroup 28 [.ref h0, .int x1] [] S I J Q := by
  subst eI1
  have h := (And.intro g1 (And.intro g2 (And.intro g3 (And.intro g4 (And.intro g5 (And.intro trivial kk))))))
  exact Go.n tb_X1_keepSubgroup 13 h
theorem b_X1_keepSubgroup_48 {d : Nat} {S : zS} {I : zI} {J : zJ} {Q : zQ} {h0 : Nat} {x1 : Int32} (kk : Q none S I J) : Go d i_X1_keepSubgroup 48 [.ref h0, .int x1] [] S I J Q := by
  have h := (And.intro trivial kk)
  exact Go.n tb_X1_keepSubgroup 1 h
theorem w_X1_sortSubgroups {d : Nat} {S : zS} {I : zI} {J : zJ} {Q : zQ} {h0 : Nat} (h : Go d i_X1_sortSubgroups 0 [.ref h0, .retAddr 0, .retAddr 0, .retAddr 0] [] S I J Q) : z_wp (d + 1) i_X1_sortSubgroups [.ref h0] S I J Q := Go.wp (Nat.le_of_ble_eq_true rfl) h
theorem e_X1_sortSubgroups {d : Nat} {S S2 : zS} {I I2 : zI} {J J2 : zJ} {r : Option Value} {h0 : Nat} (h : Go d i_X1_sortSubgroups 0 [.ref h0, .retAddr 0, .retAddr 0, .retAddr 0] [] S I J (z_eq r S2 I2 J2)) : z_ev (d + 1) i_X1_sortSubgroups [.ref h0] S I J r S2 I2 J2 := Go.ev (Nat.le_of_ble_eq_true rfl) h
theorem b_X1_sortSubgroups_0 {d : Nat} {S : zS} {I : zI} {J : zJ} {Q : zQ} {h0 : Nat} {v1 : Value} {v2 : Value} {v3 : Value} (kk : Go d i_X1_sortSubgroups 2 [.ref h0, .int (1 : Int32), v2, v3] [] S I J Q) : Go d i_X1_sortSubgroups 0 [.ref h0, v1, v2, v3] [] S I J Q := by
  have h := kk
  exact Go.n tb_X1_sortSubgroups 2 h
theorem b_X1_sortSubgroups_2 {d : Nat} {S : zS} {I : zI} {J : zJ} {Q : zQ} {h0 : Nat} {x1 : Int32} {v2 : Value} {v3 : Value} (g1 : z_kd S h0 = 2) (kt : (I h0 11) ≤ x1 → Go d i_X1_sortSubgroups 68 [.ref h0, .int x1, v2, v3] [] S I J Q) (kf : ¬ (I h0 11) ≤ x1 → Go d i_X1_sortSubgroups 10 [.ref h0, .int x1, v2, v3] [] S I J Q) : Go d i_X1_sortSubgroups 2 [.ref h0, .int x1, v2, v3] [] S I J Q := by
  have h := (And.intro g1 (Go.ite kt kf))
  exact Go.n tb_X1_sortSubgroups 4 h
theorem b_X1_sortSubgroups_10 {d : Nat} {S : zS} {I : zI} {J : zJ} {Q : zQ} {h0 : Nat} {x1 : Int32} {v2 : Value} {v3 : Value} (g1 : z_kd S h0 = 2) (g2 : z_isI (z_kd S (z_rv S h0 10)) = true ∧ vp_in x1 (z_ln S (z_rv S h0 10))) (kk : Go d i_X1_sortSubgroups 19 [.ref h0, .int x1, .int (I (z_rv S h0 10) (Int32.toNatClampNeg x1)), .int x1] [] S I J Q) : Go d i_X1_sortSubgroups 10 [.ref h0, .int x1, v2, v3] [] S I J Q := by
  have h := (And.intro g1 (And.intro g2 kk))
  exact Go.n tb_X1_sortSubgroups 7 h
theorem b_X1_sortSubgroups_19 {d : Nat} {S : zS} {I : zI} {J : zJ} {Q : zQ} {h0 : Nat} {x1 : Int32} {x2 : Int32} {x3 : Int32} (kt : x3 ≤ (0 : Int32) → Go d i_X1_sortSubgroups 55 [.ref h0, .int x1, .int x2, .int x3] [] S I J Q) (kf : ¬ x3 ≤ (0 : Int32) → Go d i_X1_sortSubgroups 23 [.ref h0, .int x1, .int x2, .int x3] [] S I J Q) : Go d i_X1_sortSubgroups 19 [.ref h0, .int x1, .int x2, .int x3] [] S I J Q := by
  have h := (Go.ite kt kf)
  exact Go.n tb_X1_sortSubgroups 2 h
theorem b_X1_sortSubgroups_23 {d : Nat} {S : zS} {I : zI} {J : zJ} {Q : zQ} {h0 : Nat} {x1 : Int32} {x2 : Int32} {x3 : Int32} (g1 : z_kd S h0 = 2) (g2 : z_isI (z_kd S (z_rv S h0 10)) = true ∧ vp_in (x3 - (1 : Int32)) (z_ln S (z_rv S h0 10))) (kt : (I (z_rv S h0 10) (Int32.toNatClampNeg (x3 - (1 : Int32)))) ≤ x2 → Go d i_X1_sortSubgroups 55 [.ref h0, .int x1, .int x2, .int x3] [] S I J Q) (kf : ¬ (I (z_rv S h0 10) (Int32.toNatClampNeg (x3 - (1 : Int32)))) ≤ x2 → Go d i_X1_sortSubgroups 35 [.ref h0, .int x1, .int x2, .int x3] [] S I J Q) : Go d i_X1_sortSubgroups 23 [.ref h0, .int x1, .int x2, .int x3] [] S I J Q := by
  have h := (And.intro g1 (And.intro g2 (Go.ite kt kf)))
  exact Go.n tb_X1_sortSubgroups 8 h
theorem b_X1_sortSubgroups_35 {d : Nat} {S : zS} {I : zI} {J : zJ} {Q : zQ} {h0 : Nat} {x1 : Int32} {x2 : Int32} {x3 : Int32} (g1 : z_kd S h0 = 2) (g2 : z_kd S h0 = 2) (g3 : z_isI (z_kd S (z_rv S h0 10)) = true ∧ vp_in (x3 - (1 : Int32)) (z_ln S (z_rv S h0 10))) (g4 : z_kd S (z_rv S h0 10) = 100 ∧ vp_in x3 (z_ln S (z_rv S h0 10))) (kk : Go d i_X1_sortSubgroups 19 [.ref h0, .int x1, .int x2, .int (x3 + (-1 : Int32))] [] S (z_u2 I (z_rv S h0 10) (Int32.toNatClampNeg x3) (I (z_rv S h0 10) (Int32.toNatClampNeg (x3 - (1 : Int32))))) J Q) : Go d i_X1_sortSubgroups 35 [.ref h0, .int x1, .int x2, .int x3] [] S I J Q := by
  have h := (And.intro g1 (And.intro g2 (And.intro g3 (And.intro g4 kk))))
  exact Go.n tb_X1_sortSubgroups 12 h
theorem b_X1_sortSubgroups_55 {d : Nat} {S : zS} {I : zI} {J : zJ} {Q : zQ} {h0 : Nat} {x1 : Int32} {x2 : Int32} {x3 : Int32} (g1 : z_kd S h0 = 2) (g2 : z_kd S (z_rv S h0 10) = 100 ∧ vp_in x3 (z_ln S (z_rv S h0 10))) (kk : Go d i_X1_sortSubgroups 2 [.ref h0, .int (x1 + (1 : Int32)), .int x2, .int x3] [] S (z_u2 I (z_rv S h0 10) (Int32.toNatClampNeg x3) x2) J Q) : Go d i_X1_sortSubgroups 55 [.ref h0, .int x1, .int x2, .int x3] [] S I J Q := by
  have h := (And.intro g1 (And.intro g2 kk))
  exact Go.n tb_X1_sortSubgroups 7 h
theorem b_X1_sortSubgroups_68 {d : Nat} {S : zS} {I : zI} {J : zJ} {Q : zQ} {h0 : Nat} {x1 : Int32} {v2 : Value} {v3 : Value} (kk : Q none S I J) : Go d i_X1_sortSubgroups 68 [.ref h0, .int x1, v2, v3] [] S I J Q := by
  have h := (And.intro trivial kk)
  exact Go.n tb_X1_sortSubgroups 1 h
theorem w_X1_numberCosets {d : Nat} {S : zS} {I : zI} {J : zJ} {Q : zQ} {h0 : Nat} {x1 : Int32} {h2 : Nat} {h3 : Nat} (h : Go d i_X1_numberCosets 0 [.ref h0, .int x1, .ref h2, .ref h3, .retAddr 0, .retAddr 0, .retAddr 0, .retAddr 0, .retAddr 0] [] S I J Q) : z_wp (d + 1) i_X1_numberCosets [.ref h0, .int x1, .ref h2, .ref h3] S I J Q := Go.wp (Nat.le_of_ble_eq_true rfl) h
theorem e_X1_numberCosets {d : Nat} {S S2 : zS} {I I2 : zI} {J J2 : zJ} {r : Option Value} {h0 : Nat} {x1 : Int32} {h2 : Nat} {h3 : Nat} (h : Go d i_X1_numberCosets 0 [.ref h0, .int x1, .ref h2, .ref h3, .retAddr 0, .retAddr 0, .retAddr 0, .retAddr 0, .retAddr 0] [] S I J (z_eq r S2 I2 J2)) : z_ev (d + 1) i_X1_numberCosets [.ref h0, .int x1, .ref h2, .ref h3] S I J r S2 I2 J2 := Go.ev (Nat.le_of_ble_eq_true rfl) h
theorem b_X1_numberCosets_0 {d : Nat} {S : zS} {I : zI} {J : zJ} {Q : zQ} {h0 : Nat} {x1 : Int32} {h2 : Nat} {h3 : Nat} {v4 : Value} {v5 : Value} {v6 : Value} {v7 : Value} {v8 : Value} (kk : Go d i_X1_numberCosets 9 [.ref h0, .int x1, .ref h2, .ref h3, .int (0 : Int32), .int (0 : Int32), .int (0 : Int32), v7, v8] [] S I J Q) : Go d i_X1_numberCosets 0 [.ref h0, .int x1, .ref h2, .ref h3, v4, v5, v6, v7, v8] [] S I J Q := by
  have h := kk
  exact Go.n tb_X1_numberCosets 6 h
theorem b_X1_numberCosets_9 {d : Nat} {S : zS} {I : zI} {J : zJ} {Q : zQ} {h0 : Nat} {x1 : Int32} {h2 : Nat} {h3 : Nat} {x4 : Int32} {x5 : Int32} {x6 : Int32} {v7 : Value} {v8 : Value} (g1 : z_kd S h0 = 2) (kt : (I h0 0) ≤ x6 → Go d i_X1_numberCosets 93 [.ref h0, .int x1, .ref h2, .ref h3, .int x4, .int x5, .int x6, v7, v8] [] S I J Q) (kf : ¬ (I h0 0) ≤ x6 → Go d i_X1_numberCosets 18 [.ref h0, .int x1, .ref h2, .ref h3, .int x4, .int x5, .int x6, v7, v8] [] S I J Q) : Go d i_X1_numberCosets 9 [.ref h0, .int x1, .ref h2, .ref h3, .int x4, .int x5, .int x6, v7, v8] [] S I J Q := by
  have h := (And.intro g1 (Go.ite kt kf))
  exact Go.n tb_X1_numberCosets 4 h
theorem b_X1_numberCosets_18 {d : Nat} {S : zS} {I : zI} {J : zJ} {Q : zQ} {h0 : Nat} {x1 : Int32} {h2 : Nat} {h3 : Nat} {x4 : Int32} {x5 : Int32} {x6 : Int32} {v7 : Value} {v8 : Value} (kt : ¬ ((x4 >>> (x6 &&& 31)) &&& (1 : Int32)) = (0 : Int32) → Go d i_X1_numberCosets 87 [.ref h0, .int x1, .ref h2, .ref h3, .int x4, .int x5, .int x6, v7, v8] [] S I J Q) (kf : ((x4 >>> (x6 &&& 31)) &&& (1 : Int32)) = (0 : Int32) → Go d i_X1_numberCosets 28 [.ref h0, .int x1, .ref h2, .ref h3, .int x4, .int x5, .int x6, v7, v8] [] S I J Q) : Go d i_X1_numberCosets 18 [.ref h0, .int x1, .ref h2, .ref h3, .int x4, .int x5, .int x6, v7, v8] [] S I J Q := by
  have h := (Go.eti kt kf)
  exact Go.n tb_X1_numberCosets 6 h
theorem b_X1_numberCosets_28 {d : Nat} {S : zS} {I : zI} {J : zJ} {Q : zQ} {h0 : Nat} {x1 : Int32} {h2 : Nat} {h3 : Nat} {x4 : Int32} {x5 : Int32} {x6 : Int32} {v7 : Value} {v8 : Value} (g1 : z_kd S h0 = 2) (kk : z_wp d i_X1_shifted [.ref h0, .int x6, .int x1] S I J (fun vv SS II JJ => Go d i_X1_numberCosets 35 [.ref h0, .int x1, .ref h2, .ref h3, .int x4, .int x5, .int x6, v7, v8] (vv.toList ++ []) SS II JJ Q)) : Go d i_X1_numberCosets 28 [.ref h0, .int x1, .ref h2, .ref h3, .int x4, .int x5, .int x6, v7, v8] [] S I J Q := by
  have h := (And.intro g1 kk)
  exact Go.n tb_X1_numberCosets 4 h
theorem b_X1_numberCosets_35 {d : Nat} {S : zS} {I : zI} {J : zJ} {Q : zQ} {h0 : Nat} {x1 : Int32} {h2 : Nat} {h3 : Nat} {x4 : Int32} {x5 : Int32} {x6 : Int32} {v7 : Value} {v8 : Value} {y0 : Int32} (g1 : z_kd S h3 = 100 ∧ vp_in x5 (z_ln S h3)) (kk : Go d i_X1_numberCosets 53 [.ref h0, .int x1, .ref h2, .ref h3, .int (x4 ||| y0), .int x5, .int x6, .int y0, .int (0 : Int32)] [] S (z_u2 I h3 (Int32.toNatClampNeg x5) x6) J Q) : Go d i_X1_numberCosets 35 [.ref h0, .int x1, .ref h2, .ref h3, .int x4, .int x5, .int x6, v7, v8] [.int y0] S I J Q := by
  have h := (And.intro g1 kk)
  exact Go.n tb_X1_numberCosets 11 h
theorem b_X1_numberCosets_53 {d : Nat} {S : zS} {I : zI} {J : zJ} {Q : zQ} {h0 : Nat} {x1 : Int32} {h2 : Nat} {h3 : Nat} {x4 : Int32} {x5 : Int32} {x6 : Int32} {x7 : Int32} {x8 : Int32} (g1 : z_kd S h0 = 2) (kt : (I h0 0) ≤ x8 → Go d i_X1_numberCosets 84 [.ref h0, .int x1, .ref h2, .ref h3, .int x4, .int x5, .int x6, .int x7, .int x8] [] S I J Q) (kf : ¬ (I h0 0) ≤ x8 → Go d i_X1_numberCosets 62 [.ref h0, .int x1, .ref h2, .ref h3, .int x4, .int x5, .int x6, .int x7, .int x8] [] S I J Q) : Go d i_X1_numberCosets 53 [.ref h0, .int x1, .ref h2, .ref h3, .int x4, .int x5, .int x6, .int x7, .int x8] [] S I J Q := by
  have h := (And.intro g1 (Go.ite kt kf))
  exact Go.n tb_X1_numberCosets 4 h
theorem b_X1_numberCosets_62 {d : Nat} {S : zS} {I : zI} {J : zJ} {Q : zQ} {h0 : Nat} {x1 : Int32} {h2 : Nat} {h3 : Nat} {x4 : Int32} {x5 : Int32} {x6 : Int32} {x7 : Int32} {x8 : Int32} (kt : ((x7 >>> (x8 &&& 31)) &&& (1 : Int32)) = (0 : Int32) → Go d i_X1_numberCosets 78 [.ref h0, .int x1, .ref h2, .ref h3, .int x4, .int x5, .int x6, .int x7, .int x8] [] S I J Q) (kf : ¬ ((x7 >>> (x8 &&& 31)) &&& (1 : Int32)) = (0 : Int32) → Go d i_X1_numberCosets 72 [.ref h0, .int x1, .ref h2, .ref h3, .int x4, .int x5, .int x6, .int x7, .int x8] [] S I J Q) : Go d i_X1_numberCosets 62 [.ref h0, .int x1, .ref h2, .ref h3, .int x4, .int x5, .int x6, .int x7, .int x8] [] S I J Q := by
  have h := (Go.ite kt kf)
  exact Go.n tb_X1_numberCosets 6 h
theorem b_X1_numberCosets_72 {d : Nat} {S : zS} {I : zI} {J : zJ} {Q : zQ} {h0 : Nat} {x1 : Int32} {h2 : Nat} {h3 : Nat} {x4 : Int32} {x5 : Int32} {x6 : Int32} {x7 : Int32} {x8 : Int32} (g1 : z_kd S h2 = 100 ∧ vp_in x8 (z_ln S h2)) (kk : Go d i_X1_numberCosets 53 [.ref h0, .int x1, .ref h2, .ref h3, .int x4, .int x5, .int x6, .int x7, .int (x8 + (1 : Int32))] [] S (z_u2 I h2 (Int32.toNatClampNeg x8) x5) J Q) : Go d i_X1_numberCosets 72 [.ref h0, .int x1, .ref h2, .ref h3, .int x4, .int x5, .int x6, .int x7, .int x8] [] S I J Q := by
  have h := (And.intro g1 kk)
  exact Go.n tb_X1_numberCosets 6 h
theorem b_X1_numberCosets_78 {d : Nat} {S : zS} {I : zI} {J : zJ} {Q : zQ} {h0 : Nat} {x1 : Int32} {h2 : Nat} {h3 : Nat} {x4 : Int32} {x5 : Int32} {x6 : Int32} {x7 : Int32} {x8 : Int32} (kk : Go d i_X1_numberCosets 53 [.ref h0, .int x1, .ref h2, .ref h3, .int x4, .int x5, .int x6, .int x7, .int (x8 + (1 : Int32))] [] S I J Q) : Go d i_X1_numberCosets 78 [.ref h0, .int x1, .ref h2, .ref h3, .int x4, .int x5, .int x6, .int x7, .int x8] [] S I J Q := by
  have h := kk
  exact Go.n tb_X1_numberCosets 2 h
theorem b_X1_numberCosets_84 {d : Nat} {S : zS} {I : zI} {J : zJ} {Q : zQ} {h0 : Nat} {x1 : Int32} {h2 : Nat} {h3 : Nat} {x4 : Int32} {x5 : Int32} {x6 : Int32} {x7 : Int32} {x8 : Int32} (kk : Go d i_X1_numberCosets 9 [.ref h0, .int x1, .ref h2, .ref h3, .int x4, .int (x5 + (1 : Int32)), .int (x6 + (1 : Int32)), .int x7, .int x8] [] S I J Q) : Go d i_X1_numberCosets 84 [.ref h0, .int x1, .ref h2, .ref h3, .int x4, .int x5, .int x6, .int x7, .int x8] [] S I J Q := by
  have h := kk
  exact Go.n tb_X1_numberCosets 3 h
theorem b_X1_numberCosets_87 {d : Nat} {S : zS} {I : zI} {J : zJ} {Q : zQ} {h0 : Nat} {x1 : Int32} {h2 : Nat} {h3 : Nat} {x4 : Int32} {x5 : Int32} {x6 : Int32} {v7 : Value} {v8 : Value} (kk : Go d i_X1_numberCosets 9 [.ref h0, .int x1, .ref h2, .ref h3, .int x4, .int x5, .int (x6 + (1 : Int32)), v7, v8] [] S I J Q) : Go d i_X1_numberCosets 87 [.ref h0, .int x1, .ref h2, .ref h3, .int x4, .int x5, .int x6, v7, v8] [] S I J Q := by
  have h := kk
  exact Go.n tb_X1_numberCosets 2 h
theorem b_X1_numberCosets_93 {d : Nat} {S : zS} {I : zI} {J : zJ} {Q : zQ} {h0 : Nat} {x1 : Int32} {h2 : Nat} {h3 : Nat} {x4 : Int32} {x5 : Int32} {x6 : Int32} {v7 : Value} {v8 : Value} (kk : Q (some (.int x5)) S I J) : Go d i_X1_numberCosets 93 [.ref h0, .int x1, .ref h2, .ref h3, .int x4, .int x5, .int x6, v7, v8] [] S I J Q := by
  have h := (And.intro trivial kk)
  exact Go.n tb_X1_numberCosets 2 h
theorem w_X1_dividedBy {d : Nat} {S : zS} {I : zI} {J : zJ} {Q : zQ} {h0 : Nat} {x1 : Int32} {h2 : Nat} {h3 : Nat} (h : Go d i_X1_dividedBy 0 [.ref h0, .int x1, .ref h2, .ref h3, .retAddr 0, .retAddr 0, .retAddr 0, .retAddr 0] [] S I J Q) : z_wp (d + 1) i_X1_dividedBy [.ref h0, .int x1, .ref h2, .ref h3] S I J Q := Go.wp (Nat.le_of_ble_eq_true rfl) h
theorem e_X1_dividedBy {d : Nat} {S S2 : zS} {I I2 : zI} {J J2 : zJ} {r : Option Value} {h0 : Nat} {x1 : Int32} {h2 : Nat} {h3 : Nat} (h : Go d i_X1_dividedBy 0 [.ref h0, .int x1, .ref h2, .ref h3, .retAddr 0, .retAddr 0, .retAddr 0, .retAddr 0] [] S I J (z_eq r S2 I2 J2)) : z_ev (d + 1) i_X1_dividedBy [.ref h0, .int x1, .ref h2, .ref h3] S I J r S2 I2 J2 := Go.ev (Nat.le_of_ble_eq_true rfl) h
theorem b_X1_dividedBy_0 {d : Nat} {S : zS} {I : zI} {J : zJ} {Q : zQ} {h0 : Nat} {x1 : Int32} {h2 : Nat} {h3 : Nat} {v4 : Value} {v5 : Value} {v6 : Value} {v7 : Value} {S1 : zS} {I2 : zI} (g1 : ¬ (x1 * x1) < 0 ∧ (Int32.toNatClampNeg (x1 * x1)) * 4 ≤ 536870912) (g2 : ¬ (z_sz S + 1) = 0) (g3 : ¬ x1 < 0 ∧ (Int32.toNatClampNeg x1) * 4 ≤ 536870912) (eS1 : S1 = z_new (z_new S 100 (Int32.toNatClampNeg (x1 * x1)) (Int32.toNatClampNeg (x1 * x1))) 100 (Int32.toNatClampNeg x1) (Int32.toNatClampNeg x1)) (eI2 : I2 = z_ur (z_ur I (z_sz S + 1) (fun _ => 0)) (z_sz (z_new S 100 (Int32.toNatClampNeg (x1 * x1)) (Int32.toNatClampNeg (x1 * x1))) + 1) (fun _ => 0)) (g6 : ¬ (z_sz (z_new S 100 (Int32.toNatClampNeg (x1 * x1)) (Int32.toNatClampNeg (x1 * x1))) + 1) = 0) (kk : Go d i_X1_dividedBy 15 [.ref h0, .int x1, .ref h2, .ref h3, .ref (z_sz S + 1), .ref (z_sz (z_new S 100 (Int32.toNatClampNeg (x1 * x1)) (Int32.toNatClampNeg (x1 * x1))) + 1), .int (0 : Int32), v7] [] S1 I2 J Q) : Go d i_X1_dividedBy 0 [.ref h0, .int x1, .ref h2, .ref h3, v4, v5, v6, v7] [] S I J Q := by
  subst eI2
  subst eS1
  have h := (And.intro g1 (And.intro g2 (And.intro g3 (And.intro g6 kk))))
  exact Go.n tb_X1_dividedBy 10 h
theorem b_X1_dividedBy_15 {d : Nat} {S : zS} {I : zI} {J : zJ} {Q : zQ} {h0 : Nat} {x1 : Int32} {h2 : Nat} {h3 : Nat} {h4 : Nat} {h5 : Nat} {x6 : Int32} {v7 : Value} (kt : x1 ≤ x6 → Go d i_X1_dividedBy 80 [.ref h0, .int x1, .ref h2, .ref h3, .ref h4, .ref h5, .int x6, v7] [] S I J Q) (kf : ¬ x1 ≤ x6 → Go d i_X1_dividedBy 21 [.ref h0, .int x1, .ref h2, .ref h3, .ref h4, .ref h5, .int x6, v7] [] S I J Q) : Go d i_X1_dividedBy 15 [.ref h0, .int x1, .ref h2, .ref h3, .ref h4, .ref h5, .int x6, v7] [] S I J Q := by
  have h := (Go.ite kt kf)
  exact Go.n tb_X1_dividedBy 3 h
theorem b_X1_dividedBy_21 {d : Nat} {S : zS} {I : zI} {J : zJ} {Q : zQ} {h0 : Nat} {x1 : Int32} {h2 : Nat} {h3 : Nat} {h4 : Nat} {h5 : Nat} {x6 : Int32} {v7 : Value} (g1 : z_kd S h0 = 2) (g2 : z_isI (z_kd S h3) = true ∧ vp_in x6 (z_ln S h3)) (g3 : z_isI (z_kd S (z_rv S h0 7)) = true ∧ vp_in (I h3 (Int32.toNatClampNeg x6)) (z_ln S (z_rv S h0 7))) (g4 : z_kd S h5 = 100 ∧ vp_in x6 (z_ln S h5)) (kk : Go d i_X1_dividedBy 38 [.ref h0, .int x1, .ref h2, .ref h3, .ref h4, .ref h5, .int x6, .int (0 : Int32)] [] S (z_u2 I h5 (Int32.toNatClampNeg x6) (I (z_rv S h0 7) (Int32.toNatClampNeg (I h3 (Int32.toNatClampNeg x6))))) J Q) : Go d i_X1_dividedBy 21 [.ref h0, .int x1, .ref h2, .ref h3, .ref h4, .ref h5, .int x6, v7] [] S I J Q := by
  have h := (And.intro g1 (And.intro g2 (And.intro g3 (And.intro g4 kk))))
  exact Go.n tb_X1_dividedBy 11 h
theorem b_X1_dividedBy_38 {d : Nat} {S : zS} {I : zI} {J : zJ} {Q : zQ} {h0 : Nat} {x1 : Int32} {h2 : Nat} {h3 : Nat} {h4 : Nat} {h5 : Nat} {x6 : Int32} {x7 : Int32} (kt : x1 ≤ x7 → Go d i_X1_dividedBy 74 [.ref h0, .int x1, .ref h2, .ref h3, .ref h4, .ref h5, .int x6, .int x7] [] S I J Q) (kf : ¬ x1 ≤ x7 → Go d i_X1_dividedBy 44 [.ref h0, .int x1, .ref h2, .ref h3, .ref h4, .ref h5, .int x6, .int x7] [] S I J Q) : Go d i_X1_dividedBy 38 [.ref h0, .int x1, .ref h2, .ref h3, .ref h4, .ref h5, .int x6, .int x7] [] S I J Q := by
  have h := (Go.ite kt kf)
  exact Go.n tb_X1_dividedBy 3 h
theorem b_X1_dividedBy_44 {d : Nat} {S : zS} {I : zI} {J : zJ} {Q : zQ} {h0 : Nat} {x1 : Int32} {h2 : Nat} {h3 : Nat} {h4 : Nat} {h5 : Nat} {x6 : Int32} {x7 : Int32} (g1 : z_isI (z_kd S h3) = true ∧ vp_in x6 (z_ln S h3)) (g2 : z_isI (z_kd S h3) = true ∧ vp_in x7 (z_ln S h3)) (g3 : z_kd S h0 = 2) (kk : z_wp d i_X1_times [.ref h0, .int (I h3 (Int32.toNatClampNeg x6)), .int (I h3 (Int32.toNatClampNeg x7))] S I J (fun vv SS II JJ => Go d i_X1_dividedBy 66 [.ref h0, .int x1, .ref h2, .ref h3, .ref h4, .ref h5, .int x6, .int x7] (vv.toList ++ [.ref h2, .int ((x6 * x1) + x7), .ref h4]) SS II JJ Q)) : Go d i_X1_dividedBy 44 [.ref h0, .int x1, .ref h2, .ref h3, .ref h4, .ref h5, .int x6, .int x7] [] S I J Q := by
  have h := (And.intro g1 (And.intro g2 (And.intro g3 kk)))
  exact Go.n tb_X1_dividedBy 15 h
theorem b_X1_dividedBy_66 {d : Nat} {S : zS} {I : zI} {J : zJ} {Q : zQ} {h0 : Nat} {x1 : Int32} {h2 : Nat} {h3 : Nat} {h4 : Nat} {h5 : Nat} {x6 : Int32} {x7 : Int32} {q0 : Nat} {y1 : Int32} {q2 : Nat} {y3 : Int32} (g1 : z_isI (z_kd S q2) = true ∧ vp_in y3 (z_ln S q2)) (g2 : z_kd S q0 = 100 ∧ vp_in y1 (z_ln S q0)) (kk : Go d i_X1_dividedBy 38 [.ref h0, .int x1, .ref h2, .ref h3, .ref h4, .ref h5, .int x6, .int (x7 + (1 : Int32))] [] S (z_u2 I q0 (Int32.toNatClampNeg y1) (I q2 (Int32.toNatClampNeg y3))) J Q) : Go d i_X1_dividedBy 66 [.ref h0, .int x1, .ref h2, .ref h3, .ref h4, .ref h5, .int x6, .int x7] [.int y3, .ref q2, .int y1, .ref q0] S I J Q := by
  have h := (And.intro g1 (And.intro g2 kk))
  exact Go.n tb_X1_dividedBy 4 h
theorem b_X1_dividedBy_74 {d : Nat} {S : zS} {I : zI} {J : zJ} {Q : zQ} {h0 : Nat} {x1 : Int32} {h2 : Nat} {h3 : Nat} {h4 : Nat} {h5 : Nat} {x6 : Int32} {x7 : Int32} (kk : Go d i_X1_dividedBy 15 [.ref h0, .int x1, .ref h2, .ref h3, .ref h4, .ref h5, .int (x6 + (1 : Int32)), .int x7] [] S I J Q) : Go d i_X1_dividedBy 74 [.ref h0, .int x1, .ref h2, .ref h3, .ref h4, .ref h5, .int x6, .int x7] [] S I J Q := by
  have h := kk
  exact Go.n tb_X1_dividedBy 2 h
theorem b_X1_dividedBy_80 {d : Nat} {S : zS} {I : zI} {J : zJ} {Q : zQ} {h0 : Nat} {x1 : Int32} {h2 : Nat} {h3 : Nat} {h4 : Nat} {h5 : Nat} {x6 : Int32} {v7 : Value} (g1 : z_kd (z_new S 2 0 12) h0 = 2) (g2 : z_kd (z_new S 2 0 12) h0 = 2) (g3 : ¬ (z_sz S + 1) = 0) (kk : z_wp d i_X1_init [.ref (z_sz S + 1), .int x1, .ref h4, .ref (z_rv (z_new S 2 0 12) h0 6), .ref h5, .int (((z_ur I (z_sz S + 1) (fun _ => 0)) h0 8) + (1 : Int32))] (z_new S 2 0 12) (z_ur I (z_sz S + 1) (fun _ => 0)) (z_ur J (z_sz S + 1) (fun _ => 0)) (fun vv SS II JJ => Go d i_X1_dividedBy 102 [.ref h0, .int x1, .ref h2, .ref h3, .ref h4, .ref h5, .int x6, v7] (vv.toList ++ [.ref (z_sz S + 1)]) SS II JJ Q)) : Go d i_X1_dividedBy 80 [.ref h0, .int x1, .ref h2, .ref h3, .ref h4, .ref h5, .int x6, v7] [] S I J Q := by
  have h := (And.intro g1 (And.intro g2 (And.intro g3 kk)))
  exact Go.n tb_X1_dividedBy 12 h
theorem b_X1_dividedBy_102 {d : Nat} {S : zS} {I : zI} {J : zJ} {Q : zQ} {h0 : Nat} {x1 : Int32} {h2 : Nat} {h3 : Nat} {h4 : Nat} {h5 : Nat} {x6 : Int32} {v7 : Value} {q0 : Nat} (kk : Q (some (.ref q0)) S I J) : Go d i_X1_dividedBy 102 [.ref h0, .int x1, .ref h2, .ref h3, .ref h4, .ref h5, .int x6, v7] [.ref q0] S I J Q := by
  have h := (And.intro trivial kk)
  exact Go.n tb_X1_dividedBy 1 h
theorem w_X1_nameByte {d : Nat} {S : zS} {I : zI} {J : zJ} {Q : zQ} {h0 : Nat} {x1 : Int32} {x2 : Int32} (h : Go d i_X1_nameByte 0 [.ref h0, .int x1, .int x2, .retAddr 0] [] S I J Q) : z_wp (d + 1) i_X1_nameByte [.ref h0, .int x1, .int x2] S I J Q := Go.wp (Nat.le_of_ble_eq_true rfl) h
theorem e_X1_nameByte {d : Nat} {S S2 : zS} {I I2 : zI} {J J2 : zJ} {r : Option Value} {h0 : Nat} {x1 : Int32} {x2 : Int32} (h : Go d i_X1_nameByte 0 [.ref h0, .int x1, .int x2, .retAddr 0] [] S I J (z_eq r S2 I2 J2)) : z_ev (d + 1) i_X1_nameByte [.ref h0, .int x1, .int x2] S I J r S2 I2 J2 := Go.ev (Nat.le_of_ble_eq_true rfl) h
theorem b_X1_nameByte_0 {d : Nat} {S : zS} {I : zI} {J : zJ} {Q : zQ} {h0 : Nat} {x1 : Int32} {x2 : Int32} {v3 : Value} (g1 : z_kd S h0 = 2) (g2 : z_kd S h0 = 2) (g3 : z_isI (z_kd S (z_rv S h0 7)) = true ∧ vp_in x1 (z_ln S (z_rv S h0 7))) (g4 : z_kd S (z_rv S h0 6) = 7) (kk : z_wp d i_X6_byteAt [.ref (z_rv S h0 6), .int (I (z_rv S h0 7) (Int32.toNatClampNeg x1)), .int x2] S I J (fun vv SS II JJ => Go d i_X1_nameByte 14 [.ref h0, .int x1, .int x2, v3] (vv.toList ++ []) SS II JJ Q)) : Go d i_X1_nameByte 0 [.ref h0, .int x1, .int x2, v3] [] S I J Q := by
  have h := (And.intro g1 (And.intro g2 (And.intro g3 (And.intro g4 kk))))
  exact Go.n tb_X1_nameByte 8 h
theorem b_X1_nameByte_14 {d : Nat} {S : zS} {I : zI} {J : zJ} {Q : zQ} {h0 : Nat} {x1 : Int32} {x2 : Int32} {v3 : Value} {y0 : Int32} (kt : y0 < (0 : Int32) → Go d i_X1_nameByte 21 [.ref h0, .int x1, .int x2, .int y0] [] S I J Q) (kf : ¬ y0 < (0 : Int32) → Go d i_X1_nameByte 19 [.ref h0, .int x1, .int x2, .int y0] [] S I J Q) : Go d i_X1_nameByte 14 [.ref h0, .int x1, .int x2, v3] [.int y0] S I J Q := by
  have h := (Go.ite kt kf)
  exact Go.n tb_X1_nameByte 3 h
theorem b_X1_nameByte_19 {d : Nat} {S : zS} {I : zI} {J : zJ} {Q : zQ} {h0 : Nat} {x1 : Int32} {x2 : Int32} {x3 : Int32} (kk : Q (some (.int x3)) S I J) : Go d i_X1_nameByte 19 [.ref h0, .int x1, .int x2, .int x3] [] S I J Q := by
  have h := (And.intro trivial kk)
  exact Go.n tb_X1_nameByte 2 h
theorem b_X1_nameByte_21 {d : Nat} {S : zS} {I : zI} {J : zJ} {Q : zQ} {h0 : Nat} {x1 : Int32} {x2 : Int32} {x3 : Int32} (g1 : z_kd S h0 = 2) (kt : (I h0 8) ≤ ((-1 : Int32) - x3) → Go d i_X1_nameByte 36 [.ref h0, .int x1, .int x2, .int x3] [] S I J Q) (kf : ¬ (I h0 8) ≤ ((-1 : Int32) - x3) → Go d i_X1_nameByte 31 [.ref h0, .int x1, .int x2, .int x3] [] S I J Q) : Go d i_X1_nameByte 21 [.ref h0, .int x1, .int x2, .int x3] [] S I J Q := by
  have h := (And.intro g1 (Go.ite kt kf))
  exact Go.n tb_X1_nameByte 6 h
theorem b_X1_nameByte_31 {d : Nat} {S : zS} {I : zI} {J : zJ} {Q : zQ} {h0 : Nat} {x1 : Int32} {x2 : Int32} {x3 : Int32} (kk : Q (some (.int (39 : Int32))) S I J) : Go d i_X1_nameByte 31 [.ref h0, .int x1, .int x2, .int x3] [] S I J Q := by
  have h := (And.intro trivial kk)
  exact Go.n tb_X1_nameByte 3 h
theorem b_X1_nameByte_36 {d : Nat} {S : zS} {I : zI} {J : zJ} {Q : zQ} {h0 : Nat} {x1 : Int32} {x2 : Int32} {x3 : Int32} (kk : Q (some (.int (-1 : Int32))) S I J) : Go d i_X1_nameByte 36 [.ref h0, .int x1, .int x2, .int x3] [] S I J Q := by
  have h := (And.intro trivial kk)
  exact Go.n tb_X1_nameByte 2 h
theorem w_X2_init {d : Nat} {S : zS} {I : zI} {J : zJ} {Q : zQ} {h0 : Nat} (h : Go d i_X2_init 0 [.ref h0] [] S I J Q) : z_wp (d + 1) i_X2_init [.ref h0] S I J Q := Go.wp (Nat.le_of_ble_eq_true rfl) h
theorem e_X2_init {d : Nat} {S S2 : zS} {I I2 : zI} {J J2 : zJ} {r : Option Value} {h0 : Nat} (h : Go d i_X2_init 0 [.ref h0] [] S I J (z_eq r S2 I2 J2)) : z_ev (d + 1) i_X2_init [.ref h0] S I J r S2 I2 J2 := Go.ev (Nat.le_of_ble_eq_true rfl) h
theorem b_X2_init_0 {d : Nat} {S : zS} {I : zI} {J : zJ} {Q : zQ} {h0 : Nat} (g1 : ¬ h0 = 0) (g2 : ¬ (150 : Int32) < 0 ∧ (Int32.toNatClampNeg (150 : Int32)) * 4 ≤ 536870912) (g3 : z_kd (z_new S 100 (Int32.toNatClampNeg (150 : Int32)) (Int32.toNatClampNeg (150 : Int32))) h0 = 3) (kk : Go d i_X2_init 13 [.ref h0] [] (z_setR (z_new S 100 (Int32.toNatClampNeg (150 : Int32)) (Int32.toNatClampNeg (150 : Int32))) h0 0 (z_sz S + 1)) (z_ur I (z_sz S + 1) (fun _ => 0)) J Q) : Go d i_X2_init 0 [.ref h0] [] S I J Q := by
  have h := (And.intro g1 (And.intro g2 (And.intro g3 kk)))
  exact Go.n tb_X2_init 6 h
theorem b_X2_init_13 {d : Nat} {S : zS} {I : zI} {J : zJ} {Q : zQ} {h0 : Nat} (g1 : ¬ (150 : Int32) < 0 ∧ (Int32.toNatClampNeg (150 : Int32)) * 4 ≤ 536870912) (g2 : z_kd (z_new S 100 (Int32.toNatClampNeg (150 : Int32)) (Int32.toNatClampNeg (150 : Int32))) h0 = 3) (kk : Go d i_X2_init 22 [.ref h0] [] (z_setR (z_new S 100 (Int32.toNatClampNeg (150 : Int32)) (Int32.toNatClampNeg (150 : Int32))) h0 1 (z_sz S + 1)) (z_ur I (z_sz S + 1) (fun _ => 0)) J Q) : Go d i_X2_init 13 [.ref h0] [] S I J Q := by
  have h := (And.intro g1 (And.intro g2 kk))
  exact Go.n tb_X2_init 4 h
theorem b_X2_init_22 {d : Nat} {S : zS} {I : zI} {J : zJ} {Q : zQ} {h0 : Nat} (g1 : ¬ (150 : Int32) < 0 ∧ (Int32.toNatClampNeg (150 : Int32)) * 4 ≤ 536870912) (g2 : z_kd (z_new S 100 (Int32.toNatClampNeg (150 : Int32)) (Int32.toNatClampNeg (150 : Int32))) h0 = 3) (kk : Go d i_X2_init 31 [.ref h0] [] (z_setR (z_new S 100 (Int32.toNatClampNeg (150 : Int32)) (Int32.toNatClampNeg (150 : Int32))) h0 2 (z_sz S + 1)) (z_ur I (z_sz S + 1) (fun _ => 0)) J Q) : Go d i_X2_init 22 [.ref h0] [] S I J Q := by
  have h := (And.intro g1 (And.intro g2 kk))
  exact Go.n tb_X2_init 4 h
theorem b_X2_init_31 {d : Nat} {S : zS} {I : zI} {J : zJ} {Q : zQ} {h0 : Nat} (g1 : ¬ (150 : Int32) < 0 ∧ (Int32.toNatClampNeg (150 : Int32)) * 4 ≤ 536870912) (g2 : z_kd (z_new S 100 (Int32.toNatClampNeg (150 : Int32)) (Int32.toNatClampNeg (150 : Int32))) h0 = 3) (kk : Go d i_X2_init 40 [.ref h0] [] (z_setR (z_new S 100 (Int32.toNatClampNeg (150 : Int32)) (Int32.toNatClampNeg (150 : Int32))) h0 5 (z_sz S + 1)) (z_ur I (z_sz S + 1) (fun _ => 0)) J Q) : Go d i_X2_init 31 [.ref h0] [] S I J Q := by
  have h := (And.intro g1 (And.intro g2 kk))
  exact Go.n tb_X2_init 4 h
theorem b_X2_init_40 {d : Nat} {S : zS} {I : zI} {J : zJ} {Q : zQ} {h0 : Nat} (g1 : ¬ (21 : Int32) < 0 ∧ (Int32.toNatClampNeg (21 : Int32)) * 4 ≤ 536870912) (g2 : z_kd (z_new S 100 (Int32.toNatClampNeg (21 : Int32)) (Int32.toNatClampNeg (21 : Int32))) h0 = 3) (kk : Go d i_X2_init 48 [.ref h0] [] (z_setR (z_new S 100 (Int32.toNatClampNeg (21 : Int32)) (Int32.toNatClampNeg (21 : Int32))) h0 8 (z_sz S + 1)) (z_ur I (z_sz S + 1) (fun _ => 0)) J Q) : Go d i_X2_init 40 [.ref h0] [] S I J Q := by
  have h := (And.intro g1 (And.intro g2 kk))
  exact Go.n tb_X2_init 4 h
theorem b_X2_init_48 {d : Nat} {S : zS} {I : zI} {J : zJ} {Q : zQ} {h0 : Nat} (g1 : z_kd S h0 = 3) (kk : Go d i_X2_init 53 [.ref h0] [] S (z_u2 I h0 4 (1 : Int32)) J Q) : Go d i_X2_init 48 [.ref h0] [] S I J Q := by
  have h := (And.intro g1 kk)
  exact Go.n tb_X2_init 3 h
theorem b_X2_init_53 {d : Nat} {S : zS} {I : zI} {J : zJ} {Q : zQ} {h0 : Nat} (kk : Q none S I J) : Go d i_X2_init 53 [.ref h0] [] S I J Q := by
  have h := (And.intro trivial kk)
  exact Go.n tb_X2_init 1 h
theorem w_X2_startAnew {d : Nat} {S : zS} {I : zI} {J : zJ} {Q : zQ} {h0 : Nat} (h : Go d i_X2_startAnew 0 [.ref h0] [] S I J Q) : z_wp (d + 1) i_X2_startAnew [.ref h0] S I J Q := Go.wp (Nat.le_of_ble_eq_true rfl) h
theorem e_X2_startAnew {d : Nat} {S S2 : zS} {I I2 : zI} {J J2 : zJ} {r : Option Value} {h0 : Nat} (h : Go d i_X2_startAnew 0 [.ref h0] [] S I J (z_eq r S2 I2 J2)) : z_ev (d + 1) i_X2_startAnew [.ref h0] S I J r S2 I2 J2 := Go.ev (Nat.le_of_ble_eq_true rfl) h
theorem b_X2_startAnew_0 {d : Nat} {S : zS} {I : zI} {J : zJ} {Q : zQ} {h0 : Nat} (g1 : z_kd S h0 = 3) (g2 : z_kd S h0 = 3) (g3 : z_kd S h0 = 3) (g4 : z_kd S h0 = 3) (kk : Q none S (z_u2 (z_u2 (z_u2 (z_u2 I h0 3 (0 : Int32)) h0 4 (1 : Int32)) h0 6 (0 : Int32)) h0 7 (0 : Int32)) J) : Go d i_X2_startAnew 0 [.ref h0] [] S I J Q := by
  have h := (And.intro g1 (And.intro g2 (And.intro g3 (And.intro g4 (And.intro trivial kk)))))
  exact Go.n tb_X2_startAnew 13 h
theorem w_X2_addFactor {d : Nat} {S : zS} {I : zI} {J : zJ} {Q : zQ} {h0 : Nat} {x1 : Int32} {x2 : Int32} (h : Go d i_X2_addFactor 0 [.ref h0, .int x1, .int x2, .retAddr 0] [] S I J Q) : z_wp (d + 1) i_X2_addFactor [.ref h0, .int x1, .int x2] S I J Q := Go.wp (Nat.le_of_ble_eq_true rfl) h
theorem e_X2_addFactor {d : Nat} {S S2 : zS} {I I2 : zI} {J J2 : zJ} {r : Option Value} {h0 : Nat} {x1 : Int32} {x2 : Int32} (h : Go d i_X2_addFactor 0 [.ref h0, .int x1, .int x2, .retAddr 0] [] S I J (z_eq r S2 I2 J2)) : z_ev (d + 1) i_X2_addFactor [.ref h0, .int x1, .int x2] S I J r S2 I2 J2 := Go.ev (Nat.le_of_ble_eq_true rfl) h
theorem b_X2_addFactor_0 {d : Nat} {S : zS} {I : zI} {J : zJ} {Q : zQ} {h0 : Nat} {x1 : Int32} {x2 : Int32} {v3 : Value} (kk : z_wp d i_X2_sizeOf [.int x1, .int x2] S I J (fun vv SS II JJ => Go d i_X2_addFactor 5 [.ref h0, .int x1, .int x2, v3] (vv.toList ++ []) SS II JJ Q)) : Go d i_X2_addFactor 0 [.ref h0, .int x1, .int x2, v3] [] S I J Q := by
  have h := (And.intro trivial kk)
  exact Go.n tb_X2_addFactor 3 h
theorem b_X2_addFactor_5 {d : Nat} {S : zS} {I : zI} {J : zJ} {Q : zQ} {h0 : Nat} {x1 : Int32} {x2 : Int32} {v3 : Value} {y0 : Int32} (g1 : z_kd S h0 = 3) (kt : (20 : Int32) < ((I h0 4) * y0) → Go d i_X2_addFactor 29 [.ref h0, .int x1, .int x2, .int y0] [] S I J Q) (kf : ¬ (20 : Int32) < ((I h0 4) * y0) → Go d i_X2_addFactor 17 [.ref h0, .int x1, .int x2, .int y0] [] S I J Q) : Go d i_X2_addFactor 5 [.ref h0, .int x1, .int x2, v3] [.int y0] S I J Q := by
  have h := (And.intro g1 (Go.ite kt kf))
  exact Go.n tb_X2_addFactor 7 h
theorem b_X2_addFactor_17 {d : Nat} {S : zS} {I : zI} {J : zJ} {Q : zQ} {h0 : Nat} {x1 : Int32} {x2 : Int32} {x3 : Int32} (g1 : z_kd S h0 = 3) (g2 : z_kd S h0 = 3) (g3 : z_isA (z_kd S (z_rv S h0 2)) = true) (kt : (I h0 3) < (nI (z_ln S (z_rv S h0 2))) → Go d i_X2_addFactor 31 [.ref h0, .int x1, .int x2, .int x3] [] S I J Q) (kf : ¬ (I h0 3) < (nI (z_ln S (z_rv S h0 2))) → Go d i_X2_addFactor 29 [.ref h0, .int x1, .int x2, .int x3] [] S I J Q) : Go d i_X2_addFactor 17 [.ref h0, .int x1, .int x2, .int x3] [] S I J Q := by
  have h := (And.intro g1 (And.intro g2 (And.intro g3 (Go.ite kt kf))))
  exact Go.n tb_X2_addFactor 6 h
theorem b_X2_addFactor_29 {d : Nat} {S : zS} {I : zI} {J : zJ} {Q : zQ} {h0 : Nat} {x1 : Int32} {x2 : Int32} {x3 : Int32} (g1 : z_fit 3 (0 : Int32)) (kk : Q (some (.int (0 : Int32))) S I J) : Go d i_X2_addFactor 29 [.ref h0, .int x1, .int x2, .int x3] [] S I J Q := by
  have h := (And.intro g1 kk)
  exact Go.n tb_X2_addFactor 2 h
theorem b_X2_addFactor_31 {d : Nat} {S : zS} {I : zI} {J : zJ} {Q : zQ} {h0 : Nat} {x1 : Int32} {x2 : Int32} {x3 : Int32} {I1 : zI} {I2 : zI} (g1 : z_kd S h0 = 3) (g2 : z_kd S h0 = 3) (g3 : z_kd S (z_rv S h0 0) = 100 ∧ vp_in (I h0 3) (z_ln S (z_rv S h0 0))) (g4 : z_kd S h0 = 3) (g5 : z_kd S h0 = 3) (g6 : z_kd S (z_rv S h0 1) = 100 ∧ vp_in ((z_u2 I (z_rv S h0 0) (Int32.toNatClampNeg (I h0 3)) x1) h0 3) (z_ln S (z_rv S h0 1))) (eI1 : I1 = z_u2 (z_u2 I (z_rv S h0 0) (Int32.toNatClampNeg (I h0 3)) x1) (z_rv S h0 1) (Int32.toNatClampNeg ((z_u2 I (z_rv S h0 0) (Int32.toNatClampNeg (I h0 3)) x1) h0 3)) x2) (g8 : z_kd S h0 = 3) (g9 : z_kd S h0 = 3) (g10 : z_kd S (z_rv S h0 2) = 100 ∧ vp_in (I1 h0 3) (z_ln S (z_rv S h0 2))) (g11 : z_kd S h0 = 3) (g12 : z_kd S h0 = 3) (eI2 : I2 = z_u2 (z_u2 I1 (z_rv S h0 2) (Int32.toNatClampNeg (I1 h0 3)) x3) h0 3 (((z_u2 I1 (z_rv S h0 2) (Int32.toNatClampNeg (I1 h0 3)) x3) h0 3) + (1 : Int32))) (g14 : z_kd S h0 = 3) (g15 : z_kd S h0 = 3) (g16 : z_fit 3 (1 : Int32)) (kk : Q (some (.int (1 : Int32))) S (z_u2 I2 h0 4 ((I2 h0 4) * x3)) J) : Go d i_X2_addFactor 31 [.ref h0, .int x1, .int x2, .int x3] [] S I J Q := by
  subst eI2
  subst eI1
  have h := (And.intro g1 (And.intro g2 (And.intro g3 (And.intro g4 (And.intro g5 (And.intro g6 (And.intro g8 (And.intro g9 (And.intro g10 (And.intro g11 (And.intro g12 (And.intro g14 (And.intro g15 (And.intro g16 kk))))))))))))))
  exact Go.n tb_X2_addFactor 32 h
theorem w_X2_sizeOf {d : Nat} {S : zS} {I : zI} {J : zJ} {Q : zQ} {x0 : Int32} {x1 : Int32} (h : Go d i_X2_sizeOf 0 [.int x0, .int x1] [] S I J Q) : z_wp (d + 1) i_X2_sizeOf [.int x0, .int x1] S I J Q := Go.wp (Nat.le_of_ble_eq_true rfl) h
theorem e_X2_sizeOf {d : Nat} {S S2 : zS} {I I2 : zI} {J J2 : zJ} {r : Option Value} {x0 : Int32} {x1 : Int32} (h : Go d i_X2_sizeOf 0 [.int x0, .int x1] [] S I J (z_eq r S2 I2 J2)) : z_ev (d + 1) i_X2_sizeOf [.int x0, .int x1] S I J r S2 I2 J2 := Go.ev (Nat.le_of_ble_eq_true rfl) h
theorem b_X2_sizeOf_0 {d : Nat} {S : zS} {I : zI} {J : zJ} {Q : zQ} {x0 : Int32} {x1 : Int32} (kk : Go d i_X2_sizeOf (z_sw [(99, 36), (100, 38), (113, 42)] 46 x0) [.int x0, .int x1] [] S I J Q) : Go d i_X2_sizeOf 0 [.int x0, .int x1] [] S I J Q := by
  have h := kk
  exact Go.n tb_X2_sizeOf 2 h
theorem b_X2_sizeOf_36 {d : Nat} {S : zS} {I : zI} {J : zJ} {Q : zQ} {x0 : Int32} {x1 : Int32} (kk : Q (some (.int x1)) S I J) : Go d i_X2_sizeOf 36 [.int x0, .int x1] [] S I J Q := by
  have h := (And.intro trivial kk)
  exact Go.n tb_X2_sizeOf 2 h
theorem b_X2_sizeOf_38 {d : Nat} {S : zS} {I : zI} {J : zJ} {Q : zQ} {x0 : Int32} {x1 : Int32} (kk : Q (some (.int ((2 : Int32) * x1))) S I J) : Go d i_X2_sizeOf 38 [.int x0, .int x1] [] S I J Q := by
  have h := (And.intro trivial kk)
  exact Go.n tb_X2_sizeOf 4 h
theorem b_X2_sizeOf_42 {d : Nat} {S : zS} {I : zI} {J : zJ} {Q : zQ} {x0 : Int32} {x1 : Int32} (kk : Q (some (.int ((4 : Int32) * x1))) S I J) : Go d i_X2_sizeOf 42 [.int x0, .int x1] [] S I J Q := by
  have h := (And.intro trivial kk)
  exact Go.n tb_X2_sizeOf 4 h
theorem b_X2_sizeOf_46 {d : Nat} {S : zS} {I : zI} {J : zJ} {Q : zQ} {x0 : Int32} {x1 : Int32} (g1 : z_isA (z_kd S (z_rv S 0 20)) = true) (kk : Q (some (.int (nI (z_ln S (z_rv S 0 20))))) S I J) : Go d i_X2_sizeOf 46 [.int x0, .int x1] [] S I J Q := by
  have h := (And.intro g1 (And.intro trivial kk))
  exact Go.n tb_X2_sizeOf 3 h
theorem w_X2_addRow {d : Nat} {S : zS} {I : zI} {J : zJ} {Q : zQ} {h0 : Nat} {x1 : Int32} {x2 : Int32} (h : Go d i_X2_addRow 0 [.ref h0, .int x1, .int x2] [] S I J Q) : z_wp (d + 1) i_X2_addRow [.ref h0, .int x1, .int x2] S I J Q := Go.wp (Nat.le_of_ble_eq_true rfl) h
theorem e_X2_addRow {d : Nat} {S S2 : zS} {I I2 : zI} {J J2 : zJ} {r : Option Value} {h0 : Nat} {x1 : Int32} {x2 : Int32} (h : Go d i_X2_addRow 0 [.ref h0, .int x1, .int x2] [] S I J (z_eq r S2 I2 J2)) : z_ev (d + 1) i_X2_addRow [.ref h0, .int x1, .int x2] S I J r S2 I2 J2 := Go.ev (Nat.le_of_ble_eq_true rfl) h
theorem b_X2_addRow_0 {d : Nat} {S : zS} {I : zI} {J : zJ} {Q : zQ} {h0 : Nat} {x1 : Int32} {x2 : Int32} (g1 : z_kd S h0 = 3) (kt : ¬ (I h0 6) = (0 : Int32) → Go d i_X2_addRow 12 [.ref h0, .int x1, .int x2] [] S I J Q) (kf : (I h0 6) = (0 : Int32) → Go d i_X2_addRow 7 [.ref h0, .int x1, .int x2] [] S I J Q) : Go d i_X2_addRow 0 [.ref h0, .int x1, .int x2] [] S I J Q := by
  have h := (And.intro g1 (Go.eti kt kf))
  exact Go.n tb_X2_addRow 3 h
theorem b_X2_addRow_7 {d : Nat} {S : zS} {I : zI} {J : zJ} {Q : zQ} {h0 : Nat} {x1 : Int32} {x2 : Int32} (g1 : z_kd S h0 = 3) (g2 : z_kd S h0 = 3) (kt : ¬ x2 = ((z_u2 I h0 7 x2) h0 7) → Go d i_X2_addRow 32 [.ref h0, .int x1, .int x2] [] S (z_u2 I h0 7 x2) J Q) (kf : x2 = ((z_u2 I h0 7 x2) h0 7) → Go d i_X2_addRow 20 [.ref h0, .int x1, .int x2] [] S (z_u2 I h0 7 x2) J Q) : Go d i_X2_addRow 7 [.ref h0, .int x1, .int x2] [] S I J Q := by
  have h := (And.intro g1 (And.intro g2 (Go.eti kt kf)))
  exact Go.n tb_X2_addRow 7 h
theorem b_X2_addRow_12 {d : Nat} {S : zS} {I : zI} {J : zJ} {Q : zQ} {h0 : Nat} {x1 : Int32} {x2 : Int32} (g1 : z_kd S h0 = 3) (kt : ¬ x2 = (I h0 7) → Go d i_X2_addRow 32 [.ref h0, .int x1, .int x2] [] S I J Q) (kf : x2 = (I h0 7) → Go d i_X2_addRow 20 [.ref h0, .int x1, .int x2] [] S I J Q) : Go d i_X2_addRow 12 [.ref h0, .int x1, .int x2] [] S I J Q := by
  have h := (And.intro g1 (Go.eti kt kf))
  exact Go.n tb_X2_addRow 4 h
theorem b_X2_addRow_20 {d : Nat} {S : zS} {I : zI} {J : zJ} {Q : zQ} {h0 : Nat} {x1 : Int32} {x2 : Int32} (g1 : z_kd S h0 = 3) (g2 : z_kd S h0 = 3) (g3 : z_isA (z_kd S (z_rv S h0 5)) = true) (kt : (I h0 6) < (nI (z_ln S (z_rv S h0 5))) → Go d i_X2_addRow 34 [.ref h0, .int x1, .int x2] [] S I J Q) (kf : ¬ (I h0 6) < (nI (z_ln S (z_rv S h0 5))) → Go d i_X2_addRow 32 [.ref h0, .int x1, .int x2] [] S I J Q) : Go d i_X2_addRow 20 [.ref h0, .int x1, .int x2] [] S I J Q := by
  have h := (And.intro g1 (And.intro g2 (And.intro g3 (Go.ite kt kf))))
  exact Go.n tb_X2_addRow 6 h
theorem b_X2_addRow_32 {d : Nat} {S : zS} {I : zI} {J : zJ} {Q : zQ} {h0 : Nat} {x1 : Int32} {x2 : Int32} (g1 : z_fit 3 (0 : Int32)) (kk : Q (some (.int (0 : Int32))) S I J) : Go d i_X2_addRow 32 [.ref h0, .int x1, .int x2] [] S I J Q := by
  have h := (And.intro g1 kk)
  exact Go.n tb_X2_addRow 2 h
theorem b_X2_addRow_34 {d : Nat} {S : zS} {I : zI} {J : zJ} {Q : zQ} {h0 : Nat} {x1 : Int32} {x2 : Int32} {I1 : zI} (g1 : z_kd S h0 = 3) (g2 : z_kd S h0 = 3) (g3 : z_kd S (z_rv S h0 5) = 100 ∧ vp_in (I h0 6) (z_ln S (z_rv S h0 5))) (g4 : z_kd S h0 = 3) (g5 : z_kd S h0 = 3) (eI1 : I1 = z_u2 (z_u2 I (z_rv S h0 5) (Int32.toNatClampNeg (I h0 6)) x1) h0 6 (((z_u2 I (z_rv S h0 5) (Int32.toNatClampNeg (I h0 6)) x1) h0 6) + (1 : Int32))) (g7 : z_fit 3 (1 : Int32)) (kk : Q (some (.int (1 : Int32))) S I1 J) : Go d i_X2_addRow 34 [.ref h0, .int x1, .int x2] [] S I J Q := by
  subst eI1
  have h := (And.intro g1 (And.intro g2 (And.intro g3 (And.intro g4 (And.intro g5 (And.intro g7 kk))))))
  exact Go.n tb_X2_addRow 14 h
theorem w_X2_findElements {d : Nat} {S : zS} {I : zI} {J : zJ} {Q : zQ} {h0 : Nat} (h : Go d i_X2_findElements 0 [.ref h0, .retAddr 0, .retAddr 0, .retAddr 0] [] S I J Q) : z_wp (d + 1) i_X2_findElements [.ref h0] S I J Q := Go.wp (Nat.le_of_ble_eq_true rfl) h
theorem e_X2_findElements {d : Nat} {S S2 : zS} {I I2 : zI} {J J2 : zJ} {r : Option Value} {h0 : Nat} (h : Go d i_X2_findElements 0 [.ref h0, .retAddr 0, .retAddr 0, .retAddr 0] [] S I J (z_eq r S2 I2 J2)) : z_ev (d + 1) i_X2_findElements [.ref h0] S I J r S2 I2 J2 := Go.ev (Nat.le_of_ble_eq_true rfl) h
theorem b_X2_findElements_0 {d : Nat} {S : zS} {I : zI} {J : zJ} {Q : zQ} {h0 : Nat} {v1 : Value} {v2 : Value} {v3 : Value} (g1 : z_kd S h0 = 3) (g2 : z_kd S (z_rv S h0 8) = 100 ∧ vp_in (0 : Int32) (z_ln S (z_rv S h0 8))) (kk : Go d i_X2_findElements 9 [.ref h0, .int (0 : Int32), v2, v3] [] S (z_u2 I (z_rv S h0 8) (Int32.toNatClampNeg (0 : Int32)) (0 : Int32)) J Q) : Go d i_X2_findElements 0 [.ref h0, v1, v2, v3] [] S I J Q := by
  have h := (And.intro g1 (And.intro g2 kk))
  exact Go.n tb_X2_findElements 7 h
theorem b_X2_findElements_9 {d : Nat} {S : zS} {I : zI} {J : zJ} {Q : zQ} {h0 : Nat} {x1 : Int32} {v2 : Value} {v3 : Value} (g1 : z_kd S h0 = 3) (kt : (I h0 7) ≤ x1 → Go d i_X2_findElements 39 [.ref h0, .int x1, v2, v3] [] S I J Q) (kf : ¬ (I h0 7) ≤ x1 → Go d i_X2_findElements 17 [.ref h0, .int x1, v2, v3] [] S I J Q) : Go d i_X2_findElements 9 [.ref h0, .int x1, v2, v3] [] S I J Q := by
  have h := (And.intro g1 (Go.ite kt kf))
  exact Go.n tb_X2_findElements 4 h
theorem b_X2_findElements_17 {d : Nat} {S : zS} {I : zI} {J : zJ} {Q : zQ} {h0 : Nat} {x1 : Int32} {v2 : Value} {v3 : Value} {I1 : zI} (g1 : z_kd S h0 = 3) (g2 : z_kd S h0 = 3) (g3 : z_isI (z_kd S (z_rv S h0 8)) = true ∧ vp_in (0 : Int32) (z_ln S (z_rv S h0 8))) (g4 : z_kd S (z_rv S h0 8) = 100 ∧ vp_in (0 : Int32) (z_ln S (z_rv S h0 8))) (eI1 : I1 = z_u2 I (z_rv S h0 8) (Int32.toNatClampNeg (0 : Int32)) (((I (z_rv S h0 8) (Int32.toNatClampNeg (0 : Int32))) <<< ((3 : Int32) &&& 31)) ||| x1)) (kk : Go d i_X2_findElements 9 [.ref h0, .int (x1 + (1 : Int32)), v2, v3] [] S I1 J Q) : Go d i_X2_findElements 17 [.ref h0, .int x1, v2, v3] [] S I J Q := by
  subst eI1
  have h := (And.intro g1 (And.intro g2 (And.intro g3 (And.intro g4 kk))))
  exact Go.n tb_X2_findElements 14 h
theorem b_X2_findElements_39 {d : Nat} {S : zS} {I : zI} {J : zJ} {Q : zQ} {h0 : Nat} {x1 : Int32} {v2 : Value} {v3 : Value} (g1 : z_kd S h0 = 3) (kk : Go d i_X2_findElements 46 [.ref h0, .int (0 : Int32), v2, v3] [] S (z_u2 I h0 4 (1 : Int32)) J Q) : Go d i_X2_findElements 39 [.ref h0, .int x1, v2, v3] [] S I J Q := by
  have h := (And.intro g1 kk)
  exact Go.n tb_X2_findElements 5 h
theorem b_X2_findElements_46 {d : Nat} {S : zS} {I : zI} {J : zJ} {Q : zQ} {h0 : Nat} {x1 : Int32} {v2 : Value} {v3 : Value} (g1 : z_kd S h0 = 3) (kt : (I h0 4) ≤ x1 → Go d i_X2_findElements 149 [.ref h0, .int x1, v2, v3] [] S I J Q) (kf : ¬ (I h0 4) ≤ x1 → Go d i_X2_findElements 54 [.ref h0, .int x1, v2, v3] [] S I J Q) : Go d i_X2_findElements 46 [.ref h0, .int x1, v2, v3] [] S I J Q := by
  have h := (And.intro g1 (Go.ite kt kf))
  exact Go.n tb_X2_findElements 4 h
theorem b_X2_findElements_54 {d : Nat} {S : zS} {I : zI} {J : zJ} {Q : zQ} {h0 : Nat} {x1 : Int32} {v2 : Value} {v3 : Value} (kt : (20 : Int32) ≤ x1 → Go d i_X2_findElements 149 [.ref h0, .int x1, v2, v3] [] S I J Q) (kf : ¬ (20 : Int32) ≤ x1 → Go d i_X2_findElements 60 [.ref h0, .int x1, v2, v3] [] S I J Q) : Go d i_X2_findElements 54 [.ref h0, .int x1, v2, v3] [] S I J Q := by
  have h := (Go.ite kt kf)
  exact Go.n tb_X2_findElements 3 h
theorem b_X2_findElements_60 {d : Nat} {S : zS} {I : zI} {J : zJ} {Q : zQ} {h0 : Nat} {x1 : Int32} {v2 : Value} {v3 : Value} (kk : Go d i_X2_findElements 62 [.ref h0, .int x1, .int (0 : Int32), v3] [] S I J Q) : Go d i_X2_findElements 60 [.ref h0, .int x1, v2, v3] [] S I J Q := by
  have h := kk
  exact Go.n tb_X2_findElements 2 h
theorem b_X2_findElements_62 {d : Nat} {S : zS} {I : zI} {J : zJ} {Q : zQ} {h0 : Nat} {x1 : Int32} {x2 : Int32} {v3 : Value} (g1 : z_kd S h0 = 3) (kt : (I h0 6) ≤ x2 → Go d i_X2_findElements 143 [.ref h0, .int x1, .int x2, v3] [] S I J Q) (kf : ¬ (I h0 6) ≤ x2 → Go d i_X2_findElements 70 [.ref h0, .int x1, .int x2, v3] [] S I J Q) : Go d i_X2_findElements 62 [.ref h0, .int x1, .int x2, v3] [] S I J Q := by
  have h := (And.intro g1 (Go.ite kt kf))
  exact Go.n tb_X2_findElements 4 h
theorem b_X2_findElements_70 {d : Nat} {S : zS} {I : zI} {J : zJ} {Q : zQ} {h0 : Nat} {x1 : Int32} {x2 : Int32} {v3 : Value} (g1 : z_kd S h0 = 3) (g2 : z_isI (z_kd S (z_rv S h0 8)) = true ∧ vp_in x1 (z_ln S (z_rv S h0 8))) (g3 : z_kd S h0 = 3) (g4 : z_isI (z_kd S (z_rv S h0 5)) = true ∧ vp_in x2 (z_ln S (z_rv S h0 5))) (g5 : z_kd S h0 = 3) (kk : z_wp d i_X11_firstThen [.int (I (z_rv S h0 8) (Int32.toNatClampNeg x1)), .int (I (z_rv S h0 5) (Int32.toNatClampNeg x2)), .int (I h0 7)] S I J (fun vv SS II JJ => Go d i_X2_findElements 89 [.ref h0, .int x1, .int x2, v3] (vv.toList ++ []) SS II JJ Q)) : Go d i_X2_findElements 70 [.ref h0, .int x1, .int x2, v3] [] S I J Q := by
  have h := (And.intro g1 (And.intro g2 (And.intro g3 (And.intro g4 (And.intro g5 (And.intro trivial kk))))))
  exact Go.n tb_X2_findElements 11 h
theorem b_X2_findElements_89 {d : Nat} {S : zS} {I : zI} {J : zJ} {Q : zQ} {h0 : Nat} {x1 : Int32} {x2 : Int32} {v3 : Value} {y0 : Int32} (g1 : z_kd S h0 = 3) (g2 : z_kd S h0 = 3) (kk : z_wp d i_X11_indexOf [.ref (z_rv S h0 8), .int (I h0 4), .int y0] S I J (fun vv SS II JJ => Go d i_X2_findElements 102 [.ref h0, .int x1, .int x2, .int y0] (vv.toList ++ []) SS II JJ Q)) : Go d i_X2_findElements 89 [.ref h0, .int x1, .int x2, v3] [.int y0] S I J Q := by
  have h := (And.intro g1 (And.intro g2 (And.intro trivial kk)))
  exact Go.n tb_X2_findElements 7 h
theorem b_X2_findElements_102 {d : Nat} {S : zS} {I : zI} {J : zJ} {Q : zQ} {h0 : Nat} {x1 : Int32} {x2 : Int32} {x3 : Int32} {y0 : Int32} (kt : ¬ y0 = (-1 : Int32) → Go d i_X2_findElements 137 [.ref h0, .int x1, .int x2, .int x3] [] S I J Q) (kf : y0 = (-1 : Int32) → Go d i_X2_findElements 106 [.ref h0, .int x1, .int x2, .int x3] [] S I J Q) : Go d i_X2_findElements 102 [.ref h0, .int x1, .int x2, .int x3] [.int y0] S I J Q := by
  have h := (Go.eti kt kf)
  exact Go.n tb_X2_findElements 2 h
theorem b_X2_findElements_106 {d : Nat} {S : zS} {I : zI} {J : zJ} {Q : zQ} {h0 : Nat} {x1 : Int32} {x2 : Int32} {x3 : Int32} (g1 : z_kd S h0 = 3) (kt : (I h0 4) < (20 : Int32) → Go d i_X2_findElements 117 [.ref h0, .int x1, .int x2, .int x3] [] S I J Q) (kf : ¬ (I h0 4) < (20 : Int32) → Go d i_X2_findElements 115 [.ref h0, .int x1, .int x2, .int x3] [] S I J Q) : Go d i_X2_findElements 106 [.ref h0, .int x1, .int x2, .int x3] [] S I J Q := by
  have h := (And.intro g1 (Go.ite kt kf))
  exact Go.n tb_X2_findElements 4 h
theorem b_X2_findElements_115 {d : Nat} {S : zS} {I : zI} {J : zJ} {Q : zQ} {h0 : Nat} {x1 : Int32} {x2 : Int32} {x3 : Int32} (g1 : z_fit 3 (0 : Int32)) (kk : Q (some (.int (0 : Int32))) S I J) : Go d i_X2_findElements 115 [.ref h0, .int x1, .int x2, .int x3] [] S I J Q := by
  have h := (And.intro g1 kk)
  exact Go.n tb_X2_findElements 2 h
theorem b_X2_findElements_117 {d : Nat} {S : zS} {I : zI} {J : zJ} {Q : zQ} {h0 : Nat} {x1 : Int32} {x2 : Int32} {x3 : Int32} {I1 : zI} (g1 : z_kd S h0 = 3) (g2 : z_kd S h0 = 3) (g3 : z_kd S (z_rv S h0 8) = 100 ∧ vp_in (I h0 4) (z_ln S (z_rv S h0 8))) (g4 : z_kd S h0 = 3) (g5 : z_kd S h0 = 3) (eI1 : I1 = z_u2 (z_u2 I (z_rv S h0 8) (Int32.toNatClampNeg (I h0 4)) x3) h0 4 (((z_u2 I (z_rv S h0 8) (Int32.toNatClampNeg (I h0 4)) x3) h0 4) + (1 : Int32))) (kk : Go d i_X2_findElements 62 [.ref h0, .int x1, .int (x2 + (1 : Int32)), .int x3] [] S I1 J Q) : Go d i_X2_findElements 117 [.ref h0, .int x1, .int x2, .int x3] [] S I J Q := by
  subst eI1
  have h := (And.intro g1 (And.intro g2 (And.intro g3 (And.intro g4 (And.intro g5 kk)))))
  exact Go.n tb_X2_findElements 14 h
theorem b_X2_findElements_137 {d : Nat} {S : zS} {I : zI} {J : zJ} {Q : zQ} {h0 : Nat} {x1 : Int32} {x2 : Int32} {x3 : Int32} (kk : Go d i_X2_findElements 62 [.ref h0, .int x1, .int (x2 + (1 : Int32)), .int x3] [] S I J Q) : Go d i_X2_findElements 137 [.ref h0, .int x1, .int x2, .int x3] [] S I J Q := by
  have h := kk
  exact Go.n tb_X2_findElements 2 h
theorem b_X2_findElements_143 {d : Nat} {S : zS} {I : zI} {J : zJ} {Q : zQ} {h0 : Nat} {x1 : Int32} {x2 : Int32} {v3 : Value} (kk : Go d i_X2_findElements 46 [.ref h0, .int (x1 + (1 : Int32)), .int x2, v3] [] S I J Q) : Go d i_X2_findElements 143 [.ref h0, .int x1, .int x2, v3] [] S I J Q := by
  have h := kk
  exact Go.n tb_X2_findElements 2 h
theorem b_X2_findElements_149 {d : Nat} {S : zS} {I : zI} {J : zJ} {Q : zQ} {h0 : Nat} {x1 : Int32} {v2 : Value} {v3 : Value} (g1 : z_fit 3 (1 : Int32)) (kk : Q (some (.int (1 : Int32))) S I J) : Go d i_X2_findElements 149 [.ref h0, .int x1, v2, v3] [] S I J Q := by
  have h := (And.intro g1 kk)
  exact Go.n tb_X2_findElements 2 h
theorem w_X2_build {d : Nat} {S : zS} {I : zI} {J : zJ} {Q : zQ} {h0 : Nat} (h : Go d i_X2_build 0 [.ref h0, .retAddr 0, .retAddr 0, .retAddr 0, .retAddr 0] [] S I J Q) : z_wp (d + 1) i_X2_build [.ref h0] S I J Q := Go.wp (Nat.le_of_ble_eq_true rfl) h
theorem e_X2_build {d : Nat} {S S2 : zS} {I I2 : zI} {J J2 : zJ} {r : Option Value} {h0 : Nat} (h : Go d i_X2_build 0 [.ref h0, .retAddr 0, .retAddr 0, .retAddr 0, .retAddr 0] [] S I J (z_eq r S2 I2 J2)) : z_ev (d + 1) i_X2_build [.ref h0] S I J r S2 I2 J2 := Go.ev (Nat.le_of_ble_eq_true rfl) h
theorem b_X2_build_0 {d : Nat} {S : zS} {I : zI} {J : zJ} {Q : zQ} {h0 : Nat} {v1 : Value} {v2 : Value} {v3 : Value} {v4 : Value} {S1 : zS} {I2 : zI} (g1 : z_kd S h0 = 3) (g2 : z_kd S h0 = 3) (g3 : ¬ ((I h0 4) * (I h0 4)) < 0 ∧ (Int32.toNatClampNeg ((I h0 4) * (I h0 4))) * 4 ≤ 536870912) (g4 : ¬ (z_sz S + 1) = 0) (g5 : z_kd (z_new S 100 (Int32.toNatClampNeg ((I h0 4) * (I h0 4))) (Int32.toNatClampNeg ((I h0 4) * (I h0 4)))) h0 = 3) (g6 : ¬ ((z_ur I (z_sz S + 1) (fun _ => 0)) h0 4) < 0 ∧ (Int32.toNatClampNeg ((z_ur I (z_sz S + 1) (fun _ => 0)) h0 4)) * 4 ≤ 536870912) (eS1 : S1 = z_new (z_new S 100 (Int32.toNatClampNeg ((I h0 4) * (I h0 4))) (Int32.toNatClampNeg ((I h0 4) * (I h0 4)))) 100 (Int32.toNatClampNeg ((z_ur I (z_sz S + 1) (fun _ => 0)) h0 4)) (Int32.toNatClampNeg ((z_ur I (z_sz S + 1) (fun _ => 0)) h0 4))) (eI2 : I2 = z_ur (z_ur I (z_sz S + 1) (fun _ => 0)) (z_sz (z_new S 100 (Int32.toNatClampNeg ((I h0 4) * (I h0 4))) (Int32.toNatClampNeg ((I h0 4) * (I h0 4)))) + 1) (fun _ => 0)) (g9 : ¬ (z_sz (z_new S 100 (Int32.toNatClampNeg ((I h0 4) * (I h0 4))) (Int32.toNatClampNeg ((I h0 4) * (I h0 4)))) + 1) = 0) (kk : Go d i_X2_build 21 [.ref h0, .ref (z_sz S + 1), .ref (z_sz (z_new S 100 (Int32.toNatClampNeg ((I h0 4) * (I h0 4))) (Int32.toNatClampNeg ((I h0 4) * (I h0 4)))) + 1), .int (0 : Int32), v4] [] S1 I2 J Q) : Go d i_X2_build 0 [.ref h0, v1, v2, v3, v4] [] S I J Q := by
  subst eI2
  subst eS1
  have h := (And.intro g1 (And.intro g2 (And.intro g3 (And.intro g4 (And.intro g5 (And.intro g6 (And.intro g9 kk)))))))
  exact Go.n tb_X2_build 13 h
theorem b_X2_build_21 {d : Nat} {S : zS} {I : zI} {J : zJ} {Q : zQ} {h0 : Nat} {h1 : Nat} {h2 : Nat} {x3 : Int32} {v4 : Value} (g1 : z_kd S h0 = 3) (kt : (I h0 4) ≤ x3 → Go d i_X2_build 92 [.ref h0, .ref h1, .ref h2, .int x3, v4] [] S I J Q) (kf : ¬ (I h0 4) ≤ x3 → Go d i_X2_build 29 [.ref h0, .ref h1, .ref h2, .int x3, v4] [] S I J Q) : Go d i_X2_build 21 [.ref h0, .ref h1, .ref h2, .int x3, v4] [] S I J Q := by
  have h := (And.intro g1 (Go.ite kt kf))
  exact Go.n tb_X2_build 4 h
theorem b_X2_build_29 {d : Nat} {S : zS} {I : zI} {J : zJ} {Q : zQ} {h0 : Nat} {h1 : Nat} {h2 : Nat} {x3 : Int32} {v4 : Value} (g1 : z_kd S h2 = 100 ∧ vp_in x3 (z_ln S h2)) (kk : Go d i_X2_build 36 [.ref h0, .ref h1, .ref h2, .int x3, .int (0 : Int32)] [] S (z_u2 I h2 (Int32.toNatClampNeg x3) x3) J Q) : Go d i_X2_build 29 [.ref h0, .ref h1, .ref h2, .int x3, v4] [] S I J Q := by
  have h := (And.intro g1 kk)
  exact Go.n tb_X2_build 6 h
theorem b_X2_build_36 {d : Nat} {S : zS} {I : zI} {J : zJ} {Q : zQ} {h0 : Nat} {h1 : Nat} {h2 : Nat} {x3 : Int32} {x4 : Int32} (g1 : z_kd S h0 = 3) (kt : (I h0 4) ≤ x4 → Go d i_X2_build 86 [.ref h0, .ref h1, .ref h2, .int x3, .int x4] [] S I J Q) (kf : ¬ (I h0 4) ≤ x4 → Go d i_X2_build 45 [.ref h0, .ref h1, .ref h2, .int x3, .int x4] [] S I J Q) : Go d i_X2_build 36 [.ref h0, .ref h1, .ref h2, .int x3, .int x4] [] S I J Q := by
  have h := (And.intro g1 (Go.ite kt kf))
  exact Go.n tb_X2_build 4 h
theorem b_X2_build_45 {d : Nat} {S : zS} {I : zI} {J : zJ} {Q : zQ} {h0 : Nat} {h1 : Nat} {h2 : Nat} {x3 : Int32} {x4 : Int32} (g1 : z_kd S h0 = 3) (g2 : z_kd S h0 = 3) (kt : (I h0 6) ≤ (0 : Int32) → Go d i_X2_build 72 [.ref h0, .ref h1, .ref h2, .int x3, .int x4] [.int ((x3 * (I h0 4)) + x4), .ref h1] S I J Q) (kf : ¬ (I h0 6) ≤ (0 : Int32) → Go d i_X2_build 62 [.ref h0, .ref h1, .ref h2, .int x3, .int x4] [.int ((x3 * (I h0 4)) + x4), .ref h1] S I J Q) : Go d i_X2_build 45 [.ref h0, .ref h1, .ref h2, .int x3, .int x4] [] S I J Q := by
  have h := (And.intro g1 (And.intro g2 (Go.ite kt kf)))
  exact Go.n tb_X2_build 10 h
theorem b_X2_build_62 {d : Nat} {S : zS} {I : zI} {J : zJ} {Q : zQ} {h0 : Nat} {h1 : Nat} {h2 : Nat} {x3 : Int32} {x4 : Int32} {q0 : Nat} {y1 : Int32} (g1 : z_kd S h0 = 3) (kk : z_wp d i_X2_rowProduct [.ref h0, .int x3, .int x4] S I J (fun vv SS II JJ => Go d i_X2_build 69 [.ref h0, .ref h1, .ref h2, .int x3, .int x4] (vv.toList ++ [.int y1, .ref q0]) SS II JJ Q)) : Go d i_X2_build 62 [.ref h0, .ref h1, .ref h2, .int x3, .int x4] [.int y1, .ref q0] S I J Q := by
  have h := (And.intro g1 kk)
  exact Go.n tb_X2_build 4 h
theorem b_X2_build_69 {d : Nat} {S : zS} {I : zI} {J : zJ} {Q : zQ} {h0 : Nat} {h1 : Nat} {h2 : Nat} {x3 : Int32} {x4 : Int32} {q0 : Nat} {y1 : Int32} {y2 : Int32} (g1 : z_kd S q0 = 100 ∧ vp_in y1 (z_ln S q0)) (kk : Go d i_X2_build 36 [.ref h0, .ref h1, .ref h2, .int x3, .int (x4 + (1 : Int32))] [] S (z_u2 I q0 (Int32.toNatClampNeg y1) y2) J Q) : Go d i_X2_build 69 [.ref h0, .ref h1, .ref h2, .int x3, .int x4] [.int y2, .int y1, .ref q0] S I J Q := by
  have h := (And.intro g1 kk)
  exact Go.n tb_X2_build 4 h
theorem b_X2_build_72 {d : Nat} {S : zS} {I : zI} {J : zJ} {Q : zQ} {h0 : Nat} {h1 : Nat} {h2 : Nat} {x3 : Int32} {x4 : Int32} {q0 : Nat} {y1 : Int32} (g1 : z_kd S h0 = 3) (kk : z_wp d i_X2_factorsProduct [.ref h0, .int x3, .int x4] S I J (fun vv SS II JJ => Go d i_X2_build 79 [.ref h0, .ref h1, .ref h2, .int x3, .int x4] (vv.toList ++ [.int y1, .ref q0]) SS II JJ Q)) : Go d i_X2_build 72 [.ref h0, .ref h1, .ref h2, .int x3, .int x4] [.int y1, .ref q0] S I J Q := by
  have h := (And.intro g1 kk)
  exact Go.n tb_X2_build 4 h
theorem b_X2_build_79 {d : Nat} {S : zS} {I : zI} {J : zJ} {Q : zQ} {h0 : Nat} {h1 : Nat} {h2 : Nat} {x3 : Int32} {x4 : Int32} {q0 : Nat} {y1 : Int32} {y2 : Int32} (g1 : z_kd S q0 = 100 ∧ vp_in y1 (z_ln S q0)) (kk : Go d i_X2_build 36 [.ref h0, .ref h1, .ref h2, .int x3, .int (x4 + (1 : Int32))] [] S (z_u2 I q0 (Int32.toNatClampNeg y1) y2) J Q) : Go d i_X2_build 79 [.ref h0, .ref h1, .ref h2, .int x3, .int x4] [.int y2, .int y1, .ref q0] S I J Q := by
  have h := (And.intro g1 kk)
  exact Go.n tb_X2_build 3 h
theorem b_X2_build_86 {d : Nat} {S : zS} {I : zI} {J : zJ} {Q : zQ} {h0 : Nat} {h1 : Nat} {h2 : Nat} {x3 : Int32} {x4 : Int32} (kk : Go d i_X2_build 21 [.ref h0, .ref h1, .ref h2, .int (x3 + (1 : Int32)), .int x4] [] S I J Q) : Go d i_X2_build 86 [.ref h0, .ref h1, .ref h2, .int x3, .int x4] [] S I J Q := by
  have h := kk
  exact Go.n tb_X2_build 2 h
theorem b_X2_build_92 {d : Nat} {S : zS} {I : zI} {J : zJ} {Q : zQ} {h0 : Nat} {h1 : Nat} {h2 : Nat} {x3 : Int32} {v4 : Value} (g1 : z_kd (z_new S 2 0 12) h0 = 3) (g2 : z_kd (z_new S 2 0 12) h0 = 3) (kk : z_wp d i_X2_names [.ref h0] (z_new S 2 0 12) (z_ur I (z_sz S + 1) (fun _ => 0)) (z_ur J (z_sz S + 1) (fun _ => 0)) (fun vv SS II JJ => Go d i_X2_build 105 [.ref h0, .ref h1, .ref h2, .int x3, v4] (vv.toList ++ [.ref h1, .int ((z_ur I (z_sz S + 1) (fun _ => 0)) h0 4), .ref (z_sz S + 1), .ref (z_sz S + 1)]) SS II JJ Q)) : Go d i_X2_build 92 [.ref h0, .ref h1, .ref h2, .int x3, v4] [] S I J Q := by
  have h := (And.intro g1 (And.intro g2 kk))
  exact Go.n tb_X2_build 7 h
theorem b_X2_build_105 {d : Nat} {S : zS} {I : zI} {J : zJ} {Q : zQ} {h0 : Nat} {h1 : Nat} {h2 : Nat} {x3 : Int32} {v4 : Value} {q0 : Nat} {q1 : Nat} {y2 : Int32} {q3 : Nat} {q4 : Nat} (g1 : ¬ q1 = 0) (kk : z_wp d i_X1_init [.ref q1, .int y2, .ref q3, .ref q4, .ref h2, .int (0 : Int32)] S I J (fun vv SS II JJ => Go d i_X2_build 110 [.ref h0, .ref h1, .ref h2, .int x3, v4] (vv.toList ++ [.ref q0]) SS II JJ Q)) : Go d i_X2_build 105 [.ref h0, .ref h1, .ref h2, .int x3, v4] [.ref q4, .ref q3, .int y2, .ref q1, .ref q0] S I J Q := by
  have h := (And.intro g1 kk)
  exact Go.n tb_X2_build 3 h
theorem b_X2_build_110 {d : Nat} {S : zS} {I : zI} {J : zJ} {Q : zQ} {h0 : Nat} {h1 : Nat} {h2 : Nat} {x3 : Int32} {v4 : Value} {q0 : Nat} (kk : Q (some (.ref q0)) S I J) : Go d i_X2_build 110 [.ref h0, .ref h1, .ref h2, .int x3, v4] [.ref q0] S I J Q := by
  have h := (And.intro trivial kk)
  exact Go.n tb_X2_build 1 h
theorem w_X2_names {d : Nat} {S : zS} {I : zI} {J : zJ} {Q : zQ} {h0 : Nat} (h : Go d i_X2_names 0 [.ref h0, .retAddr 0] [] S I J Q) : z_wp (d + 1) i_X2_names [.ref h0] S I J Q := Go.wp (Nat.le_of_ble_eq_true rfl) h
theorem e_X2_names {d : Nat} {S S2 : zS} {I I2 : zI} {J J2 : zJ} {r : Option Value} {h0 : Nat} (h : Go d i_X2_names 0 [.ref h0, .retAddr 0] [] S I J (z_eq r S2 I2 J2)) : z_ev (d + 1) i_X2_names [.ref h0] S I J r S2 I2 J2 := Go.ev (Nat.le_of_ble_eq_true rfl) h
theorem b_X2_names_0 {d : Nat} {S : zS} {I : zI} {J : zJ} {Q : zQ} {h0 : Nat} {v1 : Value} (g1 : z_kd S h0 = 3) (kt : ¬ (I h0 6) = (0 : Int32) → Go d i_X2_names 39 [.ref h0, v1] [] S I J Q) (kf : (I h0 6) = (0 : Int32) → Go d i_X2_names 7 [.ref h0, v1] [] S I J Q) : Go d i_X2_names 0 [.ref h0, v1] [] S I J Q := by
  have h := (And.intro g1 (Go.eti kt kf))
  exact Go.n tb_X2_names 3 h
theorem b_X2_names_7 {d : Nat} {S : zS} {I : zI} {J : zJ} {Q : zQ} {h0 : Nat} {v1 : Value} {I1 : zI} (g1 : z_kd S h0 = 3) (g2 : ¬ (I h0 3) < 0 ∧ (Int32.toNatClampNeg (I h0 3)) * 4 ≤ 536870912) (g3 : ¬ (z_sz S + 1) = 0) (g4 : z_kd (z_new S 100 (Int32.toNatClampNeg (I h0 3)) (Int32.toNatClampNeg (I h0 3))) h0 = 3) (g5 : z_kd (z_new S 100 (Int32.toNatClampNeg (I h0 3)) (Int32.toNatClampNeg (I h0 3))) h0 = 3) (g6 : z_kd (z_new S 100 (Int32.toNatClampNeg (I h0 3)) (Int32.toNatClampNeg (I h0 3))) (z_rv (z_new S 100 (Int32.toNatClampNeg (I h0 3)) (Int32.toNatClampNeg (I h0 3))) h0 2) = 100 ∧ z_kd (z_new S 100 (Int32.toNatClampNeg (I h0 3)) (Int32.toNatClampNeg (I h0 3))) (z_sz S + 1) = 100 ∧ ¬ (z_rv (z_new S 100 (Int32.toNatClampNeg (I h0 3)) (Int32.toNatClampNeg (I h0 3))) h0 2) = (z_sz S + 1) ∧ ¬ (0 : Int32) < 0 ∧ ¬ (0 : Int32) < 0 ∧ ¬ ((z_ur I (z_sz S + 1) (fun _ => 0)) h0 3) < 0 ∧ (Int32.toNatClampNeg (0 : Int32)) + (Int32.toNatClampNeg ((z_ur I (z_sz S + 1) (fun _ => 0)) h0 3)) ≤ z_ln (z_new S 100 (Int32.toNatClampNeg (I h0 3)) (Int32.toNatClampNeg (I h0 3))) (z_rv (z_new S 100 (Int32.toNatClampNeg (I h0 3)) (Int32.toNatClampNeg (I h0 3))) h0 2) ∧ (Int32.toNatClampNeg (0 : Int32)) + (Int32.toNatClampNeg ((z_ur I (z_sz S + 1) (fun _ => 0)) h0 3)) ≤ z_ln (z_new S 100 (Int32.toNatClampNeg (I h0 3)) (Int32.toNatClampNeg (I h0 3))) (z_sz S + 1)) (eI1 : I1 = z_cp (z_ur I (z_sz S + 1) (fun _ => 0)) (z_rv (z_new S 100 (Int32.toNatClampNeg (I h0 3)) (Int32.toNatClampNeg (I h0 3))) h0 2) (z_sz S + 1) (Int32.toNatClampNeg (0 : Int32)) (Int32.toNatClampNeg (0 : Int32)) (Int32.toNatClampNeg ((z_ur I (z_sz S + 1) (fun _ => 0)) h0 3))) (g8 : ¬ (z_sz (z_new S 100 (Int32.toNatClampNeg (I h0 3)) (Int32.toNatClampNeg (I h0 3))) + 1) = 0) (kk : z_wp d i_X6_init [.ref (z_sz (z_new S 100 (Int32.toNatClampNeg (I h0 3)) (Int32.toNatClampNeg (I h0 3))) + 1), .ref (z_sz S + 1), .ref 0, .int (0 : Int32)] (z_new (z_new S 100 (Int32.toNatClampNeg (I h0 3)) (Int32.toNatClampNeg (I h0 3))) 7 0 3) (z_ur I1 (z_sz (z_new S 100 (Int32.toNatClampNeg (I h0 3)) (Int32.toNatClampNeg (I h0 3))) + 1) (fun _ => 0)) (z_ur J (z_sz (z_new S 100 (Int32.toNatClampNeg (I h0 3)) (Int32.toNatClampNeg (I h0 3))) + 1) (fun _ => 0)) (fun vv SS II JJ => Go d i_X2_names 38 [.ref h0, .ref (z_sz S + 1)] (vv.toList ++ [.ref (z_sz (z_new S 100 (Int32.toNatClampNeg (I h0 3)) (Int32.toNatClampNeg (I h0 3))) + 1)]) SS II JJ Q)) : Go d i_X2_names 7 [.ref h0, v1] [] S I J Q := by
  subst eI1
  have h := (And.intro g1 (And.intro g2 (And.intro g3 (And.intro g4 (And.intro g5 (And.intro g6 (And.intro g8 kk)))))))
  exact Go.n tb_X2_names 18 h
theorem b_X2_names_38 {d : Nat} {S : zS} {I : zI} {J : zJ} {Q : zQ} {h0 : Nat} {h1 : Nat} {q0 : Nat} (kk : Q (some (.ref q0)) S I J) : Go d i_X2_names 38 [.ref h0, .ref h1] [.ref q0] S I J Q := by
  have h := (And.intro trivial kk)
  exact Go.n tb_X2_names 1 h
theorem b_X2_names_39 {d : Nat} {S : zS} {I : zI} {J : zJ} {Q : zQ} {h0 : Nat} {v1 : Value} {I1 : zI} (g1 : z_kd S h0 = 3) (g2 : ¬ (I h0 4) < 0 ∧ (Int32.toNatClampNeg (I h0 4)) * 4 ≤ 536870912) (g3 : ¬ (z_sz S + 1) = 0) (g4 : z_kd (z_new S 100 (Int32.toNatClampNeg (I h0 4)) (Int32.toNatClampNeg (I h0 4))) h0 = 3) (g5 : z_kd (z_new S 100 (Int32.toNatClampNeg (I h0 4)) (Int32.toNatClampNeg (I h0 4))) h0 = 3) (g6 : z_kd (z_new S 100 (Int32.toNatClampNeg (I h0 4)) (Int32.toNatClampNeg (I h0 4))) (z_rv (z_new S 100 (Int32.toNatClampNeg (I h0 4)) (Int32.toNatClampNeg (I h0 4))) h0 8) = 100 ∧ z_kd (z_new S 100 (Int32.toNatClampNeg (I h0 4)) (Int32.toNatClampNeg (I h0 4))) (z_sz S + 1) = 100 ∧ ¬ (z_rv (z_new S 100 (Int32.toNatClampNeg (I h0 4)) (Int32.toNatClampNeg (I h0 4))) h0 8) = (z_sz S + 1) ∧ ¬ (0 : Int32) < 0 ∧ ¬ (0 : Int32) < 0 ∧ ¬ ((z_ur I (z_sz S + 1) (fun _ => 0)) h0 4) < 0 ∧ (Int32.toNatClampNeg (0 : Int32)) + (Int32.toNatClampNeg ((z_ur I (z_sz S + 1) (fun _ => 0)) h0 4)) ≤ z_ln (z_new S 100 (Int32.toNatClampNeg (I h0 4)) (Int32.toNatClampNeg (I h0 4))) (z_rv (z_new S 100 (Int32.toNatClampNeg (I h0 4)) (Int32.toNatClampNeg (I h0 4))) h0 8) ∧ (Int32.toNatClampNeg (0 : Int32)) + (Int32.toNatClampNeg ((z_ur I (z_sz S + 1) (fun _ => 0)) h0 4)) ≤ z_ln (z_new S 100 (Int32.toNatClampNeg (I h0 4)) (Int32.toNatClampNeg (I h0 4))) (z_sz S + 1)) (eI1 : I1 = z_cp (z_ur I (z_sz S + 1) (fun _ => 0)) (z_rv (z_new S 100 (Int32.toNatClampNeg (I h0 4)) (Int32.toNatClampNeg (I h0 4))) h0 8) (z_sz S + 1) (Int32.toNatClampNeg (0 : Int32)) (Int32.toNatClampNeg (0 : Int32)) (Int32.toNatClampNeg ((z_ur I (z_sz S + 1) (fun _ => 0)) h0 4))) (g8 : z_kd (z_new (z_new S 100 (Int32.toNatClampNeg (I h0 4)) (Int32.toNatClampNeg (I h0 4))) 7 0 3) h0 = 3) (g9 : ¬ (z_sz (z_new S 100 (Int32.toNatClampNeg (I h0 4)) (Int32.toNatClampNeg (I h0 4))) + 1) = 0) (kk : z_wp d i_X6_init [.ref (z_sz (z_new S 100 (Int32.toNatClampNeg (I h0 4)) (Int32.toNatClampNeg (I h0 4))) + 1), .ref 0, .ref (z_sz S + 1), .int ((z_ur I1 (z_sz (z_new S 100 (Int32.toNatClampNeg (I h0 4)) (Int32.toNatClampNeg (I h0 4))) + 1) (fun _ => 0)) h0 7)] (z_new (z_new S 100 (Int32.toNatClampNeg (I h0 4)) (Int32.toNatClampNeg (I h0 4))) 7 0 3) (z_ur I1 (z_sz (z_new S 100 (Int32.toNatClampNeg (I h0 4)) (Int32.toNatClampNeg (I h0 4))) + 1) (fun _ => 0)) (z_ur J (z_sz (z_new S 100 (Int32.toNatClampNeg (I h0 4)) (Int32.toNatClampNeg (I h0 4))) + 1) (fun _ => 0)) (fun vv SS II JJ => Go d i_X2_names 73 [.ref h0, .ref (z_sz S + 1)] (vv.toList ++ [.ref (z_sz (z_new S 100 (Int32.toNatClampNeg (I h0 4)) (Int32.toNatClampNeg (I h0 4))) + 1)]) SS II JJ Q)) : Go d i_X2_names 39 [.ref h0, v1] [] S I J Q := by
  subst eI1
  have h := (And.intro g1 (And.intro g2 (And.intro g3 (And.intro g4 (And.intro g5 (And.intro g6 (And.intro g8 (And.intro g9 kk))))))))
  exact Go.n tb_X2_names 19 h
theorem b_X2_names_73 {d : Nat} {S : zS} {I : zI} {J : zJ} {Q : zQ} {h0 : Nat} {h1 : Nat} {q0 : Nat} (kk : Q (some (.ref q0)) S I J) : Go d i_X2_names 73 [.ref h0, .ref h1] [.ref q0] S I J Q := by
  have h := (And.intro trivial kk)
  exact Go.n tb_X2_names 1 h
theorem w_X2_rowProduct {d : Nat} {S : zS} {I : zI} {J : zJ} {Q : zQ} {h0 : Nat} {x1 : Int32} {x2 : Int32} (h : Go d i_X2_rowProduct 0 [.ref h0, .int x1, .int x2, .retAddr 0] [] S I J Q) : z_wp (d + 1) i_X2_rowProduct [.ref h0, .int x1, .int x2] S I J Q := Go.wp (Nat.le_of_ble_eq_true rfl) h
theorem e_X2_rowProduct {d : Nat} {S S2 : zS} {I I2 : zI} {J J2 : zJ} {r : Option Value} {h0 : Nat} {x1 : Int32} {x2 : Int32} (h : Go d i_X2_rowProduct 0 [.ref h0, .int x1, .int x2, .retAddr 0] [] S I J (z_eq r S2 I2 J2)) : z_ev (d + 1) i_X2_rowProduct [.ref h0, .int x1, .int x2] S I J r S2 I2 J2 := Go.ev (Nat.le_of_ble_eq_true rfl) h
theorem b_X2_rowProduct_0 {d : Nat} {S : zS} {I : zI} {J : zJ} {Q : zQ} {h0 : Nat} {x1 : Int32} {x2 : Int32} {v3 : Value} (g1 : z_kd S h0 = 3) (g2 : z_isI (z_kd S (z_rv S h0 8)) = true ∧ vp_in x1 (z_ln S (z_rv S h0 8))) (g3 : z_kd S h0 = 3) (g4 : z_isI (z_kd S (z_rv S h0 8)) = true ∧ vp_in x2 (z_ln S (z_rv S h0 8))) (g5 : z_kd S h0 = 3) (kk : z_wp d i_X11_firstThen [.int (I (z_rv S h0 8) (Int32.toNatClampNeg x1)), .int (I (z_rv S h0 8) (Int32.toNatClampNeg x2)), .int (I h0 7)] S I J (fun vv SS II JJ => Go d i_X2_rowProduct 19 [.ref h0, .int x1, .int x2, v3] (vv.toList ++ []) SS II JJ Q)) : Go d i_X2_rowProduct 0 [.ref h0, .int x1, .int x2, v3] [] S I J Q := by
  have h := (And.intro g1 (And.intro g2 (And.intro g3 (And.intro g4 (And.intro g5 (And.intro trivial kk))))))
  exact Go.n tb_X2_rowProduct 11 h
theorem b_X2_rowProduct_19 {d : Nat} {S : zS} {I : zI} {J : zJ} {Q : zQ} {h0 : Nat} {x1 : Int32} {x2 : Int32} {v3 : Value} {y0 : Int32} (g1 : z_kd S h0 = 3) (g2 : z_kd S h0 = 3) (kk : z_wp d i_X11_indexOf [.ref (z_rv S h0 8), .int (I h0 4), .int y0] S I J (fun vv SS II JJ => Go d i_X2_rowProduct 33 [.ref h0, .int x1, .int x2, .int y0] (vv.toList ++ [.int (0 : Int32)]) SS II JJ Q)) : Go d i_X2_rowProduct 19 [.ref h0, .int x1, .int x2, v3] [.int y0] S I J Q := by
  have h := (And.intro g1 (And.intro g2 (And.intro trivial kk)))
  exact Go.n tb_X2_rowProduct 8 h
theorem b_X2_rowProduct_33 {d : Nat} {S : zS} {I : zI} {J : zJ} {Q : zQ} {h0 : Nat} {x1 : Int32} {x2 : Int32} {x3 : Int32} {y0 : Int32} {y1 : Int32} (kk : z_wp d i_J9_max_7cf53 [.int y0, .int y1] S I J (fun vv SS II JJ => Go d i_X2_rowProduct 36 [.ref h0, .int x1, .int x2, .int x3] (vv.toList ++ []) SS II JJ Q)) : Go d i_X2_rowProduct 33 [.ref h0, .int x1, .int x2, .int x3] [.int y1, .int y0] S I J Q := by
  have h := (And.intro trivial kk)
  exact Go.n tb_X2_rowProduct 1 h
theorem b_X2_rowProduct_36 {d : Nat} {S : zS} {I : zI} {J : zJ} {Q : zQ} {h0 : Nat} {x1 : Int32} {x2 : Int32} {x3 : Int32} {y0 : Int32} (kk : Q (some (.int y0)) S I J) : Go d i_X2_rowProduct 36 [.ref h0, .int x1, .int x2, .int x3] [.int y0] S I J Q := by
  have h := (And.intro trivial kk)
  exact Go.n tb_X2_rowProduct 1 h
theorem w_X2_factorsProduct {d : Nat} {S : zS} {I : zI} {J : zJ} {Q : zQ} {h0 : Nat} {x1 : Int32} {x2 : Int32} (h : Go d i_X2_factorsProduct 0 [.ref h0, .int x1, .int x2, .retAddr 0, .retAddr 0, .retAddr 0, .retAddr 0, .retAddr 0, .retAddr 0] [] S I J Q) : z_wp (d + 1) i_X2_factorsProduct [.ref h0, .int x1, .int x2] S I J Q := Go.wp (Nat.le_of_ble_eq_true rfl) h
theorem e_X2_factorsProduct {d : Nat} {S S2 : zS} {I I2 : zI} {J J2 : zJ} {r : Option Value} {h0 : Nat} {x1 : Int32} {x2 : Int32} (h : Go d i_X2_factorsProduct 0 [.ref h0, .int x1, .int x2, .retAddr 0, .retAddr 0, .retAddr 0, .retAddr 0, .retAddr 0, .retAddr 0] [] S I J (z_eq r S2 I2 J2)) : z_ev (d + 1) i_X2_factorsProduct [.ref h0, .int x1, .int x2] S I J r S2 I2 J2 := Go.ev (Nat.le_of_ble_eq_true rfl) h
theorem b_X2_factorsProduct_0 {d : Nat} {S : zS} {I : zI} {J : zJ} {Q : zQ} {h0 : Nat} {x1 : Int32} {x2 : Int32} {v3 : Value} {v4 : Value} {v5 : Value} {v6 : Value} {v7 : Value} {v8 : Value} (kk : Go d i_X2_factorsProduct 14 [.ref h0, .int x1, .int x2, .int x1, .int x2, .int (1 : Int32), .int (0 : Int32), .int (0 : Int32), v8] [] S I J Q) : Go d i_X2_factorsProduct 0 [.ref h0, .int x1, .int x2, v3, v4, v5, v6, v7, v8] [] S I J Q := by
  have h := kk
  exact Go.n tb_X2_factorsProduct 10 h
theorem b_X2_factorsProduct_14 {d : Nat} {S : zS} {I : zI} {J : zJ} {Q : zQ} {h0 : Nat} {x1 : Int32} {x2 : Int32} {x3 : Int32} {x4 : Int32} {x5 : Int32} {x6 : Int32} {x7 : Int32} {v8 : Value} (g1 : z_kd S h0 = 3) (kt : (I h0 3) ≤ x7 → Go d i_X2_factorsProduct 93 [.ref h0, .int x1, .int x2, .int x3, .int x4, .int x5, .int x6, .int x7, v8] [] S I J Q) (kf : ¬ (I h0 3) ≤ x7 → Go d i_X2_factorsProduct 23 [.ref h0, .int x1, .int x2, .int x3, .int x4, .int x5, .int x6, .int x7, v8] [] S I J Q) : Go d i_X2_factorsProduct 14 [.ref h0, .int x1, .int x2, .int x3, .int x4, .int x5, .int x6, .int x7, v8] [] S I J Q := by
  have h := (And.intro g1 (Go.ite kt kf))
  exact Go.n tb_X2_factorsProduct 4 h
theorem b_X2_factorsProduct_23 {d : Nat} {S : zS} {I : zI} {J : zJ} {Q : zQ} {h0 : Nat} {x1 : Int32} {x2 : Int32} {x3 : Int32} {x4 : Int32} {x5 : Int32} {x6 : Int32} {x7 : Int32} {v8 : Value} (g1 : z_kd S h0 = 3) (kt : (I h0 4) ≤ x5 → Go d i_X2_factorsProduct 93 [.ref h0, .int x1, .int x2, .int x3, .int x4, .int x5, .int x6, .int x7, v8] [] S I J Q) (kf : ¬ (I h0 4) ≤ x5 → Go d i_X2_factorsProduct 32 [.ref h0, .int x1, .int x2, .int x3, .int x4, .int x5, .int x6, .int x7, v8] [] S I J Q) : Go d i_X2_factorsProduct 23 [.ref h0, .int x1, .int x2, .int x3, .int x4, .int x5, .int x6, .int x7, v8] [] S I J Q := by
  have h := (And.intro g1 (Go.ite kt kf))
  exact Go.n tb_X2_factorsProduct 4 h
theorem b_X2_factorsProduct_32 {d : Nat} {S : zS} {I : zI} {J : zJ} {Q : zQ} {h0 : Nat} {x1 : Int32} {x2 : Int32} {x3 : Int32} {x4 : Int32} {x5 : Int32} {x6 : Int32} {x7 : Int32} {v8 : Value} (g1 : z_kd S h0 = 3) (g2 : z_isI (z_kd S (z_rv S h0 2)) = true ∧ vp_in x7 (z_ln S (z_rv S h0 2))) (kk : z_wp d i_J9_max_7cf53 [.int (1 : Int32), .int (I (z_rv S h0 2) (Int32.toNatClampNeg x7))] S I J (fun vv SS II JJ => Go d i_X2_factorsProduct 43 [.ref h0, .int x1, .int x2, .int x3, .int x4, .int x5, .int x6, .int x7, v8] (vv.toList ++ []) SS II JJ Q)) : Go d i_X2_factorsProduct 32 [.ref h0, .int x1, .int x2, .int x3, .int x4, .int x5, .int x6, .int x7, v8] [] S I J Q := by
  have h := (And.intro g1 (And.intro g2 (And.intro trivial kk)))
  exact Go.n tb_X2_factorsProduct 6 h
theorem b_X2_factorsProduct_43 {d : Nat} {S : zS} {I : zI} {J : zJ} {Q : zQ} {h0 : Nat} {x1 : Int32} {x2 : Int32} {x3 : Int32} {x4 : Int32} {x5 : Int32} {x6 : Int32} {x7 : Int32} {v8 : Value} {y0 : Int32} (g1 : ¬ y0 = 0) (g2 : ¬ y0 = 0) (g3 : z_kd S h0 = 3) (kk : z_wp d i_X2_factorProduct [.ref h0, .int x7, .int (x3 - x3 / y0 * y0), .int (x4 - x4 / y0 * y0)] S I J (fun vv SS II JJ => Go d i_X2_factorsProduct 64 [.ref h0, .int x1, .int x2, .int x3, .int x4, .int x5, .int x6, .int x7, .int y0] (vv.toList ++ [.int x5, .int x6]) SS II JJ Q)) : Go d i_X2_factorsProduct 43 [.ref h0, .int x1, .int x2, .int x3, .int x4, .int x5, .int x6, .int x7, v8] [.int y0] S I J Q := by
  have h := (And.intro g1 (And.intro g2 (And.intro g3 kk)))
  exact Go.n tb_X2_factorsProduct 12 h
theorem b_X2_factorsProduct_64 {d : Nat} {S : zS} {I : zI} {J : zJ} {Q : zQ} {h0 : Nat} {x1 : Int32} {x2 : Int32} {x3 : Int32} {x4 : Int32} {x5 : Int32} {x6 : Int32} {x7 : Int32} {x8 : Int32} {y0 : Int32} {y1 : Int32} {y2 : Int32} (g1 : ¬ x8 = 0) (g2 : ¬ x8 = 0) (kk : Go d i_X2_factorsProduct 14 [.ref h0, .int x1, .int x2, .int (x3 / x8), .int (x4 / x8), .int (x5 * x8), .int (y0 + (y1 * y2)), .int (x7 + (1 : Int32)), .int x8] [] S I J Q) : Go d i_X2_factorsProduct 64 [.ref h0, .int x1, .int x2, .int x3, .int x4, .int x5, .int x6, .int x7, .int x8] [.int y2, .int y1, .int y0] S I J Q := by
  have h := (And.intro g1 (And.intro g2 kk))
  exact Go.n tb_X2_factorsProduct 17 h
theorem b_X2_factorsProduct_93 {d : Nat} {S : zS} {I : zI} {J : zJ} {Q : zQ} {h0 : Nat} {x1 : Int32} {x2 : Int32} {x3 : Int32} {x4 : Int32} {x5 : Int32} {x6 : Int32} {x7 : Int32} {v8 : Value} (kk : Q (some (.int x6)) S I J) : Go d i_X2_factorsProduct 93 [.ref h0, .int x1, .int x2, .int x3, .int x4, .int x5, .int x6, .int x7, v8] [] S I J Q := by
  have h := (And.intro trivial kk)
  exact Go.n tb_X2_factorsProduct 2 h
theorem w_X2_factorProduct {d : Nat} {S : zS} {I : zI} {J : zJ} {Q : zQ} {h0 : Nat} {x1 : Int32} {x2 : Int32} {x3 : Int32} (h : Go d i_X2_factorProduct 0 [.ref h0, .int x1, .int x2, .int x3, .retAddr 0, .retAddr 0] [] S I J Q) : z_wp (d + 1) i_X2_factorProduct [.ref h0, .int x1, .int x2, .int x3] S I J Q := Go.wp (Nat.le_of_ble_eq_true rfl) h
theorem e_X2_factorProduct {d : Nat} {S S2 : zS} {I I2 : zI} {J J2 : zJ} {r : Option Value} {h0 : Nat} {x1 : Int32} {x2 : Int32} {x3 : Int32} (h : Go d i_X2_factorProduct 0 [.ref h0, .int x1, .int x2, .int x3, .retAddr 0, .retAddr 0] [] S I J (z_eq r S2 I2 J2)) : z_ev (d + 1) i_X2_factorProduct [.ref h0, .int x1, .int x2, .int x3] S I J r S2 I2 J2 := Go.ev (Nat.le_of_ble_eq_true rfl) h
theorem b_X2_factorProduct_0 {d : Nat} {S : zS} {I : zI} {J : zJ} {Q : zQ} {h0 : Nat} {x1 : Int32} {x2 : Int32} {x3 : Int32} {v4 : Value} {v5 : Value} (g1 : z_kd S h0 = 3) (g2 : z_isI (z_kd S (z_rv S h0 1)) = true ∧ vp_in x1 (z_ln S (z_rv S h0 1))) (kk : z_wp d i_J9_max_7cf53 [.int (1 : Int32), .int (I (z_rv S h0 1) (Int32.toNatClampNeg x1))] S I J (fun vv SS II JJ => Go d i_X2_factorProduct 10 [.ref h0, .int x1, .int x2, .int x3, v4, v5] (vv.toList ++ []) SS II JJ Q)) : Go d i_X2_factorProduct 0 [.ref h0, .int x1, .int x2, .int x3, v4, v5] [] S I J Q := by
  have h := (And.intro g1 (And.intro g2 (And.intro trivial kk)))
  exact Go.n tb_X2_factorProduct 6 h
theorem b_X2_factorProduct_10 {d : Nat} {S : zS} {I : zI} {J : zJ} {Q : zQ} {h0 : Nat} {x1 : Int32} {x2 : Int32} {x3 : Int32} {v4 : Value} {v5 : Value} {y0 : Int32} (g1 : z_kd S h0 = 3) (g2 : z_isI (z_kd S (z_rv S h0 0)) = true ∧ vp_in x1 (z_ln S (z_rv S h0 0))) (kk : Go d i_X2_factorProduct (z_sw [(99, 52), (100, 59), (113, 68)] 80 (I (z_rv S h0 0) (Int32.toNatClampNeg x1))) [.ref h0, .int x1, .int x2, .int x3, .int y0, v5] [] S I J Q) : Go d i_X2_factorProduct 10 [.ref h0, .int x1, .int x2, .int x3, v4, v5] [.int y0] S I J Q := by
  have h := (And.intro g1 (And.intro g2 kk))
  exact Go.n tb_X2_factorProduct 6 h
theorem b_X2_factorProduct_52 {d : Nat} {S : zS} {I : zI} {J : zJ} {Q : zQ} {h0 : Nat} {x1 : Int32} {x2 : Int32} {x3 : Int32} {x4 : Int32} {v5 : Value} (g1 : ¬ x4 = 0) (kk : Q (some (.int ((x2 + x3) - (x2 + x3) / x4 * x4))) S I J) : Go d i_X2_factorProduct 52 [.ref h0, .int x1, .int x2, .int x3, .int x4, v5] [] S I J Q := by
  have h := (And.intro g1 (And.intro trivial kk))
  exact Go.n tb_X2_factorProduct 6 h
theorem b_X2_factorProduct_59 {d : Nat} {S : zS} {I : zI} {J : zJ} {Q : zQ} {h0 : Nat} {x1 : Int32} {x2 : Int32} {x3 : Int32} {x4 : Int32} {v5 : Value} (kk : z_wp d i_X2_turned [.int x2, .int x3, .int x4, .int (0 : Int32)] S I J (fun vv SS II JJ => Go d i_X2_factorProduct 67 [.ref h0, .int x1, .int x2, .int x3, .int x4, v5] (vv.toList ++ []) SS II JJ Q)) : Go d i_X2_factorProduct 59 [.ref h0, .int x1, .int x2, .int x3, .int x4, v5] [] S I J Q := by
  have h := (And.intro trivial kk)
  exact Go.n tb_X2_factorProduct 5 h
theorem b_X2_factorProduct_67 {d : Nat} {S : zS} {I : zI} {J : zJ} {Q : zQ} {h0 : Nat} {x1 : Int32} {x2 : Int32} {x3 : Int32} {x4 : Int32} {v5 : Value} {y0 : Int32} (kk : Q (some (.int y0)) S I J) : Go d i_X2_factorProduct 67 [.ref h0, .int x1, .int x2, .int x3, .int x4, v5] [.int y0] S I J Q := by
  have h := (And.intro trivial kk)
  exact Go.n tb_X2_factorProduct 1 h
theorem b_X2_factorProduct_68 {d : Nat} {S : zS} {I : zI} {J : zJ} {Q : zQ} {h0 : Nat} {x1 : Int32} {x2 : Int32} {x3 : Int32} {x4 : Int32} {v5 : Value} (kk : z_wp d i_X2_turned [.int x2, .int x3, .int ((2 : Int32) * x4), .int x4] S I J (fun vv SS II JJ => Go d i_X2_factorProduct 79 [.ref h0, .int x1, .int x2, .int x3, .int x4, v5] (vv.toList ++ []) SS II JJ Q)) : Go d i_X2_factorProduct 68 [.ref h0, .int x1, .int x2, .int x3, .int x4, v5] [] S I J Q := by
  have h := (And.intro trivial kk)
  exact Go.n tb_X2_factorProduct 7 h
theorem b_X2_factorProduct_79 {d : Nat} {S : zS} {I : zI} {J : zJ} {Q : zQ} {h0 : Nat} {x1 : Int32} {x2 : Int32} {x3 : Int32} {x4 : Int32} {v5 : Value} {y0 : Int32} (kk : Q (some (.int y0)) S I J) : Go d i_X2_factorProduct 79 [.ref h0, .int x1, .int x2, .int x3, .int x4, v5] [.int y0] S I J Q := by
  have h := (And.intro trivial kk)
  exact Go.n tb_X2_factorProduct 1 h
theorem b_X2_factorProduct_80 {d : Nat} {S : zS} {I : zI} {J : zJ} {Q : zQ} {h0 : Nat} {x1 : Int32} {x2 : Int32} {x3 : Int32} {x4 : Int32} {v5 : Value} (g1 : z_isI (z_kd S (z_rv S 0 20)) = true ∧ vp_in x2 (z_ln S (z_rv S 0 20))) (g2 : z_isI (z_kd S (z_rv S 0 20)) = true ∧ vp_in x3 (z_ln S (z_rv S 0 20))) (kk : z_wp d i_X11_firstThen [.int (I (z_rv S 0 20) (Int32.toNatClampNeg x2)), .int (I (z_rv S 0 20) (Int32.toNatClampNeg x3)), .int (4 : Int32)] S I J (fun vv SS II JJ => Go d i_X2_factorProduct 94 [.ref h0, .int x1, .int x2, .int x3, .int x4, v5] (vv.toList ++ []) SS II JJ Q)) : Go d i_X2_factorProduct 80 [.ref h0, .int x1, .int x2, .int x3, .int x4, v5] [] S I J Q := by
  have h := (And.intro g1 (And.intro g2 (And.intro trivial kk)))
  exact Go.n tb_X2_factorProduct 8 h
theorem b_X2_factorProduct_94 {d : Nat} {S : zS} {I : zI} {J : zJ} {Q : zQ} {h0 : Nat} {x1 : Int32} {x2 : Int32} {x3 : Int32} {x4 : Int32} {v5 : Value} {y0 : Int32} (g1 : z_isA (z_kd S (z_rv S 0 20)) = true) (kk : z_wp d i_X11_indexOf [.ref (z_rv S 0 20), .int (nI (z_ln S (z_rv S 0 20))), .int y0] S I J (fun vv SS II JJ => Go d i_X2_factorProduct 109 [.ref h0, .int x1, .int x2, .int x3, .int x4, .int y0] (vv.toList ++ [.int (0 : Int32)]) SS II JJ Q)) : Go d i_X2_factorProduct 94 [.ref h0, .int x1, .int x2, .int x3, .int x4, v5] [.int y0] S I J Q := by
  have h := (And.intro g1 (And.intro trivial kk))
  exact Go.n tb_X2_factorProduct 7 h
theorem b_X2_factorProduct_109 {d : Nat} {S : zS} {I : zI} {J : zJ} {Q : zQ} {h0 : Nat} {x1 : Int32} {x2 : Int32} {x3 : Int32} {x4 : Int32} {x5 : Int32} {y0 : Int32} {y1 : Int32} (kk : z_wp d i_J9_max_7cf53 [.int y0, .int y1] S I J (fun vv SS II JJ => Go d i_X2_factorProduct 112 [.ref h0, .int x1, .int x2, .int x3, .int x4, .int x5] (vv.toList ++ []) SS II JJ Q)) : Go d i_X2_factorProduct 109 [.ref h0, .int x1, .int x2, .int x3, .int x4, .int x5] [.int y1, .int y0] S I J Q := by
  have h := (And.intro trivial kk)
  exact Go.n tb_X2_factorProduct 1 h
theorem b_X2_factorProduct_112 {d : Nat} {S : zS} {I : zI} {J : zJ} {Q : zQ} {h0 : Nat} {x1 : Int32} {x2 : Int32} {x3 : Int32} {x4 : Int32} {x5 : Int32} {y0 : Int32} (kk : Q (some (.int y0)) S I J) : Go d i_X2_factorProduct 112 [.ref h0, .int x1, .int x2, .int x3, .int x4, .int x5] [.int y0] S I J Q := by
  have h := (And.intro trivial kk)
  exact Go.n tb_X2_factorProduct 1 h
theorem w_X2_turned {d : Nat} {S : zS} {I : zI} {J : zJ} {Q : zQ} {x0 : Int32} {x1 : Int32} {x2 : Int32} {x3 : Int32} (h : Go d i_X2_turned 0 [.int x0, .int x1, .int x2, .int x3, .retAddr 0, .retAddr 0, .retAddr 0, .retAddr 0, .retAddr 0, .retAddr 0, .retAddr 0] [] S I J Q) : z_wp (d + 1) i_X2_turned [.int x0, .int x1, .int x2, .int x3] S I J Q := Go.wp (Nat.le_of_ble_eq_true rfl) h
theorem e_X2_turned {d : Nat} {S S2 : zS} {I I2 : zI} {J J2 : zJ} {r : Option Value} {x0 : Int32} {x1 : Int32} {x2 : Int32} {x3 : Int32} (h : Go d i_X2_turned 0 [.int x0, .int x1, .int x2, .int x3, .retAddr 0, .retAddr 0, .retAddr 0, .retAddr 0, .retAddr 0, .retAddr 0, .retAddr 0] [] S I J (z_eq r S2 I2 J2)) : z_ev (d + 1) i_X2_turned [.int x0, .int x1, .int x2, .int x3] S I J r S2 I2 J2 := Go.ev (Nat.le_of_ble_eq_true rfl) h
theorem b_X2_turned_0 {d : Nat} {S : zS} {I : zI} {J : zJ} {Q : zQ} {x0 : Int32} {x1 : Int32} {x2 : Int32} {x3 : Int32} {v4 : Value} {v5 : Value} {v6 : Value} {v7 : Value} {v8 : Value} {v9 : Value} {v10 : Value} (kk : z_wp d i_J9_max_7cf53 [.int (1 : Int32), .int x2] S I J (fun vv SS II JJ => Go d i_X2_turned 5 [.int x0, .int x1, .int x2, .int x3, v4, v5, v6, v7, v8, v9, v10] (vv.toList ++ []) SS II JJ Q)) : Go d i_X2_turned 0 [.int x0, .int x1, .int x2, .int x3, v4, v5, v6, v7, v8, v9, v10] [] S I J Q := by
  have h := (And.intro trivial kk)
  exact Go.n tb_X2_turned 3 h
theorem b_X2_turned_5 {d : Nat} {S : zS} {I : zI} {J : zJ} {Q : zQ} {x0 : Int32} {x1 : Int32} {x2 : Int32} {x3 : Int32} {v4 : Value} {v5 : Value} {v6 : Value} {v7 : Value} {v8 : Value} {v9 : Value} {v10 : Value} {y0 : Int32} (g1 : ¬ y0 = 0) (g2 : ¬ y0 = 0) (g3 : ¬ y0 = 0) (g4 : ¬ y0 = 0) (kt : ¬ (x0 / y0) = (0 : Int32) → Go d i_X2_turned 44 [.int x0, .int x1, .int x2, .int x3, .int y0, .int (x0 - x0 / y0 * y0), .int (x0 / y0), .int (x1 - x1 / y0 * y0), .int (x1 / y0), v9, v10] [] S I J Q) (kf : (x0 / y0) = (0 : Int32) → Go d i_X2_turned 36 [.int x0, .int x1, .int x2, .int x3, .int y0, .int (x0 - x0 / y0 * y0), .int (x0 / y0), .int (x1 - x1 / y0 * y0), .int (x1 / y0), v9, v10] [] S I J Q) : Go d i_X2_turned 5 [.int x0, .int x1, .int x2, .int x3, v4, v5, v6, v7, v8, v9, v10] [.int y0] S I J Q := by
  have h := (And.intro g1 (And.intro g2 (And.intro g3 (And.intro g4 (Go.eti kt kf)))))
  exact Go.n tb_X2_turned 19 h
theorem b_X2_turned_36 {d : Nat} {S : zS} {I : zI} {J : zJ} {Q : zQ} {x0 : Int32} {x1 : Int32} {x2 : Int32} {x3 : Int32} {x4 : Int32} {x5 : Int32} {x6 : Int32} {x7 : Int32} {x8 : Int32} {v9 : Value} {v10 : Value} (kt : ¬ x6 = (1 : Int32) → Go d i_X2_turned 69 [.int x0, .int x1, .int x2, .int x3, .int x4, .int x5, .int x6, .int x7, .int x8, .int (x5 + x7), v10] [] S I J Q) (kf : x6 = (1 : Int32) → Go d i_X2_turned 57 [.int x0, .int x1, .int x2, .int x3, .int x4, .int x5, .int x6, .int x7, .int x8, .int (x5 + x7), v10] [] S I J Q) : Go d i_X2_turned 36 [.int x0, .int x1, .int x2, .int x3, .int x4, .int x5, .int x6, .int x7, .int x8, v9, v10] [] S I J Q := by
  have h := (Go.eti kt kf)
  exact Go.n tb_X2_turned 8 h
theorem b_X2_turned_44 {d : Nat} {S : zS} {I : zI} {J : zJ} {Q : zQ} {x0 : Int32} {x1 : Int32} {x2 : Int32} {x3 : Int32} {x4 : Int32} {x5 : Int32} {x6 : Int32} {x7 : Int32} {x8 : Int32} {v9 : Value} {v10 : Value} (kt : ¬ x6 = (1 : Int32) → Go d i_X2_turned 69 [.int x0, .int x1, .int x2, .int x3, .int x4, .int x5, .int x6, .int x7, .int x8, .int (x5 - x7), v10] [] S I J Q) (kf : x6 = (1 : Int32) → Go d i_X2_turned 57 [.int x0, .int x1, .int x2, .int x3, .int x4, .int x5, .int x6, .int x7, .int x8, .int (x5 - x7), v10] [] S I J Q) : Go d i_X2_turned 44 [.int x0, .int x1, .int x2, .int x3, .int x4, .int x5, .int x6, .int x7, .int x8, v9, v10] [] S I J Q := by
  have h := (Go.eti kt kf)
  exact Go.n tb_X2_turned 7 h
theorem b_X2_turned_57 {d : Nat} {S : zS} {I : zI} {J : zJ} {Q : zQ} {x0 : Int32} {x1 : Int32} {x2 : Int32} {x3 : Int32} {x4 : Int32} {x5 : Int32} {x6 : Int32} {x7 : Int32} {x8 : Int32} {x9 : Int32} {v10 : Value} (kt : ¬ x8 = (1 : Int32) → Go d i_X2_turned 69 [.int x0, .int x1, .int x2, .int x3, .int x4, .int x5, .int x6, .int x7, .int x8, .int x9, v10] [] S I J Q) (kf : x8 = (1 : Int32) → Go d i_X2_turned 63 [.int x0, .int x1, .int x2, .int x3, .int x4, .int x5, .int x6, .int x7, .int x8, .int x9, v10] [] S I J Q) : Go d i_X2_turned 57 [.int x0, .int x1, .int x2, .int x3, .int x4, .int x5, .int x6, .int x7, .int x8, .int x9, v10] [] S I J Q := by
  have h := (Go.eti kt kf)
  exact Go.n tb_X2_turned 3 h
theorem b_X2_turned_63 {d : Nat} {S : zS} {I : zI} {J : zJ} {Q : zQ} {x0 : Int32} {x1 : Int32} {x2 : Int32} {x3 : Int32} {x4 : Int32} {x5 : Int32} {x6 : Int32} {x7 : Int32} {x8 : Int32} {x9 : Int32} {v10 : Value} (kt : ¬ x8 = (0 : Int32) → Go d i_X2_turned 79 [.int x0, .int x1, .int x2, .int x3, .int x4, .int x5, .int x6, .int x7, .int x8, .int (x9 + x3), v10] [] S I J Q) (kf : x8 = (0 : Int32) → Go d i_X2_turned 74 [.int x0, .int x1, .int x2, .int x3, .int x4, .int x5, .int x6, .int x7, .int x8, .int (x9 + x3), v10] [] S I J Q) : Go d i_X2_turned 63 [.int x0, .int x1, .int x2, .int x3, .int x4, .int x5, .int x6, .int x7, .int x8, .int x9, v10] [] S I J Q := by
  have h := (Go.eti kt kf)
  exact Go.n tb_X2_turned 6 h
theorem b_X2_turned_69 {d : Nat} {S : zS} {I : zI} {J : zJ} {Q : zQ} {x0 : Int32} {x1 : Int32} {x2 : Int32} {x3 : Int32} {x4 : Int32} {x5 : Int32} {x6 : Int32} {x7 : Int32} {x8 : Int32} {x9 : Int32} {v10 : Value} (kt : ¬ x8 = (0 : Int32) → Go d i_X2_turned 79 [.int x0, .int x1, .int x2, .int x3, .int x4, .int x5, .int x6, .int x7, .int x8, .int x9, v10] [] S I J Q) (kf : x8 = (0 : Int32) → Go d i_X2_turned 74 [.int x0, .int x1, .int x2, .int x3, .int x4, .int x5, .int x6, .int x7, .int x8, .int x9, v10] [] S I J Q) : Go d i_X2_turned 69 [.int x0, .int x1, .int x2, .int x3, .int x4, .int x5, .int x6, .int x7, .int x8, .int x9, v10] [] S I J Q := by
  have h := (Go.eti kt kf)
  exact Go.n tb_X2_turned 2 h
theorem b_X2_turned_74 {d : Nat} {S : zS} {I : zI} {J : zJ} {Q : zQ} {x0 : Int32} {x1 : Int32} {x2 : Int32} {x3 : Int32} {x4 : Int32} {x5 : Int32} {x6 : Int32} {x7 : Int32} {x8 : Int32} {x9 : Int32} {v10 : Value} (kk : z_wp d i_J9_floorMod_7cf53 [.int x9, .int x4] S I J (fun vv SS II JJ => Go d i_X2_turned 92 [.int x0, .int x1, .int x2, .int x3, .int x4, .int x5, .int x6, .int x7, .int x8, .int x9, .int x6] (vv.toList ++ []) SS II JJ Q)) : Go d i_X2_turned 74 [.int x0, .int x1, .int x2, .int x3, .int x4, .int x5, .int x6, .int x7, .int x8, .int x9, v10] [] S I J Q := by
  have h := (And.intro trivial kk)
  exact Go.n tb_X2_turned 6 h
theorem b_X2_turned_79 {d : Nat} {S : zS} {I : zI} {J : zJ} {Q : zQ} {x0 : Int32} {x1 : Int32} {x2 : Int32} {x3 : Int32} {x4 : Int32} {x5 : Int32} {x6 : Int32} {x7 : Int32} {x8 : Int32} {x9 : Int32} {v10 : Value} (kk : z_wp d i_J9_floorMod_7cf53 [.int x9, .int x4] S I J (fun vv SS II JJ => Go d i_X2_turned 92 [.int x0, .int x1, .int x2, .int x3, .int x4, .int x5, .int x6, .int x7, .int x8, .int x9, .int ((1 : Int32) - x6)] (vv.toList ++ []) SS II JJ Q)) : Go d i_X2_turned 79 [.int x0, .int x1, .int x2, .int x3, .int x4, .int x5, .int x6, .int x7, .int x8, .int x9, v10] [] S I J Q := by
  have h := (And.intro trivial kk)
  exact Go.n tb_X2_turned 7 h
theorem b_X2_turned_92 {d : Nat} {S : zS} {I : zI} {J : zJ} {Q : zQ} {x0 : Int32} {x1 : Int32} {x2 : Int32} {x3 : Int32} {x4 : Int32} {x5 : Int32} {x6 : Int32} {x7 : Int32} {x8 : Int32} {x9 : Int32} {x10 : Int32} {y0 : Int32} (kk : Q (some (.int (y0 + (x4 * x10)))) S I J) : Go d i_X2_turned 92 [.int x0, .int x1, .int x2, .int x3, .int x4, .int x5, .int x6, .int x7, .int x8, .int x9, .int x10] [.int y0] S I J Q := by
  have h := (And.intro trivial kk)
  exact Go.n tb_X2_turned 5 h

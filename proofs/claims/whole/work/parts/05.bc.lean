theorem w_X8_init {d : Nat} {S : zS} {I : zI} {J : zJ} {Q : zQ} {h0 : Nat} {h1 : Nat} (h : Go d i_X8_init 0 [.ref h0, .ref h1] [] S I J Q) : z_wp (d + 1) i_X8_init [.ref h0, .ref h1] S I J Q := Go.wp (Nat.le_of_ble_eq_true rfl) h
theorem e_X8_init {d : Nat} {S S2 : zS} {I I2 : zI} {J J2 : zJ} {r : Option Value} {h0 : Nat} {h1 : Nat} (h : Go d i_X8_init 0 [.ref h0, .ref h1] [] S I J (z_eq r S2 I2 J2)) : z_ev (d + 1) i_X8_init [.ref h0, .ref h1] S I J r S2 I2 J2 := Go.ev (Nat.le_of_ble_eq_true rfl) h
theorem b_X8_init_0 {d : Nat} {S : zS} {I : zI} {J : zJ} {Q : zQ} {h0 : Nat} {h1 : Nat} (g1 : ¬ h0 = 0) (g2 : ¬ (20 : Int32) < 0 ∧ (Int32.toNatClampNeg (20 : Int32)) * 4 ≤ 536870912) (g3 : z_kd (z_new S 100 (Int32.toNatClampNeg (20 : Int32)) (Int32.toNatClampNeg (20 : Int32))) h0 = 9) (kk : Go d i_X8_init 12 [.ref h0, .ref h1] [] (z_setR (z_new S 100 (Int32.toNatClampNeg (20 : Int32)) (Int32.toNatClampNeg (20 : Int32))) h0 4 (z_sz S + 1)) (z_ur I (z_sz S + 1) (fun _ => 0)) J Q) : Go d i_X8_init 0 [.ref h0, .ref h1] [] S I J Q := by
  have h := (And.intro g1 (And.intro g2 (And.intro g3 kk)))
  exact Go.n tb_X8_init 6 h
theorem b_X8_init_12 {d : Nat} {S : zS} {I : zI} {J : zJ} {Q : zQ} {h0 : Nat} {h1 : Nat} (g1 : ¬ (20 : Int32) < 0 ∧ (Int32.toNatClampNeg (20 : Int32)) * 4 ≤ 536870912) (g2 : z_kd (z_new S 100 (Int32.toNatClampNeg (20 : Int32)) (Int32.toNatClampNeg (20 : Int32))) h0 = 9) (kk : Go d i_X8_init 20 [.ref h0, .ref h1] [] (z_setR (z_new S 100 (Int32.toNatClampNeg (20 : Int32)) (Int32.toNatClampNeg (20 : Int32))) h0 5 (z_sz S + 1)) (z_ur I (z_sz S + 1) (fun _ => 0)) J Q) : Go d i_X8_init 12 [.ref h0, .ref h1] [] S I J Q := by
  have h := (And.intro g1 (And.intro g2 kk))
  exact Go.n tb_X8_init 4 h
theorem b_X8_init_20 {d : Nat} {S : zS} {I : zI} {J : zJ} {Q : zQ} {h0 : Nat} {h1 : Nat} (g1 : ¬ (20 : Int32) < 0 ∧ (Int32.toNatClampNeg (20 : Int32)) * 4 ≤ 536870912) (g2 : z_kd (z_new S 100 (Int32.toNatClampNeg (20 : Int32)) (Int32.toNatClampNeg (20 : Int32))) h0 = 9) (kk : Go d i_X8_init 28 [.ref h0, .ref h1] [] (z_setR (z_new S 100 (Int32.toNatClampNeg (20 : Int32)) (Int32.toNatClampNeg (20 : Int32))) h0 6 (z_sz S + 1)) (z_ur I (z_sz S + 1) (fun _ => 0)) J Q) : Go d i_X8_init 20 [.ref h0, .ref h1] [] S I J Q := by
  have h := (And.intro g1 (And.intro g2 kk))
  exact Go.n tb_X8_init 4 h
theorem b_X8_init_28 {d : Nat} {S : zS} {I : zI} {J : zJ} {Q : zQ} {h0 : Nat} {h1 : Nat} (g1 : ¬ (z_sz S + 1) = 0) (kk : z_wp d i_X0_init [.ref (z_sz S + 1)] (z_new S 1 0 9) (z_ur I (z_sz S + 1) (fun _ => 0)) (z_ur J (z_sz S + 1) (fun _ => 0)) (fun vv SS II JJ => Go d i_X8_init 36 [.ref h0, .ref h1] (vv.toList ++ [.ref (z_sz S + 1), .ref h0]) SS II JJ Q)) : Go d i_X8_init 28 [.ref h0, .ref h1] [] S I J Q := by
  have h := (And.intro g1 kk)
  exact Go.n tb_X8_init 4 h
theorem b_X8_init_36 {d : Nat} {S : zS} {I : zI} {J : zJ} {Q : zQ} {h0 : Nat} {h1 : Nat} {q0 : Nat} {q1 : Nat} (g1 : z_kd S q0 = 9) (kk : Go d i_X8_init 39 [.ref h0, .ref h1] [] (z_setR S q0 10 q1) I J Q) : Go d i_X8_init 36 [.ref h0, .ref h1] [.ref q1, .ref q0] S I J Q := by
  have h := (And.intro g1 kk)
  exact Go.n tb_X8_init 1 h
theorem b_X8_init_39 {d : Nat} {S : zS} {I : zI} {J : zJ} {Q : zQ} {h0 : Nat} {h1 : Nat} (g1 : z_kd S h0 = 9) (kk : Go d i_X8_init 44 [.ref h0, .ref h1] [] (z_setR S h0 0 h1) I J Q) : Go d i_X8_init 39 [.ref h0, .ref h1] [] S I J Q := by
  have h := (And.intro g1 kk)
  exact Go.n tb_X8_init 3 h
theorem b_X8_init_44 {d : Nat} {S : zS} {I : zI} {J : zJ} {Q : zQ} {h0 : Nat} {h1 : Nat} (kk : Q none S I J) : Go d i_X8_init 44 [.ref h0, .ref h1] [] S I J Q := by
  have h := (And.intro trivial kk)
  exact Go.n tb_X8_init 1 h
theorem w_X8_become {d : Nat} {S : zS} {I : zI} {J : zJ} {Q : zQ} {h0 : Nat} {h1 : Nat} {x2 : Int32} (h : Go d i_X8_become 0 [.ref h0, .ref h1, .int x2] [] S I J Q) : z_wp (d + 1) i_X8_become [.ref h0, .ref h1, .int x2] S I J Q := Go.wp (Nat.le_of_ble_eq_true rfl) h
theorem e_X8_become {d : Nat} {S S2 : zS} {I I2 : zI} {J J2 : zJ} {r : Option Value} {h0 : Nat} {h1 : Nat} {x2 : Int32} (h : Go d i_X8_become 0 [.ref h0, .ref h1, .int x2] [] S I J (z_eq r S2 I2 J2)) : z_ev (d + 1) i_X8_become [.ref h0, .ref h1, .int x2] S I J r S2 I2 J2 := Go.ev (Nat.le_of_ble_eq_true rfl) h
theorem b_X8_become_0 {d : Nat} {S : zS} {I : zI} {J : zJ} {Q : zQ} {h0 : Nat} {h1 : Nat} {x2 : Int32} (g1 : z_kd S h0 = 9) (g2 : z_kd (z_setR S h0 0 h1) h0 = 9) (g3 : z_kd (z_setR S h0 0 h1) h0 = 9) (g4 : z_kd (z_setR S h0 0 h1) h0 = 9) (g5 : z_kd (z_setR S h0 0 h1) h0 = 9 ∧ ((0 : Int32) = 0 ∨ (0 : Int32) = 1)) (g6 : z_kd (z_setR S h0 0 h1) h0 = 9 ∧ ((0 : Int32) = 0 ∨ (0 : Int32) = 1)) (kk : Q none (z_setR S h0 0 h1) (z_u2 (z_u2 (z_u2 (z_u2 I h0 1 x2) h0 3 (0 : Int32)) h0 8 (0 : Int32)) h0 9 (0 : Int32)) (z_u2 J h0 2 (0 : Int64))) : Go d i_X8_become 0 [.ref h0, .ref h1, .int x2] [] S I J Q := by
  have h := (And.intro g1 (And.intro g2 (And.intro g3 (And.intro g4 (And.intro g5 (And.intro g6 (And.intro trivial kk)))))))
  exact Go.n tb_X8_become 19 h
theorem w_X8_painted {d : Nat} {S : zS} {I : zI} {J : zJ} {Q : zQ} {h0 : Nat} (h : Go d i_X8_painted 0 [.ref h0] [] S I J Q) : z_wp (d + 1) i_X8_painted [.ref h0] S I J Q := Go.wp (Nat.le_of_ble_eq_true rfl) h
theorem e_X8_painted {d : Nat} {S S2 : zS} {I I2 : zI} {J J2 : zJ} {r : Option Value} {h0 : Nat} (h : Go d i_X8_painted 0 [.ref h0] [] S I J (z_eq r S2 I2 J2)) : z_ev (d + 1) i_X8_painted [.ref h0] S I J r S2 I2 J2 := Go.ev (Nat.le_of_ble_eq_true rfl) h
theorem b_X8_painted_0 {d : Nat} {S : zS} {I : zI} {J : zJ} {Q : zQ} {h0 : Nat} (g1 : z_kd S h0 = 9) (kt : ¬ (I h0 9) = (0 : Int32) → Go d i_X8_painted 38 [.ref h0] [] S I J Q) (kf : (I h0 9) = (0 : Int32) → Go d i_X8_painted 7 [.ref h0] [] S I J Q) : Go d i_X8_painted 0 [.ref h0] [] S I J Q := by
  have h := (And.intro g1 (Go.eti kt kf))
  exact Go.n tb_X8_painted 3 h
theorem b_X8_painted_7 {d : Nat} {S : zS} {I : zI} {J : zJ} {Q : zQ} {h0 : Nat} (g1 : z_kd S h0 = 9) (g2 : z_kd S h0 = 9) (g3 : z_kd S h0 = 9) (g4 : z_kd S (z_rv S h0 10) = 1) (kk : z_wp d i_X0_paint [.ref (z_rv S h0 10), .ref (z_rv S h0 0), .int (I h0 1)] S I J (fun vv SS II JJ => Go d i_X8_painted 22 [.ref h0] (vv.toList ++ []) SS II JJ Q)) : Go d i_X8_painted 7 [.ref h0] [] S I J Q := by
  have h := (And.intro g1 (And.intro g2 (And.intro g3 (And.intro g4 kk))))
  exact Go.n tb_X8_painted 7 h
theorem b_X8_painted_22 {d : Nat} {S : zS} {I : zI} {J : zJ} {Q : zQ} {h0 : Nat} (g1 : z_kd S h0 = 9) (g2 : z_kd S h0 = 9) (g3 : z_kd S (z_rv S h0 10) = 1) (kk : z_wp d i_X0_spreadOut [.ref (z_rv S h0 10), .ref (z_rv S h0 0)] S I J (fun vv SS II JJ => Go d i_X8_painted 33 [.ref h0] (vv.toList ++ []) SS II JJ Q)) : Go d i_X8_painted 22 [.ref h0] [] S I J Q := by
  have h := (And.intro g1 (And.intro g2 (And.intro g3 kk)))
  exact Go.n tb_X8_painted 5 h
theorem b_X8_painted_33 {d : Nat} {S : zS} {I : zI} {J : zJ} {Q : zQ} {h0 : Nat} (g1 : z_kd S h0 = 9 ∧ ((1 : Int32) = 0 ∨ (1 : Int32) = 1)) (g2 : z_kd S h0 = 9) (kk : Q (some (.ref (z_rv S h0 10))) S (z_u2 I h0 9 (1 : Int32)) J) : Go d i_X8_painted 33 [.ref h0] [] S I J Q := by
  have h := (And.intro g1 (And.intro g2 (And.intro trivial kk)))
  exact Go.n tb_X8_painted 6 h
theorem b_X8_painted_38 {d : Nat} {S : zS} {I : zI} {J : zJ} {Q : zQ} {h0 : Nat} (g1 : z_kd S h0 = 9) (kk : Q (some (.ref (z_rv S h0 10))) S I J) : Go d i_X8_painted 38 [.ref h0] [] S I J Q := by
  have h := (And.intro g1 (And.intro trivial kk))
  exact Go.n tb_X8_painted 3 h
theorem w_X8_measure {d : Nat} {S : zS} {I : zI} {J : zJ} {Q : zQ} {h0 : Nat} (h : Go d i_X8_measure 0 [.ref h0, .retAddr 0, .retAddr 0, .retAddr 0, .retAddr 0] [] S I J Q) : z_wp (d + 1) i_X8_measure [.ref h0] S I J Q := Go.wp (Nat.le_of_ble_eq_true rfl) h
theorem e_X8_measure {d : Nat} {S S2 : zS} {I I2 : zI} {J J2 : zJ} {r : Option Value} {h0 : Nat} (h : Go d i_X8_measure 0 [.ref h0, .retAddr 0, .retAddr 0, .retAddr 0, .retAddr 0] [] S I J (z_eq r S2 I2 J2)) : z_ev (d + 1) i_X8_measure [.ref h0] S I J r S2 I2 J2 := Go.ev (Nat.le_of_ble_eq_true rfl) h
theorem b_X8_measure_0 {d : Nat} {S : zS} {I : zI} {J : zJ} {Q : zQ} {h0 : Nat} {v1 : Value} {v2 : Value} {v3 : Value} {v4 : Value} (g1 : z_kd S h0 = 9) (kt : (I h0 8) = (0 : Int32) → Go d i_X8_measure 8 [.ref h0, v1, v2, v3, v4] [] S I J Q) (kf : ¬ (I h0 8) = (0 : Int32) → Go d i_X8_measure 7 [.ref h0, v1, v2, v3, v4] [] S I J Q) : Go d i_X8_measure 0 [.ref h0, v1, v2, v3, v4] [] S I J Q := by
  have h := (And.intro g1 (Go.ite kt kf))
  exact Go.n tb_X8_measure 3 h
theorem b_X8_measure_7 {d : Nat} {S : zS} {I : zI} {J : zJ} {Q : zQ} {h0 : Nat} {v1 : Value} {v2 : Value} {v3 : Value} {v4 : Value} (kk : Q none S I J) : Go d i_X8_measure 7 [.ref h0, v1, v2, v3, v4] [] S I J Q := by
  have h := (And.intro trivial kk)
  exact Go.n tb_X8_measure 1 h
theorem b_X8_measure_8 {d : Nat} {S : zS} {I : zI} {J : zJ} {Q : zQ} {h0 : Nat} {v1 : Value} {v2 : Value} {v3 : Value} {v4 : Value} (kk : Go d i_X8_measure 10 [.ref h0, .int (0 : Int32), v2, v3, v4] [] S I J Q) : Go d i_X8_measure 8 [.ref h0, v1, v2, v3, v4] [] S I J Q := by
  have h := kk
  exact Go.n tb_X8_measure 2 h
theorem b_X8_measure_10 {d : Nat} {S : zS} {I : zI} {J : zJ} {Q : zQ} {h0 : Nat} {x1 : Int32} {v2 : Value} {v3 : Value} {v4 : Value} (g1 : z_kd S h0 = 9) (g2 : z_kd S (z_rv S h0 0) = 2) (kt : (I (z_rv S h0 0) 0) ≤ x1 → Go d i_X8_measure 52 [.ref h0, .int x1, v2, v3, v4] [] S I J Q) (kf : ¬ (I (z_rv S h0 0) 0) ≤ x1 → Go d i_X8_measure 21 [.ref h0, .int x1, v2, v3, v4] [] S I J Q) : Go d i_X8_measure 10 [.ref h0, .int x1, v2, v3, v4] [] S I J Q := by
  have h := (And.intro g1 (And.intro g2 (Go.ite kt kf)))
  exact Go.n tb_X8_measure 5 h
theorem b_X8_measure_21 {d : Nat} {S : zS} {I : zI} {J : zJ} {Q : zQ} {h0 : Nat} {x1 : Int32} {v2 : Value} {v3 : Value} {v4 : Value} (g1 : z_kd S h0 = 9) (g2 : z_kd S h0 = 9) (g3 : z_kd S h0 = 9) (g4 : z_kd S (z_rv S h0 0) = 2) (kk : z_wp d i_X1_shifted [.ref (z_rv S h0 0), .int x1, .int (I h0 1)] S I J (fun vv SS II JJ => Go d i_X8_measure 38 [.ref h0, .int x1, v2, v3, v4] (vv.toList ++ [.int x1, .ref (z_rv S h0 5)]) SS II JJ Q)) : Go d i_X8_measure 21 [.ref h0, .int x1, v2, v3, v4] [] S I J Q := by
  have h := (And.intro g1 (And.intro g2 (And.intro g3 (And.intro g4 kk))))
  exact Go.n tb_X8_measure 9 h
theorem b_X8_measure_38 {d : Nat} {S : zS} {I : zI} {J : zJ} {Q : zQ} {h0 : Nat} {x1 : Int32} {v2 : Value} {v3 : Value} {v4 : Value} {q0 : Nat} {y1 : Int32} {y2 : Int32} (g1 : z_kd S q0 = 100 ∧ vp_in y1 (z_ln S q0)) (g2 : z_kd S h0 = 9) (g3 : z_kd S (z_rv S h0 6) = 100 ∧ vp_in x1 (z_ln S (z_rv S h0 6))) (kk : Go d i_X8_measure 10 [.ref h0, .int (x1 + (1 : Int32)), v2, v3, v4] [] S (z_u2 (z_u2 I q0 (Int32.toNatClampNeg y1) y2) (z_rv S h0 6) (Int32.toNatClampNeg x1) (-1 : Int32)) J Q) : Go d i_X8_measure 38 [.ref h0, .int x1, v2, v3, v4] [.int y2, .int y1, .ref q0] S I J Q := by
  have h := (And.intro g1 (And.intro g2 (And.intro g3 kk)))
  exact Go.n tb_X8_measure 8 h
theorem b_X8_measure_52 {d : Nat} {S : zS} {I : zI} {J : zJ} {Q : zQ} {h0 : Nat} {x1 : Int32} {v2 : Value} {v3 : Value} {v4 : Value} (kk : Go d i_X8_measure 58 [.ref h0, .int (0 : Int32), .int (1 : Int32), .int (0 : Int32), v4] [] S I J Q) : Go d i_X8_measure 52 [.ref h0, .int x1, v2, v3, v4] [] S I J Q := by
  have h := kk
  exact Go.n tb_X8_measure 6 h
theorem b_X8_measure_58 {d : Nat} {S : zS} {I : zI} {J : zJ} {Q : zQ} {h0 : Nat} {x1 : Int32} {x2 : Int32} {x3 : Int32} {v4 : Value} (g1 : z_kd S h0 = 9) (g2 : z_kd S (z_rv S h0 0) = 2) (kt : (I (z_rv S h0 0) 0) ≤ x3 → Go d i_X8_measure 136 [.ref h0, .int x1, .int x2, .int x3, v4] [] S I J Q) (kf : ¬ (I (z_rv S h0 0) 0) ≤ x3 → Go d i_X8_measure 69 [.ref h0, .int x1, .int x2, .int x3, v4] [] S I J Q) : Go d i_X8_measure 58 [.ref h0, .int x1, .int x2, .int x3, v4] [] S I J Q := by
  have h := (And.intro g1 (And.intro g2 (Go.ite kt kf)))
  exact Go.n tb_X8_measure 5 h
theorem b_X8_measure_69 {d : Nat} {S : zS} {I : zI} {J : zJ} {Q : zQ} {h0 : Nat} {x1 : Int32} {x2 : Int32} {x3 : Int32} {v4 : Value} (kt : x2 = (0 : Int32) → Go d i_X8_measure 136 [.ref h0, .int x1, .int x2, .int x3, v4] [] S I J Q) (kf : ¬ x2 = (0 : Int32) → Go d i_X8_measure 73 [.ref h0, .int x1, .int x2, .int x3, v4] [] S I J Q) : Go d i_X8_measure 69 [.ref h0, .int x1, .int x2, .int x3, v4] [] S I J Q := by
  have h := (Go.ite kt kf)
  exact Go.n tb_X8_measure 2 h
theorem b_X8_measure_73 {d : Nat} {S : zS} {I : zI} {J : zJ} {Q : zQ} {h0 : Nat} {x1 : Int32} {x2 : Int32} {x3 : Int32} {v4 : Value} (kk : Go d i_X8_measure 76 [.ref h0, .int x1, .int x2, .int x3, .int (0 : Int32)] [] S I J Q) : Go d i_X8_measure 73 [.ref h0, .int x1, .int x2, .int x3, v4] [] S I J Q := by
  have h := kk
  exact Go.n tb_X8_measure 2 h
theorem b_X8_measure_76 {d : Nat} {S : zS} {I : zI} {J : zJ} {Q : zQ} {h0 : Nat} {x1 : Int32} {x2 : Int32} {x3 : Int32} {x4 : Int32} (g1 : z_kd S h0 = 9) (g2 : z_kd S (z_rv S h0 0) = 2) (kt : (I (z_rv S h0 0) 0) ≤ x4 → Go d i_X8_measure 111 [.ref h0, .int x1, .int x2, .int x3, .int x4] [] S I J Q) (kf : ¬ (I (z_rv S h0 0) 0) ≤ x4 → Go d i_X8_measure 88 [.ref h0, .int x1, .int x2, .int x3, .int x4] [] S I J Q) : Go d i_X8_measure 76 [.ref h0, .int x1, .int x2, .int x3, .int x4] [] S I J Q := by
  have h := (And.intro g1 (And.intro g2 (Go.ite kt kf)))
  exact Go.n tb_X8_measure 5 h
theorem b_X8_measure_88 {d : Nat} {S : zS} {I : zI} {J : zJ} {Q : zQ} {h0 : Nat} {x1 : Int32} {x2 : Int32} {x3 : Int32} {x4 : Int32} (kt : ((x2 >>> (x4 &&& 31)) &&& (1 : Int32)) = (0 : Int32) → Go d i_X8_measure 105 [.ref h0, .int x1, .int x2, .int x3, .int x4] [] S I J Q) (kf : ¬ ((x2 >>> (x4 &&& 31)) &&& (1 : Int32)) = (0 : Int32) → Go d i_X8_measure 97 [.ref h0, .int x1, .int x2, .int x3, .int x4] [] S I J Q) : Go d i_X8_measure 88 [.ref h0, .int x1, .int x2, .int x3, .int x4] [] S I J Q := by
  have h := (Go.ite kt kf)
  exact Go.n tb_X8_measure 6 h
theorem b_X8_measure_97 {d : Nat} {S : zS} {I : zI} {J : zJ} {Q : zQ} {h0 : Nat} {x1 : Int32} {x2 : Int32} {x3 : Int32} {x4 : Int32} (g1 : z_kd S h0 = 9) (g2 : z_kd S (z_rv S h0 6) = 100 ∧ vp_in x4 (z_ln S (z_rv S h0 6))) (kk : Go d i_X8_measure 76 [.ref h0, .int x1, .int x2, .int x3, .int (x4 + (1 : Int32))] [] S (z_u2 I (z_rv S h0 6) (Int32.toNatClampNeg x4) x3) J Q) : Go d i_X8_measure 97 [.ref h0, .int x1, .int x2, .int x3, .int x4] [] S I J Q := by
  have h := (And.intro g1 (And.intro g2 kk))
  exact Go.n tb_X8_measure 7 h
theorem b_X8_measure_105 {d : Nat} {S : zS} {I : zI} {J : zJ} {Q : zQ} {h0 : Nat} {x1 : Int32} {x2 : Int32} {x3 : Int32} {x4 : Int32} (kk : Go d i_X8_measure 76 [.ref h0, .int x1, .int x2, .int x3, .int (x4 + (1 : Int32))] [] S I J Q) : Go d i_X8_measure 105 [.ref h0, .int x1, .int x2, .int x3, .int x4] [] S I J Q := by
  have h := kk
  exact Go.n tb_X8_measure 2 h
theorem b_X8_measure_111 {d : Nat} {S : zS} {I : zI} {J : zJ} {Q : zQ} {h0 : Nat} {x1 : Int32} {x2 : Int32} {x3 : Int32} {x4 : Int32} (g1 : z_kd S h0 = 9) (g2 : z_kd S h0 = 9) (kk : z_wp d i_X8_along [.ref h0, .int x2] S (z_u2 I h0 7 x3) J (fun vv SS II JJ => Go d i_X8_measure 125 [.ref h0, .int (x1 ||| x2), .int x2, .int x3, .int x4] (vv.toList ++ []) SS II JJ Q)) : Go d i_X8_measure 111 [.ref h0, .int x1, .int x2, .int x3, .int x4] [] S I J Q := by
  have h := (And.intro g1 (And.intro g2 kk))
  exact Go.n tb_X8_measure 10 h
theorem b_X8_measure_125 {d : Nat} {S : zS} {I : zI} {J : zJ} {Q : zQ} {h0 : Nat} {x1 : Int32} {x2 : Int32} {x3 : Int32} {x4 : Int32} {y0 : Int32} (kk : Go d i_X8_measure 58 [.ref h0, .int x1, .int (y0 &&& (x1 ^^^ (-1 : Int32))), .int (x3 + (1 : Int32)), .int x4] [] S I J Q) : Go d i_X8_measure 125 [.ref h0, .int x1, .int x2, .int x3, .int x4] [.int y0] S I J Q := by
  have h := kk
  exact Go.n tb_X8_measure 7 h
theorem b_X8_measure_136 {d : Nat} {S : zS} {I : zI} {J : zJ} {Q : zQ} {h0 : Nat} {x1 : Int32} {x2 : Int32} {x3 : Int32} {v4 : Value} (g1 : z_kd S h0 = 9 ∧ ((1 : Int32) = 0 ∨ (1 : Int32) = 1)) (kk : Q none S (z_u2 I h0 8 (1 : Int32)) J) : Go d i_X8_measure 136 [.ref h0, .int x1, .int x2, .int x3, v4] [] S I J Q := by
  have h := (And.intro g1 (And.intro trivial kk))
  exact Go.n tb_X8_measure 4 h
theorem w_X8_along {d : Nat} {S : zS} {I : zI} {J : zJ} {Q : zQ} {h0 : Nat} {x1 : Int32} (h : Go d i_X8_along 0 [.ref h0, .int x1, .retAddr 0, .retAddr 0] [] S I J Q) : z_wp (d + 1) i_X8_along [.ref h0, .int x1] S I J Q := Go.wp (Nat.le_of_ble_eq_true rfl) h
theorem e_X8_along {d : Nat} {S S2 : zS} {I I2 : zI} {J J2 : zJ} {r : Option Value} {h0 : Nat} {x1 : Int32} (h : Go d i_X8_along 0 [.ref h0, .int x1, .retAddr 0, .retAddr 0] [] S I J (z_eq r S2 I2 J2)) : z_ev (d + 1) i_X8_along [.ref h0, .int x1] S I J r S2 I2 J2 := Go.ev (Nat.le_of_ble_eq_true rfl) h
theorem b_X8_along_0 {d : Nat} {S : zS} {I : zI} {J : zJ} {Q : zQ} {h0 : Nat} {x1 : Int32} {v2 : Value} {v3 : Value} (kk : Go d i_X8_along 4 [.ref h0, .int x1, .int (0 : Int32), .int (0 : Int32)] [] S I J Q) : Go d i_X8_along 0 [.ref h0, .int x1, v2, v3] [] S I J Q := by
  have h := kk
  exact Go.n tb_X8_along 4 h
theorem b_X8_along_4 {d : Nat} {S : zS} {I : zI} {J : zJ} {Q : zQ} {h0 : Nat} {x1 : Int32} {x2 : Int32} {x3 : Int32} (g1 : z_kd S h0 = 9) (g2 : z_kd S (z_rv S h0 0) = 2) (kt : (I (z_rv S h0 0) 0) ≤ x3 → Go d i_X8_along 38 [.ref h0, .int x1, .int x2, .int x3] [] S I J Q) (kf : ¬ (I (z_rv S h0 0) 0) ≤ x3 → Go d i_X8_along 15 [.ref h0, .int x1, .int x2, .int x3] [] S I J Q) : Go d i_X8_along 4 [.ref h0, .int x1, .int x2, .int x3] [] S I J Q := by
  have h := (And.intro g1 (And.intro g2 (Go.ite kt kf)))
  exact Go.n tb_X8_along 5 h
theorem b_X8_along_15 {d : Nat} {S : zS} {I : zI} {J : zJ} {Q : zQ} {h0 : Nat} {x1 : Int32} {x2 : Int32} {x3 : Int32} (kt : ((x1 >>> (x3 &&& 31)) &&& (1 : Int32)) = (0 : Int32) → Go d i_X8_along 32 [.ref h0, .int x1, .int x2, .int x3] [] S I J Q) (kf : ¬ ((x1 >>> (x3 &&& 31)) &&& (1 : Int32)) = (0 : Int32) → Go d i_X8_along 23 [.ref h0, .int x1, .int x2, .int x3] [] S I J Q) : Go d i_X8_along 15 [.ref h0, .int x1, .int x2, .int x3] [] S I J Q := by
  have h := (Go.ite kt kf)
  exact Go.n tb_X8_along 6 h
theorem b_X8_along_23 {d : Nat} {S : zS} {I : zI} {J : zJ} {Q : zQ} {h0 : Nat} {x1 : Int32} {x2 : Int32} {x3 : Int32} (g1 : z_kd S h0 = 9) (g2 : z_isI (z_kd S (z_rv S h0 5)) = true ∧ vp_in x3 (z_ln S (z_rv S h0 5))) (kk : Go d i_X8_along 4 [.ref h0, .int x1, .int (x2 ||| (I (z_rv S h0 5) (Int32.toNatClampNeg x3))), .int (x3 + (1 : Int32))] [] S I J Q) : Go d i_X8_along 23 [.ref h0, .int x1, .int x2, .int x3] [] S I J Q := by
  have h := (And.intro g1 (And.intro g2 kk))
  exact Go.n tb_X8_along 9 h
theorem b_X8_along_32 {d : Nat} {S : zS} {I : zI} {J : zJ} {Q : zQ} {h0 : Nat} {x1 : Int32} {x2 : Int32} {x3 : Int32} (kk : Go d i_X8_along 4 [.ref h0, .int x1, .int x2, .int (x3 + (1 : Int32))] [] S I J Q) : Go d i_X8_along 32 [.ref h0, .int x1, .int x2, .int x3] [] S I J Q := by
  have h := kk
  exact Go.n tb_X8_along 2 h
theorem b_X8_along_38 {d : Nat} {S : zS} {I : zI} {J : zJ} {Q : zQ} {h0 : Nat} {x1 : Int32} {x2 : Int32} {x3 : Int32} (kk : Q (some (.int x2)) S I J) : Go d i_X8_along 38 [.ref h0, .int x1, .int x2, .int x3] [] S I J Q := by
  have h := (And.intro trivial kk)
  exact Go.n tb_X8_along 2 h
theorem w_X8_distance {d : Nat} {S : zS} {I : zI} {J : zJ} {Q : zQ} {h0 : Nat} {x1 : Int32} {x2 : Int32} (h : Go d i_X8_distance 0 [.ref h0, .int x1, .int x2] [] S I J Q) : z_wp (d + 1) i_X8_distance [.ref h0, .int x1, .int x2] S I J Q := Go.wp (Nat.le_of_ble_eq_true rfl) h
theorem e_X8_distance {d : Nat} {S S2 : zS} {I I2 : zI} {J J2 : zJ} {r : Option Value} {h0 : Nat} {x1 : Int32} {x2 : Int32} (h : Go d i_X8_distance 0 [.ref h0, .int x1, .int x2] [] S I J (z_eq r S2 I2 J2)) : z_ev (d + 1) i_X8_distance [.ref h0, .int x1, .int x2] S I J r S2 I2 J2 := Go.ev (Nat.le_of_ble_eq_true rfl) h
theorem b_X8_distance_0 {d : Nat} {S : zS} {I : zI} {J : zJ} {Q : zQ} {h0 : Nat} {x1 : Int32} {x2 : Int32} (g1 : z_kd S h0 = 9) (kk : z_wp d i_X8_measure [.ref h0] S I J (fun vv SS II JJ => Go d i_X8_distance 4 [.ref h0, .int x1, .int x2] (vv.toList ++ []) SS II JJ Q)) : Go d i_X8_distance 0 [.ref h0, .int x1, .int x2] [] S I J Q := by
  have h := (And.intro g1 kk)
  exact Go.n tb_X8_distance 2 h
theorem b_X8_distance_4 {d : Nat} {S : zS} {I : zI} {J : zJ} {Q : zQ} {h0 : Nat} {x1 : Int32} {x2 : Int32} (g1 : z_kd S h0 = 9) (g2 : z_kd S h0 = 9) (g3 : z_kd S h0 = 9) (g4 : z_kd S (z_rv S h0 0) = 2) (g5 : z_isI (z_kd S (z_rv S (z_rv S h0 0) 2)) = true ∧ vp_in x1 (z_ln S (z_rv S (z_rv S h0 0) 2))) (g6 : z_kd S (z_rv S h0 0) = 2) (kk : z_wp d i_X1_times [.ref (z_rv S h0 0), .int (I (z_rv S (z_rv S h0 0) 2) (Int32.toNatClampNeg x1)), .int x2] S I J (fun vv SS II JJ => Go d i_X8_distance 25 [.ref h0, .int x1, .int x2] (vv.toList ++ [.ref (z_rv S h0 6)]) SS II JJ Q)) : Go d i_X8_distance 4 [.ref h0, .int x1, .int x2] [] S I J Q := by
  have h := (And.intro g1 (And.intro g2 (And.intro g3 (And.intro g4 (And.intro g5 (And.intro g6 kk))))))
  exact Go.n tb_X8_distance 11 h
theorem b_X8_distance_25 {d : Nat} {S : zS} {I : zI} {J : zJ} {Q : zQ} {h0 : Nat} {x1 : Int32} {x2 : Int32} {q0 : Nat} {y1 : Int32} (g1 : z_isI (z_kd S q0) = true ∧ vp_in y1 (z_ln S q0)) (kk : Q (some (.int (I q0 (Int32.toNatClampNeg y1)))) S I J) : Go d i_X8_distance 25 [.ref h0, .int x1, .int x2] [.int y1, .ref q0] S I J Q := by
  have h := (And.intro g1 (And.intro trivial kk))
  exact Go.n tb_X8_distance 2 h
theorem w_X8_deepest {d : Nat} {S : zS} {I : zI} {J : zJ} {Q : zQ} {h0 : Nat} (h : Go d i_X8_deepest 0 [.ref h0] [] S I J Q) : z_wp (d + 1) i_X8_deepest [.ref h0] S I J Q := Go.wp (Nat.le_of_ble_eq_true rfl) h
theorem e_X8_deepest {d : Nat} {S S2 : zS} {I I2 : zI} {J J2 : zJ} {r : Option Value} {h0 : Nat} (h : Go d i_X8_deepest 0 [.ref h0] [] S I J (z_eq r S2 I2 J2)) : z_ev (d + 1) i_X8_deepest [.ref h0] S I J r S2 I2 J2 := Go.ev (Nat.le_of_ble_eq_true rfl) h
theorem b_X8_deepest_0 {d : Nat} {S : zS} {I : zI} {J : zJ} {Q : zQ} {h0 : Nat} (g1 : z_kd S h0 = 9) (kk : z_wp d i_X8_measure [.ref h0] S I J (fun vv SS II JJ => Go d i_X8_deepest 4 [.ref h0] (vv.toList ++ []) SS II JJ Q)) : Go d i_X8_deepest 0 [.ref h0] [] S I J Q := by
  have h := (And.intro g1 kk)
  exact Go.n tb_X8_deepest 2 h
theorem b_X8_deepest_4 {d : Nat} {S : zS} {I : zI} {J : zJ} {Q : zQ} {h0 : Nat} (g1 : z_kd S h0 = 9) (kk : Q (some (.int (I h0 7))) S I J) : Go d i_X8_deepest 4 [.ref h0] [] S I J Q := by
  have h := (And.intro g1 (And.intro trivial kk))
  exact Go.n tb_X8_deepest 3 h
theorem w_X8_pointsAt {d : Nat} {S : zS} {I : zI} {J : zJ} {Q : zQ} {h0 : Nat} {x1 : Int32} (h : Go d i_X8_pointsAt 0 [.ref h0, .int x1, .retAddr 0, .retAddr 0] [] S I J Q) : z_wp (d + 1) i_X8_pointsAt [.ref h0, .int x1] S I J Q := Go.wp (Nat.le_of_ble_eq_true rfl) h
theorem e_X8_pointsAt {d : Nat} {S S2 : zS} {I I2 : zI} {J J2 : zJ} {r : Option Value} {h0 : Nat} {x1 : Int32} (h : Go d i_X8_pointsAt 0 [.ref h0, .int x1, .retAddr 0, .retAddr 0] [] S I J (z_eq r S2 I2 J2)) : z_ev (d + 1) i_X8_pointsAt [.ref h0, .int x1] S I J r S2 I2 J2 := Go.ev (Nat.le_of_ble_eq_true rfl) h
theorem b_X8_pointsAt_0 {d : Nat} {S : zS} {I : zI} {J : zJ} {Q : zQ} {h0 : Nat} {x1 : Int32} {v2 : Value} {v3 : Value} (g1 : z_kd S h0 = 9) (kk : z_wp d i_X8_measure [.ref h0] S I J (fun vv SS II JJ => Go d i_X8_pointsAt 4 [.ref h0, .int x1, v2, v3] (vv.toList ++ []) SS II JJ Q)) : Go d i_X8_pointsAt 0 [.ref h0, .int x1, v2, v3] [] S I J Q := by
  have h := (And.intro g1 kk)
  exact Go.n tb_X8_pointsAt 2 h
theorem b_X8_pointsAt_4 {d : Nat} {S : zS} {I : zI} {J : zJ} {Q : zQ} {h0 : Nat} {x1 : Int32} {v2 : Value} {v3 : Value} (kk : Go d i_X8_pointsAt 8 [.ref h0, .int x1, .int (0 : Int32), .int (0 : Int32)] [] S I J Q) : Go d i_X8_pointsAt 4 [.ref h0, .int x1, v2, v3] [] S I J Q := by
  have h := kk
  exact Go.n tb_X8_pointsAt 4 h
theorem b_X8_pointsAt_8 {d : Nat} {S : zS} {I : zI} {J : zJ} {Q : zQ} {h0 : Nat} {x1 : Int32} {x2 : Int32} {x3 : Int32} (g1 : z_kd S h0 = 9) (g2 : z_kd S (z_rv S h0 0) = 2) (kt : (I (z_rv S h0 0) 0) ≤ x3 → Go d i_X8_pointsAt 38 [.ref h0, .int x1, .int x2, .int x3] [] S I J Q) (kf : ¬ (I (z_rv S h0 0) 0) ≤ x3 → Go d i_X8_pointsAt 19 [.ref h0, .int x1, .int x2, .int x3] [] S I J Q) : Go d i_X8_pointsAt 8 [.ref h0, .int x1, .int x2, .int x3] [] S I J Q := by
  have h := (And.intro g1 (And.intro g2 (Go.ite kt kf)))
  exact Go.n tb_X8_pointsAt 5 h
theorem b_X8_pointsAt_19 {d : Nat} {S : zS} {I : zI} {J : zJ} {Q : zQ} {h0 : Nat} {x1 : Int32} {x2 : Int32} {x3 : Int32} (g1 : z_kd S h0 = 9) (g2 : z_isI (z_kd S (z_rv S h0 6)) = true ∧ vp_in x3 (z_ln S (z_rv S h0 6))) (kt : ¬ (I (z_rv S h0 6) (Int32.toNatClampNeg x3)) = x1 → Go d i_X8_pointsAt 32 [.ref h0, .int x1, .int x2, .int x3] [] S I J Q) (kf : (I (z_rv S h0 6) (Int32.toNatClampNeg x3)) = x1 → Go d i_X8_pointsAt 29 [.ref h0, .int x1, .int x2, .int x3] [] S I J Q) : Go d i_X8_pointsAt 19 [.ref h0, .int x1, .int x2, .int x3] [] S I J Q := by
  have h := (And.intro g1 (And.intro g2 (Go.eti kt kf)))
  exact Go.n tb_X8_pointsAt 6 h
theorem b_X8_pointsAt_29 {d : Nat} {S : zS} {I : zI} {J : zJ} {Q : zQ} {h0 : Nat} {x1 : Int32} {x2 : Int32} {x3 : Int32} (kk : Go d i_X8_pointsAt 8 [.ref h0, .int x1, .int (x2 + (1 : Int32)), .int (x3 + (1 : Int32))] [] S I J Q) : Go d i_X8_pointsAt 29 [.ref h0, .int x1, .int x2, .int x3] [] S I J Q := by
  have h := kk
  exact Go.n tb_X8_pointsAt 3 h
theorem b_X8_pointsAt_32 {d : Nat} {S : zS} {I : zI} {J : zJ} {Q : zQ} {h0 : Nat} {x1 : Int32} {x2 : Int32} {x3 : Int32} (kk : Go d i_X8_pointsAt 8 [.ref h0, .int x1, .int x2, .int (x3 + (1 : Int32))] [] S I J Q) : Go d i_X8_pointsAt 32 [.ref h0, .int x1, .int x2, .int x3] [] S I J Q := by
  have h := kk
  exact Go.n tb_X8_pointsAt 2 h
theorem b_X8_pointsAt_38 {d : Nat} {S : zS} {I : zI} {J : zJ} {Q : zQ} {h0 : Nat} {x1 : Int32} {x2 : Int32} {x3 : Int32} (kk : Q (some (.int x2)) S I J) : Go d i_X8_pointsAt 38 [.ref h0, .int x1, .int x2, .int x3] [] S I J Q := by
  have h := (And.intro trivial kk)
  exact Go.n tb_X8_pointsAt 2 h
theorem w_X8_stepOfWay {d : Nat} {S : zS} {I : zI} {J : zJ} {Q : zQ} {h0 : Nat} {x1 : Int32} {x2 : Int32} (h : Go d i_X8_stepOfWay 0 [.ref h0, .int x1, .int x2, .retAddr 0, .retAddr 0, .retAddr 0, .retAddr 0] [] S I J Q) : z_wp (d + 1) i_X8_stepOfWay [.ref h0, .int x1, .int x2] S I J Q := Go.wp (Nat.le_of_ble_eq_true rfl) h
theorem e_X8_stepOfWay {d : Nat} {S S2 : zS} {I I2 : zI} {J J2 : zJ} {r : Option Value} {h0 : Nat} {x1 : Int32} {x2 : Int32} (h : Go d i_X8_stepOfWay 0 [.ref h0, .int x1, .int x2, .retAddr 0, .retAddr 0, .retAddr 0, .retAddr 0] [] S I J (z_eq r S2 I2 J2)) : z_ev (d + 1) i_X8_stepOfWay [.ref h0, .int x1, .int x2] S I J r S2 I2 J2 := Go.ev (Nat.le_of_ble_eq_true rfl) h
theorem b_X8_stepOfWay_0 {d : Nat} {S : zS} {I : zI} {J : zJ} {Q : zQ} {h0 : Nat} {x1 : Int32} {x2 : Int32} {v3 : Value} {v4 : Value} {v5 : Value} {v6 : Value} (g1 : z_kd S h0 = 9) (kk : z_wp d i_X8_distance [.ref h0, .int (0 : Int32), .int x1] S I J (fun vv SS II JJ => Go d i_X8_stepOfWay 6 [.ref h0, .int x1, .int x2, v3, v4, v5, v6] (vv.toList ++ []) SS II JJ Q)) : Go d i_X8_stepOfWay 0 [.ref h0, .int x1, .int x2, v3, v4, v5, v6] [] S I J Q := by
  have h := (And.intro g1 kk)
  exact Go.n tb_X8_stepOfWay 4 h
theorem b_X8_stepOfWay_6 {d : Nat} {S : zS} {I : zI} {J : zJ} {Q : zQ} {h0 : Nat} {x1 : Int32} {x2 : Int32} {v3 : Value} {v4 : Value} {v5 : Value} {v6 : Value} {y0 : Int32} (kt : x2 < y0 → Go d i_X8_stepOfWay 14 [.ref h0, .int x1, .int x2, .int y0, v4, v5, v6] [] S I J Q) (kf : ¬ x2 < y0 → Go d i_X8_stepOfWay 12 [.ref h0, .int x1, .int x2, .int y0, v4, v5, v6] [] S I J Q) : Go d i_X8_stepOfWay 6 [.ref h0, .int x1, .int x2, v3, v4, v5, v6] [.int y0] S I J Q := by
  have h := (Go.ite kt kf)
  exact Go.n tb_X8_stepOfWay 4 h
theorem b_X8_stepOfWay_12 {d : Nat} {S : zS} {I : zI} {J : zJ} {Q : zQ} {h0 : Nat} {x1 : Int32} {x2 : Int32} {x3 : Int32} {v4 : Value} {v5 : Value} {v6 : Value} (kk : Q (some (.int (-1 : Int32))) S I J) : Go d i_X8_stepOfWay 12 [.ref h0, .int x1, .int x2, .int x3, v4, v5, v6] [] S I J Q := by
  have h := (And.intro trivial kk)
  exact Go.n tb_X8_stepOfWay 2 h
theorem b_X8_stepOfWay_14 {d : Nat} {S : zS} {I : zI} {J : zJ} {Q : zQ} {h0 : Nat} {x1 : Int32} {x2 : Int32} {x3 : Int32} {v4 : Value} {v5 : Value} {v6 : Value} (kk : Go d i_X8_stepOfWay 23 [.ref h0, .int x1, .int x2, .int x3, .int (0 : Int32), .int (-1 : Int32), .int (0 : Int32)] [] S I J Q) : Go d i_X8_stepOfWay 14 [.ref h0, .int x1, .int x2, .int x3, v4, v5, v6] [] S I J Q := by
  have h := kk
  exact Go.n tb_X8_stepOfWay 6 h
theorem b_X8_stepOfWay_23 {d : Nat} {S : zS} {I : zI} {J : zJ} {Q : zQ} {h0 : Nat} {x1 : Int32} {x2 : Int32} {x3 : Int32} {x4 : Int32} {x5 : Int32} {x6 : Int32} (kt : x2 < x6 → Go d i_X8_stepOfWay 65 [.ref h0, .int x1, .int x2, .int x3, .int x4, .int x5, .int x6] [] S I J Q) (kf : ¬ x2 < x6 → Go d i_X8_stepOfWay 29 [.ref h0, .int x1, .int x2, .int x3, .int x4, .int x5, .int x6] [] S I J Q) : Go d i_X8_stepOfWay 23 [.ref h0, .int x1, .int x2, .int x3, .int x4, .int x5, .int x6] [] S I J Q := by
  have h := (Go.ite kt kf)
  exact Go.n tb_X8_stepOfWay 3 h
theorem b_X8_stepOfWay_29 {d : Nat} {S : zS} {I : zI} {J : zJ} {Q : zQ} {h0 : Nat} {x1 : Int32} {x2 : Int32} {x3 : Int32} {x4 : Int32} {x5 : Int32} {x6 : Int32} (g1 : z_kd S h0 = 9) (kk : z_wp d i_X8_firstStepTowards [.ref h0, .int x4, .int x1] S I J (fun vv SS II JJ => Go d i_X8_stepOfWay 36 [.ref h0, .int x1, .int x2, .int x3, .int x4, .int x5, .int x6] (vv.toList ++ []) SS II JJ Q)) : Go d i_X8_stepOfWay 29 [.ref h0, .int x1, .int x2, .int x3, .int x4, .int x5, .int x6] [] S I J Q := by
  have h := (And.intro g1 kk)
  exact Go.n tb_X8_stepOfWay 4 h
theorem b_X8_stepOfWay_36 {d : Nat} {S : zS} {I : zI} {J : zJ} {Q : zQ} {h0 : Nat} {x1 : Int32} {x2 : Int32} {x3 : Int32} {x4 : Int32} {x5 : Int32} {x6 : Int32} {y0 : Int32} (kt : ¬ y0 = (-1 : Int32) → Go d i_X8_stepOfWay 46 [.ref h0, .int x1, .int x2, .int x3, .int x4, .int y0, .int x6] [] S I J Q) (kf : y0 = (-1 : Int32) → Go d i_X8_stepOfWay 44 [.ref h0, .int x1, .int x2, .int x3, .int x4, .int y0, .int x6] [] S I J Q) : Go d i_X8_stepOfWay 36 [.ref h0, .int x1, .int x2, .int x3, .int x4, .int x5, .int x6] [.int y0] S I J Q := by
  have h := (Go.eti kt kf)
  exact Go.n tb_X8_stepOfWay 4 h
theorem b_X8_stepOfWay_44 {d : Nat} {S : zS} {I : zI} {J : zJ} {Q : zQ} {h0 : Nat} {x1 : Int32} {x2 : Int32} {x3 : Int32} {x4 : Int32} {x5 : Int32} {x6 : Int32} (kk : Q (some (.int (-1 : Int32))) S I J) : Go d i_X8_stepOfWay 44 [.ref h0, .int x1, .int x2, .int x3, .int x4, .int x5, .int x6] [] S I J Q := by
  have h := (And.intro trivial kk)
  exact Go.n tb_X8_stepOfWay 2 h
theorem b_X8_stepOfWay_46 {d : Nat} {S : zS} {I : zI} {J : zJ} {Q : zQ} {h0 : Nat} {x1 : Int32} {x2 : Int32} {x3 : Int32} {x4 : Int32} {x5 : Int32} {x6 : Int32} (g1 : z_kd S h0 = 9) (g2 : z_kd S (z_rv S h0 0) = 2) (kk : z_wp d i_X1_times [.ref (z_rv S h0 0), .int x4, .int x5] S I J (fun vv SS II JJ => Go d i_X8_stepOfWay 57 [.ref h0, .int x1, .int x2, .int x3, .int x4, .int x5, .int x6] (vv.toList ++ []) SS II JJ Q)) : Go d i_X8_stepOfWay 46 [.ref h0, .int x1, .int x2, .int x3, .int x4, .int x5, .int x6] [] S I J Q := by
  have h := (And.intro g1 (And.intro g2 kk))
  exact Go.n tb_X8_stepOfWay 5 h
theorem b_X8_stepOfWay_57 {d : Nat} {S : zS} {I : zI} {J : zJ} {Q : zQ} {h0 : Nat} {x1 : Int32} {x2 : Int32} {x3 : Int32} {x4 : Int32} {x5 : Int32} {x6 : Int32} {y0 : Int32} (kk : Go d i_X8_stepOfWay 23 [.ref h0, .int x1, .int x2, .int x3, .int y0, .int x5, .int (x6 + (1 : Int32))] [] S I J Q) : Go d i_X8_stepOfWay 57 [.ref h0, .int x1, .int x2, .int x3, .int x4, .int x5, .int x6] [.int y0] S I J Q := by
  have h := kk
  exact Go.n tb_X8_stepOfWay 3 h
theorem b_X8_stepOfWay_65 {d : Nat} {S : zS} {I : zI} {J : zJ} {Q : zQ} {h0 : Nat} {x1 : Int32} {x2 : Int32} {x3 : Int32} {x4 : Int32} {x5 : Int32} {x6 : Int32} (kk : Q (some (.int x5)) S I J) : Go d i_X8_stepOfWay 65 [.ref h0, .int x1, .int x2, .int x3, .int x4, .int x5, .int x6] [] S I J Q := by
  have h := (And.intro trivial kk)
  exact Go.n tb_X8_stepOfWay 2 h
theorem w_X8_firstStepTowards {d : Nat} {S : zS} {I : zI} {J : zJ} {Q : zQ} {h0 : Nat} {x1 : Int32} {x2 : Int32} (h : Go d i_X8_firstStepTowards 0 [.ref h0, .int x1, .int x2, .retAddr 0, .retAddr 0] [] S I J Q) : z_wp (d + 1) i_X8_firstStepTowards [.ref h0, .int x1, .int x2] S I J Q := Go.wp (Nat.le_of_ble_eq_true rfl) h
theorem e_X8_firstStepTowards {d : Nat} {S S2 : zS} {I I2 : zI} {J J2 : zJ} {r : Option Value} {h0 : Nat} {x1 : Int32} {x2 : Int32} (h : Go d i_X8_firstStepTowards 0 [.ref h0, .int x1, .int x2, .retAddr 0, .retAddr 0] [] S I J (z_eq r S2 I2 J2)) : z_ev (d + 1) i_X8_firstStepTowards [.ref h0, .int x1, .int x2] S I J r S2 I2 J2 := Go.ev (Nat.le_of_ble_eq_true rfl) h
theorem b_X8_firstStepTowards_0 {d : Nat} {S : zS} {I : zI} {J : zJ} {Q : zQ} {h0 : Nat} {x1 : Int32} {x2 : Int32} {v3 : Value} {v4 : Value} (g1 : z_kd S h0 = 9) (kk : z_wp d i_X8_distance [.ref h0, .int x1, .int x2] S I J (fun vv SS II JJ => Go d i_X8_firstStepTowards 6 [.ref h0, .int x1, .int x2, v3, v4] (vv.toList ++ []) SS II JJ Q)) : Go d i_X8_firstStepTowards 0 [.ref h0, .int x1, .int x2, v3, v4] [] S I J Q := by
  have h := (And.intro g1 kk)
  exact Go.n tb_X8_firstStepTowards 4 h
theorem b_X8_firstStepTowards_6 {d : Nat} {S : zS} {I : zI} {J : zJ} {Q : zQ} {h0 : Nat} {x1 : Int32} {x2 : Int32} {v3 : Value} {v4 : Value} {y0 : Int32} (kk : Go d i_X8_firstStepTowards 10 [.ref h0, .int x1, .int x2, .int y0, .int (1 : Int32)] [] S I J Q) : Go d i_X8_firstStepTowards 6 [.ref h0, .int x1, .int x2, v3, v4] [.int y0] S I J Q := by
  have h := kk
  exact Go.n tb_X8_firstStepTowards 3 h
theorem b_X8_firstStepTowards_10 {d : Nat} {S : zS} {I : zI} {J : zJ} {Q : zQ} {h0 : Nat} {x1 : Int32} {x2 : Int32} {x3 : Int32} {x4 : Int32} (g1 : z_kd S h0 = 9) (g2 : z_kd S (z_rv S h0 0) = 2) (kt : (I (z_rv S h0 0) 0) ≤ x4 → Go d i_X8_firstStepTowards 64 [.ref h0, .int x1, .int x2, .int x3, .int x4] [] S I J Q) (kf : ¬ (I (z_rv S h0 0) 0) ≤ x4 → Go d i_X8_firstStepTowards 22 [.ref h0, .int x1, .int x2, .int x3, .int x4] [] S I J Q) : Go d i_X8_firstStepTowards 10 [.ref h0, .int x1, .int x2, .int x3, .int x4] [] S I J Q := by
  have h := (And.intro g1 (And.intro g2 (Go.ite kt kf)))
  exact Go.n tb_X8_firstStepTowards 5 h
theorem b_X8_firstStepTowards_22 {d : Nat} {S : zS} {I : zI} {J : zJ} {Q : zQ} {h0 : Nat} {x1 : Int32} {x2 : Int32} {x3 : Int32} {x4 : Int32} (g1 : z_kd S h0 = 9) (kt : (((I h0 1) >>> (x4 &&& 31)) &&& (1 : Int32)) = (0 : Int32) → Go d i_X8_firstStepTowards 58 [.ref h0, .int x1, .int x2, .int x3, .int x4] [] S I J Q) (kf : ¬ (((I h0 1) >>> (x4 &&& 31)) &&& (1 : Int32)) = (0 : Int32) → Go d i_X8_firstStepTowards 34 [.ref h0, .int x1, .int x2, .int x3, .int x4] [] S I J Q) : Go d i_X8_firstStepTowards 22 [.ref h0, .int x1, .int x2, .int x3, .int x4] [] S I J Q := by
  have h := (And.intro g1 (Go.ite kt kf))
  exact Go.n tb_X8_firstStepTowards 7 h
theorem b_X8_firstStepTowards_34 {d : Nat} {S : zS} {I : zI} {J : zJ} {Q : zQ} {h0 : Nat} {x1 : Int32} {x2 : Int32} {x3 : Int32} {x4 : Int32} (g1 : z_kd S h0 = 9) (g2 : z_kd S (z_rv S h0 0) = 2) (kk : z_wp d i_X1_times [.ref (z_rv S h0 0), .int x1, .int x4] S I J (fun vv SS II JJ => Go d i_X8_firstStepTowards 45 [.ref h0, .int x1, .int x2, .int x3, .int x4] (vv.toList ++ [.ref h0]) SS II JJ Q)) : Go d i_X8_firstStepTowards 34 [.ref h0, .int x1, .int x2, .int x3, .int x4] [] S I J Q := by
  have h := (And.intro g1 (And.intro g2 kk))
  exact Go.n tb_X8_firstStepTowards 6 h
theorem b_X8_firstStepTowards_45 {d : Nat} {S : zS} {I : zI} {J : zJ} {Q : zQ} {h0 : Nat} {x1 : Int32} {x2 : Int32} {x3 : Int32} {x4 : Int32} {q0 : Nat} {y1 : Int32} (g1 : z_kd S q0 = 9) (kk : z_wp d i_X8_distance [.ref q0, .int y1, .int x2] S I J (fun vv SS II JJ => Go d i_X8_firstStepTowards 49 [.ref h0, .int x1, .int x2, .int x3, .int x4] (vv.toList ++ []) SS II JJ Q)) : Go d i_X8_firstStepTowards 45 [.ref h0, .int x1, .int x2, .int x3, .int x4] [.int y1, .ref q0] S I J Q := by
  have h := (And.intro g1 kk)
  exact Go.n tb_X8_firstStepTowards 2 h
theorem b_X8_firstStepTowards_49 {d : Nat} {S : zS} {I : zI} {J : zJ} {Q : zQ} {h0 : Nat} {x1 : Int32} {x2 : Int32} {x3 : Int32} {x4 : Int32} {y0 : Int32} (kt : ¬ y0 = (x3 - (1 : Int32)) → Go d i_X8_firstStepTowards 58 [.ref h0, .int x1, .int x2, .int x3, .int x4] [] S I J Q) (kf : y0 = (x3 - (1 : Int32)) → Go d i_X8_firstStepTowards 55 [.ref h0, .int x1, .int x2, .int x3, .int x4] [] S I J Q) : Go d i_X8_firstStepTowards 49 [.ref h0, .int x1, .int x2, .int x3, .int x4] [.int y0] S I J Q := by
  have h := (Go.eti kt kf)
  exact Go.n tb_X8_firstStepTowards 4 h
theorem b_X8_firstStepTowards_55 {d : Nat} {S : zS} {I : zI} {J : zJ} {Q : zQ} {h0 : Nat} {x1 : Int32} {x2 : Int32} {x3 : Int32} {x4 : Int32} (kk : Q (some (.int x4)) S I J) : Go d i_X8_firstStepTowards 55 [.ref h0, .int x1, .int x2, .int x3, .int x4] [] S I J Q := by
  have h := (And.intro trivial kk)
  exact Go.n tb_X8_firstStepTowards 2 h
theorem b_X8_firstStepTowards_58 {d : Nat} {S : zS} {I : zI} {J : zJ} {Q : zQ} {h0 : Nat} {x1 : Int32} {x2 : Int32} {x3 : Int32} {x4 : Int32} (kk : Go d i_X8_firstStepTowards 10 [.ref h0, .int x1, .int x2, .int x3, .int (x4 + (1 : Int32))] [] S I J Q) : Go d i_X8_firstStepTowards 58 [.ref h0, .int x1, .int x2, .int x3, .int x4] [] S I J Q := by
  have h := kk
  exact Go.n tb_X8_firstStepTowards 2 h
theorem b_X8_firstStepTowards_64 {d : Nat} {S : zS} {I : zI} {J : zJ} {Q : zQ} {h0 : Nat} {x1 : Int32} {x2 : Int32} {x3 : Int32} {x4 : Int32} (kk : Q (some (.int (-1 : Int32))) S I J) : Go d i_X8_firstStepTowards 64 [.ref h0, .int x1, .int x2, .int x3, .int x4] [] S I J Q := by
  have h := (And.intro trivial kk)
  exact Go.n tb_X8_firstStepTowards 2 h
theorem w_X8_shortestRing {d : Nat} {S : zS} {I : zI} {J : zJ} {Q : zQ} {h0 : Nat} (h : Go d i_X8_shortestRing 0 [.ref h0, .retAddr 0, .retAddr 0, .retAddr 0] [] S I J Q) : z_wp (d + 1) i_X8_shortestRing [.ref h0] S I J Q := Go.wp (Nat.le_of_ble_eq_true rfl) h
theorem e_X8_shortestRing {d : Nat} {S S2 : zS} {I I2 : zI} {J J2 : zJ} {r : Option Value} {h0 : Nat} (h : Go d i_X8_shortestRing 0 [.ref h0, .retAddr 0, .retAddr 0, .retAddr 0] [] S I J (z_eq r S2 I2 J2)) : z_ev (d + 1) i_X8_shortestRing [.ref h0] S I J r S2 I2 J2 := Go.ev (Nat.le_of_ble_eq_true rfl) h
theorem b_X8_shortestRing_0 {d : Nat} {S : zS} {I : zI} {J : zJ} {Q : zQ} {h0 : Nat} {v1 : Value} {v2 : Value} {v3 : Value} (g1 : z_kd S h0 = 9) (kk : z_wp d i_X8_measure [.ref h0] S I J (fun vv SS II JJ => Go d i_X8_shortestRing 4 [.ref h0, v1, v2, v3] (vv.toList ++ []) SS II JJ Q)) : Go d i_X8_shortestRing 0 [.ref h0, v1, v2, v3] [] S I J Q := by
  have h := (And.intro g1 kk)
  exact Go.n tb_X8_shortestRing 2 h
theorem b_X8_shortestRing_4 {d : Nat} {S : zS} {I : zI} {J : zJ} {Q : zQ} {h0 : Nat} {v1 : Value} {v2 : Value} {v3 : Value} (kk : Go d i_X8_shortestRing 8 [.ref h0, .int (-1 : Int32), .int (1 : Int32), v3] [] S I J Q) : Go d i_X8_shortestRing 4 [.ref h0, v1, v2, v3] [] S I J Q := by
  have h := kk
  exact Go.n tb_X8_shortestRing 4 h
theorem b_X8_shortestRing_8 {d : Nat} {S : zS} {I : zI} {J : zJ} {Q : zQ} {h0 : Nat} {x1 : Int32} {x2 : Int32} {v3 : Value} (g1 : z_kd S h0 = 9) (g2 : z_kd S (z_rv S h0 0) = 2) (kt : (I (z_rv S h0 0) 0) ≤ x2 → Go d i_X8_shortestRing 54 [.ref h0, .int x1, .int x2, v3] [] S I J Q) (kf : ¬ (I (z_rv S h0 0) 0) ≤ x2 → Go d i_X8_shortestRing 19 [.ref h0, .int x1, .int x2, v3] [] S I J Q) : Go d i_X8_shortestRing 8 [.ref h0, .int x1, .int x2, v3] [] S I J Q := by
  have h := (And.intro g1 (And.intro g2 (Go.ite kt kf)))
  exact Go.n tb_X8_shortestRing 5 h
theorem b_X8_shortestRing_19 {d : Nat} {S : zS} {I : zI} {J : zJ} {Q : zQ} {h0 : Nat} {x1 : Int32} {x2 : Int32} {v3 : Value} (g1 : z_kd S h0 = 9) (kt : (((I h0 1) >>> (x2 &&& 31)) &&& (1 : Int32)) = (0 : Int32) → Go d i_X8_shortestRing 48 [.ref h0, .int x1, .int x2, v3] [] S I J Q) (kf : ¬ (((I h0 1) >>> (x2 &&& 31)) &&& (1 : Int32)) = (0 : Int32) → Go d i_X8_shortestRing 30 [.ref h0, .int x1, .int x2, v3] [] S I J Q) : Go d i_X8_shortestRing 19 [.ref h0, .int x1, .int x2, v3] [] S I J Q := by
  have h := (And.intro g1 (Go.ite kt kf))
  exact Go.n tb_X8_shortestRing 7 h
theorem b_X8_shortestRing_30 {d : Nat} {S : zS} {I : zI} {J : zJ} {Q : zQ} {h0 : Nat} {x1 : Int32} {x2 : Int32} {v3 : Value} (g1 : z_kd S h0 = 9) (kk : z_wp d i_X8_ringThrough [.ref h0, .int x2, .int x1] S I J (fun vv SS II JJ => Go d i_X8_shortestRing 36 [.ref h0, .int x1, .int x2, v3] (vv.toList ++ []) SS II JJ Q)) : Go d i_X8_shortestRing 30 [.ref h0, .int x1, .int x2, v3] [] S I J Q := by
  have h := (And.intro g1 kk)
  exact Go.n tb_X8_shortestRing 4 h
theorem b_X8_shortestRing_36 {d : Nat} {S : zS} {I : zI} {J : zJ} {Q : zQ} {h0 : Nat} {x1 : Int32} {x2 : Int32} {v3 : Value} {y0 : Int32} (kt : ¬ y0 = (-1 : Int32) → Go d i_X8_shortestRing 46 [.ref h0, .int x1, .int x2, .int y0] [] S I J Q) (kf : y0 = (-1 : Int32) → Go d i_X8_shortestRing 42 [.ref h0, .int x1, .int x2, .int y0] [] S I J Q) : Go d i_X8_shortestRing 36 [.ref h0, .int x1, .int x2, v3] [.int y0] S I J Q := by
  have h := (Go.eti kt kf)
  exact Go.n tb_X8_shortestRing 4 h
theorem b_X8_shortestRing_42 {d : Nat} {S : zS} {I : zI} {J : zJ} {Q : zQ} {h0 : Nat} {x1 : Int32} {x2 : Int32} {x3 : Int32} (kk : Go d i_X8_shortestRing 8 [.ref h0, .int x1, .int (x2 + (1 : Int32)), .int x3] [] S I J Q) : Go d i_X8_shortestRing 42 [.ref h0, .int x1, .int x2, .int x3] [] S I J Q := by
  have h := kk
  exact Go.n tb_X8_shortestRing 5 h
theorem b_X8_shortestRing_46 {d : Nat} {S : zS} {I : zI} {J : zJ} {Q : zQ} {h0 : Nat} {x1 : Int32} {x2 : Int32} {x3 : Int32} (kk : Go d i_X8_shortestRing 8 [.ref h0, .int x3, .int (x2 + (1 : Int32)), .int x3] [] S I J Q) : Go d i_X8_shortestRing 46 [.ref h0, .int x1, .int x2, .int x3] [] S I J Q := by
  have h := kk
  exact Go.n tb_X8_shortestRing 4 h
theorem b_X8_shortestRing_48 {d : Nat} {S : zS} {I : zI} {J : zJ} {Q : zQ} {h0 : Nat} {x1 : Int32} {x2 : Int32} {v3 : Value} (kk : Go d i_X8_shortestRing 8 [.ref h0, .int x1, .int (x2 + (1 : Int32)), v3] [] S I J Q) : Go d i_X8_shortestRing 48 [.ref h0, .int x1, .int x2, v3] [] S I J Q := by
  have h := kk
  exact Go.n tb_X8_shortestRing 2 h
theorem b_X8_shortestRing_54 {d : Nat} {S : zS} {I : zI} {J : zJ} {Q : zQ} {h0 : Nat} {x1 : Int32} {x2 : Int32} {v3 : Value} (kk : Q (some (.int x1)) S I J) : Go d i_X8_shortestRing 54 [.ref h0, .int x1, .int x2, v3] [] S I J Q := by
  have h := (And.intro trivial kk)
  exact Go.n tb_X8_shortestRing 2 h
theorem w_X8_ringThrough {d : Nat} {S : zS} {I : zI} {J : zJ} {Q : zQ} {h0 : Nat} {x1 : Int32} {x2 : Int32} (h : Go d i_X8_ringThrough 0 [.ref h0, .int x1, .int x2, .retAddr 0, .retAddr 0, .retAddr 0] [] S I J Q) : z_wp (d + 1) i_X8_ringThrough [.ref h0, .int x1, .int x2] S I J Q := Go.wp (Nat.le_of_ble_eq_true rfl) h
theorem e_X8_ringThrough {d : Nat} {S S2 : zS} {I I2 : zI} {J J2 : zJ} {r : Option Value} {h0 : Nat} {x1 : Int32} {x2 : Int32} (h : Go d i_X8_ringThrough 0 [.ref h0, .int x1, .int x2, .retAddr 0, .retAddr 0, .retAddr 0] [] S I J (z_eq r S2 I2 J2)) : z_ev (d + 1) i_X8_ringThrough [.ref h0, .int x1, .int x2] S I J r S2 I2 J2 := Go.ev (Nat.le_of_ble_eq_true rfl) h
theorem b_X8_ringThrough_0 {d : Nat} {S : zS} {I : zI} {J : zJ} {Q : zQ} {h0 : Nat} {x1 : Int32} {x2 : Int32} {v3 : Value} {v4 : Value} {v5 : Value} (g1 : z_kd S h0 = 9) (g2 : z_isI (z_kd S (z_rv S h0 5)) = true ∧ vp_in x1 (z_ln S (z_rv S h0 5))) (kk : Go d i_X8_ringThrough 22 [.ref h0, .int x1, .int x2, .int ((1 : Int32) <<< (x1 &&& 31)), .int (((I (z_rv S h0 5) (Int32.toNatClampNeg x1)) &&& (((1 : Int32) <<< (x1 &&& 31)) ^^^ (-1 : Int32))) &&& (-2 : Int32)), .int (3 : Int32)] [] S I J Q) : Go d i_X8_ringThrough 0 [.ref h0, .int x1, .int x2, v3, v4, v5] [] S I J Q := by
  have h := (And.intro g1 (And.intro g2 kk))
  exact Go.n tb_X8_ringThrough 17 h
theorem b_X8_ringThrough_22 {d : Nat} {S : zS} {I : zI} {J : zJ} {Q : zQ} {h0 : Nat} {x1 : Int32} {x2 : Int32} {x3 : Int32} {x4 : Int32} {x5 : Int32} (g1 : z_kd S h0 = 9) (g2 : z_kd S (z_rv S h0 0) = 2) (kt : (I (z_rv S h0 0) 0) < x5 → Go d i_X8_ringThrough 85 [.ref h0, .int x1, .int x2, .int x3, .int x4, .int x5] [] S I J Q) (kf : ¬ (I (z_rv S h0 0) 0) < x5 → Go d i_X8_ringThrough 34 [.ref h0, .int x1, .int x2, .int x3, .int x4, .int x5] [] S I J Q) : Go d i_X8_ringThrough 22 [.ref h0, .int x1, .int x2, .int x3, .int x4, .int x5] [] S I J Q := by
  have h := (And.intro g1 (And.intro g2 (Go.ite kt kf)))
  exact Go.n tb_X8_ringThrough 5 h
theorem b_X8_ringThrough_34 {d : Nat} {S : zS} {I : zI} {J : zJ} {Q : zQ} {h0 : Nat} {x1 : Int32} {x2 : Int32} {x3 : Int32} {x4 : Int32} {x5 : Int32} (kt : x4 = (0 : Int32) → Go d i_X8_ringThrough 85 [.ref h0, .int x1, .int x2, .int x3, .int x4, .int x5] [] S I J Q) (kf : ¬ x4 = (0 : Int32) → Go d i_X8_ringThrough 39 [.ref h0, .int x1, .int x2, .int x3, .int x4, .int x5] [] S I J Q) : Go d i_X8_ringThrough 34 [.ref h0, .int x1, .int x2, .int x3, .int x4, .int x5] [] S I J Q := by
  have h := (Go.ite kt kf)
  exact Go.n tb_X8_ringThrough 2 h
theorem b_X8_ringThrough_39 {d : Nat} {S : zS} {I : zI} {J : zJ} {Q : zQ} {h0 : Nat} {x1 : Int32} {x2 : Int32} {x3 : Int32} {x4 : Int32} {x5 : Int32} (kt : x2 = (-1 : Int32) → Go d i_X8_ringThrough 52 [.ref h0, .int x1, .int x2, .int x3, .int x4, .int x5] [] S I J Q) (kf : ¬ x2 = (-1 : Int32) → Go d i_X8_ringThrough 44 [.ref h0, .int x1, .int x2, .int x3, .int x4, .int x5] [] S I J Q) : Go d i_X8_ringThrough 39 [.ref h0, .int x1, .int x2, .int x3, .int x4, .int x5] [] S I J Q := by
  have h := (Go.ite kt kf)
  exact Go.n tb_X8_ringThrough 3 h
theorem b_X8_ringThrough_44 {d : Nat} {S : zS} {I : zI} {J : zJ} {Q : zQ} {h0 : Nat} {x1 : Int32} {x2 : Int32} {x3 : Int32} {x4 : Int32} {x5 : Int32} (kt : x5 < x2 → Go d i_X8_ringThrough 52 [.ref h0, .int x1, .int x2, .int x3, .int x4, .int x5] [] S I J Q) (kf : ¬ x5 < x2 → Go d i_X8_ringThrough 50 [.ref h0, .int x1, .int x2, .int x3, .int x4, .int x5] [] S I J Q) : Go d i_X8_ringThrough 44 [.ref h0, .int x1, .int x2, .int x3, .int x4, .int x5] [] S I J Q := by
  have h := (Go.ite kt kf)
  exact Go.n tb_X8_ringThrough 3 h
theorem b_X8_ringThrough_50 {d : Nat} {S : zS} {I : zI} {J : zJ} {Q : zQ} {h0 : Nat} {x1 : Int32} {x2 : Int32} {x3 : Int32} {x4 : Int32} {x5 : Int32} (kk : Q (some (.int (-1 : Int32))) S I J) : Go d i_X8_ringThrough 50 [.ref h0, .int x1, .int x2, .int x3, .int x4, .int x5] [] S I J Q := by
  have h := (And.intro trivial kk)
  exact Go.n tb_X8_ringThrough 2 h
theorem b_X8_ringThrough_52 {d : Nat} {S : zS} {I : zI} {J : zJ} {Q : zQ} {h0 : Nat} {x1 : Int32} {x2 : Int32} {x3 : Int32} {x4 : Int32} {x5 : Int32} (g1 : z_kd S h0 = 9) (kk : z_wp d i_X8_along [.ref h0, .int x4] S I J (fun vv SS II JJ => Go d i_X8_ringThrough 63 [.ref h0, .int x1, .int x2, .int (x3 ||| x4), .int x4, .int x5] (vv.toList ++ []) SS II JJ Q)) : Go d i_X8_ringThrough 52 [.ref h0, .int x1, .int x2, .int x3, .int x4, .int x5] [] S I J Q := by
  have h := (And.intro g1 kk)
  exact Go.n tb_X8_ringThrough 7 h
theorem b_X8_ringThrough_63 {d : Nat} {S : zS} {I : zI} {J : zJ} {Q : zQ} {h0 : Nat} {x1 : Int32} {x2 : Int32} {x3 : Int32} {x4 : Int32} {x5 : Int32} {y0 : Int32} (kt : ((y0 &&& (x3 ^^^ (-1 : Int32))) &&& (1 : Int32)) = (0 : Int32) → Go d i_X8_ringThrough 79 [.ref h0, .int x1, .int x2, .int x3, .int (y0 &&& (x3 ^^^ (-1 : Int32))), .int x5] [] S I J Q) (kf : ¬ ((y0 &&& (x3 ^^^ (-1 : Int32))) &&& (1 : Int32)) = (0 : Int32) → Go d i_X8_ringThrough 76 [.ref h0, .int x1, .int x2, .int x3, .int (y0 &&& (x3 ^^^ (-1 : Int32))), .int x5] [] S I J Q) : Go d i_X8_ringThrough 63 [.ref h0, .int x1, .int x2, .int x3, .int x4, .int x5] [.int y0] S I J Q := by
  have h := (Go.ite kt kf)
  exact Go.n tb_X8_ringThrough 9 h
theorem b_X8_ringThrough_76 {d : Nat} {S : zS} {I : zI} {J : zJ} {Q : zQ} {h0 : Nat} {x1 : Int32} {x2 : Int32} {x3 : Int32} {x4 : Int32} {x5 : Int32} (kk : Q (some (.int x5)) S I J) : Go d i_X8_ringThrough 76 [.ref h0, .int x1, .int x2, .int x3, .int x4, .int x5] [] S I J Q := by
  have h := (And.intro trivial kk)
  exact Go.n tb_X8_ringThrough 2 h
theorem b_X8_ringThrough_79 {d : Nat} {S : zS} {I : zI} {J : zJ} {Q : zQ} {h0 : Nat} {x1 : Int32} {x2 : Int32} {x3 : Int32} {x4 : Int32} {x5 : Int32} (kk : Go d i_X8_ringThrough 22 [.ref h0, .int x1, .int x2, .int x3, .int x4, .int (x5 + (1 : Int32))] [] S I J Q) : Go d i_X8_ringThrough 79 [.ref h0, .int x1, .int x2, .int x3, .int x4, .int x5] [] S I J Q := by
  have h := kk
  exact Go.n tb_X8_ringThrough 2 h
theorem b_X8_ringThrough_85 {d : Nat} {S : zS} {I : zI} {J : zJ} {Q : zQ} {h0 : Nat} {x1 : Int32} {x2 : Int32} {x3 : Int32} {x4 : Int32} {x5 : Int32} (kk : Q (some (.int (-1 : Int32))) S I J) : Go d i_X8_ringThrough 85 [.ref h0, .int x1, .int x2, .int x3, .int x4, .int x5] [] S I J Q := by
  have h := (And.intro trivial kk)
  exact Go.n tb_X8_ringThrough 2 h
theorem w_X8_arcsAlike {d : Nat} {S : zS} {I : zI} {J : zJ} {Q : zQ} {h0 : Nat} (h : Go d i_X8_arcsAlike 0 [.ref h0, .retAddr 0] [] S I J Q) : z_wp (d + 1) i_X8_arcsAlike [.ref h0] S I J Q := Go.wp (Nat.le_of_ble_eq_true rfl) h
theorem e_X8_arcsAlike {d : Nat} {S S2 : zS} {I I2 : zI} {J J2 : zJ} {r : Option Value} {h0 : Nat} (h : Go d i_X8_arcsAlike 0 [.ref h0, .retAddr 0] [] S I J (z_eq r S2 I2 J2)) : z_ev (d + 1) i_X8_arcsAlike [.ref h0] S I J r S2 I2 J2 := Go.ev (Nat.le_of_ble_eq_true rfl) h
theorem b_X8_arcsAlike_0 {d : Nat} {S : zS} {I : zI} {J : zJ} {Q : zQ} {h0 : Nat} {v1 : Value} (kk : Go d i_X8_arcsAlike 2 [.ref h0, .int (1 : Int32)] [] S I J Q) : Go d i_X8_arcsAlike 0 [.ref h0, v1] [] S I J Q := by
  have h := kk
  exact Go.n tb_X8_arcsAlike 2 h
theorem b_X8_arcsAlike_2 {d : Nat} {S : zS} {I : zI} {J : zJ} {Q : zQ} {h0 : Nat} {x1 : Int32} (g1 : z_kd S h0 = 9) (g2 : z_kd S (z_rv S h0 0) = 2) (kt : (I (z_rv S h0 0) 0) ≤ x1 → Go d i_X8_arcsAlike 52 [.ref h0, .int x1] [] S I J Q) (kf : ¬ (I (z_rv S h0 0) 0) ≤ x1 → Go d i_X8_arcsAlike 13 [.ref h0, .int x1] [] S I J Q) : Go d i_X8_arcsAlike 2 [.ref h0, .int x1] [] S I J Q := by
  have h := (And.intro g1 (And.intro g2 (Go.ite kt kf)))
  exact Go.n tb_X8_arcsAlike 5 h
theorem b_X8_arcsAlike_13 {d : Nat} {S : zS} {I : zI} {J : zJ} {Q : zQ} {h0 : Nat} {x1 : Int32} (g1 : z_kd S h0 = 9) (kt : (((I h0 1) >>> (x1 &&& 31)) &&& (1 : Int32)) = (0 : Int32) → Go d i_X8_arcsAlike 46 [.ref h0, .int x1] [] S I J Q) (kf : ¬ (((I h0 1) >>> (x1 &&& 31)) &&& (1 : Int32)) = (0 : Int32) → Go d i_X8_arcsAlike 24 [.ref h0, .int x1] [] S I J Q) : Go d i_X8_arcsAlike 13 [.ref h0, .int x1] [] S I J Q := by
  have h := (And.intro g1 (Go.ite kt kf))
  exact Go.n tb_X8_arcsAlike 7 h
theorem b_X8_arcsAlike_24 {d : Nat} {S : zS} {I : zI} {J : zJ} {Q : zQ} {h0 : Nat} {x1 : Int32} (g1 : z_kd S h0 = 9) (g2 : z_kd S h0 = 9) (g3 : z_isI (z_kd S (z_rv S h0 4)) = true ∧ vp_in x1 (z_ln S (z_rv S h0 4))) (kt : ¬ ((I h0 1) &&& ((I (z_rv S h0 4) (Int32.toNatClampNeg x1)) ^^^ (-1 : Int32))) = (0 : Int32) → Go d i_X8_arcsAlike 44 [.ref h0, .int x1] [] S I J Q) (kf : ((I h0 1) &&& ((I (z_rv S h0 4) (Int32.toNatClampNeg x1)) ^^^ (-1 : Int32))) = (0 : Int32) → Go d i_X8_arcsAlike 40 [.ref h0, .int x1] [] S I J Q) : Go d i_X8_arcsAlike 24 [.ref h0, .int x1] [] S I J Q := by
  have h := (And.intro g1 (And.intro g2 (And.intro g3 (Go.eti kt kf))))
  exact Go.n tb_X8_arcsAlike 10 h
theorem b_X8_arcsAlike_40 {d : Nat} {S : zS} {I : zI} {J : zJ} {Q : zQ} {h0 : Nat} {x1 : Int32} (g1 : z_fit 3 (1 : Int32)) (kk : Q (some (.int (1 : Int32))) S I J) : Go d i_X8_arcsAlike 40 [.ref h0, .int x1] [] S I J Q := by
  have h := (And.intro g1 kk)
  exact Go.n tb_X8_arcsAlike 3 h
theorem b_X8_arcsAlike_44 {d : Nat} {S : zS} {I : zI} {J : zJ} {Q : zQ} {h0 : Nat} {x1 : Int32} (g1 : z_fit 3 (0 : Int32)) (kk : Q (some (.int (0 : Int32))) S I J) : Go d i_X8_arcsAlike 44 [.ref h0, .int x1] [] S I J Q := by
  have h := (And.intro g1 kk)
  exact Go.n tb_X8_arcsAlike 2 h
theorem b_X8_arcsAlike_46 {d : Nat} {S : zS} {I : zI} {J : zJ} {Q : zQ} {h0 : Nat} {x1 : Int32} (kk : Go d i_X8_arcsAlike 2 [.ref h0, .int (x1 + (1 : Int32))] [] S I J Q) : Go d i_X8_arcsAlike 46 [.ref h0, .int x1] [] S I J Q := by
  have h := kk
  exact Go.n tb_X8_arcsAlike 2 h
theorem b_X8_arcsAlike_52 {d : Nat} {S : zS} {I : zI} {J : zJ} {Q : zQ} {h0 : Nat} {x1 : Int32} (g1 : z_fit 3 (0 : Int32)) (kk : Q (some (.int (0 : Int32))) S I J) : Go d i_X8_arcsAlike 52 [.ref h0, .int x1] [] S I J Q := by
  have h := (And.intro g1 kk)
  exact Go.n tb_X8_arcsAlike 2 h
theorem w_X8_farAlike {d : Nat} {S : zS} {I : zI} {J : zJ} {Q : zQ} {h0 : Nat} (h : Go d i_X8_farAlike 0 [.ref h0, .retAddr 0, .retAddr 0] [] S I J Q) : z_wp (d + 1) i_X8_farAlike [.ref h0] S I J Q := Go.wp (Nat.le_of_ble_eq_true rfl) h
theorem e_X8_farAlike {d : Nat} {S S2 : zS} {I I2 : zI} {J J2 : zJ} {r : Option Value} {h0 : Nat} (h : Go d i_X8_farAlike 0 [.ref h0, .retAddr 0, .retAddr 0] [] S I J (z_eq r S2 I2 J2)) : z_ev (d + 1) i_X8_farAlike [.ref h0] S I J r S2 I2 J2 := Go.ev (Nat.le_of_ble_eq_true rfl) h
theorem b_X8_farAlike_0 {d : Nat} {S : zS} {I : zI} {J : zJ} {Q : zQ} {h0 : Nat} {v1 : Value} {v2 : Value} (g1 : z_kd S h0 = 9) (kk : z_wp d i_X8_measure [.ref h0] S I J (fun vv SS II JJ => Go d i_X8_farAlike 4 [.ref h0, v1, v2] (vv.toList ++ []) SS II JJ Q)) : Go d i_X8_farAlike 0 [.ref h0, v1, v2] [] S I J Q := by
  have h := (And.intro g1 kk)
  exact Go.n tb_X8_farAlike 2 h
theorem b_X8_farAlike_4 {d : Nat} {S : zS} {I : zI} {J : zJ} {Q : zQ} {h0 : Nat} {v1 : Value} {v2 : Value} (kk : Go d i_X8_farAlike 6 [.ref h0, .int (0 : Int32), v2] [] S I J Q) : Go d i_X8_farAlike 4 [.ref h0, v1, v2] [] S I J Q := by
  have h := kk
  exact Go.n tb_X8_farAlike 2 h
theorem b_X8_farAlike_6 {d : Nat} {S : zS} {I : zI} {J : zJ} {Q : zQ} {h0 : Nat} {x1 : Int32} {v2 : Value} (g1 : z_kd S h0 = 9) (g2 : z_kd S (z_rv S h0 0) = 2) (kt : (I (z_rv S h0 0) 0) ≤ x1 → Go d i_X8_farAlike 66 [.ref h0, .int x1, v2] [] S I J Q) (kf : ¬ (I (z_rv S h0 0) 0) ≤ x1 → Go d i_X8_farAlike 17 [.ref h0, .int x1, v2] [] S I J Q) : Go d i_X8_farAlike 6 [.ref h0, .int x1, v2] [] S I J Q := by
  have h := (And.intro g1 (And.intro g2 (Go.ite kt kf)))
  exact Go.n tb_X8_farAlike 5 h
theorem b_X8_farAlike_17 {d : Nat} {S : zS} {I : zI} {J : zJ} {Q : zQ} {h0 : Nat} {x1 : Int32} {v2 : Value} (kk : Go d i_X8_farAlike 19 [.ref h0, .int x1, .int (0 : Int32)] [] S I J Q) : Go d i_X8_farAlike 17 [.ref h0, .int x1, v2] [] S I J Q := by
  have h := kk
  exact Go.n tb_X8_farAlike 2 h
theorem b_X8_farAlike_19 {d : Nat} {S : zS} {I : zI} {J : zJ} {Q : zQ} {h0 : Nat} {x1 : Int32} {x2 : Int32} (kt : x1 ≤ x2 → Go d i_X8_farAlike 60 [.ref h0, .int x1, .int x2] [] S I J Q) (kf : ¬ x1 ≤ x2 → Go d i_X8_farAlike 24 [.ref h0, .int x1, .int x2] [] S I J Q) : Go d i_X8_farAlike 19 [.ref h0, .int x1, .int x2] [] S I J Q := by
  have h := (Go.ite kt kf)
  exact Go.n tb_X8_farAlike 3 h
theorem b_X8_farAlike_24 {d : Nat} {S : zS} {I : zI} {J : zJ} {Q : zQ} {h0 : Nat} {x1 : Int32} {x2 : Int32} (g1 : z_kd S h0 = 9) (g2 : z_isI (z_kd S (z_rv S h0 6)) = true ∧ vp_in x1 (z_ln S (z_rv S h0 6))) (g3 : z_kd S h0 = 9) (g4 : z_isI (z_kd S (z_rv S h0 6)) = true ∧ vp_in x2 (z_ln S (z_rv S h0 6))) (kt : ¬ (I (z_rv S h0 6) (Int32.toNatClampNeg x1)) = (I (z_rv S h0 6) (Int32.toNatClampNeg x2)) → Go d i_X8_farAlike 54 [.ref h0, .int x1, .int x2] [] S I J Q) (kf : (I (z_rv S h0 6) (Int32.toNatClampNeg x1)) = (I (z_rv S h0 6) (Int32.toNatClampNeg x2)) → Go d i_X8_farAlike 39 [.ref h0, .int x1, .int x2] [] S I J Q) : Go d i_X8_farAlike 24 [.ref h0, .int x1, .int x2] [] S I J Q := by
  have h := (And.intro g1 (And.intro g2 (And.intro g3 (And.intro g4 (Go.eti kt kf)))))
  exact Go.n tb_X8_farAlike 9 h
theorem b_X8_farAlike_39 {d : Nat} {S : zS} {I : zI} {J : zJ} {Q : zQ} {h0 : Nat} {x1 : Int32} {x2 : Int32} (g1 : z_kd S h0 = 9) (g2 : z_isI (z_kd S (z_rv S h0 4)) = true ∧ vp_in x1 (z_ln S (z_rv S h0 4))) (kt : ¬ (((I (z_rv S h0 4) (Int32.toNatClampNeg x1)) >>> (x2 &&& 31)) &&& (1 : Int32)) = (0 : Int32) → Go d i_X8_farAlike 54 [.ref h0, .int x1, .int x2] [] S I J Q) (kf : (((I (z_rv S h0 4) (Int32.toNatClampNeg x1)) >>> (x2 &&& 31)) &&& (1 : Int32)) = (0 : Int32) → Go d i_X8_farAlike 52 [.ref h0, .int x1, .int x2] [] S I J Q) : Go d i_X8_farAlike 39 [.ref h0, .int x1, .int x2] [] S I J Q := by
  have h := (And.intro g1 (And.intro g2 (Go.eti kt kf)))
  exact Go.n tb_X8_farAlike 9 h
theorem b_X8_farAlike_52 {d : Nat} {S : zS} {I : zI} {J : zJ} {Q : zQ} {h0 : Nat} {x1 : Int32} {x2 : Int32} (g1 : z_fit 3 (0 : Int32)) (kk : Q (some (.int (0 : Int32))) S I J) : Go d i_X8_farAlike 52 [.ref h0, .int x1, .int x2] [] S I J Q := by
  have h := (And.intro g1 kk)
  exact Go.n tb_X8_farAlike 2 h
theorem b_X8_farAlike_54 {d : Nat} {S : zS} {I : zI} {J : zJ} {Q : zQ} {h0 : Nat} {x1 : Int32} {x2 : Int32} (kk : Go d i_X8_farAlike 19 [.ref h0, .int x1, .int (x2 + (1 : Int32))] [] S I J Q) : Go d i_X8_farAlike 54 [.ref h0, .int x1, .int x2] [] S I J Q := by
  have h := kk
  exact Go.n tb_X8_farAlike 2 h
theorem b_X8_farAlike_60 {d : Nat} {S : zS} {I : zI} {J : zJ} {Q : zQ} {h0 : Nat} {x1 : Int32} {x2 : Int32} (kk : Go d i_X8_farAlike 6 [.ref h0, .int (x1 + (1 : Int32)), .int x2] [] S I J Q) : Go d i_X8_farAlike 60 [.ref h0, .int x1, .int x2] [] S I J Q := by
  have h := kk
  exact Go.n tb_X8_farAlike 2 h
theorem b_X8_farAlike_66 {d : Nat} {S : zS} {I : zI} {J : zJ} {Q : zQ} {h0 : Nat} {x1 : Int32} {v2 : Value} (g1 : z_fit 3 (1 : Int32)) (kk : Q (some (.int (1 : Int32))) S I J) : Go d i_X8_farAlike 66 [.ref h0, .int x1, v2] [] S I J Q := by
  have h := (And.intro g1 kk)
  exact Go.n tb_X8_farAlike 2 h
theorem w_X9_init {d : Nat} {S : zS} {I : zI} {J : zJ} {Q : zQ} {h0 : Nat} (h : Go d i_X9_init 0 [.ref h0] [] S I J Q) : z_wp (d + 1) i_X9_init [.ref h0] S I J Q := Go.wp (Nat.le_of_ble_eq_true rfl) h
theorem e_X9_init {d : Nat} {S S2 : zS} {I I2 : zI} {J J2 : zJ} {r : Option Value} {h0 : Nat} (h : Go d i_X9_init 0 [.ref h0] [] S I J (z_eq r S2 I2 J2)) : z_ev (d + 1) i_X9_init [.ref h0] S I J r S2 I2 J2 := Go.ev (Nat.le_of_ble_eq_true rfl) h
theorem b_X9_init_0 {d : Nat} {S : zS} {I : zI} {J : zJ} {Q : zQ} {h0 : Nat} (g1 : ¬ h0 = 0) (g2 : ¬ (4 : Int32) < 0 ∧ (Int32.toNatClampNeg (4 : Int32)) * 4 ≤ 536870912) (g3 : z_kd (z_new S 100 (Int32.toNatClampNeg (4 : Int32)) (Int32.toNatClampNeg (4 : Int32))) h0 = 10) (kk : Go d i_X9_init 11 [.ref h0] [] (z_setR (z_new S 100 (Int32.toNatClampNeg (4 : Int32)) (Int32.toNatClampNeg (4 : Int32))) h0 0 (z_sz S + 1)) (z_ur I (z_sz S + 1) (fun _ => 0)) J Q) : Go d i_X9_init 0 [.ref h0] [] S I J Q := by
  have h := (And.intro g1 (And.intro g2 (And.intro g3 kk)))
  exact Go.n tb_X9_init 6 h
theorem b_X9_init_11 {d : Nat} {S : zS} {I : zI} {J : zJ} {Q : zQ} {h0 : Nat} (g1 : ¬ (20 : Int32) < 0 ∧ (Int32.toNatClampNeg (20 : Int32)) * 4 ≤ 536870912) (g2 : z_kd (z_new S 100 (Int32.toNatClampNeg (20 : Int32)) (Int32.toNatClampNeg (20 : Int32))) h0 = 10) (kk : Go d i_X9_init 19 [.ref h0] [] (z_setR (z_new S 100 (Int32.toNatClampNeg (20 : Int32)) (Int32.toNatClampNeg (20 : Int32))) h0 2 (z_sz S + 1)) (z_ur I (z_sz S + 1) (fun _ => 0)) J Q) : Go d i_X9_init 11 [.ref h0] [] S I J Q := by
  have h := (And.intro g1 (And.intro g2 kk))
  exact Go.n tb_X9_init 4 h
theorem b_X9_init_19 {d : Nat} {S : zS} {I : zI} {J : zJ} {Q : zQ} {h0 : Nat} (g1 : ¬ (20 : Int32) < 0 ∧ (Int32.toNatClampNeg (20 : Int32)) * 4 ≤ 536870912) (g2 : z_kd (z_new S 100 (Int32.toNatClampNeg (20 : Int32)) (Int32.toNatClampNeg (20 : Int32))) h0 = 10) (kk : Go d i_X9_init 27 [.ref h0] [] (z_setR (z_new S 100 (Int32.toNatClampNeg (20 : Int32)) (Int32.toNatClampNeg (20 : Int32))) h0 3 (z_sz S + 1)) (z_ur I (z_sz S + 1) (fun _ => 0)) J Q) : Go d i_X9_init 19 [.ref h0] [] S I J Q := by
  have h := (And.intro g1 (And.intro g2 kk))
  exact Go.n tb_X9_init 4 h
theorem b_X9_init_27 {d : Nat} {S : zS} {I : zI} {J : zJ} {Q : zQ} {h0 : Nat} (g1 : ¬ (20 : Int32) < 0 ∧ (Int32.toNatClampNeg (20 : Int32)) * 4 ≤ 536870912) (g2 : z_kd (z_new S 100 (Int32.toNatClampNeg (20 : Int32)) (Int32.toNatClampNeg (20 : Int32))) h0 = 10) (kk : Go d i_X9_init 35 [.ref h0] [] (z_setR (z_new S 100 (Int32.toNatClampNeg (20 : Int32)) (Int32.toNatClampNeg (20 : Int32))) h0 4 (z_sz S + 1)) (z_ur I (z_sz S + 1) (fun _ => 0)) J Q) : Go d i_X9_init 27 [.ref h0] [] S I J Q := by
  have h := (And.intro g1 (And.intro g2 kk))
  exact Go.n tb_X9_init 4 h
theorem b_X9_init_35 {d : Nat} {S : zS} {I : zI} {J : zJ} {Q : zQ} {h0 : Nat} (g1 : ¬ (z_sz S + 1) = 0) (kk : z_wp d i_X0_init [.ref (z_sz S + 1)] (z_new S 1 0 9) (z_ur I (z_sz S + 1) (fun _ => 0)) (z_ur J (z_sz S + 1) (fun _ => 0)) (fun vv SS II JJ => Go d i_X9_init 43 [.ref h0] (vv.toList ++ [.ref (z_sz S + 1), .ref h0]) SS II JJ Q)) : Go d i_X9_init 35 [.ref h0] [] S I J Q := by
  have h := (And.intro g1 kk)
  exact Go.n tb_X9_init 4 h
theorem b_X9_init_43 {d : Nat} {S : zS} {I : zI} {J : zJ} {Q : zQ} {h0 : Nat} {q0 : Nat} {q1 : Nat} (g1 : z_kd S q0 = 10) (kk : Go d i_X9_init 46 [.ref h0] [] (z_setR S q0 5 q1) I J Q) : Go d i_X9_init 43 [.ref h0] [.ref q1, .ref q0] S I J Q := by
  have h := (And.intro g1 kk)
  exact Go.n tb_X9_init 1 h
theorem b_X9_init_46 {d : Nat} {S : zS} {I : zI} {J : zJ} {Q : zQ} {h0 : Nat} (g1 : z_kd S h0 = 10) (kk : Go d i_X9_init 51 [.ref h0] [] S (z_u2 I h0 1 (0 : Int32)) J Q) : Go d i_X9_init 46 [.ref h0] [] S I J Q := by
  have h := (And.intro g1 kk)
  exact Go.n tb_X9_init 3 h
theorem b_X9_init_51 {d : Nat} {S : zS} {I : zI} {J : zJ} {Q : zQ} {h0 : Nat} (kk : Q none S I J) : Go d i_X9_init 51 [.ref h0] [] S I J Q := by
  have h := (And.intro trivial kk)
  exact Go.n tb_X9_init 1 h
theorem w_X9_leastSet {d : Nat} {S : zS} {I : zI} {J : zJ} {Q : zQ} {h0 : Nat} {h1 : Nat} {h2 : Nat} {h3 : Nat} (h : Go d i_X9_leastSet 0 [.ref h0, .ref h1, .ref h2, .ref h3, .retAddr 0, .retAddr 0, .retAddr 0, .retAddr 0, .retAddr 0] [] S I J Q) : z_wp (d + 1) i_X9_leastSet [.ref h0, .ref h1, .ref h2, .ref h3] S I J Q := Go.wp (Nat.le_of_ble_eq_true rfl) h
theorem e_X9_leastSet {d : Nat} {S S2 : zS} {I I2 : zI} {J J2 : zJ} {r : Option Value} {h0 : Nat} {h1 : Nat} {h2 : Nat} {h3 : Nat} (h : Go d i_X9_leastSet 0 [.ref h0, .ref h1, .ref h2, .ref h3, .retAddr 0, .retAddr 0, .retAddr 0, .retAddr 0, .retAddr 0] [] S I J (z_eq r S2 I2 J2)) : z_ev (d + 1) i_X9_leastSet [.ref h0, .ref h1, .ref h2, .ref h3] S I J r S2 I2 J2 := Go.ev (Nat.le_of_ble_eq_true rfl) h
theorem b_X9_leastSet_0 {d : Nat} {S : zS} {I : zI} {J : zJ} {Q : zQ} {h0 : Nat} {h1 : Nat} {h2 : Nat} {h3 : Nat} {v4 : Value} {v5 : Value} {v6 : Value} {v7 : Value} {v8 : Value} (g1 : z_kd S h1 = 9) (kk : z_wp d i_J6_bitCount_0f7a4 [.int (I h1 1)] S I J (fun vv SS II JJ => Go d i_X9_leastSet 9 [.ref h0, .ref h1, .ref h2, .ref h3, v4, v5, v6, v7, v8] (vv.toList ++ [.int (4 : Int32), .ref h0]) SS II JJ Q)) : Go d i_X9_leastSet 0 [.ref h0, .ref h1, .ref h2, .ref h3, v4, v5, v6, v7, v8] [] S I J Q := by
  have h := (And.intro g1 (And.intro trivial kk))
  exact Go.n tb_X9_leastSet 5 h
theorem b_X9_leastSet_9 {d : Nat} {S : zS} {I : zI} {J : zJ} {Q : zQ} {h0 : Nat} {h1 : Nat} {h2 : Nat} {h3 : Nat} {v4 : Value} {v5 : Value} {v6 : Value} {v7 : Value} {v8 : Value} {q0 : Nat} {y1 : Int32} {y2 : Int32} (kk : z_wp d i_J9_min_7cf53 [.int y1, .int y2] S I J (fun vv SS II JJ => Go d i_X9_leastSet 12 [.ref h0, .ref h1, .ref h2, .ref h3, v4, v5, v6, v7, v8] (vv.toList ++ [.ref q0]) SS II JJ Q)) : Go d i_X9_leastSet 9 [.ref h0, .ref h1, .ref h2, .ref h3, v4, v5, v6, v7, v8] [.int y2, .int y1, .ref q0] S I J Q := by
  have h := (And.intro trivial kk)
  exact Go.n tb_X9_leastSet 1 h
theorem b_X9_leastSet_12 {d : Nat} {S : zS} {I : zI} {J : zJ} {Q : zQ} {h0 : Nat} {h1 : Nat} {h2 : Nat} {h3 : Nat} {v4 : Value} {v5 : Value} {v6 : Value} {v7 : Value} {v8 : Value} {q0 : Nat} {y1 : Int32} (g1 : z_kd S q0 = 10) (g2 : z_kd S h0 = 10) (kt : ¬ ((z_u2 I q0 1 y1) h0 1) = (0 : Int32) → Go d i_X9_leastSet 24 [.ref h0, .ref h1, .ref h2, .ref h3, v4, v5, v6, v7, v8] [] S (z_u2 I q0 1 y1) J Q) (kf : ((z_u2 I q0 1 y1) h0 1) = (0 : Int32) → Go d i_X9_leastSet 22 [.ref h0, .ref h1, .ref h2, .ref h3, v4, v5, v6, v7, v8] [] S (z_u2 I q0 1 y1) J Q) : Go d i_X9_leastSet 12 [.ref h0, .ref h1, .ref h2, .ref h3, v4, v5, v6, v7, v8] [.int y1, .ref q0] S I J Q := by
  have h := (And.intro g1 (And.intro g2 (Go.eti kt kf)))
  exact Go.n tb_X9_leastSet 4 h
theorem b_X9_leastSet_22 {d : Nat} {S : zS} {I : zI} {J : zJ} {Q : zQ} {h0 : Nat} {h1 : Nat} {h2 : Nat} {h3 : Nat} {v4 : Value} {v5 : Value} {v6 : Value} {v7 : Value} {v8 : Value} (kk : Q (some (.int (0 : Int32))) S I J) : Go d i_X9_leastSet 22 [.ref h0, .ref h1, .ref h2, .ref h3, v4, v5, v6, v7, v8] [] S I J Q := by
  have h := (And.intro trivial kk)
  exact Go.n tb_X9_leastSet 2 h
theorem b_X9_leastSet_24 {d : Nat} {S : zS} {I : zI} {J : zJ} {Q : zQ} {h0 : Nat} {h1 : Nat} {h2 : Nat} {h3 : Nat} {v4 : Value} {v5 : Value} {v6 : Value} {v7 : Value} {v8 : Value} (g1 : z_kd S h1 = 9) (kk : z_wp d i_X8_painted [.ref h1] S I J (fun vv SS II JJ => Go d i_X9_leastSet 28 [.ref h0, .ref h1, .ref h2, .ref h3, v4, v5, v6, v7, v8] (vv.toList ++ []) SS II JJ Q)) : Go d i_X9_leastSet 24 [.ref h0, .ref h1, .ref h2, .ref h3, v4, v5, v6, v7, v8] [] S I J Q := by
  have h := (And.intro g1 kk)
  exact Go.n tb_X9_leastSet 2 h
theorem b_X9_leastSet_28 {d : Nat} {S : zS} {I : zI} {J : zJ} {Q : zQ} {h0 : Nat} {h1 : Nat} {h2 : Nat} {h3 : Nat} {v4 : Value} {v5 : Value} {v6 : Value} {v7 : Value} {v8 : Value} {q0 : Nat} (g1 : ¬ q0 = 0) (g2 : z_kd S h0 = 10) (kk : z_wp d i_X9_chooseOf [.ref h0, .ref h1] S I J (fun vv SS II JJ => Go d i_X9_leastSet 35 [.ref h0, .ref h1, .ref h2, .ref h3, .ref q0, v5, v6, v7, v8] (vv.toList ++ []) SS II JJ Q)) : Go d i_X9_leastSet 28 [.ref h0, .ref h1, .ref h2, .ref h3, v4, v5, v6, v7, v8] [.ref q0] S I J Q := by
  have h := (And.intro g1 (And.intro g2 kk))
  exact Go.n tb_X9_leastSet 4 h
theorem b_X9_leastSet_35 {d : Nat} {S : zS} {I : zI} {J : zJ} {Q : zQ} {h0 : Nat} {h1 : Nat} {h2 : Nat} {h3 : Nat} {h4 : Nat} {v5 : Value} {v6 : Value} {v7 : Value} {v8 : Value} (g1 : z_kd S h1 = 9) (g2 : z_kd S h0 = 10) (kk : z_wp d i_X9_shortWalks [.ref h0, .ref (z_rv S h1 0)] S I J (fun vv SS II JJ => Go d i_X9_leastSet 43 [.ref h0, .ref h1, .ref h2, .ref h3, .ref h4, v5, v6, v7, v8] (vv.toList ++ []) SS II JJ Q)) : Go d i_X9_leastSet 35 [.ref h0, .ref h1, .ref h2, .ref h3, .ref h4, v5, v6, v7, v8] [] S I J Q := by
  have h := (And.intro g1 (And.intro g2 kk))
  exact Go.n tb_X9_leastSet 4 h
theorem b_X9_leastSet_43 {d : Nat} {S : zS} {I : zI} {J : zJ} {Q : zQ} {h0 : Nat} {h1 : Nat} {h2 : Nat} {h3 : Nat} {h4 : Nat} {v5 : Value} {v6 : Value} {v7 : Value} {v8 : Value} {w0 : Int64} (g1 : z_kd S h1 = 9) (g2 : z_kd S h0 = 10) (kk : z_wp d i_X9_longWalks [.ref h0, .ref (z_rv S h1 0)] S I J (fun vv SS II JJ => Go d i_X9_leastSet 53 [.ref h0, .ref h1, .ref h2, .ref h3, .ref h4, .long w0, (.retAddr 0), v7, v8] (vv.toList ++ []) SS II JJ Q)) : Go d i_X9_leastSet 43 [.ref h0, .ref h1, .ref h2, .ref h3, .ref h4, v5, v6, v7, v8] [.long w0] S I J Q := by
  have h := (And.intro g1 (And.intro g2 kk))
  exact Go.n tb_X9_leastSet 5 h
theorem b_X9_leastSet_53 {d : Nat} {S : zS} {I : zI} {J : zJ} {Q : zQ} {h0 : Nat} {h1 : Nat} {h2 : Nat} {h3 : Nat} {h4 : Nat} {j5 : Int64} {v6 : Value} {v7 : Value} {v8 : Value} {y0 : Int32} (kk : Go d i_X9_leastSet 58 [.ref h0, .ref h1, .ref h2, .ref h3, .ref h4, .long j5, (z_kill v6), .int y0, .int (0 : Int32)] [] S I J Q) : Go d i_X9_leastSet 53 [.ref h0, .ref h1, .ref h2, .ref h3, .ref h4, .long j5, v6, v7, v8] [.int y0] S I J Q := by
  have h := kk
  exact Go.n tb_X9_leastSet 3 h
theorem b_X9_leastSet_58 {d : Nat} {S : zS} {I : zI} {J : zJ} {Q : zQ} {h0 : Nat} {h1 : Nat} {h2 : Nat} {h3 : Nat} {h4 : Nat} {j5 : Int64} {v6 : Value} {x7 : Int32} {x8 : Int32} (g1 : z_kd S h0 = 10) (kt : (I h0 1) ≤ x8 → Go d i_X9_leastSet 84 [.ref h0, .ref h1, .ref h2, .ref h3, .ref h4, .long j5, v6, .int x7, .int x8] [] S I J Q) (kf : ¬ (I h0 1) ≤ x8 → Go d i_X9_leastSet 67 [.ref h0, .ref h1, .ref h2, .ref h3, .ref h4, .long j5, v6, .int x7, .int x8] [] S I J Q) : Go d i_X9_leastSet 58 [.ref h0, .ref h1, .ref h2, .ref h3, .ref h4, .long j5, v6, .int x7, .int x8] [] S I J Q := by
  have h := (And.intro g1 (Go.ite kt kf))
  exact Go.n tb_X9_leastSet 4 h
theorem b_X9_leastSet_67 {d : Nat} {S : zS} {I : zI} {J : zJ} {Q : zQ} {h0 : Nat} {h1 : Nat} {h2 : Nat} {h3 : Nat} {h4 : Nat} {j5 : Int64} {v6 : Value} {x7 : Int32} {x8 : Int32} (g1 : z_kd S h0 = 10) (g2 : z_kd S (z_rv S h0 0) = 100 ∧ vp_in x8 (z_ln S (z_rv S h0 0))) (kk : Go d i_X9_leastSet 58 [.ref h0, .ref h1, .ref h2, .ref h3, .ref h4, .long j5, v6, .int x7, .int (x8 + (1 : Int32))] [] S (z_u2 I (z_rv S h0 0) (Int32.toNatClampNeg x8) (x8 + (1 : Int32))) J Q) : Go d i_X9_leastSet 67 [.ref h0, .ref h1, .ref h2, .ref h3, .ref h4, .long j5, v6, .int x7, .int x8] [] S I J Q := by
  have h := (And.intro g1 (And.intro g2 kk))
  exact Go.n tb_X9_leastSet 9 h
theorem b_X9_leastSet_84 {d : Nat} {S : zS} {I : zI} {J : zJ} {Q : zQ} {h0 : Nat} {h1 : Nat} {h2 : Nat} {h3 : Nat} {h4 : Nat} {j5 : Int64} {v6 : Value} {x7 : Int32} {x8 : Int32} (kk : Go d i_X9_leastSet 87 [.ref h0, .ref h1, .ref h2, .ref h3, .ref h4, .long j5, v6, .int x7, .int (0 : Int32)] [] S I J Q) : Go d i_X9_leastSet 84 [.ref h0, .ref h1, .ref h2, .ref h3, .ref h4, .long j5, v6, .int x7, .int x8] [] S I J Q := by
  have h := kk
  exact Go.n tb_X9_leastSet 2 h
theorem b_X9_leastSet_87 {d : Nat} {S : zS} {I : zI} {J : zJ} {Q : zQ} {h0 : Nat} {h1 : Nat} {h2 : Nat} {h3 : Nat} {h4 : Nat} {j5 : Int64} {v6 : Value} {x7 : Int32} {x8 : Int32} (kt : (4000 : Int32) ≤ x8 → Go d i_X9_leastSet 160 [.ref h0, .ref h1, .ref h2, .ref h3, .ref h4, .long j5, v6, .int x7, .int x8] [] S I J Q) (kf : ¬ (4000 : Int32) ≤ x8 → Go d i_X9_leastSet 95 [.ref h0, .ref h1, .ref h2, .ref h3, .ref h4, .long j5, v6, .int x7, .int x8] [] S I J Q) : Go d i_X9_leastSet 87 [.ref h0, .ref h1, .ref h2, .ref h3, .ref h4, .long j5, v6, .int x7, .int x8] [] S I J Q := by
  have h := (Go.ite kt kf)
  exact Go.n tb_X9_leastSet 3 h
theorem b_X9_leastSet_95 {d : Nat} {S : zS} {I : zI} {J : zJ} {Q : zQ} {h0 : Nat} {h1 : Nat} {h2 : Nat} {h3 : Nat} {h4 : Nat} {j5 : Int64} {v6 : Value} {x7 : Int32} {x8 : Int32} (g1 : z_kd S h0 = 10) (g2 : z_kd S h0 = 10) (g3 : z_isI (z_kd S (z_rv S h0 0)) = true ∧ vp_in ((I h0 1) - (1 : Int32)) (z_ln S (z_rv S h0 0))) (g4 : z_kd S h2 = 2) (kt : (I h2 0) ≤ (I (z_rv S h0 0) (Int32.toNatClampNeg ((I h0 1) - (1 : Int32)))) → Go d i_X9_leastSet 160 [.ref h0, .ref h1, .ref h2, .ref h3, .ref h4, .long j5, v6, .int x7, .int x8] [] S I J Q) (kf : ¬ (I h2 0) ≤ (I (z_rv S h0 0) (Int32.toNatClampNeg ((I h0 1) - (1 : Int32)))) → Go d i_X9_leastSet 113 [.ref h0, .ref h1, .ref h2, .ref h3, .ref h4, .long j5, v6, .int x7, .int x8] [] S I J Q) : Go d i_X9_leastSet 95 [.ref h0, .ref h1, .ref h2, .ref h3, .ref h4, .long j5, v6, .int x7, .int x8] [] S I J Q := by
  have h := (And.intro g1 (And.intro g2 (And.intro g3 (And.intro g4 (Go.ite kt kf)))))
  exact Go.n tb_X9_leastSet 10 h
theorem b_X9_leastSet_113 {d : Nat} {S : zS} {I : zI} {J : zJ} {Q : zQ} {h0 : Nat} {h1 : Nat} {h2 : Nat} {h3 : Nat} {h4 : Nat} {j5 : Int64} {v6 : Value} {x7 : Int32} {x8 : Int32} (g1 : z_kd S h0 = 10) (kk : z_wp d i_X9_shortWalks [.ref h0, .ref h2] S I J (fun vv SS II JJ => Go d i_X9_leastSet 118 [.ref h0, .ref h1, .ref h2, .ref h3, .ref h4, .long j5, v6, .int x7, .int x8] (vv.toList ++ []) SS II JJ Q)) : Go d i_X9_leastSet 113 [.ref h0, .ref h1, .ref h2, .ref h3, .ref h4, .long j5, v6, .int x7, .int x8] [] S I J Q := by
  have h := (And.intro g1 kk)
  exact Go.n tb_X9_leastSet 3 h
theorem b_X9_leastSet_118 {d : Nat} {S : zS} {I : zI} {J : zJ} {Q : zQ} {h0 : Nat} {h1 : Nat} {h2 : Nat} {h3 : Nat} {h4 : Nat} {j5 : Int64} {v6 : Value} {x7 : Int32} {x8 : Int32} {w0 : Int64} (kt : ¬ (lg_cmp w0 j5) = (0 : Int32) → Go d i_X9_leastSet 150 [.ref h0, .ref h1, .ref h2, .ref h3, .ref h4, .long j5, v6, .int x7, .int x8] [] S I J Q) (kf : (lg_cmp w0 j5) = (0 : Int32) → Go d i_X9_leastSet 124 [.ref h0, .ref h1, .ref h2, .ref h3, .ref h4, .long j5, v6, .int x7, .int x8] [] S I J Q) : Go d i_X9_leastSet 118 [.ref h0, .ref h1, .ref h2, .ref h3, .ref h4, .long j5, v6, .int x7, .int x8] [.long w0] S I J Q := by
  have h := (Go.eti kt kf)
  exact Go.n tb_X9_leastSet 3 h
theorem b_X9_leastSet_124 {d : Nat} {S : zS} {I : zI} {J : zJ} {Q : zQ} {h0 : Nat} {h1 : Nat} {h2 : Nat} {h3 : Nat} {h4 : Nat} {j5 : Int64} {v6 : Value} {x7 : Int32} {x8 : Int32} (g1 : z_kd S h0 = 10) (kk : z_wp d i_X9_longWalks [.ref h0, .ref h2] S I J (fun vv SS II JJ => Go d i_X9_leastSet 129 [.ref h0, .ref h1, .ref h2, .ref h3, .ref h4, .long j5, v6, .int x7, .int x8] (vv.toList ++ []) SS II JJ Q)) : Go d i_X9_leastSet 124 [.ref h0, .ref h1, .ref h2, .ref h3, .ref h4, .long j5, v6, .int x7, .int x8] [] S I J Q := by
  have h := (And.intro g1 kk)
  exact Go.n tb_X9_leastSet 3 h
theorem b_X9_leastSet_129 {d : Nat} {S : zS} {I : zI} {J : zJ} {Q : zQ} {h0 : Nat} {h1 : Nat} {h2 : Nat} {h3 : Nat} {h4 : Nat} {j5 : Int64} {v6 : Value} {x7 : Int32} {x8 : Int32} {y0 : Int32} (kt : ¬ y0 = x7 → Go d i_X9_leastSet 150 [.ref h0, .ref h1, .ref h2, .ref h3, .ref h4, .long j5, v6, .int x7, .int x8] [] S I J Q) (kf : y0 = x7 → Go d i_X9_leastSet 134 [.ref h0, .ref h1, .ref h2, .ref h3, .ref h4, .long j5, v6, .int x7, .int x8] [] S I J Q) : Go d i_X9_leastSet 129 [.ref h0, .ref h1, .ref h2, .ref h3, .ref h4, .long j5, v6, .int x7, .int x8] [.int y0] S I J Q := by
  have h := (Go.eti kt kf)
  exact Go.n tb_X9_leastSet 2 h
theorem b_X9_leastSet_134 {d : Nat} {S : zS} {I : zI} {J : zJ} {Q : zQ} {h0 : Nat} {h1 : Nat} {h2 : Nat} {h3 : Nat} {h4 : Nat} {j5 : Int64} {v6 : Value} {x7 : Int32} {x8 : Int32} (g1 : z_kd S h0 = 10) (kk : z_wp d i_X9_isWanted [.ref h0, .ref h4, .ref h2, .ref h3] S I J (fun vv SS II JJ => Go d i_X9_leastSet 142 [.ref h0, .ref h1, .ref h2, .ref h3, .ref h4, .long j5, v6, .int x7, .int x8] (vv.toList ++ []) SS II JJ Q)) : Go d i_X9_leastSet 134 [.ref h0, .ref h1, .ref h2, .ref h3, .ref h4, .long j5, v6, .int x7, .int x8] [] S I J Q := by
  have h := (And.intro g1 kk)
  exact Go.n tb_X9_leastSet 5 h
theorem b_X9_leastSet_142 {d : Nat} {S : zS} {I : zI} {J : zJ} {Q : zQ} {h0 : Nat} {h1 : Nat} {h2 : Nat} {h3 : Nat} {h4 : Nat} {j5 : Int64} {v6 : Value} {x7 : Int32} {x8 : Int32} {y0 : Int32} (kt : y0 = (0 : Int32) → Go d i_X9_leastSet 150 [.ref h0, .ref h1, .ref h2, .ref h3, .ref h4, .long j5, v6, .int x7, .int x8] [] S I J Q) (kf : ¬ y0 = (0 : Int32) → Go d i_X9_leastSet 145 [.ref h0, .ref h1, .ref h2, .ref h3, .ref h4, .long j5, v6, .int x7, .int x8] [] S I J Q) : Go d i_X9_leastSet 142 [.ref h0, .ref h1, .ref h2, .ref h3, .ref h4, .long j5, v6, .int x7, .int x8] [.int y0] S I J Q := by
  have h := (Go.ite kt kf)
  exact Go.n tb_X9_leastSet 1 h
theorem b_X9_leastSet_145 {d : Nat} {S : zS} {I : zI} {J : zJ} {Q : zQ} {h0 : Nat} {h1 : Nat} {h2 : Nat} {h3 : Nat} {h4 : Nat} {j5 : Int64} {v6 : Value} {x7 : Int32} {x8 : Int32} (g1 : z_kd S h0 = 10) (kk : z_wp d i_X9_chosenSet [.ref h0] S I J (fun vv SS II JJ => Go d i_X9_leastSet 149 [.ref h0, .ref h1, .ref h2, .ref h3, .ref h4, .long j5, v6, .int x7, .int x8] (vv.toList ++ []) SS II JJ Q)) : Go d i_X9_leastSet 145 [.ref h0, .ref h1, .ref h2, .ref h3, .ref h4, .long j5, v6, .int x7, .int x8] [] S I J Q := by
  have h := (And.intro g1 kk)
  exact Go.n tb_X9_leastSet 2 h
theorem b_X9_leastSet_149 {d : Nat} {S : zS} {I : zI} {J : zJ} {Q : zQ} {h0 : Nat} {h1 : Nat} {h2 : Nat} {h3 : Nat} {h4 : Nat} {j5 : Int64} {v6 : Value} {x7 : Int32} {x8 : Int32} {y0 : Int32} (kk : Q (some (.int y0)) S I J) : Go d i_X9_leastSet 149 [.ref h0, .ref h1, .ref h2, .ref h3, .ref h4, .long j5, v6, .int x7, .int x8] [.int y0] S I J Q := by
  have h := (And.intro trivial kk)
  exact Go.n tb_X9_leastSet 1 h
theorem b_X9_leastSet_150 {d : Nat} {S : zS} {I : zI} {J : zJ} {Q : zQ} {h0 : Nat} {h1 : Nat} {h2 : Nat} {h3 : Nat} {h4 : Nat} {j5 : Int64} {v6 : Value} {x7 : Int32} {x8 : Int32} (g1 : z_kd S h0 = 10) (kk : z_wp d i_X9_chooseNext [.ref h0] S I J (fun vv SS II JJ => Go d i_X9_leastSet 154 [.ref h0, .ref h1, .ref h2, .ref h3, .ref h4, .long j5, v6, .int x7, .int x8] (vv.toList ++ []) SS II JJ Q)) : Go d i_X9_leastSet 150 [.ref h0, .ref h1, .ref h2, .ref h3, .ref h4, .long j5, v6, .int x7, .int x8] [] S I J Q := by
  have h := (And.intro g1 kk)
  exact Go.n tb_X9_leastSet 2 h
theorem b_X9_leastSet_154 {d : Nat} {S : zS} {I : zI} {J : zJ} {Q : zQ} {h0 : Nat} {h1 : Nat} {h2 : Nat} {h3 : Nat} {h4 : Nat} {j5 : Int64} {v6 : Value} {x7 : Int32} {x8 : Int32} (kk : Go d i_X9_leastSet 87 [.ref h0, .ref h1, .ref h2, .ref h3, .ref h4, .long j5, v6, .int x7, .int (x8 + (1 : Int32))] [] S I J Q) : Go d i_X9_leastSet 154 [.ref h0, .ref h1, .ref h2, .ref h3, .ref h4, .long j5, v6, .int x7, .int x8] [] S I J Q := by
  have h := kk
  exact Go.n tb_X9_leastSet 2 h
theorem b_X9_leastSet_160 {d : Nat} {S : zS} {I : zI} {J : zJ} {Q : zQ} {h0 : Nat} {h1 : Nat} {h2 : Nat} {h3 : Nat} {h4 : Nat} {j5 : Int64} {v6 : Value} {x7 : Int32} {x8 : Int32} (kk : Q (some (.int (-1 : Int32))) S I J) : Go d i_X9_leastSet 160 [.ref h0, .ref h1, .ref h2, .ref h3, .ref h4, .long j5, v6, .int x7, .int x8] [] S I J Q := by
  have h := (And.intro trivial kk)
  exact Go.n tb_X9_leastSet 2 h
theorem w_X9_isWanted {d : Nat} {S : zS} {I : zI} {J : zJ} {Q : zQ} {h0 : Nat} {h1 : Nat} {h2 : Nat} {h3 : Nat} (h : Go d i_X9_isWanted 0 [.ref h0, .ref h1, .ref h2, .ref h3] [] S I J Q) : z_wp (d + 1) i_X9_isWanted [.ref h0, .ref h1, .ref h2, .ref h3] S I J Q := Go.wp (Nat.le_of_ble_eq_true rfl) h
theorem e_X9_isWanted {d : Nat} {S S2 : zS} {I I2 : zI} {J J2 : zJ} {r : Option Value} {h0 : Nat} {h1 : Nat} {h2 : Nat} {h3 : Nat} (h : Go d i_X9_isWanted 0 [.ref h0, .ref h1, .ref h2, .ref h3] [] S I J (z_eq r S2 I2 J2)) : z_ev (d + 1) i_X9_isWanted [.ref h0, .ref h1, .ref h2, .ref h3] S I J r S2 I2 J2 := Go.ev (Nat.le_of_ble_eq_true rfl) h
theorem b_X9_isWanted_0 {d : Nat} {S : zS} {I : zI} {J : zJ} {Q : zQ} {h0 : Nat} {h1 : Nat} {h2 : Nat} {h3 : Nat} (g1 : z_kd S h0 = 10) (g2 : z_kd S h0 = 10) (kk : z_wp d i_X9_chosenSet [.ref h0] S I J (fun vv SS II JJ => Go d i_X9_isWanted 9 [.ref h0, .ref h1, .ref h2, .ref h3] (vv.toList ++ [.ref h2, .ref (z_rv S h0 5)]) SS II JJ Q)) : Go d i_X9_isWanted 0 [.ref h0, .ref h1, .ref h2, .ref h3] [] S I J Q := by
  have h := (And.intro g1 (And.intro g2 kk))
  exact Go.n tb_X9_isWanted 5 h
theorem b_X9_isWanted_9 {d : Nat} {S : zS} {I : zI} {J : zJ} {Q : zQ} {h0 : Nat} {h1 : Nat} {h2 : Nat} {h3 : Nat} {q0 : Nat} {q1 : Nat} {y2 : Int32} (g1 : z_kd S q0 = 1) (kk : z_wp d i_X0_paint [.ref q0, .ref q1, .int y2] S I J (fun vv SS II JJ => Go d i_X9_isWanted 12 [.ref h0, .ref h1, .ref h2, .ref h3] (vv.toList ++ []) SS II JJ Q)) : Go d i_X9_isWanted 9 [.ref h0, .ref h1, .ref h2, .ref h3] [.int y2, .ref q1, .ref q0] S I J Q := by
  have h := (And.intro g1 kk)
  exact Go.n tb_X9_isWanted 1 h
theorem b_X9_isWanted_12 {d : Nat} {S : zS} {I : zI} {J : zJ} {Q : zQ} {h0 : Nat} {h1 : Nat} {h2 : Nat} {h3 : Nat} (g1 : z_kd S h0 = 10) (g2 : z_kd S h3 = 8) (kk : z_wp d i_X7_fits [.ref h3, .ref h1, .ref (z_rv S h0 5)] S I J (fun vv SS II JJ => Go d i_X9_isWanted 21 [.ref h0, .ref h1, .ref h2, .ref h3] (vv.toList ++ []) SS II JJ Q)) : Go d i_X9_isWanted 12 [.ref h0, .ref h1, .ref h2, .ref h3] [] S I J Q := by
  have h := (And.intro g1 (And.intro g2 kk))
  exact Go.n tb_X9_isWanted 5 h
theorem b_X9_isWanted_21 {d : Nat} {S : zS} {I : zI} {J : zJ} {Q : zQ} {h0 : Nat} {h1 : Nat} {h2 : Nat} {h3 : Nat} {y0 : Int32} (kt : ¬ y0 = (0 : Int32) → Go d i_X9_isWanted 26 [.ref h0, .ref h1, .ref h2, .ref h3] [] S I J Q) (kf : y0 = (0 : Int32) → Go d i_X9_isWanted 24 [.ref h0, .ref h1, .ref h2, .ref h3] [] S I J Q) : Go d i_X9_isWanted 21 [.ref h0, .ref h1, .ref h2, .ref h3] [.int y0] S I J Q := by
  have h := (Go.eti kt kf)
  exact Go.n tb_X9_isWanted 1 h
theorem b_X9_isWanted_24 {d : Nat} {S : zS} {I : zI} {J : zJ} {Q : zQ} {h0 : Nat} {h1 : Nat} {h2 : Nat} {h3 : Nat} (g1 : z_fit 3 (0 : Int32)) (kk : Q (some (.int (0 : Int32))) S I J) : Go d i_X9_isWanted 24 [.ref h0, .ref h1, .ref h2, .ref h3] [] S I J Q := by
  have h := (And.intro g1 kk)
  exact Go.n tb_X9_isWanted 2 h
theorem b_X9_isWanted_26 {d : Nat} {S : zS} {I : zI} {J : zJ} {Q : zQ} {h0 : Nat} {h1 : Nat} {h2 : Nat} {h3 : Nat} (g1 : z_kd S h0 = 10) (g2 : z_kd S (z_rv S h0 5) = 1) (kk : z_wp d i_X0_spreadOut [.ref (z_rv S h0 5), .ref h2] S I J (fun vv SS II JJ => Go d i_X9_isWanted 34 [.ref h0, .ref h1, .ref h2, .ref h3] (vv.toList ++ []) SS II JJ Q)) : Go d i_X9_isWanted 26 [.ref h0, .ref h1, .ref h2, .ref h3] [] S I J Q := by
  have h := (And.intro g1 (And.intro g2 kk))
  exact Go.n tb_X9_isWanted 4 h
theorem b_X9_isWanted_34 {d : Nat} {S : zS} {I : zI} {J : zJ} {Q : zQ} {h0 : Nat} {h1 : Nat} {h2 : Nat} {h3 : Nat} (g1 : z_kd S h0 = 10) (g2 : z_kd S h3 = 8) (kk : z_wp d i_X7_isMatch [.ref h3, .ref h1, .ref (z_rv S h0 5)] S I J (fun vv SS II JJ => Go d i_X9_isWanted 43 [.ref h0, .ref h1, .ref h2, .ref h3] (vv.toList ++ []) SS II JJ Q)) : Go d i_X9_isWanted 34 [.ref h0, .ref h1, .ref h2, .ref h3] [] S I J Q := by
  have h := (And.intro g1 (And.intro g2 kk))
  exact Go.n tb_X9_isWanted 5 h
theorem b_X9_isWanted_43 {d : Nat} {S : zS} {I : zI} {J : zJ} {Q : zQ} {h0 : Nat} {h1 : Nat} {h2 : Nat} {h3 : Nat} {y0 : Int32} (g1 : z_fit 3 y0) (kk : Q (some (.int y0)) S I J) : Go d i_X9_isWanted 43 [.ref h0, .ref h1, .ref h2, .ref h3] [.int y0] S I J Q := by
  have h := (And.intro g1 kk)
  exact Go.n tb_X9_isWanted 1 h
theorem w_X9_chooseOf {d : Nat} {S : zS} {I : zI} {J : zJ} {Q : zQ} {h0 : Nat} {h1 : Nat} (h : Go d i_X9_chooseOf 0 [.ref h0, .ref h1, .retAddr 0, .retAddr 0] [] S I J Q) : z_wp (d + 1) i_X9_chooseOf [.ref h0, .ref h1] S I J Q := Go.wp (Nat.le_of_ble_eq_true rfl) h
theorem e_X9_chooseOf {d : Nat} {S S2 : zS} {I I2 : zI} {J J2 : zJ} {r : Option Value} {h0 : Nat} {h1 : Nat} (h : Go d i_X9_chooseOf 0 [.ref h0, .ref h1, .retAddr 0, .retAddr 0] [] S I J (z_eq r S2 I2 J2)) : z_ev (d + 1) i_X9_chooseOf [.ref h0, .ref h1] S I J r S2 I2 J2 := Go.ev (Nat.le_of_ble_eq_true rfl) h
theorem b_X9_chooseOf_0 {d : Nat} {S : zS} {I : zI} {J : zJ} {Q : zQ} {h0 : Nat} {h1 : Nat} {v2 : Value} {v3 : Value} (kk : Go d i_X9_chooseOf 4 [.ref h0, .ref h1, .int (0 : Int32), .int (1 : Int32)] [] S I J Q) : Go d i_X9_chooseOf 0 [.ref h0, .ref h1, v2, v3] [] S I J Q := by
  have h := kk
  exact Go.n tb_X9_chooseOf 4 h
theorem b_X9_chooseOf_4 {d : Nat} {S : zS} {I : zI} {J : zJ} {Q : zQ} {h0 : Nat} {h1 : Nat} {x2 : Int32} {x3 : Int32} (g1 : z_kd S h1 = 9) (g2 : z_kd S (z_rv S h1 0) = 2) (kt : (I (z_rv S h1 0) 0) ≤ x3 → Go d i_X9_chooseOf 50 [.ref h0, .ref h1, .int x2, .int x3] [] S I J Q) (kf : ¬ (I (z_rv S h1 0) 0) ≤ x3 → Go d i_X9_chooseOf 15 [.ref h0, .ref h1, .int x2, .int x3] [] S I J Q) : Go d i_X9_chooseOf 4 [.ref h0, .ref h1, .int x2, .int x3] [] S I J Q := by
  have h := (And.intro g1 (And.intro g2 (Go.ite kt kf)))
  exact Go.n tb_X9_chooseOf 5 h
theorem b_X9_chooseOf_15 {d : Nat} {S : zS} {I : zI} {J : zJ} {Q : zQ} {h0 : Nat} {h1 : Nat} {x2 : Int32} {x3 : Int32} (g1 : z_kd S h1 = 9) (kt : (((I h1 1) >>> (x3 &&& 31)) &&& (1 : Int32)) = (0 : Int32) → Go d i_X9_chooseOf 44 [.ref h0, .ref h1, .int x2, .int x3] [] S I J Q) (kf : ¬ (((I h1 1) >>> (x3 &&& 31)) &&& (1 : Int32)) = (0 : Int32) → Go d i_X9_chooseOf 26 [.ref h0, .ref h1, .int x2, .int x3] [] S I J Q) : Go d i_X9_chooseOf 15 [.ref h0, .ref h1, .int x2, .int x3] [] S I J Q := by
  have h := (And.intro g1 (Go.ite kt kf))
  exact Go.n tb_X9_chooseOf 7 h
theorem b_X9_chooseOf_26 {d : Nat} {S : zS} {I : zI} {J : zJ} {Q : zQ} {h0 : Nat} {h1 : Nat} {x2 : Int32} {x3 : Int32} (g1 : z_kd S h0 = 10) (kt : (I h0 1) ≤ x2 → Go d i_X9_chooseOf 44 [.ref h0, .ref h1, .int x2, .int x3] [] S I J Q) (kf : ¬ (I h0 1) ≤ x2 → Go d i_X9_chooseOf 34 [.ref h0, .ref h1, .int x2, .int x3] [] S I J Q) : Go d i_X9_chooseOf 26 [.ref h0, .ref h1, .int x2, .int x3] [] S I J Q := by
  have h := (And.intro g1 (Go.ite kt kf))
  exact Go.n tb_X9_chooseOf 4 h
theorem b_X9_chooseOf_34 {d : Nat} {S : zS} {I : zI} {J : zJ} {Q : zQ} {h0 : Nat} {h1 : Nat} {x2 : Int32} {x3 : Int32} (g1 : z_kd S h0 = 10) (g2 : z_kd S (z_rv S h0 0) = 100 ∧ vp_in x2 (z_ln S (z_rv S h0 0))) (kk : Go d i_X9_chooseOf 4 [.ref h0, .ref h1, .int (x2 + (1 : Int32)), .int (x3 + (1 : Int32))] [] S (z_u2 I (z_rv S h0 0) (Int32.toNatClampNeg x2) x3) J Q) : Go d i_X9_chooseOf 34 [.ref h0, .ref h1, .int x2, .int x3] [] S I J Q := by
  have h := (And.intro g1 (And.intro g2 kk))
  exact Go.n tb_X9_chooseOf 8 h
theorem b_X9_chooseOf_44 {d : Nat} {S : zS} {I : zI} {J : zJ} {Q : zQ} {h0 : Nat} {h1 : Nat} {x2 : Int32} {x3 : Int32} (kk : Go d i_X9_chooseOf 4 [.ref h0, .ref h1, .int x2, .int (x3 + (1 : Int32))] [] S I J Q) : Go d i_X9_chooseOf 44 [.ref h0, .ref h1, .int x2, .int x3] [] S I J Q := by
  have h := kk
  exact Go.n tb_X9_chooseOf 2 h
theorem b_X9_chooseOf_50 {d : Nat} {S : zS} {I : zI} {J : zJ} {Q : zQ} {h0 : Nat} {h1 : Nat} {x2 : Int32} {x3 : Int32} (kk : Q none S I J) : Go d i_X9_chooseOf 50 [.ref h0, .ref h1, .int x2, .int x3] [] S I J Q := by
  have h := (And.intro trivial kk)
  exact Go.n tb_X9_chooseOf 1 h
theorem w_X9_chosenSet {d : Nat} {S : zS} {I : zI} {J : zJ} {Q : zQ} {h0 : Nat} (h : Go d i_X9_chosenSet 0 [.ref h0, .retAddr 0, .retAddr 0] [] S I J Q) : z_wp (d + 1) i_X9_chosenSet [.ref h0] S I J Q := Go.wp (Nat.le_of_ble_eq_true rfl) h
theorem e_X9_chosenSet {d : Nat} {S S2 : zS} {I I2 : zI} {J J2 : zJ} {r : Option Value} {h0 : Nat} (h : Go d i_X9_chosenSet 0 [.ref h0, .retAddr 0, .retAddr 0] [] S I J (z_eq r S2 I2 J2)) : z_ev (d + 1) i_X9_chosenSet [.ref h0] S I J r S2 I2 J2 := Go.ev (Nat.le_of_ble_eq_true rfl) h
theorem b_X9_chosenSet_0 {d : Nat} {S : zS} {I : zI} {J : zJ} {Q : zQ} {h0 : Nat} {v1 : Value} {v2 : Value} (kk : Go d i_X9_chosenSet 4 [.ref h0, .int (0 : Int32), .int (0 : Int32)] [] S I J Q) : Go d i_X9_chosenSet 0 [.ref h0, v1, v2] [] S I J Q := by
  have h := kk
  exact Go.n tb_X9_chosenSet 4 h
theorem b_X9_chosenSet_4 {d : Nat} {S : zS} {I : zI} {J : zJ} {Q : zQ} {h0 : Nat} {x1 : Int32} {x2 : Int32} (g1 : z_kd S h0 = 10) (kt : (I h0 1) ≤ x2 → Go d i_X9_chosenSet 29 [.ref h0, .int x1, .int x2] [] S I J Q) (kf : ¬ (I h0 1) ≤ x2 → Go d i_X9_chosenSet 12 [.ref h0, .int x1, .int x2] [] S I J Q) : Go d i_X9_chosenSet 4 [.ref h0, .int x1, .int x2] [] S I J Q := by
  have h := (And.intro g1 (Go.ite kt kf))
  exact Go.n tb_X9_chosenSet 4 h
theorem b_X9_chosenSet_12 {d : Nat} {S : zS} {I : zI} {J : zJ} {Q : zQ} {h0 : Nat} {x1 : Int32} {x2 : Int32} (g1 : z_kd S h0 = 10) (g2 : z_isI (z_kd S (z_rv S h0 0)) = true ∧ vp_in x2 (z_ln S (z_rv S h0 0))) (kk : Go d i_X9_chosenSet 4 [.ref h0, .int (x1 ||| ((1 : Int32) <<< ((I (z_rv S h0 0) (Int32.toNatClampNeg x2)) &&& 31))), .int (x2 + (1 : Int32))] [] S I J Q) : Go d i_X9_chosenSet 12 [.ref h0, .int x1, .int x2] [] S I J Q := by
  have h := (And.intro g1 (And.intro g2 kk))
  exact Go.n tb_X9_chosenSet 11 h
theorem b_X9_chosenSet_29 {d : Nat} {S : zS} {I : zI} {J : zJ} {Q : zQ} {h0 : Nat} {x1 : Int32} {x2 : Int32} (kk : Q (some (.int x1)) S I J) : Go d i_X9_chosenSet 29 [.ref h0, .int x1, .int x2] [] S I J Q := by
  have h := (And.intro trivial kk)
  exact Go.n tb_X9_chosenSet 2 h
theorem w_X9_chooseNext {d : Nat} {S : zS} {I : zI} {J : zJ} {Q : zQ} {h0 : Nat} (h : Go d i_X9_chooseNext 0 [.ref h0, .retAddr 0] [] S I J Q) : z_wp (d + 1) i_X9_chooseNext [.ref h0] S I J Q := Go.wp (Nat.le_of_ble_eq_true rfl) h
theorem e_X9_chooseNext {d : Nat} {S S2 : zS} {I I2 : zI} {J J2 : zJ} {r : Option Value} {h0 : Nat} (h : Go d i_X9_chooseNext 0 [.ref h0, .retAddr 0] [] S I J (z_eq r S2 I2 J2)) : z_ev (d + 1) i_X9_chooseNext [.ref h0] S I J r S2 I2 J2 := Go.ev (Nat.le_of_ble_eq_true rfl) h
theorem b_X9_chooseNext_0 {d : Nat} {S : zS} {I : zI} {J : zJ} {Q : zQ} {h0 : Nat} {v1 : Value} (kk : Go d i_X9_chooseNext 2 [.ref h0, .int (0 : Int32)] [] S I J Q) : Go d i_X9_chooseNext 0 [.ref h0, v1] [] S I J Q := by
  have h := kk
  exact Go.n tb_X9_chooseNext 2 h
theorem b_X9_chooseNext_2 {d : Nat} {S : zS} {I : zI} {J : zJ} {Q : zQ} {h0 : Nat} {x1 : Int32} (g1 : z_kd S h0 = 10) (kt : ((I h0 1) - (1 : Int32)) ≤ x1 → Go d i_X9_chooseNext 46 [.ref h0, .int x1] [] S I J Q) (kf : ¬ ((I h0 1) - (1 : Int32)) ≤ x1 → Go d i_X9_chooseNext 12 [.ref h0, .int x1] [] S I J Q) : Go d i_X9_chooseNext 2 [.ref h0, .int x1] [] S I J Q := by
  have h := (And.intro g1 (Go.ite kt kf))
  exact Go.n tb_X9_chooseNext 6 h
theorem b_X9_chooseNext_12 {d : Nat} {S : zS} {I : zI} {J : zJ} {Q : zQ} {h0 : Nat} {x1 : Int32} (g1 : z_kd S h0 = 10) (g2 : z_isI (z_kd S (z_rv S h0 0)) = true ∧ vp_in x1 (z_ln S (z_rv S h0 0))) (g3 : z_kd S h0 = 10) (g4 : z_isI (z_kd S (z_rv S h0 0)) = true ∧ vp_in (x1 + (1 : Int32)) (z_ln S (z_rv S h0 0))) (kt : ¬ ((I (z_rv S h0 0) (Int32.toNatClampNeg x1)) + (1 : Int32)) = (I (z_rv S h0 0) (Int32.toNatClampNeg (x1 + (1 : Int32)))) → Go d i_X9_chooseNext 46 [.ref h0, .int x1] [] S I J Q) (kf : ((I (z_rv S h0 0) (Int32.toNatClampNeg x1)) + (1 : Int32)) = (I (z_rv S h0 0) (Int32.toNatClampNeg (x1 + (1 : Int32)))) → Go d i_X9_chooseNext 31 [.ref h0, .int x1] [] S I J Q) : Go d i_X9_chooseNext 12 [.ref h0, .int x1] [] S I J Q := by
  have h := (And.intro g1 (And.intro g2 (And.intro g3 (And.intro g4 (Go.eti kt kf)))))
  exact Go.n tb_X9_chooseNext 13 h
theorem b_X9_chooseNext_31 {d : Nat} {S : zS} {I : zI} {J : zJ} {Q : zQ} {h0 : Nat} {x1 : Int32} (g1 : z_kd S h0 = 10) (g2 : z_kd S (z_rv S h0 0) = 100 ∧ vp_in x1 (z_ln S (z_rv S h0 0))) (kk : Go d i_X9_chooseNext 2 [.ref h0, .int (x1 + (1 : Int32))] [] S (z_u2 I (z_rv S h0 0) (Int32.toNatClampNeg x1) (x1 + (1 : Int32))) J Q) : Go d i_X9_chooseNext 31 [.ref h0, .int x1] [] S I J Q := by
  have h := (And.intro g1 (And.intro g2 kk))
  exact Go.n tb_X9_chooseNext 9 h
theorem b_X9_chooseNext_46 {d : Nat} {S : zS} {I : zI} {J : zJ} {Q : zQ} {h0 : Nat} {x1 : Int32} (g1 : z_kd S h0 = 10) (g2 : z_isI (z_kd S (z_rv S h0 0)) = true ∧ vp_in x1 (z_ln S (z_rv S h0 0))) (g3 : z_kd S (z_rv S h0 0) = 100 ∧ vp_in x1 (z_ln S (z_rv S h0 0))) (kk : Q none S (z_u2 I (z_rv S h0 0) (Int32.toNatClampNeg x1) ((I (z_rv S h0 0) (Int32.toNatClampNeg x1)) + (1 : Int32))) J) : Go d i_X9_chooseNext 46 [.ref h0, .int x1] [] S I J Q := by
  have h := (And.intro g1 (And.intro g2 (And.intro g3 (And.intro trivial kk))))
  exact Go.n tb_X9_chooseNext 9 h
theorem w_X9_shortWalks {d : Nat} {S : zS} {I : zI} {J : zJ} {Q : zQ} {h0 : Nat} {h1 : Nat} (h : Go d i_X9_shortWalks 0 [.ref h0, .ref h1, .retAddr 0, .retAddr 0, .retAddr 0, .retAddr 0, .retAddr 0] [] S I J Q) : z_wp (d + 1) i_X9_shortWalks [.ref h0, .ref h1] S I J Q := Go.wp (Nat.le_of_ble_eq_true rfl) h
theorem e_X9_shortWalks {d : Nat} {S S2 : zS} {I I2 : zI} {J J2 : zJ} {r : Option Value} {h0 : Nat} {h1 : Nat} (h : Go d i_X9_shortWalks 0 [.ref h0, .ref h1, .retAddr 0, .retAddr 0, .retAddr 0, .retAddr 0, .retAddr 0] [] S I J (z_eq r S2 I2 J2)) : z_ev (d + 1) i_X9_shortWalks [.ref h0, .ref h1] S I J r S2 I2 J2 := Go.ev (Nat.le_of_ble_eq_true rfl) h
theorem b_X9_shortWalks_0 {d : Nat} {S : zS} {I : zI} {J : zJ} {Q : zQ} {h0 : Nat} {h1 : Nat} {v2 : Value} {v3 : Value} {v4 : Value} {v5 : Value} {v6 : Value} (g1 : z_kd S h0 = 10) (kk : z_wp d i_X9_chosenSet [.ref h0] S I J (fun vv SS II JJ => Go d i_X9_shortWalks 4 [.ref h0, .ref h1, v2, v3, v4, v5, v6] (vv.toList ++ []) SS II JJ Q)) : Go d i_X9_shortWalks 0 [.ref h0, .ref h1, v2, v3, v4, v5, v6] [] S I J Q := by
  have h := (And.intro g1 kk)
  exact Go.n tb_X9_shortWalks 2 h
theorem b_X9_shortWalks_4 {d : Nat} {S : zS} {I : zI} {J : zJ} {Q : zQ} {h0 : Nat} {h1 : Nat} {v2 : Value} {v3 : Value} {v4 : Value} {v5 : Value} {v6 : Value} {y0 : Int32} (kk : Go d i_X9_shortWalks 7 [.ref h0, .ref h1, .int y0, .int (0 : Int32), v4, v5, v6] [] S I J Q) : Go d i_X9_shortWalks 4 [.ref h0, .ref h1, v2, v3, v4, v5, v6] [.int y0] S I J Q := by
  have h := kk
  exact Go.n tb_X9_shortWalks 3 h
theorem b_X9_shortWalks_7 {d : Nat} {S : zS} {I : zI} {J : zJ} {Q : zQ} {h0 : Nat} {h1 : Nat} {x2 : Int32} {x3 : Int32} {v4 : Value} {v5 : Value} {v6 : Value} (g1 : z_kd S h1 = 2) (kt : (I h1 0) ≤ x3 → Go d i_X9_shortWalks 28 [.ref h0, .ref h1, .int x2, .int x3, v4, v5, v6] [] S I J Q) (kf : ¬ (I h1 0) ≤ x3 → Go d i_X9_shortWalks 15 [.ref h0, .ref h1, .int x2, .int x3, v4, v5, v6] [] S I J Q) : Go d i_X9_shortWalks 7 [.ref h0, .ref h1, .int x2, .int x3, v4, v5, v6] [] S I J Q := by
  have h := (And.intro g1 (Go.ite kt kf))
  exact Go.n tb_X9_shortWalks 4 h
theorem b_X9_shortWalks_15 {d : Nat} {S : zS} {I : zI} {J : zJ} {Q : zQ} {h0 : Nat} {h1 : Nat} {x2 : Int32} {x3 : Int32} {v4 : Value} {v5 : Value} {v6 : Value} (g1 : z_kd S h0 = 10) (g2 : z_kd S (z_rv S h0 2) = 100 ∧ vp_in x3 (z_ln S (z_rv S h0 2))) (kk : Go d i_X9_shortWalks 7 [.ref h0, .ref h1, .int x2, .int (x3 + (1 : Int32)), v4, v5, v6] [] S (z_u2 I (z_rv S h0 2) (Int32.toNatClampNeg x3) (0 : Int32)) J Q) : Go d i_X9_shortWalks 15 [.ref h0, .ref h1, .int x2, .int x3, v4, v5, v6] [] S I J Q := by
  have h := (And.intro g1 (And.intro g2 kk))
  exact Go.n tb_X9_shortWalks 7 h
theorem b_X9_shortWalks_28 {d : Nat} {S : zS} {I : zI} {J : zJ} {Q : zQ} {h0 : Nat} {h1 : Nat} {x2 : Int32} {x3 : Int32} {v4 : Value} {v5 : Value} {v6 : Value} (kk : Go d i_X9_shortWalks 30 [.ref h0, .ref h1, .int x2, .int (0 : Int32), v4, v5, v6] [] S I J Q) : Go d i_X9_shortWalks 28 [.ref h0, .ref h1, .int x2, .int x3, v4, v5, v6] [] S I J Q := by
  have h := kk
  exact Go.n tb_X9_shortWalks 2 h
theorem b_X9_shortWalks_30 {d : Nat} {S : zS} {I : zI} {J : zJ} {Q : zQ} {h0 : Nat} {h1 : Nat} {x2 : Int32} {x3 : Int32} {v4 : Value} {v5 : Value} {v6 : Value} (g1 : z_kd S h0 = 10) (kt : (I h0 1) ≤ x3 → Go d i_X9_shortWalks 88 [.ref h0, .ref h1, .int x2, .int x3, v4, v5, v6] [] S I J Q) (kf : ¬ (I h0 1) ≤ x3 → Go d i_X9_shortWalks 38 [.ref h0, .ref h1, .int x2, .int x3, v4, v5, v6] [] S I J Q) : Go d i_X9_shortWalks 30 [.ref h0, .ref h1, .int x2, .int x3, v4, v5, v6] [] S I J Q := by
  have h := (And.intro g1 (Go.ite kt kf))
  exact Go.n tb_X9_shortWalks 4 h
theorem b_X9_shortWalks_38 {d : Nat} {S : zS} {I : zI} {J : zJ} {Q : zQ} {h0 : Nat} {h1 : Nat} {x2 : Int32} {x3 : Int32} {v4 : Value} {v5 : Value} {v6 : Value} (kk : Go d i_X9_shortWalks 41 [.ref h0, .ref h1, .int x2, .int x3, .int (0 : Int32), v5, v6] [] S I J Q) : Go d i_X9_shortWalks 38 [.ref h0, .ref h1, .int x2, .int x3, v4, v5, v6] [] S I J Q := by
  have h := kk
  exact Go.n tb_X9_shortWalks 2 h
theorem b_X9_shortWalks_41 {d : Nat} {S : zS} {I : zI} {J : zJ} {Q : zQ} {h0 : Nat} {h1 : Nat} {x2 : Int32} {x3 : Int32} {x4 : Int32} {v5 : Value} {v6 : Value} (g1 : z_kd S h0 = 10) (kt : (I h0 1) ≤ x4 → Go d i_X9_shortWalks 82 [.ref h0, .ref h1, .int x2, .int x3, .int x4, v5, v6] [] S I J Q) (kf : ¬ (I h0 1) ≤ x4 → Go d i_X9_shortWalks 50 [.ref h0, .ref h1, .int x2, .int x3, .int x4, v5, v6] [] S I J Q) : Go d i_X9_shortWalks 41 [.ref h0, .ref h1, .int x2, .int x3, .int x4, v5, v6] [] S I J Q := by
  have h := (And.intro g1 (Go.ite kt kf))
  exact Go.n tb_X9_shortWalks 4 h
theorem b_X9_shortWalks_50 {d : Nat} {S : zS} {I : zI} {J : zJ} {Q : zQ} {h0 : Nat} {h1 : Nat} {x2 : Int32} {x3 : Int32} {x4 : Int32} {v5 : Value} {v6 : Value} (g1 : z_kd S h0 = 10) (g2 : z_kd S h0 = 10) (g3 : z_isI (z_kd S (z_rv S h0 0)) = true ∧ vp_in x3 (z_ln S (z_rv S h0 0))) (g4 : z_kd S h0 = 10) (g5 : z_isI (z_kd S (z_rv S h0 0)) = true ∧ vp_in x4 (z_ln S (z_rv S h0 0))) (g6 : z_kd S h1 = 2) (kk : z_wp d i_X1_times [.ref h1, .int (I (z_rv S h0 0) (Int32.toNatClampNeg x3)), .int (I (z_rv S h0 0) (Int32.toNatClampNeg x4))] S I J (fun vv SS II JJ => Go d i_X9_shortWalks 71 [.ref h0, .ref h1, .int x2, .int x3, .int x4, v5, v6] (vv.toList ++ [.ref (z_rv S h0 2)]) SS II JJ Q)) : Go d i_X9_shortWalks 50 [.ref h0, .ref h1, .int x2, .int x3, .int x4, v5, v6] [] S I J Q := by
  have h := (And.intro g1 (And.intro g2 (And.intro g3 (And.intro g4 (And.intro g5 (And.intro g6 kk))))))
  exact Go.n tb_X9_shortWalks 12 h
theorem b_X9_shortWalks_71 {d : Nat} {S : zS} {I : zI} {J : zJ} {Q : zQ} {h0 : Nat} {h1 : Nat} {x2 : Int32} {x3 : Int32} {x4 : Int32} {v5 : Value} {v6 : Value} {q0 : Nat} {y1 : Int32} (g1 : z_isI (z_kd S q0) = true ∧ vp_in y1 (z_ln S q0)) (g2 : z_kd S q0 = 100 ∧ vp_in y1 (z_ln S q0)) (kk : Go d i_X9_shortWalks 41 [.ref h0, .ref h1, .int x2, .int x3, .int (x4 + (1 : Int32)), v5, v6] [] S (z_u2 I q0 (Int32.toNatClampNeg y1) ((I q0 (Int32.toNatClampNeg y1)) + (1 : Int32))) J Q) : Go d i_X9_shortWalks 71 [.ref h0, .ref h1, .int x2, .int x3, .int x4, v5, v6] [.int y1, .ref q0] S I J Q := by
  have h := (And.intro g1 (And.intro g2 kk))
  exact Go.n tb_X9_shortWalks 7 h
theorem b_X9_shortWalks_82 {d : Nat} {S : zS} {I : zI} {J : zJ} {Q : zQ} {h0 : Nat} {h1 : Nat} {x2 : Int32} {x3 : Int32} {x4 : Int32} {v5 : Value} {v6 : Value} (kk : Go d i_X9_shortWalks 30 [.ref h0, .ref h1, .int x2, .int (x3 + (1 : Int32)), .int x4, v5, v6] [] S I J Q) : Go d i_X9_shortWalks 82 [.ref h0, .ref h1, .int x2, .int x3, .int x4, v5, v6] [] S I J Q := by
  have h := kk
  exact Go.n tb_X9_shortWalks 2 h
theorem b_X9_shortWalks_88 {d : Nat} {S : zS} {I : zI} {J : zJ} {Q : zQ} {h0 : Nat} {h1 : Nat} {x2 : Int32} {x3 : Int32} {v4 : Value} {v5 : Value} {v6 : Value} (g1 : z_kd S h0 = 10) (g2 : z_isI (z_kd S (z_rv S h0 2)) = true ∧ vp_in (0 : Int32) (z_ln S (z_rv S h0 2))) (kk : Go d i_X9_shortWalks 99 [.ref h0, .ref h1, .int x2, .long (Int32.toInt64 (I (z_rv S h0 2) (Int32.toNatClampNeg (0 : Int32)))), (.retAddr 0), .int (1 : Int32), v6] [] S I J Q) : Go d i_X9_shortWalks 88 [.ref h0, .ref h1, .int x2, .int x3, v4, v5, v6] [] S I J Q := by
  have h := (And.intro g1 (And.intro g2 kk))
  exact Go.n tb_X9_shortWalks 8 h
theorem b_X9_shortWalks_99 {d : Nat} {S : zS} {I : zI} {J : zJ} {Q : zQ} {h0 : Nat} {h1 : Nat} {x2 : Int32} {j3 : Int64} {v4 : Value} {x5 : Int32} {v6 : Value} (g1 : z_kd S h1 = 2) (kt : (I h1 0) ≤ x5 → Go d i_X9_shortWalks 152 [.ref h0, .ref h1, .int x2, .long j3, v4, .int x5, v6] [] S I J Q) (kf : ¬ (I h1 0) ≤ x5 → Go d i_X9_shortWalks 108 [.ref h0, .ref h1, .int x2, .long j3, v4, .int x5, v6] [] S I J Q) : Go d i_X9_shortWalks 99 [.ref h0, .ref h1, .int x2, .long j3, v4, .int x5, v6] [] S I J Q := by
  have h := (And.intro g1 (Go.ite kt kf))
  exact Go.n tb_X9_shortWalks 4 h
theorem b_X9_shortWalks_108 {d : Nat} {S : zS} {I : zI} {J : zJ} {Q : zQ} {h0 : Nat} {h1 : Nat} {x2 : Int32} {j3 : Int64} {v4 : Value} {x5 : Int32} {v6 : Value} (g1 : z_kd S h0 = 10) (g2 : z_isI (z_kd S (z_rv S h0 2)) = true ∧ vp_in x5 (z_ln S (z_rv S h0 2))) (kt : (I (z_rv S h0 2) (Int32.toNatClampNeg x5)) ≤ (0 : Int32) → Go d i_X9_shortWalks 146 [.ref h0, .ref h1, .int x2, .long j3, v4, .int x5, v6] [] S I J Q) (kf : ¬ (I (z_rv S h0 2) (Int32.toNatClampNeg x5)) ≤ (0 : Int32) → Go d i_X9_shortWalks 118 [.ref h0, .ref h1, .int x2, .long j3, v4, .int x5, v6] [] S I J Q) : Go d i_X9_shortWalks 108 [.ref h0, .ref h1, .int x2, .long j3, v4, .int x5, v6] [] S I J Q := by
  have h := (And.intro g1 (And.intro g2 (Go.ite kt kf)))
  exact Go.n tb_X9_shortWalks 5 h
theorem b_X9_shortWalks_118 {d : Nat} {S : zS} {I : zI} {J : zJ} {Q : zQ} {h0 : Nat} {h1 : Nat} {x2 : Int32} {j3 : Int64} {v4 : Value} {x5 : Int32} {v6 : Value} (g1 : z_kd S h0 = 10) (g2 : z_isI (z_kd S (z_rv S h0 2)) = true ∧ vp_in x5 (z_ln S (z_rv S h0 2))) (kk : Go d i_X9_shortWalks 99 [.ref h0, .ref h1, .int x2, .long (j3 + ((1 : Int64) <<< (Int32.toInt64 ((6 : Int32) * (((2 : Int32) * (I (z_rv S h0 2) (Int32.toNatClampNeg x5))) - ((x2 >>> (x5 &&& 31)) &&& (1 : Int32)))) &&& 63))), (.retAddr 0), .int (x5 + (1 : Int32)), .int (((2 : Int32) * (I (z_rv S h0 2) (Int32.toNatClampNeg x5))) - ((x2 >>> (x5 &&& 31)) &&& (1 : Int32)))] [] S I J Q) : Go d i_X9_shortWalks 118 [.ref h0, .ref h1, .int x2, .long j3, v4, .int x5, v6] [] S I J Q := by
  have h := (And.intro g1 (And.intro g2 kk))
  exact Go.n tb_X9_shortWalks 23 h
theorem b_X9_shortWalks_146 {d : Nat} {S : zS} {I : zI} {J : zJ} {Q : zQ} {h0 : Nat} {h1 : Nat} {x2 : Int32} {j3 : Int64} {v4 : Value} {x5 : Int32} {v6 : Value} (kk : Go d i_X9_shortWalks 99 [.ref h0, .ref h1, .int x2, .long j3, (z_kill v4), .int (x5 + (1 : Int32)), v6] [] S I J Q) : Go d i_X9_shortWalks 146 [.ref h0, .ref h1, .int x2, .long j3, v4, .int x5, v6] [] S I J Q := by
  have h := kk
  exact Go.n tb_X9_shortWalks 2 h
theorem b_X9_shortWalks_152 {d : Nat} {S : zS} {I : zI} {J : zJ} {Q : zQ} {h0 : Nat} {h1 : Nat} {x2 : Int32} {j3 : Int64} {v4 : Value} {x5 : Int32} {v6 : Value} (kk : Q (some (.long j3)) S I J) : Go d i_X9_shortWalks 152 [.ref h0, .ref h1, .int x2, .long j3, v4, .int x5, v6] [] S I J Q := by
  have h := (And.intro trivial kk)
  exact Go.n tb_X9_shortWalks 2 h
theorem w_X9_longWalks {d : Nat} {S : zS} {I : zI} {J : zJ} {Q : zQ} {h0 : Nat} {h1 : Nat} (h : Go d i_X9_longWalks 0 [.ref h0, .ref h1, .retAddr 0, .retAddr 0, .retAddr 0] [] S I J Q) : z_wp (d + 1) i_X9_longWalks [.ref h0, .ref h1] S I J Q := Go.wp (Nat.le_of_ble_eq_true rfl) h
theorem e_X9_longWalks {d : Nat} {S S2 : zS} {I I2 : zI} {J J2 : zJ} {r : Option Value} {h0 : Nat} {h1 : Nat} (h : Go d i_X9_longWalks 0 [.ref h0, .ref h1, .retAddr 0, .retAddr 0, .retAddr 0] [] S I J (z_eq r S2 I2 J2)) : z_ev (d + 1) i_X9_longWalks [.ref h0, .ref h1] S I J r S2 I2 J2 := Go.ev (Nat.le_of_ble_eq_true rfl) h
theorem b_X9_longWalks_0 {d : Nat} {S : zS} {I : zI} {J : zJ} {Q : zQ} {h0 : Nat} {h1 : Nat} {v2 : Value} {v3 : Value} {v4 : Value} (kk : Go d i_X9_longWalks 2 [.ref h0, .ref h1, .int (0 : Int32), v3, v4] [] S I J Q) : Go d i_X9_longWalks 0 [.ref h0, .ref h1, v2, v3, v4] [] S I J Q := by
  have h := kk
  exact Go.n tb_X9_longWalks 2 h
theorem b_X9_longWalks_2 {d : Nat} {S : zS} {I : zI} {J : zJ} {Q : zQ} {h0 : Nat} {h1 : Nat} {x2 : Int32} {v3 : Value} {v4 : Value} (g1 : z_kd S h1 = 2) (kt : (I h1 0) ≤ x2 → Go d i_X9_longWalks 28 [.ref h0, .ref h1, .int x2, v3, v4] [] S I J Q) (kf : ¬ (I h1 0) ≤ x2 → Go d i_X9_longWalks 10 [.ref h0, .ref h1, .int x2, v3, v4] [] S I J Q) : Go d i_X9_longWalks 2 [.ref h0, .ref h1, .int x2, v3, v4] [] S I J Q := by
  have h := (And.intro g1 (Go.ite kt kf))
  exact Go.n tb_X9_longWalks 4 h
theorem b_X9_longWalks_10 {d : Nat} {S : zS} {I : zI} {J : zJ} {Q : zQ} {h0 : Nat} {h1 : Nat} {x2 : Int32} {v3 : Value} {v4 : Value} (g1 : z_kd S h0 = 10) (g2 : z_kd S h0 = 10) (g3 : z_isI (z_kd S (z_rv S h0 2)) = true ∧ vp_in x2 (z_ln S (z_rv S h0 2))) (g4 : z_kd S (z_rv S h0 4) = 100 ∧ vp_in x2 (z_ln S (z_rv S h0 4))) (kk : Go d i_X9_longWalks 2 [.ref h0, .ref h1, .int (x2 + (1 : Int32)), v3, v4] [] S (z_u2 I (z_rv S h0 4) (Int32.toNatClampNeg x2) (I (z_rv S h0 2) (Int32.toNatClampNeg x2))) J Q) : Go d i_X9_longWalks 10 [.ref h0, .ref h1, .int x2, v3, v4] [] S I J Q := by
  have h := (And.intro g1 (And.intro g2 (And.intro g3 (And.intro g4 kk))))
  exact Go.n tb_X9_longWalks 10 h
theorem b_X9_longWalks_28 {d : Nat} {S : zS} {I : zI} {J : zJ} {Q : zQ} {h0 : Nat} {h1 : Nat} {x2 : Int32} {v3 : Value} {v4 : Value} (kk : Go d i_X9_longWalks 30 [.ref h0, .ref h1, .int (3 : Int32), v3, v4] [] S I J Q) : Go d i_X9_longWalks 28 [.ref h0, .ref h1, .int x2, v3, v4] [] S I J Q := by
  have h := kk
  exact Go.n tb_X9_longWalks 2 h
theorem b_X9_longWalks_30 {d : Nat} {S : zS} {I : zI} {J : zJ} {Q : zQ} {h0 : Nat} {h1 : Nat} {x2 : Int32} {v3 : Value} {v4 : Value} (kt : (6 : Int32) < x2 → Go d i_X9_longWalks 175 [.ref h0, .ref h1, .int x2, v3, v4] [] S I J Q) (kf : ¬ (6 : Int32) < x2 → Go d i_X9_longWalks 36 [.ref h0, .ref h1, .int x2, v3, v4] [] S I J Q) : Go d i_X9_longWalks 30 [.ref h0, .ref h1, .int x2, v3, v4] [] S I J Q := by
  have h := (Go.ite kt kf)
  exact Go.n tb_X9_longWalks 3 h
theorem b_X9_longWalks_36 {d : Nat} {S : zS} {I : zI} {J : zJ} {Q : zQ} {h0 : Nat} {h1 : Nat} {x2 : Int32} {v3 : Value} {v4 : Value} (kk : Go d i_X9_longWalks 38 [.ref h0, .ref h1, .int x2, .int (0 : Int32), v4] [] S I J Q) : Go d i_X9_longWalks 36 [.ref h0, .ref h1, .int x2, v3, v4] [] S I J Q := by
  have h := kk
  exact Go.n tb_X9_longWalks 2 h
theorem b_X9_longWalks_38 {d : Nat} {S : zS} {I : zI} {J : zJ} {Q : zQ} {h0 : Nat} {h1 : Nat} {x2 : Int32} {x3 : Int32} {v4 : Value} (g1 : z_kd S h1 = 2) (kt : (I h1 0) ≤ x3 → Go d i_X9_longWalks 59 [.ref h0, .ref h1, .int x2, .int x3, v4] [] S I J Q) (kf : ¬ (I h1 0) ≤ x3 → Go d i_X9_longWalks 46 [.ref h0, .ref h1, .int x2, .int x3, v4] [] S I J Q) : Go d i_X9_longWalks 38 [.ref h0, .ref h1, .int x2, .int x3, v4] [] S I J Q := by
  have h := (And.intro g1 (Go.ite kt kf))
  exact Go.n tb_X9_longWalks 4 h
theorem b_X9_longWalks_46 {d : Nat} {S : zS} {I : zI} {J : zJ} {Q : zQ} {h0 : Nat} {h1 : Nat} {x2 : Int32} {x3 : Int32} {v4 : Value} (g1 : z_kd S h0 = 10) (g2 : z_kd S (z_rv S h0 3) = 100 ∧ vp_in x3 (z_ln S (z_rv S h0 3))) (kk : Go d i_X9_longWalks 38 [.ref h0, .ref h1, .int x2, .int (x3 + (1 : Int32)), v4] [] S (z_u2 I (z_rv S h0 3) (Int32.toNatClampNeg x3) (0 : Int32)) J Q) : Go d i_X9_longWalks 46 [.ref h0, .ref h1, .int x2, .int x3, v4] [] S I J Q := by
  have h := (And.intro g1 (And.intro g2 kk))
  exact Go.n tb_X9_longWalks 7 h
theorem b_X9_longWalks_59 {d : Nat} {S : zS} {I : zI} {J : zJ} {Q : zQ} {h0 : Nat} {h1 : Nat} {x2 : Int32} {x3 : Int32} {v4 : Value} (kk : Go d i_X9_longWalks 61 [.ref h0, .ref h1, .int x2, .int (0 : Int32), v4] [] S I J Q) : Go d i_X9_longWalks 59 [.ref h0, .ref h1, .int x2, .int x3, v4] [] S I J Q := by
  have h := kk
  exact Go.n tb_X9_longWalks 2 h
theorem b_X9_longWalks_61 {d : Nat} {S : zS} {I : zI} {J : zJ} {Q : zQ} {h0 : Nat} {h1 : Nat} {x2 : Int32} {x3 : Int32} {v4 : Value} (g1 : z_kd S h0 = 10) (kt : (I h0 1) ≤ x3 → Go d i_X9_longWalks 120 [.ref h0, .ref h1, .int x2, .int x3, v4] [] S I J Q) (kf : ¬ (I h0 1) ≤ x3 → Go d i_X9_longWalks 69 [.ref h0, .ref h1, .int x2, .int x3, v4] [] S I J Q) : Go d i_X9_longWalks 61 [.ref h0, .ref h1, .int x2, .int x3, v4] [] S I J Q := by
  have h := (And.intro g1 (Go.ite kt kf))
  exact Go.n tb_X9_longWalks 4 h
theorem b_X9_longWalks_69 {d : Nat} {S : zS} {I : zI} {J : zJ} {Q : zQ} {h0 : Nat} {h1 : Nat} {x2 : Int32} {x3 : Int32} {v4 : Value} (kk : Go d i_X9_longWalks 72 [.ref h0, .ref h1, .int x2, .int x3, .int (0 : Int32)] [] S I J Q) : Go d i_X9_longWalks 69 [.ref h0, .ref h1, .int x2, .int x3, v4] [] S I J Q := by
  have h := kk
  exact Go.n tb_X9_longWalks 2 h
theorem b_X9_longWalks_72 {d : Nat} {S : zS} {I : zI} {J : zJ} {Q : zQ} {h0 : Nat} {h1 : Nat} {x2 : Int32} {x3 : Int32} {x4 : Int32} (g1 : z_kd S h1 = 2) (kt : (I h1 0) ≤ x4 → Go d i_X9_longWalks 114 [.ref h0, .ref h1, .int x2, .int x3, .int x4] [] S I J Q) (kf : ¬ (I h1 0) ≤ x4 → Go d i_X9_longWalks 81 [.ref h0, .ref h1, .int x2, .int x3, .int x4] [] S I J Q) : Go d i_X9_longWalks 72 [.ref h0, .ref h1, .int x2, .int x3, .int x4] [] S I J Q := by
  have h := (And.intro g1 (Go.ite kt kf))
  exact Go.n tb_X9_longWalks 4 h
theorem b_X9_longWalks_81 {d : Nat} {S : zS} {I : zI} {J : zJ} {Q : zQ} {h0 : Nat} {h1 : Nat} {x2 : Int32} {x3 : Int32} {x4 : Int32} (g1 : z_kd S h0 = 10) (g2 : z_kd S h0 = 10) (g3 : z_isI (z_kd S (z_rv S h0 0)) = true ∧ vp_in x3 (z_ln S (z_rv S h0 0))) (g4 : z_kd S h1 = 2) (kk : z_wp d i_X1_times [.ref h1, .int x4, .int (I (z_rv S h0 0) (Int32.toNatClampNeg x3))] S I J (fun vv SS II JJ => Go d i_X9_longWalks 97 [.ref h0, .ref h1, .int x2, .int x3, .int x4] (vv.toList ++ [.ref (z_rv S h0 3)]) SS II JJ Q)) : Go d i_X9_longWalks 81 [.ref h0, .ref h1, .int x2, .int x3, .int x4] [] S I J Q := by
  have h := (And.intro g1 (And.intro g2 (And.intro g3 (And.intro g4 kk))))
  exact Go.n tb_X9_longWalks 9 h
theorem b_X9_longWalks_97 {d : Nat} {S : zS} {I : zI} {J : zJ} {Q : zQ} {h0 : Nat} {h1 : Nat} {x2 : Int32} {x3 : Int32} {x4 : Int32} {q0 : Nat} {y1 : Int32} (g1 : z_isI (z_kd S q0) = true ∧ vp_in y1 (z_ln S q0)) (g2 : z_kd S h0 = 10) (g3 : z_isI (z_kd S (z_rv S h0 2)) = true ∧ vp_in x4 (z_ln S (z_rv S h0 2))) (g4 : z_kd S q0 = 100 ∧ vp_in y1 (z_ln S q0)) (kk : Go d i_X9_longWalks 72 [.ref h0, .ref h1, .int x2, .int x3, .int (x4 + (1 : Int32))] [] S (z_u2 I q0 (Int32.toNatClampNeg y1) ((I q0 (Int32.toNatClampNeg y1)) + (I (z_rv S h0 2) (Int32.toNatClampNeg x4)))) J Q) : Go d i_X9_longWalks 97 [.ref h0, .ref h1, .int x2, .int x3, .int x4] [.int y1, .ref q0] S I J Q := by
  have h := (And.intro g1 (And.intro g2 (And.intro g3 (And.intro g4 kk))))
  exact Go.n tb_X9_longWalks 10 h
theorem b_X9_longWalks_114 {d : Nat} {S : zS} {I : zI} {J : zJ} {Q : zQ} {h0 : Nat} {h1 : Nat} {x2 : Int32} {x3 : Int32} {x4 : Int32} (kk : Go d i_X9_longWalks 61 [.ref h0, .ref h1, .int x2, .int (x3 + (1 : Int32)), .int x4] [] S I J Q) : Go d i_X9_longWalks 114 [.ref h0, .ref h1, .int x2, .int x3, .int x4] [] S I J Q := by
  have h := kk
  exact Go.n tb_X9_longWalks 2 h
theorem b_X9_longWalks_120 {d : Nat} {S : zS} {I : zI} {J : zJ} {Q : zQ} {h0 : Nat} {h1 : Nat} {x2 : Int32} {x3 : Int32} {v4 : Value} (kk : Go d i_X9_longWalks 122 [.ref h0, .ref h1, .int x2, .int (0 : Int32), v4] [] S I J Q) : Go d i_X9_longWalks 120 [.ref h0, .ref h1, .int x2, .int x3, v4] [] S I J Q := by
  have h := kk
  exact Go.n tb_X9_longWalks 2 h
theorem b_X9_longWalks_122 {d : Nat} {S : zS} {I : zI} {J : zJ} {Q : zQ} {h0 : Nat} {h1 : Nat} {x2 : Int32} {x3 : Int32} {v4 : Value} (g1 : z_kd S h1 = 2) (kt : (I h1 0) ≤ x3 → Go d i_X9_longWalks 169 [.ref h0, .ref h1, .int x2, .int x3, v4] [] S I J Q) (kf : ¬ (I h1 0) ≤ x3 → Go d i_X9_longWalks 130 [.ref h0, .ref h1, .int x2, .int x3, v4] [] S I J Q) : Go d i_X9_longWalks 122 [.ref h0, .ref h1, .int x2, .int x3, v4] [] S I J Q := by
  have h := (And.intro g1 (Go.ite kt kf))
  exact Go.n tb_X9_longWalks 4 h
theorem b_X9_longWalks_130 {d : Nat} {S : zS} {I : zI} {J : zJ} {Q : zQ} {h0 : Nat} {h1 : Nat} {x2 : Int32} {x3 : Int32} {v4 : Value} (g1 : z_kd S h0 = 10) (g2 : z_kd S h0 = 10) (g3 : z_isI (z_kd S (z_rv S h0 3)) = true ∧ vp_in x3 (z_ln S (z_rv S h0 3))) (g4 : z_kd S (z_rv S h0 2) = 100 ∧ vp_in x3 (z_ln S (z_rv S h0 2))) (g5 : z_kd S h0 = 10) (g6 : z_kd S h0 = 10) (g7 : z_isI (z_kd S (z_rv S h0 4)) = true ∧ vp_in x3 (z_ln S (z_rv S h0 4))) (g8 : z_kd S h0 = 10) (g9 : z_isI (z_kd S (z_rv S h0 3)) = true ∧ vp_in x3 (z_ln S (z_rv S h0 3))) (kk : z_wp d i_X0_mix [.int ((z_u2 I (z_rv S h0 2) (Int32.toNatClampNeg x3) (I (z_rv S h0 3) (Int32.toNatClampNeg x3))) (z_rv S h0 4) (Int32.toNatClampNeg x3)), .int ((z_u2 I (z_rv S h0 2) (Int32.toNatClampNeg x3) (I (z_rv S h0 3) (Int32.toNatClampNeg x3))) (z_rv S h0 3) (Int32.toNatClampNeg x3))] S (z_u2 I (z_rv S h0 2) (Int32.toNatClampNeg x3) (I (z_rv S h0 3) (Int32.toNatClampNeg x3))) J (fun vv SS II JJ => Go d i_X9_longWalks 162 [.ref h0, .ref h1, .int x2, .int x3, v4] (vv.toList ++ [.int x3, .ref (z_rv S h0 4)]) SS II JJ Q)) : Go d i_X9_longWalks 130 [.ref h0, .ref h1, .int x2, .int x3, v4] [] S I J Q := by
  have h := (And.intro g1 (And.intro g2 (And.intro g3 (And.intro g4 (And.intro g5 (And.intro g6 (And.intro g7 (And.intro g8 (And.intro g9 (And.intro trivial kk))))))))))
  exact Go.n tb_X9_longWalks 20 h
theorem b_X9_longWalks_162 {d : Nat} {S : zS} {I : zI} {J : zJ} {Q : zQ} {h0 : Nat} {h1 : Nat} {x2 : Int32} {x3 : Int32} {v4 : Value} {q0 : Nat} {y1 : Int32} {y2 : Int32} (g1 : z_kd S q0 = 100 ∧ vp_in y1 (z_ln S q0)) (kk : Go d i_X9_longWalks 122 [.ref h0, .ref h1, .int x2, .int (x3 + (1 : Int32)), v4] [] S (z_u2 I q0 (Int32.toNatClampNeg y1) y2) J Q) : Go d i_X9_longWalks 162 [.ref h0, .ref h1, .int x2, .int x3, v4] [.int y2, .int y1, .ref q0] S I J Q := by
  have h := (And.intro g1 kk)
  exact Go.n tb_X9_longWalks 3 h
theorem b_X9_longWalks_169 {d : Nat} {S : zS} {I : zI} {J : zJ} {Q : zQ} {h0 : Nat} {h1 : Nat} {x2 : Int32} {x3 : Int32} {v4 : Value} (kk : Go d i_X9_longWalks 30 [.ref h0, .ref h1, .int (x2 + (1 : Int32)), .int x3, v4] [] S I J Q) : Go d i_X9_longWalks 169 [.ref h0, .ref h1, .int x2, .int x3, v4] [] S I J Q := by
  have h := kk
  exact Go.n tb_X9_longWalks 2 h
theorem b_X9_longWalks_175 {d : Nat} {S : zS} {I : zI} {J : zJ} {Q : zQ} {h0 : Nat} {h1 : Nat} {x2 : Int32} {v3 : Value} {v4 : Value} (g1 : z_kd S h0 = 10) (g2 : z_isI (z_kd S (z_rv S h0 4)) = true ∧ vp_in (0 : Int32) (z_ln S (z_rv S h0 4))) (g3 : z_kd S h0 = 10) (kk : z_wp d i_X0_mix [.int (I (z_rv S h0 4) (Int32.toNatClampNeg (0 : Int32))), .int (I h0 1)] S I J (fun vv SS II JJ => Go d i_X9_longWalks 188 [.ref h0, .ref h1, .int x2, v3, v4] (vv.toList ++ []) SS II JJ Q)) : Go d i_X9_longWalks 175 [.ref h0, .ref h1, .int x2, v3, v4] [] S I J Q := by
  have h := (And.intro g1 (And.intro g2 (And.intro g3 (And.intro trivial kk))))
  exact Go.n tb_X9_longWalks 7 h
theorem b_X9_longWalks_188 {d : Nat} {S : zS} {I : zI} {J : zJ} {Q : zQ} {h0 : Nat} {h1 : Nat} {x2 : Int32} {v3 : Value} {v4 : Value} {y0 : Int32} (kk : Go d i_X9_longWalks 191 [.ref h0, .ref h1, .int y0, .int (0 : Int32), v4] [] S I J Q) : Go d i_X9_longWalks 188 [.ref h0, .ref h1, .int x2, v3, v4] [.int y0] S I J Q := by
  have h := kk
  exact Go.n tb_X9_longWalks 3 h
theorem b_X9_longWalks_191 {d : Nat} {S : zS} {I : zI} {J : zJ} {Q : zQ} {h0 : Nat} {h1 : Nat} {x2 : Int32} {x3 : Int32} {v4 : Value} (g1 : z_kd S h1 = 2) (kt : (I h1 0) ≤ x3 → Go d i_X9_longWalks 218 [.ref h0, .ref h1, .int x2, .int x3, v4] [] S I J Q) (kf : ¬ (I h1 0) ≤ x3 → Go d i_X9_longWalks 199 [.ref h0, .ref h1, .int x2, .int x3, v4] [] S I J Q) : Go d i_X9_longWalks 191 [.ref h0, .ref h1, .int x2, .int x3, v4] [] S I J Q := by
  have h := (And.intro g1 (Go.ite kt kf))
  exact Go.n tb_X9_longWalks 4 h
theorem b_X9_longWalks_199 {d : Nat} {S : zS} {I : zI} {J : zJ} {Q : zQ} {h0 : Nat} {h1 : Nat} {x2 : Int32} {x3 : Int32} {v4 : Value} (g1 : z_kd S h0 = 10) (g2 : z_isI (z_kd S (z_rv S h0 4)) = true ∧ vp_in x3 (z_ln S (z_rv S h0 4))) (kk : z_wp d i_X0_mix [.int (I (z_rv S h0 4) (Int32.toNatClampNeg x3)), .int (0 : Int32)] S I J (fun vv SS II JJ => Go d i_X9_longWalks 210 [.ref h0, .ref h1, .int x2, .int x3, v4] (vv.toList ++ [.int x2]) SS II JJ Q)) : Go d i_X9_longWalks 199 [.ref h0, .ref h1, .int x2, .int x3, v4] [] S I J Q := by
  have h := (And.intro g1 (And.intro g2 (And.intro trivial kk)))
  exact Go.n tb_X9_longWalks 7 h
theorem b_X9_longWalks_210 {d : Nat} {S : zS} {I : zI} {J : zJ} {Q : zQ} {h0 : Nat} {h1 : Nat} {x2 : Int32} {x3 : Int32} {v4 : Value} {y0 : Int32} {y1 : Int32} (kk : Go d i_X9_longWalks 191 [.ref h0, .ref h1, .int (y0 + y1), .int (x3 + (1 : Int32)), v4] [] S I J Q) : Go d i_X9_longWalks 210 [.ref h0, .ref h1, .int x2, .int x3, v4] [.int y1, .int y0] S I J Q := by
  have h := kk
  exact Go.n tb_X9_longWalks 4 h
theorem b_X9_longWalks_218 {d : Nat} {S : zS} {I : zI} {J : zJ} {Q : zQ} {h0 : Nat} {h1 : Nat} {x2 : Int32} {x3 : Int32} {v4 : Value} (kk : Q (some (.int x2)) S I J) : Go d i_X9_longWalks 218 [.ref h0, .ref h1, .int x2, .int x3, v4] [] S I J Q := by
  have h := (And.intro trivial kk)
  exact Go.n tb_X9_longWalks 2 h
theorem w_X10_init {d : Nat} {S : zS} {I : zI} {J : zJ} {Q : zQ} {h0 : Nat} {h1 : Nat} (h : Go d i_X10_init 0 [.ref h0, .ref h1] [] S I J Q) : z_wp (d + 1) i_X10_init [.ref h0, .ref h1] S I J Q := Go.wp (Nat.le_of_ble_eq_true rfl) h
theorem e_X10_init {d : Nat} {S S2 : zS} {I I2 : zI} {J J2 : zJ} {r : Option Value} {h0 : Nat} {h1 : Nat} (h : Go d i_X10_init 0 [.ref h0, .ref h1] [] S I J (z_eq r S2 I2 J2)) : z_ev (d + 1) i_X10_init [.ref h0, .ref h1] S I J r S2 I2 J2 := Go.ev (Nat.le_of_ble_eq_true rfl) h
theorem b_X10_init_0 {d : Nat} {S : zS} {I : zI} {J : zJ} {Q : zQ} {h0 : Nat} {h1 : Nat} (g1 : ¬ h0 = 0) (g2 : ¬ (z_sz S + 1) = 0) (kk : z_wp d i_X2_init [.ref (z_sz S + 1)] (z_new S 3 0 9) (z_ur I (z_sz S + 1) (fun _ => 0)) (z_ur J (z_sz S + 1) (fun _ => 0)) (fun vv SS II JJ => Go d i_X10_init 12 [.ref h0, .ref h1] (vv.toList ++ [.ref (z_sz S + 1), .ref h0]) SS II JJ Q)) : Go d i_X10_init 0 [.ref h0, .ref h1] [] S I J Q := by
  have h := (And.intro g1 (And.intro g2 kk))
  exact Go.n tb_X10_init 6 h
theorem b_X10_init_12 {d : Nat} {S : zS} {I : zI} {J : zJ} {Q : zQ} {h0 : Nat} {h1 : Nat} {q0 : Nat} {q1 : Nat} (g1 : z_kd S q0 = 11) (kk : Go d i_X10_init 15 [.ref h0, .ref h1] [] (z_setR S q0 6 q1) I J Q) : Go d i_X10_init 12 [.ref h0, .ref h1] [.ref q1, .ref q0] S I J Q := by
  have h := (And.intro g1 kk)
  exact Go.n tb_X10_init 1 h
theorem b_X10_init_15 {d : Nat} {S : zS} {I : zI} {J : zJ} {Q : zQ} {h0 : Nat} {h1 : Nat} (g1 : ¬ (z_sz S + 1) = 0) (kk : z_wp d i_X5_init [.ref (z_sz S + 1), .ref h1] (z_new S 6 0 5) (z_ur I (z_sz S + 1) (fun _ => 0)) (z_ur J (z_sz S + 1) (fun _ => 0)) (fun vv SS II JJ => Go d i_X10_init 24 [.ref h0, .ref h1] (vv.toList ++ [.ref (z_sz S + 1), .ref h0]) SS II JJ Q)) : Go d i_X10_init 15 [.ref h0, .ref h1] [] S I J Q := by
  have h := (And.intro g1 kk)
  exact Go.n tb_X10_init 5 h
theorem b_X10_init_24 {d : Nat} {S : zS} {I : zI} {J : zJ} {Q : zQ} {h0 : Nat} {h1 : Nat} {q0 : Nat} {q1 : Nat} (g1 : z_kd S q0 = 11) (kk : Go d i_X10_init 27 [.ref h0, .ref h1] [] (z_setR S q0 5 q1) I J Q) : Go d i_X10_init 24 [.ref h0, .ref h1] [.ref q1, .ref q0] S I J Q := by
  have h := (And.intro g1 kk)
  exact Go.n tb_X10_init 1 h
theorem b_X10_init_27 {d : Nat} {S : zS} {I : zI} {J : zJ} {Q : zQ} {h0 : Nat} {h1 : Nat} (kk : Q none S I J) : Go d i_X10_init 27 [.ref h0, .ref h1] [] S I J Q := by
  have h := (And.intro trivial kk)
  exact Go.n tb_X10_init 1 h
theorem w_X10_readText {d : Nat} {S : zS} {I : zI} {J : zJ} {Q : zQ} {h0 : Nat} {x1 : Int32} {h2 : Nat} {x3 : Int32} (h : Go d i_X10_readText 0 [.ref h0, .int x1, .ref h2, .int x3, .retAddr 0] [] S I J Q) : z_wp (d + 1) i_X10_readText [.ref h0, .int x1, .ref h2, .int x3] S I J Q := Go.wp (Nat.le_of_ble_eq_true rfl) h
theorem e_X10_readText {d : Nat} {S S2 : zS} {I I2 : zI} {J J2 : zJ} {r : Option Value} {h0 : Nat} {x1 : Int32} {h2 : Nat} {x3 : Int32} (h : Go d i_X10_readText 0 [.ref h0, .int x1, .ref h2, .int x3, .retAddr 0] [] S I J (z_eq r S2 I2 J2)) : z_ev (d + 1) i_X10_readText [.ref h0, .int x1, .ref h2, .int x3] S I J r S2 I2 J2 := Go.ev (Nat.le_of_ble_eq_true rfl) h
theorem b_X10_readText_0 {d : Nat} {S : zS} {I : zI} {J : zJ} {Q : zQ} {h0 : Nat} {x1 : Int32} {h2 : Nat} {x3 : Int32} {v4 : Value} (g1 : z_kd S h0 = 11) (g2 : z_kd S h0 = 11) (g3 : z_kd S h0 = 11) (g4 : z_kd (z_setR S h0 2 h2) h0 = 11) (g5 : z_kd (z_setR S h0 2 h2) h0 = 11 ∧ ((1 : Int32) = 0 ∨ (1 : Int32) = 1)) (g6 : z_kd (z_setR S h0 2 h2) h0 = 11) (g7 : z_kd (z_setR S h0 2 h2) (z_rv (z_setR S h0 2 h2) h0 5) = 6) (kk : z_wp d i_X5_begin [.ref (z_rv (z_setR S h0 2 h2) h0 5), .int x1] (z_setR S h0 2 h2) (z_u2 (z_u2 (z_u2 (z_u2 I h0 0 (0 : Int32)) h0 1 (-1 : Int32)) h0 3 x3) h0 4 (1 : Int32)) J (fun vv SS II JJ => Go d i_X10_readText 33 [.ref h0, .int x1, .ref h2, .int x3, v4] (vv.toList ++ []) SS II JJ Q)) : Go d i_X10_readText 0 [.ref h0, .int x1, .ref h2, .int x3, v4] [] S I J Q := by
  have h := (And.intro g1 (And.intro g2 (And.intro g3 (And.intro g4 (And.intro g5 (And.intro g6 (And.intro g7 kk)))))))
  exact Go.n tb_X10_readText 19 h
theorem b_X10_readText_33 {d : Nat} {S : zS} {I : zI} {J : zJ} {Q : zQ} {h0 : Nat} {x1 : Int32} {h2 : Nat} {x3 : Int32} {v4 : Value} (kk : Go d i_X10_readText 36 [.ref h0, .int x1, .ref h2, .int x3, .int (0 : Int32)] [] S I J Q) : Go d i_X10_readText 33 [.ref h0, .int x1, .ref h2, .int x3, v4] [] S I J Q := by
  have h := kk
  exact Go.n tb_X10_readText 2 h
theorem b_X10_readText_36 {d : Nat} {S : zS} {I : zI} {J : zJ} {Q : zQ} {h0 : Nat} {x1 : Int32} {h2 : Nat} {x3 : Int32} {x4 : Int32} (kt : x1 < x4 → Go d i_X10_readText 82 [.ref h0, .int x1, .ref h2, .int x3, .int x4] [] S I J Q) (kf : ¬ x1 < x4 → Go d i_X10_readText 42 [.ref h0, .int x1, .ref h2, .int x3, .int x4] [] S I J Q) : Go d i_X10_readText 36 [.ref h0, .int x1, .ref h2, .int x3, .int x4] [] S I J Q := by
  have h := (Go.ite kt kf)
  exact Go.n tb_X10_readText 3 h
theorem b_X10_readText_42 {d : Nat} {S : zS} {I : zI} {J : zJ} {Q : zQ} {h0 : Nat} {x1 : Int32} {h2 : Nat} {x3 : Int32} {x4 : Int32} (g1 : z_kd S h0 = 11) (g2 : z_kd S (z_rv S h0 5) = 6) (kt : (I (z_rv S h0 5) 4) = (0 : Int32) → Go d i_X10_readText 82 [.ref h0, .int x1, .ref h2, .int x3, .int x4] [] S I J Q) (kf : ¬ (I (z_rv S h0 5) 4) = (0 : Int32) → Go d i_X10_readText 52 [.ref h0, .int x1, .ref h2, .int x3, .int x4] [] S I J Q) : Go d i_X10_readText 42 [.ref h0, .int x1, .ref h2, .int x3, .int x4] [] S I J Q := by
  have h := (And.intro g1 (And.intro g2 (Go.ite kt kf)))
  exact Go.n tb_X10_readText 4 h
theorem b_X10_readText_52 {d : Nat} {S : zS} {I : zI} {J : zJ} {Q : zQ} {h0 : Nat} {x1 : Int32} {h2 : Nat} {x3 : Int32} {x4 : Int32} (g1 : z_kd S h0 = 11) (kk : z_wp d i_X10_readLine [.ref h0] S I J (fun vv SS II JJ => Go d i_X10_readText 56 [.ref h0, .int x1, .ref h2, .int x3, .int x4] (vv.toList ++ []) SS II JJ Q)) : Go d i_X10_readText 52 [.ref h0, .int x1, .ref h2, .int x3, .int x4] [] S I J Q := by
  have h := (And.intro g1 kk)
  exact Go.n tb_X10_readText 2 h
theorem b_X10_readText_56 {d : Nat} {S : zS} {I : zI} {J : zJ} {Q : zQ} {h0 : Nat} {x1 : Int32} {h2 : Nat} {x3 : Int32} {x4 : Int32} {y0 : Int32} (kt : y0 = (0 : Int32) → Go d i_X10_readText 75 [.ref h0, .int x1, .ref h2, .int x3, .int x4] [] S I J Q) (kf : ¬ y0 = (0 : Int32) → Go d i_X10_readText 59 [.ref h0, .int x1, .ref h2, .int x3, .int x4] [] S I J Q) : Go d i_X10_readText 56 [.ref h0, .int x1, .ref h2, .int x3, .int x4] [.int y0] S I J Q := by
  have h := (Go.ite kt kf)
  exact Go.n tb_X10_readText 1 h
theorem b_X10_readText_59 {d : Nat} {S : zS} {I : zI} {J : zJ} {Q : zQ} {h0 : Nat} {x1 : Int32} {h2 : Nat} {x3 : Int32} {x4 : Int32} (g1 : z_kd S h0 = 11) (g2 : z_kd S (z_rv S h0 5) = 6) (kk : z_wp d i_X5_isSign [.ref (z_rv S h0 5), .int (59 : Int32)] S I J (fun vv SS II JJ => Go d i_X10_readText 69 [.ref h0, .int x1, .ref h2, .int x3, .int x4] (vv.toList ++ [.ref h0]) SS II JJ Q)) : Go d i_X10_readText 59 [.ref h0, .int x1, .ref h2, .int x3, .int x4] [] S I J Q := by
  have h := (And.intro g1 (And.intro g2 kk))
  exact Go.n tb_X10_readText 5 h
theorem b_X10_readText_69 {d : Nat} {S : zS} {I : zI} {J : zJ} {Q : zQ} {h0 : Nat} {x1 : Int32} {h2 : Nat} {x3 : Int32} {x4 : Int32} {q0 : Nat} {y1 : Int32} (g1 : z_kd S q0 = 11) (kk : z_wp d i_X10_take [.ref q0, .int y1] S I J (fun vv SS II JJ => Go d i_X10_readText 72 [.ref h0, .int x1, .ref h2, .int x3, .int x4] (vv.toList ++ []) SS II JJ Q)) : Go d i_X10_readText 69 [.ref h0, .int x1, .ref h2, .int x3, .int x4] [.int y1, .ref q0] S I J Q := by
  have h := (And.intro g1 kk)
  exact Go.n tb_X10_readText 1 h
theorem b_X10_readText_72 {d : Nat} {S : zS} {I : zI} {J : zJ} {Q : zQ} {h0 : Nat} {x1 : Int32} {h2 : Nat} {x3 : Int32} {x4 : Int32} {y0 : Int32} (kt : ¬ y0 = (0 : Int32) → Go d i_X10_readText 76 [.ref h0, .int x1, .ref h2, .int x3, .int x4] [] S I J Q) (kf : y0 = (0 : Int32) → Go d i_X10_readText 75 [.ref h0, .int x1, .ref h2, .int x3, .int x4] [] S I J Q) : Go d i_X10_readText 72 [.ref h0, .int x1, .ref h2, .int x3, .int x4] [.int y0] S I J Q := by
  have h := (Go.eti kt kf)
  exact Go.n tb_X10_readText 1 h
theorem b_X10_readText_75 {d : Nat} {S : zS} {I : zI} {J : zJ} {Q : zQ} {h0 : Nat} {x1 : Int32} {h2 : Nat} {x3 : Int32} {x4 : Int32} (kk : Q none S I J) : Go d i_X10_readText 75 [.ref h0, .int x1, .ref h2, .int x3, .int x4] [] S I J Q := by
  have h := (And.intro trivial kk)
  exact Go.n tb_X10_readText 1 h
theorem b_X10_readText_76 {d : Nat} {S : zS} {I : zI} {J : zJ} {Q : zQ} {h0 : Nat} {x1 : Int32} {h2 : Nat} {x3 : Int32} {x4 : Int32} (kk : Go d i_X10_readText 36 [.ref h0, .int x1, .ref h2, .int x3, .int (x4 + (1 : Int32))] [] S I J Q) : Go d i_X10_readText 76 [.ref h0, .int x1, .ref h2, .int x3, .int x4] [] S I J Q := by
  have h := kk
  exact Go.n tb_X10_readText 2 h
theorem b_X10_readText_82 {d : Nat} {S : zS} {I : zI} {J : zJ} {Q : zQ} {h0 : Nat} {x1 : Int32} {h2 : Nat} {x3 : Int32} {x4 : Int32} (kk : Q none S I J) : Go d i_X10_readText 82 [.ref h0, .int x1, .ref h2, .int x3, .int x4] [] S I J Q := by
  have h := (And.intro trivial kk)
  exact Go.n tb_X10_readText 1 h
theorem w_X10_fail {d : Nat} {S : zS} {I : zI} {J : zJ} {Q : zQ} {h0 : Nat} {x1 : Int32} {x2 : Int32} (h : Go d i_X10_fail 0 [.ref h0, .int x1, .int x2] [] S I J Q) : z_wp (d + 1) i_X10_fail [.ref h0, .int x1, .int x2] S I J Q := Go.wp (Nat.le_of_ble_eq_true rfl) h
theorem e_X10_fail {d : Nat} {S S2 : zS} {I I2 : zI} {J J2 : zJ} {r : Option Value} {h0 : Nat} {x1 : Int32} {x2 : Int32} (h : Go d i_X10_fail 0 [.ref h0, .int x1, .int x2] [] S I J (z_eq r S2 I2 J2)) : z_ev (d + 1) i_X10_fail [.ref h0, .int x1, .int x2] S I J r S2 I2 J2 := Go.ev (Nat.le_of_ble_eq_true rfl) h
theorem b_X10_fail_0 {d : Nat} {S : zS} {I : zI} {J : zJ} {Q : zQ} {h0 : Nat} {x1 : Int32} {x2 : Int32} (g1 : z_kd S h0 = 11) (g2 : z_kd S h0 = 11) (g3 : z_fit 3 (0 : Int32)) (kk : Q (some (.int (0 : Int32))) S (z_u2 (z_u2 I h0 0 x1) h0 1 x2) J) : Go d i_X10_fail 0 [.ref h0, .int x1, .int x2] [] S I J Q := by
  have h := (And.intro g1 (And.intro g2 (And.intro g3 kk)))
  exact Go.n tb_X10_fail 8 h
theorem w_X10_take {d : Nat} {S : zS} {I : zI} {J : zJ} {Q : zQ} {h0 : Nat} {x1 : Int32} (h : Go d i_X10_take 0 [.ref h0, .int x1] [] S I J Q) : z_wp (d + 1) i_X10_take [.ref h0, .int x1] S I J Q := Go.wp (Nat.le_of_ble_eq_true rfl) h
theorem e_X10_take {d : Nat} {S S2 : zS} {I I2 : zI} {J J2 : zJ} {r : Option Value} {h0 : Nat} {x1 : Int32} (h : Go d i_X10_take 0 [.ref h0, .int x1] [] S I J (z_eq r S2 I2 J2)) : z_ev (d + 1) i_X10_take [.ref h0, .int x1] S I J r S2 I2 J2 := Go.ev (Nat.le_of_ble_eq_true rfl) h
theorem b_X10_take_0 {d : Nat} {S : zS} {I : zI} {J : zJ} {Q : zQ} {h0 : Nat} {x1 : Int32} (kt : ¬ x1 = (0 : Int32) → Go d i_X10_take 17 [.ref h0, .int x1] [] S I J Q) (kf : x1 = (0 : Int32) → Go d i_X10_take 4 [.ref h0, .int x1] [] S I J Q) : Go d i_X10_take 0 [.ref h0, .int x1] [] S I J Q := by
  have h := (Go.eti kt kf)
  exact Go.n tb_X10_take 2 h
theorem b_X10_take_4 {d : Nat} {S : zS} {I : zI} {J : zJ} {Q : zQ} {h0 : Nat} {x1 : Int32} (g1 : z_kd S h0 = 11) (g2 : z_kd S (z_rv S h0 5) = 6) (g3 : z_kd S h0 = 11) (kk : z_wp d i_X10_fail [.ref h0, .int (1 : Int32), .int (I (z_rv S h0 5) 2)] S I J (fun vv SS II JJ => Go d i_X10_take 16 [.ref h0, .int x1] (vv.toList ++ []) SS II JJ Q)) : Go d i_X10_take 4 [.ref h0, .int x1] [] S I J Q := by
  have h := (And.intro g1 (And.intro g2 (And.intro g3 kk)))
  exact Go.n tb_X10_take 6 h
theorem b_X10_take_16 {d : Nat} {S : zS} {I : zI} {J : zJ} {Q : zQ} {h0 : Nat} {x1 : Int32} {y0 : Int32} (g1 : z_fit 3 y0) (kk : Q (some (.int y0)) S I J) : Go d i_X10_take 16 [.ref h0, .int x1] [.int y0] S I J Q := by
  have h := (And.intro g1 kk)
  exact Go.n tb_X10_take 1 h
theorem b_X10_take_17 {d : Nat} {S : zS} {I : zI} {J : zJ} {Q : zQ} {h0 : Nat} {x1 : Int32} (g1 : z_kd S h0 = 11) (g2 : z_kd S (z_rv S h0 5) = 6) (kk : z_wp d i_X5_advance [.ref (z_rv S h0 5)] S I J (fun vv SS II JJ => Go d i_X10_take 24 [.ref h0, .int x1] (vv.toList ++ []) SS II JJ Q)) : Go d i_X10_take 17 [.ref h0, .int x1] [] S I J Q := by
  have h := (And.intro g1 (And.intro g2 kk))
  exact Go.n tb_X10_take 3 h
theorem b_X10_take_24 {d : Nat} {S : zS} {I : zI} {J : zJ} {Q : zQ} {h0 : Nat} {x1 : Int32} (g1 : z_fit 3 (1 : Int32)) (kk : Q (some (.int (1 : Int32))) S I J) : Go d i_X10_take 24 [.ref h0, .int x1] [] S I J Q := by
  have h := (And.intro g1 kk)
  exact Go.n tb_X10_take 2 h
theorem w_X10_readLine {d : Nat} {S : zS} {I : zI} {J : zJ} {Q : zQ} {h0 : Nat} (h : Go d i_X10_readLine 0 [.ref h0, .retAddr 0, .retAddr 0, .retAddr 0] [] S I J Q) : z_wp (d + 1) i_X10_readLine [.ref h0] S I J Q := Go.wp (Nat.le_of_ble_eq_true rfl) h
theorem e_X10_readLine {d : Nat} {S S2 : zS} {I I2 : zI} {J J2 : zJ} {r : Option Value} {h0 : Nat} (h : Go d i_X10_readLine 0 [.ref h0, .retAddr 0, .retAddr 0, .retAddr 0] [] S I J (z_eq r S2 I2 J2)) : z_ev (d + 1) i_X10_readLine [.ref h0] S I J r S2 I2 J2 := Go.ev (Nat.le_of_ble_eq_true rfl) h
theorem b_X10_readLine_0 {d : Nat} {S : zS} {I : zI} {J : zJ} {Q : zQ} {h0 : Nat} {v1 : Value} {v2 : Value} {v3 : Value} (g1 : z_kd S h0 = 11) (g2 : z_kd S (z_rv S h0 5) = 6) (kk : z_wp d i_X5_isWord [.ref (z_rv S h0 5), .ref (z_rv S 0 0)] S I J (fun vv SS II JJ => Go d i_X10_readLine 9 [.ref h0, v1, v2, v3] (vv.toList ++ []) SS II JJ Q)) : Go d i_X10_readLine 0 [.ref h0, v1, v2, v3] [] S I J Q := by
  have h := (And.intro g1 (And.intro g2 kk))
  exact Go.n tb_X10_readLine 4 h
theorem b_X10_readLine_9 {d : Nat} {S : zS} {I : zI} {J : zJ} {Q : zQ} {h0 : Nat} {v1 : Value} {v2 : Value} {v3 : Value} {y0 : Int32} (kt : y0 = (0 : Int32) → Go d i_X10_readLine 17 [.ref h0, v1, v2, v3] [] S I J Q) (kf : ¬ y0 = (0 : Int32) → Go d i_X10_readLine 12 [.ref h0, v1, v2, v3] [] S I J Q) : Go d i_X10_readLine 9 [.ref h0, v1, v2, v3] [.int y0] S I J Q := by
  have h := (Go.ite kt kf)
  exact Go.n tb_X10_readLine 1 h
theorem b_X10_readLine_12 {d : Nat} {S : zS} {I : zI} {J : zJ} {Q : zQ} {h0 : Nat} {v1 : Value} {v2 : Value} {v3 : Value} (g1 : z_kd S h0 = 11) (kk : z_wp d i_X10_readSteps [.ref h0] S I J (fun vv SS II JJ => Go d i_X10_readLine 16 [.ref h0, v1, v2, v3] (vv.toList ++ []) SS II JJ Q)) : Go d i_X10_readLine 12 [.ref h0, v1, v2, v3] [] S I J Q := by
  have h := (And.intro g1 kk)
  exact Go.n tb_X10_readLine 2 h
theorem b_X10_readLine_16 {d : Nat} {S : zS} {I : zI} {J : zJ} {Q : zQ} {h0 : Nat} {v1 : Value} {v2 : Value} {v3 : Value} {y0 : Int32} (g1 : z_fit 3 y0) (kk : Q (some (.int y0)) S I J) : Go d i_X10_readLine 16 [.ref h0, v1, v2, v3] [.int y0] S I J Q := by
  have h := (And.intro g1 kk)
  exact Go.n tb_X10_readLine 1 h
theorem b_X10_readLine_17 {d : Nat} {S : zS} {I : zI} {J : zJ} {Q : zQ} {h0 : Nat} {v1 : Value} {v2 : Value} {v3 : Value} (g1 : z_kd S h0 = 11) (g2 : z_kd S (z_rv S h0 5) = 6) (kk : z_wp d i_X5_isWord [.ref (z_rv S h0 5), .ref (z_rv S 0 1)] S I J (fun vv SS II JJ => Go d i_X10_readLine 26 [.ref h0, v1, v2, v3] (vv.toList ++ []) SS II JJ Q)) : Go d i_X10_readLine 17 [.ref h0, v1, v2, v3] [] S I J Q := by
  have h := (And.intro g1 (And.intro g2 kk))
  exact Go.n tb_X10_readLine 4 h
theorem b_X10_readLine_26 {d : Nat} {S : zS} {I : zI} {J : zJ} {Q : zQ} {h0 : Nat} {v1 : Value} {v2 : Value} {v3 : Value} {y0 : Int32} (kt : y0 = (0 : Int32) → Go d i_X10_readLine 55 [.ref h0, v1, v2, v3] [] S I J Q) (kf : ¬ y0 = (0 : Int32) → Go d i_X10_readLine 29 [.ref h0, v1, v2, v3] [] S I J Q) : Go d i_X10_readLine 26 [.ref h0, v1, v2, v3] [.int y0] S I J Q := by
  have h := (Go.ite kt kf)
  exact Go.n tb_X10_readLine 1 h
theorem b_X10_readLine_29 {d : Nat} {S : zS} {I : zI} {J : zJ} {Q : zQ} {h0 : Nat} {v1 : Value} {v2 : Value} {v3 : Value} (g1 : z_kd S h0 = 11 ∧ ((0 : Int32) = 0 ∨ (0 : Int32) = 1)) (g2 : z_kd S h0 = 11) (g3 : z_kd S h0 = 11) (g4 : z_kd S (z_rv S h0 2) = 2) (kk : z_wp d i_X1_withInverses [.ref (z_rv S h0 2), .int ((z_u2 I h0 4 (0 : Int32)) h0 3)] S (z_u2 I h0 4 (0 : Int32)) J (fun vv SS II JJ => Go d i_X10_readLine 46 [.ref h0, v1, v2, v3] (vv.toList ++ [.ref h0]) SS II JJ Q)) : Go d i_X10_readLine 29 [.ref h0, v1, v2, v3] [] S I J Q := by
  have h := (And.intro g1 (And.intro g2 (And.intro g3 (And.intro g4 kk))))
  exact Go.n tb_X10_readLine 9 h
theorem b_X10_readLine_46 {d : Nat} {S : zS} {I : zI} {J : zJ} {Q : zQ} {h0 : Nat} {v1 : Value} {v2 : Value} {v3 : Value} {q0 : Nat} {y1 : Int32} (g1 : z_kd S q0 = 11) (g2 : z_kd S h0 = 11) (kk : z_wp d i_X10_take [.ref h0, .int (1 : Int32)] S (z_u2 I q0 3 y1) J (fun vv SS II JJ => Go d i_X10_readLine 54 [.ref h0, v1, v2, v3] (vv.toList ++ []) SS II JJ Q)) : Go d i_X10_readLine 46 [.ref h0, v1, v2, v3] [.int y1, .ref q0] S I J Q := by
  have h := (And.intro g1 (And.intro g2 kk))
  exact Go.n tb_X10_readLine 4 h
theorem b_X10_readLine_54 {d : Nat} {S : zS} {I : zI} {J : zJ} {Q : zQ} {h0 : Nat} {v1 : Value} {v2 : Value} {v3 : Value} {y0 : Int32} (g1 : z_fit 3 y0) (kk : Q (some (.int y0)) S I J) : Go d i_X10_readLine 54 [.ref h0, v1, v2, v3] [.int y0] S I J Q := by
  have h := (And.intro g1 kk)
  exact Go.n tb_X10_readLine 1 h
theorem b_X10_readLine_55 {d : Nat} {S : zS} {I : zI} {J : zJ} {Q : zQ} {h0 : Nat} {v1 : Value} {v2 : Value} {v3 : Value} (g1 : z_kd S h0 = 11) (g2 : z_kd S (z_rv S h0 5) = 6) (kk : z_wp d i_X5_isWord [.ref (z_rv S h0 5), .ref (z_rv S 0 2)] S I J (fun vv SS II JJ => Go d i_X10_readLine 64 [.ref h0, v1, v2, v3] (vv.toList ++ []) SS II JJ Q)) : Go d i_X10_readLine 55 [.ref h0, v1, v2, v3] [] S I J Q := by
  have h := (And.intro g1 (And.intro g2 kk))
  exact Go.n tb_X10_readLine 4 h
theorem b_X10_readLine_64 {d : Nat} {S : zS} {I : zI} {J : zJ} {Q : zQ} {h0 : Nat} {v1 : Value} {v2 : Value} {v3 : Value} {y0 : Int32} (g1 : z_kd S h0 = 11) (kt : (I h0 4) = (0 : Int32) → Go d i_X10_readLine 92 [.ref h0, .int y0, v2, v3] [] S I J Q) (kf : ¬ (I h0 4) = (0 : Int32) → Go d i_X10_readLine 72 [.ref h0, .int y0, v2, v3] [] S I J Q) : Go d i_X10_readLine 64 [.ref h0, v1, v2, v3] [.int y0] S I J Q := by
  have h := (And.intro g1 (Go.ite kt kf))
  exact Go.n tb_X10_readLine 4 h
theorem b_X10_readLine_72 {d : Nat} {S : zS} {I : zI} {J : zJ} {Q : zQ} {h0 : Nat} {x1 : Int32} {v2 : Value} {v3 : Value} (kt : ¬ x1 = (0 : Int32) → Go d i_X10_readLine 88 [.ref h0, .int x1, v2, v3] [] S I J Q) (kf : x1 = (0 : Int32) → Go d i_X10_readLine 76 [.ref h0, .int x1, v2, v3] [] S I J Q) : Go d i_X10_readLine 72 [.ref h0, .int x1, v2, v3] [] S I J Q := by
  have h := (Go.eti kt kf)
  exact Go.n tb_X10_readLine 2 h
theorem b_X10_readLine_76 {d : Nat} {S : zS} {I : zI} {J : zJ} {Q : zQ} {h0 : Nat} {x1 : Int32} {v2 : Value} {v3 : Value} (g1 : z_kd S h0 = 11) (g2 : z_kd S (z_rv S h0 5) = 6) (kk : z_wp d i_X5_isWord [.ref (z_rv S h0 5), .ref (z_rv S 0 3)] S I J (fun vv SS II JJ => Go d i_X10_readLine 85 [.ref h0, .int x1, v2, v3] (vv.toList ++ []) SS II JJ Q)) : Go d i_X10_readLine 76 [.ref h0, .int x1, v2, v3] [] S I J Q := by
  have h := (And.intro g1 (And.intro g2 kk))
  exact Go.n tb_X10_readLine 4 h
theorem b_X10_readLine_85 {d : Nat} {S : zS} {I : zI} {J : zJ} {Q : zQ} {h0 : Nat} {x1 : Int32} {v2 : Value} {v3 : Value} {y0 : Int32} (kt : y0 = (0 : Int32) → Go d i_X10_readLine 92 [.ref h0, .int x1, v2, v3] [] S I J Q) (kf : ¬ y0 = (0 : Int32) → Go d i_X10_readLine 88 [.ref h0, .int x1, v2, v3] [] S I J Q) : Go d i_X10_readLine 85 [.ref h0, .int x1, v2, v3] [.int y0] S I J Q := by
  have h := (Go.ite kt kf)
  exact Go.n tb_X10_readLine 1 h
theorem b_X10_readLine_88 {d : Nat} {S : zS} {I : zI} {J : zJ} {Q : zQ} {h0 : Nat} {x1 : Int32} {v2 : Value} {v3 : Value} (g1 : z_kd S h0 = 11) (g2 : z_kd S (z_rv S h0 5) = 6) (g3 : z_kd S h0 = 11) (kk : z_wp d i_X10_take [.ref h0, .int (1 : Int32)] S I J (fun vv SS II JJ => Go d i_X10_readLine 107 [.ref h0, .int x1, .int (1 : Int32), .int (I (z_rv S h0 5) 2)] (vv.toList ++ []) SS II JJ Q)) : Go d i_X10_readLine 88 [.ref h0, .int x1, v2, v3] [] S I J Q := by
  have h := (And.intro g1 (And.intro g2 (And.intro g3 kk)))
  exact Go.n tb_X10_readLine 10 h
theorem b_X10_readLine_92 {d : Nat} {S : zS} {I : zI} {J : zJ} {Q : zQ} {h0 : Nat} {x1 : Int32} {v2 : Value} {v3 : Value} (g1 : z_kd S h0 = 11) (g2 : z_kd S (z_rv S h0 5) = 6) (g3 : z_kd S h0 = 11) (kk : z_wp d i_X10_take [.ref h0, .int (0 : Int32)] S I J (fun vv SS II JJ => Go d i_X10_readLine 107 [.ref h0, .int x1, .int (0 : Int32), .int (I (z_rv S h0 5) 2)] (vv.toList ++ []) SS II JJ Q)) : Go d i_X10_readLine 92 [.ref h0, .int x1, v2, v3] [] S I J Q := by
  have h := (And.intro g1 (And.intro g2 (And.intro g3 kk)))
  exact Go.n tb_X10_readLine 9 h
theorem b_X10_readLine_107 {d : Nat} {S : zS} {I : zI} {J : zJ} {Q : zQ} {h0 : Nat} {x1 : Int32} {x2 : Int32} {x3 : Int32} {y0 : Int32} (kt : ¬ y0 = (0 : Int32) → Go d i_X10_readLine 112 [.ref h0, .int x1, .int x2, .int x3] [] S I J Q) (kf : y0 = (0 : Int32) → Go d i_X10_readLine 110 [.ref h0, .int x1, .int x2, .int x3] [] S I J Q) : Go d i_X10_readLine 107 [.ref h0, .int x1, .int x2, .int x3] [.int y0] S I J Q := by
  have h := (Go.eti kt kf)
  exact Go.n tb_X10_readLine 1 h
theorem b_X10_readLine_110 {d : Nat} {S : zS} {I : zI} {J : zJ} {Q : zQ} {h0 : Nat} {x1 : Int32} {x2 : Int32} {x3 : Int32} (g1 : z_fit 3 (0 : Int32)) (kk : Q (some (.int (0 : Int32))) S I J) : Go d i_X10_readLine 110 [.ref h0, .int x1, .int x2, .int x3] [] S I J Q := by
  have h := (And.intro g1 kk)
  exact Go.n tb_X10_readLine 2 h
theorem b_X10_readLine_112 {d : Nat} {S : zS} {I : zI} {J : zJ} {Q : zQ} {h0 : Nat} {x1 : Int32} {x2 : Int32} {x3 : Int32} (g1 : z_kd S h0 = 11 ∧ ((0 : Int32) = 0 ∨ (0 : Int32) = 1)) (g2 : z_kd S h0 = 11) (g3 : z_kd S (z_rv S h0 6) = 3) (kk : z_wp d i_X2_startAnew [.ref (z_rv S h0 6)] S (z_u2 I h0 4 (0 : Int32)) J (fun vv SS II JJ => Go d i_X10_readLine 124 [.ref h0, .int x1, .int x2, .int x3] (vv.toList ++ []) SS II JJ Q)) : Go d i_X10_readLine 112 [.ref h0, .int x1, .int x2, .int x3] [] S I J Q := by
  have h := (And.intro g1 (And.intro g2 (And.intro g3 kk)))
  exact Go.n tb_X10_readLine 6 h
theorem b_X10_readLine_124 {d : Nat} {S : zS} {I : zI} {J : zJ} {Q : zQ} {h0 : Nat} {x1 : Int32} {x2 : Int32} {x3 : Int32} (kt : x1 = (0 : Int32) → Go d i_X10_readLine 138 [.ref h0, .int x1, .int x2, .int x3] [] S I J Q) (kf : ¬ x1 = (0 : Int32) → Go d i_X10_readLine 128 [.ref h0, .int x1, .int x2, .int x3] [] S I J Q) : Go d i_X10_readLine 124 [.ref h0, .int x1, .int x2, .int x3] [] S I J Q := by
  have h := (Go.ite kt kf)
  exact Go.n tb_X10_readLine 2 h
theorem b_X10_readLine_128 {d : Nat} {S : zS} {I : zI} {J : zJ} {Q : zQ} {h0 : Nat} {x1 : Int32} {x2 : Int32} {x3 : Int32} (g1 : z_kd S h0 = 11) (kk : z_wp d i_X10_readFactors [.ref h0] S I J (fun vv SS II JJ => Go d i_X10_readLine 132 [.ref h0, .int x1, .int x2, .int x3] (vv.toList ++ []) SS II JJ Q)) : Go d i_X10_readLine 128 [.ref h0, .int x1, .int x2, .int x3] [] S I J Q := by
  have h := (And.intro g1 kk)
  exact Go.n tb_X10_readLine 2 h
theorem b_X10_readLine_132 {d : Nat} {S : zS} {I : zI} {J : zJ} {Q : zQ} {h0 : Nat} {x1 : Int32} {x2 : Int32} {x3 : Int32} {y0 : Int32} (kt : ¬ y0 = (0 : Int32) → Go d i_X10_readLine 148 [.ref h0, .int x1, .int x2, .int x3] [] S I J Q) (kf : y0 = (0 : Int32) → Go d i_X10_readLine 135 [.ref h0, .int x1, .int x2, .int x3] [] S I J Q) : Go d i_X10_readLine 132 [.ref h0, .int x1, .int x2, .int x3] [.int y0] S I J Q := by
  have h := (Go.eti kt kf)
  exact Go.n tb_X10_readLine 1 h
theorem b_X10_readLine_135 {d : Nat} {S : zS} {I : zI} {J : zJ} {Q : zQ} {h0 : Nat} {x1 : Int32} {x2 : Int32} {x3 : Int32} (g1 : z_fit 3 (0 : Int32)) (kk : Q (some (.int (0 : Int32))) S I J) : Go d i_X10_readLine 135 [.ref h0, .int x1, .int x2, .int x3] [] S I J Q := by
  have h := (And.intro g1 kk)
  exact Go.n tb_X10_readLine 3 h
theorem b_X10_readLine_138 {d : Nat} {S : zS} {I : zI} {J : zJ} {Q : zQ} {h0 : Nat} {x1 : Int32} {x2 : Int32} {x3 : Int32} (g1 : z_kd S h0 = 11) (kk : z_wp d i_X10_readRows [.ref h0, .int x3] S I J (fun vv SS II JJ => Go d i_X10_readLine 143 [.ref h0, .int x1, .int x2, .int x3] (vv.toList ++ []) SS II JJ Q)) : Go d i_X10_readLine 138 [.ref h0, .int x1, .int x2, .int x3] [] S I J Q := by
  have h := (And.intro g1 kk)
  exact Go.n tb_X10_readLine 3 h
theorem b_X10_readLine_143 {d : Nat} {S : zS} {I : zI} {J : zJ} {Q : zQ} {h0 : Nat} {x1 : Int32} {x2 : Int32} {x3 : Int32} {y0 : Int32} (kt : ¬ y0 = (0 : Int32) → Go d i_X10_readLine 148 [.ref h0, .int x1, .int x2, .int x3] [] S I J Q) (kf : y0 = (0 : Int32) → Go d i_X10_readLine 146 [.ref h0, .int x1, .int x2, .int x3] [] S I J Q) : Go d i_X10_readLine 143 [.ref h0, .int x1, .int x2, .int x3] [.int y0] S I J Q := by
  have h := (Go.eti kt kf)
  exact Go.n tb_X10_readLine 1 h
theorem b_X10_readLine_146 {d : Nat} {S : zS} {I : zI} {J : zJ} {Q : zQ} {h0 : Nat} {x1 : Int32} {x2 : Int32} {x3 : Int32} (g1 : z_fit 3 (0 : Int32)) (kk : Q (some (.int (0 : Int32))) S I J) : Go d i_X10_readLine 146 [.ref h0, .int x1, .int x2, .int x3] [] S I J Q := by
  have h := (And.intro g1 kk)
  exact Go.n tb_X10_readLine 2 h
theorem b_X10_readLine_148 {d : Nat} {S : zS} {I : zI} {J : zJ} {Q : zQ} {h0 : Nat} {x1 : Int32} {x2 : Int32} {x3 : Int32} (g1 : z_kd S h0 = 11) (g2 : z_kd S (z_rv S h0 6) = 3) (kk : z_wp d i_X2_build [.ref (z_rv S h0 6)] S I J (fun vv SS II JJ => Go d i_X10_readLine 156 [.ref h0, .int x1, .int x2, .int x3] (vv.toList ++ [.ref h0]) SS II JJ Q)) : Go d i_X10_readLine 148 [.ref h0, .int x1, .int x2, .int x3] [] S I J Q := by
  have h := (And.intro g1 (And.intro g2 kk))
  exact Go.n tb_X10_readLine 4 h
theorem b_X10_readLine_156 {d : Nat} {S : zS} {I : zI} {J : zJ} {Q : zQ} {h0 : Nat} {x1 : Int32} {x2 : Int32} {x3 : Int32} {q0 : Nat} {q1 : Nat} (g1 : z_kd S q0 = 11) (g2 : z_kd (z_setR S q0 2 q1) h0 = 11) (g3 : z_fit 3 (1 : Int32)) (kk : Q (some (.int (1 : Int32))) (z_setR S q0 2 q1) (z_u2 I h0 3 (0 : Int32)) J) : Go d i_X10_readLine 156 [.ref h0, .int x1, .int x2, .int x3] [.ref q1, .ref q0] S I J Q := by
  have h := (And.intro g1 (And.intro g2 (And.intro g3 kk)))
  exact Go.n tb_X10_readLine 6 h
theorem w_X10_readSteps {d : Nat} {S : zS} {I : zI} {J : zJ} {Q : zQ} {h0 : Nat} (h : Go d i_X10_readSteps 0 [.ref h0, .retAddr 0, .retAddr 0, .retAddr 0, .retAddr 0, .retAddr 0] [] S I J Q) : z_wp (d + 1) i_X10_readSteps [.ref h0] S I J Q := Go.wp (Nat.le_of_ble_eq_true rfl) h
theorem e_X10_readSteps {d : Nat} {S S2 : zS} {I I2 : zI} {J J2 : zJ} {r : Option Value} {h0 : Nat} (h : Go d i_X10_readSteps 0 [.ref h0, .retAddr 0, .retAddr 0, .retAddr 0, .retAddr 0, .retAddr 0] [] S I J (z_eq r S2 I2 J2)) : z_ev (d + 1) i_X10_readSteps [.ref h0] S I J r S2 I2 J2 := Go.ev (Nat.le_of_ble_eq_true rfl) h
theorem b_X10_readSteps_0 {d : Nat} {S : zS} {I : zI} {J : zJ} {Q : zQ} {h0 : Nat} {v1 : Value} {v2 : Value} {v3 : Value} {v4 : Value} {v5 : Value} (g1 : z_kd S h0 = 11 ∧ ((0 : Int32) = 0 ∨ (0 : Int32) = 1)) (g2 : z_kd S h0 = 11) (g3 : z_kd S (z_rv S h0 5) = 6) (kk : z_wp d i_X5_advance [.ref (z_rv S h0 5)] S (z_u2 I h0 4 (0 : Int32)) J (fun vv SS II JJ => Go d i_X10_readSteps 12 [.ref h0, v1, v2, v3, v4, v5] (vv.toList ++ []) SS II JJ Q)) : Go d i_X10_readSteps 0 [.ref h0, v1, v2, v3, v4, v5] [] S I J Q := by
  have h := (And.intro g1 (And.intro g2 (And.intro g3 kk)))
  exact Go.n tb_X10_readSteps 6 h
theorem b_X10_readSteps_12 {d : Nat} {S : zS} {I : zI} {J : zJ} {Q : zQ} {h0 : Nat} {v1 : Value} {v2 : Value} {v3 : Value} {v4 : Value} {v5 : Value} (kk : Go d i_X10_readSteps 18 [.ref h0, .int (0 : Int32), .int (1 : Int32), .int (0 : Int32), v4, v5] [] S I J Q) : Go d i_X10_readSteps 12 [.ref h0, v1, v2, v3, v4, v5] [] S I J Q := by
  have h := kk
  exact Go.n tb_X10_readSteps 6 h
theorem b_X10_readSteps_18 {d : Nat} {S : zS} {I : zI} {J : zJ} {Q : zQ} {h0 : Nat} {x1 : Int32} {x2 : Int32} {x3 : Int32} {v4 : Value} {v5 : Value} (g1 : z_kd S h0 = 11) (g2 : z_kd S (z_rv S h0 5) = 6) (kt : (I (z_rv S h0 5) 1) < x3 → Go d i_X10_readSteps 147 [.ref h0, .int x1, .int x2, .int x3, v4, v5] [] S I J Q) (kf : ¬ (I (z_rv S h0 5) 1) < x3 → Go d i_X10_readSteps 29 [.ref h0, .int x1, .int x2, .int x3, v4, v5] [] S I J Q) : Go d i_X10_readSteps 18 [.ref h0, .int x1, .int x2, .int x3, v4, v5] [] S I J Q := by
  have h := (And.intro g1 (And.intro g2 (Go.ite kt kf)))
  exact Go.n tb_X10_readSteps 5 h
theorem b_X10_readSteps_29 {d : Nat} {S : zS} {I : zI} {J : zJ} {Q : zQ} {h0 : Nat} {x1 : Int32} {x2 : Int32} {x3 : Int32} {v4 : Value} {v5 : Value} (kt : x2 = (0 : Int32) → Go d i_X10_readSteps 147 [.ref h0, .int x1, .int x2, .int x3, v4, v5] [] S I J Q) (kf : ¬ x2 = (0 : Int32) → Go d i_X10_readSteps 33 [.ref h0, .int x1, .int x2, .int x3, v4, v5] [] S I J Q) : Go d i_X10_readSteps 29 [.ref h0, .int x1, .int x2, .int x3, v4, v5] [] S I J Q := by
  have h := (Go.ite kt kf)
  exact Go.n tb_X10_readSteps 2 h
theorem b_X10_readSteps_33 {d : Nat} {S : zS} {I : zI} {J : zJ} {Q : zQ} {h0 : Nat} {x1 : Int32} {x2 : Int32} {x3 : Int32} {v4 : Value} {v5 : Value} (g1 : z_kd S h0 = 11) (g2 : z_kd S (z_rv S h0 5) = 6) (g3 : z_kd S h0 = 11) (g4 : z_kd S (z_rv S h0 5) = 6) (kt : ¬ (I (z_rv S h0 5) 4) = (2 : Int32) → Go d i_X10_readSteps 63 [.ref h0, .int x1, .int x2, .int x3, .int (I (z_rv S h0 5) 2), v5] [] S I J Q) (kf : (I (z_rv S h0 5) 4) = (2 : Int32) → Go d i_X10_readSteps 53 [.ref h0, .int x1, .int x2, .int x3, .int (I (z_rv S h0 5) 2), v5] [] S I J Q) : Go d i_X10_readSteps 33 [.ref h0, .int x1, .int x2, .int x3, v4, v5] [] S I J Q := by
  have h := (And.intro g1 (And.intro g2 (And.intro g3 (And.intro g4 (Go.eti kt kf)))))
  exact Go.n tb_X10_readSteps 9 h
theorem b_X10_readSteps_53 {d : Nat} {S : zS} {I : zI} {J : zJ} {Q : zQ} {h0 : Nat} {x1 : Int32} {x2 : Int32} {x3 : Int32} {x4 : Int32} {v5 : Value} (g1 : z_kd S h0 = 11) (g2 : z_kd S (z_rv S h0 5) = 6) (kk : z_wp d i_X5_number [.ref (z_rv S h0 5)] S I J (fun vv SS II JJ => Go d i_X10_readSteps 60 [.ref h0, .int x1, .int x2, .int x3, .int x4, v5] (vv.toList ++ []) SS II JJ Q)) : Go d i_X10_readSteps 53 [.ref h0, .int x1, .int x2, .int x3, .int x4, v5] [] S I J Q := by
  have h := (And.intro g1 (And.intro g2 kk))
  exact Go.n tb_X10_readSteps 3 h
theorem b_X10_readSteps_60 {d : Nat} {S : zS} {I : zI} {J : zJ} {Q : zQ} {h0 : Nat} {x1 : Int32} {x2 : Int32} {x3 : Int32} {x4 : Int32} {v5 : Value} {y0 : Int32} (g1 : z_kd S h0 = 11) (g2 : z_kd S (z_rv S h0 5) = 6) (kt : ¬ (I (z_rv S h0 5) 4) = (2 : Int32) → Go d i_X10_readSteps 82 [.ref h0, .int x1, .int x2, .int x3, .int x4, .int y0] [.ref h0] S I J Q) (kf : (I (z_rv S h0 5) 4) = (2 : Int32) → Go d i_X10_readSteps 78 [.ref h0, .int x1, .int x2, .int x3, .int x4, .int y0] [.ref h0] S I J Q) : Go d i_X10_readSteps 60 [.ref h0, .int x1, .int x2, .int x3, .int x4, v5] [.int y0] S I J Q := by
  have h := (And.intro g1 (And.intro g2 (Go.eti kt kf)))
  exact Go.n tb_X10_readSteps 8 h
theorem b_X10_readSteps_63 {d : Nat} {S : zS} {I : zI} {J : zJ} {Q : zQ} {h0 : Nat} {x1 : Int32} {x2 : Int32} {x3 : Int32} {x4 : Int32} {v5 : Value} (g1 : z_kd S h0 = 11) (g2 : z_kd S (z_rv S h0 5) = 6) (kt : ¬ (I (z_rv S h0 5) 4) = (2 : Int32) → Go d i_X10_readSteps 82 [.ref h0, .int x1, .int x2, .int x3, .int x4, .int (0 : Int32)] [.ref h0] S I J Q) (kf : (I (z_rv S h0 5) 4) = (2 : Int32) → Go d i_X10_readSteps 78 [.ref h0, .int x1, .int x2, .int x3, .int x4, .int (0 : Int32)] [.ref h0] S I J Q) : Go d i_X10_readSteps 63 [.ref h0, .int x1, .int x2, .int x3, .int x4, v5] [] S I J Q := by
  have h := (And.intro g1 (And.intro g2 (Go.eti kt kf)))
  exact Go.n tb_X10_readSteps 8 h
theorem b_X10_readSteps_78 {d : Nat} {S : zS} {I : zI} {J : zJ} {Q : zQ} {h0 : Nat} {x1 : Int32} {x2 : Int32} {x3 : Int32} {x4 : Int32} {x5 : Int32} {q0 : Nat} (g1 : z_kd S q0 = 11) (kk : z_wp d i_X10_take [.ref q0, .int (1 : Int32)] S I J (fun vv SS II JJ => Go d i_X10_readSteps 86 [.ref h0, .int x1, .int x2, .int x3, .int x4, .int x5] (vv.toList ++ []) SS II JJ Q)) : Go d i_X10_readSteps 78 [.ref h0, .int x1, .int x2, .int x3, .int x4, .int x5] [.ref q0] S I J Q := by
  have h := (And.intro g1 kk)
  exact Go.n tb_X10_readSteps 3 h
theorem b_X10_readSteps_82 {d : Nat} {S : zS} {I : zI} {J : zJ} {Q : zQ} {h0 : Nat} {x1 : Int32} {x2 : Int32} {x3 : Int32} {x4 : Int32} {x5 : Int32} {q0 : Nat} (g1 : z_kd S q0 = 11) (kk : z_wp d i_X10_take [.ref q0, .int (0 : Int32)] S I J (fun vv SS II JJ => Go d i_X10_readSteps 86 [.ref h0, .int x1, .int x2, .int x3, .int x4, .int x5] (vv.toList ++ []) SS II JJ Q)) : Go d i_X10_readSteps 82 [.ref h0, .int x1, .int x2, .int x3, .int x4, .int x5] [.ref q0] S I J Q := by
  have h := (And.intro g1 kk)
  exact Go.n tb_X10_readSteps 2 h
theorem b_X10_readSteps_86 {d : Nat} {S : zS} {I : zI} {J : zJ} {Q : zQ} {h0 : Nat} {x1 : Int32} {x2 : Int32} {x3 : Int32} {x4 : Int32} {x5 : Int32} {y0 : Int32} (kt : ¬ y0 = (0 : Int32) → Go d i_X10_readSteps 91 [.ref h0, .int x1, .int x2, .int x3, .int x4, .int x5] [] S I J Q) (kf : y0 = (0 : Int32) → Go d i_X10_readSteps 89 [.ref h0, .int x1, .int x2, .int x3, .int x4, .int x5] [] S I J Q) : Go d i_X10_readSteps 86 [.ref h0, .int x1, .int x2, .int x3, .int x4, .int x5] [.int y0] S I J Q := by
  have h := (Go.eti kt kf)
  exact Go.n tb_X10_readSteps 1 h
theorem b_X10_readSteps_89 {d : Nat} {S : zS} {I : zI} {J : zJ} {Q : zQ} {h0 : Nat} {x1 : Int32} {x2 : Int32} {x3 : Int32} {x4 : Int32} {x5 : Int32} (g1 : z_fit 3 (0 : Int32)) (kk : Q (some (.int (0 : Int32))) S I J) : Go d i_X10_readSteps 89 [.ref h0, .int x1, .int x2, .int x3, .int x4, .int x5] [] S I J Q := by
  have h := (And.intro g1 kk)
  exact Go.n tb_X10_readSteps 2 h
theorem b_X10_readSteps_91 {d : Nat} {S : zS} {I : zI} {J : zJ} {Q : zQ} {h0 : Nat} {x1 : Int32} {x2 : Int32} {x3 : Int32} {x4 : Int32} {x5 : Int32} (kt : x5 < (1 : Int32) → Go d i_X10_readSteps 109 [.ref h0, .int x1, .int x2, .int x3, .int x4, .int x5] [] S I J Q) (kf : ¬ x5 < (1 : Int32) → Go d i_X10_readSteps 97 [.ref h0, .int x1, .int x2, .int x3, .int x4, .int x5] [] S I J Q) : Go d i_X10_readSteps 91 [.ref h0, .int x1, .int x2, .int x3, .int x4, .int x5] [] S I J Q := by
  have h := (Go.ite kt kf)
  exact Go.n tb_X10_readSteps 3 h
theorem b_X10_readSteps_97 {d : Nat} {S : zS} {I : zI} {J : zJ} {Q : zQ} {h0 : Nat} {x1 : Int32} {x2 : Int32} {x3 : Int32} {x4 : Int32} {x5 : Int32} (g1 : z_kd S h0 = 11) (g2 : z_kd S (z_rv S h0 2) = 2) (kt : x5 < (I (z_rv S h0 2) 0) → Go d i_X10_readSteps 117 [.ref h0, .int x1, .int x2, .int x3, .int x4, .int x5] [] S I J Q) (kf : ¬ x5 < (I (z_rv S h0 2) 0) → Go d i_X10_readSteps 109 [.ref h0, .int x1, .int x2, .int x3, .int x4, .int x5] [] S I J Q) : Go d i_X10_readSteps 97 [.ref h0, .int x1, .int x2, .int x3, .int x4, .int x5] [] S I J Q := by
  have h := (And.intro g1 (And.intro g2 (Go.ite kt kf)))
  exact Go.n tb_X10_readSteps 5 h
theorem b_X10_readSteps_109 {d : Nat} {S : zS} {I : zI} {J : zJ} {Q : zQ} {h0 : Nat} {x1 : Int32} {x2 : Int32} {x3 : Int32} {x4 : Int32} {x5 : Int32} (g1 : z_kd S h0 = 11) (kk : z_wp d i_X10_fail [.ref h0, .int (2 : Int32), .int x4] S I J (fun vv SS II JJ => Go d i_X10_readSteps 116 [.ref h0, .int x1, .int x2, .int x3, .int x4, .int x5] (vv.toList ++ []) SS II JJ Q)) : Go d i_X10_readSteps 109 [.ref h0, .int x1, .int x2, .int x3, .int x4, .int x5] [] S I J Q := by
  have h := (And.intro g1 kk)
  exact Go.n tb_X10_readSteps 4 h
theorem b_X10_readSteps_116 {d : Nat} {S : zS} {I : zI} {J : zJ} {Q : zQ} {h0 : Nat} {x1 : Int32} {x2 : Int32} {x3 : Int32} {x4 : Int32} {x5 : Int32} {y0 : Int32} (g1 : z_fit 3 y0) (kk : Q (some (.int y0)) S I J) : Go d i_X10_readSteps 116 [.ref h0, .int x1, .int x2, .int x3, .int x4, .int x5] [.int y0] S I J Q := by
  have h := (And.intro g1 kk)
  exact Go.n tb_X10_readSteps 1 h
theorem b_X10_readSteps_117 {d : Nat} {S : zS} {I : zI} {J : zJ} {Q : zQ} {h0 : Nat} {x1 : Int32} {x2 : Int32} {x3 : Int32} {x4 : Int32} {x5 : Int32} (g1 : z_kd S h0 = 11) (g2 : z_kd S (z_rv S h0 5) = 6) (kt : ¬ (I (z_rv S h0 5) 4) = (2 : Int32) → Go d i_X10_readSteps 139 [.ref h0, .int (x1 ||| ((1 : Int32) <<< (x5 &&& 31))), .int x2, .int x3, .int x4, .int x5] [] S I J Q) (kf : (I (z_rv S h0 5) 4) = (2 : Int32) → Go d i_X10_readSteps 135 [.ref h0, .int (x1 ||| ((1 : Int32) <<< (x5 &&& 31))), .int x2, .int x3, .int x4, .int x5] [] S I J Q) : Go d i_X10_readSteps 117 [.ref h0, .int x1, .int x2, .int x3, .int x4, .int x5] [] S I J Q := by
  have h := (And.intro g1 (And.intro g2 (Go.eti kt kf)))
  exact Go.n tb_X10_readSteps 11 h
theorem b_X10_readSteps_135 {d : Nat} {S : zS} {I : zI} {J : zJ} {Q : zQ} {h0 : Nat} {x1 : Int32} {x2 : Int32} {x3 : Int32} {x4 : Int32} {x5 : Int32} (kk : Go d i_X10_readSteps 18 [.ref h0, .int x1, .int (1 : Int32), .int (x3 + (1 : Int32)), .int x4, .int x5] [] S I J Q) : Go d i_X10_readSteps 135 [.ref h0, .int x1, .int x2, .int x3, .int x4, .int x5] [] S I J Q := by
  have h := kk
  exact Go.n tb_X10_readSteps 5 h
theorem b_X10_readSteps_139 {d : Nat} {S : zS} {I : zI} {J : zJ} {Q : zQ} {h0 : Nat} {x1 : Int32} {x2 : Int32} {x3 : Int32} {x4 : Int32} {x5 : Int32} (kk : Go d i_X10_readSteps 18 [.ref h0, .int x1, .int (0 : Int32), .int (x3 + (1 : Int32)), .int x4, .int x5] [] S I J Q) : Go d i_X10_readSteps 139 [.ref h0, .int x1, .int x2, .int x3, .int x4, .int x5] [] S I J Q := by
  have h := kk
  exact Go.n tb_X10_readSteps 4 h
theorem b_X10_readSteps_147 {d : Nat} {S : zS} {I : zI} {J : zJ} {Q : zQ} {h0 : Nat} {x1 : Int32} {x2 : Int32} {x3 : Int32} {v4 : Value} {v5 : Value} (g1 : z_kd S h0 = 11) (g2 : z_fit 3 (1 : Int32)) (kk : Q (some (.int (1 : Int32))) S (z_u2 I h0 3 x1) J) : Go d i_X10_readSteps 147 [.ref h0, .int x1, .int x2, .int x3, v4, v5] [] S I J Q := by
  have h := (And.intro g1 (And.intro g2 kk))
  exact Go.n tb_X10_readSteps 5 h
theorem w_X10_readFactors {d : Nat} {S : zS} {I : zI} {J : zJ} {Q : zQ} {h0 : Nat} (h : Go d i_X10_readFactors 0 [.ref h0, .retAddr 0, .retAddr 0] [] S I J Q) : z_wp (d + 1) i_X10_readFactors [.ref h0] S I J Q := Go.wp (Nat.le_of_ble_eq_true rfl) h
theorem e_X10_readFactors {d : Nat} {S S2 : zS} {I I2 : zI} {J J2 : zJ} {r : Option Value} {h0 : Nat} (h : Go d i_X10_readFactors 0 [.ref h0, .retAddr 0, .retAddr 0] [] S I J (z_eq r S2 I2 J2)) : z_ev (d + 1) i_X10_readFactors [.ref h0] S I J r S2 I2 J2 := Go.ev (Nat.le_of_ble_eq_true rfl) h
theorem b_X10_readFactors_0 {d : Nat} {S : zS} {I : zI} {J : zJ} {Q : zQ} {h0 : Nat} {v1 : Value} {v2 : Value} (kk : Go d i_X10_readFactors 4 [.ref h0, .int (1 : Int32), .int (0 : Int32)] [] S I J Q) : Go d i_X10_readFactors 0 [.ref h0, v1, v2] [] S I J Q := by
  have h := kk
  exact Go.n tb_X10_readFactors 4 h
theorem b_X10_readFactors_4 {d : Nat} {S : zS} {I : zI} {J : zJ} {Q : zQ} {h0 : Nat} {x1 : Int32} {x2 : Int32} (g1 : z_kd S h0 = 11) (g2 : z_kd S (z_rv S h0 5) = 6) (kt : (I (z_rv S h0 5) 1) < x2 → Go d i_X10_readFactors 55 [.ref h0, .int x1, .int x2] [] S I J Q) (kf : ¬ (I (z_rv S h0 5) 1) < x2 → Go d i_X10_readFactors 15 [.ref h0, .int x1, .int x2] [] S I J Q) : Go d i_X10_readFactors 4 [.ref h0, .int x1, .int x2] [] S I J Q := by
  have h := (And.intro g1 (And.intro g2 (Go.ite kt kf)))
  exact Go.n tb_X10_readFactors 5 h
theorem b_X10_readFactors_15 {d : Nat} {S : zS} {I : zI} {J : zJ} {Q : zQ} {h0 : Nat} {x1 : Int32} {x2 : Int32} (kt : x1 = (0 : Int32) → Go d i_X10_readFactors 55 [.ref h0, .int x1, .int x2] [] S I J Q) (kf : ¬ x1 = (0 : Int32) → Go d i_X10_readFactors 19 [.ref h0, .int x1, .int x2] [] S I J Q) : Go d i_X10_readFactors 15 [.ref h0, .int x1, .int x2] [] S I J Q := by
  have h := (Go.ite kt kf)
  exact Go.n tb_X10_readFactors 2 h
theorem b_X10_readFactors_19 {d : Nat} {S : zS} {I : zI} {J : zJ} {Q : zQ} {h0 : Nat} {x1 : Int32} {x2 : Int32} (g1 : z_kd S h0 = 11) (kk : z_wp d i_X10_readFactor [.ref h0] S I J (fun vv SS II JJ => Go d i_X10_readFactors 23 [.ref h0, .int x1, .int x2] (vv.toList ++ []) SS II JJ Q)) : Go d i_X10_readFactors 19 [.ref h0, .int x1, .int x2] [] S I J Q := by
  have h := (And.intro g1 kk)
  exact Go.n tb_X10_readFactors 2 h
theorem b_X10_readFactors_23 {d : Nat} {S : zS} {I : zI} {J : zJ} {Q : zQ} {h0 : Nat} {x1 : Int32} {x2 : Int32} {y0 : Int32} (kt : ¬ y0 = (0 : Int32) → Go d i_X10_readFactors 28 [.ref h0, .int x1, .int x2] [] S I J Q) (kf : y0 = (0 : Int32) → Go d i_X10_readFactors 26 [.ref h0, .int x1, .int x2] [] S I J Q) : Go d i_X10_readFactors 23 [.ref h0, .int x1, .int x2] [.int y0] S I J Q := by
  have h := (Go.eti kt kf)
  exact Go.n tb_X10_readFactors 1 h
theorem b_X10_readFactors_26 {d : Nat} {S : zS} {I : zI} {J : zJ} {Q : zQ} {h0 : Nat} {x1 : Int32} {x2 : Int32} (g1 : z_fit 3 (0 : Int32)) (kk : Q (some (.int (0 : Int32))) S I J) : Go d i_X10_readFactors 26 [.ref h0, .int x1, .int x2] [] S I J Q := by
  have h := (And.intro g1 kk)
  exact Go.n tb_X10_readFactors 2 h
theorem b_X10_readFactors_28 {d : Nat} {S : zS} {I : zI} {J : zJ} {Q : zQ} {h0 : Nat} {x1 : Int32} {x2 : Int32} (g1 : z_kd S h0 = 11) (g2 : z_kd S (z_rv S h0 5) = 6) (kk : z_wp d i_X5_isWord [.ref (z_rv S h0 5), .ref (z_rv S 0 4)] S I J (fun vv SS II JJ => Go d i_X10_readFactors 37 [.ref h0, .int x1, .int x2] (vv.toList ++ []) SS II JJ Q)) : Go d i_X10_readFactors 28 [.ref h0, .int x1, .int x2] [] S I J Q := by
  have h := (And.intro g1 (And.intro g2 kk))
  exact Go.n tb_X10_readFactors 4 h
theorem b_X10_readFactors_37 {d : Nat} {S : zS} {I : zI} {J : zJ} {Q : zQ} {h0 : Nat} {x1 : Int32} {x2 : Int32} {y0 : Int32} (kt : y0 = (0 : Int32) → Go d i_X10_readFactors 49 [.ref h0, .int y0, .int x2] [] S I J Q) (kf : ¬ y0 = (0 : Int32) → Go d i_X10_readFactors 42 [.ref h0, .int y0, .int x2] [] S I J Q) : Go d i_X10_readFactors 37 [.ref h0, .int x1, .int x2] [.int y0] S I J Q := by
  have h := (Go.ite kt kf)
  exact Go.n tb_X10_readFactors 3 h
theorem b_X10_readFactors_42 {d : Nat} {S : zS} {I : zI} {J : zJ} {Q : zQ} {h0 : Nat} {x1 : Int32} {x2 : Int32} (g1 : z_kd S h0 = 11) (g2 : z_kd S (z_rv S h0 5) = 6) (kk : z_wp d i_X5_advance [.ref (z_rv S h0 5)] S I J (fun vv SS II JJ => Go d i_X10_readFactors 49 [.ref h0, .int x1, .int x2] (vv.toList ++ []) SS II JJ Q)) : Go d i_X10_readFactors 42 [.ref h0, .int x1, .int x2] [] S I J Q := by
  have h := (And.intro g1 (And.intro g2 kk))
  exact Go.n tb_X10_readFactors 3 h
theorem b_X10_readFactors_49 {d : Nat} {S : zS} {I : zI} {J : zJ} {Q : zQ} {h0 : Nat} {x1 : Int32} {x2 : Int32} (kk : Go d i_X10_readFactors 4 [.ref h0, .int x1, .int (x2 + (1 : Int32))] [] S I J Q) : Go d i_X10_readFactors 49 [.ref h0, .int x1, .int x2] [] S I J Q := by
  have h := kk
  exact Go.n tb_X10_readFactors 2 h
theorem b_X10_readFactors_55 {d : Nat} {S : zS} {I : zI} {J : zJ} {Q : zQ} {h0 : Nat} {x1 : Int32} {x2 : Int32} (g1 : z_fit 3 (1 : Int32)) (kk : Q (some (.int (1 : Int32))) S I J) : Go d i_X10_readFactors 55 [.ref h0, .int x1, .int x2] [] S I J Q := by
  have h := (And.intro g1 kk)
  exact Go.n tb_X10_readFactors 2 h
theorem w_X10_readFactor {d : Nat} {S : zS} {I : zI} {J : zJ} {Q : zQ} {h0 : Nat} (h : Go d i_X10_readFactor 0 [.ref h0, .retAddr 0, .retAddr 0, .retAddr 0, .retAddr 0] [] S I J Q) : z_wp (d + 1) i_X10_readFactor [.ref h0] S I J Q := Go.wp (Nat.le_of_ble_eq_true rfl) h
theorem e_X10_readFactor {d : Nat} {S S2 : zS} {I I2 : zI} {J J2 : zJ} {r : Option Value} {h0 : Nat} (h : Go d i_X10_readFactor 0 [.ref h0, .retAddr 0, .retAddr 0, .retAddr 0, .retAddr 0] [] S I J (z_eq r S2 I2 J2)) : z_ev (d + 1) i_X10_readFactor [.ref h0] S I J r S2 I2 J2 := Go.ev (Nat.le_of_ble_eq_true rfl) h
theorem b_X10_readFactor_0 {d : Nat} {S : zS} {I : zI} {J : zJ} {Q : zQ} {h0 : Nat} {v1 : Value} {v2 : Value} {v3 : Value} {v4 : Value} (g1 : z_kd S h0 = 11) (g2 : z_kd S (z_rv S h0 5) = 6) (g3 : z_kd S h0 = 11) (kk : z_wp d i_X10_factorLetter [.ref h0] S I J (fun vv SS II JJ => Go d i_X10_readFactor 12 [.ref h0, .int (I (z_rv S h0 5) 2), v2, v3, v4] (vv.toList ++ []) SS II JJ Q)) : Go d i_X10_readFactor 0 [.ref h0, v1, v2, v3, v4] [] S I J Q := by
  have h := (And.intro g1 (And.intro g2 (And.intro g3 kk)))
  exact Go.n tb_X10_readFactor 6 h
theorem b_X10_readFactor_12 {d : Nat} {S : zS} {I : zI} {J : zJ} {Q : zQ} {h0 : Nat} {x1 : Int32} {v2 : Value} {v3 : Value} {v4 : Value} {y0 : Int32} (kt : y0 = (0 : Int32) → Go d i_X10_readFactor 22 [.ref h0, .int x1, .int y0, v3, v4] [.ref h0] S I J Q) (kf : ¬ y0 = (0 : Int32) → Go d i_X10_readFactor 18 [.ref h0, .int x1, .int y0, v3, v4] [.ref h0] S I J Q) : Go d i_X10_readFactor 12 [.ref h0, .int x1, v2, v3, v4] [.int y0] S I J Q := by
  have h := (Go.ite kt kf)
  exact Go.n tb_X10_readFactor 4 h
theorem b_X10_readFactor_18 {d : Nat} {S : zS} {I : zI} {J : zJ} {Q : zQ} {h0 : Nat} {x1 : Int32} {x2 : Int32} {v3 : Value} {v4 : Value} {q0 : Nat} (g1 : z_kd S q0 = 11) (kk : z_wp d i_X10_take [.ref q0, .int (1 : Int32)] S I J (fun vv SS II JJ => Go d i_X10_readFactor 26 [.ref h0, .int x1, .int x2, v3, v4] (vv.toList ++ []) SS II JJ Q)) : Go d i_X10_readFactor 18 [.ref h0, .int x1, .int x2, v3, v4] [.ref q0] S I J Q := by
  have h := (And.intro g1 kk)
  exact Go.n tb_X10_readFactor 3 h
theorem b_X10_readFactor_22 {d : Nat} {S : zS} {I : zI} {J : zJ} {Q : zQ} {h0 : Nat} {x1 : Int32} {x2 : Int32} {v3 : Value} {v4 : Value} {q0 : Nat} (g1 : z_kd S q0 = 11) (kk : z_wp d i_X10_take [.ref q0, .int (0 : Int32)] S I J (fun vv SS II JJ => Go d i_X10_readFactor 26 [.ref h0, .int x1, .int x2, v3, v4] (vv.toList ++ []) SS II JJ Q)) : Go d i_X10_readFactor 22 [.ref h0, .int x1, .int x2, v3, v4] [.ref q0] S I J Q := by
  have h := (And.intro g1 kk)
  exact Go.n tb_X10_readFactor 2 h
theorem b_X10_readFactor_26 {d : Nat} {S : zS} {I : zI} {J : zJ} {Q : zQ} {h0 : Nat} {x1 : Int32} {x2 : Int32} {v3 : Value} {v4 : Value} {y0 : Int32} (kt : ¬ y0 = (0 : Int32) → Go d i_X10_readFactor 31 [.ref h0, .int x1, .int x2, v3, v4] [] S I J Q) (kf : y0 = (0 : Int32) → Go d i_X10_readFactor 29 [.ref h0, .int x1, .int x2, v3, v4] [] S I J Q) : Go d i_X10_readFactor 26 [.ref h0, .int x1, .int x2, v3, v4] [.int y0] S I J Q := by
  have h := (Go.eti kt kf)
  exact Go.n tb_X10_readFactor 1 h
theorem b_X10_readFactor_29 {d : Nat} {S : zS} {I : zI} {J : zJ} {Q : zQ} {h0 : Nat} {x1 : Int32} {x2 : Int32} {v3 : Value} {v4 : Value} (g1 : z_fit 3 (0 : Int32)) (kk : Q (some (.int (0 : Int32))) S I J) : Go d i_X10_readFactor 29 [.ref h0, .int x1, .int x2, v3, v4] [] S I J Q := by
  have h := (And.intro g1 kk)
  exact Go.n tb_X10_readFactor 2 h
theorem b_X10_readFactor_31 {d : Nat} {S : zS} {I : zI} {J : zJ} {Q : zQ} {h0 : Nat} {x1 : Int32} {x2 : Int32} {v3 : Value} {v4 : Value} (kt : x2 = (97 : Int32) → Go d i_X10_readFactor 120 [.ref h0, .int x1, .int x2, .int (0 : Int32), v4] [] S I J Q) (kf : ¬ x2 = (97 : Int32) → Go d i_X10_readFactor 39 [.ref h0, .int x1, .int x2, .int (0 : Int32), v4] [] S I J Q) : Go d i_X10_readFactor 31 [.ref h0, .int x1, .int x2, v3, v4] [] S I J Q := by
  have h := (Go.ite kt kf)
  exact Go.n tb_X10_readFactor 5 h
theorem b_X10_readFactor_39 {d : Nat} {S : zS} {I : zI} {J : zJ} {Q : zQ} {h0 : Nat} {x1 : Int32} {x2 : Int32} {x3 : Int32} {v4 : Value} (g1 : z_kd S h0 = 11) (g2 : z_kd S (z_rv S h0 5) = 6) (g3 : z_kd S h0 = 11) (g4 : z_kd S (z_rv S h0 5) = 6) (kt : ¬ (I (z_rv S h0 5) 4) = (2 : Int32) → Go d i_X10_readFactor 69 [.ref h0, .int x1, .int x2, .int x3, .int (I (z_rv S h0 5) 2)] [] S I J Q) (kf : (I (z_rv S h0 5) 4) = (2 : Int32) → Go d i_X10_readFactor 59 [.ref h0, .int x1, .int x2, .int x3, .int (I (z_rv S h0 5) 2)] [] S I J Q) : Go d i_X10_readFactor 39 [.ref h0, .int x1, .int x2, .int x3, v4] [] S I J Q := by
  have h := (And.intro g1 (And.intro g2 (And.intro g3 (And.intro g4 (Go.eti kt kf)))))
  exact Go.n tb_X10_readFactor 9 h
theorem b_X10_readFactor_59 {d : Nat} {S : zS} {I : zI} {J : zJ} {Q : zQ} {h0 : Nat} {x1 : Int32} {x2 : Int32} {x3 : Int32} {x4 : Int32} (g1 : z_kd S h0 = 11) (g2 : z_kd S (z_rv S h0 5) = 6) (kk : z_wp d i_X5_number [.ref (z_rv S h0 5)] S I J (fun vv SS II JJ => Go d i_X10_readFactor 66 [.ref h0, .int x1, .int x2, .int x3, .int x4] (vv.toList ++ []) SS II JJ Q)) : Go d i_X10_readFactor 59 [.ref h0, .int x1, .int x2, .int x3, .int x4] [] S I J Q := by
  have h := (And.intro g1 (And.intro g2 kk))
  exact Go.n tb_X10_readFactor 3 h
theorem b_X10_readFactor_66 {d : Nat} {S : zS} {I : zI} {J : zJ} {Q : zQ} {h0 : Nat} {x1 : Int32} {x2 : Int32} {x3 : Int32} {x4 : Int32} {y0 : Int32} (g1 : z_kd S h0 = 11) (g2 : z_kd S (z_rv S h0 5) = 6) (kt : ¬ (I (z_rv S h0 5) 4) = (2 : Int32) → Go d i_X10_readFactor 87 [.ref h0, .int x1, .int x2, .int y0, .int x4] [.ref h0] S I J Q) (kf : (I (z_rv S h0 5) 4) = (2 : Int32) → Go d i_X10_readFactor 83 [.ref h0, .int x1, .int x2, .int y0, .int x4] [.ref h0] S I J Q) : Go d i_X10_readFactor 66 [.ref h0, .int x1, .int x2, .int x3, .int x4] [.int y0] S I J Q := by
  have h := (And.intro g1 (And.intro g2 (Go.eti kt kf)))
  exact Go.n tb_X10_readFactor 8 h
theorem b_X10_readFactor_69 {d : Nat} {S : zS} {I : zI} {J : zJ} {Q : zQ} {h0 : Nat} {x1 : Int32} {x2 : Int32} {x3 : Int32} {x4 : Int32} (g1 : z_kd S h0 = 11) (g2 : z_kd S (z_rv S h0 5) = 6) (kt : ¬ (I (z_rv S h0 5) 4) = (2 : Int32) → Go d i_X10_readFactor 87 [.ref h0, .int x1, .int x2, .int (0 : Int32), .int x4] [.ref h0] S I J Q) (kf : (I (z_rv S h0 5) 4) = (2 : Int32) → Go d i_X10_readFactor 83 [.ref h0, .int x1, .int x2, .int (0 : Int32), .int x4] [.ref h0] S I J Q) : Go d i_X10_readFactor 69 [.ref h0, .int x1, .int x2, .int x3, .int x4] [] S I J Q := by
  have h := (And.intro g1 (And.intro g2 (Go.eti kt kf)))
  exact Go.n tb_X10_readFactor 8 h
theorem b_X10_readFactor_83 {d : Nat} {S : zS} {I : zI} {J : zJ} {Q : zQ} {h0 : Nat} {x1 : Int32} {x2 : Int32} {x3 : Int32} {x4 : Int32} {q0 : Nat} (g1 : z_kd S q0 = 11) (kk : z_wp d i_X10_take [.ref q0, .int (1 : Int32)] S I J (fun vv SS II JJ => Go d i_X10_readFactor 91 [.ref h0, .int x1, .int x2, .int x3, .int x4] (vv.toList ++ []) SS II JJ Q)) : Go d i_X10_readFactor 83 [.ref h0, .int x1, .int x2, .int x3, .int x4] [.ref q0] S I J Q := by
  have h := (And.intro g1 kk)
  exact Go.n tb_X10_readFactor 3 h
theorem b_X10_readFactor_87 {d : Nat} {S : zS} {I : zI} {J : zJ} {Q : zQ} {h0 : Nat} {x1 : Int32} {x2 : Int32} {x3 : Int32} {x4 : Int32} {q0 : Nat} (g1 : z_kd S q0 = 11) (kk : z_wp d i_X10_take [.ref q0, .int (0 : Int32)] S I J (fun vv SS II JJ => Go d i_X10_readFactor 91 [.ref h0, .int x1, .int x2, .int x3, .int x4] (vv.toList ++ []) SS II JJ Q)) : Go d i_X10_readFactor 87 [.ref h0, .int x1, .int x2, .int x3, .int x4] [.ref q0] S I J Q := by
  have h := (And.intro g1 kk)
  exact Go.n tb_X10_readFactor 2 h
theorem b_X10_readFactor_91 {d : Nat} {S : zS} {I : zI} {J : zJ} {Q : zQ} {h0 : Nat} {x1 : Int32} {x2 : Int32} {x3 : Int32} {x4 : Int32} {y0 : Int32} (kt : ¬ y0 = (0 : Int32) → Go d i_X10_readFactor 96 [.ref h0, .int x1, .int x2, .int x3, .int x4] [] S I J Q) (kf : y0 = (0 : Int32) → Go d i_X10_readFactor 94 [.ref h0, .int x1, .int x2, .int x3, .int x4] [] S I J Q) : Go d i_X10_readFactor 91 [.ref h0, .int x1, .int x2, .int x3, .int x4] [.int y0] S I J Q := by
  have h := (Go.eti kt kf)
  exact Go.n tb_X10_readFactor 1 h
theorem b_X10_readFactor_94 {d : Nat} {S : zS} {I : zI} {J : zJ} {Q : zQ} {h0 : Nat} {x1 : Int32} {x2 : Int32} {x3 : Int32} {x4 : Int32} (g1 : z_fit 3 (0 : Int32)) (kk : Q (some (.int (0 : Int32))) S I J) : Go d i_X10_readFactor 94 [.ref h0, .int x1, .int x2, .int x3, .int x4] [] S I J Q := by
  have h := (And.intro g1 kk)
  exact Go.n tb_X10_readFactor 2 h
theorem b_X10_readFactor_96 {d : Nat} {S : zS} {I : zI} {J : zJ} {Q : zQ} {h0 : Nat} {x1 : Int32} {x2 : Int32} {x3 : Int32} {x4 : Int32} (kk : z_wp d i_X10_leastOf [.int x2] S I J (fun vv SS II JJ => Go d i_X10_readFactor 101 [.ref h0, .int x1, .int x2, .int x3, .int x4] (vv.toList ++ [.int x3]) SS II JJ Q)) : Go d i_X10_readFactor 96 [.ref h0, .int x1, .int x2, .int x3, .int x4] [] S I J Q := by
  have h := (And.intro trivial kk)
  exact Go.n tb_X10_readFactor 3 h
theorem b_X10_readFactor_101 {d : Nat} {S : zS} {I : zI} {J : zJ} {Q : zQ} {h0 : Nat} {x1 : Int32} {x2 : Int32} {x3 : Int32} {x4 : Int32} {y0 : Int32} {y1 : Int32} (kt : y0 < y1 → Go d i_X10_readFactor 112 [.ref h0, .int x1, .int x2, .int x3, .int x4] [] S I J Q) (kf : ¬ y0 < y1 → Go d i_X10_readFactor 104 [.ref h0, .int x1, .int x2, .int x3, .int x4] [] S I J Q) : Go d i_X10_readFactor 101 [.ref h0, .int x1, .int x2, .int x3, .int x4] [.int y1, .int y0] S I J Q := by
  have h := (Go.ite kt kf)
  exact Go.n tb_X10_readFactor 1 h
theorem b_X10_readFactor_104 {d : Nat} {S : zS} {I : zI} {J : zJ} {Q : zQ} {h0 : Nat} {x1 : Int32} {x2 : Int32} {x3 : Int32} {x4 : Int32} (kk : z_wp d i_X10_mostOf [.int x2] S I J (fun vv SS II JJ => Go d i_X10_readFactor 109 [.ref h0, .int x1, .int x2, .int x3, .int x4] (vv.toList ++ [.int x3]) SS II JJ Q)) : Go d i_X10_readFactor 104 [.ref h0, .int x1, .int x2, .int x3, .int x4] [] S I J Q := by
  have h := (And.intro trivial kk)
  exact Go.n tb_X10_readFactor 3 h
theorem b_X10_readFactor_109 {d : Nat} {S : zS} {I : zI} {J : zJ} {Q : zQ} {h0 : Nat} {x1 : Int32} {x2 : Int32} {x3 : Int32} {x4 : Int32} {y0 : Int32} {y1 : Int32} (kt : y0 ≤ y1 → Go d i_X10_readFactor 120 [.ref h0, .int x1, .int x2, .int x3, .int x4] [] S I J Q) (kf : ¬ y0 ≤ y1 → Go d i_X10_readFactor 112 [.ref h0, .int x1, .int x2, .int x3, .int x4] [] S I J Q) : Go d i_X10_readFactor 109 [.ref h0, .int x1, .int x2, .int x3, .int x4] [.int y1, .int y0] S I J Q := by
  have h := (Go.ite kt kf)
  exact Go.n tb_X10_readFactor 1 h
theorem b_X10_readFactor_112 {d : Nat} {S : zS} {I : zI} {J : zJ} {Q : zQ} {h0 : Nat} {x1 : Int32} {x2 : Int32} {x3 : Int32} {x4 : Int32} (g1 : z_kd S h0 = 11) (kk : z_wp d i_X10_fail [.ref h0, .int (2 : Int32), .int x4] S I J (fun vv SS II JJ => Go d i_X10_readFactor 119 [.ref h0, .int x1, .int x2, .int x3, .int x4] (vv.toList ++ []) SS II JJ Q)) : Go d i_X10_readFactor 112 [.ref h0, .int x1, .int x2, .int x3, .int x4] [] S I J Q := by
  have h := (And.intro g1 kk)
  exact Go.n tb_X10_readFactor 4 h
theorem b_X10_readFactor_119 {d : Nat} {S : zS} {I : zI} {J : zJ} {Q : zQ} {h0 : Nat} {x1 : Int32} {x2 : Int32} {x3 : Int32} {x4 : Int32} {y0 : Int32} (g1 : z_fit 3 y0) (kk : Q (some (.int y0)) S I J) : Go d i_X10_readFactor 119 [.ref h0, .int x1, .int x2, .int x3, .int x4] [.int y0] S I J Q := by
  have h := (And.intro g1 kk)
  exact Go.n tb_X10_readFactor 1 h
theorem b_X10_readFactor_120 {d : Nat} {S : zS} {I : zI} {J : zJ} {Q : zQ} {h0 : Nat} {x1 : Int32} {x2 : Int32} {x3 : Int32} {v4 : Value} (g1 : z_kd S h0 = 11) (g2 : z_kd S (z_rv S h0 6) = 3) (kk : z_wp d i_X2_addFactor [.ref (z_rv S h0 6), .int x2, .int x3] S I J (fun vv SS II JJ => Go d i_X10_readFactor 129 [.ref h0, .int x1, .int x2, .int x3, v4] (vv.toList ++ []) SS II JJ Q)) : Go d i_X10_readFactor 120 [.ref h0, .int x1, .int x2, .int x3, v4] [] S I J Q := by
  have h := (And.intro g1 (And.intro g2 kk))
  exact Go.n tb_X10_readFactor 5 h
theorem b_X10_readFactor_129 {d : Nat} {S : zS} {I : zI} {J : zJ} {Q : zQ} {h0 : Nat} {x1 : Int32} {x2 : Int32} {x3 : Int32} {v4 : Value} {y0 : Int32} (kt : ¬ y0 = (0 : Int32) → Go d i_X10_readFactor 141 [.ref h0, .int x1, .int x2, .int x3, v4] [] S I J Q) (kf : y0 = (0 : Int32) → Go d i_X10_readFactor 132 [.ref h0, .int x1, .int x2, .int x3, v4] [] S I J Q) : Go d i_X10_readFactor 129 [.ref h0, .int x1, .int x2, .int x3, v4] [.int y0] S I J Q := by
  have h := (Go.eti kt kf)
  exact Go.n tb_X10_readFactor 1 h
theorem b_X10_readFactor_132 {d : Nat} {S : zS} {I : zI} {J : zJ} {Q : zQ} {h0 : Nat} {x1 : Int32} {x2 : Int32} {x3 : Int32} {v4 : Value} (g1 : z_kd S h0 = 11) (kk : z_wp d i_X10_fail [.ref h0, .int (3 : Int32), .int x1] S I J (fun vv SS II JJ => Go d i_X10_readFactor 138 [.ref h0, .int x1, .int x2, .int x3, v4] (vv.toList ++ []) SS II JJ Q)) : Go d i_X10_readFactor 132 [.ref h0, .int x1, .int x2, .int x3, v4] [] S I J Q := by
  have h := (And.intro g1 kk)
  exact Go.n tb_X10_readFactor 4 h
theorem b_X10_readFactor_138 {d : Nat} {S : zS} {I : zI} {J : zJ} {Q : zQ} {h0 : Nat} {x1 : Int32} {x2 : Int32} {x3 : Int32} {v4 : Value} {y0 : Int32} (kt : y0 = (0 : Int32) → Go d i_X10_readFactor 145 [.ref h0, .int x1, .int x2, .int x3, v4] [] S I J Q) (kf : ¬ y0 = (0 : Int32) → Go d i_X10_readFactor 141 [.ref h0, .int x1, .int x2, .int x3, v4] [] S I J Q) : Go d i_X10_readFactor 138 [.ref h0, .int x1, .int x2, .int x3, v4] [.int y0] S I J Q := by
  have h := (Go.ite kt kf)
  exact Go.n tb_X10_readFactor 1 h
theorem b_X10_readFactor_141 {d : Nat} {S : zS} {I : zI} {J : zJ} {Q : zQ} {h0 : Nat} {x1 : Int32} {x2 : Int32} {x3 : Int32} {v4 : Value} (g1 : z_fit 3 (1 : Int32)) (kk : Q (some (.int (1 : Int32))) S I J) : Go d i_X10_readFactor 141 [.ref h0, .int x1, .int x2, .int x3, v4] [] S I J Q := by
  have h := (And.intro g1 kk)
  exact Go.n tb_X10_readFactor 3 h
theorem b_X10_readFactor_145 {d : Nat} {S : zS} {I : zI} {J : zJ} {Q : zQ} {h0 : Nat} {x1 : Int32} {x2 : Int32} {x3 : Int32} {v4 : Value} (g1 : z_fit 3 (0 : Int32)) (kk : Q (some (.int (0 : Int32))) S I J) : Go d i_X10_readFactor 145 [.ref h0, .int x1, .int x2, .int x3, v4] [] S I J Q := by
  have h := (And.intro g1 kk)
  exact Go.n tb_X10_readFactor 2 h
theorem w_X10_factorLetter {d : Nat} {S : zS} {I : zI} {J : zJ} {Q : zQ} {h0 : Nat} (h : Go d i_X10_factorLetter 0 [.ref h0] [] S I J Q) : z_wp (d + 1) i_X10_factorLetter [.ref h0] S I J Q := Go.wp (Nat.le_of_ble_eq_true rfl) h
theorem e_X10_factorLetter {d : Nat} {S S2 : zS} {I I2 : zI} {J J2 : zJ} {r : Option Value} {h0 : Nat} (h : Go d i_X10_factorLetter 0 [.ref h0] [] S I J (z_eq r S2 I2 J2)) : z_ev (d + 1) i_X10_factorLetter [.ref h0] S I J r S2 I2 J2 := Go.ev (Nat.le_of_ble_eq_true rfl) h
theorem b_X10_factorLetter_0 {d : Nat} {S : zS} {I : zI} {J : zJ} {Q : zQ} {h0 : Nat} (g1 : z_kd S h0 = 11) (g2 : z_kd S (z_rv S h0 5) = 6) (kk : z_wp d i_X5_isWord [.ref (z_rv S h0 5), .ref (z_rv S 0 5)] S I J (fun vv SS II JJ => Go d i_X10_factorLetter 9 [.ref h0] (vv.toList ++ []) SS II JJ Q)) : Go d i_X10_factorLetter 0 [.ref h0] [] S I J Q := by
  have h := (And.intro g1 (And.intro g2 kk))
  exact Go.n tb_X10_factorLetter 4 h
theorem b_X10_factorLetter_9 {d : Nat} {S : zS} {I : zI} {J : zJ} {Q : zQ} {h0 : Nat} {y0 : Int32} (kt : y0 = (0 : Int32) → Go d i_X10_factorLetter 15 [.ref h0] [] S I J Q) (kf : ¬ y0 = (0 : Int32) → Go d i_X10_factorLetter 12 [.ref h0] [] S I J Q) : Go d i_X10_factorLetter 9 [.ref h0] [.int y0] S I J Q := by
  have h := (Go.ite kt kf)
  exact Go.n tb_X10_factorLetter 1 h
theorem b_X10_factorLetter_12 {d : Nat} {S : zS} {I : zI} {J : zJ} {Q : zQ} {h0 : Nat} (kk : Q (some (.int (99 : Int32))) S I J) : Go d i_X10_factorLetter 12 [.ref h0] [] S I J Q := by
  have h := (And.intro trivial kk)
  exact Go.n tb_X10_factorLetter 2 h
theorem b_X10_factorLetter_15 {d : Nat} {S : zS} {I : zI} {J : zJ} {Q : zQ} {h0 : Nat} (g1 : z_kd S h0 = 11) (g2 : z_kd S (z_rv S h0 5) = 6) (kk : z_wp d i_X5_isWord [.ref (z_rv S h0 5), .ref (z_rv S 0 6)] S I J (fun vv SS II JJ => Go d i_X10_factorLetter 24 [.ref h0] (vv.toList ++ []) SS II JJ Q)) : Go d i_X10_factorLetter 15 [.ref h0] [] S I J Q := by
  have h := (And.intro g1 (And.intro g2 kk))
  exact Go.n tb_X10_factorLetter 4 h
theorem b_X10_factorLetter_24 {d : Nat} {S : zS} {I : zI} {J : zJ} {Q : zQ} {h0 : Nat} {y0 : Int32} (kt : y0 = (0 : Int32) → Go d i_X10_factorLetter 30 [.ref h0] [] S I J Q) (kf : ¬ y0 = (0 : Int32) → Go d i_X10_factorLetter 27 [.ref h0] [] S I J Q) : Go d i_X10_factorLetter 24 [.ref h0] [.int y0] S I J Q := by
  have h := (Go.ite kt kf)
  exact Go.n tb_X10_factorLetter 1 h
theorem b_X10_factorLetter_27 {d : Nat} {S : zS} {I : zI} {J : zJ} {Q : zQ} {h0 : Nat} (kk : Q (some (.int (100 : Int32))) S I J) : Go d i_X10_factorLetter 27 [.ref h0] [] S I J Q := by
  have h := (And.intro trivial kk)
  exact Go.n tb_X10_factorLetter 2 h
theorem b_X10_factorLetter_30 {d : Nat} {S : zS} {I : zI} {J : zJ} {Q : zQ} {h0 : Nat} (g1 : z_kd S h0 = 11) (g2 : z_kd S (z_rv S h0 5) = 6) (kk : z_wp d i_X5_isWord [.ref (z_rv S h0 5), .ref (z_rv S 0 7)] S I J (fun vv SS II JJ => Go d i_X10_factorLetter 39 [.ref h0] (vv.toList ++ []) SS II JJ Q)) : Go d i_X10_factorLetter 30 [.ref h0] [] S I J Q := by
  have h := (And.intro g1 (And.intro g2 kk))
  exact Go.n tb_X10_factorLetter 4 h
theorem b_X10_factorLetter_39 {d : Nat} {S : zS} {I : zI} {J : zJ} {Q : zQ} {h0 : Nat} {y0 : Int32} (kt : y0 = (0 : Int32) → Go d i_X10_factorLetter 45 [.ref h0] [] S I J Q) (kf : ¬ y0 = (0 : Int32) → Go d i_X10_factorLetter 42 [.ref h0] [] S I J Q) : Go d i_X10_factorLetter 39 [.ref h0] [.int y0] S I J Q := by
  have h := (Go.ite kt kf)
  exact Go.n tb_X10_factorLetter 1 h
theorem b_X10_factorLetter_42 {d : Nat} {S : zS} {I : zI} {J : zJ} {Q : zQ} {h0 : Nat} (kk : Q (some (.int (113 : Int32))) S I J) : Go d i_X10_factorLetter 42 [.ref h0] [] S I J Q := by
  have h := (And.intro trivial kk)
  exact Go.n tb_X10_factorLetter 2 h
theorem b_X10_factorLetter_45 {d : Nat} {S : zS} {I : zI} {J : zJ} {Q : zQ} {h0 : Nat} (g1 : z_kd S h0 = 11) (g2 : z_kd S (z_rv S h0 5) = 6) (kk : z_wp d i_X5_isWord [.ref (z_rv S h0 5), .ref (z_rv S 0 8)] S I J (fun vv SS II JJ => Go d i_X10_factorLetter 54 [.ref h0] (vv.toList ++ []) SS II JJ Q)) : Go d i_X10_factorLetter 45 [.ref h0] [] S I J Q := by
  have h := (And.intro g1 (And.intro g2 kk))
  exact Go.n tb_X10_factorLetter 4 h
theorem b_X10_factorLetter_54 {d : Nat} {S : zS} {I : zI} {J : zJ} {Q : zQ} {h0 : Nat} {y0 : Int32} (kt : y0 = (0 : Int32) → Go d i_X10_factorLetter 62 [.ref h0] [] S I J Q) (kf : ¬ y0 = (0 : Int32) → Go d i_X10_factorLetter 57 [.ref h0] [] S I J Q) : Go d i_X10_factorLetter 54 [.ref h0] [.int y0] S I J Q := by
  have h := (Go.ite kt kf)
  exact Go.n tb_X10_factorLetter 1 h
theorem b_X10_factorLetter_57 {d : Nat} {S : zS} {I : zI} {J : zJ} {Q : zQ} {h0 : Nat} (kk : Q (some (.int (97 : Int32))) S I J) : Go d i_X10_factorLetter 57 [.ref h0] [] S I J Q := by
  have h := (And.intro trivial kk)
  exact Go.n tb_X10_factorLetter 3 h
theorem b_X10_factorLetter_62 {d : Nat} {S : zS} {I : zI} {J : zJ} {Q : zQ} {h0 : Nat} (kk : Q (some (.int (0 : Int32))) S I J) : Go d i_X10_factorLetter 62 [.ref h0] [] S I J Q := by
  have h := (And.intro trivial kk)
  exact Go.n tb_X10_factorLetter 2 h
theorem w_X10_leastOf {d : Nat} {S : zS} {I : zI} {J : zJ} {Q : zQ} {x0 : Int32} (h : Go d i_X10_leastOf 0 [.int x0] [] S I J Q) : z_wp (d + 1) i_X10_leastOf [.int x0] S I J Q := Go.wp (Nat.le_of_ble_eq_true rfl) h
theorem e_X10_leastOf {d : Nat} {S S2 : zS} {I I2 : zI} {J J2 : zJ} {r : Option Value} {x0 : Int32} (h : Go d i_X10_leastOf 0 [.int x0] [] S I J (z_eq r S2 I2 J2)) : z_ev (d + 1) i_X10_leastOf [.int x0] S I J r S2 I2 J2 := Go.ev (Nat.le_of_ble_eq_true rfl) h
theorem b_X10_leastOf_0 {d : Nat} {S : zS} {I : zI} {J : zJ} {Q : zQ} {x0 : Int32} (kt : ¬ x0 = (113 : Int32) → Go d i_X10_leastOf 10 [.int x0] [] S I J Q) (kf : x0 = (113 : Int32) → Go d i_X10_leastOf 6 [.int x0] [] S I J Q) : Go d i_X10_leastOf 0 [.int x0] [] S I J Q := by
  have h := (Go.eti kt kf)
  exact Go.n tb_X10_leastOf 3 h
theorem b_X10_leastOf_6 {d : Nat} {S : zS} {I : zI} {J : zJ} {Q : zQ} {x0 : Int32} (kk : Q (some (.int (2 : Int32))) S I J) : Go d i_X10_leastOf 6 [.int x0] [] S I J Q := by
  have h := (And.intro trivial kk)
  exact Go.n tb_X10_leastOf 3 h
theorem b_X10_leastOf_10 {d : Nat} {S : zS} {I : zI} {J : zJ} {Q : zQ} {x0 : Int32} (kk : Q (some (.int (1 : Int32))) S I J) : Go d i_X10_leastOf 10 [.int x0] [] S I J Q := by
  have h := (And.intro trivial kk)
  exact Go.n tb_X10_leastOf 2 h
theorem w_X10_mostOf {d : Nat} {S : zS} {I : zI} {J : zJ} {Q : zQ} {x0 : Int32} (h : Go d i_X10_mostOf 0 [.int x0] [] S I J Q) : z_wp (d + 1) i_X10_mostOf [.int x0] S I J Q := Go.wp (Nat.le_of_ble_eq_true rfl) h
theorem e_X10_mostOf {d : Nat} {S S2 : zS} {I I2 : zI} {J J2 : zJ} {r : Option Value} {x0 : Int32} (h : Go d i_X10_mostOf 0 [.int x0] [] S I J (z_eq r S2 I2 J2)) : z_ev (d + 1) i_X10_mostOf [.int x0] S I J r S2 I2 J2 := Go.ev (Nat.le_of_ble_eq_true rfl) h
theorem b_X10_mostOf_0 {d : Nat} {S : zS} {I : zI} {J : zJ} {Q : zQ} {x0 : Int32} (kt : ¬ x0 = (99 : Int32) → Go d i_X10_mostOf 9 [.int x0] [] S I J Q) (kf : x0 = (99 : Int32) → Go d i_X10_mostOf 6 [.int x0] [] S I J Q) : Go d i_X10_mostOf 0 [.int x0] [] S I J Q := by
  have h := (Go.eti kt kf)
  exact Go.n tb_X10_mostOf 3 h
theorem b_X10_mostOf_6 {d : Nat} {S : zS} {I : zI} {J : zJ} {Q : zQ} {x0 : Int32} (kk : Q (some (.int (20 : Int32))) S I J) : Go d i_X10_mostOf 6 [.int x0] [] S I J Q := by
  have h := (And.intro trivial kk)
  exact Go.n tb_X10_mostOf 2 h
theorem b_X10_mostOf_9 {d : Nat} {S : zS} {I : zI} {J : zJ} {Q : zQ} {x0 : Int32} (kt : ¬ x0 = (100 : Int32) → Go d i_X10_mostOf 20 [.int x0] [] S I J Q) (kf : x0 = (100 : Int32) → Go d i_X10_mostOf 15 [.int x0] [] S I J Q) : Go d i_X10_mostOf 9 [.int x0] [] S I J Q := by
  have h := (Go.eti kt kf)
  exact Go.n tb_X10_mostOf 3 h
theorem b_X10_mostOf_15 {d : Nat} {S : zS} {I : zI} {J : zJ} {Q : zQ} {x0 : Int32} (kk : Q (some (.int (10 : Int32))) S I J) : Go d i_X10_mostOf 15 [.int x0] [] S I J Q := by
  have h := (And.intro trivial kk)
  exact Go.n tb_X10_mostOf 3 h
theorem b_X10_mostOf_20 {d : Nat} {S : zS} {I : zI} {J : zJ} {Q : zQ} {x0 : Int32} (kk : Q (some (.int (5 : Int32))) S I J) : Go d i_X10_mostOf 20 [.int x0] [] S I J Q := by
  have h := (And.intro trivial kk)
  exact Go.n tb_X10_mostOf 2 h
theorem w_X10_readRows {d : Nat} {S : zS} {I : zI} {J : zJ} {Q : zQ} {h0 : Nat} {x1 : Int32} (h : Go d i_X10_readRows 0 [.ref h0, .int x1, .retAddr 0, .retAddr 0, .retAddr 0, .retAddr 0, .retAddr 0] [] S I J Q) : z_wp (d + 1) i_X10_readRows [.ref h0, .int x1] S I J Q := Go.wp (Nat.le_of_ble_eq_true rfl) h
theorem e_X10_readRows {d : Nat} {S S2 : zS} {I I2 : zI} {J J2 : zJ} {r : Option Value} {h0 : Nat} {x1 : Int32} (h : Go d i_X10_readRows 0 [.ref h0, .int x1, .retAddr 0, .retAddr 0, .retAddr 0, .retAddr 0, .retAddr 0] [] S I J (z_eq r S2 I2 J2)) : z_ev (d + 1) i_X10_readRows [.ref h0, .int x1] S I J r S2 I2 J2 := Go.ev (Nat.le_of_ble_eq_true rfl) h
theorem b_X10_readRows_0 {d : Nat} {S : zS} {I : zI} {J : zJ} {Q : zQ} {h0 : Nat} {x1 : Int32} {v2 : Value} {v3 : Value} {v4 : Value} {v5 : Value} {v6 : Value} (kk : Go d i_X10_readRows 4 [.ref h0, .int x1, .int (1 : Int32), .int (0 : Int32), v4, v5, v6] [] S I J Q) : Go d i_X10_readRows 0 [.ref h0, .int x1, v2, v3, v4, v5, v6] [] S I J Q := by
  have h := kk
  exact Go.n tb_X10_readRows 4 h
theorem b_X10_readRows_4 {d : Nat} {S : zS} {I : zI} {J : zJ} {Q : zQ} {h0 : Nat} {x1 : Int32} {x2 : Int32} {x3 : Int32} {v4 : Value} {v5 : Value} {v6 : Value} (g1 : z_kd S h0 = 11) (g2 : z_kd S (z_rv S h0 5) = 6) (kt : (I (z_rv S h0 5) 1) < x3 → Go d i_X10_readRows 144 [.ref h0, .int x1, .int x2, .int x3, v4, v5, v6] [] S I J Q) (kf : ¬ (I (z_rv S h0 5) 1) < x3 → Go d i_X10_readRows 15 [.ref h0, .int x1, .int x2, .int x3, v4, v5, v6] [] S I J Q) : Go d i_X10_readRows 4 [.ref h0, .int x1, .int x2, .int x3, v4, v5, v6] [] S I J Q := by
  have h := (And.intro g1 (And.intro g2 (Go.ite kt kf)))
  exact Go.n tb_X10_readRows 5 h
theorem b_X10_readRows_15 {d : Nat} {S : zS} {I : zI} {J : zJ} {Q : zQ} {h0 : Nat} {x1 : Int32} {x2 : Int32} {x3 : Int32} {v4 : Value} {v5 : Value} {v6 : Value} (kt : x2 = (0 : Int32) → Go d i_X10_readRows 144 [.ref h0, .int x1, .int x2, .int x3, v4, v5, v6] [] S I J Q) (kf : ¬ x2 = (0 : Int32) → Go d i_X10_readRows 19 [.ref h0, .int x1, .int x2, .int x3, v4, v5, v6] [] S I J Q) : Go d i_X10_readRows 15 [.ref h0, .int x1, .int x2, .int x3, v4, v5, v6] [] S I J Q := by
  have h := (Go.ite kt kf)
  exact Go.n tb_X10_readRows 2 h
theorem b_X10_readRows_19 {d : Nat} {S : zS} {I : zI} {J : zJ} {Q : zQ} {h0 : Nat} {x1 : Int32} {x2 : Int32} {x3 : Int32} {v4 : Value} {v5 : Value} {v6 : Value} (g1 : z_kd S h0 = 11) (g2 : z_kd S (z_rv S h0 5) = 6) (g3 : z_kd S h0 = 11) (g4 : z_kd S (z_rv S h0 5) = 6) (g5 : z_kd S h0 = 11) (g6 : z_kd S (z_rv S h0 5) = 6) (kt : ¬ (I (z_rv S h0 5) 4) = (2 : Int32) → Go d i_X10_readRows 61 [.ref h0, .int x1, .int x2, .int x3, .int (I (z_rv S h0 5) 2), .int ((I (z_rv S h0 5) 3) - (I (z_rv S h0 5) 2)), v6] [] S I J Q) (kf : (I (z_rv S h0 5) 4) = (2 : Int32) → Go d i_X10_readRows 51 [.ref h0, .int x1, .int x2, .int x3, .int (I (z_rv S h0 5) 2), .int ((I (z_rv S h0 5) 3) - (I (z_rv S h0 5) 2)), v6] [] S I J Q) : Go d i_X10_readRows 19 [.ref h0, .int x1, .int x2, .int x3, v4, v5, v6] [] S I J Q := by
  have h := (And.intro g1 (And.intro g2 (And.intro g3 (And.intro g4 (And.intro g5 (And.intro g6 (Go.eti kt kf)))))))
  exact Go.n tb_X10_readRows 15 h
theorem b_X10_readRows_51 {d : Nat} {S : zS} {I : zI} {J : zJ} {Q : zQ} {h0 : Nat} {x1 : Int32} {x2 : Int32} {x3 : Int32} {x4 : Int32} {x5 : Int32} {v6 : Value} (g1 : z_kd S h0 = 11) (g2 : z_kd S (z_rv S h0 5) = 6) (kk : z_wp d i_X5_row [.ref (z_rv S h0 5)] S I J (fun vv SS II JJ => Go d i_X10_readRows 58 [.ref h0, .int x1, .int x2, .int x3, .int x4, .int x5, v6] (vv.toList ++ []) SS II JJ Q)) : Go d i_X10_readRows 51 [.ref h0, .int x1, .int x2, .int x3, .int x4, .int x5, v6] [] S I J Q := by
  have h := (And.intro g1 (And.intro g2 kk))
  exact Go.n tb_X10_readRows 3 h
theorem b_X10_readRows_58 {d : Nat} {S : zS} {I : zI} {J : zJ} {Q : zQ} {h0 : Nat} {x1 : Int32} {x2 : Int32} {x3 : Int32} {x4 : Int32} {x5 : Int32} {v6 : Value} {y0 : Int32} (g1 : z_kd S h0 = 11) (g2 : z_kd S (z_rv S h0 5) = 6) (kt : ¬ (I (z_rv S h0 5) 4) = (2 : Int32) → Go d i_X10_readRows 80 [.ref h0, .int x1, .int x2, .int x3, .int x4, .int x5, .int y0] [.ref h0] S I J Q) (kf : (I (z_rv S h0 5) 4) = (2 : Int32) → Go d i_X10_readRows 76 [.ref h0, .int x1, .int x2, .int x3, .int x4, .int x5, .int y0] [.ref h0] S I J Q) : Go d i_X10_readRows 58 [.ref h0, .int x1, .int x2, .int x3, .int x4, .int x5, v6] [.int y0] S I J Q := by
  have h := (And.intro g1 (And.intro g2 (Go.eti kt kf)))
  exact Go.n tb_X10_readRows 8 h
theorem b_X10_readRows_61 {d : Nat} {S : zS} {I : zI} {J : zJ} {Q : zQ} {h0 : Nat} {x1 : Int32} {x2 : Int32} {x3 : Int32} {x4 : Int32} {x5 : Int32} {v6 : Value} (g1 : z_kd S h0 = 11) (g2 : z_kd S (z_rv S h0 5) = 6) (kt : ¬ (I (z_rv S h0 5) 4) = (2 : Int32) → Go d i_X10_readRows 80 [.ref h0, .int x1, .int x2, .int x3, .int x4, .int x5, .int (0 : Int32)] [.ref h0] S I J Q) (kf : (I (z_rv S h0 5) 4) = (2 : Int32) → Go d i_X10_readRows 76 [.ref h0, .int x1, .int x2, .int x3, .int x4, .int x5, .int (0 : Int32)] [.ref h0] S I J Q) : Go d i_X10_readRows 61 [.ref h0, .int x1, .int x2, .int x3, .int x4, .int x5, v6] [] S I J Q := by
  have h := (And.intro g1 (And.intro g2 (Go.eti kt kf)))
  exact Go.n tb_X10_readRows 8 h
theorem b_X10_readRows_76 {d : Nat} {S : zS} {I : zI} {J : zJ} {Q : zQ} {h0 : Nat} {x1 : Int32} {x2 : Int32} {x3 : Int32} {x4 : Int32} {x5 : Int32} {x6 : Int32} {q0 : Nat} (g1 : z_kd S q0 = 11) (kk : z_wp d i_X10_take [.ref q0, .int (1 : Int32)] S I J (fun vv SS II JJ => Go d i_X10_readRows 84 [.ref h0, .int x1, .int x2, .int x3, .int x4, .int x5, .int x6] (vv.toList ++ []) SS II JJ Q)) : Go d i_X10_readRows 76 [.ref h0, .int x1, .int x2, .int x3, .int x4, .int x5, .int x6] [.ref q0] S I J Q := by
  have h := (And.intro g1 kk)
  exact Go.n tb_X10_readRows 3 h
theorem b_X10_readRows_80 {d : Nat} {S : zS} {I : zI} {J : zJ} {Q : zQ} {h0 : Nat} {x1 : Int32} {x2 : Int32} {x3 : Int32} {x4 : Int32} {x5 : Int32} {x6 : Int32} {q0 : Nat} (g1 : z_kd S q0 = 11) (kk : z_wp d i_X10_take [.ref q0, .int (0 : Int32)] S I J (fun vv SS II JJ => Go d i_X10_readRows 84 [.ref h0, .int x1, .int x2, .int x3, .int x4, .int x5, .int x6] (vv.toList ++ []) SS II JJ Q)) : Go d i_X10_readRows 80 [.ref h0, .int x1, .int x2, .int x3, .int x4, .int x5, .int x6] [.ref q0] S I J Q := by
  have h := (And.intro g1 kk)
  exact Go.n tb_X10_readRows 2 h
theorem b_X10_readRows_84 {d : Nat} {S : zS} {I : zI} {J : zJ} {Q : zQ} {h0 : Nat} {x1 : Int32} {x2 : Int32} {x3 : Int32} {x4 : Int32} {x5 : Int32} {x6 : Int32} {y0 : Int32} (kt : ¬ y0 = (0 : Int32) → Go d i_X10_readRows 89 [.ref h0, .int x1, .int x2, .int x3, .int x4, .int x5, .int x6] [] S I J Q) (kf : y0 = (0 : Int32) → Go d i_X10_readRows 87 [.ref h0, .int x1, .int x2, .int x3, .int x4, .int x5, .int x6] [] S I J Q) : Go d i_X10_readRows 84 [.ref h0, .int x1, .int x2, .int x3, .int x4, .int x5, .int x6] [.int y0] S I J Q := by
  have h := (Go.eti kt kf)
  exact Go.n tb_X10_readRows 1 h
theorem b_X10_readRows_87 {d : Nat} {S : zS} {I : zI} {J : zJ} {Q : zQ} {h0 : Nat} {x1 : Int32} {x2 : Int32} {x3 : Int32} {x4 : Int32} {x5 : Int32} {x6 : Int32} (g1 : z_fit 3 (0 : Int32)) (kk : Q (some (.int (0 : Int32))) S I J) : Go d i_X10_readRows 87 [.ref h0, .int x1, .int x2, .int x3, .int x4, .int x5, .int x6] [] S I J Q := by
  have h := (And.intro g1 kk)
  exact Go.n tb_X10_readRows 2 h
theorem b_X10_readRows_89 {d : Nat} {S : zS} {I : zI} {J : zJ} {Q : zQ} {h0 : Nat} {x1 : Int32} {x2 : Int32} {x3 : Int32} {x4 : Int32} {x5 : Int32} {x6 : Int32} (kt : x6 = (-1 : Int32) → Go d i_X10_readRows 109 [.ref h0, .int x1, .int x2, .int x3, .int x4, .int x5, .int x6] [] S I J Q) (kf : ¬ x6 = (-1 : Int32) → Go d i_X10_readRows 95 [.ref h0, .int x1, .int x2, .int x3, .int x4, .int x5, .int x6] [] S I J Q) : Go d i_X10_readRows 89 [.ref h0, .int x1, .int x2, .int x3, .int x4, .int x5, .int x6] [] S I J Q := by
  have h := (Go.ite kt kf)
  exact Go.n tb_X10_readRows 3 h
theorem b_X10_readRows_95 {d : Nat} {S : zS} {I : zI} {J : zJ} {Q : zQ} {h0 : Nat} {x1 : Int32} {x2 : Int32} {x3 : Int32} {x4 : Int32} {x5 : Int32} {x6 : Int32} (g1 : z_kd S h0 = 11) (g2 : z_kd S (z_rv S h0 6) = 3) (kk : z_wp d i_X2_addRow [.ref (z_rv S h0 6), .int x6, .int x5] S I J (fun vv SS II JJ => Go d i_X10_readRows 106 [.ref h0, .int x1, .int x2, .int x3, .int x4, .int x5, .int x6] (vv.toList ++ []) SS II JJ Q)) : Go d i_X10_readRows 95 [.ref h0, .int x1, .int x2, .int x3, .int x4, .int x5, .int x6] [] S I J Q := by
  have h := (And.intro g1 (And.intro g2 kk))
  exact Go.n tb_X10_readRows 5 h
theorem b_X10_readRows_106 {d : Nat} {S : zS} {I : zI} {J : zJ} {Q : zQ} {h0 : Nat} {x1 : Int32} {x2 : Int32} {x3 : Int32} {x4 : Int32} {x5 : Int32} {x6 : Int32} {y0 : Int32} (kt : ¬ y0 = (0 : Int32) → Go d i_X10_readRows 117 [.ref h0, .int x1, .int x2, .int x3, .int x4, .int x5, .int x6] [] S I J Q) (kf : y0 = (0 : Int32) → Go d i_X10_readRows 109 [.ref h0, .int x1, .int x2, .int x3, .int x4, .int x5, .int x6] [] S I J Q) : Go d i_X10_readRows 106 [.ref h0, .int x1, .int x2, .int x3, .int x4, .int x5, .int x6] [.int y0] S I J Q := by
  have h := (Go.eti kt kf)
  exact Go.n tb_X10_readRows 1 h
theorem b_X10_readRows_109 {d : Nat} {S : zS} {I : zI} {J : zJ} {Q : zQ} {h0 : Nat} {x1 : Int32} {x2 : Int32} {x3 : Int32} {x4 : Int32} {x5 : Int32} {x6 : Int32} (g1 : z_kd S h0 = 11) (kk : z_wp d i_X10_fail [.ref h0, .int (2 : Int32), .int x4] S I J (fun vv SS II JJ => Go d i_X10_readRows 116 [.ref h0, .int x1, .int x2, .int x3, .int x4, .int x5, .int x6] (vv.toList ++ []) SS II JJ Q)) : Go d i_X10_readRows 109 [.ref h0, .int x1, .int x2, .int x3, .int x4, .int x5, .int x6] [] S I J Q := by
  have h := (And.intro g1 kk)
  exact Go.n tb_X10_readRows 4 h
theorem b_X10_readRows_116 {d : Nat} {S : zS} {I : zI} {J : zJ} {Q : zQ} {h0 : Nat} {x1 : Int32} {x2 : Int32} {x3 : Int32} {x4 : Int32} {x5 : Int32} {x6 : Int32} {y0 : Int32} (g1 : z_fit 3 y0) (kk : Q (some (.int y0)) S I J) : Go d i_X10_readRows 116 [.ref h0, .int x1, .int x2, .int x3, .int x4, .int x5, .int x6] [.int y0] S I J Q := by
  have h := (And.intro g1 kk)
  exact Go.n tb_X10_readRows 1 h
theorem b_X10_readRows_117 {d : Nat} {S : zS} {I : zI} {J : zJ} {Q : zQ} {h0 : Nat} {x1 : Int32} {x2 : Int32} {x3 : Int32} {x4 : Int32} {x5 : Int32} {x6 : Int32} (g1 : z_kd S h0 = 11) (g2 : z_kd S (z_rv S h0 5) = 6) (kk : z_wp d i_X5_isSign [.ref (z_rv S h0 5), .int (44 : Int32)] S I J (fun vv SS II JJ => Go d i_X10_readRows 126 [.ref h0, .int x1, .int x2, .int x3, .int x4, .int x5, .int x6] (vv.toList ++ []) SS II JJ Q)) : Go d i_X10_readRows 117 [.ref h0, .int x1, .int x2, .int x3, .int x4, .int x5, .int x6] [] S I J Q := by
  have h := (And.intro g1 (And.intro g2 kk))
  exact Go.n tb_X10_readRows 4 h
theorem b_X10_readRows_126 {d : Nat} {S : zS} {I : zI} {J : zJ} {Q : zQ} {h0 : Nat} {x1 : Int32} {x2 : Int32} {x3 : Int32} {x4 : Int32} {x5 : Int32} {x6 : Int32} {y0 : Int32} (kt : y0 = (0 : Int32) → Go d i_X10_readRows 138 [.ref h0, .int x1, .int y0, .int x3, .int x4, .int x5, .int x6] [] S I J Q) (kf : ¬ y0 = (0 : Int32) → Go d i_X10_readRows 131 [.ref h0, .int x1, .int y0, .int x3, .int x4, .int x5, .int x6] [] S I J Q) : Go d i_X10_readRows 126 [.ref h0, .int x1, .int x2, .int x3, .int x4, .int x5, .int x6] [.int y0] S I J Q := by
  have h := (Go.ite kt kf)
  exact Go.n tb_X10_readRows 3 h
theorem b_X10_readRows_131 {d : Nat} {S : zS} {I : zI} {J : zJ} {Q : zQ} {h0 : Nat} {x1 : Int32} {x2 : Int32} {x3 : Int32} {x4 : Int32} {x5 : Int32} {x6 : Int32} (g1 : z_kd S h0 = 11) (g2 : z_kd S (z_rv S h0 5) = 6) (kk : z_wp d i_X5_advance [.ref (z_rv S h0 5)] S I J (fun vv SS II JJ => Go d i_X10_readRows 138 [.ref h0, .int x1, .int x2, .int x3, .int x4, .int x5, .int x6] (vv.toList ++ []) SS II JJ Q)) : Go d i_X10_readRows 131 [.ref h0, .int x1, .int x2, .int x3, .int x4, .int x5, .int x6] [] S I J Q := by
  have h := (And.intro g1 (And.intro g2 kk))
  exact Go.n tb_X10_readRows 3 h
theorem b_X10_readRows_138 {d : Nat} {S : zS} {I : zI} {J : zJ} {Q : zQ} {h0 : Nat} {x1 : Int32} {x2 : Int32} {x3 : Int32} {x4 : Int32} {x5 : Int32} {x6 : Int32} (kk : Go d i_X10_readRows 4 [.ref h0, .int x1, .int x2, .int (x3 + (1 : Int32)), .int x4, .int x5, .int x6] [] S I J Q) : Go d i_X10_readRows 138 [.ref h0, .int x1, .int x2, .int x3, .int x4, .int x5, .int x6] [] S I J Q := by
  have h := kk
  exact Go.n tb_X10_readRows 2 h
theorem b_X10_readRows_144 {d : Nat} {S : zS} {I : zI} {J : zJ} {Q : zQ} {h0 : Nat} {x1 : Int32} {x2 : Int32} {x3 : Int32} {v4 : Value} {v5 : Value} {v6 : Value} (g1 : z_kd S h0 = 11) (g2 : z_kd S (z_rv S h0 6) = 3) (kk : z_wp d i_X2_findElements [.ref (z_rv S h0 6)] S I J (fun vv SS II JJ => Go d i_X10_readRows 151 [.ref h0, .int x1, .int x2, .int x3, v4, v5, v6] (vv.toList ++ []) SS II JJ Q)) : Go d i_X10_readRows 144 [.ref h0, .int x1, .int x2, .int x3, v4, v5, v6] [] S I J Q := by
  have h := (And.intro g1 (And.intro g2 kk))
  exact Go.n tb_X10_readRows 3 h
theorem b_X10_readRows_151 {d : Nat} {S : zS} {I : zI} {J : zJ} {Q : zQ} {h0 : Nat} {x1 : Int32} {x2 : Int32} {x3 : Int32} {v4 : Value} {v5 : Value} {v6 : Value} {y0 : Int32} (kt : ¬ y0 = (0 : Int32) → Go d i_X10_readRows 163 [.ref h0, .int x1, .int x2, .int x3, v4, v5, v6] [] S I J Q) (kf : y0 = (0 : Int32) → Go d i_X10_readRows 154 [.ref h0, .int x1, .int x2, .int x3, v4, v5, v6] [] S I J Q) : Go d i_X10_readRows 151 [.ref h0, .int x1, .int x2, .int x3, v4, v5, v6] [.int y0] S I J Q := by
  have h := (Go.eti kt kf)
  exact Go.n tb_X10_readRows 1 h
theorem b_X10_readRows_154 {d : Nat} {S : zS} {I : zI} {J : zJ} {Q : zQ} {h0 : Nat} {x1 : Int32} {x2 : Int32} {x3 : Int32} {v4 : Value} {v5 : Value} {v6 : Value} (g1 : z_kd S h0 = 11) (kk : z_wp d i_X10_fail [.ref h0, .int (3 : Int32), .int x1] S I J (fun vv SS II JJ => Go d i_X10_readRows 160 [.ref h0, .int x1, .int x2, .int x3, v4, v5, v6] (vv.toList ++ []) SS II JJ Q)) : Go d i_X10_readRows 154 [.ref h0, .int x1, .int x2, .int x3, v4, v5, v6] [] S I J Q := by
  have h := (And.intro g1 kk)
  exact Go.n tb_X10_readRows 4 h
theorem b_X10_readRows_160 {d : Nat} {S : zS} {I : zI} {J : zJ} {Q : zQ} {h0 : Nat} {x1 : Int32} {x2 : Int32} {x3 : Int32} {v4 : Value} {v5 : Value} {v6 : Value} {y0 : Int32} (kt : y0 = (0 : Int32) → Go d i_X10_readRows 167 [.ref h0, .int x1, .int x2, .int x3, v4, v5, v6] [] S I J Q) (kf : ¬ y0 = (0 : Int32) → Go d i_X10_readRows 163 [.ref h0, .int x1, .int x2, .int x3, v4, v5, v6] [] S I J Q) : Go d i_X10_readRows 160 [.ref h0, .int x1, .int x2, .int x3, v4, v5, v6] [.int y0] S I J Q := by
  have h := (Go.ite kt kf)
  exact Go.n tb_X10_readRows 1 h
theorem b_X10_readRows_163 {d : Nat} {S : zS} {I : zI} {J : zJ} {Q : zQ} {h0 : Nat} {x1 : Int32} {x2 : Int32} {x3 : Int32} {v4 : Value} {v5 : Value} {v6 : Value} (g1 : z_fit 3 (1 : Int32)) (kk : Q (some (.int (1 : Int32))) S I J) : Go d i_X10_readRows 163 [.ref h0, .int x1, .int x2, .int x3, v4, v5, v6] [] S I J Q := by
  have h := (And.intro g1 kk)
  exact Go.n tb_X10_readRows 3 h
theorem b_X10_readRows_167 {d : Nat} {S : zS} {I : zI} {J : zJ} {Q : zQ} {h0 : Nat} {x1 : Int32} {x2 : Int32} {x3 : Int32} {v4 : Value} {v5 : Value} {v6 : Value} (g1 : z_fit 3 (0 : Int32)) (kk : Q (some (.int (0 : Int32))) S I J) : Go d i_X10_readRows 167 [.ref h0, .int x1, .int x2, .int x3, v4, v5, v6] [] S I J Q := by
  have h := (And.intro g1 kk)
  exact Go.n tb_X10_readRows 2 h

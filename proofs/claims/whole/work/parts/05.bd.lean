theorem w_X11_init {d : Nat} {S : zS} {I : zI} {J : zJ} {Q : zQ} {h0 : Nat} (h : Go d i_X11_init 0 [.ref h0, .retAddr 0] [] S I J Q) : z_wp (d + 1) i_X11_init [.ref h0] S I J Q := Go.wp (Nat.le_of_ble_eq_true rfl) h
theorem e_X11_init {d : Nat} {S S2 : zS} {I I2 : zI} {J J2 : zJ} {r : Option Value} {h0 : Nat} (h : Go d i_X11_init 0 [.ref h0, .retAddr 0] [] S I J (z_eq r S2 I2 J2)) : z_ev (d + 1) i_X11_init [.ref h0] S I J r S2 I2 J2 := Go.ev (Nat.le_of_ble_eq_true rfl) h
theorem b_X11_init_0 {d : Nat} {S : zS} {I : zI} {J : zJ} {Q : zQ} {h0 : Nat} {v1 : Value} (g1 : ¬ h0 = 0) (g2 : ¬ (300 : Int32) < 0 ∧ (Int32.toNatClampNeg (300 : Int32)) * 4 ≤ 536870912) (g3 : z_kd (z_new S 101 (Int32.toNatClampNeg (300 : Int32)) (Int32.toNatClampNeg (300 : Int32))) h0 = 12) (kk : Go d i_X11_init 13 [.ref h0, v1] [] (z_setR (z_new S 101 (Int32.toNatClampNeg (300 : Int32)) (Int32.toNatClampNeg (300 : Int32))) h0 0 (z_sz S + 1)) (z_ur I (z_sz S + 1) (fun _ => 0)) J Q) : Go d i_X11_init 0 [.ref h0, v1] [] S I J Q := by
  have h := (And.intro g1 (And.intro g2 (And.intro g3 kk)))
  exact Go.n tb_X11_init 6 h
theorem b_X11_init_13 {d : Nat} {S : zS} {I : zI} {J : zJ} {Q : zQ} {h0 : Nat} {v1 : Value} (g1 : z_kd S h0 = 12) (kk : Go d i_X11_init 18 [.ref h0, v1] [] S (z_u2 I h0 1 (0 : Int32)) J Q) : Go d i_X11_init 13 [.ref h0, v1] [] S I J Q := by
  have h := (And.intro g1 kk)
  exact Go.n tb_X11_init 3 h
theorem b_X11_init_18 {d : Nat} {S : zS} {I : zI} {J : zJ} {Q : zQ} {h0 : Nat} {v1 : Value} (g1 : z_kd (z_new S 11 0 7) h0 = 12) (g2 : ¬ (z_sz S + 1) = 0) (kk : z_wp d i_X10_init [.ref (z_sz S + 1), .ref (z_rv (z_new S 11 0 7) h0 0)] (z_new S 11 0 7) (z_ur I (z_sz S + 1) (fun _ => 0)) (z_ur J (z_sz S + 1) (fun _ => 0)) (fun vv SS II JJ => Go d i_X11_init 30 [.ref h0, v1] (vv.toList ++ [.ref (z_sz S + 1), .ref h0]) SS II JJ Q)) : Go d i_X11_init 18 [.ref h0, v1] [] S I J Q := by
  have h := (And.intro g1 (And.intro g2 kk))
  exact Go.n tb_X11_init 6 h
theorem b_X11_init_30 {d : Nat} {S : zS} {I : zI} {J : zJ} {Q : zQ} {h0 : Nat} {v1 : Value} {q0 : Nat} {q1 : Nat} (g1 : z_kd S q0 = 12) (kk : Go d i_X11_init 33 [.ref h0, v1] [] (z_setR S q0 2 q1) I J Q) : Go d i_X11_init 30 [.ref h0, v1] [.ref q1, .ref q0] S I J Q := by
  have h := (And.intro g1 kk)
  exact Go.n tb_X11_init 1 h
theorem b_X11_init_33 {d : Nat} {S : zS} {I : zI} {J : zJ} {Q : zQ} {h0 : Nat} {v1 : Value} (g1 : z_kd S h0 = 12) (kk : Go d i_X11_init 38 [.ref h0, v1] [] S (z_u2 I h0 3 (0 : Int32)) J Q) : Go d i_X11_init 33 [.ref h0, v1] [] S I J Q := by
  have h := (And.intro g1 kk)
  exact Go.n tb_X11_init 3 h
theorem b_X11_init_38 {d : Nat} {S : zS} {I : zI} {J : zJ} {Q : zQ} {h0 : Nat} {v1 : Value} (g1 : z_kd S h0 = 12) (kk : Go d i_X11_init 43 [.ref h0, v1] [] S (z_u2 I h0 4 (-1 : Int32)) J Q) : Go d i_X11_init 38 [.ref h0, v1] [] S I J Q := by
  have h := (And.intro g1 kk)
  exact Go.n tb_X11_init 3 h
theorem b_X11_init_43 {d : Nat} {S : zS} {I : zI} {J : zJ} {Q : zQ} {h0 : Nat} {v1 : Value} {I1 : zI} {J2 : zJ} {S3 : zS} {I4 : zI} {I5 : zI} (g1 : ¬ (1 : Int32) < 0 ∧ (Int32.toNatClampNeg (1 : Int32)) * 4 ≤ 536870912) (eI1 : I1 = z_ur (z_ur (z_ur I (z_sz S + 1) (fun _ => 0)) (z_sz (z_new S 2 0 12) + 1) (fun _ => 0)) (z_sz (z_new (z_new S 2 0 12) 100 (Int32.toNatClampNeg (1 : Int32)) (Int32.toNatClampNeg (1 : Int32))) + 1) (fun _ => 0)) (eJ2 : J2 = z_ur (z_ur J (z_sz S + 1) (fun _ => 0)) (z_sz (z_new (z_new S 2 0 12) 100 (Int32.toNatClampNeg (1 : Int32)) (Int32.toNatClampNeg (1 : Int32))) + 1) (fun _ => 0)) (g4 : ¬ (1 : Int32) < 0 ∧ (Int32.toNatClampNeg (1 : Int32)) * 4 ≤ 536870912) (eS3 : S3 = z_new (z_new (z_new (z_new S 2 0 12) 100 (Int32.toNatClampNeg (1 : Int32)) (Int32.toNatClampNeg (1 : Int32))) 7 0 3) 100 (Int32.toNatClampNeg (1 : Int32)) (Int32.toNatClampNeg (1 : Int32))) (eI4 : I4 = z_ur I1 (z_sz (z_new (z_new (z_new S 2 0 12) 100 (Int32.toNatClampNeg (1 : Int32)) (Int32.toNatClampNeg (1 : Int32))) 7 0 3) + 1) (fun _ => 0)) (g7 : z_kd S3 (z_sz (z_new (z_new (z_new S 2 0 12) 100 (Int32.toNatClampNeg (1 : Int32)) (Int32.toNatClampNeg (1 : Int32))) 7 0 3) + 1) = 100 ∧ vp_in (0 : Int32) (z_ln S3 (z_sz (z_new (z_new (z_new S 2 0 12) 100 (Int32.toNatClampNeg (1 : Int32)) (Int32.toNatClampNeg (1 : Int32))) 7 0 3) + 1))) (eI5 : I5 = z_u2 I4 (z_sz (z_new (z_new (z_new S 2 0 12) 100 (Int32.toNatClampNeg (1 : Int32)) (Int32.toNatClampNeg (1 : Int32))) 7 0 3) + 1) (Int32.toNatClampNeg (0 : Int32)) (1 : Int32)) (g9 : ¬ (z_sz (z_new (z_new S 2 0 12) 100 (Int32.toNatClampNeg (1 : Int32)) (Int32.toNatClampNeg (1 : Int32))) + 1) = 0) (kk : z_wp d i_X6_init [.ref (z_sz (z_new (z_new S 2 0 12) 100 (Int32.toNatClampNeg (1 : Int32)) (Int32.toNatClampNeg (1 : Int32))) + 1), .ref (z_sz (z_new (z_new (z_new S 2 0 12) 100 (Int32.toNatClampNeg (1 : Int32)) (Int32.toNatClampNeg (1 : Int32))) 7 0 3) + 1), .ref 0, .int (0 : Int32)] S3 I5 J2 (fun vv SS II JJ => Go d i_X11_init 67 [.ref h0, v1] (vv.toList ++ [.ref (z_sz (z_new (z_new S 2 0 12) 100 (Int32.toNatClampNeg (1 : Int32)) (Int32.toNatClampNeg (1 : Int32))) + 1), .ref (z_sz (z_new S 2 0 12) + 1), .int (1 : Int32), .ref (z_sz S + 1), .ref (z_sz S + 1)]) SS II JJ Q)) : Go d i_X11_init 43 [.ref h0, v1] [] S I J Q := by
  subst eI5
  subst eI4
  subst eS3
  subst eJ2
  subst eI1
  have h := (And.intro g1 (And.intro g4 (And.intro g7 (And.intro g9 kk))))
  exact Go.n tb_X11_init 16 h
theorem b_X11_init_67 {d : Nat} {S : zS} {I : zI} {J : zJ} {Q : zQ} {h0 : Nat} {v1 : Value} {q0 : Nat} {q1 : Nat} {y2 : Int32} {q3 : Nat} {q4 : Nat} (g1 : ¬ (1 : Int32) < 0 ∧ (Int32.toNatClampNeg (1 : Int32)) * 4 ≤ 536870912) (g2 : ¬ q1 = 0) (kk : z_wp d i_X1_init [.ref q1, .int y2, .ref q3, .ref q4, .ref (z_sz S + 1), .int (0 : Int32)] (z_new S 100 (Int32.toNatClampNeg (1 : Int32)) (Int32.toNatClampNeg (1 : Int32))) (z_ur I (z_sz S + 1) (fun _ => 0)) J (fun vv SS II JJ => Go d i_X11_init 74 [.ref h0, v1] (vv.toList ++ [.ref q0]) SS II JJ Q)) : Go d i_X11_init 67 [.ref h0, v1] [.ref q4, .ref q3, .int y2, .ref q1, .ref q0] S I J Q := by
  have h := (And.intro g1 (And.intro g2 kk))
  exact Go.n tb_X11_init 4 h
theorem b_X11_init_74 {d : Nat} {S : zS} {I : zI} {J : zJ} {Q : zQ} {h0 : Nat} {v1 : Value} {q0 : Nat} (g1 : ¬ q0 = 0) (g2 : ¬ (2 : Int32) < 0 ∧ (Int32.toNatClampNeg (2 : Int32)) * 4 ≤ 536870912) (g3 : z_kd (z_new S 102 (Int32.toNatClampNeg (2 : Int32)) (Int32.toNatClampNeg (2 : Int32))) h0 = 12) (kk : Go d i_X11_init 83 [.ref h0, .ref q0] [] (z_setR (z_new S 102 (Int32.toNatClampNeg (2 : Int32)) (Int32.toNatClampNeg (2 : Int32))) h0 5 (z_sz S + 1)) I J Q) : Go d i_X11_init 74 [.ref h0, v1] [.ref q0] S I J Q := by
  have h := (And.intro g1 (And.intro g2 (And.intro g3 kk)))
  exact Go.n tb_X11_init 5 h
theorem b_X11_init_83 {d : Nat} {S : zS} {I : zI} {J : zJ} {Q : zQ} {h0 : Nat} {h1 : Nat} (g1 : z_kd S h0 = 12) (g2 : ¬ (z_sz S + 1) = 0) (kk : z_wp d i_X8_init [.ref (z_sz S + 1), .ref h1] (z_new S 9 0 11) (z_ur I (z_sz S + 1) (fun _ => 0)) (z_ur J (z_sz S + 1) (fun _ => 0)) (fun vv SS II JJ => Go d i_X11_init 96 [.ref h0, .ref h1] (vv.toList ++ [.ref (z_sz S + 1), .int (0 : Int32), .ref (z_rv S h0 5)]) SS II JJ Q)) : Go d i_X11_init 83 [.ref h0, .ref h1] [] S I J Q := by
  have h := (And.intro g1 (And.intro g2 kk))
  exact Go.n tb_X11_init 7 h
theorem b_X11_init_96 {d : Nat} {S : zS} {I : zI} {J : zJ} {Q : zQ} {h0 : Nat} {h1 : Nat} {q0 : Nat} {y1 : Int32} {q2 : Nat} (g1 : z_isR (z_kd S q0) = true ∧ vp_in y1 (z_ln S q0) ∧ z_kd S q2 = z_el (z_kd S q0)) (g2 : z_kd (z_setR S q0 (Int32.toNatClampNeg y1) q2) h0 = 12) (g3 : ¬ (z_sz (z_setR S q0 (Int32.toNatClampNeg y1) q2) + 1) = 0) (kk : z_wp d i_X8_init [.ref (z_sz (z_setR S q0 (Int32.toNatClampNeg y1) q2) + 1), .ref h1] (z_new (z_setR S q0 (Int32.toNatClampNeg y1) q2) 9 0 11) (z_ur I (z_sz (z_setR S q0 (Int32.toNatClampNeg y1) q2) + 1) (fun _ => 0)) (z_ur J (z_sz (z_setR S q0 (Int32.toNatClampNeg y1) q2) + 1) (fun _ => 0)) (fun vv SS II JJ => Go d i_X11_init 110 [.ref h0, .ref h1] (vv.toList ++ [.ref (z_sz (z_setR S q0 (Int32.toNatClampNeg y1) q2) + 1), .int (1 : Int32), .ref (z_rv (z_setR S q0 (Int32.toNatClampNeg y1) q2) h0 5)]) SS II JJ Q)) : Go d i_X11_init 96 [.ref h0, .ref h1] [.ref q2, .int y1, .ref q0] S I J Q := by
  have h := (And.intro g1 (And.intro g2 (And.intro g3 kk)))
  exact Go.n tb_X11_init 8 h
theorem b_X11_init_110 {d : Nat} {S : zS} {I : zI} {J : zJ} {Q : zQ} {h0 : Nat} {h1 : Nat} {q0 : Nat} {y1 : Int32} {q2 : Nat} (g1 : z_isR (z_kd S q0) = true ∧ vp_in y1 (z_ln S q0) ∧ z_kd S q2 = z_el (z_kd S q0)) (g2 : ¬ (z_sz (z_setR S q0 (Int32.toNatClampNeg y1) q2) + 1) = 0) (kk : z_wp d i_X4_init [.ref (z_sz (z_setR S q0 (Int32.toNatClampNeg y1) q2) + 1)] (z_new (z_setR S q0 (Int32.toNatClampNeg y1) q2) 5 0 5) (z_ur I (z_sz (z_setR S q0 (Int32.toNatClampNeg y1) q2) + 1) (fun _ => 0)) (z_ur J (z_sz (z_setR S q0 (Int32.toNatClampNeg y1) q2) + 1) (fun _ => 0)) (fun vv SS II JJ => Go d i_X11_init 119 [.ref h0, .ref h1] (vv.toList ++ [.ref (z_sz (z_setR S q0 (Int32.toNatClampNeg y1) q2) + 1), .ref h0]) SS II JJ Q)) : Go d i_X11_init 110 [.ref h0, .ref h1] [.ref q2, .int y1, .ref q0] S I J Q := by
  have h := (And.intro g1 (And.intro g2 kk))
  exact Go.n tb_X11_init 5 h
theorem b_X11_init_119 {d : Nat} {S : zS} {I : zI} {J : zJ} {Q : zQ} {h0 : Nat} {h1 : Nat} {q0 : Nat} {q1 : Nat} (g1 : z_kd S q0 = 12) (kk : Go d i_X11_init 122 [.ref h0, .ref h1] [] (z_setR S q0 6 q1) I J Q) : Go d i_X11_init 119 [.ref h0, .ref h1] [.ref q1, .ref q0] S I J Q := by
  have h := (And.intro g1 kk)
  exact Go.n tb_X11_init 1 h
theorem b_X11_init_122 {d : Nat} {S : zS} {I : zI} {J : zJ} {Q : zQ} {h0 : Nat} {h1 : Nat} (g1 : ¬ (z_sz S + 1) = 0) (kk : z_wp d i_X3_init [.ref (z_sz S + 1)] (z_new S 4 0 9) (z_ur I (z_sz S + 1) (fun _ => 0)) (z_ur J (z_sz S + 1) (fun _ => 0)) (fun vv SS II JJ => Go d i_X11_init 130 [.ref h0, .ref h1] (vv.toList ++ [.ref (z_sz S + 1), .ref h0]) SS II JJ Q)) : Go d i_X11_init 122 [.ref h0, .ref h1] [] S I J Q := by
  have h := (And.intro g1 kk)
  exact Go.n tb_X11_init 4 h
theorem b_X11_init_130 {d : Nat} {S : zS} {I : zI} {J : zJ} {Q : zQ} {h0 : Nat} {h1 : Nat} {q0 : Nat} {q1 : Nat} (g1 : z_kd S q0 = 12) (kk : Go d i_X11_init 133 [.ref h0, .ref h1] [] (z_setR S q0 7 q1) I J Q) : Go d i_X11_init 130 [.ref h0, .ref h1] [.ref q1, .ref q0] S I J Q := by
  have h := (And.intro g1 kk)
  exact Go.n tb_X11_init 1 h
theorem b_X11_init_133 {d : Nat} {S : zS} {I : zI} {J : zJ} {Q : zQ} {h0 : Nat} {h1 : Nat} (g1 : ¬ (z_sz S + 1) = 0) (kk : z_wp d i_X7_init [.ref (z_sz S + 1)] (z_new S 8 0 8) (z_ur I (z_sz S + 1) (fun _ => 0)) (z_ur J (z_sz S + 1) (fun _ => 0)) (fun vv SS II JJ => Go d i_X11_init 141 [.ref h0, .ref h1] (vv.toList ++ [.ref (z_sz S + 1), .ref h0]) SS II JJ Q)) : Go d i_X11_init 133 [.ref h0, .ref h1] [] S I J Q := by
  have h := (And.intro g1 kk)
  exact Go.n tb_X11_init 4 h
theorem b_X11_init_141 {d : Nat} {S : zS} {I : zI} {J : zJ} {Q : zQ} {h0 : Nat} {h1 : Nat} {q0 : Nat} {q1 : Nat} (g1 : z_kd S q0 = 12) (kk : Go d i_X11_init 144 [.ref h0, .ref h1] [] (z_setR S q0 8 q1) I J Q) : Go d i_X11_init 141 [.ref h0, .ref h1] [.ref q1, .ref q0] S I J Q := by
  have h := (And.intro g1 kk)
  exact Go.n tb_X11_init 1 h
theorem b_X11_init_144 {d : Nat} {S : zS} {I : zI} {J : zJ} {Q : zQ} {h0 : Nat} {h1 : Nat} (g1 : ¬ (z_sz S + 1) = 0) (kk : z_wp d i_X9_init [.ref (z_sz S + 1)] (z_new S 10 0 6) (z_ur I (z_sz S + 1) (fun _ => 0)) (z_ur J (z_sz S + 1) (fun _ => 0)) (fun vv SS II JJ => Go d i_X11_init 152 [.ref h0, .ref h1] (vv.toList ++ [.ref (z_sz S + 1), .ref h0]) SS II JJ Q)) : Go d i_X11_init 144 [.ref h0, .ref h1] [] S I J Q := by
  have h := (And.intro g1 kk)
  exact Go.n tb_X11_init 4 h
theorem b_X11_init_152 {d : Nat} {S : zS} {I : zI} {J : zJ} {Q : zQ} {h0 : Nat} {h1 : Nat} {q0 : Nat} {q1 : Nat} (g1 : z_kd S q0 = 12) (kk : Go d i_X11_init 155 [.ref h0, .ref h1] [] (z_setR S q0 9 q1) I J Q) : Go d i_X11_init 152 [.ref h0, .ref h1] [.ref q1, .ref q0] S I J Q := by
  have h := (And.intro g1 kk)
  exact Go.n tb_X11_init 1 h
theorem b_X11_init_155 {d : Nat} {S : zS} {I : zI} {J : zJ} {Q : zQ} {h0 : Nat} {h1 : Nat} (g1 : ¬ (20 : Int32) < 0 ∧ (Int32.toNatClampNeg (20 : Int32)) * 4 ≤ 536870912) (g2 : z_kd (z_new S 100 (Int32.toNatClampNeg (20 : Int32)) (Int32.toNatClampNeg (20 : Int32))) h0 = 12) (kk : Go d i_X11_init 163 [.ref h0, .ref h1] [] (z_setR (z_new S 100 (Int32.toNatClampNeg (20 : Int32)) (Int32.toNatClampNeg (20 : Int32))) h0 10 (z_sz S + 1)) (z_ur I (z_sz S + 1) (fun _ => 0)) J Q) : Go d i_X11_init 155 [.ref h0, .ref h1] [] S I J Q := by
  have h := (And.intro g1 (And.intro g2 kk))
  exact Go.n tb_X11_init 4 h
theorem b_X11_init_163 {d : Nat} {S : zS} {I : zI} {J : zJ} {Q : zQ} {h0 : Nat} {h1 : Nat} (g1 : ¬ (20 : Int32) < 0 ∧ (Int32.toNatClampNeg (20 : Int32)) * 4 ≤ 536870912) (g2 : z_kd (z_new S 100 (Int32.toNatClampNeg (20 : Int32)) (Int32.toNatClampNeg (20 : Int32))) h0 = 12) (kk : Go d i_X11_init 171 [.ref h0, .ref h1] [] (z_setR (z_new S 100 (Int32.toNatClampNeg (20 : Int32)) (Int32.toNatClampNeg (20 : Int32))) h0 11 (z_sz S + 1)) (z_ur I (z_sz S + 1) (fun _ => 0)) J Q) : Go d i_X11_init 163 [.ref h0, .ref h1] [] S I J Q := by
  have h := (And.intro g1 (And.intro g2 kk))
  exact Go.n tb_X11_init 4 h
theorem b_X11_init_171 {d : Nat} {S : zS} {I : zI} {J : zJ} {Q : zQ} {h0 : Nat} {h1 : Nat} (kk : Q none S I J) : Go d i_X11_init 171 [.ref h0, .ref h1] [] S I J Q := by
  have h := (And.intro trivial kk)
  exact Go.n tb_X11_init 1 h
theorem w_X11_feed {d : Nat} {S : zS} {I : zI} {J : zJ} {Q : zQ} {h0 : Nat} {x1 : Int32} {x2 : Int32} {x3 : Int32} {x4 : Int32} {x5 : Int32} (h : Go d i_X11_feed 0 [.ref h0, .int x1, .int x2, .int x3, .int x4, .int x5] [] S I J Q) : z_wp (d + 1) i_X11_feed [.ref h0, .int x1, .int x2, .int x3, .int x4, .int x5] S I J Q := Go.wp (Nat.le_of_ble_eq_true rfl) h
theorem e_X11_feed {d : Nat} {S S2 : zS} {I I2 : zI} {J J2 : zJ} {r : Option Value} {h0 : Nat} {x1 : Int32} {x2 : Int32} {x3 : Int32} {x4 : Int32} {x5 : Int32} (h : Go d i_X11_feed 0 [.ref h0, .int x1, .int x2, .int x3, .int x4, .int x5] [] S I J (z_eq r S2 I2 J2)) : z_ev (d + 1) i_X11_feed [.ref h0, .int x1, .int x2, .int x3, .int x4, .int x5] S I J r S2 I2 J2 := Go.ev (Nat.le_of_ble_eq_true rfl) h
theorem b_X11_feed_0 {d : Nat} {S : zS} {I : zI} {J : zJ} {Q : zQ} {h0 : Nat} {x1 : Int32} {x2 : Int32} {x3 : Int32} {x4 : Int32} {x5 : Int32} (g1 : z_kd S h0 = 12) (kt : ((I h0 1) + (20 : Int32)) ≤ (300 : Int32) → Go d i_X11_feed 16 [.ref h0, .int x1, .int x2, .int x3, .int x4, .int x5] [] S I J Q) (kf : ¬ ((I h0 1) + (20 : Int32)) ≤ (300 : Int32) → Go d i_X11_feed 13 [.ref h0, .int x1, .int x2, .int x3, .int x4, .int x5] [] S I J Q) : Go d i_X11_feed 0 [.ref h0, .int x1, .int x2, .int x3, .int x4, .int x5] [] S I J Q := by
  have h := (And.intro g1 (Go.ite kt kf))
  exact Go.n tb_X11_feed 6 h
theorem b_X11_feed_13 {d : Nat} {S : zS} {I : zI} {J : zJ} {Q : zQ} {h0 : Nat} {x1 : Int32} {x2 : Int32} {x3 : Int32} {x4 : Int32} {x5 : Int32} (kk : Q (some (.int (-4 : Int32))) S I J) : Go d i_X11_feed 13 [.ref h0, .int x1, .int x2, .int x3, .int x4, .int x5] [] S I J Q := by
  have h := (And.intro trivial kk)
  exact Go.n tb_X11_feed 2 h
theorem b_X11_feed_16 {d : Nat} {S : zS} {I : zI} {J : zJ} {Q : zQ} {h0 : Nat} {x1 : Int32} {x2 : Int32} {x3 : Int32} {x4 : Int32} {x5 : Int32} (g1 : z_kd S h0 = 12) (kk : z_wp d i_X11_putOnTape [.ref h0, .int x1] S I J (fun vv SS II JJ => Go d i_X11_feed 21 [.ref h0, .int x1, .int x2, .int x3, .int x4, .int x5] (vv.toList ++ []) SS II JJ Q)) : Go d i_X11_feed 16 [.ref h0, .int x1, .int x2, .int x3, .int x4, .int x5] [] S I J Q := by
  have h := (And.intro g1 kk)
  exact Go.n tb_X11_feed 3 h
theorem b_X11_feed_21 {d : Nat} {S : zS} {I : zI} {J : zJ} {Q : zQ} {h0 : Nat} {x1 : Int32} {x2 : Int32} {x3 : Int32} {x4 : Int32} {x5 : Int32} (g1 : z_kd S h0 = 12) (kk : z_wp d i_X11_putOnTape [.ref h0, .int x2] S I J (fun vv SS II JJ => Go d i_X11_feed 26 [.ref h0, .int x1, .int x2, .int x3, .int x4, .int x5] (vv.toList ++ []) SS II JJ Q)) : Go d i_X11_feed 21 [.ref h0, .int x1, .int x2, .int x3, .int x4, .int x5] [] S I J Q := by
  have h := (And.intro g1 kk)
  exact Go.n tb_X11_feed 3 h
theorem b_X11_feed_26 {d : Nat} {S : zS} {I : zI} {J : zJ} {Q : zQ} {h0 : Nat} {x1 : Int32} {x2 : Int32} {x3 : Int32} {x4 : Int32} {x5 : Int32} (g1 : z_kd S h0 = 12) (kk : z_wp d i_X11_putOnTape [.ref h0, .int x3] S I J (fun vv SS II JJ => Go d i_X11_feed 31 [.ref h0, .int x1, .int x2, .int x3, .int x4, .int x5] (vv.toList ++ []) SS II JJ Q)) : Go d i_X11_feed 26 [.ref h0, .int x1, .int x2, .int x3, .int x4, .int x5] [] S I J Q := by
  have h := (And.intro g1 kk)
  exact Go.n tb_X11_feed 3 h
theorem b_X11_feed_31 {d : Nat} {S : zS} {I : zI} {J : zJ} {Q : zQ} {h0 : Nat} {x1 : Int32} {x2 : Int32} {x3 : Int32} {x4 : Int32} {x5 : Int32} (g1 : z_kd S h0 = 12) (kk : z_wp d i_X11_putOnTape [.ref h0, .int x4] S I J (fun vv SS II JJ => Go d i_X11_feed 37 [.ref h0, .int x1, .int x2, .int x3, .int x4, .int x5] (vv.toList ++ []) SS II JJ Q)) : Go d i_X11_feed 31 [.ref h0, .int x1, .int x2, .int x3, .int x4, .int x5] [] S I J Q := by
  have h := (And.intro g1 kk)
  exact Go.n tb_X11_feed 3 h
theorem b_X11_feed_37 {d : Nat} {S : zS} {I : zI} {J : zJ} {Q : zQ} {h0 : Nat} {x1 : Int32} {x2 : Int32} {x3 : Int32} {x4 : Int32} {x5 : Int32} (g1 : z_kd S h0 = 12) (kk : z_wp d i_X11_putOnTape [.ref h0, .int x5] S I J (fun vv SS II JJ => Go d i_X11_feed 43 [.ref h0, .int x1, .int x2, .int x3, .int x4, .int x5] (vv.toList ++ []) SS II JJ Q)) : Go d i_X11_feed 37 [.ref h0, .int x1, .int x2, .int x3, .int x4, .int x5] [] S I J Q := by
  have h := (And.intro g1 kk)
  exact Go.n tb_X11_feed 3 h
theorem b_X11_feed_43 {d : Nat} {S : zS} {I : zI} {J : zJ} {Q : zQ} {h0 : Nat} {x1 : Int32} {x2 : Int32} {x3 : Int32} {x4 : Int32} {x5 : Int32} (g1 : z_kd S h0 = 12) (kk : Q (some (.int (I h0 1))) S I J) : Go d i_X11_feed 43 [.ref h0, .int x1, .int x2, .int x3, .int x4, .int x5] [] S I J Q := by
  have h := (And.intro g1 (And.intro trivial kk))
  exact Go.n tb_X11_feed 3 h
theorem w_X11_putOnTape {d : Nat} {S : zS} {I : zI} {J : zJ} {Q : zQ} {h0 : Nat} {x1 : Int32} (h : Go d i_X11_putOnTape 0 [.ref h0, .int x1, .retAddr 0] [] S I J Q) : z_wp (d + 1) i_X11_putOnTape [.ref h0, .int x1] S I J Q := Go.wp (Nat.le_of_ble_eq_true rfl) h
theorem e_X11_putOnTape {d : Nat} {S S2 : zS} {I I2 : zI} {J J2 : zJ} {r : Option Value} {h0 : Nat} {x1 : Int32} (h : Go d i_X11_putOnTape 0 [.ref h0, .int x1, .retAddr 0] [] S I J (z_eq r S2 I2 J2)) : z_ev (d + 1) i_X11_putOnTape [.ref h0, .int x1] S I J r S2 I2 J2 := Go.ev (Nat.le_of_ble_eq_true rfl) h
theorem b_X11_putOnTape_0 {d : Nat} {S : zS} {I : zI} {J : zJ} {Q : zQ} {h0 : Nat} {x1 : Int32} {v2 : Value} (kk : Go d i_X11_putOnTape 3 [.ref h0, .int x1, .int (24 : Int32)] [] S I J Q) : Go d i_X11_putOnTape 0 [.ref h0, .int x1, v2] [] S I J Q := by
  have h := kk
  exact Go.n tb_X11_putOnTape 2 h
theorem b_X11_putOnTape_3 {d : Nat} {S : zS} {I : zI} {J : zJ} {Q : zQ} {h0 : Nat} {x1 : Int32} {x2 : Int32} (kt : x2 < (0 : Int32) → Go d i_X11_putOnTape 46 [.ref h0, .int x1, .int x2] [] S I J Q) (kf : ¬ x2 < (0 : Int32) → Go d i_X11_putOnTape 7 [.ref h0, .int x1, .int x2] [] S I J Q) : Go d i_X11_putOnTape 3 [.ref h0, .int x1, .int x2] [] S I J Q := by
  have h := (Go.ite kt kf)
  exact Go.n tb_X11_putOnTape 2 h
theorem b_X11_putOnTape_7 {d : Nat} {S : zS} {I : zI} {J : zJ} {Q : zQ} {h0 : Nat} {x1 : Int32} {x2 : Int32} (g1 : z_kd S h0 = 12) (kt : (300 : Int32) ≤ (I h0 1) → Go d i_X11_putOnTape 46 [.ref h0, .int x1, .int x2] [] S I J Q) (kf : ¬ (300 : Int32) ≤ (I h0 1) → Go d i_X11_putOnTape 17 [.ref h0, .int x1, .int x2] [] S I J Q) : Go d i_X11_putOnTape 7 [.ref h0, .int x1, .int x2] [] S I J Q := by
  have h := (And.intro g1 (Go.ite kt kf))
  exact Go.n tb_X11_putOnTape 4 h
theorem b_X11_putOnTape_17 {d : Nat} {S : zS} {I : zI} {J : zJ} {Q : zQ} {h0 : Nat} {x1 : Int32} {x2 : Int32} {I1 : zI} (g1 : z_kd S h0 = 12) (g2 : z_kd S h0 = 12) (g3 : z_kd S (z_rv S h0 0) = 101 ∧ vp_in (I h0 1) (z_ln S (z_rv S h0 0))) (eI1 : I1 = z_u2 I (z_rv S h0 0) (Int32.toNatClampNeg (I h0 1)) (Int8.toInt32 (Int32.toInt8 (Int8.toInt32 (Int32.toInt8 (x1 >>> (x2 &&& 31))))))) (g5 : z_kd S h0 = 12) (g6 : z_kd S h0 = 12) (kk : Go d i_X11_putOnTape 3 [.ref h0, .int x1, .int (x2 + (-8 : Int32))] [] S (z_u2 I1 h0 1 ((I1 h0 1) + (1 : Int32))) J Q) : Go d i_X11_putOnTape 17 [.ref h0, .int x1, .int x2] [] S I J Q := by
  subst eI1
  have h := (And.intro g1 (And.intro g2 (And.intro g3 (And.intro g5 (And.intro g6 kk)))))
  exact Go.n tb_X11_putOnTape 17 h
theorem b_X11_putOnTape_46 {d : Nat} {S : zS} {I : zI} {J : zJ} {Q : zQ} {h0 : Nat} {x1 : Int32} {x2 : Int32} (kk : Q none S I J) : Go d i_X11_putOnTape 46 [.ref h0, .int x1, .int x2] [] S I J Q := by
  have h := (And.intro trivial kk)
  exact Go.n tb_X11_putOnTape 1 h
theorem w_X11_tell {d : Nat} {S : zS} {I : zI} {J : zJ} {Q : zQ} {h0 : Nat} {x1 : Int32} {x2 : Int32} (h : Go d i_X11_tell 0 [.ref h0, .int x1, .int x2, .retAddr 0] [] S I J Q) : z_wp (d + 1) i_X11_tell [.ref h0, .int x1, .int x2] S I J Q := Go.wp (Nat.le_of_ble_eq_true rfl) h
theorem e_X11_tell {d : Nat} {S S2 : zS} {I I2 : zI} {J J2 : zJ} {r : Option Value} {h0 : Nat} {x1 : Int32} {x2 : Int32} (h : Go d i_X11_tell 0 [.ref h0, .int x1, .int x2, .retAddr 0] [] S I J (z_eq r S2 I2 J2)) : z_ev (d + 1) i_X11_tell [.ref h0, .int x1, .int x2] S I J r S2 I2 J2 := Go.ev (Nat.le_of_ble_eq_true rfl) h
theorem b_X11_tell_0 {d : Nat} {S : zS} {I : zI} {J : zJ} {Q : zQ} {h0 : Nat} {x1 : Int32} {x2 : Int32} {v3 : Value} (kk : z_wp d i_X11_isSlot [.int x1] S I J (fun vv SS II JJ => Go d i_X11_tell 4 [.ref h0, .int x1, .int x2, v3] (vv.toList ++ []) SS II JJ Q)) : Go d i_X11_tell 0 [.ref h0, .int x1, .int x2, v3] [] S I J Q := by
  have h := (And.intro trivial kk)
  exact Go.n tb_X11_tell 2 h
theorem b_X11_tell_4 {d : Nat} {S : zS} {I : zI} {J : zJ} {Q : zQ} {h0 : Nat} {x1 : Int32} {x2 : Int32} {v3 : Value} {y0 : Int32} (kt : ¬ y0 = (0 : Int32) → Go d i_X11_tell 10 [.ref h0, .int x1, .int x2, v3] [] S I J Q) (kf : y0 = (0 : Int32) → Go d i_X11_tell 7 [.ref h0, .int x1, .int x2, v3] [] S I J Q) : Go d i_X11_tell 4 [.ref h0, .int x1, .int x2, v3] [.int y0] S I J Q := by
  have h := (Go.eti kt kf)
  exact Go.n tb_X11_tell 1 h
theorem b_X11_tell_7 {d : Nat} {S : zS} {I : zI} {J : zJ} {Q : zQ} {h0 : Nat} {x1 : Int32} {x2 : Int32} {v3 : Value} (kk : Q (some (.int (-2 : Int32))) S I J) : Go d i_X11_tell 7 [.ref h0, .int x1, .int x2, v3] [] S I J Q := by
  have h := (And.intro trivial kk)
  exact Go.n tb_X11_tell 2 h
theorem b_X11_tell_10 {d : Nat} {S : zS} {I : zI} {J : zJ} {Q : zQ} {h0 : Nat} {x1 : Int32} {x2 : Int32} {v3 : Value} (kt : x2 < (0 : Int32) → Go d i_X11_tell 22 [.ref h0, .int x1, .int x2, v3] [] S I J Q) (kf : ¬ x2 < (0 : Int32) → Go d i_X11_tell 14 [.ref h0, .int x1, .int x2, v3] [] S I J Q) : Go d i_X11_tell 10 [.ref h0, .int x1, .int x2, v3] [] S I J Q := by
  have h := (Go.ite kt kf)
  exact Go.n tb_X11_tell 2 h
theorem b_X11_tell_14 {d : Nat} {S : zS} {I : zI} {J : zJ} {Q : zQ} {h0 : Nat} {x1 : Int32} {x2 : Int32} {v3 : Value} (g1 : z_kd S h0 = 12) (kt : x2 ≤ (I h0 1) → Go d i_X11_tell 25 [.ref h0, .int x1, .int x2, v3] [] S I J Q) (kf : ¬ x2 ≤ (I h0 1) → Go d i_X11_tell 22 [.ref h0, .int x1, .int x2, v3] [] S I J Q) : Go d i_X11_tell 14 [.ref h0, .int x1, .int x2, v3] [] S I J Q := by
  have h := (And.intro g1 (Go.ite kt kf))
  exact Go.n tb_X11_tell 4 h
theorem b_X11_tell_22 {d : Nat} {S : zS} {I : zI} {J : zJ} {Q : zQ} {h0 : Nat} {x1 : Int32} {x2 : Int32} {v3 : Value} (kk : Q (some (.int (-3 : Int32))) S I J) : Go d i_X11_tell 22 [.ref h0, .int x1, .int x2, v3] [] S I J Q := by
  have h := (And.intro trivial kk)
  exact Go.n tb_X11_tell 2 h
theorem b_X11_tell_25 {d : Nat} {S : zS} {I : zI} {J : zJ} {Q : zQ} {h0 : Nat} {x1 : Int32} {x2 : Int32} {v3 : Value} (g1 : z_kd S h0 = 12) (g2 : z_isR (z_kd S (z_rv S h0 5)) = true ∧ vp_in x1 (z_ln S (z_rv S h0 5))) (g3 : ¬ (z_rv S (z_rv S h0 5) (Int32.toNatClampNeg x1)) = 0) (g4 : z_kd S h0 = 12) (g5 : z_kd S (z_rv S (z_rv S h0 5) (Int32.toNatClampNeg x1)) = 9) (g6 : z_kd S (z_rv S (z_rv S h0 5) (Int32.toNatClampNeg x1)) = 9) (g7 : z_kd S (z_rv S h0 2) = 11) (kk : z_wp d i_X10_readText [.ref (z_rv S h0 2), .int x2, .ref (z_rv S (z_rv S (z_rv S h0 5) (Int32.toNatClampNeg x1)) 0), .int (I (z_rv S (z_rv S h0 5) (Int32.toNatClampNeg x1)) 1)] S I J (fun vv SS II JJ => Go d i_X11_tell 48 [.ref h0, .int x1, .int x2, .ref (z_rv S (z_rv S h0 5) (Int32.toNatClampNeg x1))] (vv.toList ++ []) SS II JJ Q)) : Go d i_X11_tell 25 [.ref h0, .int x1, .int x2, v3] [] S I J Q := by
  have h := (And.intro g1 (And.intro g2 (And.intro g3 (And.intro g4 (And.intro g5 (And.intro g6 (And.intro g7 kk)))))))
  exact Go.n tb_X11_tell 13 h
theorem b_X11_tell_48 {d : Nat} {S : zS} {I : zI} {J : zJ} {Q : zQ} {h0 : Nat} {x1 : Int32} {x2 : Int32} {h3 : Nat} {I1 : zI} (g1 : z_kd S h0 = 12) (g2 : z_kd S h0 = 12) (g3 : z_kd S (z_rv S h0 2) = 11) (g4 : z_kd S h0 = 12) (g5 : z_kd S h0 = 12) (g6 : z_kd S (z_rv S h0 2) = 11) (g7 : z_kd S h0 = 12) (eI1 : I1 = z_u2 (z_u2 (z_u2 I h0 1 (0 : Int32)) h0 3 ((z_u2 I h0 1 (0 : Int32)) (z_rv S h0 2) 0)) h0 4 ((z_u2 (z_u2 I h0 1 (0 : Int32)) h0 3 ((z_u2 I h0 1 (0 : Int32)) (z_rv S h0 2) 0)) (z_rv S h0 2) 1)) (g9 : z_kd S h0 = 12) (kt : (I1 h0 3) = (0 : Int32) → Go d i_X11_tell 90 [.ref h0, .int x1, .int x2, .ref h3] [] S I1 J Q) (kf : ¬ (I1 h0 3) = (0 : Int32) → Go d i_X11_tell 82 [.ref h0, .int x1, .int x2, .ref h3] [] S I1 J Q) : Go d i_X11_tell 48 [.ref h0, .int x1, .int x2, .ref h3] [] S I J Q := by
  subst eI1
  have h := (And.intro g1 (And.intro g2 (And.intro g3 (And.intro g4 (And.intro g5 (And.intro g6 (And.intro g7 (And.intro g9 (Go.ite kt kf)))))))))
  exact Go.n tb_X11_tell 16 h
theorem b_X11_tell_82 {d : Nat} {S : zS} {I : zI} {J : zJ} {Q : zQ} {h0 : Nat} {x1 : Int32} {x2 : Int32} {h3 : Nat} (g1 : z_kd S h0 = 12) (kk : Q (some (.int ((-30 : Int32) - (I h0 3)))) S I J) : Go d i_X11_tell 82 [.ref h0, .int x1, .int x2, .ref h3] [] S I J Q := by
  have h := (And.intro g1 (And.intro trivial kk))
  exact Go.n tb_X11_tell 5 h
theorem b_X11_tell_90 {d : Nat} {S : zS} {I : zI} {J : zJ} {Q : zQ} {h0 : Nat} {x1 : Int32} {x2 : Int32} {h3 : Nat} (g1 : z_kd S h0 = 12) (g2 : z_kd S (z_rv S h0 6) = 5) (kk : z_wp d i_X4_forget [.ref (z_rv S h0 6)] S I J (fun vv SS II JJ => Go d i_X11_tell 97 [.ref h0, .int x1, .int x2, .ref h3] (vv.toList ++ []) SS II JJ Q)) : Go d i_X11_tell 90 [.ref h0, .int x1, .int x2, .ref h3] [] S I J Q := by
  have h := (And.intro g1 (And.intro g2 kk))
  exact Go.n tb_X11_tell 3 h
theorem b_X11_tell_97 {d : Nat} {S : zS} {I : zI} {J : zJ} {Q : zQ} {h0 : Nat} {x1 : Int32} {x2 : Int32} {h3 : Nat} (g1 : z_kd S h0 = 12) (g2 : z_kd S (z_rv S h0 2) = 11) (g3 : z_kd S h0 = 12) (g4 : z_kd S (z_rv S h0 2) = 11) (g5 : z_kd S h0 = 12) (kk : z_wp d i_X11_become [.ref h0, .int x1, .ref (z_rv S (z_rv S h0 2) 2), .int (I (z_rv S h0 2) 3)] S I J (fun vv SS II JJ => Go d i_X11_tell 116 [.ref h0, .int x1, .int x2, .ref h3] (vv.toList ++ []) SS II JJ Q)) : Go d i_X11_tell 97 [.ref h0, .int x1, .int x2, .ref h3] [] S I J Q := by
  have h := (And.intro g1 (And.intro g2 (And.intro g3 (And.intro g4 (And.intro g5 kk)))))
  exact Go.n tb_X11_tell 9 h
theorem b_X11_tell_116 {d : Nat} {S : zS} {I : zI} {J : zJ} {Q : zQ} {h0 : Nat} {x1 : Int32} {x2 : Int32} {h3 : Nat} (g1 : z_kd S h3 = 9) (g2 : z_kd S (z_rv S h3 0) = 2) (kk : Q (some (.int (I (z_rv S h3 0) 0))) S I J) : Go d i_X11_tell 116 [.ref h0, .int x1, .int x2, .ref h3] [] S I J Q := by
  have h := (And.intro g1 (And.intro g2 (And.intro trivial kk)))
  exact Go.n tb_X11_tell 4 h
theorem w_X11_fault {d : Nat} {S : zS} {I : zI} {J : zJ} {Q : zQ} {h0 : Nat} {x1 : Int32} (h : Go d i_X11_fault 0 [.ref h0, .int x1] [] S I J Q) : z_wp (d + 1) i_X11_fault [.ref h0, .int x1] S I J Q := Go.wp (Nat.le_of_ble_eq_true rfl) h
theorem e_X11_fault {d : Nat} {S S2 : zS} {I I2 : zI} {J J2 : zJ} {r : Option Value} {h0 : Nat} {x1 : Int32} (h : Go d i_X11_fault 0 [.ref h0, .int x1] [] S I J (z_eq r S2 I2 J2)) : z_ev (d + 1) i_X11_fault [.ref h0, .int x1] S I J r S2 I2 J2 := Go.ev (Nat.le_of_ble_eq_true rfl) h
theorem b_X11_fault_0 {d : Nat} {S : zS} {I : zI} {J : zJ} {Q : zQ} {h0 : Nat} {x1 : Int32} (kt : ¬ x1 = (0 : Int32) → Go d i_X11_fault 9 [.ref h0, .int x1] [] S I J Q) (kf : x1 = (0 : Int32) → Go d i_X11_fault 4 [.ref h0, .int x1] [] S I J Q) : Go d i_X11_fault 0 [.ref h0, .int x1] [] S I J Q := by
  have h := (Go.eti kt kf)
  exact Go.n tb_X11_fault 2 h
theorem b_X11_fault_4 {d : Nat} {S : zS} {I : zI} {J : zJ} {Q : zQ} {h0 : Nat} {x1 : Int32} (g1 : z_kd S h0 = 12) (kk : Q (some (.int (I h0 3))) S I J) : Go d i_X11_fault 4 [.ref h0, .int x1] [] S I J Q := by
  have h := (And.intro g1 (And.intro trivial kk))
  exact Go.n tb_X11_fault 3 h
theorem b_X11_fault_9 {d : Nat} {S : zS} {I : zI} {J : zJ} {Q : zQ} {h0 : Nat} {x1 : Int32} (kt : ¬ x1 = (1 : Int32) → Go d i_X11_fault 21 [.ref h0, .int x1] [] S I J Q) (kf : x1 = (1 : Int32) → Go d i_X11_fault 14 [.ref h0, .int x1] [] S I J Q) : Go d i_X11_fault 9 [.ref h0, .int x1] [] S I J Q := by
  have h := (Go.eti kt kf)
  exact Go.n tb_X11_fault 3 h
theorem b_X11_fault_14 {d : Nat} {S : zS} {I : zI} {J : zJ} {Q : zQ} {h0 : Nat} {x1 : Int32} (g1 : z_kd S h0 = 12) (kk : Q (some (.int (I h0 4))) S I J) : Go d i_X11_fault 14 [.ref h0, .int x1] [] S I J Q := by
  have h := (And.intro g1 (And.intro trivial kk))
  exact Go.n tb_X11_fault 4 h
theorem b_X11_fault_21 {d : Nat} {S : zS} {I : zI} {J : zJ} {Q : zQ} {h0 : Nat} {x1 : Int32} (kk : Q (some (.int (-1 : Int32))) S I J) : Go d i_X11_fault 21 [.ref h0, .int x1] [] S I J Q := by
  have h := (And.intro trivial kk)
  exact Go.n tb_X11_fault 2 h
theorem w_X11_step {d : Nat} {S : zS} {I : zI} {J : zJ} {Q : zQ} {h0 : Nat} {x1 : Int32} {x2 : Int32} (h : Go d i_X11_step 0 [.ref h0, .int x1, .int x2, .retAddr 0] [] S I J Q) : z_wp (d + 1) i_X11_step [.ref h0, .int x1, .int x2] S I J Q := Go.wp (Nat.le_of_ble_eq_true rfl) h
theorem e_X11_step {d : Nat} {S S2 : zS} {I I2 : zI} {J J2 : zJ} {r : Option Value} {h0 : Nat} {x1 : Int32} {x2 : Int32} (h : Go d i_X11_step 0 [.ref h0, .int x1, .int x2, .retAddr 0] [] S I J (z_eq r S2 I2 J2)) : z_ev (d + 1) i_X11_step [.ref h0, .int x1, .int x2] S I J r S2 I2 J2 := Go.ev (Nat.le_of_ble_eq_true rfl) h
theorem b_X11_step_0 {d : Nat} {S : zS} {I : zI} {J : zJ} {Q : zQ} {h0 : Nat} {x1 : Int32} {x2 : Int32} {v3 : Value} (g1 : z_kd S h0 = 12) (kk : z_wp d i_X11_isElement [.ref h0, .int x1, .int x2] S I J (fun vv SS II JJ => Go d i_X11_step 6 [.ref h0, .int x1, .int x2, v3] (vv.toList ++ []) SS II JJ Q)) : Go d i_X11_step 0 [.ref h0, .int x1, .int x2, v3] [] S I J Q := by
  have h := (And.intro g1 kk)
  exact Go.n tb_X11_step 4 h
theorem b_X11_step_6 {d : Nat} {S : zS} {I : zI} {J : zJ} {Q : zQ} {h0 : Nat} {x1 : Int32} {x2 : Int32} {v3 : Value} {y0 : Int32} (kt : y0 = (0 : Int32) → Go d i_X11_step 13 [.ref h0, .int x1, .int x2, v3] [] S I J Q) (kf : ¬ y0 = (0 : Int32) → Go d i_X11_step 9 [.ref h0, .int x1, .int x2, v3] [] S I J Q) : Go d i_X11_step 6 [.ref h0, .int x1, .int x2, v3] [.int y0] S I J Q := by
  have h := (Go.ite kt kf)
  exact Go.n tb_X11_step 1 h
theorem b_X11_step_9 {d : Nat} {S : zS} {I : zI} {J : zJ} {Q : zQ} {h0 : Nat} {x1 : Int32} {x2 : Int32} {v3 : Value} (kt : ¬ x2 = (0 : Int32) → Go d i_X11_step 16 [.ref h0, .int x1, .int x2, v3] [] S I J Q) (kf : x2 = (0 : Int32) → Go d i_X11_step 13 [.ref h0, .int x1, .int x2, v3] [] S I J Q) : Go d i_X11_step 9 [.ref h0, .int x1, .int x2, v3] [] S I J Q := by
  have h := (Go.eti kt kf)
  exact Go.n tb_X11_step 2 h
theorem b_X11_step_13 {d : Nat} {S : zS} {I : zI} {J : zJ} {Q : zQ} {h0 : Nat} {x1 : Int32} {x2 : Int32} {v3 : Value} (kk : Q (some (.int (-2 : Int32))) S I J) : Go d i_X11_step 13 [.ref h0, .int x1, .int x2, v3] [] S I J Q := by
  have h := (And.intro trivial kk)
  exact Go.n tb_X11_step 2 h
theorem b_X11_step_16 {d : Nat} {S : zS} {I : zI} {J : zJ} {Q : zQ} {h0 : Nat} {x1 : Int32} {x2 : Int32} {v3 : Value} (g1 : z_kd S h0 = 12) (g2 : z_isR (z_kd S (z_rv S h0 5)) = true ∧ vp_in x1 (z_ln S (z_rv S h0 5))) (g3 : ¬ (z_rv S (z_rv S h0 5) (Int32.toNatClampNeg x1)) = 0) (g4 : z_kd S h0 = 12) (g5 : z_kd S (z_rv S h0 6) = 5) (kk : z_wp d i_X4_keep [.ref (z_rv S h0 6), .int x1, .ref (z_rv S (z_rv S h0 5) (Int32.toNatClampNeg x1))] S I J (fun vv SS II JJ => Go d i_X11_step 32 [.ref h0, .int x1, .int x2, .ref (z_rv S (z_rv S h0 5) (Int32.toNatClampNeg x1))] (vv.toList ++ []) SS II JJ Q)) : Go d i_X11_step 16 [.ref h0, .int x1, .int x2, v3] [] S I J Q := by
  have h := (And.intro g1 (And.intro g2 (And.intro g3 (And.intro g4 (And.intro g5 kk)))))
  exact Go.n tb_X11_step 10 h
theorem b_X11_step_32 {d : Nat} {S : zS} {I : zI} {J : zJ} {Q : zQ} {h0 : Nat} {x1 : Int32} {x2 : Int32} {h3 : Nat} (g1 : z_kd S h3 = 9) (g2 : z_kd S h3 = 9) (g3 : z_kd S h0 = 12) (kk : z_wp d i_X11_become [.ref h0, .int x1, .ref (z_rv S h3 0), .int ((I h3 1) ^^^ ((1 : Int32) <<< (x2 &&& 31)))] S I J (fun vv SS II JJ => Go d i_X11_step 49 [.ref h0, .int x1, .int x2, .ref h3] (vv.toList ++ []) SS II JJ Q)) : Go d i_X11_step 32 [.ref h0, .int x1, .int x2, .ref h3] [] S I J Q := by
  have h := (And.intro g1 (And.intro g2 (And.intro g3 kk)))
  exact Go.n tb_X11_step 11 h
theorem b_X11_step_49 {d : Nat} {S : zS} {I : zI} {J : zJ} {Q : zQ} {h0 : Nat} {x1 : Int32} {x2 : Int32} {h3 : Nat} (g1 : z_kd S h3 = 9) (kk : Q (some (.int (((I h3 1) >>> (x2 &&& 31)) &&& (1 : Int32)))) S I J) : Go d i_X11_step 49 [.ref h0, .int x1, .int x2, .ref h3] [] S I J Q := by
  have h := (And.intro g1 (And.intro trivial kk))
  exact Go.n tb_X11_step 7 h
theorem w_X11_both {d : Nat} {S : zS} {I : zI} {J : zJ} {Q : zQ} {h0 : Nat} {x1 : Int32} (h : Go d i_X11_both 0 [.ref h0, .int x1, .retAddr 0] [] S I J Q) : z_wp (d + 1) i_X11_both [.ref h0, .int x1] S I J Q := Go.wp (Nat.le_of_ble_eq_true rfl) h
theorem e_X11_both {d : Nat} {S S2 : zS} {I I2 : zI} {J J2 : zJ} {r : Option Value} {h0 : Nat} {x1 : Int32} (h : Go d i_X11_both 0 [.ref h0, .int x1, .retAddr 0] [] S I J (z_eq r S2 I2 J2)) : z_ev (d + 1) i_X11_both [.ref h0, .int x1] S I J r S2 I2 J2 := Go.ev (Nat.le_of_ble_eq_true rfl) h
theorem b_X11_both_0 {d : Nat} {S : zS} {I : zI} {J : zJ} {Q : zQ} {h0 : Nat} {x1 : Int32} {v2 : Value} (kk : z_wp d i_X11_isSlot [.int x1] S I J (fun vv SS II JJ => Go d i_X11_both 4 [.ref h0, .int x1, v2] (vv.toList ++ []) SS II JJ Q)) : Go d i_X11_both 0 [.ref h0, .int x1, v2] [] S I J Q := by
  have h := (And.intro trivial kk)
  exact Go.n tb_X11_both 2 h
theorem b_X11_both_4 {d : Nat} {S : zS} {I : zI} {J : zJ} {Q : zQ} {h0 : Nat} {x1 : Int32} {v2 : Value} {y0 : Int32} (kt : ¬ y0 = (0 : Int32) → Go d i_X11_both 10 [.ref h0, .int x1, v2] [] S I J Q) (kf : y0 = (0 : Int32) → Go d i_X11_both 7 [.ref h0, .int x1, v2] [] S I J Q) : Go d i_X11_both 4 [.ref h0, .int x1, v2] [.int y0] S I J Q := by
  have h := (Go.eti kt kf)
  exact Go.n tb_X11_both 1 h
theorem b_X11_both_7 {d : Nat} {S : zS} {I : zI} {J : zJ} {Q : zQ} {h0 : Nat} {x1 : Int32} {v2 : Value} (kk : Q (some (.int (-2 : Int32))) S I J) : Go d i_X11_both 7 [.ref h0, .int x1, v2] [] S I J Q := by
  have h := (And.intro trivial kk)
  exact Go.n tb_X11_both 2 h
theorem b_X11_both_10 {d : Nat} {S : zS} {I : zI} {J : zJ} {Q : zQ} {h0 : Nat} {x1 : Int32} {v2 : Value} (g1 : z_kd S h0 = 12) (g2 : z_isR (z_kd S (z_rv S h0 5)) = true ∧ vp_in x1 (z_ln S (z_rv S h0 5))) (g3 : ¬ (z_rv S (z_rv S h0 5) (Int32.toNatClampNeg x1)) = 0) (g4 : z_kd S h0 = 12) (g5 : z_kd S (z_rv S h0 6) = 5) (kk : z_wp d i_X4_keep [.ref (z_rv S h0 6), .int x1, .ref (z_rv S (z_rv S h0 5) (Int32.toNatClampNeg x1))] S I J (fun vv SS II JJ => Go d i_X11_both 26 [.ref h0, .int x1, .ref (z_rv S (z_rv S h0 5) (Int32.toNatClampNeg x1))] (vv.toList ++ []) SS II JJ Q)) : Go d i_X11_both 10 [.ref h0, .int x1, v2] [] S I J Q := by
  have h := (And.intro g1 (And.intro g2 (And.intro g3 (And.intro g4 (And.intro g5 kk)))))
  exact Go.n tb_X11_both 10 h
theorem b_X11_both_26 {d : Nat} {S : zS} {I : zI} {J : zJ} {Q : zQ} {h0 : Nat} {x1 : Int32} {h2 : Nat} (g1 : z_kd S h2 = 9) (g2 : z_kd S h2 = 9) (g3 : z_kd S h2 = 9) (g4 : z_kd S (z_rv S h2 0) = 2) (kk : z_wp d i_X1_withInverses [.ref (z_rv S h2 0), .int (I h2 1)] S I J (fun vv SS II JJ => Go d i_X11_both 43 [.ref h0, .int x1, .ref h2] (vv.toList ++ [.ref (z_rv S h2 0), .int x1, .ref h0]) SS II JJ Q)) : Go d i_X11_both 26 [.ref h0, .int x1, .ref h2] [] S I J Q := by
  have h := (And.intro g1 (And.intro g2 (And.intro g3 (And.intro g4 kk))))
  exact Go.n tb_X11_both 9 h
theorem b_X11_both_43 {d : Nat} {S : zS} {I : zI} {J : zJ} {Q : zQ} {h0 : Nat} {x1 : Int32} {h2 : Nat} {q0 : Nat} {y1 : Int32} {q2 : Nat} {y3 : Int32} (g1 : z_kd S q0 = 12) (kk : z_wp d i_X11_become [.ref q0, .int y1, .ref q2, .int y3] S I J (fun vv SS II JJ => Go d i_X11_both 46 [.ref h0, .int x1, .ref h2] (vv.toList ++ []) SS II JJ Q)) : Go d i_X11_both 43 [.ref h0, .int x1, .ref h2] [.int y3, .ref q2, .int y1, .ref q0] S I J Q := by
  have h := (And.intro g1 kk)
  exact Go.n tb_X11_both 1 h
theorem b_X11_both_46 {d : Nat} {S : zS} {I : zI} {J : zJ} {Q : zQ} {h0 : Nat} {x1 : Int32} {h2 : Nat} (g1 : z_kd S h2 = 9) (kk : z_wp d i_J6_bitCount_0f7a4 [.int (I h2 1)] S I J (fun vv SS II JJ => Go d i_X11_both 53 [.ref h0, .int x1, .ref h2] (vv.toList ++ []) SS II JJ Q)) : Go d i_X11_both 46 [.ref h0, .int x1, .ref h2] [] S I J Q := by
  have h := (And.intro g1 (And.intro trivial kk))
  exact Go.n tb_X11_both 3 h
theorem b_X11_both_53 {d : Nat} {S : zS} {I : zI} {J : zJ} {Q : zQ} {h0 : Nat} {x1 : Int32} {h2 : Nat} {y0 : Int32} (kk : Q (some (.int y0)) S I J) : Go d i_X11_both 53 [.ref h0, .int x1, .ref h2] [.int y0] S I J Q := by
  have h := (And.intro trivial kk)
  exact Go.n tb_X11_both 1 h
theorem w_X11_quotient {d : Nat} {S : zS} {I : zI} {J : zJ} {Q : zQ} {h0 : Nat} {x1 : Int32} {x2 : Int32} (h : Go d i_X11_quotient 0 [.ref h0, .int x1, .int x2, .retAddr 0, .retAddr 0, .retAddr 0, .retAddr 0, .retAddr 0, .retAddr 0, .retAddr 0] [] S I J Q) : z_wp (d + 1) i_X11_quotient [.ref h0, .int x1, .int x2] S I J Q := Go.wp (Nat.le_of_ble_eq_true rfl) h
theorem e_X11_quotient {d : Nat} {S S2 : zS} {I I2 : zI} {J J2 : zJ} {r : Option Value} {h0 : Nat} {x1 : Int32} {x2 : Int32} (h : Go d i_X11_quotient 0 [.ref h0, .int x1, .int x2, .retAddr 0, .retAddr 0, .retAddr 0, .retAddr 0, .retAddr 0, .retAddr 0, .retAddr 0] [] S I J (z_eq r S2 I2 J2)) : z_ev (d + 1) i_X11_quotient [.ref h0, .int x1, .int x2] S I J r S2 I2 J2 := Go.ev (Nat.le_of_ble_eq_true rfl) h
theorem b_X11_quotient_0 {d : Nat} {S : zS} {I : zI} {J : zJ} {Q : zQ} {h0 : Nat} {x1 : Int32} {x2 : Int32} {v3 : Value} {v4 : Value} {v5 : Value} {v6 : Value} {v7 : Value} {v8 : Value} {v9 : Value} (kk : z_wp d i_X11_isSlot [.int x1] S I J (fun vv SS II JJ => Go d i_X11_quotient 4 [.ref h0, .int x1, .int x2, v3, v4, v5, v6, v7, v8, v9] (vv.toList ++ []) SS II JJ Q)) : Go d i_X11_quotient 0 [.ref h0, .int x1, .int x2, v3, v4, v5, v6, v7, v8, v9] [] S I J Q := by
  have h := (And.intro trivial kk)
  exact Go.n tb_X11_quotient 2 h
theorem b_X11_quotient_4 {d : Nat} {S : zS} {I : zI} {J : zJ} {Q : zQ} {h0 : Nat} {x1 : Int32} {x2 : Int32} {v3 : Value} {v4 : Value} {v5 : Value} {v6 : Value} {v7 : Value} {v8 : Value} {v9 : Value} {y0 : Int32} (kt : ¬ y0 = (0 : Int32) → Go d i_X11_quotient 10 [.ref h0, .int x1, .int x2, v3, v4, v5, v6, v7, v8, v9] [] S I J Q) (kf : y0 = (0 : Int32) → Go d i_X11_quotient 7 [.ref h0, .int x1, .int x2, v3, v4, v5, v6, v7, v8, v9] [] S I J Q) : Go d i_X11_quotient 4 [.ref h0, .int x1, .int x2, v3, v4, v5, v6, v7, v8, v9] [.int y0] S I J Q := by
  have h := (Go.eti kt kf)
  exact Go.n tb_X11_quotient 1 h
theorem b_X11_quotient_7 {d : Nat} {S : zS} {I : zI} {J : zJ} {Q : zQ} {h0 : Nat} {x1 : Int32} {x2 : Int32} {v3 : Value} {v4 : Value} {v5 : Value} {v6 : Value} {v7 : Value} {v8 : Value} {v9 : Value} (kk : Q (some (.int (-2 : Int32))) S I J) : Go d i_X11_quotient 7 [.ref h0, .int x1, .int x2, v3, v4, v5, v6, v7, v8, v9] [] S I J Q := by
  have h := (And.intro trivial kk)
  exact Go.n tb_X11_quotient 2 h
theorem b_X11_quotient_10 {d : Nat} {S : zS} {I : zI} {J : zJ} {Q : zQ} {h0 : Nat} {x1 : Int32} {x2 : Int32} {v3 : Value} {v4 : Value} {v5 : Value} {v6 : Value} {v7 : Value} {v8 : Value} {v9 : Value} (g1 : z_kd S h0 = 12) (g2 : z_isR (z_kd S (z_rv S h0 5)) = true ∧ vp_in x1 (z_ln S (z_rv S h0 5))) (g3 : ¬ (z_rv S (z_rv S h0 5) (Int32.toNatClampNeg x1)) = 0) (g4 : z_kd S (z_rv S (z_rv S h0 5) (Int32.toNatClampNeg x1)) = 9) (g5 : ¬ (z_rv S (z_rv S (z_rv S h0 5) (Int32.toNatClampNeg x1)) 0) = 0) (g6 : z_kd S (z_rv S (z_rv S (z_rv S h0 5) (Int32.toNatClampNeg x1)) 0) = 2) (kk : z_wp d i_X1_isSet [.ref (z_rv S (z_rv S (z_rv S h0 5) (Int32.toNatClampNeg x1)) 0), .int x2] S I J (fun vv SS II JJ => Go d i_X11_quotient 29 [.ref h0, .int x1, .int x2, .ref (z_rv S (z_rv S h0 5) (Int32.toNatClampNeg x1)), .ref (z_rv S (z_rv S (z_rv S h0 5) (Int32.toNatClampNeg x1)) 0), v5, v6, v7, v8, v9] (vv.toList ++ []) SS II JJ Q)) : Go d i_X11_quotient 10 [.ref h0, .int x1, .int x2, v3, v4, v5, v6, v7, v8, v9] [] S I J Q := by
  have h := (And.intro g1 (And.intro g2 (And.intro g3 (And.intro g4 (And.intro g5 (And.intro g6 kk))))))
  exact Go.n tb_X11_quotient 11 h
theorem b_X11_quotient_29 {d : Nat} {S : zS} {I : zI} {J : zJ} {Q : zQ} {h0 : Nat} {x1 : Int32} {x2 : Int32} {h3 : Nat} {h4 : Nat} {v5 : Value} {v6 : Value} {v7 : Value} {v8 : Value} {v9 : Value} {y0 : Int32} (kt : ¬ y0 = (0 : Int32) → Go d i_X11_quotient 35 [.ref h0, .int x1, .int x2, .ref h3, .ref h4, v5, v6, v7, v8, v9] [] S I J Q) (kf : y0 = (0 : Int32) → Go d i_X11_quotient 32 [.ref h0, .int x1, .int x2, .ref h3, .ref h4, v5, v6, v7, v8, v9] [] S I J Q) : Go d i_X11_quotient 29 [.ref h0, .int x1, .int x2, .ref h3, .ref h4, v5, v6, v7, v8, v9] [.int y0] S I J Q := by
  have h := (Go.eti kt kf)
  exact Go.n tb_X11_quotient 1 h
theorem b_X11_quotient_32 {d : Nat} {S : zS} {I : zI} {J : zJ} {Q : zQ} {h0 : Nat} {x1 : Int32} {x2 : Int32} {h3 : Nat} {h4 : Nat} {v5 : Value} {v6 : Value} {v7 : Value} {v8 : Value} {v9 : Value} (kk : Q (some (.int (-3 : Int32))) S I J) : Go d i_X11_quotient 32 [.ref h0, .int x1, .int x2, .ref h3, .ref h4, v5, v6, v7, v8, v9] [] S I J Q := by
  have h := (And.intro trivial kk)
  exact Go.n tb_X11_quotient 2 h
theorem b_X11_quotient_35 {d : Nat} {S : zS} {I : zI} {J : zJ} {Q : zQ} {h0 : Nat} {x1 : Int32} {x2 : Int32} {h3 : Nat} {h4 : Nat} {v5 : Value} {v6 : Value} {v7 : Value} {v8 : Value} {v9 : Value} (g1 : z_kd S h4 = 2) (kk : z_wp d i_X1_isClosed [.ref h4, .int x2] S I J (fun vv SS II JJ => Go d i_X11_quotient 41 [.ref h0, .int x1, .int x2, .ref h3, .ref h4, v5, v6, v7, v8, v9] (vv.toList ++ []) SS II JJ Q)) : Go d i_X11_quotient 35 [.ref h0, .int x1, .int x2, .ref h3, .ref h4, v5, v6, v7, v8, v9] [] S I J Q := by
  have h := (And.intro g1 kk)
  exact Go.n tb_X11_quotient 3 h
theorem b_X11_quotient_41 {d : Nat} {S : zS} {I : zI} {J : zJ} {Q : zQ} {h0 : Nat} {x1 : Int32} {x2 : Int32} {h3 : Nat} {h4 : Nat} {v5 : Value} {v6 : Value} {v7 : Value} {v8 : Value} {v9 : Value} {y0 : Int32} (kt : y0 = (0 : Int32) → Go d i_X11_quotient 53 [.ref h0, .int x1, .int x2, .ref h3, .ref h4, v5, v6, v7, v8, v9] [] S I J Q) (kf : ¬ y0 = (0 : Int32) → Go d i_X11_quotient 44 [.ref h0, .int x1, .int x2, .ref h3, .ref h4, v5, v6, v7, v8, v9] [] S I J Q) : Go d i_X11_quotient 41 [.ref h0, .int x1, .int x2, .ref h3, .ref h4, v5, v6, v7, v8, v9] [.int y0] S I J Q := by
  have h := (Go.ite kt kf)
  exact Go.n tb_X11_quotient 1 h
theorem b_X11_quotient_44 {d : Nat} {S : zS} {I : zI} {J : zJ} {Q : zQ} {h0 : Nat} {x1 : Int32} {x2 : Int32} {h3 : Nat} {h4 : Nat} {v5 : Value} {v6 : Value} {v7 : Value} {v8 : Value} {v9 : Value} (g1 : z_kd S h4 = 2) (kk : z_wp d i_X1_isOfWholeClasses [.ref h4, .int x2] S I J (fun vv SS II JJ => Go d i_X11_quotient 50 [.ref h0, .int x1, .int x2, .ref h3, .ref h4, v5, v6, v7, v8, v9] (vv.toList ++ []) SS II JJ Q)) : Go d i_X11_quotient 44 [.ref h0, .int x1, .int x2, .ref h3, .ref h4, v5, v6, v7, v8, v9] [] S I J Q := by
  have h := (And.intro g1 kk)
  exact Go.n tb_X11_quotient 3 h
theorem b_X11_quotient_50 {d : Nat} {S : zS} {I : zI} {J : zJ} {Q : zQ} {h0 : Nat} {x1 : Int32} {x2 : Int32} {h3 : Nat} {h4 : Nat} {v5 : Value} {v6 : Value} {v7 : Value} {v8 : Value} {v9 : Value} {y0 : Int32} (kt : ¬ y0 = (0 : Int32) → Go d i_X11_quotient 56 [.ref h0, .int x1, .int x2, .ref h3, .ref h4, v5, v6, v7, v8, v9] [] S I J Q) (kf : y0 = (0 : Int32) → Go d i_X11_quotient 53 [.ref h0, .int x1, .int x2, .ref h3, .ref h4, v5, v6, v7, v8, v9] [] S I J Q) : Go d i_X11_quotient 50 [.ref h0, .int x1, .int x2, .ref h3, .ref h4, v5, v6, v7, v8, v9] [.int y0] S I J Q := by
  have h := (Go.eti kt kf)
  exact Go.n tb_X11_quotient 1 h
theorem b_X11_quotient_53 {d : Nat} {S : zS} {I : zI} {J : zJ} {Q : zQ} {h0 : Nat} {x1 : Int32} {x2 : Int32} {h3 : Nat} {h4 : Nat} {v5 : Value} {v6 : Value} {v7 : Value} {v8 : Value} {v9 : Value} (kk : Q (some (.int (-5 : Int32))) S I J) : Go d i_X11_quotient 53 [.ref h0, .int x1, .int x2, .ref h3, .ref h4, v5, v6, v7, v8, v9] [] S I J Q := by
  have h := (And.intro trivial kk)
  exact Go.n tb_X11_quotient 2 h
theorem b_X11_quotient_56 {d : Nat} {S : zS} {I : zI} {J : zJ} {Q : zQ} {h0 : Nat} {x1 : Int32} {x2 : Int32} {h3 : Nat} {h4 : Nat} {v5 : Value} {v6 : Value} {v7 : Value} {v8 : Value} {v9 : Value} (g1 : z_kd S h0 = 12) (g2 : z_kd S (z_rv S h0 6) = 5) (kk : z_wp d i_X4_keep [.ref (z_rv S h0 6), .int x1, .ref h3] S I J (fun vv SS II JJ => Go d i_X11_quotient 65 [.ref h0, .int x1, .int x2, .ref h3, .ref h4, v5, v6, v7, v8, v9] (vv.toList ++ []) SS II JJ Q)) : Go d i_X11_quotient 56 [.ref h0, .int x1, .int x2, .ref h3, .ref h4, v5, v6, v7, v8, v9] [] S I J Q := by
  have h := (And.intro g1 (And.intro g2 kk))
  exact Go.n tb_X11_quotient 5 h
theorem b_X11_quotient_65 {d : Nat} {S : zS} {I : zI} {J : zJ} {Q : zQ} {h0 : Nat} {x1 : Int32} {x2 : Int32} {h3 : Nat} {h4 : Nat} {v5 : Value} {v6 : Value} {v7 : Value} {v8 : Value} {v9 : Value} {S1 : zS} {I2 : zI} (g1 : ¬ (20 : Int32) < 0 ∧ (Int32.toNatClampNeg (20 : Int32)) * 4 ≤ 536870912) (g2 : ¬ (z_sz S + 1) = 0) (g3 : ¬ (20 : Int32) < 0 ∧ (Int32.toNatClampNeg (20 : Int32)) * 4 ≤ 536870912) (eS1 : S1 = z_new (z_new S 100 (Int32.toNatClampNeg (20 : Int32)) (Int32.toNatClampNeg (20 : Int32))) 100 (Int32.toNatClampNeg (20 : Int32)) (Int32.toNatClampNeg (20 : Int32))) (eI2 : I2 = z_ur (z_ur I (z_sz S + 1) (fun _ => 0)) (z_sz (z_new S 100 (Int32.toNatClampNeg (20 : Int32)) (Int32.toNatClampNeg (20 : Int32))) + 1) (fun _ => 0)) (g6 : ¬ (z_sz (z_new S 100 (Int32.toNatClampNeg (20 : Int32)) (Int32.toNatClampNeg (20 : Int32))) + 1) = 0) (g7 : z_kd S1 h4 = 2) (kk : z_wp d i_X1_numberCosets [.ref h4, .int x2, .ref (z_sz S + 1), .ref (z_sz (z_new S 100 (Int32.toNatClampNeg (20 : Int32)) (Int32.toNatClampNeg (20 : Int32))) + 1)] S1 I2 J (fun vv SS II JJ => Go d i_X11_quotient 87 [.ref h0, .int x1, .int x2, .ref h3, .ref h4, .ref (z_sz S + 1), .ref (z_sz (z_new S 100 (Int32.toNatClampNeg (20 : Int32)) (Int32.toNatClampNeg (20 : Int32))) + 1), v7, v8, v9] (vv.toList ++ []) SS II JJ Q)) : Go d i_X11_quotient 65 [.ref h0, .int x1, .int x2, .ref h3, .ref h4, v5, v6, v7, v8, v9] [] S I J Q := by
  subst eI2
  subst eS1
  have h := (And.intro g1 (And.intro g2 (And.intro g3 (And.intro g6 (And.intro g7 kk)))))
  exact Go.n tb_X11_quotient 11 h
theorem b_X11_quotient_87 {d : Nat} {S : zS} {I : zI} {J : zJ} {Q : zQ} {h0 : Nat} {x1 : Int32} {x2 : Int32} {h3 : Nat} {h4 : Nat} {h5 : Nat} {h6 : Nat} {v7 : Value} {v8 : Value} {v9 : Value} {y0 : Int32} (kk : Go d i_X11_quotient 95 [.ref h0, .int x1, .int x2, .ref h3, .ref h4, .ref h5, .ref h6, .int y0, .int (0 : Int32), .int (0 : Int32)] [] S I J Q) : Go d i_X11_quotient 87 [.ref h0, .int x1, .int x2, .ref h3, .ref h4, .ref h5, .ref h6, v7, v8, v9] [.int y0] S I J Q := by
  have h := kk
  exact Go.n tb_X11_quotient 5 h
theorem b_X11_quotient_95 {d : Nat} {S : zS} {I : zI} {J : zJ} {Q : zQ} {h0 : Nat} {x1 : Int32} {x2 : Int32} {h3 : Nat} {h4 : Nat} {h5 : Nat} {h6 : Nat} {x7 : Int32} {x8 : Int32} {x9 : Int32} (g1 : z_kd S h4 = 2) (kt : (I h4 0) ≤ x9 → Go d i_X11_quotient 135 [.ref h0, .int x1, .int x2, .ref h3, .ref h4, .ref h5, .ref h6, .int x7, .int x8, .int x9] [] S I J Q) (kf : ¬ (I h4 0) ≤ x9 → Go d i_X11_quotient 105 [.ref h0, .int x1, .int x2, .ref h3, .ref h4, .ref h5, .ref h6, .int x7, .int x8, .int x9] [] S I J Q) : Go d i_X11_quotient 95 [.ref h0, .int x1, .int x2, .ref h3, .ref h4, .ref h5, .ref h6, .int x7, .int x8, .int x9] [] S I J Q := by
  have h := (And.intro g1 (Go.ite kt kf))
  exact Go.n tb_X11_quotient 4 h
theorem b_X11_quotient_105 {d : Nat} {S : zS} {I : zI} {J : zJ} {Q : zQ} {h0 : Nat} {x1 : Int32} {x2 : Int32} {h3 : Nat} {h4 : Nat} {h5 : Nat} {h6 : Nat} {x7 : Int32} {x8 : Int32} {x9 : Int32} (g1 : z_kd S h3 = 9) (kt : (((I h3 1) >>> (x9 &&& 31)) &&& (1 : Int32)) = (0 : Int32) → Go d i_X11_quotient 129 [.ref h0, .int x1, .int x2, .ref h3, .ref h4, .ref h5, .ref h6, .int x7, .int x8, .int x9] [] S I J Q) (kf : ¬ (((I h3 1) >>> (x9 &&& 31)) &&& (1 : Int32)) = (0 : Int32) → Go d i_X11_quotient 117 [.ref h0, .int x1, .int x2, .ref h3, .ref h4, .ref h5, .ref h6, .int x7, .int x8, .int x9] [] S I J Q) : Go d i_X11_quotient 105 [.ref h0, .int x1, .int x2, .ref h3, .ref h4, .ref h5, .ref h6, .int x7, .int x8, .int x9] [] S I J Q := by
  have h := (And.intro g1 (Go.ite kt kf))
  exact Go.n tb_X11_quotient 7 h
theorem b_X11_quotient_117 {d : Nat} {S : zS} {I : zI} {J : zJ} {Q : zQ} {h0 : Nat} {x1 : Int32} {x2 : Int32} {h3 : Nat} {h4 : Nat} {h5 : Nat} {h6 : Nat} {x7 : Int32} {x8 : Int32} {x9 : Int32} (g1 : z_isI (z_kd S h5) = true ∧ vp_in x9 (z_ln S h5)) (kk : Go d i_X11_quotient 95 [.ref h0, .int x1, .int x2, .ref h3, .ref h4, .ref h5, .ref h6, .int x7, .int (x8 ||| ((1 : Int32) <<< ((I h5 (Int32.toNatClampNeg x9)) &&& 31))), .int (x9 + (1 : Int32))] [] S I J Q) : Go d i_X11_quotient 117 [.ref h0, .int x1, .int x2, .ref h3, .ref h4, .ref h5, .ref h6, .int x7, .int x8, .int x9] [] S I J Q := by
  have h := (And.intro g1 kk)
  exact Go.n tb_X11_quotient 10 h
theorem b_X11_quotient_129 {d : Nat} {S : zS} {I : zI} {J : zJ} {Q : zQ} {h0 : Nat} {x1 : Int32} {x2 : Int32} {h3 : Nat} {h4 : Nat} {h5 : Nat} {h6 : Nat} {x7 : Int32} {x8 : Int32} {x9 : Int32} (kk : Go d i_X11_quotient 95 [.ref h0, .int x1, .int x2, .ref h3, .ref h4, .ref h5, .ref h6, .int x7, .int x8, .int (x9 + (1 : Int32))] [] S I J Q) : Go d i_X11_quotient 129 [.ref h0, .int x1, .int x2, .ref h3, .ref h4, .ref h5, .ref h6, .int x7, .int x8, .int x9] [] S I J Q := by
  have h := kk
  exact Go.n tb_X11_quotient 2 h
theorem b_X11_quotient_135 {d : Nat} {S : zS} {I : zI} {J : zJ} {Q : zQ} {h0 : Nat} {x1 : Int32} {x2 : Int32} {h3 : Nat} {h4 : Nat} {h5 : Nat} {h6 : Nat} {x7 : Int32} {x8 : Int32} {x9 : Int32} (g1 : z_kd S h4 = 2) (kk : z_wp d i_X1_dividedBy [.ref h4, .int x7, .ref h5, .ref h6] S I J (fun vv SS II JJ => Go d i_X11_quotient 148 [.ref h0, .int x1, .int x2, .ref h3, .ref h4, .ref h5, .ref h6, .int x7, .int x8, .int x9] (vv.toList ++ [.int x1, .ref h0]) SS II JJ Q)) : Go d i_X11_quotient 135 [.ref h0, .int x1, .int x2, .ref h3, .ref h4, .ref h5, .ref h6, .int x7, .int x8, .int x9] [] S I J Q := by
  have h := (And.intro g1 kk)
  exact Go.n tb_X11_quotient 7 h
theorem b_X11_quotient_148 {d : Nat} {S : zS} {I : zI} {J : zJ} {Q : zQ} {h0 : Nat} {x1 : Int32} {x2 : Int32} {h3 : Nat} {h4 : Nat} {h5 : Nat} {h6 : Nat} {x7 : Int32} {x8 : Int32} {x9 : Int32} {q0 : Nat} {y1 : Int32} {q2 : Nat} (g1 : z_kd S q0 = 12) (kk : z_wp d i_X11_become [.ref q0, .int y1, .ref q2, .int (x8 &&& (-2 : Int32))] S I J (fun vv SS II JJ => Go d i_X11_quotient 156 [.ref h0, .int x1, .int x2, .ref h3, .ref h4, .ref h5, .ref h6, .int x7, .int x8, .int x9] (vv.toList ++ []) SS II JJ Q)) : Go d i_X11_quotient 148 [.ref h0, .int x1, .int x2, .ref h3, .ref h4, .ref h5, .ref h6, .int x7, .int x8, .int x9] [.ref q2, .int y1, .ref q0] S I J Q := by
  have h := (And.intro g1 kk)
  exact Go.n tb_X11_quotient 4 h
theorem b_X11_quotient_156 {d : Nat} {S : zS} {I : zI} {J : zJ} {Q : zQ} {h0 : Nat} {x1 : Int32} {x2 : Int32} {h3 : Nat} {h4 : Nat} {h5 : Nat} {h6 : Nat} {x7 : Int32} {x8 : Int32} {x9 : Int32} (kk : Q (some (.int x7)) S I J) : Go d i_X11_quotient 156 [.ref h0, .int x1, .int x2, .ref h3, .ref h4, .ref h5, .ref h6, .int x7, .int x8, .int x9] [] S I J Q := by
  have h := (And.intro trivial kk)
  exact Go.n tb_X11_quotient 2 h
theorem w_X11_undo {d : Nat} {S : zS} {I : zI} {J : zJ} {Q : zQ} {h0 : Nat} (h : Go d i_X11_undo 0 [.ref h0, .retAddr 0] [] S I J Q) : z_wp (d + 1) i_X11_undo [.ref h0] S I J Q := Go.wp (Nat.le_of_ble_eq_true rfl) h
theorem e_X11_undo {d : Nat} {S S2 : zS} {I I2 : zI} {J J2 : zJ} {r : Option Value} {h0 : Nat} (h : Go d i_X11_undo 0 [.ref h0, .retAddr 0] [] S I J (z_eq r S2 I2 J2)) : z_ev (d + 1) i_X11_undo [.ref h0] S I J r S2 I2 J2 := Go.ev (Nat.le_of_ble_eq_true rfl) h
theorem b_X11_undo_0 {d : Nat} {S : zS} {I : zI} {J : zJ} {Q : zQ} {h0 : Nat} {v1 : Value} (g1 : z_kd S h0 = 12) (g2 : z_kd S (z_rv S h0 6) = 5) (kt : ¬ (I (z_rv S h0 6) 0) = (0 : Int32) → Go d i_X11_undo 13 [.ref h0, v1] [] S I J Q) (kf : (I (z_rv S h0 6) 0) = (0 : Int32) → Go d i_X11_undo 10 [.ref h0, v1] [] S I J Q) : Go d i_X11_undo 0 [.ref h0, v1] [] S I J Q := by
  have h := (And.intro g1 (And.intro g2 (Go.eti kt kf)))
  exact Go.n tb_X11_undo 4 h
theorem b_X11_undo_10 {d : Nat} {S : zS} {I : zI} {J : zJ} {Q : zQ} {h0 : Nat} {v1 : Value} (kk : Q (some (.int (-5 : Int32))) S I J) : Go d i_X11_undo 10 [.ref h0, v1] [] S I J Q := by
  have h := (And.intro trivial kk)
  exact Go.n tb_X11_undo 2 h
theorem b_X11_undo_13 {d : Nat} {S : zS} {I : zI} {J : zJ} {Q : zQ} {h0 : Nat} {v1 : Value} (g1 : z_kd S h0 = 12) (g2 : z_kd S (z_rv S h0 6) = 5) (kk : z_wp d i_X4_stepBack [.ref (z_rv S h0 6)] S I J (fun vv SS II JJ => Go d i_X11_undo 20 [.ref h0, v1] (vv.toList ++ []) SS II JJ Q)) : Go d i_X11_undo 13 [.ref h0, v1] [] S I J Q := by
  have h := (And.intro g1 (And.intro g2 kk))
  exact Go.n tb_X11_undo 3 h
theorem b_X11_undo_20 {d : Nat} {S : zS} {I : zI} {J : zJ} {Q : zQ} {h0 : Nat} {v1 : Value} (g1 : z_kd S h0 = 12) (g2 : z_kd S (z_rv S h0 6) = 5) (kk : z_wp d i_X4_group [.ref (z_rv S h0 6)] S I J (fun vv SS II JJ => Go d i_X11_undo 27 [.ref h0, v1] (vv.toList ++ []) SS II JJ Q)) : Go d i_X11_undo 20 [.ref h0, v1] [] S I J Q := by
  have h := (And.intro g1 (And.intro g2 kk))
  exact Go.n tb_X11_undo 3 h
theorem b_X11_undo_27 {d : Nat} {S : zS} {I : zI} {J : zJ} {Q : zQ} {h0 : Nat} {v1 : Value} {q0 : Nat} (g1 : ¬ q0 = 0) (kt : q0 = 0 → Go d i_X11_undo 51 [.ref h0, .ref q0] [] S I J Q) (kf : ¬ q0 = 0 → Go d i_X11_undo 32 [.ref h0, .ref q0] [] S I J Q) : Go d i_X11_undo 27 [.ref h0, v1] [.ref q0] S I J Q := by
  have h := (And.intro g1 (Go.ite kt kf))
  exact Go.n tb_X11_undo 3 h
theorem b_X11_undo_32 {d : Nat} {S : zS} {I : zI} {J : zJ} {Q : zQ} {h0 : Nat} {h1 : Nat} (g1 : z_kd S h0 = 12) (g2 : z_kd S (z_rv S h0 6) = 5) (kk : z_wp d i_X4_slot [.ref (z_rv S h0 6)] S I J (fun vv SS II JJ => Go d i_X11_undo 40 [.ref h0, .ref h1] (vv.toList ++ [.ref h0]) SS II JJ Q)) : Go d i_X11_undo 32 [.ref h0, .ref h1] [] S I J Q := by
  have h := (And.intro g1 (And.intro g2 kk))
  exact Go.n tb_X11_undo 4 h
theorem b_X11_undo_40 {d : Nat} {S : zS} {I : zI} {J : zJ} {Q : zQ} {h0 : Nat} {h1 : Nat} {q0 : Nat} {y1 : Int32} (g1 : z_kd S h0 = 12) (g2 : z_kd S (z_rv S h0 6) = 5) (kk : z_wp d i_X4_steps [.ref (z_rv S h0 6)] S I J (fun vv SS II JJ => Go d i_X11_undo 48 [.ref h0, .ref h1] (vv.toList ++ [.ref h1, .int y1, .ref q0]) SS II JJ Q)) : Go d i_X11_undo 40 [.ref h0, .ref h1] [.int y1, .ref q0] S I J Q := by
  have h := (And.intro g1 (And.intro g2 kk))
  exact Go.n tb_X11_undo 4 h
theorem b_X11_undo_48 {d : Nat} {S : zS} {I : zI} {J : zJ} {Q : zQ} {h0 : Nat} {h1 : Nat} {q0 : Nat} {y1 : Int32} {q2 : Nat} {y3 : Int32} (g1 : z_kd S q0 = 12) (kk : z_wp d i_X11_become [.ref q0, .int y1, .ref q2, .int y3] S I J (fun vv SS II JJ => Go d i_X11_undo 51 [.ref h0, .ref h1] (vv.toList ++ []) SS II JJ Q)) : Go d i_X11_undo 48 [.ref h0, .ref h1] [.int y3, .ref q2, .int y1, .ref q0] S I J Q := by
  have h := (And.intro g1 kk)
  exact Go.n tb_X11_undo 1 h
theorem b_X11_undo_51 {d : Nat} {S : zS} {I : zI} {J : zJ} {Q : zQ} {h0 : Nat} {h1 : Nat} (g1 : z_kd S h0 = 12) (g2 : z_kd S (z_rv S h0 6) = 5) (kk : Q (some (.int (I (z_rv S h0 6) 0))) S I J) : Go d i_X11_undo 51 [.ref h0, .ref h1] [] S I J Q := by
  have h := (And.intro g1 (And.intro g2 (And.intro trivial kk)))
  exact Go.n tb_X11_undo 4 h
theorem w_X11_become {d : Nat} {S : zS} {I : zI} {J : zJ} {Q : zQ} {h0 : Nat} {x1 : Int32} {h2 : Nat} {x3 : Int32} (h : Go d i_X11_become 0 [.ref h0, .int x1, .ref h2, .int x3] [] S I J Q) : z_wp (d + 1) i_X11_become [.ref h0, .int x1, .ref h2, .int x3] S I J Q := Go.wp (Nat.le_of_ble_eq_true rfl) h
theorem e_X11_become {d : Nat} {S S2 : zS} {I I2 : zI} {J J2 : zJ} {r : Option Value} {h0 : Nat} {x1 : Int32} {h2 : Nat} {x3 : Int32} (h : Go d i_X11_become 0 [.ref h0, .int x1, .ref h2, .int x3] [] S I J (z_eq r S2 I2 J2)) : z_ev (d + 1) i_X11_become [.ref h0, .int x1, .ref h2, .int x3] S I J r S2 I2 J2 := Go.ev (Nat.le_of_ble_eq_true rfl) h
theorem b_X11_become_0 {d : Nat} {S : zS} {I : zI} {J : zJ} {Q : zQ} {h0 : Nat} {x1 : Int32} {h2 : Nat} {x3 : Int32} (g1 : z_kd S h0 = 12) (g2 : z_isR (z_kd S (z_rv S h0 5)) = true ∧ vp_in x1 (z_ln S (z_rv S h0 5))) (g3 : z_kd S (z_rv S (z_rv S h0 5) (Int32.toNatClampNeg x1)) = 9) (kk : z_wp d i_X8_become [.ref (z_rv S (z_rv S h0 5) (Int32.toNatClampNeg x1)), .ref h2, .int x3] S I J (fun vv SS II JJ => Go d i_X11_become 11 [.ref h0, .int x1, .ref h2, .int x3] (vv.toList ++ []) SS II JJ Q)) : Go d i_X11_become 0 [.ref h0, .int x1, .ref h2, .int x3] [] S I J Q := by
  have h := (And.intro g1 (And.intro g2 (And.intro g3 kk)))
  exact Go.n tb_X11_become 7 h
theorem b_X11_become_11 {d : Nat} {S : zS} {I : zI} {J : zJ} {Q : zQ} {h0 : Nat} {x1 : Int32} {h2 : Nat} {x3 : Int32} (g1 : z_kd S h0 = 12 ∧ ((0 : Int32) = 0 ∨ (0 : Int32) = 1)) (g2 : z_kd S h0 = 12 ∧ ((0 : Int32) = 0 ∨ (0 : Int32) = 1)) (g3 : z_kd S h0 = 12 ∧ ((0 : Int32) = 0 ∨ (0 : Int32) = 1)) (kk : Q none S (z_u2 (z_u2 (z_u2 I h0 13 (0 : Int32)) h0 14 (0 : Int32)) h0 15 (0 : Int32)) J) : Go d i_X11_become 11 [.ref h0, .int x1, .ref h2, .int x3] [] S I J Q := by
  have h := (And.intro g1 (And.intro g2 (And.intro g3 (And.intro trivial kk))))
  exact Go.n tb_X11_become 10 h
theorem w_X11_size {d : Nat} {S : zS} {I : zI} {J : zJ} {Q : zQ} {h0 : Nat} {x1 : Int32} {x2 : Int32} (h : Go d i_X11_size 0 [.ref h0, .int x1, .int x2, .retAddr 0] [] S I J Q) : z_wp (d + 1) i_X11_size [.ref h0, .int x1, .int x2] S I J Q := Go.wp (Nat.le_of_ble_eq_true rfl) h
theorem e_X11_size {d : Nat} {S S2 : zS} {I I2 : zI} {J J2 : zJ} {r : Option Value} {h0 : Nat} {x1 : Int32} {x2 : Int32} (h : Go d i_X11_size 0 [.ref h0, .int x1, .int x2, .retAddr 0] [] S I J (z_eq r S2 I2 J2)) : z_ev (d + 1) i_X11_size [.ref h0, .int x1, .int x2] S I J r S2 I2 J2 := Go.ev (Nat.le_of_ble_eq_true rfl) h
theorem b_X11_size_0 {d : Nat} {S : zS} {I : zI} {J : zJ} {Q : zQ} {h0 : Nat} {x1 : Int32} {x2 : Int32} {v3 : Value} (kk : z_wp d i_X11_isSlot [.int x1] S I J (fun vv SS II JJ => Go d i_X11_size 4 [.ref h0, .int x1, .int x2, v3] (vv.toList ++ []) SS II JJ Q)) : Go d i_X11_size 0 [.ref h0, .int x1, .int x2, v3] [] S I J Q := by
  have h := (And.intro trivial kk)
  exact Go.n tb_X11_size 2 h
theorem b_X11_size_4 {d : Nat} {S : zS} {I : zI} {J : zJ} {Q : zQ} {h0 : Nat} {x1 : Int32} {x2 : Int32} {v3 : Value} {y0 : Int32} (kt : ¬ y0 = (0 : Int32) → Go d i_X11_size 10 [.ref h0, .int x1, .int x2, v3] [] S I J Q) (kf : y0 = (0 : Int32) → Go d i_X11_size 7 [.ref h0, .int x1, .int x2, v3] [] S I J Q) : Go d i_X11_size 4 [.ref h0, .int x1, .int x2, v3] [.int y0] S I J Q := by
  have h := (Go.eti kt kf)
  exact Go.n tb_X11_size 1 h
theorem b_X11_size_7 {d : Nat} {S : zS} {I : zI} {J : zJ} {Q : zQ} {h0 : Nat} {x1 : Int32} {x2 : Int32} {v3 : Value} (kk : Q (some (.int (-2 : Int32))) S I J) : Go d i_X11_size 7 [.ref h0, .int x1, .int x2, v3] [] S I J Q := by
  have h := (And.intro trivial kk)
  exact Go.n tb_X11_size 2 h
theorem b_X11_size_10 {d : Nat} {S : zS} {I : zI} {J : zJ} {Q : zQ} {h0 : Nat} {x1 : Int32} {x2 : Int32} {v3 : Value} (g1 : z_kd S h0 = 12) (g2 : z_isR (z_kd S (z_rv S h0 5)) = true ∧ vp_in x1 (z_ln S (z_rv S h0 5))) (g3 : z_kd S (z_rv S (z_rv S h0 5) (Int32.toNatClampNeg x1)) = 9) (g4 : ¬ (z_rv S (z_rv S (z_rv S h0 5) (Int32.toNatClampNeg x1)) 0) = 0) (kk : Go d i_X11_size (z_sw [(0, 64), (1, 69), (2, 82), (3, 87), (4, 92), (5, 97), (6, 105)] 110 x2) [.ref h0, .int x1, .int x2, .ref (z_rv S (z_rv S (z_rv S h0 5) (Int32.toNatClampNeg x1)) 0)] [] S I J Q) : Go d i_X11_size 10 [.ref h0, .int x1, .int x2, v3] [] S I J Q := by
  have h := (And.intro g1 (And.intro g2 (And.intro g3 (And.intro g4 kk))))
  exact Go.n tb_X11_size 8 h
theorem b_X11_size_64 {d : Nat} {S : zS} {I : zI} {J : zJ} {Q : zQ} {h0 : Nat} {x1 : Int32} {x2 : Int32} {h3 : Nat} (g1 : z_kd S h3 = 2) (kk : Q (some (.int (I h3 0))) S I J) : Go d i_X11_size 64 [.ref h0, .int x1, .int x2, .ref h3] [] S I J Q := by
  have h := (And.intro g1 (And.intro trivial kk))
  exact Go.n tb_X11_size 3 h
theorem b_X11_size_69 {d : Nat} {S : zS} {I : zI} {J : zJ} {Q : zQ} {h0 : Nat} {x1 : Int32} {x2 : Int32} {h3 : Nat} (g1 : z_kd S h0 = 12) (g2 : z_isR (z_kd S (z_rv S h0 5)) = true ∧ vp_in x1 (z_ln S (z_rv S h0 5))) (g3 : z_kd S (z_rv S (z_rv S h0 5) (Int32.toNatClampNeg x1)) = 9) (kk : z_wp d i_J6_bitCount_0f7a4 [.int (I (z_rv S (z_rv S h0 5) (Int32.toNatClampNeg x1)) 1)] S I J (fun vv SS II JJ => Go d i_X11_size 81 [.ref h0, .int x1, .int x2, .ref h3] (vv.toList ++ []) SS II JJ Q)) : Go d i_X11_size 69 [.ref h0, .int x1, .int x2, .ref h3] [] S I J Q := by
  have h := (And.intro g1 (And.intro g2 (And.intro g3 (And.intro trivial kk))))
  exact Go.n tb_X11_size 6 h
theorem b_X11_size_81 {d : Nat} {S : zS} {I : zI} {J : zJ} {Q : zQ} {h0 : Nat} {x1 : Int32} {x2 : Int32} {h3 : Nat} {y0 : Int32} (kk : Q (some (.int y0)) S I J) : Go d i_X11_size 81 [.ref h0, .int x1, .int x2, .ref h3] [.int y0] S I J Q := by
  have h := (And.intro trivial kk)
  exact Go.n tb_X11_size 1 h
theorem b_X11_size_82 {d : Nat} {S : zS} {I : zI} {J : zJ} {Q : zQ} {h0 : Nat} {x1 : Int32} {x2 : Int32} {h3 : Nat} (g1 : z_kd S h3 = 2) (kk : z_wp d i_X1_centreOrder [.ref h3] S I J (fun vv SS II JJ => Go d i_X11_size 86 [.ref h0, .int x1, .int x2, .ref h3] (vv.toList ++ []) SS II JJ Q)) : Go d i_X11_size 82 [.ref h0, .int x1, .int x2, .ref h3] [] S I J Q := by
  have h := (And.intro g1 kk)
  exact Go.n tb_X11_size 2 h
theorem b_X11_size_86 {d : Nat} {S : zS} {I : zI} {J : zJ} {Q : zQ} {h0 : Nat} {x1 : Int32} {x2 : Int32} {h3 : Nat} {y0 : Int32} (kk : Q (some (.int y0)) S I J) : Go d i_X11_size 86 [.ref h0, .int x1, .int x2, .ref h3] [.int y0] S I J Q := by
  have h := (And.intro trivial kk)
  exact Go.n tb_X11_size 1 h
theorem b_X11_size_87 {d : Nat} {S : zS} {I : zI} {J : zJ} {Q : zQ} {h0 : Nat} {x1 : Int32} {x2 : Int32} {h3 : Nat} (g1 : z_kd S h3 = 2) (kk : z_wp d i_X1_countClasses [.ref h3] S I J (fun vv SS II JJ => Go d i_X11_size 91 [.ref h0, .int x1, .int x2, .ref h3] (vv.toList ++ []) SS II JJ Q)) : Go d i_X11_size 87 [.ref h0, .int x1, .int x2, .ref h3] [] S I J Q := by
  have h := (And.intro g1 kk)
  exact Go.n tb_X11_size 2 h
theorem b_X11_size_91 {d : Nat} {S : zS} {I : zI} {J : zJ} {Q : zQ} {h0 : Nat} {x1 : Int32} {x2 : Int32} {h3 : Nat} {y0 : Int32} (kk : Q (some (.int y0)) S I J) : Go d i_X11_size 91 [.ref h0, .int x1, .int x2, .ref h3] [.int y0] S I J Q := by
  have h := (And.intro trivial kk)
  exact Go.n tb_X11_size 1 h
theorem b_X11_size_92 {d : Nat} {S : zS} {I : zI} {J : zJ} {Q : zQ} {h0 : Nat} {x1 : Int32} {x2 : Int32} {h3 : Nat} (g1 : z_kd S h3 = 2) (kk : z_wp d i_X1_countSubgroups [.ref h3] S I J (fun vv SS II JJ => Go d i_X11_size 96 [.ref h0, .int x1, .int x2, .ref h3] (vv.toList ++ []) SS II JJ Q)) : Go d i_X11_size 92 [.ref h0, .int x1, .int x2, .ref h3] [] S I J Q := by
  have h := (And.intro g1 kk)
  exact Go.n tb_X11_size 2 h
theorem b_X11_size_96 {d : Nat} {S : zS} {I : zI} {J : zJ} {Q : zQ} {h0 : Nat} {x1 : Int32} {x2 : Int32} {h3 : Nat} {y0 : Int32} (kk : Q (some (.int y0)) S I J) : Go d i_X11_size 96 [.ref h0, .int x1, .int x2, .ref h3] [.int y0] S I J Q := by
  have h := (And.intro trivial kk)
  exact Go.n tb_X11_size 1 h
theorem b_X11_size_97 {d : Nat} {S : zS} {I : zI} {J : zJ} {Q : zQ} {h0 : Nat} {x1 : Int32} {x2 : Int32} {h3 : Nat} (g1 : z_kd S h3 = 2) (kk : z_wp d i_X1_derived [.ref h3] S I J (fun vv SS II JJ => Go d i_X11_size 101 [.ref h0, .int x1, .int x2, .ref h3] (vv.toList ++ []) SS II JJ Q)) : Go d i_X11_size 97 [.ref h0, .int x1, .int x2, .ref h3] [] S I J Q := by
  have h := (And.intro g1 kk)
  exact Go.n tb_X11_size 2 h
theorem b_X11_size_101 {d : Nat} {S : zS} {I : zI} {J : zJ} {Q : zQ} {h0 : Nat} {x1 : Int32} {x2 : Int32} {h3 : Nat} {y0 : Int32} (kk : z_wp d i_J6_bitCount_0f7a4 [.int y0] S I J (fun vv SS II JJ => Go d i_X11_size 104 [.ref h0, .int x1, .int x2, .ref h3] (vv.toList ++ []) SS II JJ Q)) : Go d i_X11_size 101 [.ref h0, .int x1, .int x2, .ref h3] [.int y0] S I J Q := by
  have h := (And.intro trivial kk)
  exact Go.n tb_X11_size 1 h
theorem b_X11_size_104 {d : Nat} {S : zS} {I : zI} {J : zJ} {Q : zQ} {h0 : Nat} {x1 : Int32} {x2 : Int32} {h3 : Nat} {y0 : Int32} (kk : Q (some (.int y0)) S I J) : Go d i_X11_size 104 [.ref h0, .int x1, .int x2, .ref h3] [.int y0] S I J Q := by
  have h := (And.intro trivial kk)
  exact Go.n tb_X11_size 1 h
theorem b_X11_size_105 {d : Nat} {S : zS} {I : zI} {J : zJ} {Q : zQ} {h0 : Nat} {x1 : Int32} {x2 : Int32} {h3 : Nat} (g1 : z_kd S h3 = 2) (kk : z_wp d i_X1_exponent [.ref h3] S I J (fun vv SS II JJ => Go d i_X11_size 109 [.ref h0, .int x1, .int x2, .ref h3] (vv.toList ++ []) SS II JJ Q)) : Go d i_X11_size 105 [.ref h0, .int x1, .int x2, .ref h3] [] S I J Q := by
  have h := (And.intro g1 kk)
  exact Go.n tb_X11_size 2 h
theorem b_X11_size_109 {d : Nat} {S : zS} {I : zI} {J : zJ} {Q : zQ} {h0 : Nat} {x1 : Int32} {x2 : Int32} {h3 : Nat} {y0 : Int32} (kk : Q (some (.int y0)) S I J) : Go d i_X11_size 109 [.ref h0, .int x1, .int x2, .ref h3] [.int y0] S I J Q := by
  have h := (And.intro trivial kk)
  exact Go.n tb_X11_size 1 h
theorem b_X11_size_110 {d : Nat} {S : zS} {I : zI} {J : zJ} {Q : zQ} {h0 : Nat} {x1 : Int32} {x2 : Int32} {h3 : Nat} (kk : Q (some (.int (-2 : Int32))) S I J) : Go d i_X11_size 110 [.ref h0, .int x1, .int x2, .ref h3] [] S I J Q := by
  have h := (And.intro trivial kk)
  exact Go.n tb_X11_size 2 h
theorem w_X11_product {d : Nat} {S : zS} {I : zI} {J : zJ} {Q : zQ} {h0 : Nat} {x1 : Int32} {x2 : Int32} {x3 : Int32} (h : Go d i_X11_product 0 [.ref h0, .int x1, .int x2, .int x3] [] S I J Q) : z_wp (d + 1) i_X11_product [.ref h0, .int x1, .int x2, .int x3] S I J Q := Go.wp (Nat.le_of_ble_eq_true rfl) h
theorem e_X11_product {d : Nat} {S S2 : zS} {I I2 : zI} {J J2 : zJ} {r : Option Value} {h0 : Nat} {x1 : Int32} {x2 : Int32} {x3 : Int32} (h : Go d i_X11_product 0 [.ref h0, .int x1, .int x2, .int x3] [] S I J (z_eq r S2 I2 J2)) : z_ev (d + 1) i_X11_product [.ref h0, .int x1, .int x2, .int x3] S I J r S2 I2 J2 := Go.ev (Nat.le_of_ble_eq_true rfl) h
theorem b_X11_product_0 {d : Nat} {S : zS} {I : zI} {J : zJ} {Q : zQ} {h0 : Nat} {x1 : Int32} {x2 : Int32} {x3 : Int32} (g1 : z_kd S h0 = 12) (kk : z_wp d i_X11_isElement [.ref h0, .int x1, .int x2] S I J (fun vv SS II JJ => Go d i_X11_product 6 [.ref h0, .int x1, .int x2, .int x3] (vv.toList ++ []) SS II JJ Q)) : Go d i_X11_product 0 [.ref h0, .int x1, .int x2, .int x3] [] S I J Q := by
  have h := (And.intro g1 kk)
  exact Go.n tb_X11_product 4 h
theorem b_X11_product_6 {d : Nat} {S : zS} {I : zI} {J : zJ} {Q : zQ} {h0 : Nat} {x1 : Int32} {x2 : Int32} {x3 : Int32} {y0 : Int32} (kt : y0 = (0 : Int32) → Go d i_X11_product 18 [.ref h0, .int x1, .int x2, .int x3] [] S I J Q) (kf : ¬ y0 = (0 : Int32) → Go d i_X11_product 9 [.ref h0, .int x1, .int x2, .int x3] [] S I J Q) : Go d i_X11_product 6 [.ref h0, .int x1, .int x2, .int x3] [.int y0] S I J Q := by
  have h := (Go.ite kt kf)
  exact Go.n tb_X11_product 1 h
theorem b_X11_product_9 {d : Nat} {S : zS} {I : zI} {J : zJ} {Q : zQ} {h0 : Nat} {x1 : Int32} {x2 : Int32} {x3 : Int32} (g1 : z_kd S h0 = 12) (kk : z_wp d i_X11_isElement [.ref h0, .int x1, .int x3] S I J (fun vv SS II JJ => Go d i_X11_product 15 [.ref h0, .int x1, .int x2, .int x3] (vv.toList ++ []) SS II JJ Q)) : Go d i_X11_product 9 [.ref h0, .int x1, .int x2, .int x3] [] S I J Q := by
  have h := (And.intro g1 kk)
  exact Go.n tb_X11_product 4 h
theorem b_X11_product_15 {d : Nat} {S : zS} {I : zI} {J : zJ} {Q : zQ} {h0 : Nat} {x1 : Int32} {x2 : Int32} {x3 : Int32} {y0 : Int32} (kt : ¬ y0 = (0 : Int32) → Go d i_X11_product 21 [.ref h0, .int x1, .int x2, .int x3] [] S I J Q) (kf : y0 = (0 : Int32) → Go d i_X11_product 18 [.ref h0, .int x1, .int x2, .int x3] [] S I J Q) : Go d i_X11_product 15 [.ref h0, .int x1, .int x2, .int x3] [.int y0] S I J Q := by
  have h := (Go.eti kt kf)
  exact Go.n tb_X11_product 1 h
theorem b_X11_product_18 {d : Nat} {S : zS} {I : zI} {J : zJ} {Q : zQ} {h0 : Nat} {x1 : Int32} {x2 : Int32} {x3 : Int32} (kk : Q (some (.int (-2 : Int32))) S I J) : Go d i_X11_product 18 [.ref h0, .int x1, .int x2, .int x3] [] S I J Q := by
  have h := (And.intro trivial kk)
  exact Go.n tb_X11_product 2 h
theorem b_X11_product_21 {d : Nat} {S : zS} {I : zI} {J : zJ} {Q : zQ} {h0 : Nat} {x1 : Int32} {x2 : Int32} {x3 : Int32} (g1 : z_kd S h0 = 12) (g2 : z_isR (z_kd S (z_rv S h0 5)) = true ∧ vp_in x1 (z_ln S (z_rv S h0 5))) (g3 : z_kd S (z_rv S (z_rv S h0 5) (Int32.toNatClampNeg x1)) = 9) (g4 : z_kd S (z_rv S (z_rv S (z_rv S h0 5) (Int32.toNatClampNeg x1)) 0) = 2) (kk : z_wp d i_X1_times [.ref (z_rv S (z_rv S (z_rv S h0 5) (Int32.toNatClampNeg x1)) 0), .int x2, .int x3] S I J (fun vv SS II JJ => Go d i_X11_product 35 [.ref h0, .int x1, .int x2, .int x3] (vv.toList ++ []) SS II JJ Q)) : Go d i_X11_product 21 [.ref h0, .int x1, .int x2, .int x3] [] S I J Q := by
  have h := (And.intro g1 (And.intro g2 (And.intro g3 (And.intro g4 kk))))
  exact Go.n tb_X11_product 8 h
theorem b_X11_product_35 {d : Nat} {S : zS} {I : zI} {J : zJ} {Q : zQ} {h0 : Nat} {x1 : Int32} {x2 : Int32} {x3 : Int32} {y0 : Int32} (kk : Q (some (.int y0)) S I J) : Go d i_X11_product 35 [.ref h0, .int x1, .int x2, .int x3] [.int y0] S I J Q := by
  have h := (And.intro trivial kk)
  exact Go.n tb_X11_product 1 h
theorem w_X11_element {d : Nat} {S : zS} {I : zI} {J : zJ} {Q : zQ} {h0 : Nat} {x1 : Int32} {x2 : Int32} {x3 : Int32} (h : Go d i_X11_element 0 [.ref h0, .int x1, .int x2, .int x3, .retAddr 0] [] S I J Q) : z_wp (d + 1) i_X11_element [.ref h0, .int x1, .int x2, .int x3] S I J Q := Go.wp (Nat.le_of_ble_eq_true rfl) h
theorem e_X11_element {d : Nat} {S S2 : zS} {I I2 : zI} {J J2 : zJ} {r : Option Value} {h0 : Nat} {x1 : Int32} {x2 : Int32} {x3 : Int32} (h : Go d i_X11_element 0 [.ref h0, .int x1, .int x2, .int x3, .retAddr 0] [] S I J (z_eq r S2 I2 J2)) : z_ev (d + 1) i_X11_element [.ref h0, .int x1, .int x2, .int x3] S I J r S2 I2 J2 := Go.ev (Nat.le_of_ble_eq_true rfl) h
theorem b_X11_element_0 {d : Nat} {S : zS} {I : zI} {J : zJ} {Q : zQ} {h0 : Nat} {x1 : Int32} {x2 : Int32} {x3 : Int32} {v4 : Value} (g1 : z_kd S h0 = 12) (kk : z_wp d i_X11_isElement [.ref h0, .int x1, .int x2] S I J (fun vv SS II JJ => Go d i_X11_element 6 [.ref h0, .int x1, .int x2, .int x3, v4] (vv.toList ++ []) SS II JJ Q)) : Go d i_X11_element 0 [.ref h0, .int x1, .int x2, .int x3, v4] [] S I J Q := by
  have h := (And.intro g1 kk)
  exact Go.n tb_X11_element 4 h
theorem b_X11_element_6 {d : Nat} {S : zS} {I : zI} {J : zJ} {Q : zQ} {h0 : Nat} {x1 : Int32} {x2 : Int32} {x3 : Int32} {v4 : Value} {y0 : Int32} (kt : ¬ y0 = (0 : Int32) → Go d i_X11_element 12 [.ref h0, .int x1, .int x2, .int x3, v4] [] S I J Q) (kf : y0 = (0 : Int32) → Go d i_X11_element 9 [.ref h0, .int x1, .int x2, .int x3, v4] [] S I J Q) : Go d i_X11_element 6 [.ref h0, .int x1, .int x2, .int x3, v4] [.int y0] S I J Q := by
  have h := (Go.eti kt kf)
  exact Go.n tb_X11_element 1 h
theorem b_X11_element_9 {d : Nat} {S : zS} {I : zI} {J : zJ} {Q : zQ} {h0 : Nat} {x1 : Int32} {x2 : Int32} {x3 : Int32} {v4 : Value} (kk : Q (some (.int (-2 : Int32))) S I J) : Go d i_X11_element 9 [.ref h0, .int x1, .int x2, .int x3, v4] [] S I J Q := by
  have h := (And.intro trivial kk)
  exact Go.n tb_X11_element 2 h
theorem b_X11_element_12 {d : Nat} {S : zS} {I : zI} {J : zJ} {Q : zQ} {h0 : Nat} {x1 : Int32} {x2 : Int32} {x3 : Int32} {v4 : Value} (g1 : z_kd S h0 = 12) (g2 : z_isR (z_kd S (z_rv S h0 5)) = true ∧ vp_in x1 (z_ln S (z_rv S h0 5))) (g3 : z_kd S (z_rv S (z_rv S h0 5) (Int32.toNatClampNeg x1)) = 9) (g4 : ¬ (z_rv S (z_rv S (z_rv S h0 5) (Int32.toNatClampNeg x1)) 0) = 0) (kk : Go d i_X11_element (z_sw [(0, 56), (1, 64), (2, 72), (3, 86)] 97 x3) [.ref h0, .int x1, .int x2, .int x3, .ref (z_rv S (z_rv S (z_rv S h0 5) (Int32.toNatClampNeg x1)) 0)] [] S I J Q) : Go d i_X11_element 12 [.ref h0, .int x1, .int x2, .int x3, v4] [] S I J Q := by
  have h := (And.intro g1 (And.intro g2 (And.intro g3 (And.intro g4 kk))))
  exact Go.n tb_X11_element 8 h
theorem b_X11_element_56 {d : Nat} {S : zS} {I : zI} {J : zJ} {Q : zQ} {h0 : Nat} {x1 : Int32} {x2 : Int32} {x3 : Int32} {h4 : Nat} (g1 : z_kd S h4 = 2) (g2 : z_isI (z_kd S (z_rv S h4 2)) = true ∧ vp_in x2 (z_ln S (z_rv S h4 2))) (kk : Q (some (.int (I (z_rv S h4 2) (Int32.toNatClampNeg x2)))) S I J) : Go d i_X11_element 56 [.ref h0, .int x1, .int x2, .int x3, .ref h4] [] S I J Q := by
  have h := (And.intro g1 (And.intro g2 (And.intro trivial kk)))
  exact Go.n tb_X11_element 5 h
theorem b_X11_element_64 {d : Nat} {S : zS} {I : zI} {J : zJ} {Q : zQ} {h0 : Nat} {x1 : Int32} {x2 : Int32} {x3 : Int32} {h4 : Nat} (g1 : z_kd S h4 = 2) (g2 : z_isI (z_kd S (z_rv S h4 3)) = true ∧ vp_in x2 (z_ln S (z_rv S h4 3))) (kk : Q (some (.int (I (z_rv S h4 3) (Int32.toNatClampNeg x2)))) S I J) : Go d i_X11_element 64 [.ref h0, .int x1, .int x2, .int x3, .ref h4] [] S I J Q := by
  have h := (And.intro g1 (And.intro g2 (And.intro trivial kk)))
  exact Go.n tb_X11_element 5 h
theorem b_X11_element_72 {d : Nat} {S : zS} {I : zI} {J : zJ} {Q : zQ} {h0 : Nat} {x1 : Int32} {x2 : Int32} {x3 : Int32} {h4 : Nat} (g1 : z_kd S h0 = 12) (g2 : z_isR (z_kd S (z_rv S h0 5)) = true ∧ vp_in x1 (z_ln S (z_rv S h0 5))) (g3 : z_kd S (z_rv S (z_rv S h0 5) (Int32.toNatClampNeg x1)) = 9) (kk : Q (some (.int (((I (z_rv S (z_rv S h0 5) (Int32.toNatClampNeg x1)) 1) >>> (x2 &&& 31)) &&& (1 : Int32)))) S I J) : Go d i_X11_element 72 [.ref h0, .int x1, .int x2, .int x3, .ref h4] [] S I J Q := by
  have h := (And.intro g1 (And.intro g2 (And.intro g3 (And.intro trivial kk))))
  exact Go.n tb_X11_element 10 h
theorem b_X11_element_86 {d : Nat} {S : zS} {I : zI} {J : zJ} {Q : zQ} {h0 : Nat} {x1 : Int32} {x2 : Int32} {x3 : Int32} {h4 : Nat} (g1 : z_kd S h4 = 2) (g2 : z_isI (z_kd S (z_rv S h4 4)) = true ∧ vp_in x2 (z_ln S (z_rv S h4 4))) (kk : z_wp d i_J6_bitCount_0f7a4 [.int (I (z_rv S h4 4) (Int32.toNatClampNeg x2))] S I J (fun vv SS II JJ => Go d i_X11_element 96 [.ref h0, .int x1, .int x2, .int x3, .ref h4] (vv.toList ++ []) SS II JJ Q)) : Go d i_X11_element 86 [.ref h0, .int x1, .int x2, .int x3, .ref h4] [] S I J Q := by
  have h := (And.intro g1 (And.intro g2 (And.intro trivial kk)))
  exact Go.n tb_X11_element 5 h
theorem b_X11_element_96 {d : Nat} {S : zS} {I : zI} {J : zJ} {Q : zQ} {h0 : Nat} {x1 : Int32} {x2 : Int32} {x3 : Int32} {h4 : Nat} {y0 : Int32} (kk : Q (some (.int y0)) S I J) : Go d i_X11_element 96 [.ref h0, .int x1, .int x2, .int x3, .ref h4] [.int y0] S I J Q := by
  have h := (And.intro trivial kk)
  exact Go.n tb_X11_element 1 h
theorem b_X11_element_97 {d : Nat} {S : zS} {I : zI} {J : zJ} {Q : zQ} {h0 : Nat} {x1 : Int32} {x2 : Int32} {x3 : Int32} {h4 : Nat} (kk : Q (some (.int (-2 : Int32))) S I J) : Go d i_X11_element 97 [.ref h0, .int x1, .int x2, .int x3, .ref h4] [] S I J Q := by
  have h := (And.intro trivial kk)
  exact Go.n tb_X11_element 2 h
theorem w_X11_classOf {d : Nat} {S : zS} {I : zI} {J : zJ} {Q : zQ} {h0 : Nat} {x1 : Int32} {x2 : Int32} (h : Go d i_X11_classOf 0 [.ref h0, .int x1, .int x2] [] S I J Q) : z_wp (d + 1) i_X11_classOf [.ref h0, .int x1, .int x2] S I J Q := Go.wp (Nat.le_of_ble_eq_true rfl) h
theorem e_X11_classOf {d : Nat} {S S2 : zS} {I I2 : zI} {J J2 : zJ} {r : Option Value} {h0 : Nat} {x1 : Int32} {x2 : Int32} (h : Go d i_X11_classOf 0 [.ref h0, .int x1, .int x2] [] S I J (z_eq r S2 I2 J2)) : z_ev (d + 1) i_X11_classOf [.ref h0, .int x1, .int x2] S I J r S2 I2 J2 := Go.ev (Nat.le_of_ble_eq_true rfl) h
theorem b_X11_classOf_0 {d : Nat} {S : zS} {I : zI} {J : zJ} {Q : zQ} {h0 : Nat} {x1 : Int32} {x2 : Int32} (g1 : z_kd S h0 = 12) (kk : z_wp d i_X11_isElement [.ref h0, .int x1, .int x2] S I J (fun vv SS II JJ => Go d i_X11_classOf 6 [.ref h0, .int x1, .int x2] (vv.toList ++ []) SS II JJ Q)) : Go d i_X11_classOf 0 [.ref h0, .int x1, .int x2] [] S I J Q := by
  have h := (And.intro g1 kk)
  exact Go.n tb_X11_classOf 4 h
theorem b_X11_classOf_6 {d : Nat} {S : zS} {I : zI} {J : zJ} {Q : zQ} {h0 : Nat} {x1 : Int32} {x2 : Int32} {y0 : Int32} (kt : y0 = (0 : Int32) → Go d i_X11_classOf 26 [.ref h0, .int x1, .int x2] [] S I J Q) (kf : ¬ y0 = (0 : Int32) → Go d i_X11_classOf 9 [.ref h0, .int x1, .int x2] [] S I J Q) : Go d i_X11_classOf 6 [.ref h0, .int x1, .int x2] [.int y0] S I J Q := by
  have h := (Go.ite kt kf)
  exact Go.n tb_X11_classOf 1 h
theorem b_X11_classOf_9 {d : Nat} {S : zS} {I : zI} {J : zJ} {Q : zQ} {h0 : Nat} {x1 : Int32} {x2 : Int32} (g1 : z_kd S h0 = 12) (g2 : z_isR (z_kd S (z_rv S h0 5)) = true ∧ vp_in x1 (z_ln S (z_rv S h0 5))) (g3 : z_kd S (z_rv S (z_rv S h0 5) (Int32.toNatClampNeg x1)) = 9) (g4 : z_kd S (z_rv S (z_rv S (z_rv S h0 5) (Int32.toNatClampNeg x1)) 0) = 2) (g5 : z_isI (z_kd S (z_rv S (z_rv S (z_rv S (z_rv S h0 5) (Int32.toNatClampNeg x1)) 0) 4)) = true ∧ vp_in x2 (z_ln S (z_rv S (z_rv S (z_rv S (z_rv S h0 5) (Int32.toNatClampNeg x1)) 0) 4))) (kk : Q (some (.int (I (z_rv S (z_rv S (z_rv S (z_rv S h0 5) (Int32.toNatClampNeg x1)) 0) 4) (Int32.toNatClampNeg x2)))) S I J) : Go d i_X11_classOf 9 [.ref h0, .int x1, .int x2] [] S I J Q := by
  have h := (And.intro g1 (And.intro g2 (And.intro g3 (And.intro g4 (And.intro g5 (And.intro trivial kk))))))
  exact Go.n tb_X11_classOf 10 h
theorem b_X11_classOf_26 {d : Nat} {S : zS} {I : zI} {J : zJ} {Q : zQ} {h0 : Nat} {x1 : Int32} {x2 : Int32} (kk : Q (some (.int (-2 : Int32))) S I J) : Go d i_X11_classOf 26 [.ref h0, .int x1, .int x2] [] S I J Q := by
  have h := (And.intro trivial kk)
  exact Go.n tb_X11_classOf 2 h
theorem w_X11_generated {d : Nat} {S : zS} {I : zI} {J : zJ} {Q : zQ} {h0 : Nat} {x1 : Int32} {x2 : Int32} (h : Go d i_X11_generated 0 [.ref h0, .int x1, .int x2, .retAddr 0] [] S I J Q) : z_wp (d + 1) i_X11_generated [.ref h0, .int x1, .int x2] S I J Q := Go.wp (Nat.le_of_ble_eq_true rfl) h
theorem e_X11_generated {d : Nat} {S S2 : zS} {I I2 : zI} {J J2 : zJ} {r : Option Value} {h0 : Nat} {x1 : Int32} {x2 : Int32} (h : Go d i_X11_generated 0 [.ref h0, .int x1, .int x2, .retAddr 0] [] S I J (z_eq r S2 I2 J2)) : z_ev (d + 1) i_X11_generated [.ref h0, .int x1, .int x2] S I J r S2 I2 J2 := Go.ev (Nat.le_of_ble_eq_true rfl) h
theorem b_X11_generated_0 {d : Nat} {S : zS} {I : zI} {J : zJ} {Q : zQ} {h0 : Nat} {x1 : Int32} {x2 : Int32} {v3 : Value} (kk : z_wp d i_X11_isSlot [.int x1] S I J (fun vv SS II JJ => Go d i_X11_generated 4 [.ref h0, .int x1, .int x2, v3] (vv.toList ++ []) SS II JJ Q)) : Go d i_X11_generated 0 [.ref h0, .int x1, .int x2, v3] [] S I J Q := by
  have h := (And.intro trivial kk)
  exact Go.n tb_X11_generated 2 h
theorem b_X11_generated_4 {d : Nat} {S : zS} {I : zI} {J : zJ} {Q : zQ} {h0 : Nat} {x1 : Int32} {x2 : Int32} {v3 : Value} {y0 : Int32} (kt : ¬ y0 = (0 : Int32) → Go d i_X11_generated 10 [.ref h0, .int x1, .int x2, v3] [] S I J Q) (kf : y0 = (0 : Int32) → Go d i_X11_generated 7 [.ref h0, .int x1, .int x2, v3] [] S I J Q) : Go d i_X11_generated 4 [.ref h0, .int x1, .int x2, v3] [.int y0] S I J Q := by
  have h := (Go.eti kt kf)
  exact Go.n tb_X11_generated 1 h
theorem b_X11_generated_7 {d : Nat} {S : zS} {I : zI} {J : zJ} {Q : zQ} {h0 : Nat} {x1 : Int32} {x2 : Int32} {v3 : Value} (kk : Q (some (.int (-2 : Int32))) S I J) : Go d i_X11_generated 7 [.ref h0, .int x1, .int x2, v3] [] S I J Q := by
  have h := (And.intro trivial kk)
  exact Go.n tb_X11_generated 2 h
theorem b_X11_generated_10 {d : Nat} {S : zS} {I : zI} {J : zJ} {Q : zQ} {h0 : Nat} {x1 : Int32} {x2 : Int32} {v3 : Value} (g1 : z_kd S h0 = 12) (g2 : z_isR (z_kd S (z_rv S h0 5)) = true ∧ vp_in x1 (z_ln S (z_rv S h0 5))) (g3 : z_kd S (z_rv S (z_rv S h0 5) (Int32.toNatClampNeg x1)) = 9) (g4 : ¬ (z_rv S (z_rv S (z_rv S h0 5) (Int32.toNatClampNeg x1)) 0) = 0) (g5 : z_kd S (z_rv S (z_rv S (z_rv S h0 5) (Int32.toNatClampNeg x1)) 0) = 2) (kk : z_wp d i_X1_isSet [.ref (z_rv S (z_rv S (z_rv S h0 5) (Int32.toNatClampNeg x1)) 0), .int x2] S I J (fun vv SS II JJ => Go d i_X11_generated 25 [.ref h0, .int x1, .int x2, .ref (z_rv S (z_rv S (z_rv S h0 5) (Int32.toNatClampNeg x1)) 0)] (vv.toList ++ []) SS II JJ Q)) : Go d i_X11_generated 10 [.ref h0, .int x1, .int x2, v3] [] S I J Q := by
  have h := (And.intro g1 (And.intro g2 (And.intro g3 (And.intro g4 (And.intro g5 kk)))))
  exact Go.n tb_X11_generated 9 h
theorem b_X11_generated_25 {d : Nat} {S : zS} {I : zI} {J : zJ} {Q : zQ} {h0 : Nat} {x1 : Int32} {x2 : Int32} {h3 : Nat} {y0 : Int32} (kt : y0 = (0 : Int32) → Go d i_X11_generated 36 [.ref h0, .int x1, .int x2, .ref h3] [] S I J Q) (kf : ¬ y0 = (0 : Int32) → Go d i_X11_generated 28 [.ref h0, .int x1, .int x2, .ref h3] [] S I J Q) : Go d i_X11_generated 25 [.ref h0, .int x1, .int x2, .ref h3] [.int y0] S I J Q := by
  have h := (Go.ite kt kf)
  exact Go.n tb_X11_generated 1 h
theorem b_X11_generated_28 {d : Nat} {S : zS} {I : zI} {J : zJ} {Q : zQ} {h0 : Nat} {x1 : Int32} {x2 : Int32} {h3 : Nat} (g1 : z_kd S h3 = 2) (kk : z_wp d i_X1_span [.ref h3, .int x2] S I J (fun vv SS II JJ => Go d i_X11_generated 33 [.ref h0, .int x1, .int x2, .ref h3] (vv.toList ++ []) SS II JJ Q)) : Go d i_X11_generated 28 [.ref h0, .int x1, .int x2, .ref h3] [] S I J Q := by
  have h := (And.intro g1 kk)
  exact Go.n tb_X11_generated 3 h
theorem b_X11_generated_33 {d : Nat} {S : zS} {I : zI} {J : zJ} {Q : zQ} {h0 : Nat} {x1 : Int32} {x2 : Int32} {h3 : Nat} {y0 : Int32} (kk : Q (some (.int y0)) S I J) : Go d i_X11_generated 33 [.ref h0, .int x1, .int x2, .ref h3] [.int y0] S I J Q := by
  have h := (And.intro trivial kk)
  exact Go.n tb_X11_generated 2 h
theorem b_X11_generated_36 {d : Nat} {S : zS} {I : zI} {J : zJ} {Q : zQ} {h0 : Nat} {x1 : Int32} {x2 : Int32} {h3 : Nat} (kk : Q (some (.int (-3 : Int32))) S I J) : Go d i_X11_generated 36 [.ref h0, .int x1, .int x2, .ref h3] [] S I J Q := by
  have h := (And.intro trivial kk)
  exact Go.n tb_X11_generated 2 h
theorem w_X11_subgroup {d : Nat} {S : zS} {I : zI} {J : zJ} {Q : zQ} {h0 : Nat} {x1 : Int32} {x2 : Int32} (h : Go d i_X11_subgroup 0 [.ref h0, .int x1, .int x2] [] S I J Q) : z_wp (d + 1) i_X11_subgroup [.ref h0, .int x1, .int x2] S I J Q := Go.wp (Nat.le_of_ble_eq_true rfl) h
theorem e_X11_subgroup {d : Nat} {S S2 : zS} {I I2 : zI} {J J2 : zJ} {r : Option Value} {h0 : Nat} {x1 : Int32} {x2 : Int32} (h : Go d i_X11_subgroup 0 [.ref h0, .int x1, .int x2] [] S I J (z_eq r S2 I2 J2)) : z_ev (d + 1) i_X11_subgroup [.ref h0, .int x1, .int x2] S I J r S2 I2 J2 := Go.ev (Nat.le_of_ble_eq_true rfl) h
theorem b_X11_subgroup_0 {d : Nat} {S : zS} {I : zI} {J : zJ} {Q : zQ} {h0 : Nat} {x1 : Int32} {x2 : Int32} (kk : z_wp d i_X11_isSlot [.int x1] S I J (fun vv SS II JJ => Go d i_X11_subgroup 4 [.ref h0, .int x1, .int x2] (vv.toList ++ []) SS II JJ Q)) : Go d i_X11_subgroup 0 [.ref h0, .int x1, .int x2] [] S I J Q := by
  have h := (And.intro trivial kk)
  exact Go.n tb_X11_subgroup 2 h
theorem b_X11_subgroup_4 {d : Nat} {S : zS} {I : zI} {J : zJ} {Q : zQ} {h0 : Nat} {x1 : Int32} {x2 : Int32} {y0 : Int32} (kt : ¬ y0 = (0 : Int32) → Go d i_X11_subgroup 10 [.ref h0, .int x1, .int x2] [] S I J Q) (kf : y0 = (0 : Int32) → Go d i_X11_subgroup 7 [.ref h0, .int x1, .int x2] [] S I J Q) : Go d i_X11_subgroup 4 [.ref h0, .int x1, .int x2] [.int y0] S I J Q := by
  have h := (Go.eti kt kf)
  exact Go.n tb_X11_subgroup 1 h
theorem b_X11_subgroup_7 {d : Nat} {S : zS} {I : zI} {J : zJ} {Q : zQ} {h0 : Nat} {x1 : Int32} {x2 : Int32} (kk : Q (some (.int (-2 : Int32))) S I J) : Go d i_X11_subgroup 7 [.ref h0, .int x1, .int x2] [] S I J Q := by
  have h := (And.intro trivial kk)
  exact Go.n tb_X11_subgroup 2 h
theorem b_X11_subgroup_10 {d : Nat} {S : zS} {I : zI} {J : zJ} {Q : zQ} {h0 : Nat} {x1 : Int32} {x2 : Int32} (kt : (0 : Int32) ≤ x2 → Go d i_X11_subgroup 17 [.ref h0, .int x1, .int x2] [] S I J Q) (kf : ¬ (0 : Int32) ≤ x2 → Go d i_X11_subgroup 14 [.ref h0, .int x1, .int x2] [] S I J Q) : Go d i_X11_subgroup 10 [.ref h0, .int x1, .int x2] [] S I J Q := by
  have h := (Go.ite kt kf)
  exact Go.n tb_X11_subgroup 2 h
theorem b_X11_subgroup_14 {d : Nat} {S : zS} {I : zI} {J : zJ} {Q : zQ} {h0 : Nat} {x1 : Int32} {x2 : Int32} (kk : Q (some (.int (-3 : Int32))) S I J) : Go d i_X11_subgroup 14 [.ref h0, .int x1, .int x2] [] S I J Q := by
  have h := (And.intro trivial kk)
  exact Go.n tb_X11_subgroup 2 h
theorem b_X11_subgroup_17 {d : Nat} {S : zS} {I : zI} {J : zJ} {Q : zQ} {h0 : Nat} {x1 : Int32} {x2 : Int32} (g1 : z_kd S h0 = 12) (g2 : z_isR (z_kd S (z_rv S h0 5)) = true ∧ vp_in x1 (z_ln S (z_rv S h0 5))) (g3 : z_kd S (z_rv S (z_rv S h0 5) (Int32.toNatClampNeg x1)) = 9) (g4 : z_kd S (z_rv S (z_rv S (z_rv S h0 5) (Int32.toNatClampNeg x1)) 0) = 2) (kk : z_wp d i_X1_subgroupAt [.ref (z_rv S (z_rv S (z_rv S h0 5) (Int32.toNatClampNeg x1)) 0), .int x2] S I J (fun vv SS II JJ => Go d i_X11_subgroup 30 [.ref h0, .int x1, .int x2] (vv.toList ++ []) SS II JJ Q)) : Go d i_X11_subgroup 17 [.ref h0, .int x1, .int x2] [] S I J Q := by
  have h := (And.intro g1 (And.intro g2 (And.intro g3 (And.intro g4 kk))))
  exact Go.n tb_X11_subgroup 7 h
theorem b_X11_subgroup_30 {d : Nat} {S : zS} {I : zI} {J : zJ} {Q : zQ} {h0 : Nat} {x1 : Int32} {x2 : Int32} {y0 : Int32} (kk : Q (some (.int y0)) S I J) : Go d i_X11_subgroup 30 [.ref h0, .int x1, .int x2] [.int y0] S I J Q := by
  have h := (And.intro trivial kk)
  exact Go.n tb_X11_subgroup 1 h
theorem w_X11_kind {d : Nat} {S : zS} {I : zI} {J : zJ} {Q : zQ} {h0 : Nat} {x1 : Int32} {x2 : Int32} (h : Go d i_X11_kind 0 [.ref h0, .int x1, .int x2, .retAddr 0] [] S I J Q) : z_wp (d + 1) i_X11_kind [.ref h0, .int x1, .int x2] S I J Q := Go.wp (Nat.le_of_ble_eq_true rfl) h
theorem e_X11_kind {d : Nat} {S S2 : zS} {I I2 : zI} {J J2 : zJ} {r : Option Value} {h0 : Nat} {x1 : Int32} {x2 : Int32} (h : Go d i_X11_kind 0 [.ref h0, .int x1, .int x2, .retAddr 0] [] S I J (z_eq r S2 I2 J2)) : z_ev (d + 1) i_X11_kind [.ref h0, .int x1, .int x2] S I J r S2 I2 J2 := Go.ev (Nat.le_of_ble_eq_true rfl) h
theorem b_X11_kind_0 {d : Nat} {S : zS} {I : zI} {J : zJ} {Q : zQ} {h0 : Nat} {x1 : Int32} {x2 : Int32} {v3 : Value} (kk : z_wp d i_X11_isSlot [.int x1] S I J (fun vv SS II JJ => Go d i_X11_kind 4 [.ref h0, .int x1, .int x2, v3] (vv.toList ++ []) SS II JJ Q)) : Go d i_X11_kind 0 [.ref h0, .int x1, .int x2, v3] [] S I J Q := by
  have h := (And.intro trivial kk)
  exact Go.n tb_X11_kind 2 h
theorem b_X11_kind_4 {d : Nat} {S : zS} {I : zI} {J : zJ} {Q : zQ} {h0 : Nat} {x1 : Int32} {x2 : Int32} {v3 : Value} {y0 : Int32} (kt : ¬ y0 = (0 : Int32) → Go d i_X11_kind 10 [.ref h0, .int x1, .int x2, v3] [] S I J Q) (kf : y0 = (0 : Int32) → Go d i_X11_kind 7 [.ref h0, .int x1, .int x2, v3] [] S I J Q) : Go d i_X11_kind 4 [.ref h0, .int x1, .int x2, v3] [.int y0] S I J Q := by
  have h := (Go.eti kt kf)
  exact Go.n tb_X11_kind 1 h
theorem b_X11_kind_7 {d : Nat} {S : zS} {I : zI} {J : zJ} {Q : zQ} {h0 : Nat} {x1 : Int32} {x2 : Int32} {v3 : Value} (kk : Q (some (.int (-2 : Int32))) S I J) : Go d i_X11_kind 7 [.ref h0, .int x1, .int x2, v3] [] S I J Q := by
  have h := (And.intro trivial kk)
  exact Go.n tb_X11_kind 2 h
theorem b_X11_kind_10 {d : Nat} {S : zS} {I : zI} {J : zJ} {Q : zQ} {h0 : Nat} {x1 : Int32} {x2 : Int32} {v3 : Value} (g1 : z_kd S h0 = 12) (g2 : z_isR (z_kd S (z_rv S h0 5)) = true ∧ vp_in x1 (z_ln S (z_rv S h0 5))) (g3 : z_kd S (z_rv S (z_rv S h0 5) (Int32.toNatClampNeg x1)) = 9) (g4 : ¬ (z_rv S (z_rv S (z_rv S h0 5) (Int32.toNatClampNeg x1)) 0) = 0) (g5 : z_kd S (z_rv S (z_rv S (z_rv S h0 5) (Int32.toNatClampNeg x1)) 0) = 2) (kk : z_wp d i_X1_isSet [.ref (z_rv S (z_rv S (z_rv S h0 5) (Int32.toNatClampNeg x1)) 0), .int x2] S I J (fun vv SS II JJ => Go d i_X11_kind 25 [.ref h0, .int x1, .int x2, .ref (z_rv S (z_rv S (z_rv S h0 5) (Int32.toNatClampNeg x1)) 0)] (vv.toList ++ []) SS II JJ Q)) : Go d i_X11_kind 10 [.ref h0, .int x1, .int x2, v3] [] S I J Q := by
  have h := (And.intro g1 (And.intro g2 (And.intro g3 (And.intro g4 (And.intro g5 kk)))))
  exact Go.n tb_X11_kind 9 h
theorem b_X11_kind_25 {d : Nat} {S : zS} {I : zI} {J : zJ} {Q : zQ} {h0 : Nat} {x1 : Int32} {x2 : Int32} {h3 : Nat} {y0 : Int32} (kt : ¬ y0 = (0 : Int32) → Go d i_X11_kind 31 [.ref h0, .int x1, .int x2, .ref h3] [] S I J Q) (kf : y0 = (0 : Int32) → Go d i_X11_kind 28 [.ref h0, .int x1, .int x2, .ref h3] [] S I J Q) : Go d i_X11_kind 25 [.ref h0, .int x1, .int x2, .ref h3] [.int y0] S I J Q := by
  have h := (Go.eti kt kf)
  exact Go.n tb_X11_kind 1 h
theorem b_X11_kind_28 {d : Nat} {S : zS} {I : zI} {J : zJ} {Q : zQ} {h0 : Nat} {x1 : Int32} {x2 : Int32} {h3 : Nat} (kk : Q (some (.int (-3 : Int32))) S I J) : Go d i_X11_kind 28 [.ref h0, .int x1, .int x2, .ref h3] [] S I J Q := by
  have h := (And.intro trivial kk)
  exact Go.n tb_X11_kind 2 h
theorem b_X11_kind_31 {d : Nat} {S : zS} {I : zI} {J : zJ} {Q : zQ} {h0 : Nat} {x1 : Int32} {x2 : Int32} {h3 : Nat} (g1 : z_kd S h3 = 2) (kk : z_wp d i_X1_isClosed [.ref h3, .int x2] S I J (fun vv SS II JJ => Go d i_X11_kind 36 [.ref h0, .int x1, .int x2, .ref h3] (vv.toList ++ []) SS II JJ Q)) : Go d i_X11_kind 31 [.ref h0, .int x1, .int x2, .ref h3] [] S I J Q := by
  have h := (And.intro g1 kk)
  exact Go.n tb_X11_kind 3 h
theorem b_X11_kind_36 {d : Nat} {S : zS} {I : zI} {J : zJ} {Q : zQ} {h0 : Nat} {x1 : Int32} {x2 : Int32} {h3 : Nat} {y0 : Int32} (kt : ¬ y0 = (0 : Int32) → Go d i_X11_kind 41 [.ref h0, .int x1, .int x2, .ref h3] [] S I J Q) (kf : y0 = (0 : Int32) → Go d i_X11_kind 39 [.ref h0, .int x1, .int x2, .ref h3] [] S I J Q) : Go d i_X11_kind 36 [.ref h0, .int x1, .int x2, .ref h3] [.int y0] S I J Q := by
  have h := (Go.eti kt kf)
  exact Go.n tb_X11_kind 1 h
theorem b_X11_kind_39 {d : Nat} {S : zS} {I : zI} {J : zJ} {Q : zQ} {h0 : Nat} {x1 : Int32} {x2 : Int32} {h3 : Nat} (kk : Q (some (.int (0 : Int32))) S I J) : Go d i_X11_kind 39 [.ref h0, .int x1, .int x2, .ref h3] [] S I J Q := by
  have h := (And.intro trivial kk)
  exact Go.n tb_X11_kind 2 h
theorem b_X11_kind_41 {d : Nat} {S : zS} {I : zI} {J : zJ} {Q : zQ} {h0 : Nat} {x1 : Int32} {x2 : Int32} {h3 : Nat} (g1 : z_kd S h3 = 2) (kk : z_wp d i_X1_isOfWholeClasses [.ref h3, .int x2] S I J (fun vv SS II JJ => Go d i_X11_kind 46 [.ref h0, .int x1, .int x2, .ref h3] (vv.toList ++ []) SS II JJ Q)) : Go d i_X11_kind 41 [.ref h0, .int x1, .int x2, .ref h3] [] S I J Q := by
  have h := (And.intro g1 kk)
  exact Go.n tb_X11_kind 3 h
theorem b_X11_kind_46 {d : Nat} {S : zS} {I : zI} {J : zJ} {Q : zQ} {h0 : Nat} {x1 : Int32} {x2 : Int32} {h3 : Nat} {y0 : Int32} (kt : y0 = (0 : Int32) → Go d i_X11_kind 53 [.ref h0, .int x1, .int x2, .ref h3] [] S I J Q) (kf : ¬ y0 = (0 : Int32) → Go d i_X11_kind 49 [.ref h0, .int x1, .int x2, .ref h3] [] S I J Q) : Go d i_X11_kind 46 [.ref h0, .int x1, .int x2, .ref h3] [.int y0] S I J Q := by
  have h := (Go.ite kt kf)
  exact Go.n tb_X11_kind 1 h
theorem b_X11_kind_49 {d : Nat} {S : zS} {I : zI} {J : zJ} {Q : zQ} {h0 : Nat} {x1 : Int32} {x2 : Int32} {h3 : Nat} (kk : Q (some (.int (2 : Int32))) S I J) : Go d i_X11_kind 49 [.ref h0, .int x1, .int x2, .ref h3] [] S I J Q := by
  have h := (And.intro trivial kk)
  exact Go.n tb_X11_kind 3 h
theorem b_X11_kind_53 {d : Nat} {S : zS} {I : zI} {J : zJ} {Q : zQ} {h0 : Nat} {x1 : Int32} {x2 : Int32} {h3 : Nat} (kk : Q (some (.int (1 : Int32))) S I J) : Go d i_X11_kind 53 [.ref h0, .int x1, .int x2, .ref h3] [] S I J Q := by
  have h := (And.intro trivial kk)
  exact Go.n tb_X11_kind 2 h
theorem w_X11_maps {d : Nat} {S : zS} {I : zI} {J : zJ} {Q : zQ} {h0 : Nat} {x1 : Int32} (h : Go d i_X11_maps 0 [.ref h0, .int x1, .retAddr 0] [] S I J Q) : z_wp (d + 1) i_X11_maps [.ref h0, .int x1] S I J Q := Go.wp (Nat.le_of_ble_eq_true rfl) h
theorem e_X11_maps {d : Nat} {S S2 : zS} {I I2 : zI} {J J2 : zJ} {r : Option Value} {h0 : Nat} {x1 : Int32} (h : Go d i_X11_maps 0 [.ref h0, .int x1, .retAddr 0] [] S I J (z_eq r S2 I2 J2)) : z_ev (d + 1) i_X11_maps [.ref h0, .int x1] S I J r S2 I2 J2 := Go.ev (Nat.le_of_ble_eq_true rfl) h
theorem b_X11_maps_0 {d : Nat} {S : zS} {I : zI} {J : zJ} {Q : zQ} {h0 : Nat} {x1 : Int32} {v2 : Value} (kk : z_wp d i_X11_isSlot [.int x1] S I J (fun vv SS II JJ => Go d i_X11_maps 4 [.ref h0, .int x1, v2] (vv.toList ++ []) SS II JJ Q)) : Go d i_X11_maps 0 [.ref h0, .int x1, v2] [] S I J Q := by
  have h := (And.intro trivial kk)
  exact Go.n tb_X11_maps 2 h
theorem b_X11_maps_4 {d : Nat} {S : zS} {I : zI} {J : zJ} {Q : zQ} {h0 : Nat} {x1 : Int32} {v2 : Value} {y0 : Int32} (kt : ¬ y0 = (0 : Int32) → Go d i_X11_maps 10 [.ref h0, .int x1, v2] [] S I J Q) (kf : y0 = (0 : Int32) → Go d i_X11_maps 7 [.ref h0, .int x1, v2] [] S I J Q) : Go d i_X11_maps 4 [.ref h0, .int x1, v2] [.int y0] S I J Q := by
  have h := (Go.eti kt kf)
  exact Go.n tb_X11_maps 1 h
theorem b_X11_maps_7 {d : Nat} {S : zS} {I : zI} {J : zJ} {Q : zQ} {h0 : Nat} {x1 : Int32} {v2 : Value} (kk : Q (some (.int (-2 : Int32))) S I J) : Go d i_X11_maps 7 [.ref h0, .int x1, v2] [] S I J Q := by
  have h := (And.intro trivial kk)
  exact Go.n tb_X11_maps 2 h
theorem b_X11_maps_10 {d : Nat} {S : zS} {I : zI} {J : zJ} {Q : zQ} {h0 : Nat} {x1 : Int32} {v2 : Value} (g1 : z_kd S h0 = 12) (g2 : z_isR (z_kd S (z_rv S h0 5)) = true ∧ vp_in x1 (z_ln S (z_rv S h0 5))) (g3 : z_kd S (z_rv S (z_rv S h0 5) (Int32.toNatClampNeg x1)) = 9) (g4 : ¬ (z_rv S (z_rv S (z_rv S h0 5) (Int32.toNatClampNeg x1)) 0) = 0) (g5 : z_kd S (z_rv S (z_rv S (z_rv S h0 5) (Int32.toNatClampNeg x1)) 0) = 2) (kt : ¬ (I (z_rv S (z_rv S (z_rv S h0 5) (Int32.toNatClampNeg x1)) 0) 9) = (0 : Int32) → Go d i_X11_maps 43 [.ref h0, .int x1, .ref (z_rv S (z_rv S (z_rv S h0 5) (Int32.toNatClampNeg x1)) 0)] [] S I J Q) (kf : (I (z_rv S (z_rv S (z_rv S h0 5) (Int32.toNatClampNeg x1)) 0) 9) = (0 : Int32) → Go d i_X11_maps 27 [.ref h0, .int x1, .ref (z_rv S (z_rv S (z_rv S h0 5) (Int32.toNatClampNeg x1)) 0)] [] S I J Q) : Go d i_X11_maps 10 [.ref h0, .int x1, v2] [] S I J Q := by
  have h := (And.intro g1 (And.intro g2 (And.intro g3 (And.intro g4 (And.intro g5 (Go.eti kt kf))))))
  exact Go.n tb_X11_maps 9 h
theorem b_X11_maps_27 {d : Nat} {S : zS} {I : zI} {J : zJ} {Q : zQ} {h0 : Nat} {x1 : Int32} {h2 : Nat} (g1 : z_kd S h0 = 12) (g2 : z_kd S h2 = 2) (g3 : z_kd S (z_rv S h0 7) = 4) (kk : z_wp d i_X3_countOwn [.ref (z_rv S h0 7), .ref h2, .ref (z_rv S h2 5)] S I J (fun vv SS II JJ => Go d i_X11_maps 40 [.ref h0, .int x1, .ref h2] (vv.toList ++ [.ref h2]) SS II JJ Q)) : Go d i_X11_maps 27 [.ref h0, .int x1, .ref h2] [] S I J Q := by
  have h := (And.intro g1 (And.intro g2 (And.intro g3 kk)))
  exact Go.n tb_X11_maps 7 h
theorem b_X11_maps_40 {d : Nat} {S : zS} {I : zI} {J : zJ} {Q : zQ} {h0 : Nat} {x1 : Int32} {h2 : Nat} {q0 : Nat} {y1 : Int32} (g1 : z_kd S q0 = 2) (g2 : z_kd S h2 = 2) (kk : Q (some (.int ((z_u2 I q0 9 y1) h2 9))) S (z_u2 I q0 9 y1) J) : Go d i_X11_maps 40 [.ref h0, .int x1, .ref h2] [.int y1, .ref q0] S I J Q := by
  have h := (And.intro g1 (And.intro g2 (And.intro trivial kk)))
  exact Go.n tb_X11_maps 4 h
theorem b_X11_maps_43 {d : Nat} {S : zS} {I : zI} {J : zJ} {Q : zQ} {h0 : Nat} {x1 : Int32} {h2 : Nat} (g1 : z_kd S h2 = 2) (kk : Q (some (.int (I h2 9))) S I J) : Go d i_X11_maps 43 [.ref h0, .int x1, .ref h2] [] S I J Q := by
  have h := (And.intro g1 (And.intro trivial kk))
  exact Go.n tb_X11_maps 3 h
theorem w_X11_mapped {d : Nat} {S : zS} {I : zI} {J : zJ} {Q : zQ} {h0 : Nat} {x1 : Int32} (h : Go d i_X11_mapped 0 [.ref h0, .int x1] [] S I J Q) : z_wp (d + 1) i_X11_mapped [.ref h0, .int x1] S I J Q := Go.wp (Nat.le_of_ble_eq_true rfl) h
theorem e_X11_mapped {d : Nat} {S S2 : zS} {I I2 : zI} {J J2 : zJ} {r : Option Value} {h0 : Nat} {x1 : Int32} (h : Go d i_X11_mapped 0 [.ref h0, .int x1] [] S I J (z_eq r S2 I2 J2)) : z_ev (d + 1) i_X11_mapped [.ref h0, .int x1] S I J r S2 I2 J2 := Go.ev (Nat.le_of_ble_eq_true rfl) h
theorem b_X11_mapped_0 {d : Nat} {S : zS} {I : zI} {J : zJ} {Q : zQ} {h0 : Nat} {x1 : Int32} (g1 : z_kd S h0 = 12) (kk : z_wp d i_X11_isElement [.ref h0, .int (0 : Int32), .int x1] S I J (fun vv SS II JJ => Go d i_X11_mapped 6 [.ref h0, .int x1] (vv.toList ++ []) SS II JJ Q)) : Go d i_X11_mapped 0 [.ref h0, .int x1] [] S I J Q := by
  have h := (And.intro g1 kk)
  exact Go.n tb_X11_mapped 4 h
theorem b_X11_mapped_6 {d : Nat} {S : zS} {I : zI} {J : zJ} {Q : zQ} {h0 : Nat} {x1 : Int32} {y0 : Int32} (kt : ¬ y0 = (0 : Int32) → Go d i_X11_mapped 12 [.ref h0, .int x1] [] S I J Q) (kf : y0 = (0 : Int32) → Go d i_X11_mapped 9 [.ref h0, .int x1] [] S I J Q) : Go d i_X11_mapped 6 [.ref h0, .int x1] [.int y0] S I J Q := by
  have h := (Go.eti kt kf)
  exact Go.n tb_X11_mapped 1 h
theorem b_X11_mapped_9 {d : Nat} {S : zS} {I : zI} {J : zJ} {Q : zQ} {h0 : Nat} {x1 : Int32} (kk : Q (some (.int (-2 : Int32))) S I J) : Go d i_X11_mapped 9 [.ref h0, .int x1] [] S I J Q := by
  have h := (And.intro trivial kk)
  exact Go.n tb_X11_mapped 2 h
theorem b_X11_mapped_12 {d : Nat} {S : zS} {I : zI} {J : zJ} {Q : zQ} {h0 : Nat} {x1 : Int32} (g1 : z_kd S h0 = 12) (kt : ¬ (I h0 13) = (0 : Int32) → Go d i_X11_mapped 53 [.ref h0, .int x1] [] S I J Q) (kf : (I h0 13) = (0 : Int32) → Go d i_X11_mapped 19 [.ref h0, .int x1] [] S I J Q) : Go d i_X11_mapped 12 [.ref h0, .int x1] [] S I J Q := by
  have h := (And.intro g1 (Go.eti kt kf))
  exact Go.n tb_X11_mapped 3 h
theorem b_X11_mapped_19 {d : Nat} {S : zS} {I : zI} {J : zJ} {Q : zQ} {h0 : Nat} {x1 : Int32} (g1 : z_kd S h0 = 12) (g2 : z_kd S h0 = 12) (g3 : z_isR (z_kd S (z_rv S h0 5)) = true ∧ vp_in (0 : Int32) (z_ln S (z_rv S h0 5))) (g4 : z_kd S (z_rv S (z_rv S h0 5) (Int32.toNatClampNeg (0 : Int32))) = 9) (g5 : z_kd S h0 = 12) (g6 : z_isR (z_kd S (z_rv S h0 5)) = true ∧ vp_in (1 : Int32) (z_ln S (z_rv S h0 5))) (g7 : z_kd S (z_rv S (z_rv S h0 5) (Int32.toNatClampNeg (1 : Int32))) = 9) (g8 : z_kd S h0 = 12) (g9 : z_kd S (z_rv S h0 7) = 4) (kk : z_wp d i_X3_findFirst [.ref (z_rv S h0 7), .ref (z_rv S (z_rv S (z_rv S h0 5) (Int32.toNatClampNeg (0 : Int32))) 0), .ref (z_rv S (z_rv S (z_rv S h0 5) (Int32.toNatClampNeg (1 : Int32))) 0), .ref (z_rv S h0 10)] S I J (fun vv SS II JJ => Go d i_X11_mapped 48 [.ref h0, .int x1] (vv.toList ++ []) SS II JJ Q)) : Go d i_X11_mapped 19 [.ref h0, .int x1] [] S I J Q := by
  have h := (And.intro g1 (And.intro g2 (And.intro g3 (And.intro g4 (And.intro g5 (And.intro g6 (And.intro g7 (And.intro g8 (And.intro g9 kk)))))))))
  exact Go.n tb_X11_mapped 15 h
theorem b_X11_mapped_48 {d : Nat} {S : zS} {I : zI} {J : zJ} {Q : zQ} {h0 : Nat} {x1 : Int32} (g1 : z_kd S h0 = 12 ∧ ((1 : Int32) = 0 ∨ (1 : Int32) = 1)) (g2 : z_kd S h0 = 12) (g3 : z_isI (z_kd S (z_rv S h0 10)) = true ∧ vp_in x1 (z_ln S (z_rv S h0 10))) (kk : Q (some (.int ((z_u2 I h0 13 (1 : Int32)) (z_rv S h0 10) (Int32.toNatClampNeg x1)))) S (z_u2 I h0 13 (1 : Int32)) J) : Go d i_X11_mapped 48 [.ref h0, .int x1] [] S I J Q := by
  have h := (And.intro g1 (And.intro g2 (And.intro g3 (And.intro trivial kk))))
  exact Go.n tb_X11_mapped 8 h
theorem b_X11_mapped_53 {d : Nat} {S : zS} {I : zI} {J : zJ} {Q : zQ} {h0 : Nat} {x1 : Int32} (g1 : z_kd S h0 = 12) (g2 : z_isI (z_kd S (z_rv S h0 10)) = true ∧ vp_in x1 (z_ln S (z_rv S h0 10))) (kk : Q (some (.int (I (z_rv S h0 10) (Int32.toNatClampNeg x1)))) S I J) : Go d i_X11_mapped 53 [.ref h0, .int x1] [] S I J Q := by
  have h := (And.intro g1 (And.intro g2 (And.intro trivial kk)))
  exact Go.n tb_X11_mapped 5 h
theorem w_X11_far {d : Nat} {S : zS} {I : zI} {J : zJ} {Q : zQ} {h0 : Nat} {x1 : Int32} {x2 : Int32} {x3 : Int32} (h : Go d i_X11_far 0 [.ref h0, .int x1, .int x2, .int x3] [] S I J Q) : z_wp (d + 1) i_X11_far [.ref h0, .int x1, .int x2, .int x3] S I J Q := Go.wp (Nat.le_of_ble_eq_true rfl) h
theorem e_X11_far {d : Nat} {S S2 : zS} {I I2 : zI} {J J2 : zJ} {r : Option Value} {h0 : Nat} {x1 : Int32} {x2 : Int32} {x3 : Int32} (h : Go d i_X11_far 0 [.ref h0, .int x1, .int x2, .int x3] [] S I J (z_eq r S2 I2 J2)) : z_ev (d + 1) i_X11_far [.ref h0, .int x1, .int x2, .int x3] S I J r S2 I2 J2 := Go.ev (Nat.le_of_ble_eq_true rfl) h
theorem b_X11_far_0 {d : Nat} {S : zS} {I : zI} {J : zJ} {Q : zQ} {h0 : Nat} {x1 : Int32} {x2 : Int32} {x3 : Int32} (g1 : z_kd S h0 = 12) (kk : z_wp d i_X11_isElement [.ref h0, .int x1, .int x2] S I J (fun vv SS II JJ => Go d i_X11_far 6 [.ref h0, .int x1, .int x2, .int x3] (vv.toList ++ []) SS II JJ Q)) : Go d i_X11_far 0 [.ref h0, .int x1, .int x2, .int x3] [] S I J Q := by
  have h := (And.intro g1 kk)
  exact Go.n tb_X11_far 4 h
theorem b_X11_far_6 {d : Nat} {S : zS} {I : zI} {J : zJ} {Q : zQ} {h0 : Nat} {x1 : Int32} {x2 : Int32} {x3 : Int32} {y0 : Int32} (kt : y0 = (0 : Int32) → Go d i_X11_far 18 [.ref h0, .int x1, .int x2, .int x3] [] S I J Q) (kf : ¬ y0 = (0 : Int32) → Go d i_X11_far 9 [.ref h0, .int x1, .int x2, .int x3] [] S I J Q) : Go d i_X11_far 6 [.ref h0, .int x1, .int x2, .int x3] [.int y0] S I J Q := by
  have h := (Go.ite kt kf)
  exact Go.n tb_X11_far 1 h
theorem b_X11_far_9 {d : Nat} {S : zS} {I : zI} {J : zJ} {Q : zQ} {h0 : Nat} {x1 : Int32} {x2 : Int32} {x3 : Int32} (g1 : z_kd S h0 = 12) (kk : z_wp d i_X11_isElement [.ref h0, .int x1, .int x3] S I J (fun vv SS II JJ => Go d i_X11_far 15 [.ref h0, .int x1, .int x2, .int x3] (vv.toList ++ []) SS II JJ Q)) : Go d i_X11_far 9 [.ref h0, .int x1, .int x2, .int x3] [] S I J Q := by
  have h := (And.intro g1 kk)
  exact Go.n tb_X11_far 4 h
theorem b_X11_far_15 {d : Nat} {S : zS} {I : zI} {J : zJ} {Q : zQ} {h0 : Nat} {x1 : Int32} {x2 : Int32} {x3 : Int32} {y0 : Int32} (kt : ¬ y0 = (0 : Int32) → Go d i_X11_far 21 [.ref h0, .int x1, .int x2, .int x3] [] S I J Q) (kf : y0 = (0 : Int32) → Go d i_X11_far 18 [.ref h0, .int x1, .int x2, .int x3] [] S I J Q) : Go d i_X11_far 15 [.ref h0, .int x1, .int x2, .int x3] [.int y0] S I J Q := by
  have h := (Go.eti kt kf)
  exact Go.n tb_X11_far 1 h
theorem b_X11_far_18 {d : Nat} {S : zS} {I : zI} {J : zJ} {Q : zQ} {h0 : Nat} {x1 : Int32} {x2 : Int32} {x3 : Int32} (kk : Q (some (.int (-2 : Int32))) S I J) : Go d i_X11_far 18 [.ref h0, .int x1, .int x2, .int x3] [] S I J Q := by
  have h := (And.intro trivial kk)
  exact Go.n tb_X11_far 2 h
theorem b_X11_far_21 {d : Nat} {S : zS} {I : zI} {J : zJ} {Q : zQ} {h0 : Nat} {x1 : Int32} {x2 : Int32} {x3 : Int32} (g1 : z_kd S h0 = 12) (g2 : z_isR (z_kd S (z_rv S h0 5)) = true ∧ vp_in x1 (z_ln S (z_rv S h0 5))) (g3 : z_kd S (z_rv S (z_rv S h0 5) (Int32.toNatClampNeg x1)) = 9) (kk : z_wp d i_X8_distance [.ref (z_rv S (z_rv S h0 5) (Int32.toNatClampNeg x1)), .int x2, .int x3] S I J (fun vv SS II JJ => Go d i_X11_far 32 [.ref h0, .int x1, .int x2, .int x3] (vv.toList ++ []) SS II JJ Q)) : Go d i_X11_far 21 [.ref h0, .int x1, .int x2, .int x3] [] S I J Q := by
  have h := (And.intro g1 (And.intro g2 (And.intro g3 kk)))
  exact Go.n tb_X11_far 7 h
theorem b_X11_far_32 {d : Nat} {S : zS} {I : zI} {J : zJ} {Q : zQ} {h0 : Nat} {x1 : Int32} {x2 : Int32} {x3 : Int32} {y0 : Int32} (kk : Q (some (.int y0)) S I J) : Go d i_X11_far 32 [.ref h0, .int x1, .int x2, .int x3] [.int y0] S I J Q := by
  have h := (And.intro trivial kk)
  exact Go.n tb_X11_far 1 h
theorem w_X11_sphere {d : Nat} {S : zS} {I : zI} {J : zJ} {Q : zQ} {h0 : Nat} {x1 : Int32} {x2 : Int32} (h : Go d i_X11_sphere 0 [.ref h0, .int x1, .int x2] [] S I J Q) : z_wp (d + 1) i_X11_sphere [.ref h0, .int x1, .int x2] S I J Q := Go.wp (Nat.le_of_ble_eq_true rfl) h
theorem e_X11_sphere {d : Nat} {S S2 : zS} {I I2 : zI} {J J2 : zJ} {r : Option Value} {h0 : Nat} {x1 : Int32} {x2 : Int32} (h : Go d i_X11_sphere 0 [.ref h0, .int x1, .int x2] [] S I J (z_eq r S2 I2 J2)) : z_ev (d + 1) i_X11_sphere [.ref h0, .int x1, .int x2] S I J r S2 I2 J2 := Go.ev (Nat.le_of_ble_eq_true rfl) h
theorem b_X11_sphere_0 {d : Nat} {S : zS} {I : zI} {J : zJ} {Q : zQ} {h0 : Nat} {x1 : Int32} {x2 : Int32} (kk : z_wp d i_X11_isSlot [.int x1] S I J (fun vv SS II JJ => Go d i_X11_sphere 4 [.ref h0, .int x1, .int x2] (vv.toList ++ []) SS II JJ Q)) : Go d i_X11_sphere 0 [.ref h0, .int x1, .int x2] [] S I J Q := by
  have h := (And.intro trivial kk)
  exact Go.n tb_X11_sphere 2 h
theorem b_X11_sphere_4 {d : Nat} {S : zS} {I : zI} {J : zJ} {Q : zQ} {h0 : Nat} {x1 : Int32} {x2 : Int32} {y0 : Int32} (kt : ¬ y0 = (0 : Int32) → Go d i_X11_sphere 10 [.ref h0, .int x1, .int x2] [] S I J Q) (kf : y0 = (0 : Int32) → Go d i_X11_sphere 7 [.ref h0, .int x1, .int x2] [] S I J Q) : Go d i_X11_sphere 4 [.ref h0, .int x1, .int x2] [.int y0] S I J Q := by
  have h := (Go.eti kt kf)
  exact Go.n tb_X11_sphere 1 h
theorem b_X11_sphere_7 {d : Nat} {S : zS} {I : zI} {J : zJ} {Q : zQ} {h0 : Nat} {x1 : Int32} {x2 : Int32} (kk : Q (some (.int (-2 : Int32))) S I J) : Go d i_X11_sphere 7 [.ref h0, .int x1, .int x2] [] S I J Q := by
  have h := (And.intro trivial kk)
  exact Go.n tb_X11_sphere 2 h
theorem b_X11_sphere_10 {d : Nat} {S : zS} {I : zI} {J : zJ} {Q : zQ} {h0 : Nat} {x1 : Int32} {x2 : Int32} (kt : (-1 : Int32) ≤ x2 → Go d i_X11_sphere 18 [.ref h0, .int x1, .int x2] [] S I J Q) (kf : ¬ (-1 : Int32) ≤ x2 → Go d i_X11_sphere 15 [.ref h0, .int x1, .int x2] [] S I J Q) : Go d i_X11_sphere 10 [.ref h0, .int x1, .int x2] [] S I J Q := by
  have h := (Go.ite kt kf)
  exact Go.n tb_X11_sphere 3 h
theorem b_X11_sphere_15 {d : Nat} {S : zS} {I : zI} {J : zJ} {Q : zQ} {h0 : Nat} {x1 : Int32} {x2 : Int32} (kk : Q (some (.int (-3 : Int32))) S I J) : Go d i_X11_sphere 15 [.ref h0, .int x1, .int x2] [] S I J Q := by
  have h := (And.intro trivial kk)
  exact Go.n tb_X11_sphere 2 h
theorem b_X11_sphere_18 {d : Nat} {S : zS} {I : zI} {J : zJ} {Q : zQ} {h0 : Nat} {x1 : Int32} {x2 : Int32} (kt : ¬ x2 = (-1 : Int32) → Go d i_X11_sphere 35 [.ref h0, .int x1, .int x2] [] S I J Q) (kf : x2 = (-1 : Int32) → Go d i_X11_sphere 23 [.ref h0, .int x1, .int x2] [] S I J Q) : Go d i_X11_sphere 18 [.ref h0, .int x1, .int x2] [] S I J Q := by
  have h := (Go.eti kt kf)
  exact Go.n tb_X11_sphere 3 h
theorem b_X11_sphere_23 {d : Nat} {S : zS} {I : zI} {J : zJ} {Q : zQ} {h0 : Nat} {x1 : Int32} {x2 : Int32} (g1 : z_kd S h0 = 12) (g2 : z_isR (z_kd S (z_rv S h0 5)) = true ∧ vp_in x1 (z_ln S (z_rv S h0 5))) (g3 : z_kd S (z_rv S (z_rv S h0 5) (Int32.toNatClampNeg x1)) = 9) (kk : z_wp d i_X8_deepest [.ref (z_rv S (z_rv S h0 5) (Int32.toNatClampNeg x1))] S I J (fun vv SS II JJ => Go d i_X11_sphere 32 [.ref h0, .int x1, .int x2] (vv.toList ++ []) SS II JJ Q)) : Go d i_X11_sphere 23 [.ref h0, .int x1, .int x2] [] S I J Q := by
  have h := (And.intro g1 (And.intro g2 (And.intro g3 kk)))
  exact Go.n tb_X11_sphere 5 h
theorem b_X11_sphere_32 {d : Nat} {S : zS} {I : zI} {J : zJ} {Q : zQ} {h0 : Nat} {x1 : Int32} {x2 : Int32} {y0 : Int32} (kk : Q (some (.int y0)) S I J) : Go d i_X11_sphere 32 [.ref h0, .int x1, .int x2] [.int y0] S I J Q := by
  have h := (And.intro trivial kk)
  exact Go.n tb_X11_sphere 2 h
theorem b_X11_sphere_35 {d : Nat} {S : zS} {I : zI} {J : zJ} {Q : zQ} {h0 : Nat} {x1 : Int32} {x2 : Int32} (g1 : z_kd S h0 = 12) (g2 : z_isR (z_kd S (z_rv S h0 5)) = true ∧ vp_in x1 (z_ln S (z_rv S h0 5))) (g3 : z_kd S (z_rv S (z_rv S h0 5) (Int32.toNatClampNeg x1)) = 9) (kk : z_wp d i_X8_pointsAt [.ref (z_rv S (z_rv S h0 5) (Int32.toNatClampNeg x1)), .int x2] S I J (fun vv SS II JJ => Go d i_X11_sphere 45 [.ref h0, .int x1, .int x2] (vv.toList ++ []) SS II JJ Q)) : Go d i_X11_sphere 35 [.ref h0, .int x1, .int x2] [] S I J Q := by
  have h := (And.intro g1 (And.intro g2 (And.intro g3 kk)))
  exact Go.n tb_X11_sphere 6 h
theorem b_X11_sphere_45 {d : Nat} {S : zS} {I : zI} {J : zJ} {Q : zQ} {h0 : Nat} {x1 : Int32} {x2 : Int32} {y0 : Int32} (kk : Q (some (.int y0)) S I J) : Go d i_X11_sphere 45 [.ref h0, .int x1, .int x2] [.int y0] S I J Q := by
  have h := (And.intro trivial kk)
  exact Go.n tb_X11_sphere 1 h
theorem w_X11_way {d : Nat} {S : zS} {I : zI} {J : zJ} {Q : zQ} {h0 : Nat} {x1 : Int32} {x2 : Int32} {x3 : Int32} (h : Go d i_X11_way 0 [.ref h0, .int x1, .int x2, .int x3] [] S I J Q) : z_wp (d + 1) i_X11_way [.ref h0, .int x1, .int x2, .int x3] S I J Q := Go.wp (Nat.le_of_ble_eq_true rfl) h
theorem e_X11_way {d : Nat} {S S2 : zS} {I I2 : zI} {J J2 : zJ} {r : Option Value} {h0 : Nat} {x1 : Int32} {x2 : Int32} {x3 : Int32} (h : Go d i_X11_way 0 [.ref h0, .int x1, .int x2, .int x3] [] S I J (z_eq r S2 I2 J2)) : z_ev (d + 1) i_X11_way [.ref h0, .int x1, .int x2, .int x3] S I J r S2 I2 J2 := Go.ev (Nat.le_of_ble_eq_true rfl) h
theorem b_X11_way_0 {d : Nat} {S : zS} {I : zI} {J : zJ} {Q : zQ} {h0 : Nat} {x1 : Int32} {x2 : Int32} {x3 : Int32} (g1 : z_kd S h0 = 12) (kk : z_wp d i_X11_isElement [.ref h0, .int x1, .int x2] S I J (fun vv SS II JJ => Go d i_X11_way 6 [.ref h0, .int x1, .int x2, .int x3] (vv.toList ++ []) SS II JJ Q)) : Go d i_X11_way 0 [.ref h0, .int x1, .int x2, .int x3] [] S I J Q := by
  have h := (And.intro g1 kk)
  exact Go.n tb_X11_way 4 h
theorem b_X11_way_6 {d : Nat} {S : zS} {I : zI} {J : zJ} {Q : zQ} {h0 : Nat} {x1 : Int32} {x2 : Int32} {x3 : Int32} {y0 : Int32} (kt : ¬ y0 = (0 : Int32) → Go d i_X11_way 12 [.ref h0, .int x1, .int x2, .int x3] [] S I J Q) (kf : y0 = (0 : Int32) → Go d i_X11_way 9 [.ref h0, .int x1, .int x2, .int x3] [] S I J Q) : Go d i_X11_way 6 [.ref h0, .int x1, .int x2, .int x3] [.int y0] S I J Q := by
  have h := (Go.eti kt kf)
  exact Go.n tb_X11_way 1 h
theorem b_X11_way_9 {d : Nat} {S : zS} {I : zI} {J : zJ} {Q : zQ} {h0 : Nat} {x1 : Int32} {x2 : Int32} {x3 : Int32} (kk : Q (some (.int (-2 : Int32))) S I J) : Go d i_X11_way 9 [.ref h0, .int x1, .int x2, .int x3] [] S I J Q := by
  have h := (And.intro trivial kk)
  exact Go.n tb_X11_way 2 h
theorem b_X11_way_12 {d : Nat} {S : zS} {I : zI} {J : zJ} {Q : zQ} {h0 : Nat} {x1 : Int32} {x2 : Int32} {x3 : Int32} (kt : (0 : Int32) ≤ x3 → Go d i_X11_way 19 [.ref h0, .int x1, .int x2, .int x3] [] S I J Q) (kf : ¬ (0 : Int32) ≤ x3 → Go d i_X11_way 16 [.ref h0, .int x1, .int x2, .int x3] [] S I J Q) : Go d i_X11_way 12 [.ref h0, .int x1, .int x2, .int x3] [] S I J Q := by
  have h := (Go.ite kt kf)
  exact Go.n tb_X11_way 2 h
theorem b_X11_way_16 {d : Nat} {S : zS} {I : zI} {J : zJ} {Q : zQ} {h0 : Nat} {x1 : Int32} {x2 : Int32} {x3 : Int32} (kk : Q (some (.int (-3 : Int32))) S I J) : Go d i_X11_way 16 [.ref h0, .int x1, .int x2, .int x3] [] S I J Q := by
  have h := (And.intro trivial kk)
  exact Go.n tb_X11_way 2 h
theorem b_X11_way_19 {d : Nat} {S : zS} {I : zI} {J : zJ} {Q : zQ} {h0 : Nat} {x1 : Int32} {x2 : Int32} {x3 : Int32} (g1 : z_kd S h0 = 12) (g2 : z_isR (z_kd S (z_rv S h0 5)) = true ∧ vp_in x1 (z_ln S (z_rv S h0 5))) (g3 : z_kd S (z_rv S (z_rv S h0 5) (Int32.toNatClampNeg x1)) = 9) (kk : z_wp d i_X8_stepOfWay [.ref (z_rv S (z_rv S h0 5) (Int32.toNatClampNeg x1)), .int x2, .int x3] S I J (fun vv SS II JJ => Go d i_X11_way 30 [.ref h0, .int x1, .int x2, .int x3] (vv.toList ++ []) SS II JJ Q)) : Go d i_X11_way 19 [.ref h0, .int x1, .int x2, .int x3] [] S I J Q := by
  have h := (And.intro g1 (And.intro g2 (And.intro g3 kk)))
  exact Go.n tb_X11_way 7 h
theorem b_X11_way_30 {d : Nat} {S : zS} {I : zI} {J : zJ} {Q : zQ} {h0 : Nat} {x1 : Int32} {x2 : Int32} {x3 : Int32} {y0 : Int32} (kk : Q (some (.int y0)) S I J) : Go d i_X11_way 30 [.ref h0, .int x1, .int x2, .int x3] [.int y0] S I J Q := by
  have h := (And.intro trivial kk)
  exact Go.n tb_X11_way 1 h
theorem w_X11_ring {d : Nat} {S : zS} {I : zI} {J : zJ} {Q : zQ} {h0 : Nat} {x1 : Int32} (h : Go d i_X11_ring 0 [.ref h0, .int x1] [] S I J Q) : z_wp (d + 1) i_X11_ring [.ref h0, .int x1] S I J Q := Go.wp (Nat.le_of_ble_eq_true rfl) h
theorem e_X11_ring {d : Nat} {S S2 : zS} {I I2 : zI} {J J2 : zJ} {r : Option Value} {h0 : Nat} {x1 : Int32} (h : Go d i_X11_ring 0 [.ref h0, .int x1] [] S I J (z_eq r S2 I2 J2)) : z_ev (d + 1) i_X11_ring [.ref h0, .int x1] S I J r S2 I2 J2 := Go.ev (Nat.le_of_ble_eq_true rfl) h
theorem b_X11_ring_0 {d : Nat} {S : zS} {I : zI} {J : zJ} {Q : zQ} {h0 : Nat} {x1 : Int32} (kk : z_wp d i_X11_isSlot [.int x1] S I J (fun vv SS II JJ => Go d i_X11_ring 4 [.ref h0, .int x1] (vv.toList ++ []) SS II JJ Q)) : Go d i_X11_ring 0 [.ref h0, .int x1] [] S I J Q := by
  have h := (And.intro trivial kk)
  exact Go.n tb_X11_ring 2 h
theorem b_X11_ring_4 {d : Nat} {S : zS} {I : zI} {J : zJ} {Q : zQ} {h0 : Nat} {x1 : Int32} {y0 : Int32} (kt : y0 = (0 : Int32) → Go d i_X11_ring 19 [.ref h0, .int x1] [] S I J Q) (kf : ¬ y0 = (0 : Int32) → Go d i_X11_ring 7 [.ref h0, .int x1] [] S I J Q) : Go d i_X11_ring 4 [.ref h0, .int x1] [.int y0] S I J Q := by
  have h := (Go.ite kt kf)
  exact Go.n tb_X11_ring 1 h
theorem b_X11_ring_7 {d : Nat} {S : zS} {I : zI} {J : zJ} {Q : zQ} {h0 : Nat} {x1 : Int32} (g1 : z_kd S h0 = 12) (g2 : z_isR (z_kd S (z_rv S h0 5)) = true ∧ vp_in x1 (z_ln S (z_rv S h0 5))) (g3 : z_kd S (z_rv S (z_rv S h0 5) (Int32.toNatClampNeg x1)) = 9) (kk : z_wp d i_X8_shortestRing [.ref (z_rv S (z_rv S h0 5) (Int32.toNatClampNeg x1))] S I J (fun vv SS II JJ => Go d i_X11_ring 16 [.ref h0, .int x1] (vv.toList ++ []) SS II JJ Q)) : Go d i_X11_ring 7 [.ref h0, .int x1] [] S I J Q := by
  have h := (And.intro g1 (And.intro g2 (And.intro g3 kk)))
  exact Go.n tb_X11_ring 5 h
theorem b_X11_ring_16 {d : Nat} {S : zS} {I : zI} {J : zJ} {Q : zQ} {h0 : Nat} {x1 : Int32} {y0 : Int32} (kk : Q (some (.int y0)) S I J) : Go d i_X11_ring 16 [.ref h0, .int x1] [.int y0] S I J Q := by
  have h := (And.intro trivial kk)
  exact Go.n tb_X11_ring 2 h
theorem b_X11_ring_19 {d : Nat} {S : zS} {I : zI} {J : zJ} {Q : zQ} {h0 : Nat} {x1 : Int32} (kk : Q (some (.int (-2 : Int32))) S I J) : Go d i_X11_ring 19 [.ref h0, .int x1] [] S I J Q := by
  have h := (And.intro trivial kk)
  exact Go.n tb_X11_ring 2 h
theorem w_X11_parts {d : Nat} {S : zS} {I : zI} {J : zJ} {Q : zQ} {h0 : Nat} {x1 : Int32} (h : Go d i_X11_parts 0 [.ref h0, .int x1, .retAddr 0, .retAddr 0] [] S I J Q) : z_wp (d + 1) i_X11_parts [.ref h0, .int x1] S I J Q := Go.wp (Nat.le_of_ble_eq_true rfl) h
theorem e_X11_parts {d : Nat} {S S2 : zS} {I I2 : zI} {J J2 : zJ} {r : Option Value} {h0 : Nat} {x1 : Int32} (h : Go d i_X11_parts 0 [.ref h0, .int x1, .retAddr 0, .retAddr 0] [] S I J (z_eq r S2 I2 J2)) : z_ev (d + 1) i_X11_parts [.ref h0, .int x1] S I J r S2 I2 J2 := Go.ev (Nat.le_of_ble_eq_true rfl) h
theorem b_X11_parts_0 {d : Nat} {S : zS} {I : zI} {J : zJ} {Q : zQ} {h0 : Nat} {x1 : Int32} {v2 : Value} {v3 : Value} (kk : z_wp d i_X11_isSlot [.int x1] S I J (fun vv SS II JJ => Go d i_X11_parts 4 [.ref h0, .int x1, v2, v3] (vv.toList ++ []) SS II JJ Q)) : Go d i_X11_parts 0 [.ref h0, .int x1, v2, v3] [] S I J Q := by
  have h := (And.intro trivial kk)
  exact Go.n tb_X11_parts 2 h
theorem b_X11_parts_4 {d : Nat} {S : zS} {I : zI} {J : zJ} {Q : zQ} {h0 : Nat} {x1 : Int32} {v2 : Value} {v3 : Value} {y0 : Int32} (kt : ¬ y0 = (0 : Int32) → Go d i_X11_parts 10 [.ref h0, .int x1, v2, v3] [] S I J Q) (kf : y0 = (0 : Int32) → Go d i_X11_parts 7 [.ref h0, .int x1, v2, v3] [] S I J Q) : Go d i_X11_parts 4 [.ref h0, .int x1, v2, v3] [.int y0] S I J Q := by
  have h := (Go.eti kt kf)
  exact Go.n tb_X11_parts 1 h
theorem b_X11_parts_7 {d : Nat} {S : zS} {I : zI} {J : zJ} {Q : zQ} {h0 : Nat} {x1 : Int32} {v2 : Value} {v3 : Value} (kk : Q (some (.int (-2 : Int32))) S I J) : Go d i_X11_parts 7 [.ref h0, .int x1, v2, v3] [] S I J Q := by
  have h := (And.intro trivial kk)
  exact Go.n tb_X11_parts 2 h
theorem b_X11_parts_10 {d : Nat} {S : zS} {I : zI} {J : zJ} {Q : zQ} {h0 : Nat} {x1 : Int32} {v2 : Value} {v3 : Value} (g1 : z_kd S h0 = 12) (g2 : z_isR (z_kd S (z_rv S h0 5)) = true ∧ vp_in x1 (z_ln S (z_rv S h0 5))) (g3 : ¬ (z_rv S (z_rv S h0 5) (Int32.toNatClampNeg x1)) = 0) (g4 : z_kd S (z_rv S (z_rv S h0 5) (Int32.toNatClampNeg x1)) = 9) (g5 : z_kd S (z_rv S (z_rv S h0 5) (Int32.toNatClampNeg x1)) = 9) (g6 : z_kd S (z_rv S (z_rv S (z_rv S h0 5) (Int32.toNatClampNeg x1)) 0) = 2) (kk : z_wp d i_X1_span [.ref (z_rv S (z_rv S (z_rv S h0 5) (Int32.toNatClampNeg x1)) 0), .int (I (z_rv S (z_rv S h0 5) (Int32.toNatClampNeg x1)) 1)] S I J (fun vv SS II JJ => Go d i_X11_parts 28 [.ref h0, .int x1, .ref (z_rv S (z_rv S h0 5) (Int32.toNatClampNeg x1)), v3] (vv.toList ++ []) SS II JJ Q)) : Go d i_X11_parts 10 [.ref h0, .int x1, v2, v3] [] S I J Q := by
  have h := (And.intro g1 (And.intro g2 (And.intro g3 (And.intro g4 (And.intro g5 (And.intro g6 kk))))))
  exact Go.n tb_X11_parts 10 h
theorem b_X11_parts_28 {d : Nat} {S : zS} {I : zI} {J : zJ} {Q : zQ} {h0 : Nat} {x1 : Int32} {h2 : Nat} {v3 : Value} {y0 : Int32} (kk : z_wp d i_J6_bitCount_0f7a4 [.int y0] S I J (fun vv SS II JJ => Go d i_X11_parts 31 [.ref h0, .int x1, .ref h2, v3] (vv.toList ++ []) SS II JJ Q)) : Go d i_X11_parts 28 [.ref h0, .int x1, .ref h2, v3] [.int y0] S I J Q := by
  have h := (And.intro trivial kk)
  exact Go.n tb_X11_parts 1 h
theorem b_X11_parts_31 {d : Nat} {S : zS} {I : zI} {J : zJ} {Q : zQ} {h0 : Nat} {x1 : Int32} {h2 : Nat} {v3 : Value} {y0 : Int32} (kt : y0 ≤ (0 : Int32) → Go d i_X11_parts 48 [.ref h0, .int x1, .ref h2, .int y0] [] S I J Q) (kf : ¬ y0 ≤ (0 : Int32) → Go d i_X11_parts 36 [.ref h0, .int x1, .ref h2, .int y0] [] S I J Q) : Go d i_X11_parts 31 [.ref h0, .int x1, .ref h2, v3] [.int y0] S I J Q := by
  have h := (Go.ite kt kf)
  exact Go.n tb_X11_parts 3 h
theorem b_X11_parts_36 {d : Nat} {S : zS} {I : zI} {J : zJ} {Q : zQ} {h0 : Nat} {x1 : Int32} {h2 : Nat} {x3 : Int32} (g1 : z_kd S h2 = 9) (g2 : z_kd S (z_rv S h2 0) = 2) (g3 : ¬ x3 = 0) (kk : Q (some (.int ((I (z_rv S h2 0) 0) / x3))) S I J) : Go d i_X11_parts 36 [.ref h0, .int x1, .ref h2, .int x3] [] S I J Q := by
  have h := (And.intro g1 (And.intro g2 (And.intro g3 (And.intro trivial kk))))
  exact Go.n tb_X11_parts 7 h
theorem b_X11_parts_48 {d : Nat} {S : zS} {I : zI} {J : zJ} {Q : zQ} {h0 : Nat} {x1 : Int32} {h2 : Nat} {x3 : Int32} (kk : Q (some (.int (-1 : Int32))) S I J) : Go d i_X11_parts 48 [.ref h0, .int x1, .ref h2, .int x3] [] S I J Q := by
  have h := (And.intro trivial kk)
  exact Go.n tb_X11_parts 2 h
theorem w_X11_symmetries {d : Nat} {S : zS} {I : zI} {J : zJ} {Q : zQ} {h0 : Nat} {x1 : Int32} (h : Go d i_X11_symmetries 0 [.ref h0, .int x1] [] S I J Q) : z_wp (d + 1) i_X11_symmetries [.ref h0, .int x1] S I J Q := Go.wp (Nat.le_of_ble_eq_true rfl) h
theorem e_X11_symmetries {d : Nat} {S S2 : zS} {I I2 : zI} {J J2 : zJ} {r : Option Value} {h0 : Nat} {x1 : Int32} (h : Go d i_X11_symmetries 0 [.ref h0, .int x1] [] S I J (z_eq r S2 I2 J2)) : z_ev (d + 1) i_X11_symmetries [.ref h0, .int x1] S I J r S2 I2 J2 := Go.ev (Nat.le_of_ble_eq_true rfl) h
theorem b_X11_symmetries_0 {d : Nat} {S : zS} {I : zI} {J : zJ} {Q : zQ} {h0 : Nat} {x1 : Int32} (kk : z_wp d i_X11_isSlot [.int x1] S I J (fun vv SS II JJ => Go d i_X11_symmetries 4 [.ref h0, .int x1] (vv.toList ++ []) SS II JJ Q)) : Go d i_X11_symmetries 0 [.ref h0, .int x1] [] S I J Q := by
  have h := (And.intro trivial kk)
  exact Go.n tb_X11_symmetries 2 h
theorem b_X11_symmetries_4 {d : Nat} {S : zS} {I : zI} {J : zJ} {Q : zQ} {h0 : Nat} {x1 : Int32} {y0 : Int32} (kt : ¬ y0 = (0 : Int32) → Go d i_X11_symmetries 11 [.ref h0, .int x1] [] S I J Q) (kf : y0 = (0 : Int32) → Go d i_X11_symmetries 7 [.ref h0, .int x1] [] S I J Q) : Go d i_X11_symmetries 4 [.ref h0, .int x1] [.int y0] S I J Q := by
  have h := (Go.eti kt kf)
  exact Go.n tb_X11_symmetries 1 h
theorem b_X11_symmetries_7 {d : Nat} {S : zS} {I : zI} {J : zJ} {Q : zQ} {h0 : Nat} {x1 : Int32} (kk : Q (some (.long (-2 : Int64))) S I J) : Go d i_X11_symmetries 7 [.ref h0, .int x1] [] S I J Q := by
  have h := (And.intro trivial kk)
  exact Go.n tb_X11_symmetries 2 h
theorem b_X11_symmetries_11 {d : Nat} {S : zS} {I : zI} {J : zJ} {Q : zQ} {h0 : Nat} {x1 : Int32} (g1 : z_kd S h0 = 12) (kk : z_wp d i_X11_solved [.ref h0, .int x1] S I J (fun vv SS II JJ => Go d i_X11_symmetries 16 [.ref h0, .int x1] (vv.toList ++ []) SS II JJ Q)) : Go d i_X11_symmetries 11 [.ref h0, .int x1] [] S I J Q := by
  have h := (And.intro g1 kk)
  exact Go.n tb_X11_symmetries 3 h
theorem b_X11_symmetries_16 {d : Nat} {S : zS} {I : zI} {J : zJ} {Q : zQ} {h0 : Nat} {x1 : Int32} {q0 : Nat} (g1 : z_kd S q0 = 9) (g2 : z_kd S h0 = 12) (g3 : z_isR (z_kd S (z_rv S h0 5)) = true ∧ vp_in x1 (z_ln S (z_rv S h0 5))) (g4 : z_kd S (z_rv S (z_rv S h0 5) (Int32.toNatClampNeg x1)) = 9) (g5 : z_kd S (z_rv S (z_rv S (z_rv S h0 5) (Int32.toNatClampNeg x1)) 0) = 2) (kk : Q (some (.long ((J q0 2) * (Int32.toInt64 (I (z_rv S (z_rv S (z_rv S h0 5) (Int32.toNatClampNeg x1)) 0) 0))))) S I J) : Go d i_X11_symmetries 16 [.ref h0, .int x1] [.ref q0] S I J Q := by
  have h := (And.intro g1 (And.intro g2 (And.intro g3 (And.intro g4 (And.intro g5 (And.intro trivial kk))))))
  exact Go.n tb_X11_symmetries 10 h
theorem w_X11_alikeTo {d : Nat} {S : zS} {I : zI} {J : zJ} {Q : zQ} {h0 : Nat} {x1 : Int32} {x2 : Int32} (h : Go d i_X11_alikeTo 0 [.ref h0, .int x1, .int x2] [] S I J Q) : z_wp (d + 1) i_X11_alikeTo [.ref h0, .int x1, .int x2] S I J Q := Go.wp (Nat.le_of_ble_eq_true rfl) h
theorem e_X11_alikeTo {d : Nat} {S S2 : zS} {I I2 : zI} {J J2 : zJ} {r : Option Value} {h0 : Nat} {x1 : Int32} {x2 : Int32} (h : Go d i_X11_alikeTo 0 [.ref h0, .int x1, .int x2] [] S I J (z_eq r S2 I2 J2)) : z_ev (d + 1) i_X11_alikeTo [.ref h0, .int x1, .int x2] S I J r S2 I2 J2 := Go.ev (Nat.le_of_ble_eq_true rfl) h
theorem b_X11_alikeTo_0 {d : Nat} {S : zS} {I : zI} {J : zJ} {Q : zQ} {h0 : Nat} {x1 : Int32} {x2 : Int32} (g1 : z_kd S h0 = 12) (kk : z_wp d i_X11_isElement [.ref h0, .int x1, .int x2] S I J (fun vv SS II JJ => Go d i_X11_alikeTo 6 [.ref h0, .int x1, .int x2] (vv.toList ++ []) SS II JJ Q)) : Go d i_X11_alikeTo 0 [.ref h0, .int x1, .int x2] [] S I J Q := by
  have h := (And.intro g1 kk)
  exact Go.n tb_X11_alikeTo 4 h
theorem b_X11_alikeTo_6 {d : Nat} {S : zS} {I : zI} {J : zJ} {Q : zQ} {h0 : Nat} {x1 : Int32} {x2 : Int32} {y0 : Int32} (kt : y0 = (0 : Int32) → Go d i_X11_alikeTo 22 [.ref h0, .int x1, .int x2] [] S I J Q) (kf : ¬ y0 = (0 : Int32) → Go d i_X11_alikeTo 9 [.ref h0, .int x1, .int x2] [] S I J Q) : Go d i_X11_alikeTo 6 [.ref h0, .int x1, .int x2] [.int y0] S I J Q := by
  have h := (Go.ite kt kf)
  exact Go.n tb_X11_alikeTo 1 h
theorem b_X11_alikeTo_9 {d : Nat} {S : zS} {I : zI} {J : zJ} {Q : zQ} {h0 : Nat} {x1 : Int32} {x2 : Int32} (g1 : z_kd S h0 = 12) (kk : z_wp d i_X11_solved [.ref h0, .int x1] S I J (fun vv SS II JJ => Go d i_X11_alikeTo 14 [.ref h0, .int x1, .int x2] (vv.toList ++ []) SS II JJ Q)) : Go d i_X11_alikeTo 9 [.ref h0, .int x1, .int x2] [] S I J Q := by
  have h := (And.intro g1 kk)
  exact Go.n tb_X11_alikeTo 3 h
theorem b_X11_alikeTo_14 {d : Nat} {S : zS} {I : zI} {J : zJ} {Q : zQ} {h0 : Nat} {x1 : Int32} {x2 : Int32} {q0 : Nat} (g1 : z_kd S q0 = 9) (g2 : z_isI (z_kd S (z_rv S q0 4)) = true ∧ vp_in x2 (z_ln S (z_rv S q0 4))) (kk : Q (some (.int (I (z_rv S q0 4) (Int32.toNatClampNeg x2)))) S I J) : Go d i_X11_alikeTo 14 [.ref h0, .int x1, .int x2] [.ref q0] S I J Q := by
  have h := (And.intro g1 (And.intro g2 (And.intro trivial kk)))
  exact Go.n tb_X11_alikeTo 5 h
theorem b_X11_alikeTo_22 {d : Nat} {S : zS} {I : zI} {J : zJ} {Q : zQ} {h0 : Nat} {x1 : Int32} {x2 : Int32} (kk : Q (some (.int (-2 : Int32))) S I J) : Go d i_X11_alikeTo 22 [.ref h0, .int x1, .int x2] [] S I J Q := by
  have h := (And.intro trivial kk)
  exact Go.n tb_X11_alikeTo 2 h
theorem w_X11_regular {d : Nat} {S : zS} {I : zI} {J : zJ} {Q : zQ} {h0 : Nat} {x1 : Int32} {x2 : Int32} (h : Go d i_X11_regular 0 [.ref h0, .int x1, .int x2] [] S I J Q) : z_wp (d + 1) i_X11_regular [.ref h0, .int x1, .int x2] S I J Q := Go.wp (Nat.le_of_ble_eq_true rfl) h
theorem e_X11_regular {d : Nat} {S S2 : zS} {I I2 : zI} {J J2 : zJ} {r : Option Value} {h0 : Nat} {x1 : Int32} {x2 : Int32} (h : Go d i_X11_regular 0 [.ref h0, .int x1, .int x2] [] S I J (z_eq r S2 I2 J2)) : z_ev (d + 1) i_X11_regular [.ref h0, .int x1, .int x2] S I J r S2 I2 J2 := Go.ev (Nat.le_of_ble_eq_true rfl) h
theorem b_X11_regular_0 {d : Nat} {S : zS} {I : zI} {J : zJ} {Q : zQ} {h0 : Nat} {x1 : Int32} {x2 : Int32} (kk : z_wp d i_X11_isSlot [.int x1] S I J (fun vv SS II JJ => Go d i_X11_regular 4 [.ref h0, .int x1, .int x2] (vv.toList ++ []) SS II JJ Q)) : Go d i_X11_regular 0 [.ref h0, .int x1, .int x2] [] S I J Q := by
  have h := (And.intro trivial kk)
  exact Go.n tb_X11_regular 2 h
theorem b_X11_regular_4 {d : Nat} {S : zS} {I : zI} {J : zJ} {Q : zQ} {h0 : Nat} {x1 : Int32} {x2 : Int32} {y0 : Int32} (kt : ¬ y0 = (0 : Int32) → Go d i_X11_regular 10 [.ref h0, .int x1, .int x2] [] S I J Q) (kf : y0 = (0 : Int32) → Go d i_X11_regular 7 [.ref h0, .int x1, .int x2] [] S I J Q) : Go d i_X11_regular 4 [.ref h0, .int x1, .int x2] [.int y0] S I J Q := by
  have h := (Go.eti kt kf)
  exact Go.n tb_X11_regular 1 h
theorem b_X11_regular_7 {d : Nat} {S : zS} {I : zI} {J : zJ} {Q : zQ} {h0 : Nat} {x1 : Int32} {x2 : Int32} (kk : Q (some (.int (-2 : Int32))) S I J) : Go d i_X11_regular 7 [.ref h0, .int x1, .int x2] [] S I J Q := by
  have h := (And.intro trivial kk)
  exact Go.n tb_X11_regular 2 h
theorem b_X11_regular_10 {d : Nat} {S : zS} {I : zI} {J : zJ} {Q : zQ} {h0 : Nat} {x1 : Int32} {x2 : Int32} (kk : Go d i_X11_regular (z_sw [(0, 40), (1, 57), (2, 74), (3, 98)] 104 x2) [.ref h0, .int x1, .int x2] [] S I J Q) : Go d i_X11_regular 10 [.ref h0, .int x1, .int x2] [] S I J Q := by
  have h := kk
  exact Go.n tb_X11_regular 2 h
theorem b_X11_regular_40 {d : Nat} {S : zS} {I : zI} {J : zJ} {Q : zQ} {h0 : Nat} {x1 : Int32} {x2 : Int32} (g1 : z_kd S h0 = 12) (kk : z_wp d i_X11_solved [.ref h0, .int x1] S I J (fun vv SS II JJ => Go d i_X11_regular 45 [.ref h0, .int x1, .int x2] (vv.toList ++ []) SS II JJ Q)) : Go d i_X11_regular 40 [.ref h0, .int x1, .int x2] [] S I J Q := by
  have h := (And.intro g1 kk)
  exact Go.n tb_X11_regular 3 h
theorem b_X11_regular_45 {d : Nat} {S : zS} {I : zI} {J : zJ} {Q : zQ} {h0 : Nat} {x1 : Int32} {x2 : Int32} {q0 : Nat} (g1 : z_kd S q0 = 9) (kk : z_wp d i_X8_arcsAlike [.ref q0] S I J (fun vv SS II JJ => Go d i_X11_regular 48 [.ref h0, .int x1, .int x2] (vv.toList ++ []) SS II JJ Q)) : Go d i_X11_regular 45 [.ref h0, .int x1, .int x2] [.ref q0] S I J Q := by
  have h := (And.intro g1 kk)
  exact Go.n tb_X11_regular 1 h
theorem b_X11_regular_48 {d : Nat} {S : zS} {I : zI} {J : zJ} {Q : zQ} {h0 : Nat} {x1 : Int32} {x2 : Int32} {y0 : Int32} (kt : y0 = (0 : Int32) → Go d i_X11_regular 55 [.ref h0, .int x1, .int x2] [] S I J Q) (kf : ¬ y0 = (0 : Int32) → Go d i_X11_regular 51 [.ref h0, .int x1, .int x2] [] S I J Q) : Go d i_X11_regular 48 [.ref h0, .int x1, .int x2] [.int y0] S I J Q := by
  have h := (Go.ite kt kf)
  exact Go.n tb_X11_regular 1 h
theorem b_X11_regular_51 {d : Nat} {S : zS} {I : zI} {J : zJ} {Q : zQ} {h0 : Nat} {x1 : Int32} {x2 : Int32} (kk : Q (some (.int (1 : Int32))) S I J) : Go d i_X11_regular 51 [.ref h0, .int x1, .int x2] [] S I J Q := by
  have h := (And.intro trivial kk)
  exact Go.n tb_X11_regular 3 h
theorem b_X11_regular_55 {d : Nat} {S : zS} {I : zI} {J : zJ} {Q : zQ} {h0 : Nat} {x1 : Int32} {x2 : Int32} (kk : Q (some (.int (0 : Int32))) S I J) : Go d i_X11_regular 55 [.ref h0, .int x1, .int x2] [] S I J Q := by
  have h := (And.intro trivial kk)
  exact Go.n tb_X11_regular 2 h
theorem b_X11_regular_57 {d : Nat} {S : zS} {I : zI} {J : zJ} {Q : zQ} {h0 : Nat} {x1 : Int32} {x2 : Int32} (g1 : z_kd S h0 = 12) (kk : z_wp d i_X11_solved [.ref h0, .int x1] S I J (fun vv SS II JJ => Go d i_X11_regular 62 [.ref h0, .int x1, .int x2] (vv.toList ++ []) SS II JJ Q)) : Go d i_X11_regular 57 [.ref h0, .int x1, .int x2] [] S I J Q := by
  have h := (And.intro g1 kk)
  exact Go.n tb_X11_regular 3 h
theorem b_X11_regular_62 {d : Nat} {S : zS} {I : zI} {J : zJ} {Q : zQ} {h0 : Nat} {x1 : Int32} {x2 : Int32} {q0 : Nat} (g1 : z_kd S q0 = 9) (kk : z_wp d i_X8_farAlike [.ref q0] S I J (fun vv SS II JJ => Go d i_X11_regular 65 [.ref h0, .int x1, .int x2] (vv.toList ++ []) SS II JJ Q)) : Go d i_X11_regular 62 [.ref h0, .int x1, .int x2] [.ref q0] S I J Q := by
  have h := (And.intro g1 kk)
  exact Go.n tb_X11_regular 1 h
theorem b_X11_regular_65 {d : Nat} {S : zS} {I : zI} {J : zJ} {Q : zQ} {h0 : Nat} {x1 : Int32} {x2 : Int32} {y0 : Int32} (kt : y0 = (0 : Int32) → Go d i_X11_regular 72 [.ref h0, .int x1, .int x2] [] S I J Q) (kf : ¬ y0 = (0 : Int32) → Go d i_X11_regular 68 [.ref h0, .int x1, .int x2] [] S I J Q) : Go d i_X11_regular 65 [.ref h0, .int x1, .int x2] [.int y0] S I J Q := by
  have h := (Go.ite kt kf)
  exact Go.n tb_X11_regular 1 h
theorem b_X11_regular_68 {d : Nat} {S : zS} {I : zI} {J : zJ} {Q : zQ} {h0 : Nat} {x1 : Int32} {x2 : Int32} (kk : Q (some (.int (1 : Int32))) S I J) : Go d i_X11_regular 68 [.ref h0, .int x1, .int x2] [] S I J Q := by
  have h := (And.intro trivial kk)
  exact Go.n tb_X11_regular 3 h
theorem b_X11_regular_72 {d : Nat} {S : zS} {I : zI} {J : zJ} {Q : zQ} {h0 : Nat} {x1 : Int32} {x2 : Int32} (kk : Q (some (.int (0 : Int32))) S I J) : Go d i_X11_regular 72 [.ref h0, .int x1, .int x2] [] S I J Q := by
  have h := (And.intro trivial kk)
  exact Go.n tb_X11_regular 2 h
theorem b_X11_regular_74 {d : Nat} {S : zS} {I : zI} {J : zJ} {Q : zQ} {h0 : Nat} {x1 : Int32} {x2 : Int32} (g1 : z_kd S h0 = 12) (kk : z_wp d i_X11_solved [.ref h0, .int x1] S I J (fun vv SS II JJ => Go d i_X11_regular 79 [.ref h0, .int x1, .int x2] (vv.toList ++ []) SS II JJ Q)) : Go d i_X11_regular 74 [.ref h0, .int x1, .int x2] [] S I J Q := by
  have h := (And.intro g1 kk)
  exact Go.n tb_X11_regular 3 h
theorem b_X11_regular_79 {d : Nat} {S : zS} {I : zI} {J : zJ} {Q : zQ} {h0 : Nat} {x1 : Int32} {x2 : Int32} {q0 : Nat} (g1 : z_kd S q0 = 9) (g2 : z_kd S h0 = 12) (kk : z_wp d i_X11_ownCount [.ref h0, .int x1] S I J (fun vv SS II JJ => Go d i_X11_regular 87 [.ref h0, .int x1, .int x2] (vv.toList ++ [.long (J q0 2)]) SS II JJ Q)) : Go d i_X11_regular 79 [.ref h0, .int x1, .int x2] [.ref q0] S I J Q := by
  have h := (And.intro g1 (And.intro g2 kk))
  exact Go.n tb_X11_regular 4 h
theorem b_X11_regular_87 {d : Nat} {S : zS} {I : zI} {J : zJ} {Q : zQ} {h0 : Nat} {x1 : Int32} {x2 : Int32} {w0 : Int64} {y1 : Int32} (kt : ¬ (lg_cmp w0 (Int32.toInt64 y1)) = (0 : Int32) → Go d i_X11_regular 96 [.ref h0, .int x1, .int x2] [] S I J Q) (kf : (lg_cmp w0 (Int32.toInt64 y1)) = (0 : Int32) → Go d i_X11_regular 92 [.ref h0, .int x1, .int x2] [] S I J Q) : Go d i_X11_regular 87 [.ref h0, .int x1, .int x2] [.int y1, .long w0] S I J Q := by
  have h := (Go.eti kt kf)
  exact Go.n tb_X11_regular 3 h
theorem b_X11_regular_92 {d : Nat} {S : zS} {I : zI} {J : zJ} {Q : zQ} {h0 : Nat} {x1 : Int32} {x2 : Int32} (kk : Q (some (.int (1 : Int32))) S I J) : Go d i_X11_regular 92 [.ref h0, .int x1, .int x2] [] S I J Q := by
  have h := (And.intro trivial kk)
  exact Go.n tb_X11_regular 3 h
theorem b_X11_regular_96 {d : Nat} {S : zS} {I : zI} {J : zJ} {Q : zQ} {h0 : Nat} {x1 : Int32} {x2 : Int32} (kk : Q (some (.int (0 : Int32))) S I J) : Go d i_X11_regular 96 [.ref h0, .int x1, .int x2] [] S I J Q := by
  have h := (And.intro trivial kk)
  exact Go.n tb_X11_regular 2 h
theorem b_X11_regular_98 {d : Nat} {S : zS} {I : zI} {J : zJ} {Q : zQ} {h0 : Nat} {x1 : Int32} {x2 : Int32} (g1 : z_kd S h0 = 12) (kk : z_wp d i_X11_ownCount [.ref h0, .int x1] S I J (fun vv SS II JJ => Go d i_X11_regular 103 [.ref h0, .int x1, .int x2] (vv.toList ++ []) SS II JJ Q)) : Go d i_X11_regular 98 [.ref h0, .int x1, .int x2] [] S I J Q := by
  have h := (And.intro g1 kk)
  exact Go.n tb_X11_regular 3 h
theorem b_X11_regular_103 {d : Nat} {S : zS} {I : zI} {J : zJ} {Q : zQ} {h0 : Nat} {x1 : Int32} {x2 : Int32} {y0 : Int32} (kk : Q (some (.int y0)) S I J) : Go d i_X11_regular 103 [.ref h0, .int x1, .int x2] [.int y0] S I J Q := by
  have h := (And.intro trivial kk)
  exact Go.n tb_X11_regular 1 h
theorem b_X11_regular_104 {d : Nat} {S : zS} {I : zI} {J : zJ} {Q : zQ} {h0 : Nat} {x1 : Int32} {x2 : Int32} (kk : Q (some (.int (-2 : Int32))) S I J) : Go d i_X11_regular 104 [.ref h0, .int x1, .int x2] [] S I J Q := by
  have h := (And.intro trivial kk)
  exact Go.n tb_X11_regular 2 h
theorem w_X11_alike {d : Nat} {S : zS} {I : zI} {J : zJ} {Q : zQ} {h0 : Nat} {x1 : Int32} (h : Go d i_X11_alike 0 [.ref h0, .int x1] [] S I J Q) : z_wp (d + 1) i_X11_alike [.ref h0, .int x1] S I J Q := Go.wp (Nat.le_of_ble_eq_true rfl) h
theorem e_X11_alike {d : Nat} {S S2 : zS} {I I2 : zI} {J J2 : zJ} {r : Option Value} {h0 : Nat} {x1 : Int32} (h : Go d i_X11_alike 0 [.ref h0, .int x1] [] S I J (z_eq r S2 I2 J2)) : z_ev (d + 1) i_X11_alike [.ref h0, .int x1] S I J r S2 I2 J2 := Go.ev (Nat.le_of_ble_eq_true rfl) h
theorem b_X11_alike_0 {d : Nat} {S : zS} {I : zI} {J : zJ} {Q : zQ} {h0 : Nat} {x1 : Int32} (g1 : z_kd S h0 = 12) (kk : z_wp d i_X11_isElement [.ref h0, .int (0 : Int32), .int x1] S I J (fun vv SS II JJ => Go d i_X11_alike 6 [.ref h0, .int x1] (vv.toList ++ []) SS II JJ Q)) : Go d i_X11_alike 0 [.ref h0, .int x1] [] S I J Q := by
  have h := (And.intro g1 kk)
  exact Go.n tb_X11_alike 4 h
theorem b_X11_alike_6 {d : Nat} {S : zS} {I : zI} {J : zJ} {Q : zQ} {h0 : Nat} {x1 : Int32} {y0 : Int32} (kt : ¬ y0 = (0 : Int32) → Go d i_X11_alike 12 [.ref h0, .int x1] [] S I J Q) (kf : y0 = (0 : Int32) → Go d i_X11_alike 9 [.ref h0, .int x1] [] S I J Q) : Go d i_X11_alike 6 [.ref h0, .int x1] [.int y0] S I J Q := by
  have h := (Go.eti kt kf)
  exact Go.n tb_X11_alike 1 h
theorem b_X11_alike_9 {d : Nat} {S : zS} {I : zI} {J : zJ} {Q : zQ} {h0 : Nat} {x1 : Int32} (kk : Q (some (.int (-2 : Int32))) S I J) : Go d i_X11_alike 9 [.ref h0, .int x1] [] S I J Q := by
  have h := (And.intro trivial kk)
  exact Go.n tb_X11_alike 2 h
theorem b_X11_alike_12 {d : Nat} {S : zS} {I : zI} {J : zJ} {Q : zQ} {h0 : Nat} {x1 : Int32} (g1 : z_kd S h0 = 12) (kt : ¬ (I h0 14) = (0 : Int32) → Go d i_X11_alike 47 [.ref h0, .int x1] [] S I J Q) (kf : (I h0 14) = (0 : Int32) → Go d i_X11_alike 19 [.ref h0, .int x1] [] S I J Q) : Go d i_X11_alike 12 [.ref h0, .int x1] [] S I J Q := by
  have h := (And.intro g1 (Go.eti kt kf))
  exact Go.n tb_X11_alike 3 h
theorem b_X11_alike_19 {d : Nat} {S : zS} {I : zI} {J : zJ} {Q : zQ} {h0 : Nat} {x1 : Int32} (g1 : z_kd S h0 = 12) (g2 : z_kd S h0 = 12) (g3 : z_isR (z_kd S (z_rv S h0 5)) = true ∧ vp_in (0 : Int32) (z_ln S (z_rv S h0 5))) (g4 : z_kd S h0 = 12) (g5 : z_isR (z_kd S (z_rv S h0 5)) = true ∧ vp_in (1 : Int32) (z_ln S (z_rv S h0 5))) (g6 : z_kd S h0 = 12) (g7 : z_kd S (z_rv S h0 8) = 8) (kk : z_wp d i_X7_findFirst [.ref (z_rv S h0 8), .ref (z_rv S (z_rv S h0 5) (Int32.toNatClampNeg (0 : Int32))), .ref (z_rv S (z_rv S h0 5) (Int32.toNatClampNeg (1 : Int32))), .ref (z_rv S h0 11)] S I J (fun vv SS II JJ => Go d i_X11_alike 42 [.ref h0, .int x1] (vv.toList ++ []) SS II JJ Q)) : Go d i_X11_alike 19 [.ref h0, .int x1] [] S I J Q := by
  have h := (And.intro g1 (And.intro g2 (And.intro g3 (And.intro g4 (And.intro g5 (And.intro g6 (And.intro g7 kk)))))))
  exact Go.n tb_X11_alike 13 h
theorem b_X11_alike_42 {d : Nat} {S : zS} {I : zI} {J : zJ} {Q : zQ} {h0 : Nat} {x1 : Int32} (g1 : z_kd S h0 = 12 ∧ ((1 : Int32) = 0 ∨ (1 : Int32) = 1)) (g2 : z_kd S h0 = 12) (g3 : z_isI (z_kd S (z_rv S h0 11)) = true ∧ vp_in x1 (z_ln S (z_rv S h0 11))) (kk : Q (some (.int ((z_u2 I h0 14 (1 : Int32)) (z_rv S h0 11) (Int32.toNatClampNeg x1)))) S (z_u2 I h0 14 (1 : Int32)) J) : Go d i_X11_alike 42 [.ref h0, .int x1] [] S I J Q := by
  have h := (And.intro g1 (And.intro g2 (And.intro g3 (And.intro trivial kk))))
  exact Go.n tb_X11_alike 8 h
theorem b_X11_alike_47 {d : Nat} {S : zS} {I : zI} {J : zJ} {Q : zQ} {h0 : Nat} {x1 : Int32} (g1 : z_kd S h0 = 12) (g2 : z_isI (z_kd S (z_rv S h0 11)) = true ∧ vp_in x1 (z_ln S (z_rv S h0 11))) (kk : Q (some (.int (I (z_rv S h0 11) (Int32.toNatClampNeg x1)))) S I J) : Go d i_X11_alike 47 [.ref h0, .int x1] [] S I J Q := by
  have h := (And.intro g1 (And.intro g2 (And.intro trivial kk)))
  exact Go.n tb_X11_alike 5 h
theorem w_X11_other {d : Nat} {S : zS} {I : zI} {J : zJ} {Q : zQ} {h0 : Nat} (h : Go d i_X11_other 0 [.ref h0] [] S I J Q) : z_wp (d + 1) i_X11_other [.ref h0] S I J Q := Go.wp (Nat.le_of_ble_eq_true rfl) h
theorem e_X11_other {d : Nat} {S S2 : zS} {I I2 : zI} {J J2 : zJ} {r : Option Value} {h0 : Nat} (h : Go d i_X11_other 0 [.ref h0] [] S I J (z_eq r S2 I2 J2)) : z_ev (d + 1) i_X11_other [.ref h0] S I J r S2 I2 J2 := Go.ev (Nat.le_of_ble_eq_true rfl) h
theorem b_X11_other_0 {d : Nat} {S : zS} {I : zI} {J : zJ} {Q : zQ} {h0 : Nat} (g1 : z_kd S h0 = 12) (g2 : z_isR (z_kd S (z_rv S h0 5)) = true ∧ vp_in (0 : Int32) (z_ln S (z_rv S h0 5))) (g3 : z_kd S (z_rv S (z_rv S h0 5) (Int32.toNatClampNeg (0 : Int32))) = 9) (g4 : z_kd S (z_rv S (z_rv S (z_rv S h0 5) (Int32.toNatClampNeg (0 : Int32))) 0) = 2) (g5 : z_kd S h0 = 12) (g6 : z_isR (z_kd S (z_rv S h0 5)) = true ∧ vp_in (1 : Int32) (z_ln S (z_rv S h0 5))) (g7 : z_kd S (z_rv S (z_rv S h0 5) (Int32.toNatClampNeg (1 : Int32))) = 9) (g8 : z_kd S (z_rv S (z_rv S (z_rv S h0 5) (Int32.toNatClampNeg (1 : Int32))) 0) = 2) (kt : (I (z_rv S (z_rv S (z_rv S h0 5) (Int32.toNatClampNeg (0 : Int32))) 0) 0) = (I (z_rv S (z_rv S (z_rv S h0 5) (Int32.toNatClampNeg (1 : Int32))) 0) 0) → Go d i_X11_other 30 [.ref h0] [] S I J Q) (kf : ¬ (I (z_rv S (z_rv S (z_rv S h0 5) (Int32.toNatClampNeg (0 : Int32))) 0) 0) = (I (z_rv S (z_rv S (z_rv S h0 5) (Int32.toNatClampNeg (1 : Int32))) 0) 0) → Go d i_X11_other 27 [.ref h0] [] S I J Q) : Go d i_X11_other 0 [.ref h0] [] S I J Q := by
  have h := (And.intro g1 (And.intro g2 (And.intro g3 (And.intro g4 (And.intro g5 (And.intro g6 (And.intro g7 (And.intro g8 (Go.ite kt kf)))))))))
  exact Go.n tb_X11_other 13 h
theorem b_X11_other_27 {d : Nat} {S : zS} {I : zI} {J : zJ} {Q : zQ} {h0 : Nat} (kk : Q (some (.int (-5 : Int32))) S I J) : Go d i_X11_other 27 [.ref h0] [] S I J Q := by
  have h := (And.intro trivial kk)
  exact Go.n tb_X11_other 2 h
theorem b_X11_other_30 {d : Nat} {S : zS} {I : zI} {J : zJ} {Q : zQ} {h0 : Nat} (g1 : z_kd S h0 = 12) (g2 : z_isR (z_kd S (z_rv S h0 5)) = true ∧ vp_in (0 : Int32) (z_ln S (z_rv S h0 5))) (g3 : z_kd S (z_rv S (z_rv S h0 5) (Int32.toNatClampNeg (0 : Int32))) = 9) (kk : z_wp d i_J6_bitCount_0f7a4 [.int (I (z_rv S (z_rv S h0 5) (Int32.toNatClampNeg (0 : Int32))) 1)] S I J (fun vv SS II JJ => Go d i_X11_other 42 [.ref h0] (vv.toList ++ []) SS II JJ Q)) : Go d i_X11_other 30 [.ref h0] [] S I J Q := by
  have h := (And.intro g1 (And.intro g2 (And.intro g3 (And.intro trivial kk))))
  exact Go.n tb_X11_other 6 h
theorem b_X11_other_42 {d : Nat} {S : zS} {I : zI} {J : zJ} {Q : zQ} {h0 : Nat} {y0 : Int32} (kt : y0 ≤ (4 : Int32) → Go d i_X11_other 49 [.ref h0] [] S I J Q) (kf : ¬ y0 ≤ (4 : Int32) → Go d i_X11_other 46 [.ref h0] [] S I J Q) : Go d i_X11_other 42 [.ref h0] [.int y0] S I J Q := by
  have h := (Go.ite kt kf)
  exact Go.n tb_X11_other 2 h
theorem b_X11_other_46 {d : Nat} {S : zS} {I : zI} {J : zJ} {Q : zQ} {h0 : Nat} (kk : Q (some (.int (-4 : Int32))) S I J) : Go d i_X11_other 46 [.ref h0] [] S I J Q := by
  have h := (And.intro trivial kk)
  exact Go.n tb_X11_other 2 h
theorem b_X11_other_49 {d : Nat} {S : zS} {I : zI} {J : zJ} {Q : zQ} {h0 : Nat} (g1 : z_kd S h0 = 12) (kt : ¬ (I h0 15) = (0 : Int32) → Go d i_X11_other 91 [.ref h0] [] S I J Q) (kf : (I h0 15) = (0 : Int32) → Go d i_X11_other 56 [.ref h0] [] S I J Q) : Go d i_X11_other 49 [.ref h0] [] S I J Q := by
  have h := (And.intro g1 (Go.eti kt kf))
  exact Go.n tb_X11_other 3 h
theorem b_X11_other_56 {d : Nat} {S : zS} {I : zI} {J : zJ} {Q : zQ} {h0 : Nat} (g1 : z_kd S h0 = 12) (g2 : z_kd S h0 = 12) (g3 : z_isR (z_kd S (z_rv S h0 5)) = true ∧ vp_in (0 : Int32) (z_ln S (z_rv S h0 5))) (g4 : z_kd S h0 = 12) (g5 : z_isR (z_kd S (z_rv S h0 5)) = true ∧ vp_in (1 : Int32) (z_ln S (z_rv S h0 5))) (g6 : z_kd S (z_rv S (z_rv S h0 5) (Int32.toNatClampNeg (1 : Int32))) = 9) (g7 : z_kd S h0 = 12) (g8 : z_kd S (z_rv S h0 9) = 10) (kk : z_wp d i_X9_leastSet [.ref (z_rv S h0 9), .ref (z_rv S (z_rv S h0 5) (Int32.toNatClampNeg (0 : Int32))), .ref (z_rv S (z_rv S (z_rv S h0 5) (Int32.toNatClampNeg (1 : Int32))) 0), .ref (z_rv S h0 8)] S I J (fun vv SS II JJ => Go d i_X11_other 83 [.ref h0] (vv.toList ++ [.ref h0]) SS II JJ Q)) : Go d i_X11_other 56 [.ref h0] [] S I J Q := by
  have h := (And.intro g1 (And.intro g2 (And.intro g3 (And.intro g4 (And.intro g5 (And.intro g6 (And.intro g7 (And.intro g8 kk))))))))
  exact Go.n tb_X11_other 15 h
theorem b_X11_other_83 {d : Nat} {S : zS} {I : zI} {J : zJ} {Q : zQ} {h0 : Nat} {q0 : Nat} {y1 : Int32} (g1 : z_kd S q0 = 12) (g2 : z_kd S h0 = 12 ∧ ((1 : Int32) = 0 ∨ (1 : Int32) = 1)) (g3 : z_kd S h0 = 12) (kk : Q (some (.int ((z_u2 (z_u2 I q0 12 y1) h0 15 (1 : Int32)) h0 12))) S (z_u2 (z_u2 I q0 12 y1) h0 15 (1 : Int32)) J) : Go d i_X11_other 83 [.ref h0] [.int y1, .ref q0] S I J Q := by
  have h := (And.intro g1 (And.intro g2 (And.intro g3 (And.intro trivial kk))))
  exact Go.n tb_X11_other 7 h
theorem b_X11_other_91 {d : Nat} {S : zS} {I : zI} {J : zJ} {Q : zQ} {h0 : Nat} (g1 : z_kd S h0 = 12) (kk : Q (some (.int (I h0 12))) S I J) : Go d i_X11_other 91 [.ref h0] [] S I J Q := by
  have h := (And.intro g1 (And.intro trivial kk))
  exact Go.n tb_X11_other 3 h
theorem w_X11_solved {d : Nat} {S : zS} {I : zI} {J : zJ} {Q : zQ} {h0 : Nat} {x1 : Int32} (h : Go d i_X11_solved 0 [.ref h0, .int x1, .retAddr 0] [] S I J Q) : z_wp (d + 1) i_X11_solved [.ref h0, .int x1] S I J Q := Go.wp (Nat.le_of_ble_eq_true rfl) h
theorem e_X11_solved {d : Nat} {S S2 : zS} {I I2 : zI} {J J2 : zJ} {r : Option Value} {h0 : Nat} {x1 : Int32} (h : Go d i_X11_solved 0 [.ref h0, .int x1, .retAddr 0] [] S I J (z_eq r S2 I2 J2)) : z_ev (d + 1) i_X11_solved [.ref h0, .int x1] S I J r S2 I2 J2 := Go.ev (Nat.le_of_ble_eq_true rfl) h
theorem b_X11_solved_0 {d : Nat} {S : zS} {I : zI} {J : zJ} {Q : zQ} {h0 : Nat} {x1 : Int32} {v2 : Value} (g1 : z_kd S h0 = 12) (g2 : z_isR (z_kd S (z_rv S h0 5)) = true ∧ vp_in x1 (z_ln S (z_rv S h0 5))) (g3 : ¬ (z_rv S (z_rv S h0 5) (Int32.toNatClampNeg x1)) = 0) (g4 : z_kd S (z_rv S (z_rv S h0 5) (Int32.toNatClampNeg x1)) = 9) (kt : ¬ (lg_cmp (J (z_rv S (z_rv S h0 5) (Int32.toNatClampNeg x1)) 2) (0 : Int64)) = (0 : Int32) → Go d i_X11_solved 35 [.ref h0, .int x1, .ref (z_rv S (z_rv S h0 5) (Int32.toNatClampNeg x1))] [] S I J Q) (kf : (lg_cmp (J (z_rv S (z_rv S h0 5) (Int32.toNatClampNeg x1)) 2) (0 : Int64)) = (0 : Int32) → Go d i_X11_solved 16 [.ref h0, .int x1, .ref (z_rv S (z_rv S h0 5) (Int32.toNatClampNeg x1))] [] S I J Q) : Go d i_X11_solved 0 [.ref h0, .int x1, v2] [] S I J Q := by
  have h := (And.intro g1 (And.intro g2 (And.intro g3 (And.intro g4 (Go.eti kt kf)))))
  exact Go.n tb_X11_solved 10 h
theorem b_X11_solved_16 {d : Nat} {S : zS} {I : zI} {J : zJ} {Q : zQ} {h0 : Nat} {x1 : Int32} {h2 : Nat} (g1 : z_kd S h0 = 12) (g2 : z_kd S h2 = 9) (kk : z_wp d i_X8_painted [.ref h2] S I J (fun vv SS II JJ => Go d i_X11_solved 25 [.ref h0, .int x1, .ref h2] (vv.toList ++ [.ref (z_rv S h0 8), .ref h2]) SS II JJ Q)) : Go d i_X11_solved 16 [.ref h0, .int x1, .ref h2] [] S I J Q := by
  have h := (And.intro g1 (And.intro g2 kk))
  exact Go.n tb_X11_solved 5 h
theorem b_X11_solved_25 {d : Nat} {S : zS} {I : zI} {J : zJ} {Q : zQ} {h0 : Nat} {x1 : Int32} {h2 : Nat} {q0 : Nat} {q1 : Nat} {q2 : Nat} (g1 : z_kd S h2 = 9) (g2 : z_kd S q1 = 8) (kk : z_wp d i_X7_countStaying [.ref q1, .ref q2, .ref (z_rv S h2 4)] S I J (fun vv SS II JJ => Go d i_X11_solved 32 [.ref h0, .int x1, .ref h2] (vv.toList ++ [.ref q0]) SS II JJ Q)) : Go d i_X11_solved 25 [.ref h0, .int x1, .ref h2] [.ref q2, .ref q1, .ref q0] S I J Q := by
  have h := (And.intro g1 (And.intro g2 kk))
  exact Go.n tb_X11_solved 3 h
theorem b_X11_solved_32 {d : Nat} {S : zS} {I : zI} {J : zJ} {Q : zQ} {h0 : Nat} {x1 : Int32} {h2 : Nat} {q0 : Nat} {w1 : Int64} (g1 : z_kd S q0 = 9) (kk : Q (some (.ref h2)) S I (z_u2 J q0 2 w1)) : Go d i_X11_solved 32 [.ref h0, .int x1, .ref h2] [.long w1, .ref q0] S I J Q := by
  have h := (And.intro g1 (And.intro trivial kk))
  exact Go.n tb_X11_solved 3 h
theorem b_X11_solved_35 {d : Nat} {S : zS} {I : zI} {J : zJ} {Q : zQ} {h0 : Nat} {x1 : Int32} {h2 : Nat} (kk : Q (some (.ref h2)) S I J) : Go d i_X11_solved 35 [.ref h0, .int x1, .ref h2] [] S I J Q := by
  have h := (And.intro trivial kk)
  exact Go.n tb_X11_solved 2 h
theorem w_X11_ownCount {d : Nat} {S : zS} {I : zI} {J : zJ} {Q : zQ} {h0 : Nat} {x1 : Int32} (h : Go d i_X11_ownCount 0 [.ref h0, .int x1, .retAddr 0] [] S I J Q) : z_wp (d + 1) i_X11_ownCount [.ref h0, .int x1] S I J Q := Go.wp (Nat.le_of_ble_eq_true rfl) h
theorem e_X11_ownCount {d : Nat} {S S2 : zS} {I I2 : zI} {J J2 : zJ} {r : Option Value} {h0 : Nat} {x1 : Int32} (h : Go d i_X11_ownCount 0 [.ref h0, .int x1, .retAddr 0] [] S I J (z_eq r S2 I2 J2)) : z_ev (d + 1) i_X11_ownCount [.ref h0, .int x1] S I J r S2 I2 J2 := Go.ev (Nat.le_of_ble_eq_true rfl) h
theorem b_X11_ownCount_0 {d : Nat} {S : zS} {I : zI} {J : zJ} {Q : zQ} {h0 : Nat} {x1 : Int32} {v2 : Value} (g1 : z_kd S h0 = 12) (g2 : z_isR (z_kd S (z_rv S h0 5)) = true ∧ vp_in x1 (z_ln S (z_rv S h0 5))) (g3 : ¬ (z_rv S (z_rv S h0 5) (Int32.toNatClampNeg x1)) = 0) (g4 : z_kd S (z_rv S (z_rv S h0 5) (Int32.toNatClampNeg x1)) = 9) (kt : ¬ (I (z_rv S (z_rv S h0 5) (Int32.toNatClampNeg x1)) 3) = (0 : Int32) → Go d i_X11_ownCount 36 [.ref h0, .int x1, .ref (z_rv S (z_rv S h0 5) (Int32.toNatClampNeg x1))] [] S I J Q) (kf : (I (z_rv S (z_rv S h0 5) (Int32.toNatClampNeg x1)) 3) = (0 : Int32) → Go d i_X11_ownCount 14 [.ref h0, .int x1, .ref (z_rv S (z_rv S h0 5) (Int32.toNatClampNeg x1))] [] S I J Q) : Go d i_X11_ownCount 0 [.ref h0, .int x1, v2] [] S I J Q := by
  have h := (And.intro g1 (And.intro g2 (And.intro g3 (And.intro g4 (Go.eti kt kf)))))
  exact Go.n tb_X11_ownCount 8 h
theorem b_X11_ownCount_14 {d : Nat} {S : zS} {I : zI} {J : zJ} {Q : zQ} {h0 : Nat} {x1 : Int32} {h2 : Nat} (g1 : z_kd S h0 = 12) (g2 : z_kd S h2 = 9) (g3 : z_kd S h2 = 9) (kk : z_wp d i_X8_painted [.ref h2] S I J (fun vv SS II JJ => Go d i_X11_ownCount 27 [.ref h0, .int x1, .ref h2] (vv.toList ++ [.ref (z_rv S h2 0), .ref (z_rv S h0 7), .ref h2]) SS II JJ Q)) : Go d i_X11_ownCount 14 [.ref h0, .int x1, .ref h2] [] S I J Q := by
  have h := (And.intro g1 (And.intro g2 (And.intro g3 kk)))
  exact Go.n tb_X11_ownCount 7 h
theorem b_X11_ownCount_27 {d : Nat} {S : zS} {I : zI} {J : zJ} {Q : zQ} {h0 : Nat} {x1 : Int32} {h2 : Nat} {q0 : Nat} {q1 : Nat} {q2 : Nat} {q3 : Nat} (g1 : z_kd S q3 = 1) (g2 : z_kd S q1 = 4) (kk : z_wp d i_X3_countOwn [.ref q1, .ref q2, .ref (z_rv S q3 3)] S I J (fun vv SS II JJ => Go d i_X11_ownCount 33 [.ref h0, .int x1, .ref h2] (vv.toList ++ [.ref q0]) SS II JJ Q)) : Go d i_X11_ownCount 27 [.ref h0, .int x1, .ref h2] [.ref q3, .ref q2, .ref q1, .ref q0] S I J Q := by
  have h := (And.intro g1 (And.intro g2 kk))
  exact Go.n tb_X11_ownCount 2 h
theorem b_X11_ownCount_33 {d : Nat} {S : zS} {I : zI} {J : zJ} {Q : zQ} {h0 : Nat} {x1 : Int32} {h2 : Nat} {q0 : Nat} {y1 : Int32} (g1 : z_kd S q0 = 9) (g2 : z_kd S h2 = 9) (kk : Q (some (.int ((z_u2 I q0 3 y1) h2 3))) S (z_u2 I q0 3 y1) J) : Go d i_X11_ownCount 33 [.ref h0, .int x1, .ref h2] [.int y1, .ref q0] S I J Q := by
  have h := (And.intro g1 (And.intro g2 (And.intro trivial kk)))
  exact Go.n tb_X11_ownCount 4 h
theorem b_X11_ownCount_36 {d : Nat} {S : zS} {I : zI} {J : zJ} {Q : zQ} {h0 : Nat} {x1 : Int32} {h2 : Nat} (g1 : z_kd S h2 = 9) (kk : Q (some (.int (I h2 3))) S I J) : Go d i_X11_ownCount 36 [.ref h0, .int x1, .ref h2] [] S I J Q := by
  have h := (And.intro g1 (And.intro trivial kk))
  exact Go.n tb_X11_ownCount 3 h
theorem w_X11_name {d : Nat} {S : zS} {I : zI} {J : zJ} {Q : zQ} {h0 : Nat} {x1 : Int32} {x2 : Int32} {x3 : Int32} (h : Go d i_X11_name 0 [.ref h0, .int x1, .int x2, .int x3] [] S I J Q) : z_wp (d + 1) i_X11_name [.ref h0, .int x1, .int x2, .int x3] S I J Q := Go.wp (Nat.le_of_ble_eq_true rfl) h
theorem e_X11_name {d : Nat} {S S2 : zS} {I I2 : zI} {J J2 : zJ} {r : Option Value} {h0 : Nat} {x1 : Int32} {x2 : Int32} {x3 : Int32} (h : Go d i_X11_name 0 [.ref h0, .int x1, .int x2, .int x3] [] S I J (z_eq r S2 I2 J2)) : z_ev (d + 1) i_X11_name [.ref h0, .int x1, .int x2, .int x3] S I J r S2 I2 J2 := Go.ev (Nat.le_of_ble_eq_true rfl) h
theorem b_X11_name_0 {d : Nat} {S : zS} {I : zI} {J : zJ} {Q : zQ} {h0 : Nat} {x1 : Int32} {x2 : Int32} {x3 : Int32} (g1 : z_kd S h0 = 12) (kk : z_wp d i_X11_isElement [.ref h0, .int x1, .int x2] S I J (fun vv SS II JJ => Go d i_X11_name 6 [.ref h0, .int x1, .int x2, .int x3] (vv.toList ++ []) SS II JJ Q)) : Go d i_X11_name 0 [.ref h0, .int x1, .int x2, .int x3] [] S I J Q := by
  have h := (And.intro g1 kk)
  exact Go.n tb_X11_name 4 h
theorem b_X11_name_6 {d : Nat} {S : zS} {I : zI} {J : zJ} {Q : zQ} {h0 : Nat} {x1 : Int32} {x2 : Int32} {x3 : Int32} {y0 : Int32} (kt : ¬ y0 = (0 : Int32) → Go d i_X11_name 12 [.ref h0, .int x1, .int x2, .int x3] [] S I J Q) (kf : y0 = (0 : Int32) → Go d i_X11_name 9 [.ref h0, .int x1, .int x2, .int x3] [] S I J Q) : Go d i_X11_name 6 [.ref h0, .int x1, .int x2, .int x3] [.int y0] S I J Q := by
  have h := (Go.eti kt kf)
  exact Go.n tb_X11_name 1 h
theorem b_X11_name_9 {d : Nat} {S : zS} {I : zI} {J : zJ} {Q : zQ} {h0 : Nat} {x1 : Int32} {x2 : Int32} {x3 : Int32} (kk : Q (some (.int (-2 : Int32))) S I J) : Go d i_X11_name 9 [.ref h0, .int x1, .int x2, .int x3] [] S I J Q := by
  have h := (And.intro trivial kk)
  exact Go.n tb_X11_name 2 h
theorem b_X11_name_12 {d : Nat} {S : zS} {I : zI} {J : zJ} {Q : zQ} {h0 : Nat} {x1 : Int32} {x2 : Int32} {x3 : Int32} (kt : (0 : Int32) ≤ x3 → Go d i_X11_name 19 [.ref h0, .int x1, .int x2, .int x3] [] S I J Q) (kf : ¬ (0 : Int32) ≤ x3 → Go d i_X11_name 16 [.ref h0, .int x1, .int x2, .int x3] [] S I J Q) : Go d i_X11_name 12 [.ref h0, .int x1, .int x2, .int x3] [] S I J Q := by
  have h := (Go.ite kt kf)
  exact Go.n tb_X11_name 2 h
theorem b_X11_name_16 {d : Nat} {S : zS} {I : zI} {J : zJ} {Q : zQ} {h0 : Nat} {x1 : Int32} {x2 : Int32} {x3 : Int32} (kk : Q (some (.int (-3 : Int32))) S I J) : Go d i_X11_name 16 [.ref h0, .int x1, .int x2, .int x3] [] S I J Q := by
  have h := (And.intro trivial kk)
  exact Go.n tb_X11_name 2 h
theorem b_X11_name_19 {d : Nat} {S : zS} {I : zI} {J : zJ} {Q : zQ} {h0 : Nat} {x1 : Int32} {x2 : Int32} {x3 : Int32} (g1 : z_kd S h0 = 12) (g2 : z_isR (z_kd S (z_rv S h0 5)) = true ∧ vp_in x1 (z_ln S (z_rv S h0 5))) (g3 : z_kd S (z_rv S (z_rv S h0 5) (Int32.toNatClampNeg x1)) = 9) (g4 : z_kd S (z_rv S (z_rv S (z_rv S h0 5) (Int32.toNatClampNeg x1)) 0) = 2) (kk : z_wp d i_X1_nameByte [.ref (z_rv S (z_rv S (z_rv S h0 5) (Int32.toNatClampNeg x1)) 0), .int x2, .int x3] S I J (fun vv SS II JJ => Go d i_X11_name 33 [.ref h0, .int x1, .int x2, .int x3] (vv.toList ++ []) SS II JJ Q)) : Go d i_X11_name 19 [.ref h0, .int x1, .int x2, .int x3] [] S I J Q := by
  have h := (And.intro g1 (And.intro g2 (And.intro g3 (And.intro g4 kk))))
  exact Go.n tb_X11_name 8 h
theorem b_X11_name_33 {d : Nat} {S : zS} {I : zI} {J : zJ} {Q : zQ} {h0 : Nat} {x1 : Int32} {x2 : Int32} {x3 : Int32} {y0 : Int32} (kk : Q (some (.int y0)) S I J) : Go d i_X11_name 33 [.ref h0, .int x1, .int x2, .int x3] [.int y0] S I J Q := by
  have h := (And.intro trivial kk)
  exact Go.n tb_X11_name 1 h
theorem w_X11_count {d : Nat} {S : zS} {I : zI} {J : zJ} {Q : zQ} {h0 : Nat} {x1 : Int32} (h : Go d i_X11_count 0 [.ref h0, .int x1] [] S I J Q) : z_wp (d + 1) i_X11_count [.ref h0, .int x1] S I J Q := Go.wp (Nat.le_of_ble_eq_true rfl) h
theorem e_X11_count {d : Nat} {S S2 : zS} {I I2 : zI} {J J2 : zJ} {r : Option Value} {h0 : Nat} {x1 : Int32} (h : Go d i_X11_count 0 [.ref h0, .int x1] [] S I J (z_eq r S2 I2 J2)) : z_ev (d + 1) i_X11_count [.ref h0, .int x1] S I J r S2 I2 J2 := Go.ev (Nat.le_of_ble_eq_true rfl) h
theorem b_X11_count_0 {d : Nat} {S : zS} {I : zI} {J : zJ} {Q : zQ} {h0 : Nat} {x1 : Int32} (kt : ¬ x1 = (0 : Int32) → Go d i_X11_count 12 [.ref h0, .int x1] [] S I J Q) (kf : x1 = (0 : Int32) → Go d i_X11_count 4 [.ref h0, .int x1] [] S I J Q) : Go d i_X11_count 0 [.ref h0, .int x1] [] S I J Q := by
  have h := (Go.eti kt kf)
  exact Go.n tb_X11_count 2 h
theorem b_X11_count_4 {d : Nat} {S : zS} {I : zI} {J : zJ} {Q : zQ} {h0 : Nat} {x1 : Int32} (g1 : z_kd S h0 = 12) (g2 : z_kd S (z_rv S h0 6) = 5) (kk : Q (some (.int (I (z_rv S h0 6) 0))) S I J) : Go d i_X11_count 4 [.ref h0, .int x1] [] S I J Q := by
  have h := (And.intro g1 (And.intro g2 (And.intro trivial kk)))
  exact Go.n tb_X11_count 4 h
theorem b_X11_count_12 {d : Nat} {S : zS} {I : zI} {J : zJ} {Q : zQ} {h0 : Nat} {x1 : Int32} (kt : ¬ x1 = (1 : Int32) → Go d i_X11_count 24 [.ref h0, .int x1] [] S I J Q) (kf : x1 = (1 : Int32) → Go d i_X11_count 17 [.ref h0, .int x1] [] S I J Q) : Go d i_X11_count 12 [.ref h0, .int x1] [] S I J Q := by
  have h := (Go.eti kt kf)
  exact Go.n tb_X11_count 3 h
theorem b_X11_count_17 {d : Nat} {S : zS} {I : zI} {J : zJ} {Q : zQ} {h0 : Nat} {x1 : Int32} (g1 : z_kd S h0 = 12) (kk : Q (some (.int (I h0 1))) S I J) : Go d i_X11_count 17 [.ref h0, .int x1] [] S I J Q := by
  have h := (And.intro g1 (And.intro trivial kk))
  exact Go.n tb_X11_count 4 h
theorem b_X11_count_24 {d : Nat} {S : zS} {I : zI} {J : zJ} {Q : zQ} {h0 : Nat} {x1 : Int32} (kk : Q (some (.int (-1 : Int32))) S I J) : Go d i_X11_count 24 [.ref h0, .int x1] [] S I J Q := by
  have h := (And.intro trivial kk)
  exact Go.n tb_X11_count 2 h
theorem w_X11_isSlot {d : Nat} {S : zS} {I : zI} {J : zJ} {Q : zQ} {x0 : Int32} (h : Go d i_X11_isSlot 0 [.int x0] [] S I J Q) : z_wp (d + 1) i_X11_isSlot [.int x0] S I J Q := Go.wp (Nat.le_of_ble_eq_true rfl) h
theorem e_X11_isSlot {d : Nat} {S S2 : zS} {I I2 : zI} {J J2 : zJ} {r : Option Value} {x0 : Int32} (h : Go d i_X11_isSlot 0 [.int x0] [] S I J (z_eq r S2 I2 J2)) : z_ev (d + 1) i_X11_isSlot [.int x0] S I J r S2 I2 J2 := Go.ev (Nat.le_of_ble_eq_true rfl) h
theorem b_X11_isSlot_0 {d : Nat} {S : zS} {I : zI} {J : zJ} {Q : zQ} {x0 : Int32} (kt : x0 = (0 : Int32) → Go d i_X11_isSlot 9 [.int x0] [] S I J Q) (kf : ¬ x0 = (0 : Int32) → Go d i_X11_isSlot 4 [.int x0] [] S I J Q) : Go d i_X11_isSlot 0 [.int x0] [] S I J Q := by
  have h := (Go.ite kt kf)
  exact Go.n tb_X11_isSlot 2 h
theorem b_X11_isSlot_4 {d : Nat} {S : zS} {I : zI} {J : zJ} {Q : zQ} {x0 : Int32} (kt : ¬ x0 = (1 : Int32) → Go d i_X11_isSlot 13 [.int x0] [] S I J Q) (kf : x0 = (1 : Int32) → Go d i_X11_isSlot 9 [.int x0] [] S I J Q) : Go d i_X11_isSlot 4 [.int x0] [] S I J Q := by
  have h := (Go.eti kt kf)
  exact Go.n tb_X11_isSlot 3 h
theorem b_X11_isSlot_9 {d : Nat} {S : zS} {I : zI} {J : zJ} {Q : zQ} {x0 : Int32} (g1 : z_fit 3 (1 : Int32)) (kk : Q (some (.int (1 : Int32))) S I J) : Go d i_X11_isSlot 9 [.int x0] [] S I J Q := by
  have h := (And.intro g1 kk)
  exact Go.n tb_X11_isSlot 3 h
theorem b_X11_isSlot_13 {d : Nat} {S : zS} {I : zI} {J : zJ} {Q : zQ} {x0 : Int32} (g1 : z_fit 3 (0 : Int32)) (kk : Q (some (.int (0 : Int32))) S I J) : Go d i_X11_isSlot 13 [.int x0] [] S I J Q := by
  have h := (And.intro g1 kk)
  exact Go.n tb_X11_isSlot 2 h
theorem w_X11_isElement {d : Nat} {S : zS} {I : zI} {J : zJ} {Q : zQ} {h0 : Nat} {x1 : Int32} {x2 : Int32} (h : Go d i_X11_isElement 0 [.ref h0, .int x1, .int x2] [] S I J Q) : z_wp (d + 1) i_X11_isElement [.ref h0, .int x1, .int x2] S I J Q := Go.wp (Nat.le_of_ble_eq_true rfl) h
theorem e_X11_isElement {d : Nat} {S S2 : zS} {I I2 : zI} {J J2 : zJ} {r : Option Value} {h0 : Nat} {x1 : Int32} {x2 : Int32} (h : Go d i_X11_isElement 0 [.ref h0, .int x1, .int x2] [] S I J (z_eq r S2 I2 J2)) : z_ev (d + 1) i_X11_isElement [.ref h0, .int x1, .int x2] S I J r S2 I2 J2 := Go.ev (Nat.le_of_ble_eq_true rfl) h
theorem b_X11_isElement_0 {d : Nat} {S : zS} {I : zI} {J : zJ} {Q : zQ} {h0 : Nat} {x1 : Int32} {x2 : Int32} (kk : z_wp d i_X11_isSlot [.int x1] S I J (fun vv SS II JJ => Go d i_X11_isElement 4 [.ref h0, .int x1, .int x2] (vv.toList ++ []) SS II JJ Q)) : Go d i_X11_isElement 0 [.ref h0, .int x1, .int x2] [] S I J Q := by
  have h := (And.intro trivial kk)
  exact Go.n tb_X11_isElement 2 h
theorem b_X11_isElement_4 {d : Nat} {S : zS} {I : zI} {J : zJ} {Q : zQ} {h0 : Nat} {x1 : Int32} {x2 : Int32} {y0 : Int32} (kt : y0 = (0 : Int32) → Go d i_X11_isElement 31 [.ref h0, .int x1, .int x2] [] S I J Q) (kf : ¬ y0 = (0 : Int32) → Go d i_X11_isElement 7 [.ref h0, .int x1, .int x2] [] S I J Q) : Go d i_X11_isElement 4 [.ref h0, .int x1, .int x2] [.int y0] S I J Q := by
  have h := (Go.ite kt kf)
  exact Go.n tb_X11_isElement 1 h
theorem b_X11_isElement_7 {d : Nat} {S : zS} {I : zI} {J : zJ} {Q : zQ} {h0 : Nat} {x1 : Int32} {x2 : Int32} (kt : x2 < (0 : Int32) → Go d i_X11_isElement 31 [.ref h0, .int x1, .int x2] [] S I J Q) (kf : ¬ x2 < (0 : Int32) → Go d i_X11_isElement 11 [.ref h0, .int x1, .int x2] [] S I J Q) : Go d i_X11_isElement 7 [.ref h0, .int x1, .int x2] [] S I J Q := by
  have h := (Go.ite kt kf)
  exact Go.n tb_X11_isElement 2 h
theorem b_X11_isElement_11 {d : Nat} {S : zS} {I : zI} {J : zJ} {Q : zQ} {h0 : Nat} {x1 : Int32} {x2 : Int32} (g1 : z_kd S h0 = 12) (g2 : z_isR (z_kd S (z_rv S h0 5)) = true ∧ vp_in x1 (z_ln S (z_rv S h0 5))) (g3 : z_kd S (z_rv S (z_rv S h0 5) (Int32.toNatClampNeg x1)) = 9) (g4 : z_kd S (z_rv S (z_rv S (z_rv S h0 5) (Int32.toNatClampNeg x1)) 0) = 2) (kt : (I (z_rv S (z_rv S (z_rv S h0 5) (Int32.toNatClampNeg x1)) 0) 0) ≤ x2 → Go d i_X11_isElement 31 [.ref h0, .int x1, .int x2] [] S I J Q) (kf : ¬ (I (z_rv S (z_rv S (z_rv S h0 5) (Int32.toNatClampNeg x1)) 0) 0) ≤ x2 → Go d i_X11_isElement 27 [.ref h0, .int x1, .int x2] [] S I J Q) : Go d i_X11_isElement 11 [.ref h0, .int x1, .int x2] [] S I J Q := by
  have h := (And.intro g1 (And.intro g2 (And.intro g3 (And.intro g4 (Go.ite kt kf)))))
  exact Go.n tb_X11_isElement 8 h
theorem b_X11_isElement_27 {d : Nat} {S : zS} {I : zI} {J : zJ} {Q : zQ} {h0 : Nat} {x1 : Int32} {x2 : Int32} (g1 : z_fit 3 (1 : Int32)) (kk : Q (some (.int (1 : Int32))) S I J) : Go d i_X11_isElement 27 [.ref h0, .int x1, .int x2] [] S I J Q := by
  have h := (And.intro g1 kk)
  exact Go.n tb_X11_isElement 3 h
theorem b_X11_isElement_31 {d : Nat} {S : zS} {I : zI} {J : zJ} {Q : zQ} {h0 : Nat} {x1 : Int32} {x2 : Int32} (g1 : z_fit 3 (0 : Int32)) (kk : Q (some (.int (0 : Int32))) S I J) : Go d i_X11_isElement 31 [.ref h0, .int x1, .int x2] [] S I J Q := by
  have h := (And.intro g1 kk)
  exact Go.n tb_X11_isElement 2 h
theorem w_X11_firstThen {d : Nat} {S : zS} {I : zI} {J : zJ} {Q : zQ} {x0 : Int32} {x1 : Int32} {x2 : Int32} (h : Go d i_X11_firstThen 0 [.int x0, .int x1, .int x2, .retAddr 0, .retAddr 0, .retAddr 0] [] S I J Q) : z_wp (d + 1) i_X11_firstThen [.int x0, .int x1, .int x2] S I J Q := Go.wp (Nat.le_of_ble_eq_true rfl) h
theorem e_X11_firstThen {d : Nat} {S S2 : zS} {I I2 : zI} {J J2 : zJ} {r : Option Value} {x0 : Int32} {x1 : Int32} {x2 : Int32} (h : Go d i_X11_firstThen 0 [.int x0, .int x1, .int x2, .retAddr 0, .retAddr 0, .retAddr 0] [] S I J (z_eq r S2 I2 J2)) : z_ev (d + 1) i_X11_firstThen [.int x0, .int x1, .int x2] S I J r S2 I2 J2 := Go.ev (Nat.le_of_ble_eq_true rfl) h
theorem b_X11_firstThen_0 {d : Nat} {S : zS} {I : zI} {J : zJ} {Q : zQ} {x0 : Int32} {x1 : Int32} {x2 : Int32} {v3 : Value} {v4 : Value} {v5 : Value} (kk : Go d i_X11_firstThen 9 [.int x0, .int x1, .int x2, .int (0 : Int32), .int ((3 : Int32) * (x2 - (1 : Int32))), v5] [] S I J Q) : Go d i_X11_firstThen 0 [.int x0, .int x1, .int x2, v3, v4, v5] [] S I J Q := by
  have h := kk
  exact Go.n tb_X11_firstThen 8 h
theorem b_X11_firstThen_9 {d : Nat} {S : zS} {I : zI} {J : zJ} {Q : zQ} {x0 : Int32} {x1 : Int32} {x2 : Int32} {x3 : Int32} {x4 : Int32} {v5 : Value} (kt : x4 < (0 : Int32) → Go d i_X11_firstThen 47 [.int x0, .int x1, .int x2, .int x3, .int x4, v5] [] S I J Q) (kf : ¬ x4 < (0 : Int32) → Go d i_X11_firstThen 14 [.int x0, .int x1, .int x2, .int x3, .int x4, v5] [] S I J Q) : Go d i_X11_firstThen 9 [.int x0, .int x1, .int x2, .int x3, .int x4, v5] [] S I J Q := by
  have h := (Go.ite kt kf)
  exact Go.n tb_X11_firstThen 2 h
theorem b_X11_firstThen_14 {d : Nat} {S : zS} {I : zI} {J : zJ} {Q : zQ} {x0 : Int32} {x1 : Int32} {x2 : Int32} {x3 : Int32} {x4 : Int32} {v5 : Value} (kk : Go d i_X11_firstThen 9 [.int x0, .int x1, .int x2, .int ((x3 <<< ((3 : Int32) &&& 31)) ||| ((x1 >>> (((3 : Int32) * ((x2 - (1 : Int32)) - ((x0 >>> (x4 &&& 31)) &&& (7 : Int32)))) &&& 31)) &&& (7 : Int32))), .int (x4 + (-3 : Int32)), .int ((x0 >>> (x4 &&& 31)) &&& (7 : Int32))] [] S I J Q) : Go d i_X11_firstThen 14 [.int x0, .int x1, .int x2, .int x3, .int x4, v5] [] S I J Q := by
  have h := kk
  exact Go.n tb_X11_firstThen 24 h
theorem b_X11_firstThen_47 {d : Nat} {S : zS} {I : zI} {J : zJ} {Q : zQ} {x0 : Int32} {x1 : Int32} {x2 : Int32} {x3 : Int32} {x4 : Int32} {v5 : Value} (kk : Q (some (.int x3)) S I J) : Go d i_X11_firstThen 47 [.int x0, .int x1, .int x2, .int x3, .int x4, v5] [] S I J Q := by
  have h := (And.intro trivial kk)
  exact Go.n tb_X11_firstThen 2 h
theorem w_X11_indexOf {d : Nat} {S : zS} {I : zI} {J : zJ} {Q : zQ} {h0 : Nat} {x1 : Int32} {x2 : Int32} (h : Go d i_X11_indexOf 0 [.ref h0, .int x1, .int x2, .retAddr 0] [] S I J Q) : z_wp (d + 1) i_X11_indexOf [.ref h0, .int x1, .int x2] S I J Q := Go.wp (Nat.le_of_ble_eq_true rfl) h
theorem e_X11_indexOf {d : Nat} {S S2 : zS} {I I2 : zI} {J J2 : zJ} {r : Option Value} {h0 : Nat} {x1 : Int32} {x2 : Int32} (h : Go d i_X11_indexOf 0 [.ref h0, .int x1, .int x2, .retAddr 0] [] S I J (z_eq r S2 I2 J2)) : z_ev (d + 1) i_X11_indexOf [.ref h0, .int x1, .int x2] S I J r S2 I2 J2 := Go.ev (Nat.le_of_ble_eq_true rfl) h
theorem b_X11_indexOf_0 {d : Nat} {S : zS} {I : zI} {J : zJ} {Q : zQ} {h0 : Nat} {x1 : Int32} {x2 : Int32} {v3 : Value} (kk : Go d i_X11_indexOf 2 [.ref h0, .int x1, .int x2, .int (0 : Int32)] [] S I J Q) : Go d i_X11_indexOf 0 [.ref h0, .int x1, .int x2, v3] [] S I J Q := by
  have h := kk
  exact Go.n tb_X11_indexOf 2 h
theorem b_X11_indexOf_2 {d : Nat} {S : zS} {I : zI} {J : zJ} {Q : zQ} {h0 : Nat} {x1 : Int32} {x2 : Int32} {x3 : Int32} (kt : x1 ≤ x3 → Go d i_X11_indexOf 28 [.ref h0, .int x1, .int x2, .int x3] [] S I J Q) (kf : ¬ x1 ≤ x3 → Go d i_X11_indexOf 7 [.ref h0, .int x1, .int x2, .int x3] [] S I J Q) : Go d i_X11_indexOf 2 [.ref h0, .int x1, .int x2, .int x3] [] S I J Q := by
  have h := (Go.ite kt kf)
  exact Go.n tb_X11_indexOf 3 h
theorem b_X11_indexOf_7 {d : Nat} {S : zS} {I : zI} {J : zJ} {Q : zQ} {h0 : Nat} {x1 : Int32} {x2 : Int32} {x3 : Int32} (g1 : z_isA (z_kd S h0) = true) (kt : (nI (z_ln S h0)) ≤ x3 → Go d i_X11_indexOf 28 [.ref h0, .int x1, .int x2, .int x3] [] S I J Q) (kf : ¬ (nI (z_ln S h0)) ≤ x3 → Go d i_X11_indexOf 13 [.ref h0, .int x1, .int x2, .int x3] [] S I J Q) : Go d i_X11_indexOf 7 [.ref h0, .int x1, .int x2, .int x3] [] S I J Q := by
  have h := (And.intro g1 (Go.ite kt kf))
  exact Go.n tb_X11_indexOf 4 h
theorem b_X11_indexOf_13 {d : Nat} {S : zS} {I : zI} {J : zJ} {Q : zQ} {h0 : Nat} {x1 : Int32} {x2 : Int32} {x3 : Int32} (g1 : z_isI (z_kd S h0) = true ∧ vp_in x3 (z_ln S h0)) (kt : ¬ (I h0 (Int32.toNatClampNeg x3)) = x2 → Go d i_X11_indexOf 22 [.ref h0, .int x1, .int x2, .int x3] [] S I J Q) (kf : (I h0 (Int32.toNatClampNeg x3)) = x2 → Go d i_X11_indexOf 20 [.ref h0, .int x1, .int x2, .int x3] [] S I J Q) : Go d i_X11_indexOf 13 [.ref h0, .int x1, .int x2, .int x3] [] S I J Q := by
  have h := (And.intro g1 (Go.eti kt kf))
  exact Go.n tb_X11_indexOf 5 h
theorem b_X11_indexOf_20 {d : Nat} {S : zS} {I : zI} {J : zJ} {Q : zQ} {h0 : Nat} {x1 : Int32} {x2 : Int32} {x3 : Int32} (kk : Q (some (.int x3)) S I J) : Go d i_X11_indexOf 20 [.ref h0, .int x1, .int x2, .int x3] [] S I J Q := by
  have h := (And.intro trivial kk)
  exact Go.n tb_X11_indexOf 2 h
theorem b_X11_indexOf_22 {d : Nat} {S : zS} {I : zI} {J : zJ} {Q : zQ} {h0 : Nat} {x1 : Int32} {x2 : Int32} {x3 : Int32} (kk : Go d i_X11_indexOf 2 [.ref h0, .int x1, .int x2, .int (x3 + (1 : Int32))] [] S I J Q) : Go d i_X11_indexOf 22 [.ref h0, .int x1, .int x2, .int x3] [] S I J Q := by
  have h := kk
  exact Go.n tb_X11_indexOf 2 h
theorem b_X11_indexOf_28 {d : Nat} {S : zS} {I : zI} {J : zJ} {Q : zQ} {h0 : Nat} {x1 : Int32} {x2 : Int32} {x3 : Int32} (kk : Q (some (.int (-1 : Int32))) S I J) : Go d i_X11_indexOf 28 [.ref h0, .int x1, .int x2, .int x3] [] S I J Q := by
  have h := (And.intro trivial kk)
  exact Go.n tb_X11_indexOf 2 h
theorem w_J6_numberOfTrailingZeros_0f7a4 {d : Nat} {S : zS} {I : zI} {J : zJ} {Q : zQ} {x0 : Int32} (h : Go d i_J6_numberOfTrailingZeros_0f7a4 0 [.int x0, .retAddr 0] [] S I J Q) : z_wp (d + 1) i_J6_numberOfTrailingZeros_0f7a4 [.int x0] S I J Q := Go.wp (Nat.le_of_ble_eq_true rfl) h
theorem e_J6_numberOfTrailingZeros_0f7a4 {d : Nat} {S S2 : zS} {I I2 : zI} {J J2 : zJ} {r : Option Value} {x0 : Int32} (h : Go d i_J6_numberOfTrailingZeros_0f7a4 0 [.int x0, .retAddr 0] [] S I J (z_eq r S2 I2 J2)) : z_ev (d + 1) i_J6_numberOfTrailingZeros_0f7a4 [.int x0] S I J r S2 I2 J2 := Go.ev (Nat.le_of_ble_eq_true rfl) h
theorem b_J6_numberOfTrailingZeros_0f7a4_0 {d : Nat} {S : zS} {I : zI} {J : zJ} {Q : zQ} {x0 : Int32} {v1 : Value} (kt : (0 : Int32) < ((x0 ^^^ (-1 : Int32)) &&& (x0 - (1 : Int32))) → Go d i_J6_numberOfTrailingZeros_0f7a4 17 [.int ((x0 ^^^ (-1 : Int32)) &&& (x0 - (1 : Int32))), v1] [] S I J Q) (kf : ¬ (0 : Int32) < ((x0 ^^^ (-1 : Int32)) &&& (x0 - (1 : Int32))) → Go d i_J6_numberOfTrailingZeros_0f7a4 12 [.int ((x0 ^^^ (-1 : Int32)) &&& (x0 - (1 : Int32))), v1] [] S I J Q) : Go d i_J6_numberOfTrailingZeros_0f7a4 0 [.int x0, v1] [] S I J Q := by
  have h := (Go.ite kt kf)
  exact Go.n tb_J6_numberOfTrailingZeros_0f7a4 10 h
theorem b_J6_numberOfTrailingZeros_0f7a4_12 {d : Nat} {S : zS} {I : zI} {J : zJ} {Q : zQ} {x0 : Int32} {v1 : Value} (kk : Q (some (.int (x0 &&& (32 : Int32)))) S I J) : Go d i_J6_numberOfTrailingZeros_0f7a4 12 [.int x0, v1] [] S I J Q := by
  have h := (And.intro trivial kk)
  exact Go.n tb_J6_numberOfTrailingZeros_0f7a4 4 h
theorem b_J6_numberOfTrailingZeros_0f7a4_17 {d : Nat} {S : zS} {I : zI} {J : zJ} {Q : zQ} {x0 : Int32} {v1 : Value} (kt : x0 ≤ (65536 : Int32) → Go d i_J6_numberOfTrailingZeros_0f7a4 34 [.int x0, .int (1 : Int32)] [] S I J Q) (kf : ¬ x0 ≤ (65536 : Int32) → Go d i_J6_numberOfTrailingZeros_0f7a4 26 [.int x0, .int (1 : Int32)] [] S I J Q) : Go d i_J6_numberOfTrailingZeros_0f7a4 17 [.int x0, v1] [] S I J Q := by
  have h := (Go.ite kt kf)
  exact Go.n tb_J6_numberOfTrailingZeros_0f7a4 5 h
theorem b_J6_numberOfTrailingZeros_0f7a4_26 {d : Nat} {S : zS} {I : zI} {J : zJ} {Q : zQ} {x0 : Int32} {x1 : Int32} (kt : ((Int32.toUInt32 x0 >>> (Int32.toUInt32 (16 : Int32) &&& Int32.toUInt32 31)).toInt32) ≤ (256 : Int32) → Go d i_J6_numberOfTrailingZeros_0f7a4 49 [.int ((Int32.toUInt32 x0 >>> (Int32.toUInt32 (16 : Int32) &&& Int32.toUInt32 31)).toInt32), .int (x1 + (16 : Int32))] [] S I J Q) (kf : ¬ ((Int32.toUInt32 x0 >>> (Int32.toUInt32 (16 : Int32) &&& Int32.toUInt32 31)).toInt32) ≤ (256 : Int32) → Go d i_J6_numberOfTrailingZeros_0f7a4 41 [.int ((Int32.toUInt32 x0 >>> (Int32.toUInt32 (16 : Int32) &&& Int32.toUInt32 31)).toInt32), .int (x1 + (16 : Int32))] [] S I J Q) : Go d i_J6_numberOfTrailingZeros_0f7a4 26 [.int x0, .int x1] [] S I J Q := by
  have h := (Go.ite kt kf)
  exact Go.n tb_J6_numberOfTrailingZeros_0f7a4 8 h
theorem b_J6_numberOfTrailingZeros_0f7a4_34 {d : Nat} {S : zS} {I : zI} {J : zJ} {Q : zQ} {x0 : Int32} {x1 : Int32} (kt : x0 ≤ (256 : Int32) → Go d i_J6_numberOfTrailingZeros_0f7a4 49 [.int x0, .int x1] [] S I J Q) (kf : ¬ x0 ≤ (256 : Int32) → Go d i_J6_numberOfTrailingZeros_0f7a4 41 [.int x0, .int x1] [] S I J Q) : Go d i_J6_numberOfTrailingZeros_0f7a4 34 [.int x0, .int x1] [] S I J Q := by
  have h := (Go.ite kt kf)
  exact Go.n tb_J6_numberOfTrailingZeros_0f7a4 3 h
theorem b_J6_numberOfTrailingZeros_0f7a4_41 {d : Nat} {S : zS} {I : zI} {J : zJ} {Q : zQ} {x0 : Int32} {x1 : Int32} (kt : ((Int32.toUInt32 x0 >>> (Int32.toUInt32 (8 : Int32) &&& Int32.toUInt32 31)).toInt32) ≤ (16 : Int32) → Go d i_J6_numberOfTrailingZeros_0f7a4 62 [.int ((Int32.toUInt32 x0 >>> (Int32.toUInt32 (8 : Int32) &&& Int32.toUInt32 31)).toInt32), .int (x1 + (8 : Int32))] [] S I J Q) (kf : ¬ ((Int32.toUInt32 x0 >>> (Int32.toUInt32 (8 : Int32) &&& Int32.toUInt32 31)).toInt32) ≤ (16 : Int32) → Go d i_J6_numberOfTrailingZeros_0f7a4 55 [.int ((Int32.toUInt32 x0 >>> (Int32.toUInt32 (8 : Int32) &&& Int32.toUInt32 31)).toInt32), .int (x1 + (8 : Int32))] [] S I J Q) : Go d i_J6_numberOfTrailingZeros_0f7a4 41 [.int x0, .int x1] [] S I J Q := by
  have h := (Go.ite kt kf)
  exact Go.n tb_J6_numberOfTrailingZeros_0f7a4 8 h
theorem b_J6_numberOfTrailingZeros_0f7a4_49 {d : Nat} {S : zS} {I : zI} {J : zJ} {Q : zQ} {x0 : Int32} {x1 : Int32} (kt : x0 ≤ (16 : Int32) → Go d i_J6_numberOfTrailingZeros_0f7a4 62 [.int x0, .int x1] [] S I J Q) (kf : ¬ x0 ≤ (16 : Int32) → Go d i_J6_numberOfTrailingZeros_0f7a4 55 [.int x0, .int x1] [] S I J Q) : Go d i_J6_numberOfTrailingZeros_0f7a4 49 [.int x0, .int x1] [] S I J Q := by
  have h := (Go.ite kt kf)
  exact Go.n tb_J6_numberOfTrailingZeros_0f7a4 3 h
theorem b_J6_numberOfTrailingZeros_0f7a4_55 {d : Nat} {S : zS} {I : zI} {J : zJ} {Q : zQ} {x0 : Int32} {x1 : Int32} (kt : ((Int32.toUInt32 x0 >>> (Int32.toUInt32 (4 : Int32) &&& Int32.toUInt32 31)).toInt32) ≤ (4 : Int32) → Go d i_J6_numberOfTrailingZeros_0f7a4 74 [.int ((Int32.toUInt32 x0 >>> (Int32.toUInt32 (4 : Int32) &&& Int32.toUInt32 31)).toInt32), .int (x1 + (4 : Int32))] [] S I J Q) (kf : ¬ ((Int32.toUInt32 x0 >>> (Int32.toUInt32 (4 : Int32) &&& Int32.toUInt32 31)).toInt32) ≤ (4 : Int32) → Go d i_J6_numberOfTrailingZeros_0f7a4 67 [.int ((Int32.toUInt32 x0 >>> (Int32.toUInt32 (4 : Int32) &&& Int32.toUInt32 31)).toInt32), .int (x1 + (4 : Int32))] [] S I J Q) : Go d i_J6_numberOfTrailingZeros_0f7a4 55 [.int x0, .int x1] [] S I J Q := by
  have h := (Go.ite kt kf)
  exact Go.n tb_J6_numberOfTrailingZeros_0f7a4 8 h
theorem b_J6_numberOfTrailingZeros_0f7a4_62 {d : Nat} {S : zS} {I : zI} {J : zJ} {Q : zQ} {x0 : Int32} {x1 : Int32} (kt : x0 ≤ (4 : Int32) → Go d i_J6_numberOfTrailingZeros_0f7a4 74 [.int x0, .int x1] [] S I J Q) (kf : ¬ x0 ≤ (4 : Int32) → Go d i_J6_numberOfTrailingZeros_0f7a4 67 [.int x0, .int x1] [] S I J Q) : Go d i_J6_numberOfTrailingZeros_0f7a4 62 [.int x0, .int x1] [] S I J Q := by
  have h := (Go.ite kt kf)
  exact Go.n tb_J6_numberOfTrailingZeros_0f7a4 3 h
theorem b_J6_numberOfTrailingZeros_0f7a4_67 {d : Nat} {S : zS} {I : zI} {J : zJ} {Q : zQ} {x0 : Int32} {x1 : Int32} {z1 : Int32} (ez1 : z1 = ((Int32.toUInt32 ((Int32.toUInt32 x0 >>> (Int32.toUInt32 (2 : Int32) &&& Int32.toUInt32 31)).toInt32) >>> (Int32.toUInt32 (1 : Int32) &&& Int32.toUInt32 31)).toInt32)) (kk : Q (some (.int ((x1 + (2 : Int32)) + z1))) S I J) : Go d i_J6_numberOfTrailingZeros_0f7a4 67 [.int x0, .int x1] [] S I J Q := by
  subst ez1
  have h := (And.intro trivial kk)
  exact Go.n tb_J6_numberOfTrailingZeros_0f7a4 11 h
theorem b_J6_numberOfTrailingZeros_0f7a4_74 {d : Nat} {S : zS} {I : zI} {J : zJ} {Q : zQ} {x0 : Int32} {x1 : Int32} (kk : Q (some (.int (x1 + ((Int32.toUInt32 x0 >>> (Int32.toUInt32 (1 : Int32) &&& Int32.toUInt32 31)).toInt32)))) S I J) : Go d i_J6_numberOfTrailingZeros_0f7a4 74 [.int x0, .int x1] [] S I J Q := by
  have h := (And.intro trivial kk)
  exact Go.n tb_J6_numberOfTrailingZeros_0f7a4 6 h
theorem w_J6_bitCount_0f7a4 {d : Nat} {S : zS} {I : zI} {J : zJ} {Q : zQ} {x0 : Int32} (h : Go d i_J6_bitCount_0f7a4 0 [.int x0] [] S I J Q) : z_wp (d + 1) i_J6_bitCount_0f7a4 [.int x0] S I J Q := Go.wp (Nat.le_of_ble_eq_true rfl) h
theorem e_J6_bitCount_0f7a4 {d : Nat} {S S2 : zS} {I I2 : zI} {J J2 : zJ} {r : Option Value} {x0 : Int32} (h : Go d i_J6_bitCount_0f7a4 0 [.int x0] [] S I J (z_eq r S2 I2 J2)) : z_ev (d + 1) i_J6_bitCount_0f7a4 [.int x0] S I J r S2 I2 J2 := Go.ev (Nat.le_of_ble_eq_true rfl) h
theorem b_J6_bitCount_0f7a4_0 {d : Nat} {S : zS} {I : zI} {J : zJ} {Q : zQ} {x0 : Int32} {z1 : Int32} {z2 : Int32} {z3 : Int32} {z4 : Int32} (ez1 : z1 = ((Int32.toUInt32 (x0 - (((Int32.toUInt32 x0 >>> (Int32.toUInt32 (1 : Int32) &&& Int32.toUInt32 31)).toInt32) &&& (1431655765 : Int32))) >>> (Int32.toUInt32 (2 : Int32) &&& Int32.toUInt32 31)).toInt32)) (ez2 : z2 = (((x0 - (((Int32.toUInt32 x0 >>> (Int32.toUInt32 (1 : Int32) &&& Int32.toUInt32 31)).toInt32) &&& (1431655765 : Int32))) &&& (858993459 : Int32)) + (z1 &&& (858993459 : Int32)))) (ez3 : z3 = ((Int32.toUInt32 ((z2 + ((Int32.toUInt32 z2 >>> (Int32.toUInt32 (4 : Int32) &&& Int32.toUInt32 31)).toInt32)) &&& (252645135 : Int32)) >>> (Int32.toUInt32 (8 : Int32) &&& Int32.toUInt32 31)).toInt32)) (ez4 : z4 = ((Int32.toUInt32 (((z2 + ((Int32.toUInt32 z2 >>> (Int32.toUInt32 (4 : Int32) &&& Int32.toUInt32 31)).toInt32)) &&& (252645135 : Int32)) + z3) >>> (Int32.toUInt32 (16 : Int32) &&& Int32.toUInt32 31)).toInt32)) (kk : Q (some (.int (((((z2 + ((Int32.toUInt32 z2 >>> (Int32.toUInt32 (4 : Int32) &&& Int32.toUInt32 31)).toInt32)) &&& (252645135 : Int32)) + z3) + z4) &&& (63 : Int32)))) S I J) : Go d i_J6_bitCount_0f7a4 0 [.int x0] [] S I J Q := by
  subst ez4
  subst ez3
  subst ez2
  subst ez1
  have h := (And.intro trivial kk)
  exact Go.n tb_J6_bitCount_0f7a4 42 h
theorem w_J9_floorMod_7cf53 {d : Nat} {S : zS} {I : zI} {J : zJ} {Q : zQ} {x0 : Int32} {x1 : Int32} (h : Go d i_J9_floorMod_7cf53 0 [.int x0, .int x1, .retAddr 0] [] S I J Q) : z_wp (d + 1) i_J9_floorMod_7cf53 [.int x0, .int x1] S I J Q := Go.wp (Nat.le_of_ble_eq_true rfl) h
theorem e_J9_floorMod_7cf53 {d : Nat} {S S2 : zS} {I I2 : zI} {J J2 : zJ} {r : Option Value} {x0 : Int32} {x1 : Int32} (h : Go d i_J9_floorMod_7cf53 0 [.int x0, .int x1, .retAddr 0] [] S I J (z_eq r S2 I2 J2)) : z_ev (d + 1) i_J9_floorMod_7cf53 [.int x0, .int x1] S I J r S2 I2 J2 := Go.ev (Nat.le_of_ble_eq_true rfl) h
theorem b_J9_floorMod_7cf53_0 {d : Nat} {S : zS} {I : zI} {J : zJ} {Q : zQ} {x0 : Int32} {x1 : Int32} {v2 : Value} (g1 : ¬ x1 = 0) (kt : (0 : Int32) ≤ (x0 ^^^ x1) → Go d i_J9_floorMod_7cf53 18 [.int x0, .int x1, .int (x0 - x0 / x1 * x1)] [] S I J Q) (kf : ¬ (0 : Int32) ≤ (x0 ^^^ x1) → Go d i_J9_floorMod_7cf53 10 [.int x0, .int x1, .int (x0 - x0 / x1 * x1)] [] S I J Q) : Go d i_J9_floorMod_7cf53 0 [.int x0, .int x1, v2] [] S I J Q := by
  have h := (And.intro g1 (Go.ite kt kf))
  exact Go.n tb_J9_floorMod_7cf53 8 h
theorem b_J9_floorMod_7cf53_10 {d : Nat} {S : zS} {I : zI} {J : zJ} {Q : zQ} {x0 : Int32} {x1 : Int32} {x2 : Int32} (kt : x2 = (0 : Int32) → Go d i_J9_floorMod_7cf53 18 [.int x0, .int x1, .int x2] [] S I J Q) (kf : ¬ x2 = (0 : Int32) → Go d i_J9_floorMod_7cf53 14 [.int x0, .int x1, .int x2] [] S I J Q) : Go d i_J9_floorMod_7cf53 10 [.int x0, .int x1, .int x2] [] S I J Q := by
  have h := (Go.ite kt kf)
  exact Go.n tb_J9_floorMod_7cf53 2 h
theorem b_J9_floorMod_7cf53_14 {d : Nat} {S : zS} {I : zI} {J : zJ} {Q : zQ} {x0 : Int32} {x1 : Int32} {x2 : Int32} (kk : Q (some (.int (x2 + x1))) S I J) : Go d i_J9_floorMod_7cf53 14 [.int x0, .int x1, .int x2] [] S I J Q := by
  have h := (And.intro trivial kk)
  exact Go.n tb_J9_floorMod_7cf53 4 h
theorem b_J9_floorMod_7cf53_18 {d : Nat} {S : zS} {I : zI} {J : zJ} {Q : zQ} {x0 : Int32} {x1 : Int32} {x2 : Int32} (kk : Q (some (.int x2)) S I J) : Go d i_J9_floorMod_7cf53 18 [.int x0, .int x1, .int x2] [] S I J Q := by
  have h := (And.intro trivial kk)
  exact Go.n tb_J9_floorMod_7cf53 2 h
theorem w_J9_max_7cf53 {d : Nat} {S : zS} {I : zI} {J : zJ} {Q : zQ} {x0 : Int32} {x1 : Int32} (h : Go d i_J9_max_7cf53 0 [.int x0, .int x1] [] S I J Q) : z_wp (d + 1) i_J9_max_7cf53 [.int x0, .int x1] S I J Q := Go.wp (Nat.le_of_ble_eq_true rfl) h
theorem e_J9_max_7cf53 {d : Nat} {S S2 : zS} {I I2 : zI} {J J2 : zJ} {r : Option Value} {x0 : Int32} {x1 : Int32} (h : Go d i_J9_max_7cf53 0 [.int x0, .int x1] [] S I J (z_eq r S2 I2 J2)) : z_ev (d + 1) i_J9_max_7cf53 [.int x0, .int x1] S I J r S2 I2 J2 := Go.ev (Nat.le_of_ble_eq_true rfl) h
theorem b_J9_max_7cf53_0 {d : Nat} {S : zS} {I : zI} {J : zJ} {Q : zQ} {x0 : Int32} {x1 : Int32} (kt : x0 < x1 → Go d i_J9_max_7cf53 9 [.int x0, .int x1] [] S I J Q) (kf : ¬ x0 < x1 → Go d i_J9_max_7cf53 5 [.int x0, .int x1] [] S I J Q) : Go d i_J9_max_7cf53 0 [.int x0, .int x1] [] S I J Q := by
  have h := (Go.ite kt kf)
  exact Go.n tb_J9_max_7cf53 3 h
theorem b_J9_max_7cf53_5 {d : Nat} {S : zS} {I : zI} {J : zJ} {Q : zQ} {x0 : Int32} {x1 : Int32} (kk : Q (some (.int x0)) S I J) : Go d i_J9_max_7cf53 5 [.int x0, .int x1] [] S I J Q := by
  have h := (And.intro trivial kk)
  exact Go.n tb_J9_max_7cf53 3 h
theorem b_J9_max_7cf53_9 {d : Nat} {S : zS} {I : zI} {J : zJ} {Q : zQ} {x0 : Int32} {x1 : Int32} (kk : Q (some (.int x1)) S I J) : Go d i_J9_max_7cf53 9 [.int x0, .int x1] [] S I J Q := by
  have h := (And.intro trivial kk)
  exact Go.n tb_J9_max_7cf53 2 h
theorem w_J9_min_7cf53 {d : Nat} {S : zS} {I : zI} {J : zJ} {Q : zQ} {x0 : Int32} {x1 : Int32} (h : Go d i_J9_min_7cf53 0 [.int x0, .int x1] [] S I J Q) : z_wp (d + 1) i_J9_min_7cf53 [.int x0, .int x1] S I J Q := Go.wp (Nat.le_of_ble_eq_true rfl) h
theorem e_J9_min_7cf53 {d : Nat} {S S2 : zS} {I I2 : zI} {J J2 : zJ} {r : Option Value} {x0 : Int32} {x1 : Int32} (h : Go d i_J9_min_7cf53 0 [.int x0, .int x1] [] S I J (z_eq r S2 I2 J2)) : z_ev (d + 1) i_J9_min_7cf53 [.int x0, .int x1] S I J r S2 I2 J2 := Go.ev (Nat.le_of_ble_eq_true rfl) h
theorem b_J9_min_7cf53_0 {d : Nat} {S : zS} {I : zI} {J : zJ} {Q : zQ} {x0 : Int32} {x1 : Int32} (kt : x1 < x0 → Go d i_J9_min_7cf53 9 [.int x0, .int x1] [] S I J Q) (kf : ¬ x1 < x0 → Go d i_J9_min_7cf53 5 [.int x0, .int x1] [] S I J Q) : Go d i_J9_min_7cf53 0 [.int x0, .int x1] [] S I J Q := by
  have h := (Go.ite kt kf)
  exact Go.n tb_J9_min_7cf53 3 h
theorem b_J9_min_7cf53_5 {d : Nat} {S : zS} {I : zI} {J : zJ} {Q : zQ} {x0 : Int32} {x1 : Int32} (kk : Q (some (.int x0)) S I J) : Go d i_J9_min_7cf53 5 [.int x0, .int x1] [] S I J Q := by
  have h := (And.intro trivial kk)
  exact Go.n tb_J9_min_7cf53 3 h
theorem b_J9_min_7cf53_9 {d : Nat} {S : zS} {I : zI} {J : zJ} {Q : zQ} {x0 : Int32} {x1 : Int32} (kk : Q (some (.int x1)) S I J) : Go d i_J9_min_7cf53 9 [.int x0, .int x1] [] S I J Q := by
  have h := (And.intro trivial kk)
  exact Go.n tb_J9_min_7cf53 2 h
theorem w_J0_length_8abf5 {d : Nat} {S : zS} {I : zI} {J : zJ} {Q : zQ} {h0 : Nat} (h : Go d i_J0_length_8abf5 0 [.ref h0] [] S I J Q) : z_wp (d + 1) i_J0_length_8abf5 [.ref h0] S I J Q := Go.wp (Nat.le_of_ble_eq_true rfl) h
theorem e_J0_length_8abf5 {d : Nat} {S S2 : zS} {I I2 : zI} {J J2 : zJ} {r : Option Value} {h0 : Nat} (h : Go d i_J0_length_8abf5 0 [.ref h0] [] S I J (z_eq r S2 I2 J2)) : z_ev (d + 1) i_J0_length_8abf5 [.ref h0] S I J r S2 I2 J2 := Go.ev (Nat.le_of_ble_eq_true rfl) h
theorem b_J0_length_8abf5_0 {d : Nat} {S : zS} {I : zI} {J : zJ} {Q : zQ} {h0 : Nat} (g1 : z_kd S h0 = 22) (g2 : z_isA (z_kd S (z_rv S h0 0)) = true) (g3 : z_kd S h0 = 22) (kk : z_wp d i_J0_coder_7d493 [.ref h0] S I J (fun vv SS II JJ => Go d i_J0_length_8abf5 9 [.ref h0] (vv.toList ++ [.int (nI (z_ln S (z_rv S h0 0)))]) SS II JJ Q)) : Go d i_J0_length_8abf5 0 [.ref h0] [] S I J Q := by
  have h := (And.intro g1 (And.intro g2 (And.intro g3 kk)))
  exact Go.n tb_J0_length_8abf5 5 h
theorem b_J0_length_8abf5_9 {d : Nat} {S : zS} {I : zI} {J : zJ} {Q : zQ} {h0 : Nat} {y0 : Int32} {y1 : Int32} (kk : Q (some (.int (y0 >>> (y1 &&& 31)))) S I J) : Go d i_J0_length_8abf5 9 [.ref h0] [.int y1, .int y0] S I J Q := by
  have h := (And.intro trivial kk)
  exact Go.n tb_J0_length_8abf5 2 h
theorem w_J0_charAt_5068e {d : Nat} {S : zS} {I : zI} {J : zJ} {Q : zQ} {h0 : Nat} {x1 : Int32} (h : Go d i_J0_charAt_5068e 0 [.ref h0, .int x1] [] S I J Q) : z_wp (d + 1) i_J0_charAt_5068e [.ref h0, .int x1] S I J Q := Go.wp (Nat.le_of_ble_eq_true rfl) h
theorem e_J0_charAt_5068e {d : Nat} {S S2 : zS} {I I2 : zI} {J J2 : zJ} {r : Option Value} {h0 : Nat} {x1 : Int32} (h : Go d i_J0_charAt_5068e 0 [.ref h0, .int x1] [] S I J (z_eq r S2 I2 J2)) : z_ev (d + 1) i_J0_charAt_5068e [.ref h0, .int x1] S I J r S2 I2 J2 := Go.ev (Nat.le_of_ble_eq_true rfl) h
theorem b_J0_charAt_5068e_0 {d : Nat} {S : zS} {I : zI} {J : zJ} {Q : zQ} {h0 : Nat} {x1 : Int32} (g1 : z_kd S h0 = 22) (kk : z_wp d i_J0_isLatin1_aae02 [.ref h0] S I J (fun vv SS II JJ => Go d i_J0_charAt_5068e 4 [.ref h0, .int x1] (vv.toList ++ []) SS II JJ Q)) : Go d i_J0_charAt_5068e 0 [.ref h0, .int x1] [] S I J Q := by
  have h := (And.intro g1 kk)
  exact Go.n tb_J0_charAt_5068e 2 h
theorem b_J0_charAt_5068e_4 {d : Nat} {S : zS} {I : zI} {J : zJ} {Q : zQ} {h0 : Nat} {x1 : Int32} {y0 : Int32} (kt : y0 = (0 : Int32) → Go d i_J0_charAt_5068e 16 [.ref h0, .int x1] [] S I J Q) (kf : ¬ y0 = (0 : Int32) → Go d i_J0_charAt_5068e 7 [.ref h0, .int x1] [] S I J Q) : Go d i_J0_charAt_5068e 4 [.ref h0, .int x1] [.int y0] S I J Q := by
  have h := (Go.ite kt kf)
  exact Go.n tb_J0_charAt_5068e 1 h
theorem b_J0_charAt_5068e_7 {d : Nat} {S : zS} {I : zI} {J : zJ} {Q : zQ} {h0 : Nat} {x1 : Int32} (g1 : z_kd S h0 = 22) (kk : z_wp d i_J1_charAt_3b067 [.ref (z_rv S h0 0), .int x1] S I J (fun vv SS II JJ => Go d i_J0_charAt_5068e 15 [.ref h0, .int x1] (vv.toList ++ []) SS II JJ Q)) : Go d i_J0_charAt_5068e 7 [.ref h0, .int x1] [] S I J Q := by
  have h := (And.intro g1 (And.intro trivial kk))
  exact Go.n tb_J0_charAt_5068e 4 h
theorem b_J0_charAt_5068e_15 {d : Nat} {S : zS} {I : zI} {J : zJ} {Q : zQ} {h0 : Nat} {x1 : Int32} {y0 : Int32} (g1 : z_fit 4 y0) (kk : Q (some (.int y0)) S I J) : Go d i_J0_charAt_5068e 15 [.ref h0, .int x1] [.int y0] S I J Q := by
  have h := (And.intro g1 kk)
  exact Go.n tb_J0_charAt_5068e 1 h
theorem w_J0_coder_7d493 {d : Nat} {S : zS} {I : zI} {J : zJ} {Q : zQ} {h0 : Nat} (h : Go d i_J0_coder_7d493 0 [.ref h0] [] S I J Q) : z_wp (d + 1) i_J0_coder_7d493 [.ref h0] S I J Q := Go.wp (Nat.le_of_ble_eq_true rfl) h
theorem e_J0_coder_7d493 {d : Nat} {S S2 : zS} {I I2 : zI} {J J2 : zJ} {r : Option Value} {h0 : Nat} (h : Go d i_J0_coder_7d493 0 [.ref h0] [] S I J (z_eq r S2 I2 J2)) : z_ev (d + 1) i_J0_coder_7d493 [.ref h0] S I J r S2 I2 J2 := Go.ev (Nat.le_of_ble_eq_true rfl) h
theorem b_J0_coder_7d493_0 {d : Nat} {S : zS} {I : zI} {J : zJ} {Q : zQ} {h0 : Nat} (kt : (1 : Int32) = (0 : Int32) → Go d i_J0_coder_7d493 13 [.ref h0] [] S I J Q) (kf : ¬ (1 : Int32) = (0 : Int32) → Go d i_J0_coder_7d493 6 [.ref h0] [] S I J Q) : Go d i_J0_coder_7d493 0 [.ref h0] [] S I J Q := by
  have h := (Go.ite kt kf)
  exact Go.n tb_J0_coder_7d493 2 h
theorem b_J0_coder_7d493_6 {d : Nat} {S : zS} {I : zI} {J : zJ} {Q : zQ} {h0 : Nat} (g1 : z_kd S h0 = 22) (g2 : z_fit 5 (I h0 1)) (kk : Q (some (.int (I h0 1))) S I J) : Go d i_J0_coder_7d493 6 [.ref h0] [] S I J Q := by
  have h := (And.intro g1 (And.intro g2 kk))
  exact Go.n tb_J0_coder_7d493 4 h
theorem b_J0_coder_7d493_13 {d : Nat} {S : zS} {I : zI} {J : zJ} {Q : zQ} {h0 : Nat} (g1 : z_fit 5 (1 : Int32)) (kk : Q (some (.int (1 : Int32))) S I J) : Go d i_J0_coder_7d493 13 [.ref h0] [] S I J Q := by
  have h := (And.intro g1 kk)
  exact Go.n tb_J0_coder_7d493 2 h
theorem w_J0_isLatin1_aae02 {d : Nat} {S : zS} {I : zI} {J : zJ} {Q : zQ} {h0 : Nat} (h : Go d i_J0_isLatin1_aae02 0 [.ref h0] [] S I J Q) : z_wp (d + 1) i_J0_isLatin1_aae02 [.ref h0] S I J Q := Go.wp (Nat.le_of_ble_eq_true rfl) h
theorem e_J0_isLatin1_aae02 {d : Nat} {S S2 : zS} {I I2 : zI} {J J2 : zJ} {r : Option Value} {h0 : Nat} (h : Go d i_J0_isLatin1_aae02 0 [.ref h0] [] S I J (z_eq r S2 I2 J2)) : z_ev (d + 1) i_J0_isLatin1_aae02 [.ref h0] S I J r S2 I2 J2 := Go.ev (Nat.le_of_ble_eq_true rfl) h
theorem b_J0_isLatin1_aae02_0 {d : Nat} {S : zS} {I : zI} {J : zJ} {Q : zQ} {h0 : Nat} (kt : (1 : Int32) = (0 : Int32) → Go d i_J0_isLatin1_aae02 17 [.ref h0] [] S I J Q) (kf : ¬ (1 : Int32) = (0 : Int32) → Go d i_J0_isLatin1_aae02 6 [.ref h0] [] S I J Q) : Go d i_J0_isLatin1_aae02 0 [.ref h0] [] S I J Q := by
  have h := (Go.ite kt kf)
  exact Go.n tb_J0_isLatin1_aae02 2 h
theorem b_J0_isLatin1_aae02_6 {d : Nat} {S : zS} {I : zI} {J : zJ} {Q : zQ} {h0 : Nat} (g1 : z_kd S h0 = 22) (kt : ¬ (I h0 1) = (0 : Int32) → Go d i_J0_isLatin1_aae02 17 [.ref h0] [] S I J Q) (kf : (I h0 1) = (0 : Int32) → Go d i_J0_isLatin1_aae02 13 [.ref h0] [] S I J Q) : Go d i_J0_isLatin1_aae02 6 [.ref h0] [] S I J Q := by
  have h := (And.intro g1 (Go.eti kt kf))
  exact Go.n tb_J0_isLatin1_aae02 3 h
theorem b_J0_isLatin1_aae02_13 {d : Nat} {S : zS} {I : zI} {J : zJ} {Q : zQ} {h0 : Nat} (g1 : z_fit 3 (1 : Int32)) (kk : Q (some (.int (1 : Int32))) S I J) : Go d i_J0_isLatin1_aae02 13 [.ref h0] [] S I J Q := by
  have h := (And.intro g1 kk)
  exact Go.n tb_J0_isLatin1_aae02 3 h
theorem b_J0_isLatin1_aae02_17 {d : Nat} {S : zS} {I : zI} {J : zJ} {Q : zQ} {h0 : Nat} (g1 : z_fit 3 (0 : Int32)) (kk : Q (some (.int (0 : Int32))) S I J) : Go d i_J0_isLatin1_aae02 17 [.ref h0] [] S I J Q := by
  have h := (And.intro g1 kk)
  exact Go.n tb_J0_isLatin1_aae02 2 h
theorem w_J0_checkIndex_df160 {d : Nat} {S : zS} {I : zI} {J : zJ} {Q : zQ} {x0 : Int32} {x1 : Int32} (h : Go d i_J0_checkIndex_df160 0 [.int x0, .int x1] [] S I J Q) : z_wp (d + 1) i_J0_checkIndex_df160 [.int x0, .int x1] S I J Q := Go.wp (Nat.le_of_ble_eq_true rfl) h
theorem e_J0_checkIndex_df160 {d : Nat} {S S2 : zS} {I I2 : zI} {J J2 : zJ} {r : Option Value} {x0 : Int32} {x1 : Int32} (h : Go d i_J0_checkIndex_df160 0 [.int x0, .int x1] [] S I J (z_eq r S2 I2 J2)) : z_ev (d + 1) i_J0_checkIndex_df160 [.int x0, .int x1] S I J r S2 I2 J2 := Go.ev (Nat.le_of_ble_eq_true rfl) h
theorem b_J0_checkIndex_df160_0 {d : Nat} {S : zS} {I : zI} {J : zJ} {Q : zQ} {x0 : Int32} {x1 : Int32} (kk : z_wp d i_J3_checkIndex_8e157 [.int x0, .int x1, .ref (z_rv S 0 21)] S I J (fun vv SS II JJ => Go d i_J0_checkIndex_df160 8 [.int x0, .int x1] (vv.toList ++ []) SS II JJ Q)) : Go d i_J0_checkIndex_df160 0 [.int x0, .int x1] [] S I J Q := by
  have h := (And.intro trivial kk)
  exact Go.n tb_J0_checkIndex_df160 4 h
theorem b_J0_checkIndex_df160_8 {d : Nat} {S : zS} {I : zI} {J : zJ} {Q : zQ} {x0 : Int32} {x1 : Int32} {y0 : Int32} (kk : Q none S I J) : Go d i_J0_checkIndex_df160 8 [.int x0, .int x1] [.int y0] S I J Q := by
  have h := (And.intro trivial kk)
  exact Go.n tb_J0_checkIndex_df160 2 h
theorem w_J1_charAt_3b067 {d : Nat} {S : zS} {I : zI} {J : zJ} {Q : zQ} {h0 : Nat} {x1 : Int32} (h : Go d i_J1_charAt_3b067 0 [.ref h0, .int x1] [] S I J Q) : z_wp (d + 1) i_J1_charAt_3b067 [.ref h0, .int x1] S I J Q := Go.wp (Nat.le_of_ble_eq_true rfl) h
theorem e_J1_charAt_3b067 {d : Nat} {S S2 : zS} {I I2 : zI} {J J2 : zJ} {r : Option Value} {h0 : Nat} {x1 : Int32} (h : Go d i_J1_charAt_3b067 0 [.ref h0, .int x1] [] S I J (z_eq r S2 I2 J2)) : z_ev (d + 1) i_J1_charAt_3b067 [.ref h0, .int x1] S I J r S2 I2 J2 := Go.ev (Nat.le_of_ble_eq_true rfl) h
theorem b_J1_charAt_3b067_0 {d : Nat} {S : zS} {I : zI} {J : zJ} {Q : zQ} {h0 : Nat} {x1 : Int32} (g1 : z_isA (z_kd S h0) = true) (kk : z_wp d i_J0_checkIndex_df160 [.int x1, .int (nI (z_ln S h0))] S I J (fun vv SS II JJ => Go d i_J1_charAt_3b067 6 [.ref h0, .int x1] (vv.toList ++ []) SS II JJ Q)) : Go d i_J1_charAt_3b067 0 [.ref h0, .int x1] [] S I J Q := by
  have h := (And.intro g1 (And.intro trivial kk))
  exact Go.n tb_J1_charAt_3b067 4 h
theorem b_J1_charAt_3b067_6 {d : Nat} {S : zS} {I : zI} {J : zJ} {Q : zQ} {h0 : Nat} {x1 : Int32} (g1 : z_isB (z_kd S h0) = true ∧ vp_in x1 (z_ln S h0)) (g2 : z_fit 4 (UInt32.toInt32 (Int32.toUInt32 ((I h0 (Int32.toNatClampNeg x1)) &&& (255 : Int32)) % 65536))) (kk : Q (some (.int (UInt32.toInt32 (Int32.toUInt32 ((I h0 (Int32.toNatClampNeg x1)) &&& (255 : Int32)) % 65536)))) S I J) : Go d i_J1_charAt_3b067 6 [.ref h0, .int x1] [] S I J Q := by
  have h := (And.intro g1 (And.intro g2 kk))
  exact Go.n tb_J1_charAt_3b067 7 h
theorem w_J3_checkIndex_8e157 {d : Nat} {S : zS} {I : zI} {J : zJ} {Q : zQ} {x0 : Int32} {x1 : Int32} {h2 : Nat} (h : Go d i_J3_checkIndex_8e157 0 [.int x0, .int x1, .ref h2] [] S I J Q) : z_wp (d + 1) i_J3_checkIndex_8e157 [.int x0, .int x1, .ref h2] S I J Q := Go.wp (Nat.le_of_ble_eq_true rfl) h
theorem e_J3_checkIndex_8e157 {d : Nat} {S S2 : zS} {I I2 : zI} {J J2 : zJ} {r : Option Value} {x0 : Int32} {x1 : Int32} {h2 : Nat} (h : Go d i_J3_checkIndex_8e157 0 [.int x0, .int x1, .ref h2] [] S I J (z_eq r S2 I2 J2)) : z_ev (d + 1) i_J3_checkIndex_8e157 [.int x0, .int x1, .ref h2] S I J r S2 I2 J2 := Go.ev (Nat.le_of_ble_eq_true rfl) h
theorem b_J3_checkIndex_8e157_0 {d : Nat} {S : zS} {I : zI} {J : zJ} {Q : zQ} {x0 : Int32} {x1 : Int32} {h2 : Nat} (kt : x0 < (0 : Int32) → Go d i_J3_checkIndex_8e157 9 [.int x0, .int x1, .ref h2] [] S I J Q) (kf : ¬ x0 < (0 : Int32) → Go d i_J3_checkIndex_8e157 4 [.int x0, .int x1, .ref h2] [] S I J Q) : Go d i_J3_checkIndex_8e157 0 [.int x0, .int x1, .ref h2] [] S I J Q := by
  have h := (Go.ite kt kf)
  exact Go.n tb_J3_checkIndex_8e157 2 h
theorem b_J3_checkIndex_8e157_4 {d : Nat} {S : zS} {I : zI} {J : zJ} {Q : zQ} {x0 : Int32} {x1 : Int32} {h2 : Nat} (kt : x0 < x1 → Go d i_J3_checkIndex_8e157 16 [.int x0, .int x1, .ref h2] [] S I J Q) (kf : ¬ x0 < x1 → Go d i_J3_checkIndex_8e157 9 [.int x0, .int x1, .ref h2] [] S I J Q) : Go d i_J3_checkIndex_8e157 4 [.int x0, .int x1, .ref h2] [] S I J Q := by
  have h := (Go.ite kt kf)
  exact Go.n tb_J3_checkIndex_8e157 3 h
theorem b_J3_checkIndex_8e157_16 {d : Nat} {S : zS} {I : zI} {J : zJ} {Q : zQ} {x0 : Int32} {x1 : Int32} {h2 : Nat} (kk : Q (some (.int x0)) S I J) : Go d i_J3_checkIndex_8e157 16 [.int x0, .int x1, .ref h2] [] S I J Q := by
  have h := (And.intro trivial kk)
  exact Go.n tb_J3_checkIndex_8e157 2 h

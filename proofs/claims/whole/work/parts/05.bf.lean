theorem w_law {d : Nat} {S : zS} {I : zI} {J : zJ} {Q : zQ} {h0 : Nat} (h : Go d i_law 0 [.ref h0, .retAddr 0, .retAddr 0, .retAddr 0] [] S I J Q) : z_wp (d + 1) i_law [.ref h0] S I J Q := Go.wp (Nat.le_of_ble_eq_true rfl) h
theorem e_law {d : Nat} {S S2 : zS} {I I2 : zI} {J J2 : zJ} {r : Option Value} {h0 : Nat} (h : Go d i_law 0 [.ref h0, .retAddr 0, .retAddr 0, .retAddr 0] [] S I J (z_eq r S2 I2 J2)) : z_ev (d + 1) i_law [.ref h0] S I J r S2 I2 J2 := Go.ev (Nat.le_of_ble_eq_true rfl) h
theorem b_law_0 {d : Nat} {S : zS} {I : zI} {J : zJ} {Q : zQ} {h0 : Nat} {v1 : Value} {v2 : Value} {v3 : Value} (g1 : ¬ (z_sz S + 1) = 0) (kk : z_wp d i_X11_init [.ref (z_sz S + 1)] (z_new S 12 0 16) (z_ur I (z_sz S + 1) (fun _ => 0)) (z_ur J (z_sz S + 1) (fun _ => 0)) (fun vv SS II JJ => Go d i_law 7 [.ref h0, v1, v2, v3] (vv.toList ++ [.ref (z_sz S + 1)]) SS II JJ Q)) : Go d i_law 0 [.ref h0, v1, v2, v3] [] S I J Q := by
  have h := (And.intro g1 kk)
  exact Go.n tb_law 3 h
theorem b_law_7 {d : Nat} {S : zS} {I : zI} {J : zJ} {Q : zQ} {h0 : Nat} {v1 : Value} {v2 : Value} {v3 : Value} {q0 : Nat} (g1 : ¬ q0 = 0) (g2 : ¬ (z_sz S + 1) = 0) (kk : z_wp d i_X12_init [.ref (z_sz S + 1)] (z_new S 13 0 36) (z_ur I (z_sz S + 1) (fun _ => 0)) (z_ur J (z_sz S + 1) (fun _ => 0)) (fun vv SS II JJ => Go d i_law 15 [.ref h0, .ref q0, v2, v3] (vv.toList ++ [.ref (z_sz S + 1)]) SS II JJ Q)) : Go d i_law 7 [.ref h0, v1, v2, v3] [.ref q0] S I J Q := by
  have h := (And.intro g1 (And.intro g2 kk))
  exact Go.n tb_law 4 h
theorem b_law_15 {d : Nat} {S : zS} {I : zI} {J : zJ} {Q : zQ} {h0 : Nat} {h1 : Nat} {v2 : Value} {v3 : Value} {q0 : Nat} (g1 : ¬ q0 = 0) (kk : Go d i_law 18 [.ref h0, .ref h1, .ref q0, .int (0 : Int32)] [] S I J Q) : Go d i_law 15 [.ref h0, .ref h1, v2, v3] [.ref q0] S I J Q := by
  have h := (And.intro g1 kk)
  exact Go.n tb_law 3 h
theorem b_law_18 {d : Nat} {S : zS} {I : zI} {J : zJ} {Q : zQ} {h0 : Nat} {h1 : Nat} {h2 : Nat} {x3 : Int32} (g1 : z_isA (z_kd S h0) = true) (kt : ((nI (z_ln S h0)) - (6 : Int32)) < x3 → Go d i_law 1041 [.ref h0, .ref h1, .ref h2, .int x3] [] S I J Q) (kf : ¬ ((nI (z_ln S h0)) - (6 : Int32)) < x3 → Go d i_law 27 [.ref h0, .ref h1, .ref h2, .int x3] [] S I J Q) : Go d i_law 18 [.ref h0, .ref h1, .ref h2, .int x3] [] S I J Q := by
  have h := (And.intro g1 (Go.ite kt kf))
  exact Go.n tb_law 6 h
theorem b_law_27 {d : Nat} {S : zS} {I : zI} {J : zJ} {Q : zQ} {h0 : Nat} {h1 : Nat} {h2 : Nat} {x3 : Int32} (g1 : z_isI (z_kd S h0) = true ∧ vp_in x3 (z_ln S h0)) (kk : Go d i_law (z_sw [(0, 160), (1, 223), (2, 256), (3, 279), (4, 312), (5, 335), (6, 368), (7, 381), (8, 414), (9, 457), (10, 500), (11, 533), (12, 566), (13, 599), (14, 632), (15, 655), (16, 678), (17, 721), (18, 754), (19, 797), (20, 820), (21, 843), (22, 867), (23, 900), (24, 933), (25, 956), (26, 969), (27, 1012)] 1035 ((I h0 (Int32.toNatClampNeg x3)) &&& (31 : Int32))) [.ref h0, .ref h1, .ref h2, .int x3] [] S I J Q) : Go d i_law 27 [.ref h0, .ref h1, .ref h2, .int x3] [] S I J Q := by
  have h := (And.intro g1 kk)
  exact Go.n tb_law 6 h
theorem b_law_160 {d : Nat} {S : zS} {I : zI} {J : zJ} {Q : zQ} {h0 : Nat} {h1 : Nat} {h2 : Nat} {x3 : Int32} (g1 : z_isI (z_kd S h0) = true ∧ vp_in (x3 + (1 : Int32)) (z_ln S h0)) (g2 : z_isI (z_kd S h0) = true ∧ vp_in (x3 + (2 : Int32)) (z_ln S h0)) (g3 : z_isI (z_kd S h0) = true ∧ vp_in (x3 + (3 : Int32)) (z_ln S h0)) (g4 : z_isI (z_kd S h0) = true ∧ vp_in (x3 + (4 : Int32)) (z_ln S h0)) (g5 : z_isI (z_kd S h0) = true ∧ vp_in (x3 + (5 : Int32)) (z_ln S h0)) (g6 : z_kd S h1 = 12) (kk : z_wp d i_X11_feed [.ref h1, .int (I h0 (Int32.toNatClampNeg (x3 + (1 : Int32)))), .int (I h0 (Int32.toNatClampNeg (x3 + (2 : Int32)))), .int (I h0 (Int32.toNatClampNeg (x3 + (3 : Int32)))), .int (I h0 (Int32.toNatClampNeg (x3 + (4 : Int32)))), .int (I h0 (Int32.toNatClampNeg (x3 + (5 : Int32))))] S I J (fun vv SS II JJ => Go d i_law 189 [.ref h0, .ref h1, .ref h2, .int x3] (vv.toList ++ []) SS II JJ Q)) : Go d i_law 160 [.ref h0, .ref h1, .ref h2, .int x3] [] S I J Q := by
  have h := (And.intro g1 (And.intro g2 (And.intro g3 (And.intro g4 (And.intro g5 (And.intro g6 kk))))))
  exact Go.n tb_law 27 h
theorem b_law_189 {d : Nat} {S : zS} {I : zI} {J : zJ} {Q : zQ} {h0 : Nat} {h1 : Nat} {h2 : Nat} {x3 : Int32} {y0 : Int32} (g1 : z_isI (z_kd S h0) = true ∧ vp_in (x3 + (1 : Int32)) (z_ln S h0)) (g2 : z_isI (z_kd S h0) = true ∧ vp_in (x3 + (2 : Int32)) (z_ln S h0)) (g3 : z_isI (z_kd S h0) = true ∧ vp_in (x3 + (3 : Int32)) (z_ln S h0)) (g4 : z_isI (z_kd S h0) = true ∧ vp_in (x3 + (4 : Int32)) (z_ln S h0)) (g5 : z_isI (z_kd S h0) = true ∧ vp_in (x3 + (5 : Int32)) (z_ln S h0)) (g6 : z_kd S h2 = 13) (kk : z_wp d i_X12_feed [.ref h2, .int (I h0 (Int32.toNatClampNeg (x3 + (1 : Int32)))), .int (I h0 (Int32.toNatClampNeg (x3 + (2 : Int32)))), .int (I h0 (Int32.toNatClampNeg (x3 + (3 : Int32)))), .int (I h0 (Int32.toNatClampNeg (x3 + (4 : Int32)))), .int (I h0 (Int32.toNatClampNeg (x3 + (5 : Int32))))] S I J (fun vv SS II JJ => Go d i_law 218 [.ref h0, .ref h1, .ref h2, .int x3] (vv.toList ++ [.int y0]) SS II JJ Q)) : Go d i_law 189 [.ref h0, .ref h1, .ref h2, .int x3] [.int y0] S I J Q := by
  have h := (And.intro g1 (And.intro g2 (And.intro g3 (And.intro g4 (And.intro g5 (And.intro g6 kk))))))
  exact Go.n tb_law 27 h
theorem b_law_218 {d : Nat} {S : zS} {I : zI} {J : zJ} {Q : zQ} {h0 : Nat} {h1 : Nat} {h2 : Nat} {x3 : Int32} {y0 : Int32} {y1 : Int32} (kt : y0 = y1 → Go d i_law 1035 [.ref h0, .ref h1, .ref h2, .int x3] [] S I J Q) (kf : ¬ y0 = y1 → Go d i_law 221 [.ref h0, .ref h1, .ref h2, .int x3] [] S I J Q) : Go d i_law 218 [.ref h0, .ref h1, .ref h2, .int x3] [.int y1, .int y0] S I J Q := by
  have h := (Go.ite kt kf)
  exact Go.n tb_law 1 h
theorem b_law_221 {d : Nat} {S : zS} {I : zI} {J : zJ} {Q : zQ} {h0 : Nat} {h1 : Nat} {h2 : Nat} {x3 : Int32} (g1 : z_fit 3 (0 : Int32)) (kk : Q (some (.int (0 : Int32))) S I J) : Go d i_law 221 [.ref h0, .ref h1, .ref h2, .int x3] [] S I J Q := by
  have h := (And.intro g1 kk)
  exact Go.n tb_law 2 h
theorem b_law_223 {d : Nat} {S : zS} {I : zI} {J : zJ} {Q : zQ} {h0 : Nat} {h1 : Nat} {h2 : Nat} {x3 : Int32} (g1 : z_isI (z_kd S h0) = true ∧ vp_in (x3 + (1 : Int32)) (z_ln S h0)) (g2 : z_isI (z_kd S h0) = true ∧ vp_in (x3 + (2 : Int32)) (z_ln S h0)) (g3 : z_kd S h1 = 12) (kk : z_wp d i_X11_tell [.ref h1, .int (I h0 (Int32.toNatClampNeg (x3 + (1 : Int32)))), .int (I h0 (Int32.toNatClampNeg (x3 + (2 : Int32))))] S I J (fun vv SS II JJ => Go d i_law 237 [.ref h0, .ref h1, .ref h2, .int x3] (vv.toList ++ []) SS II JJ Q)) : Go d i_law 223 [.ref h0, .ref h1, .ref h2, .int x3] [] S I J Q := by
  have h := (And.intro g1 (And.intro g2 (And.intro g3 kk)))
  exact Go.n tb_law 12 h
theorem b_law_237 {d : Nat} {S : zS} {I : zI} {J : zJ} {Q : zQ} {h0 : Nat} {h1 : Nat} {h2 : Nat} {x3 : Int32} {y0 : Int32} (g1 : z_isI (z_kd S h0) = true ∧ vp_in (x3 + (1 : Int32)) (z_ln S h0)) (g2 : z_isI (z_kd S h0) = true ∧ vp_in (x3 + (2 : Int32)) (z_ln S h0)) (g3 : z_kd S h2 = 13) (kk : z_wp d i_X12_tell [.ref h2, .int (I h0 (Int32.toNatClampNeg (x3 + (1 : Int32)))), .int (I h0 (Int32.toNatClampNeg (x3 + (2 : Int32))))] S I J (fun vv SS II JJ => Go d i_law 251 [.ref h0, .ref h1, .ref h2, .int x3] (vv.toList ++ [.int y0]) SS II JJ Q)) : Go d i_law 237 [.ref h0, .ref h1, .ref h2, .int x3] [.int y0] S I J Q := by
  have h := (And.intro g1 (And.intro g2 (And.intro g3 kk)))
  exact Go.n tb_law 12 h
theorem b_law_251 {d : Nat} {S : zS} {I : zI} {J : zJ} {Q : zQ} {h0 : Nat} {h1 : Nat} {h2 : Nat} {x3 : Int32} {y0 : Int32} {y1 : Int32} (kt : y0 = y1 → Go d i_law 1035 [.ref h0, .ref h1, .ref h2, .int x3] [] S I J Q) (kf : ¬ y0 = y1 → Go d i_law 254 [.ref h0, .ref h1, .ref h2, .int x3] [] S I J Q) : Go d i_law 251 [.ref h0, .ref h1, .ref h2, .int x3] [.int y1, .int y0] S I J Q := by
  have h := (Go.ite kt kf)
  exact Go.n tb_law 1 h
theorem b_law_254 {d : Nat} {S : zS} {I : zI} {J : zJ} {Q : zQ} {h0 : Nat} {h1 : Nat} {h2 : Nat} {x3 : Int32} (g1 : z_fit 3 (0 : Int32)) (kk : Q (some (.int (0 : Int32))) S I J) : Go d i_law 254 [.ref h0, .ref h1, .ref h2, .int x3] [] S I J Q := by
  have h := (And.intro g1 kk)
  exact Go.n tb_law 2 h
theorem b_law_256 {d : Nat} {S : zS} {I : zI} {J : zJ} {Q : zQ} {h0 : Nat} {h1 : Nat} {h2 : Nat} {x3 : Int32} (g1 : z_isI (z_kd S h0) = true ∧ vp_in (x3 + (1 : Int32)) (z_ln S h0)) (g2 : z_kd S h1 = 12) (kk : z_wp d i_X11_fault [.ref h1, .int (I h0 (Int32.toNatClampNeg (x3 + (1 : Int32))))] S I J (fun vv SS II JJ => Go d i_law 265 [.ref h0, .ref h1, .ref h2, .int x3] (vv.toList ++ []) SS II JJ Q)) : Go d i_law 256 [.ref h0, .ref h1, .ref h2, .int x3] [] S I J Q := by
  have h := (And.intro g1 (And.intro g2 kk))
  exact Go.n tb_law 7 h
theorem b_law_265 {d : Nat} {S : zS} {I : zI} {J : zJ} {Q : zQ} {h0 : Nat} {h1 : Nat} {h2 : Nat} {x3 : Int32} {y0 : Int32} (g1 : z_isI (z_kd S h0) = true ∧ vp_in (x3 + (1 : Int32)) (z_ln S h0)) (g2 : z_kd S h2 = 13) (kk : z_wp d i_X12_fault [.ref h2, .int (I h0 (Int32.toNatClampNeg (x3 + (1 : Int32))))] S I J (fun vv SS II JJ => Go d i_law 274 [.ref h0, .ref h1, .ref h2, .int x3] (vv.toList ++ [.int y0]) SS II JJ Q)) : Go d i_law 265 [.ref h0, .ref h1, .ref h2, .int x3] [.int y0] S I J Q := by
  have h := (And.intro g1 (And.intro g2 kk))
  exact Go.n tb_law 7 h
theorem b_law_274 {d : Nat} {S : zS} {I : zI} {J : zJ} {Q : zQ} {h0 : Nat} {h1 : Nat} {h2 : Nat} {x3 : Int32} {y0 : Int32} {y1 : Int32} (kt : y0 = y1 → Go d i_law 1035 [.ref h0, .ref h1, .ref h2, .int x3] [] S I J Q) (kf : ¬ y0 = y1 → Go d i_law 277 [.ref h0, .ref h1, .ref h2, .int x3] [] S I J Q) : Go d i_law 274 [.ref h0, .ref h1, .ref h2, .int x3] [.int y1, .int y0] S I J Q := by
  have h := (Go.ite kt kf)
  exact Go.n tb_law 1 h
theorem b_law_277 {d : Nat} {S : zS} {I : zI} {J : zJ} {Q : zQ} {h0 : Nat} {h1 : Nat} {h2 : Nat} {x3 : Int32} (g1 : z_fit 3 (0 : Int32)) (kk : Q (some (.int (0 : Int32))) S I J) : Go d i_law 277 [.ref h0, .ref h1, .ref h2, .int x3] [] S I J Q := by
  have h := (And.intro g1 kk)
  exact Go.n tb_law 2 h
theorem b_law_279 {d : Nat} {S : zS} {I : zI} {J : zJ} {Q : zQ} {h0 : Nat} {h1 : Nat} {h2 : Nat} {x3 : Int32} (g1 : z_isI (z_kd S h0) = true ∧ vp_in (x3 + (1 : Int32)) (z_ln S h0)) (g2 : z_isI (z_kd S h0) = true ∧ vp_in (x3 + (2 : Int32)) (z_ln S h0)) (g3 : z_kd S h1 = 12) (kk : z_wp d i_X11_step [.ref h1, .int (I h0 (Int32.toNatClampNeg (x3 + (1 : Int32)))), .int (I h0 (Int32.toNatClampNeg (x3 + (2 : Int32))))] S I J (fun vv SS II JJ => Go d i_law 293 [.ref h0, .ref h1, .ref h2, .int x3] (vv.toList ++ []) SS II JJ Q)) : Go d i_law 279 [.ref h0, .ref h1, .ref h2, .int x3] [] S I J Q := by
  have h := (And.intro g1 (And.intro g2 (And.intro g3 kk)))
  exact Go.n tb_law 12 h
theorem b_law_293 {d : Nat} {S : zS} {I : zI} {J : zJ} {Q : zQ} {h0 : Nat} {h1 : Nat} {h2 : Nat} {x3 : Int32} {y0 : Int32} (g1 : z_isI (z_kd S h0) = true ∧ vp_in (x3 + (1 : Int32)) (z_ln S h0)) (g2 : z_isI (z_kd S h0) = true ∧ vp_in (x3 + (2 : Int32)) (z_ln S h0)) (g3 : z_kd S h2 = 13) (kk : z_wp d i_X12_step [.ref h2, .int (I h0 (Int32.toNatClampNeg (x3 + (1 : Int32)))), .int (I h0 (Int32.toNatClampNeg (x3 + (2 : Int32))))] S I J (fun vv SS II JJ => Go d i_law 307 [.ref h0, .ref h1, .ref h2, .int x3] (vv.toList ++ [.int y0]) SS II JJ Q)) : Go d i_law 293 [.ref h0, .ref h1, .ref h2, .int x3] [.int y0] S I J Q := by
  have h := (And.intro g1 (And.intro g2 (And.intro g3 kk)))
  exact Go.n tb_law 12 h
theorem b_law_307 {d : Nat} {S : zS} {I : zI} {J : zJ} {Q : zQ} {h0 : Nat} {h1 : Nat} {h2 : Nat} {x3 : Int32} {y0 : Int32} {y1 : Int32} (kt : y0 = y1 → Go d i_law 1035 [.ref h0, .ref h1, .ref h2, .int x3] [] S I J Q) (kf : ¬ y0 = y1 → Go d i_law 310 [.ref h0, .ref h1, .ref h2, .int x3] [] S I J Q) : Go d i_law 307 [.ref h0, .ref h1, .ref h2, .int x3] [.int y1, .int y0] S I J Q := by
  have h := (Go.ite kt kf)
  exact Go.n tb_law 1 h
theorem b_law_310 {d : Nat} {S : zS} {I : zI} {J : zJ} {Q : zQ} {h0 : Nat} {h1 : Nat} {h2 : Nat} {x3 : Int32} (g1 : z_fit 3 (0 : Int32)) (kk : Q (some (.int (0 : Int32))) S I J) : Go d i_law 310 [.ref h0, .ref h1, .ref h2, .int x3] [] S I J Q := by
  have h := (And.intro g1 kk)
  exact Go.n tb_law 2 h
theorem b_law_312 {d : Nat} {S : zS} {I : zI} {J : zJ} {Q : zQ} {h0 : Nat} {h1 : Nat} {h2 : Nat} {x3 : Int32} (g1 : z_isI (z_kd S h0) = true ∧ vp_in (x3 + (1 : Int32)) (z_ln S h0)) (g2 : z_kd S h1 = 12) (kk : z_wp d i_X11_both [.ref h1, .int (I h0 (Int32.toNatClampNeg (x3 + (1 : Int32))))] S I J (fun vv SS II JJ => Go d i_law 321 [.ref h0, .ref h1, .ref h2, .int x3] (vv.toList ++ []) SS II JJ Q)) : Go d i_law 312 [.ref h0, .ref h1, .ref h2, .int x3] [] S I J Q := by
  have h := (And.intro g1 (And.intro g2 kk))
  exact Go.n tb_law 7 h
theorem b_law_321 {d : Nat} {S : zS} {I : zI} {J : zJ} {Q : zQ} {h0 : Nat} {h1 : Nat} {h2 : Nat} {x3 : Int32} {y0 : Int32} (g1 : z_isI (z_kd S h0) = true ∧ vp_in (x3 + (1 : Int32)) (z_ln S h0)) (g2 : z_kd S h2 = 13) (kk : z_wp d i_X12_both [.ref h2, .int (I h0 (Int32.toNatClampNeg (x3 + (1 : Int32))))] S I J (fun vv SS II JJ => Go d i_law 330 [.ref h0, .ref h1, .ref h2, .int x3] (vv.toList ++ [.int y0]) SS II JJ Q)) : Go d i_law 321 [.ref h0, .ref h1, .ref h2, .int x3] [.int y0] S I J Q := by
  have h := (And.intro g1 (And.intro g2 kk))
  exact Go.n tb_law 7 h
theorem b_law_330 {d : Nat} {S : zS} {I : zI} {J : zJ} {Q : zQ} {h0 : Nat} {h1 : Nat} {h2 : Nat} {x3 : Int32} {y0 : Int32} {y1 : Int32} (kt : y0 = y1 → Go d i_law 1035 [.ref h0, .ref h1, .ref h2, .int x3] [] S I J Q) (kf : ¬ y0 = y1 → Go d i_law 333 [.ref h0, .ref h1, .ref h2, .int x3] [] S I J Q) : Go d i_law 330 [.ref h0, .ref h1, .ref h2, .int x3] [.int y1, .int y0] S I J Q := by
  have h := (Go.ite kt kf)
  exact Go.n tb_law 1 h
theorem b_law_333 {d : Nat} {S : zS} {I : zI} {J : zJ} {Q : zQ} {h0 : Nat} {h1 : Nat} {h2 : Nat} {x3 : Int32} (g1 : z_fit 3 (0 : Int32)) (kk : Q (some (.int (0 : Int32))) S I J) : Go d i_law 333 [.ref h0, .ref h1, .ref h2, .int x3] [] S I J Q := by
  have h := (And.intro g1 kk)
  exact Go.n tb_law 2 h
theorem b_law_335 {d : Nat} {S : zS} {I : zI} {J : zJ} {Q : zQ} {h0 : Nat} {h1 : Nat} {h2 : Nat} {x3 : Int32} (g1 : z_isI (z_kd S h0) = true ∧ vp_in (x3 + (1 : Int32)) (z_ln S h0)) (g2 : z_isI (z_kd S h0) = true ∧ vp_in (x3 + (2 : Int32)) (z_ln S h0)) (g3 : z_kd S h1 = 12) (kk : z_wp d i_X11_quotient [.ref h1, .int (I h0 (Int32.toNatClampNeg (x3 + (1 : Int32)))), .int (I h0 (Int32.toNatClampNeg (x3 + (2 : Int32))))] S I J (fun vv SS II JJ => Go d i_law 349 [.ref h0, .ref h1, .ref h2, .int x3] (vv.toList ++ []) SS II JJ Q)) : Go d i_law 335 [.ref h0, .ref h1, .ref h2, .int x3] [] S I J Q := by
  have h := (And.intro g1 (And.intro g2 (And.intro g3 kk)))
  exact Go.n tb_law 12 h
theorem b_law_349 {d : Nat} {S : zS} {I : zI} {J : zJ} {Q : zQ} {h0 : Nat} {h1 : Nat} {h2 : Nat} {x3 : Int32} {y0 : Int32} (g1 : z_isI (z_kd S h0) = true ∧ vp_in (x3 + (1 : Int32)) (z_ln S h0)) (g2 : z_isI (z_kd S h0) = true ∧ vp_in (x3 + (2 : Int32)) (z_ln S h0)) (g3 : z_kd S h2 = 13) (kk : z_wp d i_X12_quotient [.ref h2, .int (I h0 (Int32.toNatClampNeg (x3 + (1 : Int32)))), .int (I h0 (Int32.toNatClampNeg (x3 + (2 : Int32))))] S I J (fun vv SS II JJ => Go d i_law 363 [.ref h0, .ref h1, .ref h2, .int x3] (vv.toList ++ [.int y0]) SS II JJ Q)) : Go d i_law 349 [.ref h0, .ref h1, .ref h2, .int x3] [.int y0] S I J Q := by
  have h := (And.intro g1 (And.intro g2 (And.intro g3 kk)))
  exact Go.n tb_law 12 h
theorem b_law_363 {d : Nat} {S : zS} {I : zI} {J : zJ} {Q : zQ} {h0 : Nat} {h1 : Nat} {h2 : Nat} {x3 : Int32} {y0 : Int32} {y1 : Int32} (kt : y0 = y1 → Go d i_law 1035 [.ref h0, .ref h1, .ref h2, .int x3] [] S I J Q) (kf : ¬ y0 = y1 → Go d i_law 366 [.ref h0, .ref h1, .ref h2, .int x3] [] S I J Q) : Go d i_law 363 [.ref h0, .ref h1, .ref h2, .int x3] [.int y1, .int y0] S I J Q := by
  have h := (Go.ite kt kf)
  exact Go.n tb_law 1 h
theorem b_law_366 {d : Nat} {S : zS} {I : zI} {J : zJ} {Q : zQ} {h0 : Nat} {h1 : Nat} {h2 : Nat} {x3 : Int32} (g1 : z_fit 3 (0 : Int32)) (kk : Q (some (.int (0 : Int32))) S I J) : Go d i_law 366 [.ref h0, .ref h1, .ref h2, .int x3] [] S I J Q := by
  have h := (And.intro g1 kk)
  exact Go.n tb_law 2 h
theorem b_law_368 {d : Nat} {S : zS} {I : zI} {J : zJ} {Q : zQ} {h0 : Nat} {h1 : Nat} {h2 : Nat} {x3 : Int32} (g1 : z_kd S h1 = 12) (kk : z_wp d i_X11_undo [.ref h1] S I J (fun vv SS II JJ => Go d i_law 372 [.ref h0, .ref h1, .ref h2, .int x3] (vv.toList ++ []) SS II JJ Q)) : Go d i_law 368 [.ref h0, .ref h1, .ref h2, .int x3] [] S I J Q := by
  have h := (And.intro g1 kk)
  exact Go.n tb_law 2 h
theorem b_law_372 {d : Nat} {S : zS} {I : zI} {J : zJ} {Q : zQ} {h0 : Nat} {h1 : Nat} {h2 : Nat} {x3 : Int32} {y0 : Int32} (g1 : z_kd S h2 = 13) (kk : z_wp d i_X12_undo [.ref h2] S I J (fun vv SS II JJ => Go d i_law 376 [.ref h0, .ref h1, .ref h2, .int x3] (vv.toList ++ [.int y0]) SS II JJ Q)) : Go d i_law 372 [.ref h0, .ref h1, .ref h2, .int x3] [.int y0] S I J Q := by
  have h := (And.intro g1 kk)
  exact Go.n tb_law 2 h
theorem b_law_376 {d : Nat} {S : zS} {I : zI} {J : zJ} {Q : zQ} {h0 : Nat} {h1 : Nat} {h2 : Nat} {x3 : Int32} {y0 : Int32} {y1 : Int32} (kt : y0 = y1 → Go d i_law 1035 [.ref h0, .ref h1, .ref h2, .int x3] [] S I J Q) (kf : ¬ y0 = y1 → Go d i_law 379 [.ref h0, .ref h1, .ref h2, .int x3] [] S I J Q) : Go d i_law 376 [.ref h0, .ref h1, .ref h2, .int x3] [.int y1, .int y0] S I J Q := by
  have h := (Go.ite kt kf)
  exact Go.n tb_law 1 h
theorem b_law_379 {d : Nat} {S : zS} {I : zI} {J : zJ} {Q : zQ} {h0 : Nat} {h1 : Nat} {h2 : Nat} {x3 : Int32} (g1 : z_fit 3 (0 : Int32)) (kk : Q (some (.int (0 : Int32))) S I J) : Go d i_law 379 [.ref h0, .ref h1, .ref h2, .int x3] [] S I J Q := by
  have h := (And.intro g1 kk)
  exact Go.n tb_law 2 h
theorem b_law_381 {d : Nat} {S : zS} {I : zI} {J : zJ} {Q : zQ} {h0 : Nat} {h1 : Nat} {h2 : Nat} {x3 : Int32} (g1 : z_isI (z_kd S h0) = true ∧ vp_in (x3 + (1 : Int32)) (z_ln S h0)) (g2 : z_isI (z_kd S h0) = true ∧ vp_in (x3 + (2 : Int32)) (z_ln S h0)) (g3 : z_kd S h1 = 12) (kk : z_wp d i_X11_size [.ref h1, .int (I h0 (Int32.toNatClampNeg (x3 + (1 : Int32)))), .int (I h0 (Int32.toNatClampNeg (x3 + (2 : Int32))))] S I J (fun vv SS II JJ => Go d i_law 395 [.ref h0, .ref h1, .ref h2, .int x3] (vv.toList ++ []) SS II JJ Q)) : Go d i_law 381 [.ref h0, .ref h1, .ref h2, .int x3] [] S I J Q := by
  have h := (And.intro g1 (And.intro g2 (And.intro g3 kk)))
  exact Go.n tb_law 12 h
theorem b_law_395 {d : Nat} {S : zS} {I : zI} {J : zJ} {Q : zQ} {h0 : Nat} {h1 : Nat} {h2 : Nat} {x3 : Int32} {y0 : Int32} (g1 : z_isI (z_kd S h0) = true ∧ vp_in (x3 + (1 : Int32)) (z_ln S h0)) (g2 : z_isI (z_kd S h0) = true ∧ vp_in (x3 + (2 : Int32)) (z_ln S h0)) (g3 : z_kd S h2 = 13) (kk : z_wp d i_X12_size [.ref h2, .int (I h0 (Int32.toNatClampNeg (x3 + (1 : Int32)))), .int (I h0 (Int32.toNatClampNeg (x3 + (2 : Int32))))] S I J (fun vv SS II JJ => Go d i_law 409 [.ref h0, .ref h1, .ref h2, .int x3] (vv.toList ++ [.int y0]) SS II JJ Q)) : Go d i_law 395 [.ref h0, .ref h1, .ref h2, .int x3] [.int y0] S I J Q := by
  have h := (And.intro g1 (And.intro g2 (And.intro g3 kk)))
  exact Go.n tb_law 12 h
theorem b_law_409 {d : Nat} {S : zS} {I : zI} {J : zJ} {Q : zQ} {h0 : Nat} {h1 : Nat} {h2 : Nat} {x3 : Int32} {y0 : Int32} {y1 : Int32} (kt : y0 = y1 → Go d i_law 1035 [.ref h0, .ref h1, .ref h2, .int x3] [] S I J Q) (kf : ¬ y0 = y1 → Go d i_law 412 [.ref h0, .ref h1, .ref h2, .int x3] [] S I J Q) : Go d i_law 409 [.ref h0, .ref h1, .ref h2, .int x3] [.int y1, .int y0] S I J Q := by
  have h := (Go.ite kt kf)
  exact Go.n tb_law 1 h
theorem b_law_412 {d : Nat} {S : zS} {I : zI} {J : zJ} {Q : zQ} {h0 : Nat} {h1 : Nat} {h2 : Nat} {x3 : Int32} (g1 : z_fit 3 (0 : Int32)) (kk : Q (some (.int (0 : Int32))) S I J) : Go d i_law 412 [.ref h0, .ref h1, .ref h2, .int x3] [] S I J Q := by
  have h := (And.intro g1 kk)
  exact Go.n tb_law 2 h
theorem b_law_414 {d : Nat} {S : zS} {I : zI} {J : zJ} {Q : zQ} {h0 : Nat} {h1 : Nat} {h2 : Nat} {x3 : Int32} (g1 : z_isI (z_kd S h0) = true ∧ vp_in (x3 + (1 : Int32)) (z_ln S h0)) (g2 : z_isI (z_kd S h0) = true ∧ vp_in (x3 + (2 : Int32)) (z_ln S h0)) (g3 : z_isI (z_kd S h0) = true ∧ vp_in (x3 + (3 : Int32)) (z_ln S h0)) (g4 : z_kd S h1 = 12) (kk : z_wp d i_X11_product [.ref h1, .int (I h0 (Int32.toNatClampNeg (x3 + (1 : Int32)))), .int (I h0 (Int32.toNatClampNeg (x3 + (2 : Int32)))), .int (I h0 (Int32.toNatClampNeg (x3 + (3 : Int32))))] S I J (fun vv SS II JJ => Go d i_law 433 [.ref h0, .ref h1, .ref h2, .int x3] (vv.toList ++ []) SS II JJ Q)) : Go d i_law 414 [.ref h0, .ref h1, .ref h2, .int x3] [] S I J Q := by
  have h := (And.intro g1 (And.intro g2 (And.intro g3 (And.intro g4 kk))))
  exact Go.n tb_law 17 h
theorem b_law_433 {d : Nat} {S : zS} {I : zI} {J : zJ} {Q : zQ} {h0 : Nat} {h1 : Nat} {h2 : Nat} {x3 : Int32} {y0 : Int32} (g1 : z_isI (z_kd S h0) = true ∧ vp_in (x3 + (1 : Int32)) (z_ln S h0)) (g2 : z_isI (z_kd S h0) = true ∧ vp_in (x3 + (2 : Int32)) (z_ln S h0)) (g3 : z_isI (z_kd S h0) = true ∧ vp_in (x3 + (3 : Int32)) (z_ln S h0)) (g4 : z_kd S h2 = 13) (kk : z_wp d i_X12_product [.ref h2, .int (I h0 (Int32.toNatClampNeg (x3 + (1 : Int32)))), .int (I h0 (Int32.toNatClampNeg (x3 + (2 : Int32)))), .int (I h0 (Int32.toNatClampNeg (x3 + (3 : Int32))))] S I J (fun vv SS II JJ => Go d i_law 452 [.ref h0, .ref h1, .ref h2, .int x3] (vv.toList ++ [.int y0]) SS II JJ Q)) : Go d i_law 433 [.ref h0, .ref h1, .ref h2, .int x3] [.int y0] S I J Q := by
  have h := (And.intro g1 (And.intro g2 (And.intro g3 (And.intro g4 kk))))
  exact Go.n tb_law 17 h
theorem b_law_452 {d : Nat} {S : zS} {I : zI} {J : zJ} {Q : zQ} {h0 : Nat} {h1 : Nat} {h2 : Nat} {x3 : Int32} {y0 : Int32} {y1 : Int32} (kt : y0 = y1 → Go d i_law 1035 [.ref h0, .ref h1, .ref h2, .int x3] [] S I J Q) (kf : ¬ y0 = y1 → Go d i_law 455 [.ref h0, .ref h1, .ref h2, .int x3] [] S I J Q) : Go d i_law 452 [.ref h0, .ref h1, .ref h2, .int x3] [.int y1, .int y0] S I J Q := by
  have h := (Go.ite kt kf)
  exact Go.n tb_law 1 h
theorem b_law_455 {d : Nat} {S : zS} {I : zI} {J : zJ} {Q : zQ} {h0 : Nat} {h1 : Nat} {h2 : Nat} {x3 : Int32} (g1 : z_fit 3 (0 : Int32)) (kk : Q (some (.int (0 : Int32))) S I J) : Go d i_law 455 [.ref h0, .ref h1, .ref h2, .int x3] [] S I J Q := by
  have h := (And.intro g1 kk)
  exact Go.n tb_law 2 h
theorem b_law_457 {d : Nat} {S : zS} {I : zI} {J : zJ} {Q : zQ} {h0 : Nat} {h1 : Nat} {h2 : Nat} {x3 : Int32} (g1 : z_isI (z_kd S h0) = true ∧ vp_in (x3 + (1 : Int32)) (z_ln S h0)) (g2 : z_isI (z_kd S h0) = true ∧ vp_in (x3 + (2 : Int32)) (z_ln S h0)) (g3 : z_isI (z_kd S h0) = true ∧ vp_in (x3 + (3 : Int32)) (z_ln S h0)) (g4 : z_kd S h1 = 12) (kk : z_wp d i_X11_element [.ref h1, .int (I h0 (Int32.toNatClampNeg (x3 + (1 : Int32)))), .int (I h0 (Int32.toNatClampNeg (x3 + (2 : Int32)))), .int (I h0 (Int32.toNatClampNeg (x3 + (3 : Int32))))] S I J (fun vv SS II JJ => Go d i_law 476 [.ref h0, .ref h1, .ref h2, .int x3] (vv.toList ++ []) SS II JJ Q)) : Go d i_law 457 [.ref h0, .ref h1, .ref h2, .int x3] [] S I J Q := by
  have h := (And.intro g1 (And.intro g2 (And.intro g3 (And.intro g4 kk))))
  exact Go.n tb_law 17 h
theorem b_law_476 {d : Nat} {S : zS} {I : zI} {J : zJ} {Q : zQ} {h0 : Nat} {h1 : Nat} {h2 : Nat} {x3 : Int32} {y0 : Int32} (g1 : z_isI (z_kd S h0) = true ∧ vp_in (x3 + (1 : Int32)) (z_ln S h0)) (g2 : z_isI (z_kd S h0) = true ∧ vp_in (x3 + (2 : Int32)) (z_ln S h0)) (g3 : z_isI (z_kd S h0) = true ∧ vp_in (x3 + (3 : Int32)) (z_ln S h0)) (g4 : z_kd S h2 = 13) (kk : z_wp d i_X12_element [.ref h2, .int (I h0 (Int32.toNatClampNeg (x3 + (1 : Int32)))), .int (I h0 (Int32.toNatClampNeg (x3 + (2 : Int32)))), .int (I h0 (Int32.toNatClampNeg (x3 + (3 : Int32))))] S I J (fun vv SS II JJ => Go d i_law 495 [.ref h0, .ref h1, .ref h2, .int x3] (vv.toList ++ [.int y0]) SS II JJ Q)) : Go d i_law 476 [.ref h0, .ref h1, .ref h2, .int x3] [.int y0] S I J Q := by
  have h := (And.intro g1 (And.intro g2 (And.intro g3 (And.intro g4 kk))))
  exact Go.n tb_law 17 h
theorem b_law_495 {d : Nat} {S : zS} {I : zI} {J : zJ} {Q : zQ} {h0 : Nat} {h1 : Nat} {h2 : Nat} {x3 : Int32} {y0 : Int32} {y1 : Int32} (kt : y0 = y1 → Go d i_law 1035 [.ref h0, .ref h1, .ref h2, .int x3] [] S I J Q) (kf : ¬ y0 = y1 → Go d i_law 498 [.ref h0, .ref h1, .ref h2, .int x3] [] S I J Q) : Go d i_law 495 [.ref h0, .ref h1, .ref h2, .int x3] [.int y1, .int y0] S I J Q := by
  have h := (Go.ite kt kf)
  exact Go.n tb_law 1 h
theorem b_law_498 {d : Nat} {S : zS} {I : zI} {J : zJ} {Q : zQ} {h0 : Nat} {h1 : Nat} {h2 : Nat} {x3 : Int32} (g1 : z_fit 3 (0 : Int32)) (kk : Q (some (.int (0 : Int32))) S I J) : Go d i_law 498 [.ref h0, .ref h1, .ref h2, .int x3] [] S I J Q := by
  have h := (And.intro g1 kk)
  exact Go.n tb_law 2 h
theorem b_law_500 {d : Nat} {S : zS} {I : zI} {J : zJ} {Q : zQ} {h0 : Nat} {h1 : Nat} {h2 : Nat} {x3 : Int32} (g1 : z_isI (z_kd S h0) = true ∧ vp_in (x3 + (1 : Int32)) (z_ln S h0)) (g2 : z_isI (z_kd S h0) = true ∧ vp_in (x3 + (2 : Int32)) (z_ln S h0)) (g3 : z_kd S h1 = 12) (kk : z_wp d i_X11_classOf [.ref h1, .int (I h0 (Int32.toNatClampNeg (x3 + (1 : Int32)))), .int (I h0 (Int32.toNatClampNeg (x3 + (2 : Int32))))] S I J (fun vv SS II JJ => Go d i_law 514 [.ref h0, .ref h1, .ref h2, .int x3] (vv.toList ++ []) SS II JJ Q)) : Go d i_law 500 [.ref h0, .ref h1, .ref h2, .int x3] [] S I J Q := by
  have h := (And.intro g1 (And.intro g2 (And.intro g3 kk)))
  exact Go.n tb_law 12 h
theorem b_law_514 {d : Nat} {S : zS} {I : zI} {J : zJ} {Q : zQ} {h0 : Nat} {h1 : Nat} {h2 : Nat} {x3 : Int32} {y0 : Int32} (g1 : z_isI (z_kd S h0) = true ∧ vp_in (x3 + (1 : Int32)) (z_ln S h0)) (g2 : z_isI (z_kd S h0) = true ∧ vp_in (x3 + (2 : Int32)) (z_ln S h0)) (g3 : z_kd S h2 = 13) (kk : z_wp d i_X12_classOf [.ref h2, .int (I h0 (Int32.toNatClampNeg (x3 + (1 : Int32)))), .int (I h0 (Int32.toNatClampNeg (x3 + (2 : Int32))))] S I J (fun vv SS II JJ => Go d i_law 528 [.ref h0, .ref h1, .ref h2, .int x3] (vv.toList ++ [.int y0]) SS II JJ Q)) : Go d i_law 514 [.ref h0, .ref h1, .ref h2, .int x3] [.int y0] S I J Q := by
  have h := (And.intro g1 (And.intro g2 (And.intro g3 kk)))
  exact Go.n tb_law 12 h
theorem b_law_528 {d : Nat} {S : zS} {I : zI} {J : zJ} {Q : zQ} {h0 : Nat} {h1 : Nat} {h2 : Nat} {x3 : Int32} {y0 : Int32} {y1 : Int32} (kt : y0 = y1 → Go d i_law 1035 [.ref h0, .ref h1, .ref h2, .int x3] [] S I J Q) (kf : ¬ y0 = y1 → Go d i_law 531 [.ref h0, .ref h1, .ref h2, .int x3] [] S I J Q) : Go d i_law 528 [.ref h0, .ref h1, .ref h2, .int x3] [.int y1, .int y0] S I J Q := by
  have h := (Go.ite kt kf)
  exact Go.n tb_law 1 h
theorem b_law_531 {d : Nat} {S : zS} {I : zI} {J : zJ} {Q : zQ} {h0 : Nat} {h1 : Nat} {h2 : Nat} {x3 : Int32} (g1 : z_fit 3 (0 : Int32)) (kk : Q (some (.int (0 : Int32))) S I J) : Go d i_law 531 [.ref h0, .ref h1, .ref h2, .int x3] [] S I J Q := by
  have h := (And.intro g1 kk)
  exact Go.n tb_law 2 h
theorem b_law_533 {d : Nat} {S : zS} {I : zI} {J : zJ} {Q : zQ} {h0 : Nat} {h1 : Nat} {h2 : Nat} {x3 : Int32} (g1 : z_isI (z_kd S h0) = true ∧ vp_in (x3 + (1 : Int32)) (z_ln S h0)) (g2 : z_isI (z_kd S h0) = true ∧ vp_in (x3 + (2 : Int32)) (z_ln S h0)) (g3 : z_kd S h1 = 12) (kk : z_wp d i_X11_generated [.ref h1, .int (I h0 (Int32.toNatClampNeg (x3 + (1 : Int32)))), .int (I h0 (Int32.toNatClampNeg (x3 + (2 : Int32))))] S I J (fun vv SS II JJ => Go d i_law 547 [.ref h0, .ref h1, .ref h2, .int x3] (vv.toList ++ []) SS II JJ Q)) : Go d i_law 533 [.ref h0, .ref h1, .ref h2, .int x3] [] S I J Q := by
  have h := (And.intro g1 (And.intro g2 (And.intro g3 kk)))
  exact Go.n tb_law 12 h
theorem b_law_547 {d : Nat} {S : zS} {I : zI} {J : zJ} {Q : zQ} {h0 : Nat} {h1 : Nat} {h2 : Nat} {x3 : Int32} {y0 : Int32} (g1 : z_isI (z_kd S h0) = true ∧ vp_in (x3 + (1 : Int32)) (z_ln S h0)) (g2 : z_isI (z_kd S h0) = true ∧ vp_in (x3 + (2 : Int32)) (z_ln S h0)) (g3 : z_kd S h2 = 13) (kk : z_wp d i_X12_generated [.ref h2, .int (I h0 (Int32.toNatClampNeg (x3 + (1 : Int32)))), .int (I h0 (Int32.toNatClampNeg (x3 + (2 : Int32))))] S I J (fun vv SS II JJ => Go d i_law 561 [.ref h0, .ref h1, .ref h2, .int x3] (vv.toList ++ [.int y0]) SS II JJ Q)) : Go d i_law 547 [.ref h0, .ref h1, .ref h2, .int x3] [.int y0] S I J Q := by
  have h := (And.intro g1 (And.intro g2 (And.intro g3 kk)))
  exact Go.n tb_law 12 h
theorem b_law_561 {d : Nat} {S : zS} {I : zI} {J : zJ} {Q : zQ} {h0 : Nat} {h1 : Nat} {h2 : Nat} {x3 : Int32} {y0 : Int32} {y1 : Int32} (kt : y0 = y1 → Go d i_law 1035 [.ref h0, .ref h1, .ref h2, .int x3] [] S I J Q) (kf : ¬ y0 = y1 → Go d i_law 564 [.ref h0, .ref h1, .ref h2, .int x3] [] S I J Q) : Go d i_law 561 [.ref h0, .ref h1, .ref h2, .int x3] [.int y1, .int y0] S I J Q := by
  have h := (Go.ite kt kf)
  exact Go.n tb_law 1 h
theorem b_law_564 {d : Nat} {S : zS} {I : zI} {J : zJ} {Q : zQ} {h0 : Nat} {h1 : Nat} {h2 : Nat} {x3 : Int32} (g1 : z_fit 3 (0 : Int32)) (kk : Q (some (.int (0 : Int32))) S I J) : Go d i_law 564 [.ref h0, .ref h1, .ref h2, .int x3] [] S I J Q := by
  have h := (And.intro g1 kk)
  exact Go.n tb_law 2 h
theorem b_law_566 {d : Nat} {S : zS} {I : zI} {J : zJ} {Q : zQ} {h0 : Nat} {h1 : Nat} {h2 : Nat} {x3 : Int32} (g1 : z_isI (z_kd S h0) = true ∧ vp_in (x3 + (1 : Int32)) (z_ln S h0)) (g2 : z_isI (z_kd S h0) = true ∧ vp_in (x3 + (2 : Int32)) (z_ln S h0)) (g3 : z_kd S h1 = 12) (kk : z_wp d i_X11_subgroup [.ref h1, .int (I h0 (Int32.toNatClampNeg (x3 + (1 : Int32)))), .int (I h0 (Int32.toNatClampNeg (x3 + (2 : Int32))))] S I J (fun vv SS II JJ => Go d i_law 580 [.ref h0, .ref h1, .ref h2, .int x3] (vv.toList ++ []) SS II JJ Q)) : Go d i_law 566 [.ref h0, .ref h1, .ref h2, .int x3] [] S I J Q := by
  have h := (And.intro g1 (And.intro g2 (And.intro g3 kk)))
  exact Go.n tb_law 12 h
theorem b_law_580 {d : Nat} {S : zS} {I : zI} {J : zJ} {Q : zQ} {h0 : Nat} {h1 : Nat} {h2 : Nat} {x3 : Int32} {y0 : Int32} (g1 : z_isI (z_kd S h0) = true ∧ vp_in (x3 + (1 : Int32)) (z_ln S h0)) (g2 : z_isI (z_kd S h0) = true ∧ vp_in (x3 + (2 : Int32)) (z_ln S h0)) (g3 : z_kd S h2 = 13) (kk : z_wp d i_X12_subgroup [.ref h2, .int (I h0 (Int32.toNatClampNeg (x3 + (1 : Int32)))), .int (I h0 (Int32.toNatClampNeg (x3 + (2 : Int32))))] S I J (fun vv SS II JJ => Go d i_law 594 [.ref h0, .ref h1, .ref h2, .int x3] (vv.toList ++ [.int y0]) SS II JJ Q)) : Go d i_law 580 [.ref h0, .ref h1, .ref h2, .int x3] [.int y0] S I J Q := by
  have h := (And.intro g1 (And.intro g2 (And.intro g3 kk)))
  exact Go.n tb_law 12 h
theorem b_law_594 {d : Nat} {S : zS} {I : zI} {J : zJ} {Q : zQ} {h0 : Nat} {h1 : Nat} {h2 : Nat} {x3 : Int32} {y0 : Int32} {y1 : Int32} (kt : y0 = y1 → Go d i_law 1035 [.ref h0, .ref h1, .ref h2, .int x3] [] S I J Q) (kf : ¬ y0 = y1 → Go d i_law 597 [.ref h0, .ref h1, .ref h2, .int x3] [] S I J Q) : Go d i_law 594 [.ref h0, .ref h1, .ref h2, .int x3] [.int y1, .int y0] S I J Q := by
  have h := (Go.ite kt kf)
  exact Go.n tb_law 1 h
theorem b_law_597 {d : Nat} {S : zS} {I : zI} {J : zJ} {Q : zQ} {h0 : Nat} {h1 : Nat} {h2 : Nat} {x3 : Int32} (g1 : z_fit 3 (0 : Int32)) (kk : Q (some (.int (0 : Int32))) S I J) : Go d i_law 597 [.ref h0, .ref h1, .ref h2, .int x3] [] S I J Q := by
  have h := (And.intro g1 kk)
  exact Go.n tb_law 2 h
theorem b_law_599 {d : Nat} {S : zS} {I : zI} {J : zJ} {Q : zQ} {h0 : Nat} {h1 : Nat} {h2 : Nat} {x3 : Int32} (g1 : z_isI (z_kd S h0) = true ∧ vp_in (x3 + (1 : Int32)) (z_ln S h0)) (g2 : z_isI (z_kd S h0) = true ∧ vp_in (x3 + (2 : Int32)) (z_ln S h0)) (g3 : z_kd S h1 = 12) (kk : z_wp d i_X11_kind [.ref h1, .int (I h0 (Int32.toNatClampNeg (x3 + (1 : Int32)))), .int (I h0 (Int32.toNatClampNeg (x3 + (2 : Int32))))] S I J (fun vv SS II JJ => Go d i_law 613 [.ref h0, .ref h1, .ref h2, .int x3] (vv.toList ++ []) SS II JJ Q)) : Go d i_law 599 [.ref h0, .ref h1, .ref h2, .int x3] [] S I J Q := by
  have h := (And.intro g1 (And.intro g2 (And.intro g3 kk)))
  exact Go.n tb_law 12 h
theorem b_law_613 {d : Nat} {S : zS} {I : zI} {J : zJ} {Q : zQ} {h0 : Nat} {h1 : Nat} {h2 : Nat} {x3 : Int32} {y0 : Int32} (g1 : z_isI (z_kd S h0) = true ∧ vp_in (x3 + (1 : Int32)) (z_ln S h0)) (g2 : z_isI (z_kd S h0) = true ∧ vp_in (x3 + (2 : Int32)) (z_ln S h0)) (g3 : z_kd S h2 = 13) (kk : z_wp d i_X12_kind [.ref h2, .int (I h0 (Int32.toNatClampNeg (x3 + (1 : Int32)))), .int (I h0 (Int32.toNatClampNeg (x3 + (2 : Int32))))] S I J (fun vv SS II JJ => Go d i_law 627 [.ref h0, .ref h1, .ref h2, .int x3] (vv.toList ++ [.int y0]) SS II JJ Q)) : Go d i_law 613 [.ref h0, .ref h1, .ref h2, .int x3] [.int y0] S I J Q := by
  have h := (And.intro g1 (And.intro g2 (And.intro g3 kk)))
  exact Go.n tb_law 12 h
theorem b_law_627 {d : Nat} {S : zS} {I : zI} {J : zJ} {Q : zQ} {h0 : Nat} {h1 : Nat} {h2 : Nat} {x3 : Int32} {y0 : Int32} {y1 : Int32} (kt : y0 = y1 → Go d i_law 1035 [.ref h0, .ref h1, .ref h2, .int x3] [] S I J Q) (kf : ¬ y0 = y1 → Go d i_law 630 [.ref h0, .ref h1, .ref h2, .int x3] [] S I J Q) : Go d i_law 627 [.ref h0, .ref h1, .ref h2, .int x3] [.int y1, .int y0] S I J Q := by
  have h := (Go.ite kt kf)
  exact Go.n tb_law 1 h
theorem b_law_630 {d : Nat} {S : zS} {I : zI} {J : zJ} {Q : zQ} {h0 : Nat} {h1 : Nat} {h2 : Nat} {x3 : Int32} (g1 : z_fit 3 (0 : Int32)) (kk : Q (some (.int (0 : Int32))) S I J) : Go d i_law 630 [.ref h0, .ref h1, .ref h2, .int x3] [] S I J Q := by
  have h := (And.intro g1 kk)
  exact Go.n tb_law 2 h
theorem b_law_632 {d : Nat} {S : zS} {I : zI} {J : zJ} {Q : zQ} {h0 : Nat} {h1 : Nat} {h2 : Nat} {x3 : Int32} (g1 : z_isI (z_kd S h0) = true ∧ vp_in (x3 + (1 : Int32)) (z_ln S h0)) (g2 : z_kd S h1 = 12) (kk : z_wp d i_X11_maps [.ref h1, .int (I h0 (Int32.toNatClampNeg (x3 + (1 : Int32))))] S I J (fun vv SS II JJ => Go d i_law 641 [.ref h0, .ref h1, .ref h2, .int x3] (vv.toList ++ []) SS II JJ Q)) : Go d i_law 632 [.ref h0, .ref h1, .ref h2, .int x3] [] S I J Q := by
  have h := (And.intro g1 (And.intro g2 kk))
  exact Go.n tb_law 7 h
theorem b_law_641 {d : Nat} {S : zS} {I : zI} {J : zJ} {Q : zQ} {h0 : Nat} {h1 : Nat} {h2 : Nat} {x3 : Int32} {y0 : Int32} (g1 : z_isI (z_kd S h0) = true ∧ vp_in (x3 + (1 : Int32)) (z_ln S h0)) (g2 : z_kd S h2 = 13) (kk : z_wp d i_X12_maps [.ref h2, .int (I h0 (Int32.toNatClampNeg (x3 + (1 : Int32))))] S I J (fun vv SS II JJ => Go d i_law 650 [.ref h0, .ref h1, .ref h2, .int x3] (vv.toList ++ [.int y0]) SS II JJ Q)) : Go d i_law 641 [.ref h0, .ref h1, .ref h2, .int x3] [.int y0] S I J Q := by
  have h := (And.intro g1 (And.intro g2 kk))
  exact Go.n tb_law 7 h
theorem b_law_650 {d : Nat} {S : zS} {I : zI} {J : zJ} {Q : zQ} {h0 : Nat} {h1 : Nat} {h2 : Nat} {x3 : Int32} {y0 : Int32} {y1 : Int32} (kt : y0 = y1 → Go d i_law 1035 [.ref h0, .ref h1, .ref h2, .int x3] [] S I J Q) (kf : ¬ y0 = y1 → Go d i_law 653 [.ref h0, .ref h1, .ref h2, .int x3] [] S I J Q) : Go d i_law 650 [.ref h0, .ref h1, .ref h2, .int x3] [.int y1, .int y0] S I J Q := by
  have h := (Go.ite kt kf)
  exact Go.n tb_law 1 h
theorem b_law_653 {d : Nat} {S : zS} {I : zI} {J : zJ} {Q : zQ} {h0 : Nat} {h1 : Nat} {h2 : Nat} {x3 : Int32} (g1 : z_fit 3 (0 : Int32)) (kk : Q (some (.int (0 : Int32))) S I J) : Go d i_law 653 [.ref h0, .ref h1, .ref h2, .int x3] [] S I J Q := by
  have h := (And.intro g1 kk)
  exact Go.n tb_law 2 h
theorem b_law_655 {d : Nat} {S : zS} {I : zI} {J : zJ} {Q : zQ} {h0 : Nat} {h1 : Nat} {h2 : Nat} {x3 : Int32} (g1 : z_isI (z_kd S h0) = true ∧ vp_in (x3 + (1 : Int32)) (z_ln S h0)) (g2 : z_kd S h1 = 12) (kk : z_wp d i_X11_mapped [.ref h1, .int (I h0 (Int32.toNatClampNeg (x3 + (1 : Int32))))] S I J (fun vv SS II JJ => Go d i_law 664 [.ref h0, .ref h1, .ref h2, .int x3] (vv.toList ++ []) SS II JJ Q)) : Go d i_law 655 [.ref h0, .ref h1, .ref h2, .int x3] [] S I J Q := by
  have h := (And.intro g1 (And.intro g2 kk))
  exact Go.n tb_law 7 h
theorem b_law_664 {d : Nat} {S : zS} {I : zI} {J : zJ} {Q : zQ} {h0 : Nat} {h1 : Nat} {h2 : Nat} {x3 : Int32} {y0 : Int32} (g1 : z_isI (z_kd S h0) = true ∧ vp_in (x3 + (1 : Int32)) (z_ln S h0)) (g2 : z_kd S h2 = 13) (kk : z_wp d i_X12_mapped [.ref h2, .int (I h0 (Int32.toNatClampNeg (x3 + (1 : Int32))))] S I J (fun vv SS II JJ => Go d i_law 673 [.ref h0, .ref h1, .ref h2, .int x3] (vv.toList ++ [.int y0]) SS II JJ Q)) : Go d i_law 664 [.ref h0, .ref h1, .ref h2, .int x3] [.int y0] S I J Q := by
  have h := (And.intro g1 (And.intro g2 kk))
  exact Go.n tb_law 7 h
theorem b_law_673 {d : Nat} {S : zS} {I : zI} {J : zJ} {Q : zQ} {h0 : Nat} {h1 : Nat} {h2 : Nat} {x3 : Int32} {y0 : Int32} {y1 : Int32} (kt : y0 = y1 → Go d i_law 1035 [.ref h0, .ref h1, .ref h2, .int x3] [] S I J Q) (kf : ¬ y0 = y1 → Go d i_law 676 [.ref h0, .ref h1, .ref h2, .int x3] [] S I J Q) : Go d i_law 673 [.ref h0, .ref h1, .ref h2, .int x3] [.int y1, .int y0] S I J Q := by
  have h := (Go.ite kt kf)
  exact Go.n tb_law 1 h
theorem b_law_676 {d : Nat} {S : zS} {I : zI} {J : zJ} {Q : zQ} {h0 : Nat} {h1 : Nat} {h2 : Nat} {x3 : Int32} (g1 : z_fit 3 (0 : Int32)) (kk : Q (some (.int (0 : Int32))) S I J) : Go d i_law 676 [.ref h0, .ref h1, .ref h2, .int x3] [] S I J Q := by
  have h := (And.intro g1 kk)
  exact Go.n tb_law 2 h
theorem b_law_678 {d : Nat} {S : zS} {I : zI} {J : zJ} {Q : zQ} {h0 : Nat} {h1 : Nat} {h2 : Nat} {x3 : Int32} (g1 : z_isI (z_kd S h0) = true ∧ vp_in (x3 + (1 : Int32)) (z_ln S h0)) (g2 : z_isI (z_kd S h0) = true ∧ vp_in (x3 + (2 : Int32)) (z_ln S h0)) (g3 : z_isI (z_kd S h0) = true ∧ vp_in (x3 + (3 : Int32)) (z_ln S h0)) (g4 : z_kd S h1 = 12) (kk : z_wp d i_X11_far [.ref h1, .int (I h0 (Int32.toNatClampNeg (x3 + (1 : Int32)))), .int (I h0 (Int32.toNatClampNeg (x3 + (2 : Int32)))), .int (I h0 (Int32.toNatClampNeg (x3 + (3 : Int32))))] S I J (fun vv SS II JJ => Go d i_law 697 [.ref h0, .ref h1, .ref h2, .int x3] (vv.toList ++ []) SS II JJ Q)) : Go d i_law 678 [.ref h0, .ref h1, .ref h2, .int x3] [] S I J Q := by
  have h := (And.intro g1 (And.intro g2 (And.intro g3 (And.intro g4 kk))))
  exact Go.n tb_law 17 h
theorem b_law_697 {d : Nat} {S : zS} {I : zI} {J : zJ} {Q : zQ} {h0 : Nat} {h1 : Nat} {h2 : Nat} {x3 : Int32} {y0 : Int32} (g1 : z_isI (z_kd S h0) = true ∧ vp_in (x3 + (1 : Int32)) (z_ln S h0)) (g2 : z_isI (z_kd S h0) = true ∧ vp_in (x3 + (2 : Int32)) (z_ln S h0)) (g3 : z_isI (z_kd S h0) = true ∧ vp_in (x3 + (3 : Int32)) (z_ln S h0)) (g4 : z_kd S h2 = 13) (kk : z_wp d i_X12_far [.ref h2, .int (I h0 (Int32.toNatClampNeg (x3 + (1 : Int32)))), .int (I h0 (Int32.toNatClampNeg (x3 + (2 : Int32)))), .int (I h0 (Int32.toNatClampNeg (x3 + (3 : Int32))))] S I J (fun vv SS II JJ => Go d i_law 716 [.ref h0, .ref h1, .ref h2, .int x3] (vv.toList ++ [.int y0]) SS II JJ Q)) : Go d i_law 697 [.ref h0, .ref h1, .ref h2, .int x3] [.int y0] S I J Q := by
  have h := (And.intro g1 (And.intro g2 (And.intro g3 (And.intro g4 kk))))
  exact Go.n tb_law 17 h
theorem b_law_716 {d : Nat} {S : zS} {I : zI} {J : zJ} {Q : zQ} {h0 : Nat} {h1 : Nat} {h2 : Nat} {x3 : Int32} {y0 : Int32} {y1 : Int32} (kt : y0 = y1 → Go d i_law 1035 [.ref h0, .ref h1, .ref h2, .int x3] [] S I J Q) (kf : ¬ y0 = y1 → Go d i_law 719 [.ref h0, .ref h1, .ref h2, .int x3] [] S I J Q) : Go d i_law 716 [.ref h0, .ref h1, .ref h2, .int x3] [.int y1, .int y0] S I J Q := by
  have h := (Go.ite kt kf)
  exact Go.n tb_law 1 h
theorem b_law_719 {d : Nat} {S : zS} {I : zI} {J : zJ} {Q : zQ} {h0 : Nat} {h1 : Nat} {h2 : Nat} {x3 : Int32} (g1 : z_fit 3 (0 : Int32)) (kk : Q (some (.int (0 : Int32))) S I J) : Go d i_law 719 [.ref h0, .ref h1, .ref h2, .int x3] [] S I J Q := by
  have h := (And.intro g1 kk)
  exact Go.n tb_law 2 h
theorem b_law_721 {d : Nat} {S : zS} {I : zI} {J : zJ} {Q : zQ} {h0 : Nat} {h1 : Nat} {h2 : Nat} {x3 : Int32} (g1 : z_isI (z_kd S h0) = true ∧ vp_in (x3 + (1 : Int32)) (z_ln S h0)) (g2 : z_isI (z_kd S h0) = true ∧ vp_in (x3 + (2 : Int32)) (z_ln S h0)) (g3 : z_kd S h1 = 12) (kk : z_wp d i_X11_sphere [.ref h1, .int (I h0 (Int32.toNatClampNeg (x3 + (1 : Int32)))), .int (I h0 (Int32.toNatClampNeg (x3 + (2 : Int32))))] S I J (fun vv SS II JJ => Go d i_law 735 [.ref h0, .ref h1, .ref h2, .int x3] (vv.toList ++ []) SS II JJ Q)) : Go d i_law 721 [.ref h0, .ref h1, .ref h2, .int x3] [] S I J Q := by
  have h := (And.intro g1 (And.intro g2 (And.intro g3 kk)))
  exact Go.n tb_law 12 h
theorem b_law_735 {d : Nat} {S : zS} {I : zI} {J : zJ} {Q : zQ} {h0 : Nat} {h1 : Nat} {h2 : Nat} {x3 : Int32} {y0 : Int32} (g1 : z_isI (z_kd S h0) = true ∧ vp_in (x3 + (1 : Int32)) (z_ln S h0)) (g2 : z_isI (z_kd S h0) = true ∧ vp_in (x3 + (2 : Int32)) (z_ln S h0)) (g3 : z_kd S h2 = 13) (kk : z_wp d i_X12_sphere [.ref h2, .int (I h0 (Int32.toNatClampNeg (x3 + (1 : Int32)))), .int (I h0 (Int32.toNatClampNeg (x3 + (2 : Int32))))] S I J (fun vv SS II JJ => Go d i_law 749 [.ref h0, .ref h1, .ref h2, .int x3] (vv.toList ++ [.int y0]) SS II JJ Q)) : Go d i_law 735 [.ref h0, .ref h1, .ref h2, .int x3] [.int y0] S I J Q := by
  have h := (And.intro g1 (And.intro g2 (And.intro g3 kk)))
  exact Go.n tb_law 12 h
theorem b_law_749 {d : Nat} {S : zS} {I : zI} {J : zJ} {Q : zQ} {h0 : Nat} {h1 : Nat} {h2 : Nat} {x3 : Int32} {y0 : Int32} {y1 : Int32} (kt : y0 = y1 → Go d i_law 1035 [.ref h0, .ref h1, .ref h2, .int x3] [] S I J Q) (kf : ¬ y0 = y1 → Go d i_law 752 [.ref h0, .ref h1, .ref h2, .int x3] [] S I J Q) : Go d i_law 749 [.ref h0, .ref h1, .ref h2, .int x3] [.int y1, .int y0] S I J Q := by
  have h := (Go.ite kt kf)
  exact Go.n tb_law 1 h
theorem b_law_752 {d : Nat} {S : zS} {I : zI} {J : zJ} {Q : zQ} {h0 : Nat} {h1 : Nat} {h2 : Nat} {x3 : Int32} (g1 : z_fit 3 (0 : Int32)) (kk : Q (some (.int (0 : Int32))) S I J) : Go d i_law 752 [.ref h0, .ref h1, .ref h2, .int x3] [] S I J Q := by
  have h := (And.intro g1 kk)
  exact Go.n tb_law 2 h
theorem b_law_754 {d : Nat} {S : zS} {I : zI} {J : zJ} {Q : zQ} {h0 : Nat} {h1 : Nat} {h2 : Nat} {x3 : Int32} (g1 : z_isI (z_kd S h0) = true ∧ vp_in (x3 + (1 : Int32)) (z_ln S h0)) (g2 : z_isI (z_kd S h0) = true ∧ vp_in (x3 + (2 : Int32)) (z_ln S h0)) (g3 : z_isI (z_kd S h0) = true ∧ vp_in (x3 + (3 : Int32)) (z_ln S h0)) (g4 : z_kd S h1 = 12) (kk : z_wp d i_X11_way [.ref h1, .int (I h0 (Int32.toNatClampNeg (x3 + (1 : Int32)))), .int (I h0 (Int32.toNatClampNeg (x3 + (2 : Int32)))), .int (I h0 (Int32.toNatClampNeg (x3 + (3 : Int32))))] S I J (fun vv SS II JJ => Go d i_law 773 [.ref h0, .ref h1, .ref h2, .int x3] (vv.toList ++ []) SS II JJ Q)) : Go d i_law 754 [.ref h0, .ref h1, .ref h2, .int x3] [] S I J Q := by
  have h := (And.intro g1 (And.intro g2 (And.intro g3 (And.intro g4 kk))))
  exact Go.n tb_law 17 h
theorem b_law_773 {d : Nat} {S : zS} {I : zI} {J : zJ} {Q : zQ} {h0 : Nat} {h1 : Nat} {h2 : Nat} {x3 : Int32} {y0 : Int32} (g1 : z_isI (z_kd S h0) = true ∧ vp_in (x3 + (1 : Int32)) (z_ln S h0)) (g2 : z_isI (z_kd S h0) = true ∧ vp_in (x3 + (2 : Int32)) (z_ln S h0)) (g3 : z_isI (z_kd S h0) = true ∧ vp_in (x3 + (3 : Int32)) (z_ln S h0)) (g4 : z_kd S h2 = 13) (kk : z_wp d i_X12_way [.ref h2, .int (I h0 (Int32.toNatClampNeg (x3 + (1 : Int32)))), .int (I h0 (Int32.toNatClampNeg (x3 + (2 : Int32)))), .int (I h0 (Int32.toNatClampNeg (x3 + (3 : Int32))))] S I J (fun vv SS II JJ => Go d i_law 792 [.ref h0, .ref h1, .ref h2, .int x3] (vv.toList ++ [.int y0]) SS II JJ Q)) : Go d i_law 773 [.ref h0, .ref h1, .ref h2, .int x3] [.int y0] S I J Q := by
  have h := (And.intro g1 (And.intro g2 (And.intro g3 (And.intro g4 kk))))
  exact Go.n tb_law 17 h
theorem b_law_792 {d : Nat} {S : zS} {I : zI} {J : zJ} {Q : zQ} {h0 : Nat} {h1 : Nat} {h2 : Nat} {x3 : Int32} {y0 : Int32} {y1 : Int32} (kt : y0 = y1 → Go d i_law 1035 [.ref h0, .ref h1, .ref h2, .int x3] [] S I J Q) (kf : ¬ y0 = y1 → Go d i_law 795 [.ref h0, .ref h1, .ref h2, .int x3] [] S I J Q) : Go d i_law 792 [.ref h0, .ref h1, .ref h2, .int x3] [.int y1, .int y0] S I J Q := by
  have h := (Go.ite kt kf)
  exact Go.n tb_law 1 h
theorem b_law_795 {d : Nat} {S : zS} {I : zI} {J : zJ} {Q : zQ} {h0 : Nat} {h1 : Nat} {h2 : Nat} {x3 : Int32} (g1 : z_fit 3 (0 : Int32)) (kk : Q (some (.int (0 : Int32))) S I J) : Go d i_law 795 [.ref h0, .ref h1, .ref h2, .int x3] [] S I J Q := by
  have h := (And.intro g1 kk)
  exact Go.n tb_law 2 h
theorem b_law_797 {d : Nat} {S : zS} {I : zI} {J : zJ} {Q : zQ} {h0 : Nat} {h1 : Nat} {h2 : Nat} {x3 : Int32} (g1 : z_isI (z_kd S h0) = true ∧ vp_in (x3 + (1 : Int32)) (z_ln S h0)) (g2 : z_kd S h1 = 12) (kk : z_wp d i_X11_ring [.ref h1, .int (I h0 (Int32.toNatClampNeg (x3 + (1 : Int32))))] S I J (fun vv SS II JJ => Go d i_law 806 [.ref h0, .ref h1, .ref h2, .int x3] (vv.toList ++ []) SS II JJ Q)) : Go d i_law 797 [.ref h0, .ref h1, .ref h2, .int x3] [] S I J Q := by
  have h := (And.intro g1 (And.intro g2 kk))
  exact Go.n tb_law 7 h
theorem b_law_806 {d : Nat} {S : zS} {I : zI} {J : zJ} {Q : zQ} {h0 : Nat} {h1 : Nat} {h2 : Nat} {x3 : Int32} {y0 : Int32} (g1 : z_isI (z_kd S h0) = true ∧ vp_in (x3 + (1 : Int32)) (z_ln S h0)) (g2 : z_kd S h2 = 13) (kk : z_wp d i_X12_ring [.ref h2, .int (I h0 (Int32.toNatClampNeg (x3 + (1 : Int32))))] S I J (fun vv SS II JJ => Go d i_law 815 [.ref h0, .ref h1, .ref h2, .int x3] (vv.toList ++ [.int y0]) SS II JJ Q)) : Go d i_law 806 [.ref h0, .ref h1, .ref h2, .int x3] [.int y0] S I J Q := by
  have h := (And.intro g1 (And.intro g2 kk))
  exact Go.n tb_law 7 h
theorem b_law_815 {d : Nat} {S : zS} {I : zI} {J : zJ} {Q : zQ} {h0 : Nat} {h1 : Nat} {h2 : Nat} {x3 : Int32} {y0 : Int32} {y1 : Int32} (kt : y0 = y1 → Go d i_law 1035 [.ref h0, .ref h1, .ref h2, .int x3] [] S I J Q) (kf : ¬ y0 = y1 → Go d i_law 818 [.ref h0, .ref h1, .ref h2, .int x3] [] S I J Q) : Go d i_law 815 [.ref h0, .ref h1, .ref h2, .int x3] [.int y1, .int y0] S I J Q := by
  have h := (Go.ite kt kf)
  exact Go.n tb_law 1 h
theorem b_law_818 {d : Nat} {S : zS} {I : zI} {J : zJ} {Q : zQ} {h0 : Nat} {h1 : Nat} {h2 : Nat} {x3 : Int32} (g1 : z_fit 3 (0 : Int32)) (kk : Q (some (.int (0 : Int32))) S I J) : Go d i_law 818 [.ref h0, .ref h1, .ref h2, .int x3] [] S I J Q := by
  have h := (And.intro g1 kk)
  exact Go.n tb_law 2 h
theorem b_law_820 {d : Nat} {S : zS} {I : zI} {J : zJ} {Q : zQ} {h0 : Nat} {h1 : Nat} {h2 : Nat} {x3 : Int32} (g1 : z_isI (z_kd S h0) = true ∧ vp_in (x3 + (1 : Int32)) (z_ln S h0)) (g2 : z_kd S h1 = 12) (kk : z_wp d i_X11_parts [.ref h1, .int (I h0 (Int32.toNatClampNeg (x3 + (1 : Int32))))] S I J (fun vv SS II JJ => Go d i_law 829 [.ref h0, .ref h1, .ref h2, .int x3] (vv.toList ++ []) SS II JJ Q)) : Go d i_law 820 [.ref h0, .ref h1, .ref h2, .int x3] [] S I J Q := by
  have h := (And.intro g1 (And.intro g2 kk))
  exact Go.n tb_law 7 h
theorem b_law_829 {d : Nat} {S : zS} {I : zI} {J : zJ} {Q : zQ} {h0 : Nat} {h1 : Nat} {h2 : Nat} {x3 : Int32} {y0 : Int32} (g1 : z_isI (z_kd S h0) = true ∧ vp_in (x3 + (1 : Int32)) (z_ln S h0)) (g2 : z_kd S h2 = 13) (kk : z_wp d i_X12_parts [.ref h2, .int (I h0 (Int32.toNatClampNeg (x3 + (1 : Int32))))] S I J (fun vv SS II JJ => Go d i_law 838 [.ref h0, .ref h1, .ref h2, .int x3] (vv.toList ++ [.int y0]) SS II JJ Q)) : Go d i_law 829 [.ref h0, .ref h1, .ref h2, .int x3] [.int y0] S I J Q := by
  have h := (And.intro g1 (And.intro g2 kk))
  exact Go.n tb_law 7 h
theorem b_law_838 {d : Nat} {S : zS} {I : zI} {J : zJ} {Q : zQ} {h0 : Nat} {h1 : Nat} {h2 : Nat} {x3 : Int32} {y0 : Int32} {y1 : Int32} (kt : y0 = y1 → Go d i_law 1035 [.ref h0, .ref h1, .ref h2, .int x3] [] S I J Q) (kf : ¬ y0 = y1 → Go d i_law 841 [.ref h0, .ref h1, .ref h2, .int x3] [] S I J Q) : Go d i_law 838 [.ref h0, .ref h1, .ref h2, .int x3] [.int y1, .int y0] S I J Q := by
  have h := (Go.ite kt kf)
  exact Go.n tb_law 1 h
theorem b_law_841 {d : Nat} {S : zS} {I : zI} {J : zJ} {Q : zQ} {h0 : Nat} {h1 : Nat} {h2 : Nat} {x3 : Int32} (g1 : z_fit 3 (0 : Int32)) (kk : Q (some (.int (0 : Int32))) S I J) : Go d i_law 841 [.ref h0, .ref h1, .ref h2, .int x3] [] S I J Q := by
  have h := (And.intro g1 kk)
  exact Go.n tb_law 2 h
theorem b_law_843 {d : Nat} {S : zS} {I : zI} {J : zJ} {Q : zQ} {h0 : Nat} {h1 : Nat} {h2 : Nat} {x3 : Int32} (g1 : z_isI (z_kd S h0) = true ∧ vp_in (x3 + (1 : Int32)) (z_ln S h0)) (g2 : z_kd S h1 = 12) (kk : z_wp d i_X11_symmetries [.ref h1, .int (I h0 (Int32.toNatClampNeg (x3 + (1 : Int32))))] S I J (fun vv SS II JJ => Go d i_law 852 [.ref h0, .ref h1, .ref h2, .int x3] (vv.toList ++ []) SS II JJ Q)) : Go d i_law 843 [.ref h0, .ref h1, .ref h2, .int x3] [] S I J Q := by
  have h := (And.intro g1 (And.intro g2 kk))
  exact Go.n tb_law 7 h
theorem b_law_852 {d : Nat} {S : zS} {I : zI} {J : zJ} {Q : zQ} {h0 : Nat} {h1 : Nat} {h2 : Nat} {x3 : Int32} {w0 : Int64} (g1 : z_isI (z_kd S h0) = true ∧ vp_in (x3 + (1 : Int32)) (z_ln S h0)) (g2 : z_kd S h2 = 13) (kk : z_wp d i_X12_symmetries [.ref h2, .int (I h0 (Int32.toNatClampNeg (x3 + (1 : Int32))))] S I J (fun vv SS II JJ => Go d i_law 861 [.ref h0, .ref h1, .ref h2, .int x3] (vv.toList ++ [.long w0]) SS II JJ Q)) : Go d i_law 852 [.ref h0, .ref h1, .ref h2, .int x3] [.long w0] S I J Q := by
  have h := (And.intro g1 (And.intro g2 kk))
  exact Go.n tb_law 7 h
theorem b_law_861 {d : Nat} {S : zS} {I : zI} {J : zJ} {Q : zQ} {h0 : Nat} {h1 : Nat} {h2 : Nat} {x3 : Int32} {w0 : Int64} {w1 : Int64} (kt : (lg_cmp w0 w1) = (0 : Int32) → Go d i_law 1035 [.ref h0, .ref h1, .ref h2, .int x3] [] S I J Q) (kf : ¬ (lg_cmp w0 w1) = (0 : Int32) → Go d i_law 865 [.ref h0, .ref h1, .ref h2, .int x3] [] S I J Q) : Go d i_law 861 [.ref h0, .ref h1, .ref h2, .int x3] [.long w1, .long w0] S I J Q := by
  have h := (Go.ite kt kf)
  exact Go.n tb_law 2 h
theorem b_law_865 {d : Nat} {S : zS} {I : zI} {J : zJ} {Q : zQ} {h0 : Nat} {h1 : Nat} {h2 : Nat} {x3 : Int32} (g1 : z_fit 3 (0 : Int32)) (kk : Q (some (.int (0 : Int32))) S I J) : Go d i_law 865 [.ref h0, .ref h1, .ref h2, .int x3] [] S I J Q := by
  have h := (And.intro g1 kk)
  exact Go.n tb_law 2 h
theorem b_law_867 {d : Nat} {S : zS} {I : zI} {J : zJ} {Q : zQ} {h0 : Nat} {h1 : Nat} {h2 : Nat} {x3 : Int32} (g1 : z_isI (z_kd S h0) = true ∧ vp_in (x3 + (1 : Int32)) (z_ln S h0)) (g2 : z_isI (z_kd S h0) = true ∧ vp_in (x3 + (2 : Int32)) (z_ln S h0)) (g3 : z_kd S h1 = 12) (kk : z_wp d i_X11_alikeTo [.ref h1, .int (I h0 (Int32.toNatClampNeg (x3 + (1 : Int32)))), .int (I h0 (Int32.toNatClampNeg (x3 + (2 : Int32))))] S I J (fun vv SS II JJ => Go d i_law 881 [.ref h0, .ref h1, .ref h2, .int x3] (vv.toList ++ []) SS II JJ Q)) : Go d i_law 867 [.ref h0, .ref h1, .ref h2, .int x3] [] S I J Q := by
  have h := (And.intro g1 (And.intro g2 (And.intro g3 kk)))
  exact Go.n tb_law 12 h
theorem b_law_881 {d : Nat} {S : zS} {I : zI} {J : zJ} {Q : zQ} {h0 : Nat} {h1 : Nat} {h2 : Nat} {x3 : Int32} {y0 : Int32} (g1 : z_isI (z_kd S h0) = true ∧ vp_in (x3 + (1 : Int32)) (z_ln S h0)) (g2 : z_isI (z_kd S h0) = true ∧ vp_in (x3 + (2 : Int32)) (z_ln S h0)) (g3 : z_kd S h2 = 13) (kk : z_wp d i_X12_alikeTo [.ref h2, .int (I h0 (Int32.toNatClampNeg (x3 + (1 : Int32)))), .int (I h0 (Int32.toNatClampNeg (x3 + (2 : Int32))))] S I J (fun vv SS II JJ => Go d i_law 895 [.ref h0, .ref h1, .ref h2, .int x3] (vv.toList ++ [.int y0]) SS II JJ Q)) : Go d i_law 881 [.ref h0, .ref h1, .ref h2, .int x3] [.int y0] S I J Q := by
  have h := (And.intro g1 (And.intro g2 (And.intro g3 kk)))
  exact Go.n tb_law 12 h
theorem b_law_895 {d : Nat} {S : zS} {I : zI} {J : zJ} {Q : zQ} {h0 : Nat} {h1 : Nat} {h2 : Nat} {x3 : Int32} {y0 : Int32} {y1 : Int32} (kt : y0 = y1 → Go d i_law 1035 [.ref h0, .ref h1, .ref h2, .int x3] [] S I J Q) (kf : ¬ y0 = y1 → Go d i_law 898 [.ref h0, .ref h1, .ref h2, .int x3] [] S I J Q) : Go d i_law 895 [.ref h0, .ref h1, .ref h2, .int x3] [.int y1, .int y0] S I J Q := by
  have h := (Go.ite kt kf)
  exact Go.n tb_law 1 h
theorem b_law_898 {d : Nat} {S : zS} {I : zI} {J : zJ} {Q : zQ} {h0 : Nat} {h1 : Nat} {h2 : Nat} {x3 : Int32} (g1 : z_fit 3 (0 : Int32)) (kk : Q (some (.int (0 : Int32))) S I J) : Go d i_law 898 [.ref h0, .ref h1, .ref h2, .int x3] [] S I J Q := by
  have h := (And.intro g1 kk)
  exact Go.n tb_law 2 h
theorem b_law_900 {d : Nat} {S : zS} {I : zI} {J : zJ} {Q : zQ} {h0 : Nat} {h1 : Nat} {h2 : Nat} {x3 : Int32} (g1 : z_isI (z_kd S h0) = true ∧ vp_in (x3 + (1 : Int32)) (z_ln S h0)) (g2 : z_isI (z_kd S h0) = true ∧ vp_in (x3 + (2 : Int32)) (z_ln S h0)) (g3 : z_kd S h1 = 12) (kk : z_wp d i_X11_regular [.ref h1, .int (I h0 (Int32.toNatClampNeg (x3 + (1 : Int32)))), .int (I h0 (Int32.toNatClampNeg (x3 + (2 : Int32))))] S I J (fun vv SS II JJ => Go d i_law 914 [.ref h0, .ref h1, .ref h2, .int x3] (vv.toList ++ []) SS II JJ Q)) : Go d i_law 900 [.ref h0, .ref h1, .ref h2, .int x3] [] S I J Q := by
  have h := (And.intro g1 (And.intro g2 (And.intro g3 kk)))
  exact Go.n tb_law 12 h
theorem b_law_914 {d : Nat} {S : zS} {I : zI} {J : zJ} {Q : zQ} {h0 : Nat} {h1 : Nat} {h2 : Nat} {x3 : Int32} {y0 : Int32} (g1 : z_isI (z_kd S h0) = true ∧ vp_in (x3 + (1 : Int32)) (z_ln S h0)) (g2 : z_isI (z_kd S h0) = true ∧ vp_in (x3 + (2 : Int32)) (z_ln S h0)) (g3 : z_kd S h2 = 13) (kk : z_wp d i_X12_regular [.ref h2, .int (I h0 (Int32.toNatClampNeg (x3 + (1 : Int32)))), .int (I h0 (Int32.toNatClampNeg (x3 + (2 : Int32))))] S I J (fun vv SS II JJ => Go d i_law 928 [.ref h0, .ref h1, .ref h2, .int x3] (vv.toList ++ [.int y0]) SS II JJ Q)) : Go d i_law 914 [.ref h0, .ref h1, .ref h2, .int x3] [.int y0] S I J Q := by
  have h := (And.intro g1 (And.intro g2 (And.intro g3 kk)))
  exact Go.n tb_law 12 h
theorem b_law_928 {d : Nat} {S : zS} {I : zI} {J : zJ} {Q : zQ} {h0 : Nat} {h1 : Nat} {h2 : Nat} {x3 : Int32} {y0 : Int32} {y1 : Int32} (kt : y0 = y1 → Go d i_law 1035 [.ref h0, .ref h1, .ref h2, .int x3] [] S I J Q) (kf : ¬ y0 = y1 → Go d i_law 931 [.ref h0, .ref h1, .ref h2, .int x3] [] S I J Q) : Go d i_law 928 [.ref h0, .ref h1, .ref h2, .int x3] [.int y1, .int y0] S I J Q := by
  have h := (Go.ite kt kf)
  exact Go.n tb_law 1 h
theorem b_law_931 {d : Nat} {S : zS} {I : zI} {J : zJ} {Q : zQ} {h0 : Nat} {h1 : Nat} {h2 : Nat} {x3 : Int32} (g1 : z_fit 3 (0 : Int32)) (kk : Q (some (.int (0 : Int32))) S I J) : Go d i_law 931 [.ref h0, .ref h1, .ref h2, .int x3] [] S I J Q := by
  have h := (And.intro g1 kk)
  exact Go.n tb_law 2 h
theorem b_law_933 {d : Nat} {S : zS} {I : zI} {J : zJ} {Q : zQ} {h0 : Nat} {h1 : Nat} {h2 : Nat} {x3 : Int32} (g1 : z_isI (z_kd S h0) = true ∧ vp_in (x3 + (1 : Int32)) (z_ln S h0)) (g2 : z_kd S h1 = 12) (kk : z_wp d i_X11_alike [.ref h1, .int (I h0 (Int32.toNatClampNeg (x3 + (1 : Int32))))] S I J (fun vv SS II JJ => Go d i_law 942 [.ref h0, .ref h1, .ref h2, .int x3] (vv.toList ++ []) SS II JJ Q)) : Go d i_law 933 [.ref h0, .ref h1, .ref h2, .int x3] [] S I J Q := by
  have h := (And.intro g1 (And.intro g2 kk))
  exact Go.n tb_law 7 h
theorem b_law_942 {d : Nat} {S : zS} {I : zI} {J : zJ} {Q : zQ} {h0 : Nat} {h1 : Nat} {h2 : Nat} {x3 : Int32} {y0 : Int32} (g1 : z_isI (z_kd S h0) = true ∧ vp_in (x3 + (1 : Int32)) (z_ln S h0)) (g2 : z_kd S h2 = 13) (kk : z_wp d i_X12_alike [.ref h2, .int (I h0 (Int32.toNatClampNeg (x3 + (1 : Int32))))] S I J (fun vv SS II JJ => Go d i_law 951 [.ref h0, .ref h1, .ref h2, .int x3] (vv.toList ++ [.int y0]) SS II JJ Q)) : Go d i_law 942 [.ref h0, .ref h1, .ref h2, .int x3] [.int y0] S I J Q := by
  have h := (And.intro g1 (And.intro g2 kk))
  exact Go.n tb_law 7 h
theorem b_law_951 {d : Nat} {S : zS} {I : zI} {J : zJ} {Q : zQ} {h0 : Nat} {h1 : Nat} {h2 : Nat} {x3 : Int32} {y0 : Int32} {y1 : Int32} (kt : y0 = y1 → Go d i_law 1035 [.ref h0, .ref h1, .ref h2, .int x3] [] S I J Q) (kf : ¬ y0 = y1 → Go d i_law 954 [.ref h0, .ref h1, .ref h2, .int x3] [] S I J Q) : Go d i_law 951 [.ref h0, .ref h1, .ref h2, .int x3] [.int y1, .int y0] S I J Q := by
  have h := (Go.ite kt kf)
  exact Go.n tb_law 1 h
theorem b_law_954 {d : Nat} {S : zS} {I : zI} {J : zJ} {Q : zQ} {h0 : Nat} {h1 : Nat} {h2 : Nat} {x3 : Int32} (g1 : z_fit 3 (0 : Int32)) (kk : Q (some (.int (0 : Int32))) S I J) : Go d i_law 954 [.ref h0, .ref h1, .ref h2, .int x3] [] S I J Q := by
  have h := (And.intro g1 kk)
  exact Go.n tb_law 2 h
theorem b_law_956 {d : Nat} {S : zS} {I : zI} {J : zJ} {Q : zQ} {h0 : Nat} {h1 : Nat} {h2 : Nat} {x3 : Int32} (g1 : z_kd S h1 = 12) (kk : z_wp d i_X11_other [.ref h1] S I J (fun vv SS II JJ => Go d i_law 960 [.ref h0, .ref h1, .ref h2, .int x3] (vv.toList ++ []) SS II JJ Q)) : Go d i_law 956 [.ref h0, .ref h1, .ref h2, .int x3] [] S I J Q := by
  have h := (And.intro g1 kk)
  exact Go.n tb_law 2 h
theorem b_law_960 {d : Nat} {S : zS} {I : zI} {J : zJ} {Q : zQ} {h0 : Nat} {h1 : Nat} {h2 : Nat} {x3 : Int32} {y0 : Int32} (g1 : z_kd S h2 = 13) (kk : z_wp d i_X12_other [.ref h2] S I J (fun vv SS II JJ => Go d i_law 964 [.ref h0, .ref h1, .ref h2, .int x3] (vv.toList ++ [.int y0]) SS II JJ Q)) : Go d i_law 960 [.ref h0, .ref h1, .ref h2, .int x3] [.int y0] S I J Q := by
  have h := (And.intro g1 kk)
  exact Go.n tb_law 2 h
theorem b_law_964 {d : Nat} {S : zS} {I : zI} {J : zJ} {Q : zQ} {h0 : Nat} {h1 : Nat} {h2 : Nat} {x3 : Int32} {y0 : Int32} {y1 : Int32} (kt : y0 = y1 → Go d i_law 1035 [.ref h0, .ref h1, .ref h2, .int x3] [] S I J Q) (kf : ¬ y0 = y1 → Go d i_law 967 [.ref h0, .ref h1, .ref h2, .int x3] [] S I J Q) : Go d i_law 964 [.ref h0, .ref h1, .ref h2, .int x3] [.int y1, .int y0] S I J Q := by
  have h := (Go.ite kt kf)
  exact Go.n tb_law 1 h
theorem b_law_967 {d : Nat} {S : zS} {I : zI} {J : zJ} {Q : zQ} {h0 : Nat} {h1 : Nat} {h2 : Nat} {x3 : Int32} (g1 : z_fit 3 (0 : Int32)) (kk : Q (some (.int (0 : Int32))) S I J) : Go d i_law 967 [.ref h0, .ref h1, .ref h2, .int x3] [] S I J Q := by
  have h := (And.intro g1 kk)
  exact Go.n tb_law 2 h
theorem b_law_969 {d : Nat} {S : zS} {I : zI} {J : zJ} {Q : zQ} {h0 : Nat} {h1 : Nat} {h2 : Nat} {x3 : Int32} (g1 : z_isI (z_kd S h0) = true ∧ vp_in (x3 + (1 : Int32)) (z_ln S h0)) (g2 : z_isI (z_kd S h0) = true ∧ vp_in (x3 + (2 : Int32)) (z_ln S h0)) (g3 : z_isI (z_kd S h0) = true ∧ vp_in (x3 + (3 : Int32)) (z_ln S h0)) (g4 : z_kd S h1 = 12) (kk : z_wp d i_X11_name [.ref h1, .int (I h0 (Int32.toNatClampNeg (x3 + (1 : Int32)))), .int (I h0 (Int32.toNatClampNeg (x3 + (2 : Int32)))), .int (I h0 (Int32.toNatClampNeg (x3 + (3 : Int32))))] S I J (fun vv SS II JJ => Go d i_law 988 [.ref h0, .ref h1, .ref h2, .int x3] (vv.toList ++ []) SS II JJ Q)) : Go d i_law 969 [.ref h0, .ref h1, .ref h2, .int x3] [] S I J Q := by
  have h := (And.intro g1 (And.intro g2 (And.intro g3 (And.intro g4 kk))))
  exact Go.n tb_law 17 h
theorem b_law_988 {d : Nat} {S : zS} {I : zI} {J : zJ} {Q : zQ} {h0 : Nat} {h1 : Nat} {h2 : Nat} {x3 : Int32} {y0 : Int32} (g1 : z_isI (z_kd S h0) = true ∧ vp_in (x3 + (1 : Int32)) (z_ln S h0)) (g2 : z_isI (z_kd S h0) = true ∧ vp_in (x3 + (2 : Int32)) (z_ln S h0)) (g3 : z_isI (z_kd S h0) = true ∧ vp_in (x3 + (3 : Int32)) (z_ln S h0)) (g4 : z_kd S h2 = 13) (kk : z_wp d i_X12_name [.ref h2, .int (I h0 (Int32.toNatClampNeg (x3 + (1 : Int32)))), .int (I h0 (Int32.toNatClampNeg (x3 + (2 : Int32)))), .int (I h0 (Int32.toNatClampNeg (x3 + (3 : Int32))))] S I J (fun vv SS II JJ => Go d i_law 1007 [.ref h0, .ref h1, .ref h2, .int x3] (vv.toList ++ [.int y0]) SS II JJ Q)) : Go d i_law 988 [.ref h0, .ref h1, .ref h2, .int x3] [.int y0] S I J Q := by
  have h := (And.intro g1 (And.intro g2 (And.intro g3 (And.intro g4 kk))))
  exact Go.n tb_law 17 h
theorem b_law_1007 {d : Nat} {S : zS} {I : zI} {J : zJ} {Q : zQ} {h0 : Nat} {h1 : Nat} {h2 : Nat} {x3 : Int32} {y0 : Int32} {y1 : Int32} (kt : y0 = y1 → Go d i_law 1035 [.ref h0, .ref h1, .ref h2, .int x3] [] S I J Q) (kf : ¬ y0 = y1 → Go d i_law 1010 [.ref h0, .ref h1, .ref h2, .int x3] [] S I J Q) : Go d i_law 1007 [.ref h0, .ref h1, .ref h2, .int x3] [.int y1, .int y0] S I J Q := by
  have h := (Go.ite kt kf)
  exact Go.n tb_law 1 h
theorem b_law_1010 {d : Nat} {S : zS} {I : zI} {J : zJ} {Q : zQ} {h0 : Nat} {h1 : Nat} {h2 : Nat} {x3 : Int32} (g1 : z_fit 3 (0 : Int32)) (kk : Q (some (.int (0 : Int32))) S I J) : Go d i_law 1010 [.ref h0, .ref h1, .ref h2, .int x3] [] S I J Q := by
  have h := (And.intro g1 kk)
  exact Go.n tb_law 2 h
theorem b_law_1012 {d : Nat} {S : zS} {I : zI} {J : zJ} {Q : zQ} {h0 : Nat} {h1 : Nat} {h2 : Nat} {x3 : Int32} (g1 : z_isI (z_kd S h0) = true ∧ vp_in (x3 + (1 : Int32)) (z_ln S h0)) (g2 : z_kd S h1 = 12) (kk : z_wp d i_X11_count [.ref h1, .int (I h0 (Int32.toNatClampNeg (x3 + (1 : Int32))))] S I J (fun vv SS II JJ => Go d i_law 1021 [.ref h0, .ref h1, .ref h2, .int x3] (vv.toList ++ []) SS II JJ Q)) : Go d i_law 1012 [.ref h0, .ref h1, .ref h2, .int x3] [] S I J Q := by
  have h := (And.intro g1 (And.intro g2 kk))
  exact Go.n tb_law 7 h
theorem b_law_1021 {d : Nat} {S : zS} {I : zI} {J : zJ} {Q : zQ} {h0 : Nat} {h1 : Nat} {h2 : Nat} {x3 : Int32} {y0 : Int32} (g1 : z_isI (z_kd S h0) = true ∧ vp_in (x3 + (1 : Int32)) (z_ln S h0)) (g2 : z_kd S h2 = 13) (kk : z_wp d i_X12_count [.ref h2, .int (I h0 (Int32.toNatClampNeg (x3 + (1 : Int32))))] S I J (fun vv SS II JJ => Go d i_law 1030 [.ref h0, .ref h1, .ref h2, .int x3] (vv.toList ++ [.int y0]) SS II JJ Q)) : Go d i_law 1021 [.ref h0, .ref h1, .ref h2, .int x3] [.int y0] S I J Q := by
  have h := (And.intro g1 (And.intro g2 kk))
  exact Go.n tb_law 7 h
theorem b_law_1030 {d : Nat} {S : zS} {I : zI} {J : zJ} {Q : zQ} {h0 : Nat} {h1 : Nat} {h2 : Nat} {x3 : Int32} {y0 : Int32} {y1 : Int32} (kt : y0 = y1 → Go d i_law 1035 [.ref h0, .ref h1, .ref h2, .int x3] [] S I J Q) (kf : ¬ y0 = y1 → Go d i_law 1033 [.ref h0, .ref h1, .ref h2, .int x3] [] S I J Q) : Go d i_law 1030 [.ref h0, .ref h1, .ref h2, .int x3] [.int y1, .int y0] S I J Q := by
  have h := (Go.ite kt kf)
  exact Go.n tb_law 1 h
theorem b_law_1033 {d : Nat} {S : zS} {I : zI} {J : zJ} {Q : zQ} {h0 : Nat} {h1 : Nat} {h2 : Nat} {x3 : Int32} (g1 : z_fit 3 (0 : Int32)) (kk : Q (some (.int (0 : Int32))) S I J) : Go d i_law 1033 [.ref h0, .ref h1, .ref h2, .int x3] [] S I J Q := by
  have h := (And.intro g1 kk)
  exact Go.n tb_law 2 h
theorem b_law_1035 {d : Nat} {S : zS} {I : zI} {J : zJ} {Q : zQ} {h0 : Nat} {h1 : Nat} {h2 : Nat} {x3 : Int32} (kk : Go d i_law 18 [.ref h0, .ref h1, .ref h2, .int (x3 + (6 : Int32))] [] S I J Q) : Go d i_law 1035 [.ref h0, .ref h1, .ref h2, .int x3] [] S I J Q := by
  have h := kk
  exact Go.n tb_law 2 h
theorem b_law_1041 {d : Nat} {S : zS} {I : zI} {J : zJ} {Q : zQ} {h0 : Nat} {h1 : Nat} {h2 : Nat} {x3 : Int32} (g1 : z_fit 3 (1 : Int32)) (kk : Q (some (.int (1 : Int32))) S I J) : Go d i_law 1041 [.ref h0, .ref h1, .ref h2, .int x3] [] S I J Q := by
  have h := (And.intro g1 kk)
  exact Go.n tb_law 2 h

theorem w_X12_isIn {d : Nat} {S : zS} {I : zI} {J : zJ} {Q : zQ} {j0 : Int64} {j1 : Int64} {j2 : Int64} (h : Go d i_X12_isIn 0 [.long j0, .retAddr 0, .long j1, .retAddr 0, .long j2, .retAddr 0] [] S I J Q) : z_wp (d + 1) i_X12_isIn [.long j0, .long j1, .long j2] S I J Q := Go.wp (Nat.le_of_ble_eq_true rfl) h
theorem e_X12_isIn {d : Nat} {S S2 : zS} {I I2 : zI} {J J2 : zJ} {r : Option Value} {j0 : Int64} {j1 : Int64} {j2 : Int64} (h : Go d i_X12_isIn 0 [.long j0, .retAddr 0, .long j1, .retAddr 0, .long j2, .retAddr 0] [] S I J (z_eq r S2 I2 J2)) : z_ev (d + 1) i_X12_isIn [.long j0, .long j1, .long j2] S I J r S2 I2 J2 := Go.ev (Nat.le_of_ble_eq_true rfl) h
theorem b_X12_isIn_0 {d : Nat} {S : zS} {I : zI} {J : zJ} {Q : zQ} {j0 : Int64} {v1 : Value} {j2 : Int64} {v3 : Value} {j4 : Int64} {v5 : Value} (kt : (lg_cmp j0 j2) < (0 : Int32) → Go d i_X12_isIn 17 [.long j0, v1, .long j2, v3, .long j4, v5] [] S I J Q) (kf : ¬ (lg_cmp j0 j2) < (0 : Int32) → Go d i_X12_isIn 6 [.long j0, v1, .long j2, v3, .long j4, v5] [] S I J Q) : Go d i_X12_isIn 0 [.long j0, v1, .long j2, v3, .long j4, v5] [] S I J Q := by
  have h := (Go.ite kt kf)
  exact Go.n tb_X12_isIn 4 h
theorem b_X12_isIn_6 {d : Nat} {S : zS} {I : zI} {J : zJ} {Q : zQ} {j0 : Int64} {v1 : Value} {j2 : Int64} {v3 : Value} {j4 : Int64} {v5 : Value} (kt : (0 : Int32) < (lg_cmp j0 j4) → Go d i_X12_isIn 17 [.long j0, v1, .long j2, v3, .long j4, v5] [] S I J Q) (kf : ¬ (0 : Int32) < (lg_cmp j0 j4) → Go d i_X12_isIn 13 [.long j0, v1, .long j2, v3, .long j4, v5] [] S I J Q) : Go d i_X12_isIn 6 [.long j0, v1, .long j2, v3, .long j4, v5] [] S I J Q := by
  have h := (Go.ite kt kf)
  exact Go.n tb_X12_isIn 4 h
theorem b_X12_isIn_13 {d : Nat} {S : zS} {I : zI} {J : zJ} {Q : zQ} {j0 : Int64} {v1 : Value} {j2 : Int64} {v3 : Value} {j4 : Int64} {v5 : Value} (g1 : z_fit 3 (1 : Int32)) (kk : Q (some (.int (1 : Int32))) S I J) : Go d i_X12_isIn 13 [.long j0, v1, .long j2, v3, .long j4, v5] [] S I J Q := by
  have h := (And.intro g1 kk)
  exact Go.n tb_X12_isIn 3 h
theorem b_X12_isIn_17 {d : Nat} {S : zS} {I : zI} {J : zJ} {Q : zQ} {j0 : Int64} {v1 : Value} {j2 : Int64} {v3 : Value} {j4 : Int64} {v5 : Value} (g1 : z_fit 3 (0 : Int32)) (kk : Q (some (.int (0 : Int32))) S I J) : Go d i_X12_isIn 17 [.long j0, v1, .long j2, v3, .long j4, v5] [] S I J Q := by
  have h := (And.intro g1 kk)
  exact Go.n tb_X12_isIn 2 h
theorem w_X12_init {d : Nat} {S : zS} {I : zI} {J : zJ} {Q : zQ} {h0 : Nat} (h : Go d i_X12_init 0 [.ref h0, .retAddr 0] [] S I J Q) : z_wp (d + 1) i_X12_init [.ref h0] S I J Q := Go.wp (Nat.le_of_ble_eq_true rfl) h
theorem e_X12_init {d : Nat} {S S2 : zS} {I I2 : zI} {J J2 : zJ} {r : Option Value} {h0 : Nat} (h : Go d i_X12_init 0 [.ref h0, .retAddr 0] [] S I J (z_eq r S2 I2 J2)) : z_ev (d + 1) i_X12_init [.ref h0] S I J r S2 I2 J2 := Go.ev (Nat.le_of_ble_eq_true rfl) h
theorem b_X12_init_0 {d : Nat} {S : zS} {I : zI} {J : zJ} {Q : zQ} {h0 : Nat} {v1 : Value} (g1 : ¬ h0 = 0) (g2 : ¬ (1995 : Int32) < 0 ∧ (Int32.toNatClampNeg (1995 : Int32)) * 4 ≤ 536870912) (g3 : z_kd (z_new S 100 (Int32.toNatClampNeg (1995 : Int32)) (Int32.toNatClampNeg (1995 : Int32))) h0 = 13) (kk : Go d i_X12_init 13 [.ref h0, v1] [] (z_setR (z_new S 100 (Int32.toNatClampNeg (1995 : Int32)) (Int32.toNatClampNeg (1995 : Int32))) h0 0 (z_sz S + 1)) (z_ur I (z_sz S + 1) (fun _ => 0)) J Q) : Go d i_X12_init 0 [.ref h0, v1] [] S I J Q := by
  have h := (And.intro g1 (And.intro g2 (And.intro g3 kk)))
  exact Go.n tb_X12_init 6 h
theorem b_X12_init_13 {d : Nat} {S : zS} {I : zI} {J : zJ} {Q : zQ} {h0 : Nat} {v1 : Value} (g1 : ¬ (300 : Int32) < 0 ∧ (Int32.toNatClampNeg (300 : Int32)) * 4 ≤ 536870912) (g2 : z_kd (z_new S 101 (Int32.toNatClampNeg (300 : Int32)) (Int32.toNatClampNeg (300 : Int32))) h0 = 13) (kk : Go d i_X12_init 22 [.ref h0, v1] [] (z_setR (z_new S 101 (Int32.toNatClampNeg (300 : Int32)) (Int32.toNatClampNeg (300 : Int32))) h0 2 (z_sz S + 1)) (z_ur I (z_sz S + 1) (fun _ => 0)) J Q) : Go d i_X12_init 13 [.ref h0, v1] [] S I J Q := by
  have h := (And.intro g1 (And.intro g2 kk))
  exact Go.n tb_X12_init 4 h
theorem b_X12_init_22 {d : Nat} {S : zS} {I : zI} {J : zJ} {Q : zQ} {h0 : Nat} {v1 : Value} (g1 : z_kd S h0 = 13) (kk : Go d i_X12_init 27 [.ref h0, v1] [] S (z_u2 I h0 7 (-1 : Int32)) J Q) : Go d i_X12_init 22 [.ref h0, v1] [] S I J Q := by
  have h := (And.intro g1 kk)
  exact Go.n tb_X12_init 3 h
theorem b_X12_init_27 {d : Nat} {S : zS} {I : zI} {J : zJ} {Q : zQ} {h0 : Nat} {v1 : Value} (g1 : ¬ (12 : Int32) < 0 ∧ (Int32.toNatClampNeg (12 : Int32)) * 4 ≤ 536870912) (g2 : z_kd (z_new S 100 (Int32.toNatClampNeg (12 : Int32)) (Int32.toNatClampNeg (12 : Int32))) h0 = 13) (kk : Go d i_X12_init 35 [.ref h0, v1] [] (z_setR (z_new S 100 (Int32.toNatClampNeg (12 : Int32)) (Int32.toNatClampNeg (12 : Int32))) h0 10 (z_sz S + 1)) (z_ur I (z_sz S + 1) (fun _ => 0)) J Q) : Go d i_X12_init 27 [.ref h0, v1] [] S I J Q := by
  have h := (And.intro g1 (And.intro g2 kk))
  exact Go.n tb_X12_init 4 h
theorem b_X12_init_35 {d : Nat} {S : zS} {I : zI} {J : zJ} {Q : zQ} {h0 : Nat} {v1 : Value} (g1 : ¬ (400 : Int32) < 0 ∧ (Int32.toNatClampNeg (400 : Int32)) * 4 ≤ 536870912) (g2 : z_kd (z_new S 100 (Int32.toNatClampNeg (400 : Int32)) (Int32.toNatClampNeg (400 : Int32))) h0 = 13) (kk : Go d i_X12_init 44 [.ref h0, v1] [] (z_setR (z_new S 100 (Int32.toNatClampNeg (400 : Int32)) (Int32.toNatClampNeg (400 : Int32))) h0 12 (z_sz S + 1)) (z_ur I (z_sz S + 1) (fun _ => 0)) J Q) : Go d i_X12_init 35 [.ref h0, v1] [] S I J Q := by
  have h := (And.intro g1 (And.intro g2 kk))
  exact Go.n tb_X12_init 4 h
theorem b_X12_init_44 {d : Nat} {S : zS} {I : zI} {J : zJ} {Q : zQ} {h0 : Nat} {v1 : Value} (g1 : ¬ (1200 : Int32) < 0 ∧ (Int32.toNatClampNeg (1200 : Int32)) * 4 ≤ 536870912) (g2 : z_kd (z_new S 100 (Int32.toNatClampNeg (1200 : Int32)) (Int32.toNatClampNeg (1200 : Int32))) h0 = 13) (kk : Go d i_X12_init 53 [.ref h0, v1] [] (z_setR (z_new S 100 (Int32.toNatClampNeg (1200 : Int32)) (Int32.toNatClampNeg (1200 : Int32))) h0 13 (z_sz S + 1)) (z_ur I (z_sz S + 1) (fun _ => 0)) J Q) : Go d i_X12_init 44 [.ref h0, v1] [] S I J Q := by
  have h := (And.intro g1 (And.intro g2 kk))
  exact Go.n tb_X12_init 4 h
theorem b_X12_init_53 {d : Nat} {S : zS} {I : zI} {J : zJ} {Q : zQ} {h0 : Nat} {v1 : Value} (g1 : ¬ (8 : Int32) < 0 ∧ (Int32.toNatClampNeg (8 : Int32)) * 4 ≤ 536870912) (g2 : z_kd (z_new S 100 (Int32.toNatClampNeg (8 : Int32)) (Int32.toNatClampNeg (8 : Int32))) h0 = 13) (kk : Go d i_X12_init 61 [.ref h0, v1] [] (z_setR (z_new S 100 (Int32.toNatClampNeg (8 : Int32)) (Int32.toNatClampNeg (8 : Int32))) h0 16 (z_sz S + 1)) (z_ur I (z_sz S + 1) (fun _ => 0)) J Q) : Go d i_X12_init 53 [.ref h0, v1] [] S I J Q := by
  have h := (And.intro g1 (And.intro g2 kk))
  exact Go.n tb_X12_init 4 h
theorem b_X12_init_61 {d : Nat} {S : zS} {I : zI} {J : zJ} {Q : zQ} {h0 : Nat} {v1 : Value} (g1 : ¬ (5328 : Int32) < 0 ∧ (Int32.toNatClampNeg (5328 : Int32)) * 4 ≤ 536870912) (g2 : z_kd (z_new S 100 (Int32.toNatClampNeg (5328 : Int32)) (Int32.toNatClampNeg (5328 : Int32))) h0 = 13) (kk : Go d i_X12_init 70 [.ref h0, v1] [] (z_setR (z_new S 100 (Int32.toNatClampNeg (5328 : Int32)) (Int32.toNatClampNeg (5328 : Int32))) h0 18 (z_sz S + 1)) (z_ur I (z_sz S + 1) (fun _ => 0)) J Q) : Go d i_X12_init 61 [.ref h0, v1] [] S I J Q := by
  have h := (And.intro g1 (And.intro g2 kk))
  exact Go.n tb_X12_init 4 h
theorem b_X12_init_70 {d : Nat} {S : zS} {I : zI} {J : zJ} {Q : zQ} {h0 : Nat} {v1 : Value} (g1 : ¬ (20 : Int32) < 0 ∧ (Int32.toNatClampNeg (20 : Int32)) * 4 ≤ 536870912) (g2 : z_kd (z_new S 100 (Int32.toNatClampNeg (20 : Int32)) (Int32.toNatClampNeg (20 : Int32))) h0 = 13) (kk : Go d i_X12_init 78 [.ref h0, v1] [] (z_setR (z_new S 100 (Int32.toNatClampNeg (20 : Int32)) (Int32.toNatClampNeg (20 : Int32))) h0 20 (z_sz S + 1)) (z_ur I (z_sz S + 1) (fun _ => 0)) J Q) : Go d i_X12_init 70 [.ref h0, v1] [] S I J Q := by
  have h := (And.intro g1 (And.intro g2 kk))
  exact Go.n tb_X12_init 4 h
theorem b_X12_init_78 {d : Nat} {S : zS} {I : zI} {J : zJ} {Q : zQ} {h0 : Nat} {v1 : Value} (g1 : ¬ (20 : Int32) < 0 ∧ (Int32.toNatClampNeg (20 : Int32)) * 4 ≤ 536870912) (g2 : z_kd (z_new S 100 (Int32.toNatClampNeg (20 : Int32)) (Int32.toNatClampNeg (20 : Int32))) h0 = 13) (kk : Go d i_X12_init 86 [.ref h0, v1] [] (z_setR (z_new S 100 (Int32.toNatClampNeg (20 : Int32)) (Int32.toNatClampNeg (20 : Int32))) h0 21 (z_sz S + 1)) (z_ur I (z_sz S + 1) (fun _ => 0)) J Q) : Go d i_X12_init 78 [.ref h0, v1] [] S I J Q := by
  have h := (And.intro g1 (And.intro g2 kk))
  exact Go.n tb_X12_init 4 h
theorem b_X12_init_86 {d : Nat} {S : zS} {I : zI} {J : zJ} {Q : zQ} {h0 : Nat} {v1 : Value} (g1 : ¬ (128 : Int32) < 0 ∧ (Int32.toNatClampNeg (128 : Int32)) * 4 ≤ 536870912) (g2 : z_kd (z_new S 100 (Int32.toNatClampNeg (128 : Int32)) (Int32.toNatClampNeg (128 : Int32))) h0 = 13) (kk : Go d i_X12_init 95 [.ref h0, v1] [] (z_setR (z_new S 100 (Int32.toNatClampNeg (128 : Int32)) (Int32.toNatClampNeg (128 : Int32))) h0 22 (z_sz S + 1)) (z_ur I (z_sz S + 1) (fun _ => 0)) J Q) : Go d i_X12_init 86 [.ref h0, v1] [] S I J Q := by
  have h := (And.intro g1 (And.intro g2 kk))
  exact Go.n tb_X12_init 4 h
theorem b_X12_init_95 {d : Nat} {S : zS} {I : zI} {J : zJ} {Q : zQ} {h0 : Nat} {v1 : Value} (g1 : ¬ (400 : Int32) < 0 ∧ (Int32.toNatClampNeg (400 : Int32)) * 4 ≤ 536870912) (g2 : z_kd (z_new S 100 (Int32.toNatClampNeg (400 : Int32)) (Int32.toNatClampNeg (400 : Int32))) h0 = 13) (kk : Go d i_X12_init 104 [.ref h0, v1] [] (z_setR (z_new S 100 (Int32.toNatClampNeg (400 : Int32)) (Int32.toNatClampNeg (400 : Int32))) h0 24 (z_sz S + 1)) (z_ur I (z_sz S + 1) (fun _ => 0)) J Q) : Go d i_X12_init 95 [.ref h0, v1] [] S I J Q := by
  have h := (And.intro g1 (And.intro g2 kk))
  exact Go.n tb_X12_init 4 h
theorem b_X12_init_104 {d : Nat} {S : zS} {I : zI} {J : zJ} {Q : zQ} {h0 : Nat} {v1 : Value} (g1 : ¬ (20 : Int32) < 0 ∧ (Int32.toNatClampNeg (20 : Int32)) * 4 ≤ 536870912) (g2 : z_kd (z_new S 100 (Int32.toNatClampNeg (20 : Int32)) (Int32.toNatClampNeg (20 : Int32))) h0 = 13) (kk : Go d i_X12_init 112 [.ref h0, v1] [] (z_setR (z_new S 100 (Int32.toNatClampNeg (20 : Int32)) (Int32.toNatClampNeg (20 : Int32))) h0 25 (z_sz S + 1)) (z_ur I (z_sz S + 1) (fun _ => 0)) J Q) : Go d i_X12_init 104 [.ref h0, v1] [] S I J Q := by
  have h := (And.intro g1 (And.intro g2 kk))
  exact Go.n tb_X12_init 4 h
theorem b_X12_init_112 {d : Nat} {S : zS} {I : zI} {J : zJ} {Q : zQ} {h0 : Nat} {v1 : Value} (g1 : ¬ (40 : Int32) < 0 ∧ (Int32.toNatClampNeg (40 : Int32)) * 4 ≤ 536870912) (g2 : z_kd (z_new S 100 (Int32.toNatClampNeg (40 : Int32)) (Int32.toNatClampNeg (40 : Int32))) h0 = 13) (kk : Go d i_X12_init 120 [.ref h0, v1] [] (z_setR (z_new S 100 (Int32.toNatClampNeg (40 : Int32)) (Int32.toNatClampNeg (40 : Int32))) h0 29 (z_sz S + 1)) (z_ur I (z_sz S + 1) (fun _ => 0)) J Q) : Go d i_X12_init 112 [.ref h0, v1] [] S I J Q := by
  have h := (And.intro g1 (And.intro g2 kk))
  exact Go.n tb_X12_init 4 h
theorem b_X12_init_120 {d : Nat} {S : zS} {I : zI} {J : zJ} {Q : zQ} {h0 : Nat} {v1 : Value} (g1 : ¬ (20 : Int32) < 0 ∧ (Int32.toNatClampNeg (20 : Int32)) * 4 ≤ 536870912) (g2 : z_kd (z_new S 100 (Int32.toNatClampNeg (20 : Int32)) (Int32.toNatClampNeg (20 : Int32))) h0 = 13) (kk : Go d i_X12_init 128 [.ref h0, v1] [] (z_setR (z_new S 100 (Int32.toNatClampNeg (20 : Int32)) (Int32.toNatClampNeg (20 : Int32))) h0 30 (z_sz S + 1)) (z_ur I (z_sz S + 1) (fun _ => 0)) J Q) : Go d i_X12_init 120 [.ref h0, v1] [] S I J Q := by
  have h := (And.intro g1 (And.intro g2 kk))
  exact Go.n tb_X12_init 4 h
theorem b_X12_init_128 {d : Nat} {S : zS} {I : zI} {J : zJ} {Q : zQ} {h0 : Nat} {v1 : Value} (g1 : ¬ (20 : Int32) < 0 ∧ (Int32.toNatClampNeg (20 : Int32)) * 4 ≤ 536870912) (g2 : z_kd (z_new S 100 (Int32.toNatClampNeg (20 : Int32)) (Int32.toNatClampNeg (20 : Int32))) h0 = 13) (kk : Go d i_X12_init 136 [.ref h0, v1] [] (z_setR (z_new S 100 (Int32.toNatClampNeg (20 : Int32)) (Int32.toNatClampNeg (20 : Int32))) h0 31 (z_sz S + 1)) (z_ur I (z_sz S + 1) (fun _ => 0)) J Q) : Go d i_X12_init 128 [.ref h0, v1] [] S I J Q := by
  have h := (And.intro g1 (And.intro g2 kk))
  exact Go.n tb_X12_init 4 h
theorem b_X12_init_136 {d : Nat} {S : zS} {I : zI} {J : zJ} {Q : zQ} {h0 : Nat} {v1 : Value} (g1 : ¬ (800 : Int32) < 0 ∧ (Int32.toNatClampNeg (800 : Int32)) * 4 ≤ 536870912) (g2 : z_kd (z_new S 100 (Int32.toNatClampNeg (800 : Int32)) (Int32.toNatClampNeg (800 : Int32))) h0 = 13) (kk : Go d i_X12_init 145 [.ref h0, v1] [] (z_setR (z_new S 100 (Int32.toNatClampNeg (800 : Int32)) (Int32.toNatClampNeg (800 : Int32))) h0 32 (z_sz S + 1)) (z_ur I (z_sz S + 1) (fun _ => 0)) J Q) : Go d i_X12_init 136 [.ref h0, v1] [] S I J Q := by
  have h := (And.intro g1 (And.intro g2 kk))
  exact Go.n tb_X12_init 4 h
theorem b_X12_init_145 {d : Nat} {S : zS} {I : zI} {J : zJ} {Q : zQ} {h0 : Nat} {v1 : Value} (kk : Go d i_X12_init 147 [.ref h0, .int (0 : Int32)] [] S I J Q) : Go d i_X12_init 145 [.ref h0, v1] [] S I J Q := by
  have h := kk
  exact Go.n tb_X12_init 2 h
theorem b_X12_init_147 {d : Nat} {S : zS} {I : zI} {J : zJ} {Q : zQ} {h0 : Nat} {x1 : Int32} (kt : (2 : Int32) ≤ x1 → Go d i_X12_init 198 [.ref h0, .int x1] [] S I J Q) (kf : ¬ (2 : Int32) ≤ x1 → Go d i_X12_init 152 [.ref h0, .int x1] [] S I J Q) : Go d i_X12_init 147 [.ref h0, .int x1] [] S I J Q := by
  have h := (Go.ite kt kf)
  exact Go.n tb_X12_init 3 h
theorem b_X12_init_152 {d : Nat} {S : zS} {I : zI} {J : zJ} {Q : zQ} {h0 : Nat} {x1 : Int32} {I1 : zI} (g1 : z_kd S h0 = 13) (g2 : z_kd S (z_rv S h0 0) = 100 ∧ vp_in (((665 : Int32) * x1) + (0 : Int32)) (z_ln S (z_rv S h0 0))) (g3 : z_kd S h0 = 13) (g4 : z_kd S (z_rv S h0 0) = 100 ∧ vp_in (((665 : Int32) * x1) + (3 : Int32)) (z_ln S (z_rv S h0 0))) (eI1 : I1 = z_u2 (z_u2 I (z_rv S h0 0) (Int32.toNatClampNeg (((665 : Int32) * x1) + (0 : Int32))) (1 : Int32)) (z_rv S h0 0) (Int32.toNatClampNeg (((665 : Int32) * x1) + (3 : Int32))) (1 : Int32)) (g6 : z_kd S h0 = 13) (g7 : z_kd S (z_rv S h0 0) = 100 ∧ vp_in (((665 : Int32) * x1) + (25 : Int32)) (z_ln S (z_rv S h0 0))) (kk : Go d i_X12_init 147 [.ref h0, .int (x1 + (1 : Int32))] [] S (z_u2 I1 (z_rv S h0 0) (Int32.toNatClampNeg (((665 : Int32) * x1) + (25 : Int32))) (1 : Int32)) J Q) : Go d i_X12_init 152 [.ref h0, .int x1] [] S I J Q := by
  subst eI1
  have h := (And.intro g1 (And.intro g2 (And.intro g3 (And.intro g4 (And.intro g6 (And.intro g7 kk))))))
  exact Go.n tb_X12_init 29 h
theorem b_X12_init_198 {d : Nat} {S : zS} {I : zI} {J : zJ} {Q : zQ} {h0 : Nat} {x1 : Int32} (kk : Q none S I J) : Go d i_X12_init 198 [.ref h0, .int x1] [] S I J Q := by
  have h := (And.intro trivial kk)
  exact Go.n tb_X12_init 1 h
theorem w_X12_copies {d : Nat} {S : zS} {I : zI} {J : zJ} {Q : zQ} {h0 : Nat} {x1 : Int32} {h2 : Nat} {x3 : Int32} (h : Go d i_X12_copies 0 [.ref h0, .int x1, .ref h2, .int x3, .retAddr 0] [] S I J Q) : z_wp (d + 1) i_X12_copies [.ref h0, .int x1, .ref h2, .int x3] S I J Q := Go.wp (Nat.le_of_ble_eq_true rfl) h
theorem e_X12_copies {d : Nat} {S S2 : zS} {I I2 : zI} {J J2 : zJ} {r : Option Value} {h0 : Nat} {x1 : Int32} {h2 : Nat} {x3 : Int32} (h : Go d i_X12_copies 0 [.ref h0, .int x1, .ref h2, .int x3, .retAddr 0] [] S I J (z_eq r S2 I2 J2)) : z_ev (d + 1) i_X12_copies [.ref h0, .int x1, .ref h2, .int x3] S I J r S2 I2 J2 := Go.ev (Nat.le_of_ble_eq_true rfl) h
theorem b_X12_copies_0 {d : Nat} {S : zS} {I : zI} {J : zJ} {Q : zQ} {h0 : Nat} {x1 : Int32} {h2 : Nat} {x3 : Int32} {v4 : Value} (kk : Go d i_X12_copies 3 [.ref h0, .int x1, .ref h2, .int x3, .int (0 : Int32)] [] S I J Q) : Go d i_X12_copies 0 [.ref h0, .int x1, .ref h2, .int x3, v4] [] S I J Q := by
  have h := kk
  exact Go.n tb_X12_copies 2 h
theorem b_X12_copies_3 {d : Nat} {S : zS} {I : zI} {J : zJ} {Q : zQ} {h0 : Nat} {x1 : Int32} {h2 : Nat} {x3 : Int32} {x4 : Int32} (kt : (665 : Int32) ≤ x4 → Go d i_X12_copies 29 [.ref h0, .int x1, .ref h2, .int x3, .int x4] [] S I J Q) (kf : ¬ (665 : Int32) ≤ x4 → Go d i_X12_copies 11 [.ref h0, .int x1, .ref h2, .int x3, .int x4] [] S I J Q) : Go d i_X12_copies 3 [.ref h0, .int x1, .ref h2, .int x3, .int x4] [] S I J Q := by
  have h := (Go.ite kt kf)
  exact Go.n tb_X12_copies 3 h
theorem b_X12_copies_11 {d : Nat} {S : zS} {I : zI} {J : zJ} {Q : zQ} {h0 : Nat} {x1 : Int32} {h2 : Nat} {x3 : Int32} {x4 : Int32} (g1 : z_isI (z_kd S h0) = true ∧ vp_in (x1 + x4) (z_ln S h0)) (g2 : z_kd S h2 = 100 ∧ vp_in (x3 + x4) (z_ln S h2)) (kk : Go d i_X12_copies 3 [.ref h0, .int x1, .ref h2, .int x3, .int (x4 + (1 : Int32))] [] S (z_u2 I h2 (Int32.toNatClampNeg (x3 + x4)) (I h0 (Int32.toNatClampNeg (x1 + x4)))) J Q) : Go d i_X12_copies 11 [.ref h0, .int x1, .ref h2, .int x3, .int x4] [] S I J Q := by
  have h := (And.intro g1 (And.intro g2 kk))
  exact Go.n tb_X12_copies 12 h
theorem b_X12_copies_29 {d : Nat} {S : zS} {I : zI} {J : zJ} {Q : zQ} {h0 : Nat} {x1 : Int32} {h2 : Nat} {x3 : Int32} {x4 : Int32} (kk : Q none S I J) : Go d i_X12_copies 29 [.ref h0, .int x1, .ref h2, .int x3, .int x4] [] S I J Q := by
  have h := (And.intro trivial kk)
  exact Go.n tb_X12_copies 1 h
theorem w_X12_feed {d : Nat} {S : zS} {I : zI} {J : zJ} {Q : zQ} {h0 : Nat} {x1 : Int32} {x2 : Int32} {x3 : Int32} {x4 : Int32} {x5 : Int32} (h : Go d i_X12_feed 0 [.ref h0, .int x1, .int x2, .int x3, .int x4, .int x5, .retAddr 0, .retAddr 0] [] S I J Q) : z_wp (d + 1) i_X12_feed [.ref h0, .int x1, .int x2, .int x3, .int x4, .int x5] S I J Q := Go.wp (Nat.le_of_ble_eq_true rfl) h
theorem e_X12_feed {d : Nat} {S S2 : zS} {I I2 : zI} {J J2 : zJ} {r : Option Value} {h0 : Nat} {x1 : Int32} {x2 : Int32} {x3 : Int32} {x4 : Int32} {x5 : Int32} (h : Go d i_X12_feed 0 [.ref h0, .int x1, .int x2, .int x3, .int x4, .int x5, .retAddr 0, .retAddr 0] [] S I J (z_eq r S2 I2 J2)) : z_ev (d + 1) i_X12_feed [.ref h0, .int x1, .int x2, .int x3, .int x4, .int x5] S I J r S2 I2 J2 := Go.ev (Nat.le_of_ble_eq_true rfl) h
theorem b_X12_feed_0 {d : Nat} {S : zS} {I : zI} {J : zJ} {Q : zQ} {h0 : Nat} {x1 : Int32} {x2 : Int32} {x3 : Int32} {x4 : Int32} {x5 : Int32} {v6 : Value} {v7 : Value} (g1 : z_kd S h0 = 13) (g2 : z_kd S h0 = 13) (kt : (((z_u2 I h0 1 (0 : Int32)) h0 3) + (20 : Int32)) ≤ (300 : Int32) → Go d i_X12_feed 21 [.ref h0, .int x1, .int x2, .int x3, .int x4, .int x5, v6, v7] [] S (z_u2 I h0 1 (0 : Int32)) J Q) (kf : ¬ (((z_u2 I h0 1 (0 : Int32)) h0 3) + (20 : Int32)) ≤ (300 : Int32) → Go d i_X12_feed 18 [.ref h0, .int x1, .int x2, .int x3, .int x4, .int x5, v6, v7] [] S (z_u2 I h0 1 (0 : Int32)) J Q) : Go d i_X12_feed 0 [.ref h0, .int x1, .int x2, .int x3, .int x4, .int x5, v6, v7] [] S I J Q := by
  have h := (And.intro g1 (And.intro g2 (Go.ite kt kf)))
  exact Go.n tb_X12_feed 9 h
theorem b_X12_feed_18 {d : Nat} {S : zS} {I : zI} {J : zJ} {Q : zQ} {h0 : Nat} {x1 : Int32} {x2 : Int32} {x3 : Int32} {x4 : Int32} {x5 : Int32} {v6 : Value} {v7 : Value} (kk : Q (some (.int (-4 : Int32))) S I J) : Go d i_X12_feed 18 [.ref h0, .int x1, .int x2, .int x3, .int x4, .int x5, v6, v7] [] S I J Q := by
  have h := (And.intro trivial kk)
  exact Go.n tb_X12_feed 2 h
theorem b_X12_feed_21 {d : Nat} {S : zS} {I : zI} {J : zJ} {Q : zQ} {h0 : Nat} {x1 : Int32} {x2 : Int32} {x3 : Int32} {x4 : Int32} {x5 : Int32} {v6 : Value} {v7 : Value} (kk : Go d i_X12_feed 24 [.ref h0, .int x1, .int x2, .int x3, .int x4, .int x5, .int (0 : Int32), v7] [] S I J Q) : Go d i_X12_feed 21 [.ref h0, .int x1, .int x2, .int x3, .int x4, .int x5, v6, v7] [] S I J Q := by
  have h := kk
  exact Go.n tb_X12_feed 2 h
theorem b_X12_feed_24 {d : Nat} {S : zS} {I : zI} {J : zJ} {Q : zQ} {h0 : Nat} {x1 : Int32} {x2 : Int32} {x3 : Int32} {x4 : Int32} {x5 : Int32} {x6 : Int32} {v7 : Value} (kt : (20 : Int32) ≤ x6 → Go d i_X12_feed 118 [.ref h0, .int x1, .int x2, .int x3, .int x4, .int x5, .int x6, v7] [] S I J Q) (kf : ¬ (20 : Int32) ≤ x6 → Go d i_X12_feed 31 [.ref h0, .int x1, .int x2, .int x3, .int x4, .int x5, .int x6, v7] [] S I J Q) : Go d i_X12_feed 24 [.ref h0, .int x1, .int x2, .int x3, .int x4, .int x5, .int x6, v7] [] S I J Q := by
  have h := (Go.ite kt kf)
  exact Go.n tb_X12_feed 3 h
theorem b_X12_feed_31 {d : Nat} {S : zS} {I : zI} {J : zJ} {Q : zQ} {h0 : Nat} {x1 : Int32} {x2 : Int32} {x3 : Int32} {x4 : Int32} {x5 : Int32} {x6 : Int32} {v7 : Value} (kt : (4 : Int32) ≤ x6 → Go d i_X12_feed 41 [.ref h0, .int x1, .int x2, .int x3, .int x4, .int x5, .int x6, v7] [] S I J Q) (kf : ¬ (4 : Int32) ≤ x6 → Go d i_X12_feed 37 [.ref h0, .int x1, .int x2, .int x3, .int x4, .int x5, .int x6, v7] [] S I J Q) : Go d i_X12_feed 31 [.ref h0, .int x1, .int x2, .int x3, .int x4, .int x5, .int x6, v7] [] S I J Q := by
  have h := (Go.ite kt kf)
  exact Go.n tb_X12_feed 3 h
theorem b_X12_feed_37 {d : Nat} {S : zS} {I : zI} {J : zJ} {Q : zQ} {h0 : Nat} {x1 : Int32} {x2 : Int32} {x3 : Int32} {x4 : Int32} {x5 : Int32} {x6 : Int32} {v7 : Value} {I1 : zI} (g1 : z_kd S h0 = 13) (g2 : z_kd S h0 = 13) (g3 : ¬ (4 : Int32) = 0) (g4 : z_kd S (z_rv S h0 2) = 101 ∧ vp_in (I h0 3) (z_ln S (z_rv S h0 2))) (eI1 : I1 = z_u2 I (z_rv S h0 2) (Int32.toNatClampNeg (I h0 3)) (Int8.toInt32 (Int32.toInt8 (Int8.toInt32 (Int32.toInt8 (x1 >>> (((24 : Int32) - ((8 : Int32) * (x6 - x6 / (4 : Int32) * (4 : Int32)))) &&& 31))))))) (g6 : z_kd S h0 = 13) (g7 : z_kd S h0 = 13) (kk : Go d i_X12_feed 24 [.ref h0, .int x1, .int x2, .int x3, .int x4, .int x5, .int (x6 + (1 : Int32)), .int x1] [] S (z_u2 I1 h0 3 ((I1 h0 3) + (1 : Int32))) J Q) : Go d i_X12_feed 37 [.ref h0, .int x1, .int x2, .int x3, .int x4, .int x5, .int x6, v7] [] S I J Q := by
  subst eI1
  have h := (And.intro g1 (And.intro g2 (And.intro g3 (And.intro g4 (And.intro g6 (And.intro g7 kk))))))
  exact Go.n tb_X12_feed 26 h
theorem b_X12_feed_41 {d : Nat} {S : zS} {I : zI} {J : zJ} {Q : zQ} {h0 : Nat} {x1 : Int32} {x2 : Int32} {x3 : Int32} {x4 : Int32} {x5 : Int32} {x6 : Int32} {v7 : Value} (kt : (8 : Int32) ≤ x6 → Go d i_X12_feed 52 [.ref h0, .int x1, .int x2, .int x3, .int x4, .int x5, .int x6, v7] [] S I J Q) (kf : ¬ (8 : Int32) ≤ x6 → Go d i_X12_feed 48 [.ref h0, .int x1, .int x2, .int x3, .int x4, .int x5, .int x6, v7] [] S I J Q) : Go d i_X12_feed 41 [.ref h0, .int x1, .int x2, .int x3, .int x4, .int x5, .int x6, v7] [] S I J Q := by
  have h := (Go.ite kt kf)
  exact Go.n tb_X12_feed 3 h
theorem b_X12_feed_48 {d : Nat} {S : zS} {I : zI} {J : zJ} {Q : zQ} {h0 : Nat} {x1 : Int32} {x2 : Int32} {x3 : Int32} {x4 : Int32} {x5 : Int32} {x6 : Int32} {v7 : Value} {I1 : zI} (g1 : z_kd S h0 = 13) (g2 : z_kd S h0 = 13) (g3 : ¬ (4 : Int32) = 0) (g4 : z_kd S (z_rv S h0 2) = 101 ∧ vp_in (I h0 3) (z_ln S (z_rv S h0 2))) (eI1 : I1 = z_u2 I (z_rv S h0 2) (Int32.toNatClampNeg (I h0 3)) (Int8.toInt32 (Int32.toInt8 (Int8.toInt32 (Int32.toInt8 (x2 >>> (((24 : Int32) - ((8 : Int32) * (x6 - x6 / (4 : Int32) * (4 : Int32)))) &&& 31))))))) (g6 : z_kd S h0 = 13) (g7 : z_kd S h0 = 13) (kk : Go d i_X12_feed 24 [.ref h0, .int x1, .int x2, .int x3, .int x4, .int x5, .int (x6 + (1 : Int32)), .int x2] [] S (z_u2 I1 h0 3 ((I1 h0 3) + (1 : Int32))) J Q) : Go d i_X12_feed 48 [.ref h0, .int x1, .int x2, .int x3, .int x4, .int x5, .int x6, v7] [] S I J Q := by
  subst eI1
  have h := (And.intro g1 (And.intro g2 (And.intro g3 (And.intro g4 (And.intro g6 (And.intro g7 kk))))))
  exact Go.n tb_X12_feed 26 h
theorem b_X12_feed_52 {d : Nat} {S : zS} {I : zI} {J : zJ} {Q : zQ} {h0 : Nat} {x1 : Int32} {x2 : Int32} {x3 : Int32} {x4 : Int32} {x5 : Int32} {x6 : Int32} {v7 : Value} (kt : (12 : Int32) ≤ x6 → Go d i_X12_feed 63 [.ref h0, .int x1, .int x2, .int x3, .int x4, .int x5, .int x6, v7] [] S I J Q) (kf : ¬ (12 : Int32) ≤ x6 → Go d i_X12_feed 59 [.ref h0, .int x1, .int x2, .int x3, .int x4, .int x5, .int x6, v7] [] S I J Q) : Go d i_X12_feed 52 [.ref h0, .int x1, .int x2, .int x3, .int x4, .int x5, .int x6, v7] [] S I J Q := by
  have h := (Go.ite kt kf)
  exact Go.n tb_X12_feed 3 h
theorem b_X12_feed_59 {d : Nat} {S : zS} {I : zI} {J : zJ} {Q : zQ} {h0 : Nat} {x1 : Int32} {x2 : Int32} {x3 : Int32} {x4 : Int32} {x5 : Int32} {x6 : Int32} {v7 : Value} {I1 : zI} (g1 : z_kd S h0 = 13) (g2 : z_kd S h0 = 13) (g3 : ¬ (4 : Int32) = 0) (g4 : z_kd S (z_rv S h0 2) = 101 ∧ vp_in (I h0 3) (z_ln S (z_rv S h0 2))) (eI1 : I1 = z_u2 I (z_rv S h0 2) (Int32.toNatClampNeg (I h0 3)) (Int8.toInt32 (Int32.toInt8 (Int8.toInt32 (Int32.toInt8 (x3 >>> (((24 : Int32) - ((8 : Int32) * (x6 - x6 / (4 : Int32) * (4 : Int32)))) &&& 31))))))) (g6 : z_kd S h0 = 13) (g7 : z_kd S h0 = 13) (kk : Go d i_X12_feed 24 [.ref h0, .int x1, .int x2, .int x3, .int x4, .int x5, .int (x6 + (1 : Int32)), .int x3] [] S (z_u2 I1 h0 3 ((I1 h0 3) + (1 : Int32))) J Q) : Go d i_X12_feed 59 [.ref h0, .int x1, .int x2, .int x3, .int x4, .int x5, .int x6, v7] [] S I J Q := by
  subst eI1
  have h := (And.intro g1 (And.intro g2 (And.intro g3 (And.intro g4 (And.intro g6 (And.intro g7 kk))))))
  exact Go.n tb_X12_feed 26 h
theorem b_X12_feed_63 {d : Nat} {S : zS} {I : zI} {J : zJ} {Q : zQ} {h0 : Nat} {x1 : Int32} {x2 : Int32} {x3 : Int32} {x4 : Int32} {x5 : Int32} {x6 : Int32} {v7 : Value} (kt : (16 : Int32) ≤ x6 → Go d i_X12_feed 75 [.ref h0, .int x1, .int x2, .int x3, .int x4, .int x5, .int x6, v7] [] S I J Q) (kf : ¬ (16 : Int32) ≤ x6 → Go d i_X12_feed 70 [.ref h0, .int x1, .int x2, .int x3, .int x4, .int x5, .int x6, v7] [] S I J Q) : Go d i_X12_feed 63 [.ref h0, .int x1, .int x2, .int x3, .int x4, .int x5, .int x6, v7] [] S I J Q := by
  have h := (Go.ite kt kf)
  exact Go.n tb_X12_feed 3 h
theorem b_X12_feed_70 {d : Nat} {S : zS} {I : zI} {J : zJ} {Q : zQ} {h0 : Nat} {x1 : Int32} {x2 : Int32} {x3 : Int32} {x4 : Int32} {x5 : Int32} {x6 : Int32} {v7 : Value} {I1 : zI} (g1 : z_kd S h0 = 13) (g2 : z_kd S h0 = 13) (g3 : ¬ (4 : Int32) = 0) (g4 : z_kd S (z_rv S h0 2) = 101 ∧ vp_in (I h0 3) (z_ln S (z_rv S h0 2))) (eI1 : I1 = z_u2 I (z_rv S h0 2) (Int32.toNatClampNeg (I h0 3)) (Int8.toInt32 (Int32.toInt8 (Int8.toInt32 (Int32.toInt8 (x4 >>> (((24 : Int32) - ((8 : Int32) * (x6 - x6 / (4 : Int32) * (4 : Int32)))) &&& 31))))))) (g6 : z_kd S h0 = 13) (g7 : z_kd S h0 = 13) (kk : Go d i_X12_feed 24 [.ref h0, .int x1, .int x2, .int x3, .int x4, .int x5, .int (x6 + (1 : Int32)), .int x4] [] S (z_u2 I1 h0 3 ((I1 h0 3) + (1 : Int32))) J Q) : Go d i_X12_feed 70 [.ref h0, .int x1, .int x2, .int x3, .int x4, .int x5, .int x6, v7] [] S I J Q := by
  subst eI1
  have h := (And.intro g1 (And.intro g2 (And.intro g3 (And.intro g4 (And.intro g6 (And.intro g7 kk))))))
  exact Go.n tb_X12_feed 26 h
theorem b_X12_feed_75 {d : Nat} {S : zS} {I : zI} {J : zJ} {Q : zQ} {h0 : Nat} {x1 : Int32} {x2 : Int32} {x3 : Int32} {x4 : Int32} {x5 : Int32} {x6 : Int32} {v7 : Value} {I1 : zI} (g1 : z_kd S h0 = 13) (g2 : z_kd S h0 = 13) (g3 : ¬ (4 : Int32) = 0) (g4 : z_kd S (z_rv S h0 2) = 101 ∧ vp_in (I h0 3) (z_ln S (z_rv S h0 2))) (eI1 : I1 = z_u2 I (z_rv S h0 2) (Int32.toNatClampNeg (I h0 3)) (Int8.toInt32 (Int32.toInt8 (Int8.toInt32 (Int32.toInt8 (x5 >>> (((24 : Int32) - ((8 : Int32) * (x6 - x6 / (4 : Int32) * (4 : Int32)))) &&& 31))))))) (g6 : z_kd S h0 = 13) (g7 : z_kd S h0 = 13) (kk : Go d i_X12_feed 24 [.ref h0, .int x1, .int x2, .int x3, .int x4, .int x5, .int (x6 + (1 : Int32)), .int x5] [] S (z_u2 I1 h0 3 ((I1 h0 3) + (1 : Int32))) J Q) : Go d i_X12_feed 75 [.ref h0, .int x1, .int x2, .int x3, .int x4, .int x5, .int x6, v7] [] S I J Q := by
  subst eI1
  have h := (And.intro g1 (And.intro g2 (And.intro g3 (And.intro g4 (And.intro g6 (And.intro g7 kk))))))
  exact Go.n tb_X12_feed 25 h
theorem b_X12_feed_118 {d : Nat} {S : zS} {I : zI} {J : zJ} {Q : zQ} {h0 : Nat} {x1 : Int32} {x2 : Int32} {x3 : Int32} {x4 : Int32} {x5 : Int32} {x6 : Int32} {v7 : Value} (g1 : z_kd S h0 = 13) (kk : Q (some (.int (I h0 3))) S I J) : Go d i_X12_feed 118 [.ref h0, .int x1, .int x2, .int x3, .int x4, .int x5, .int x6, v7] [] S I J Q := by
  have h := (And.intro g1 (And.intro trivial kk))
  exact Go.n tb_X12_feed 3 h
theorem w_X12_peek {d : Nat} {S : zS} {I : zI} {J : zJ} {Q : zQ} {h0 : Nat} (h : Go d i_X12_peek 0 [.ref h0] [] S I J Q) : z_wp (d + 1) i_X12_peek [.ref h0] S I J Q := Go.wp (Nat.le_of_ble_eq_true rfl) h
theorem e_X12_peek {d : Nat} {S S2 : zS} {I I2 : zI} {J J2 : zJ} {r : Option Value} {h0 : Nat} (h : Go d i_X12_peek 0 [.ref h0] [] S I J (z_eq r S2 I2 J2)) : z_ev (d + 1) i_X12_peek [.ref h0] S I J r S2 I2 J2 := Go.ev (Nat.le_of_ble_eq_true rfl) h
theorem b_X12_peek_0 {d : Nat} {S : zS} {I : zI} {J : zJ} {Q : zQ} {h0 : Nat} (g1 : z_kd S h0 = 13) (g2 : z_kd S h0 = 13) (kt : (I h0 4) ≤ (I h0 5) → Go d i_X12_peek 38 [.ref h0] [] S I J Q) (kf : ¬ (I h0 4) ≤ (I h0 5) → Go d i_X12_peek 11 [.ref h0] [] S I J Q) : Go d i_X12_peek 0 [.ref h0] [] S I J Q := by
  have h := (And.intro g1 (And.intro g2 (Go.ite kt kf)))
  exact Go.n tb_X12_peek 5 h
theorem b_X12_peek_11 {d : Nat} {S : zS} {I : zI} {J : zJ} {Q : zQ} {h0 : Nat} (g1 : z_kd S h0 = 13) (g2 : z_kd S h0 = 13) (g3 : z_isB (z_kd S (z_rv S h0 2)) = true ∧ vp_in (I h0 5) (z_ln S (z_rv S h0 2))) (kt : ¬ (I (z_rv S h0 2) (Int32.toNatClampNeg (I h0 5))) = (32 : Int32) → Go d i_X12_peek 38 [.ref h0] [] S I J Q) (kf : (I (z_rv S h0 2) (Int32.toNatClampNeg (I h0 5))) = (32 : Int32) → Go d i_X12_peek 25 [.ref h0] [] S I J Q) : Go d i_X12_peek 11 [.ref h0] [] S I J Q := by
  have h := (And.intro g1 (And.intro g2 (And.intro g3 (Go.eti kt kf))))
  exact Go.n tb_X12_peek 7 h
theorem b_X12_peek_25 {d : Nat} {S : zS} {I : zI} {J : zJ} {Q : zQ} {h0 : Nat} (g1 : z_kd S h0 = 13) (g2 : z_kd S h0 = 13) (kk : Go d i_X12_peek 0 [.ref h0] [] S (z_u2 I h0 5 ((I h0 5) + (1 : Int32))) J Q) : Go d i_X12_peek 25 [.ref h0] [] S I J Q := by
  have h := (And.intro g1 (And.intro g2 kk))
  exact Go.n tb_X12_peek 7 h
theorem b_X12_peek_38 {d : Nat} {S : zS} {I : zI} {J : zJ} {Q : zQ} {h0 : Nat} (g1 : z_kd S h0 = 13) (g2 : z_kd S h0 = 13) (kt : (I h0 4) ≤ (I h0 5) → Go d i_X12_peek 65 [.ref h0] [] S I J Q) (kf : ¬ (I h0 4) ≤ (I h0 5) → Go d i_X12_peek 49 [.ref h0] [] S I J Q) : Go d i_X12_peek 38 [.ref h0] [] S I J Q := by
  have h := (And.intro g1 (And.intro g2 (Go.ite kt kf)))
  exact Go.n tb_X12_peek 5 h
theorem b_X12_peek_49 {d : Nat} {S : zS} {I : zI} {J : zJ} {Q : zQ} {h0 : Nat} (g1 : z_kd S h0 = 13) (g2 : z_kd S h0 = 13) (g3 : z_isB (z_kd S (z_rv S h0 2)) = true ∧ vp_in (I h0 5) (z_ln S (z_rv S h0 2))) (kk : Q (some (.int ((I (z_rv S h0 2) (Int32.toNatClampNeg (I h0 5))) &&& (255 : Int32)))) S I J) : Go d i_X12_peek 49 [.ref h0] [] S I J Q := by
  have h := (And.intro g1 (And.intro g2 (And.intro g3 (And.intro trivial kk))))
  exact Go.n tb_X12_peek 9 h
theorem b_X12_peek_65 {d : Nat} {S : zS} {I : zI} {J : zJ} {Q : zQ} {h0 : Nat} (kk : Q (some (.int (-1 : Int32))) S I J) : Go d i_X12_peek 65 [.ref h0] [] S I J Q := by
  have h := (And.intro trivial kk)
  exact Go.n tb_X12_peek 2 h
theorem w_X12_fails {d : Nat} {S : zS} {I : zI} {J : zJ} {Q : zQ} {h0 : Nat} {x1 : Int32} {x2 : Int32} (h : Go d i_X12_fails 0 [.ref h0, .int x1, .int x2] [] S I J Q) : z_wp (d + 1) i_X12_fails [.ref h0, .int x1, .int x2] S I J Q := Go.wp (Nat.le_of_ble_eq_true rfl) h
theorem e_X12_fails {d : Nat} {S S2 : zS} {I I2 : zI} {J J2 : zJ} {r : Option Value} {h0 : Nat} {x1 : Int32} {x2 : Int32} (h : Go d i_X12_fails 0 [.ref h0, .int x1, .int x2] [] S I J (z_eq r S2 I2 J2)) : z_ev (d + 1) i_X12_fails [.ref h0, .int x1, .int x2] S I J r S2 I2 J2 := Go.ev (Nat.le_of_ble_eq_true rfl) h
theorem b_X12_fails_0 {d : Nat} {S : zS} {I : zI} {J : zJ} {Q : zQ} {h0 : Nat} {x1 : Int32} {x2 : Int32} (g1 : z_kd S h0 = 13) (kt : (I h0 6) = (0 : Int32) → Go d i_X12_fails 8 [.ref h0, .int x1, .int x2] [] S I J Q) (kf : ¬ (I h0 6) = (0 : Int32) → Go d i_X12_fails 7 [.ref h0, .int x1, .int x2] [] S I J Q) : Go d i_X12_fails 0 [.ref h0, .int x1, .int x2] [] S I J Q := by
  have h := (And.intro g1 (Go.ite kt kf))
  exact Go.n tb_X12_fails 3 h
theorem b_X12_fails_7 {d : Nat} {S : zS} {I : zI} {J : zJ} {Q : zQ} {h0 : Nat} {x1 : Int32} {x2 : Int32} (kk : Q none S I J) : Go d i_X12_fails 7 [.ref h0, .int x1, .int x2] [] S I J Q := by
  have h := (And.intro trivial kk)
  exact Go.n tb_X12_fails 1 h
theorem b_X12_fails_8 {d : Nat} {S : zS} {I : zI} {J : zJ} {Q : zQ} {h0 : Nat} {x1 : Int32} {x2 : Int32} (g1 : z_kd S h0 = 13) (g2 : z_kd S h0 = 13) (kk : Q none S (z_u2 (z_u2 I h0 6 x1) h0 7 x2) J) : Go d i_X12_fails 8 [.ref h0, .int x1, .int x2] [] S I J Q := by
  have h := (And.intro g1 (And.intro g2 (And.intro trivial kk)))
  exact Go.n tb_X12_fails 7 h
theorem w_X12_isLetter {d : Nat} {S : zS} {I : zI} {J : zJ} {Q : zQ} {x0 : Int32} (h : Go d i_X12_isLetter 0 [.int x0] [] S I J Q) : z_wp (d + 1) i_X12_isLetter [.int x0] S I J Q := Go.wp (Nat.le_of_ble_eq_true rfl) h
theorem e_X12_isLetter {d : Nat} {S S2 : zS} {I I2 : zI} {J J2 : zJ} {r : Option Value} {x0 : Int32} (h : Go d i_X12_isLetter 0 [.int x0] [] S I J (z_eq r S2 I2 J2)) : z_ev (d + 1) i_X12_isLetter [.int x0] S I J r S2 I2 J2 := Go.ev (Nat.le_of_ble_eq_true rfl) h
theorem b_X12_isLetter_0 {d : Nat} {S : zS} {I : zI} {J : zJ} {Q : zQ} {x0 : Int32} (kk : z_wp d i_X12_isIn [.long (Int32.toInt64 x0), .long (97 : Int64), .long (122 : Int64)] S I J (fun vv SS II JJ => Go d i_X12_isLetter 11 [.int x0] (vv.toList ++ []) SS II JJ Q)) : Go d i_X12_isLetter 0 [.int x0] [] S I J Q := by
  have h := (And.intro trivial kk)
  exact Go.n tb_X12_isLetter 5 h
theorem b_X12_isLetter_11 {d : Nat} {S : zS} {I : zI} {J : zJ} {Q : zQ} {x0 : Int32} {y0 : Int32} (g1 : z_fit 3 y0) (kk : Q (some (.int y0)) S I J) : Go d i_X12_isLetter 11 [.int x0] [.int y0] S I J Q := by
  have h := (And.intro g1 kk)
  exact Go.n tb_X12_isLetter 1 h
theorem w_X12_isDigit {d : Nat} {S : zS} {I : zI} {J : zJ} {Q : zQ} {x0 : Int32} (h : Go d i_X12_isDigit 0 [.int x0] [] S I J Q) : z_wp (d + 1) i_X12_isDigit [.int x0] S I J Q := Go.wp (Nat.le_of_ble_eq_true rfl) h
theorem e_X12_isDigit {d : Nat} {S S2 : zS} {I I2 : zI} {J J2 : zJ} {r : Option Value} {x0 : Int32} (h : Go d i_X12_isDigit 0 [.int x0] [] S I J (z_eq r S2 I2 J2)) : z_ev (d + 1) i_X12_isDigit [.int x0] S I J r S2 I2 J2 := Go.ev (Nat.le_of_ble_eq_true rfl) h
theorem b_X12_isDigit_0 {d : Nat} {S : zS} {I : zI} {J : zJ} {Q : zQ} {x0 : Int32} (kk : z_wp d i_X12_isIn [.long (Int32.toInt64 x0), .long (48 : Int64), .long (57 : Int64)] S I J (fun vv SS II JJ => Go d i_X12_isDigit 11 [.int x0] (vv.toList ++ []) SS II JJ Q)) : Go d i_X12_isDigit 0 [.int x0] [] S I J Q := by
  have h := (And.intro trivial kk)
  exact Go.n tb_X12_isDigit 5 h
theorem b_X12_isDigit_11 {d : Nat} {S : zS} {I : zI} {J : zJ} {Q : zQ} {x0 : Int32} {y0 : Int32} (g1 : z_fit 3 y0) (kk : Q (some (.int y0)) S I J) : Go d i_X12_isDigit 11 [.int x0] [.int y0] S I J Q := by
  have h := (And.intro g1 kk)
  exact Go.n tb_X12_isDigit 1 h
theorem w_X12_wordHere {d : Nat} {S : zS} {I : zI} {J : zJ} {Q : zQ} {h0 : Nat} (h : Go d i_X12_wordHere 0 [.ref h0, .retAddr 0, .retAddr 0, .retAddr 0, .retAddr 0, .retAddr 0, .retAddr 0] [] S I J Q) : z_wp (d + 1) i_X12_wordHere [.ref h0] S I J Q := Go.wp (Nat.le_of_ble_eq_true rfl) h
theorem e_X12_wordHere {d : Nat} {S S2 : zS} {I I2 : zI} {J J2 : zJ} {r : Option Value} {h0 : Nat} (h : Go d i_X12_wordHere 0 [.ref h0, .retAddr 0, .retAddr 0, .retAddr 0, .retAddr 0, .retAddr 0, .retAddr 0] [] S I J (z_eq r S2 I2 J2)) : z_ev (d + 1) i_X12_wordHere [.ref h0] S I J r S2 I2 J2 := Go.ev (Nat.le_of_ble_eq_true rfl) h
theorem b_X12_wordHere_0 {d : Nat} {S : zS} {I : zI} {J : zJ} {Q : zQ} {h0 : Nat} {v1 : Value} {v2 : Value} {v3 : Value} {v4 : Value} {v5 : Value} {v6 : Value} (g1 : z_kd S h0 = 13) (kt : ¬ (I h0 6) = (0 : Int32) → Go d i_X12_wordHere 17 [.ref h0, v1, v2, v3, v4, v5, v6] [] S I J Q) (kf : (I h0 6) = (0 : Int32) → Go d i_X12_wordHere 7 [.ref h0, v1, v2, v3, v4, v5, v6] [] S I J Q) : Go d i_X12_wordHere 0 [.ref h0, v1, v2, v3, v4, v5, v6] [] S I J Q := by
  have h := (And.intro g1 (Go.eti kt kf))
  exact Go.n tb_X12_wordHere 3 h
theorem b_X12_wordHere_7 {d : Nat} {S : zS} {I : zI} {J : zJ} {Q : zQ} {h0 : Nat} {v1 : Value} {v2 : Value} {v3 : Value} {v4 : Value} {v5 : Value} {v6 : Value} (g1 : z_kd S h0 = 13) (kk : z_wp d i_X12_peek [.ref h0] S I J (fun vv SS II JJ => Go d i_X12_wordHere 11 [.ref h0, v1, v2, v3, v4, v5, v6] (vv.toList ++ []) SS II JJ Q)) : Go d i_X12_wordHere 7 [.ref h0, v1, v2, v3, v4, v5, v6] [] S I J Q := by
  have h := (And.intro g1 kk)
  exact Go.n tb_X12_wordHere 2 h
theorem b_X12_wordHere_11 {d : Nat} {S : zS} {I : zI} {J : zJ} {Q : zQ} {h0 : Nat} {v1 : Value} {v2 : Value} {v3 : Value} {v4 : Value} {v5 : Value} {v6 : Value} {y0 : Int32} (kk : z_wp d i_X12_isLetter [.int y0] S I J (fun vv SS II JJ => Go d i_X12_wordHere 14 [.ref h0, v1, v2, v3, v4, v5, v6] (vv.toList ++ []) SS II JJ Q)) : Go d i_X12_wordHere 11 [.ref h0, v1, v2, v3, v4, v5, v6] [.int y0] S I J Q := by
  have h := (And.intro trivial kk)
  exact Go.n tb_X12_wordHere 1 h
theorem b_X12_wordHere_14 {d : Nat} {S : zS} {I : zI} {J : zJ} {Q : zQ} {h0 : Nat} {v1 : Value} {v2 : Value} {v3 : Value} {v4 : Value} {v5 : Value} {v6 : Value} {y0 : Int32} (kt : ¬ y0 = (0 : Int32) → Go d i_X12_wordHere 19 [.ref h0, v1, v2, v3, v4, v5, v6] [] S I J Q) (kf : y0 = (0 : Int32) → Go d i_X12_wordHere 17 [.ref h0, v1, v2, v3, v4, v5, v6] [] S I J Q) : Go d i_X12_wordHere 14 [.ref h0, v1, v2, v3, v4, v5, v6] [.int y0] S I J Q := by
  have h := (Go.eti kt kf)
  exact Go.n tb_X12_wordHere 1 h
theorem b_X12_wordHere_17 {d : Nat} {S : zS} {I : zI} {J : zJ} {Q : zQ} {h0 : Nat} {v1 : Value} {v2 : Value} {v3 : Value} {v4 : Value} {v5 : Value} {v6 : Value} (kk : Q (some (.int (-1 : Int32))) S I J) : Go d i_X12_wordHere 17 [.ref h0, v1, v2, v3, v4, v5, v6] [] S I J Q := by
  have h := (And.intro trivial kk)
  exact Go.n tb_X12_wordHere 2 h
theorem b_X12_wordHere_19 {d : Nat} {S : zS} {I : zI} {J : zJ} {Q : zQ} {h0 : Nat} {v1 : Value} {v2 : Value} {v3 : Value} {v4 : Value} {v5 : Value} {v6 : Value} (kk : Go d i_X12_wordHere 21 [.ref h0, .int (0 : Int32), v2, v3, v4, v5, v6] [] S I J Q) : Go d i_X12_wordHere 19 [.ref h0, v1, v2, v3, v4, v5, v6] [] S I J Q := by
  have h := kk
  exact Go.n tb_X12_wordHere 2 h
theorem b_X12_wordHere_21 {d : Nat} {S : zS} {I : zI} {J : zJ} {Q : zQ} {h0 : Nat} {x1 : Int32} {v2 : Value} {v3 : Value} {v4 : Value} {v5 : Value} {v6 : Value} (g1 : z_kd S h0 = 13) (g2 : z_kd S h0 = 13) (kt : (I h0 4) ≤ ((I h0 5) + x1) → Go d i_X12_wordHere 57 [.ref h0, .int x1, v2, v3, v4, v5, v6] [] S I J Q) (kf : ¬ (I h0 4) ≤ ((I h0 5) + x1) → Go d i_X12_wordHere 34 [.ref h0, .int x1, v2, v3, v4, v5, v6] [] S I J Q) : Go d i_X12_wordHere 21 [.ref h0, .int x1, v2, v3, v4, v5, v6] [] S I J Q := by
  have h := (And.intro g1 (And.intro g2 (Go.ite kt kf)))
  exact Go.n tb_X12_wordHere 7 h
theorem b_X12_wordHere_34 {d : Nat} {S : zS} {I : zI} {J : zJ} {Q : zQ} {h0 : Nat} {x1 : Int32} {v2 : Value} {v3 : Value} {v4 : Value} {v5 : Value} {v6 : Value} (g1 : z_kd S h0 = 13) (g2 : z_kd S h0 = 13) (g3 : z_isB (z_kd S (z_rv S h0 2)) = true ∧ vp_in ((I h0 5) + x1) (z_ln S (z_rv S h0 2))) (kk : z_wp d i_X12_isLetter [.int (I (z_rv S h0 2) (Int32.toNatClampNeg ((I h0 5) + x1)))] S I J (fun vv SS II JJ => Go d i_X12_wordHere 48 [.ref h0, .int x1, v2, v3, v4, v5, v6] (vv.toList ++ []) SS II JJ Q)) : Go d i_X12_wordHere 34 [.ref h0, .int x1, v2, v3, v4, v5, v6] [] S I J Q := by
  have h := (And.intro g1 (And.intro g2 (And.intro g3 (And.intro trivial kk))))
  exact Go.n tb_X12_wordHere 8 h
theorem b_X12_wordHere_48 {d : Nat} {S : zS} {I : zI} {J : zJ} {Q : zQ} {h0 : Nat} {x1 : Int32} {v2 : Value} {v3 : Value} {v4 : Value} {v5 : Value} {v6 : Value} {y0 : Int32} (kt : y0 = (0 : Int32) → Go d i_X12_wordHere 57 [.ref h0, .int x1, v2, v3, v4, v5, v6] [] S I J Q) (kf : ¬ y0 = (0 : Int32) → Go d i_X12_wordHere 51 [.ref h0, .int x1, v2, v3, v4, v5, v6] [] S I J Q) : Go d i_X12_wordHere 48 [.ref h0, .int x1, v2, v3, v4, v5, v6] [.int y0] S I J Q := by
  have h := (Go.ite kt kf)
  exact Go.n tb_X12_wordHere 1 h
theorem b_X12_wordHere_51 {d : Nat} {S : zS} {I : zI} {J : zJ} {Q : zQ} {h0 : Nat} {x1 : Int32} {v2 : Value} {v3 : Value} {v4 : Value} {v5 : Value} {v6 : Value} (kk : Go d i_X12_wordHere 21 [.ref h0, .int (x1 + (1 : Int32)), v2, v3, v4, v5, v6] [] S I J Q) : Go d i_X12_wordHere 51 [.ref h0, .int x1, v2, v3, v4, v5, v6] [] S I J Q := by
  have h := kk
  exact Go.n tb_X12_wordHere 2 h
theorem b_X12_wordHere_57 {d : Nat} {S : zS} {I : zI} {J : zJ} {Q : zQ} {h0 : Nat} {x1 : Int32} {v2 : Value} {v3 : Value} {v4 : Value} {v5 : Value} {v6 : Value} (kk : Go d i_X12_wordHere 61 [.ref h0, .int x1, .int (0 : Int32), .int (1 : Int32), v4, v5, v6] [] S I J Q) : Go d i_X12_wordHere 57 [.ref h0, .int x1, v2, v3, v4, v5, v6] [] S I J Q := by
  have h := kk
  exact Go.n tb_X12_wordHere 4 h
theorem b_X12_wordHere_61 {d : Nat} {S : zS} {I : zI} {J : zJ} {Q : zQ} {h0 : Nat} {x1 : Int32} {x2 : Int32} {x3 : Int32} {v4 : Value} {v5 : Value} {v6 : Value} (g1 : z_kd S (z_rv S 0 9) = 22) (kk : z_wp d i_J0_length_8abf5 [.ref (z_rv S 0 9)] S I J (fun vv SS II JJ => Go d i_X12_wordHere 67 [.ref h0, .int x1, .int x2, .int x3, v4, v5, v6] (vv.toList ++ [.int x3]) SS II JJ Q)) : Go d i_X12_wordHere 61 [.ref h0, .int x1, .int x2, .int x3, v4, v5, v6] [] S I J Q := by
  have h := (And.intro g1 kk)
  exact Go.n tb_X12_wordHere 3 h
theorem b_X12_wordHere_67 {d : Nat} {S : zS} {I : zI} {J : zJ} {Q : zQ} {h0 : Nat} {x1 : Int32} {x2 : Int32} {x3 : Int32} {v4 : Value} {v5 : Value} {v6 : Value} {y0 : Int32} {y1 : Int32} (kt : y1 ≤ y0 → Go d i_X12_wordHere 175 [.ref h0, .int x1, .int x2, .int x3, v4, v5, v6] [] S I J Q) (kf : ¬ y1 ≤ y0 → Go d i_X12_wordHere 70 [.ref h0, .int x1, .int x2, .int x3, v4, v5, v6] [] S I J Q) : Go d i_X12_wordHere 67 [.ref h0, .int x1, .int x2, .int x3, v4, v5, v6] [.int y1, .int y0] S I J Q := by
  have h := (Go.ite kt kf)
  exact Go.n tb_X12_wordHere 1 h
theorem b_X12_wordHere_70 {d : Nat} {S : zS} {I : zI} {J : zJ} {Q : zQ} {h0 : Nat} {x1 : Int32} {x2 : Int32} {x3 : Int32} {v4 : Value} {v5 : Value} {v6 : Value} (kk : Go d i_X12_wordHere 73 [.ref h0, .int x1, .int x2, .int x3, .int x3, v5, v6] [] S I J Q) : Go d i_X12_wordHere 70 [.ref h0, .int x1, .int x2, .int x3, v4, v5, v6] [] S I J Q := by
  have h := kk
  exact Go.n tb_X12_wordHere 2 h
theorem b_X12_wordHere_73 {d : Nat} {S : zS} {I : zI} {J : zJ} {Q : zQ} {h0 : Nat} {x1 : Int32} {x2 : Int32} {x3 : Int32} {x4 : Int32} {v5 : Value} {v6 : Value} (g1 : z_kd S (z_rv S 0 9) = 22) (kk : z_wp d i_J0_charAt_5068e [.ref (z_rv S 0 9), .int x4] S I J (fun vv SS II JJ => Go d i_X12_wordHere 80 [.ref h0, .int x1, .int x2, .int x3, .int x4, v5, v6] (vv.toList ++ []) SS II JJ Q)) : Go d i_X12_wordHere 73 [.ref h0, .int x1, .int x2, .int x3, .int x4, v5, v6] [] S I J Q := by
  have h := (And.intro g1 kk)
  exact Go.n tb_X12_wordHere 3 h
theorem b_X12_wordHere_80 {d : Nat} {S : zS} {I : zI} {J : zJ} {Q : zQ} {h0 : Nat} {x1 : Int32} {x2 : Int32} {x3 : Int32} {x4 : Int32} {v5 : Value} {v6 : Value} {y0 : Int32} (kt : y0 = (32 : Int32) → Go d i_X12_wordHere 91 [.ref h0, .int x1, .int x2, .int x3, .int x4, v5, v6] [] S I J Q) (kf : ¬ y0 = (32 : Int32) → Go d i_X12_wordHere 85 [.ref h0, .int x1, .int x2, .int x3, .int x4, v5, v6] [] S I J Q) : Go d i_X12_wordHere 80 [.ref h0, .int x1, .int x2, .int x3, .int x4, v5, v6] [.int y0] S I J Q := by
  have h := (Go.ite kt kf)
  exact Go.n tb_X12_wordHere 2 h
theorem b_X12_wordHere_85 {d : Nat} {S : zS} {I : zI} {J : zJ} {Q : zQ} {h0 : Nat} {x1 : Int32} {x2 : Int32} {x3 : Int32} {x4 : Int32} {v5 : Value} {v6 : Value} (kk : Go d i_X12_wordHere 73 [.ref h0, .int x1, .int x2, .int x3, .int (x4 + (1 : Int32)), v5, v6] [] S I J Q) : Go d i_X12_wordHere 85 [.ref h0, .int x1, .int x2, .int x3, .int x4, v5, v6] [] S I J Q := by
  have h := kk
  exact Go.n tb_X12_wordHere 2 h
theorem b_X12_wordHere_91 {d : Nat} {S : zS} {I : zI} {J : zJ} {Q : zQ} {h0 : Nat} {x1 : Int32} {x2 : Int32} {x3 : Int32} {x4 : Int32} {v5 : Value} {v6 : Value} (kt : ¬ (x4 - x3) = x1 → Go d i_X12_wordHere 103 [.ref h0, .int x1, .int x2, .int x3, .int x4, v5, v6] [] S I J Q) (kf : (x4 - x3) = x1 → Go d i_X12_wordHere 99 [.ref h0, .int x1, .int x2, .int x3, .int x4, v5, v6] [] S I J Q) : Go d i_X12_wordHere 91 [.ref h0, .int x1, .int x2, .int x3, .int x4, v5, v6] [] S I J Q := by
  have h := (Go.eti kt kf)
  exact Go.n tb_X12_wordHere 5 h
theorem b_X12_wordHere_99 {d : Nat} {S : zS} {I : zI} {J : zJ} {Q : zQ} {h0 : Nat} {x1 : Int32} {x2 : Int32} {x3 : Int32} {x4 : Int32} {v5 : Value} {v6 : Value} (kk : Go d i_X12_wordHere 109 [.ref h0, .int x1, .int x2, .int x3, .int x4, .int (1 : Int32), .int (0 : Int32)] [] S I J Q) : Go d i_X12_wordHere 99 [.ref h0, .int x1, .int x2, .int x3, .int x4, v5, v6] [] S I J Q := by
  have h := kk
  exact Go.n tb_X12_wordHere 5 h
theorem b_X12_wordHere_103 {d : Nat} {S : zS} {I : zI} {J : zJ} {Q : zQ} {h0 : Nat} {x1 : Int32} {x2 : Int32} {x3 : Int32} {x4 : Int32} {v5 : Value} {v6 : Value} (kk : Go d i_X12_wordHere 109 [.ref h0, .int x1, .int x2, .int x3, .int x4, .int (0 : Int32), .int (0 : Int32)] [] S I J Q) : Go d i_X12_wordHere 103 [.ref h0, .int x1, .int x2, .int x3, .int x4, v5, v6] [] S I J Q := by
  have h := kk
  exact Go.n tb_X12_wordHere 4 h
theorem b_X12_wordHere_109 {d : Nat} {S : zS} {I : zI} {J : zJ} {Q : zQ} {h0 : Nat} {x1 : Int32} {x2 : Int32} {x3 : Int32} {x4 : Int32} {x5 : Int32} {x6 : Int32} (kt : x1 ≤ x6 → Go d i_X12_wordHere 157 [.ref h0, .int x1, .int x2, .int x3, .int x4, .int x5, .int x6] [] S I J Q) (kf : ¬ x1 ≤ x6 → Go d i_X12_wordHere 115 [.ref h0, .int x1, .int x2, .int x3, .int x4, .int x5, .int x6] [] S I J Q) : Go d i_X12_wordHere 109 [.ref h0, .int x1, .int x2, .int x3, .int x4, .int x5, .int x6] [] S I J Q := by
  have h := (Go.ite kt kf)
  exact Go.n tb_X12_wordHere 3 h
theorem b_X12_wordHere_115 {d : Nat} {S : zS} {I : zI} {J : zJ} {Q : zQ} {h0 : Nat} {x1 : Int32} {x2 : Int32} {x3 : Int32} {x4 : Int32} {x5 : Int32} {x6 : Int32} (kt : x5 = (0 : Int32) → Go d i_X12_wordHere 157 [.ref h0, .int x1, .int x2, .int x3, .int x4, .int x5, .int x6] [] S I J Q) (kf : ¬ x5 = (0 : Int32) → Go d i_X12_wordHere 120 [.ref h0, .int x1, .int x2, .int x3, .int x4, .int x5, .int x6] [] S I J Q) : Go d i_X12_wordHere 115 [.ref h0, .int x1, .int x2, .int x3, .int x4, .int x5, .int x6] [] S I J Q := by
  have h := (Go.ite kt kf)
  exact Go.n tb_X12_wordHere 2 h
theorem b_X12_wordHere_120 {d : Nat} {S : zS} {I : zI} {J : zJ} {Q : zQ} {h0 : Nat} {x1 : Int32} {x2 : Int32} {x3 : Int32} {x4 : Int32} {x5 : Int32} {x6 : Int32} (g1 : z_kd S (z_rv S 0 9) = 22) (kk : z_wp d i_J0_charAt_5068e [.ref (z_rv S 0 9), .int (x3 + x6)] S I J (fun vv SS II JJ => Go d i_X12_wordHere 129 [.ref h0, .int x1, .int x2, .int x3, .int x4, .int x5, .int x6] (vv.toList ++ []) SS II JJ Q)) : Go d i_X12_wordHere 120 [.ref h0, .int x1, .int x2, .int x3, .int x4, .int x5, .int x6] [] S I J Q := by
  have h := (And.intro g1 kk)
  exact Go.n tb_X12_wordHere 5 h
theorem b_X12_wordHere_129 {d : Nat} {S : zS} {I : zI} {J : zJ} {Q : zQ} {h0 : Nat} {x1 : Int32} {x2 : Int32} {x3 : Int32} {x4 : Int32} {x5 : Int32} {x6 : Int32} {y0 : Int32} (g1 : z_kd S h0 = 13) (g2 : z_kd S h0 = 13) (g3 : z_isB (z_kd S (z_rv S h0 2)) = true ∧ vp_in ((I h0 5) + x6) (z_ln S (z_rv S h0 2))) (kt : ¬ y0 = (I (z_rv S h0 2) (Int32.toNatClampNeg ((I h0 5) + x6))) → Go d i_X12_wordHere 148 [.ref h0, .int x1, .int x2, .int x3, .int x4, .int x5, .int x6] [] S I J Q) (kf : y0 = (I (z_rv S h0 2) (Int32.toNatClampNeg ((I h0 5) + x6))) → Go d i_X12_wordHere 144 [.ref h0, .int x1, .int x2, .int x3, .int x4, .int x5, .int x6] [] S I J Q) : Go d i_X12_wordHere 129 [.ref h0, .int x1, .int x2, .int x3, .int x4, .int x5, .int x6] [.int y0] S I J Q := by
  have h := (And.intro g1 (And.intro g2 (And.intro g3 (Go.eti kt kf))))
  exact Go.n tb_X12_wordHere 8 h
theorem b_X12_wordHere_144 {d : Nat} {S : zS} {I : zI} {J : zJ} {Q : zQ} {h0 : Nat} {x1 : Int32} {x2 : Int32} {x3 : Int32} {x4 : Int32} {x5 : Int32} {x6 : Int32} (kk : Go d i_X12_wordHere 109 [.ref h0, .int x1, .int x2, .int x3, .int x4, .int (1 : Int32), .int (x6 + (1 : Int32))] [] S I J Q) : Go d i_X12_wordHere 144 [.ref h0, .int x1, .int x2, .int x3, .int x4, .int x5, .int x6] [] S I J Q := by
  have h := kk
  exact Go.n tb_X12_wordHere 5 h
theorem b_X12_wordHere_148 {d : Nat} {S : zS} {I : zI} {J : zJ} {Q : zQ} {h0 : Nat} {x1 : Int32} {x2 : Int32} {x3 : Int32} {x4 : Int32} {x5 : Int32} {x6 : Int32} (kk : Go d i_X12_wordHere 109 [.ref h0, .int x1, .int x2, .int x3, .int x4, .int (0 : Int32), .int (x6 + (1 : Int32))] [] S I J Q) : Go d i_X12_wordHere 148 [.ref h0, .int x1, .int x2, .int x3, .int x4, .int x5, .int x6] [] S I J Q := by
  have h := kk
  exact Go.n tb_X12_wordHere 4 h
theorem b_X12_wordHere_157 {d : Nat} {S : zS} {I : zI} {J : zJ} {Q : zQ} {h0 : Nat} {x1 : Int32} {x2 : Int32} {x3 : Int32} {x4 : Int32} {x5 : Int32} {x6 : Int32} (kt : x5 = (0 : Int32) → Go d i_X12_wordHere 164 [.ref h0, .int x1, .int x2, .int x3, .int x4, .int x5, .int x6] [] S I J Q) (kf : ¬ x5 = (0 : Int32) → Go d i_X12_wordHere 162 [.ref h0, .int x1, .int x2, .int x3, .int x4, .int x5, .int x6] [] S I J Q) : Go d i_X12_wordHere 157 [.ref h0, .int x1, .int x2, .int x3, .int x4, .int x5, .int x6] [] S I J Q := by
  have h := (Go.ite kt kf)
  exact Go.n tb_X12_wordHere 2 h
theorem b_X12_wordHere_162 {d : Nat} {S : zS} {I : zI} {J : zJ} {Q : zQ} {h0 : Nat} {x1 : Int32} {x2 : Int32} {x3 : Int32} {x4 : Int32} {x5 : Int32} {x6 : Int32} (kk : Q (some (.int x2)) S I J) : Go d i_X12_wordHere 162 [.ref h0, .int x1, .int x2, .int x3, .int x4, .int x5, .int x6] [] S I J Q := by
  have h := (And.intro trivial kk)
  exact Go.n tb_X12_wordHere 2 h
theorem b_X12_wordHere_164 {d : Nat} {S : zS} {I : zI} {J : zJ} {Q : zQ} {h0 : Nat} {x1 : Int32} {x2 : Int32} {x3 : Int32} {x4 : Int32} {x5 : Int32} {x6 : Int32} (kk : Go d i_X12_wordHere 61 [.ref h0, .int x1, .int (x2 + (1 : Int32)), .int (x4 + (1 : Int32)), .int x4, .int x5, .int x6] [] S I J Q) : Go d i_X12_wordHere 164 [.ref h0, .int x1, .int x2, .int x3, .int x4, .int x5, .int x6] [] S I J Q := by
  have h := kk
  exact Go.n tb_X12_wordHere 6 h
theorem b_X12_wordHere_175 {d : Nat} {S : zS} {I : zI} {J : zJ} {Q : zQ} {h0 : Nat} {x1 : Int32} {x2 : Int32} {x3 : Int32} {v4 : Value} {v5 : Value} {v6 : Value} (kk : Q (some (.int (-1 : Int32))) S I J) : Go d i_X12_wordHere 175 [.ref h0, .int x1, .int x2, .int x3, v4, v5, v6] [] S I J Q := by
  have h := (And.intro trivial kk)
  exact Go.n tb_X12_wordHere 2 h
theorem w_X12_passesWord {d : Nat} {S : zS} {I : zI} {J : zJ} {Q : zQ} {h0 : Nat} (h : Go d i_X12_passesWord 0 [.ref h0] [] S I J Q) : z_wp (d + 1) i_X12_passesWord [.ref h0] S I J Q := Go.wp (Nat.le_of_ble_eq_true rfl) h
theorem e_X12_passesWord {d : Nat} {S S2 : zS} {I I2 : zI} {J J2 : zJ} {r : Option Value} {h0 : Nat} (h : Go d i_X12_passesWord 0 [.ref h0] [] S I J (z_eq r S2 I2 J2)) : z_ev (d + 1) i_X12_passesWord [.ref h0] S I J r S2 I2 J2 := Go.ev (Nat.le_of_ble_eq_true rfl) h
theorem b_X12_passesWord_0 {d : Nat} {S : zS} {I : zI} {J : zJ} {Q : zQ} {h0 : Nat} (g1 : z_kd S h0 = 13) (g2 : z_kd S h0 = 13) (kt : (I h0 4) ≤ (I h0 5) → Go d i_X12_passesWord 39 [.ref h0] [] S I J Q) (kf : ¬ (I h0 4) ≤ (I h0 5) → Go d i_X12_passesWord 11 [.ref h0] [] S I J Q) : Go d i_X12_passesWord 0 [.ref h0] [] S I J Q := by
  have h := (And.intro g1 (And.intro g2 (Go.ite kt kf)))
  exact Go.n tb_X12_passesWord 5 h
theorem b_X12_passesWord_11 {d : Nat} {S : zS} {I : zI} {J : zJ} {Q : zQ} {h0 : Nat} (g1 : z_kd S h0 = 13) (g2 : z_kd S h0 = 13) (g3 : z_isB (z_kd S (z_rv S h0 2)) = true ∧ vp_in (I h0 5) (z_ln S (z_rv S h0 2))) (kk : z_wp d i_X12_isLetter [.int (I (z_rv S h0 2) (Int32.toNatClampNeg (I h0 5)))] S I J (fun vv SS II JJ => Go d i_X12_passesWord 23 [.ref h0] (vv.toList ++ []) SS II JJ Q)) : Go d i_X12_passesWord 11 [.ref h0] [] S I J Q := by
  have h := (And.intro g1 (And.intro g2 (And.intro g3 (And.intro trivial kk))))
  exact Go.n tb_X12_passesWord 6 h
theorem b_X12_passesWord_23 {d : Nat} {S : zS} {I : zI} {J : zJ} {Q : zQ} {h0 : Nat} {y0 : Int32} (kt : y0 = (0 : Int32) → Go d i_X12_passesWord 39 [.ref h0] [] S I J Q) (kf : ¬ y0 = (0 : Int32) → Go d i_X12_passesWord 26 [.ref h0] [] S I J Q) : Go d i_X12_passesWord 23 [.ref h0] [.int y0] S I J Q := by
  have h := (Go.ite kt kf)
  exact Go.n tb_X12_passesWord 1 h
theorem b_X12_passesWord_26 {d : Nat} {S : zS} {I : zI} {J : zJ} {Q : zQ} {h0 : Nat} (g1 : z_kd S h0 = 13) (g2 : z_kd S h0 = 13) (kk : Go d i_X12_passesWord 0 [.ref h0] [] S (z_u2 I h0 5 ((I h0 5) + (1 : Int32))) J Q) : Go d i_X12_passesWord 26 [.ref h0] [] S I J Q := by
  have h := (And.intro g1 (And.intro g2 kk))
  exact Go.n tb_X12_passesWord 7 h
theorem b_X12_passesWord_39 {d : Nat} {S : zS} {I : zI} {J : zJ} {Q : zQ} {h0 : Nat} (kk : Q none S I J) : Go d i_X12_passesWord 39 [.ref h0] [] S I J Q := by
  have h := (And.intro trivial kk)
  exact Go.n tb_X12_passesWord 1 h
theorem w_X12_must {d : Nat} {S : zS} {I : zI} {J : zJ} {Q : zQ} {h0 : Nat} {x1 : Int32} (h : Go d i_X12_must 0 [.ref h0, .int x1] [] S I J Q) : z_wp (d + 1) i_X12_must [.ref h0, .int x1] S I J Q := Go.wp (Nat.le_of_ble_eq_true rfl) h
theorem e_X12_must {d : Nat} {S S2 : zS} {I I2 : zI} {J J2 : zJ} {r : Option Value} {h0 : Nat} {x1 : Int32} (h : Go d i_X12_must 0 [.ref h0, .int x1] [] S I J (z_eq r S2 I2 J2)) : z_ev (d + 1) i_X12_must [.ref h0, .int x1] S I J r S2 I2 J2 := Go.ev (Nat.le_of_ble_eq_true rfl) h
theorem b_X12_must_0 {d : Nat} {S : zS} {I : zI} {J : zJ} {Q : zQ} {h0 : Nat} {x1 : Int32} (g1 : z_kd S h0 = 13) (kt : ¬ (I h0 6) = (0 : Int32) → Go d i_X12_must 24 [.ref h0, .int x1] [] S I J Q) (kf : (I h0 6) = (0 : Int32) → Go d i_X12_must 7 [.ref h0, .int x1] [] S I J Q) : Go d i_X12_must 0 [.ref h0, .int x1] [] S I J Q := by
  have h := (And.intro g1 (Go.eti kt kf))
  exact Go.n tb_X12_must 3 h
theorem b_X12_must_7 {d : Nat} {S : zS} {I : zI} {J : zJ} {Q : zQ} {h0 : Nat} {x1 : Int32} (g1 : z_kd S h0 = 13) (kk : z_wp d i_X12_peek [.ref h0] S I J (fun vv SS II JJ => Go d i_X12_must 11 [.ref h0, .int x1] (vv.toList ++ []) SS II JJ Q)) : Go d i_X12_must 7 [.ref h0, .int x1] [] S I J Q := by
  have h := (And.intro g1 kk)
  exact Go.n tb_X12_must 2 h
theorem b_X12_must_11 {d : Nat} {S : zS} {I : zI} {J : zJ} {Q : zQ} {h0 : Nat} {x1 : Int32} {y0 : Int32} (kt : y0 = x1 → Go d i_X12_must 24 [.ref h0, .int x1] [] S I J Q) (kf : ¬ y0 = x1 → Go d i_X12_must 15 [.ref h0, .int x1] [] S I J Q) : Go d i_X12_must 11 [.ref h0, .int x1] [.int y0] S I J Q := by
  have h := (Go.ite kt kf)
  exact Go.n tb_X12_must 2 h
theorem b_X12_must_15 {d : Nat} {S : zS} {I : zI} {J : zJ} {Q : zQ} {h0 : Nat} {x1 : Int32} (g1 : z_kd S h0 = 13) (g2 : z_kd S h0 = 13) (kk : z_wp d i_X12_fails [.ref h0, .int (1 : Int32), .int (I h0 5)] S I J (fun vv SS II JJ => Go d i_X12_must 24 [.ref h0, .int x1] (vv.toList ++ []) SS II JJ Q)) : Go d i_X12_must 15 [.ref h0, .int x1] [] S I J Q := by
  have h := (And.intro g1 (And.intro g2 kk))
  exact Go.n tb_X12_must 5 h
theorem b_X12_must_24 {d : Nat} {S : zS} {I : zI} {J : zJ} {Q : zQ} {h0 : Nat} {x1 : Int32} (g1 : z_kd S h0 = 13) (g2 : z_kd S h0 = 13) (kk : Q none S (z_u2 I h0 5 ((I h0 5) + (1 : Int32))) J) : Go d i_X12_must 24 [.ref h0, .int x1] [] S I J Q := by
  have h := (And.intro g1 (And.intro g2 (And.intro trivial kk)))
  exact Go.n tb_X12_must 7 h
theorem w_X12_numeral {d : Nat} {S : zS} {I : zI} {J : zJ} {Q : zQ} {h0 : Nat} {x1 : Int32} {x2 : Int32} (h : Go d i_X12_numeral 0 [.ref h0, .int x1, .int x2, .retAddr 0, .retAddr 0] [] S I J Q) : z_wp (d + 1) i_X12_numeral [.ref h0, .int x1, .int x2] S I J Q := Go.wp (Nat.le_of_ble_eq_true rfl) h
theorem e_X12_numeral {d : Nat} {S S2 : zS} {I I2 : zI} {J J2 : zJ} {r : Option Value} {h0 : Nat} {x1 : Int32} {x2 : Int32} (h : Go d i_X12_numeral 0 [.ref h0, .int x1, .int x2, .retAddr 0, .retAddr 0] [] S I J (z_eq r S2 I2 J2)) : z_ev (d + 1) i_X12_numeral [.ref h0, .int x1, .int x2] S I J r S2 I2 J2 := Go.ev (Nat.le_of_ble_eq_true rfl) h
theorem b_X12_numeral_0 {d : Nat} {S : zS} {I : zI} {J : zJ} {Q : zQ} {h0 : Nat} {x1 : Int32} {x2 : Int32} {v3 : Value} {v4 : Value} (g1 : z_kd S h0 = 13) (kt : (I h0 6) = (0 : Int32) → Go d i_X12_numeral 9 [.ref h0, .int x1, .int x2, v3, v4] [] S I J Q) (kf : ¬ (I h0 6) = (0 : Int32) → Go d i_X12_numeral 7 [.ref h0, .int x1, .int x2, v3, v4] [] S I J Q) : Go d i_X12_numeral 0 [.ref h0, .int x1, .int x2, v3, v4] [] S I J Q := by
  have h := (And.intro g1 (Go.ite kt kf))
  exact Go.n tb_X12_numeral 3 h
theorem b_X12_numeral_7 {d : Nat} {S : zS} {I : zI} {J : zJ} {Q : zQ} {h0 : Nat} {x1 : Int32} {x2 : Int32} {v3 : Value} {v4 : Value} (kk : Q (some (.int x1)) S I J) : Go d i_X12_numeral 7 [.ref h0, .int x1, .int x2, v3, v4] [] S I J Q := by
  have h := (And.intro trivial kk)
  exact Go.n tb_X12_numeral 2 h
theorem b_X12_numeral_9 {d : Nat} {S : zS} {I : zI} {J : zJ} {Q : zQ} {h0 : Nat} {x1 : Int32} {x2 : Int32} {v3 : Value} {v4 : Value} (g1 : z_kd S h0 = 13) (kk : z_wp d i_X12_peek [.ref h0] S I J (fun vv SS II JJ => Go d i_X12_numeral 13 [.ref h0, .int x1, .int x2, v3, v4] (vv.toList ++ []) SS II JJ Q)) : Go d i_X12_numeral 9 [.ref h0, .int x1, .int x2, v3, v4] [] S I J Q := by
  have h := (And.intro g1 kk)
  exact Go.n tb_X12_numeral 2 h
theorem b_X12_numeral_13 {d : Nat} {S : zS} {I : zI} {J : zJ} {Q : zQ} {h0 : Nat} {x1 : Int32} {x2 : Int32} {v3 : Value} {v4 : Value} {y0 : Int32} (kk : z_wp d i_X12_isDigit [.int y0] S I J (fun vv SS II JJ => Go d i_X12_numeral 16 [.ref h0, .int x1, .int x2, v3, v4] (vv.toList ++ []) SS II JJ Q)) : Go d i_X12_numeral 13 [.ref h0, .int x1, .int x2, v3, v4] [.int y0] S I J Q := by
  have h := (And.intro trivial kk)
  exact Go.n tb_X12_numeral 1 h
theorem b_X12_numeral_16 {d : Nat} {S : zS} {I : zI} {J : zJ} {Q : zQ} {h0 : Nat} {x1 : Int32} {x2 : Int32} {v3 : Value} {v4 : Value} {y0 : Int32} (kt : ¬ y0 = (0 : Int32) → Go d i_X12_numeral 30 [.ref h0, .int x1, .int x2, v3, v4] [] S I J Q) (kf : y0 = (0 : Int32) → Go d i_X12_numeral 19 [.ref h0, .int x1, .int x2, v3, v4] [] S I J Q) : Go d i_X12_numeral 16 [.ref h0, .int x1, .int x2, v3, v4] [.int y0] S I J Q := by
  have h := (Go.eti kt kf)
  exact Go.n tb_X12_numeral 1 h
theorem b_X12_numeral_19 {d : Nat} {S : zS} {I : zI} {J : zJ} {Q : zQ} {h0 : Nat} {x1 : Int32} {x2 : Int32} {v3 : Value} {v4 : Value} (g1 : z_kd S h0 = 13) (g2 : z_kd S h0 = 13) (kk : z_wp d i_X12_fails [.ref h0, .int (1 : Int32), .int (I h0 5)] S I J (fun vv SS II JJ => Go d i_X12_numeral 28 [.ref h0, .int x1, .int x2, v3, v4] (vv.toList ++ []) SS II JJ Q)) : Go d i_X12_numeral 19 [.ref h0, .int x1, .int x2, v3, v4] [] S I J Q := by
  have h := (And.intro g1 (And.intro g2 kk))
  exact Go.n tb_X12_numeral 5 h
theorem b_X12_numeral_28 {d : Nat} {S : zS} {I : zI} {J : zJ} {Q : zQ} {h0 : Nat} {x1 : Int32} {x2 : Int32} {v3 : Value} {v4 : Value} (kk : Q (some (.int x1)) S I J) : Go d i_X12_numeral 28 [.ref h0, .int x1, .int x2, v3, v4] [] S I J Q := by
  have h := (And.intro trivial kk)
  exact Go.n tb_X12_numeral 2 h
theorem b_X12_numeral_30 {d : Nat} {S : zS} {I : zI} {J : zJ} {Q : zQ} {h0 : Nat} {x1 : Int32} {x2 : Int32} {v3 : Value} {v4 : Value} (g1 : z_kd S h0 = 13) (kk : Go d i_X12_numeral 38 [.ref h0, .int x1, .int x2, .int (I h0 5), .int (0 : Int32)] [] S I J Q) : Go d i_X12_numeral 30 [.ref h0, .int x1, .int x2, v3, v4] [] S I J Q := by
  have h := (And.intro g1 kk)
  exact Go.n tb_X12_numeral 5 h
theorem b_X12_numeral_38 {d : Nat} {S : zS} {I : zI} {J : zJ} {Q : zQ} {h0 : Nat} {x1 : Int32} {x2 : Int32} {x3 : Int32} {x4 : Int32} (g1 : z_kd S h0 = 13) (g2 : z_kd S h0 = 13) (kt : (I h0 4) ≤ (I h0 5) → Go d i_X12_numeral 107 [.ref h0, .int x1, .int x2, .int x3, .int x4] [] S I J Q) (kf : ¬ (I h0 4) ≤ (I h0 5) → Go d i_X12_numeral 49 [.ref h0, .int x1, .int x2, .int x3, .int x4] [] S I J Q) : Go d i_X12_numeral 38 [.ref h0, .int x1, .int x2, .int x3, .int x4] [] S I J Q := by
  have h := (And.intro g1 (And.intro g2 (Go.ite kt kf)))
  exact Go.n tb_X12_numeral 5 h
theorem b_X12_numeral_49 {d : Nat} {S : zS} {I : zI} {J : zJ} {Q : zQ} {h0 : Nat} {x1 : Int32} {x2 : Int32} {x3 : Int32} {x4 : Int32} (g1 : z_kd S h0 = 13) (g2 : z_kd S h0 = 13) (g3 : z_isB (z_kd S (z_rv S h0 2)) = true ∧ vp_in (I h0 5) (z_ln S (z_rv S h0 2))) (kk : z_wp d i_X12_isDigit [.int (I (z_rv S h0 2) (Int32.toNatClampNeg (I h0 5)))] S I J (fun vv SS II JJ => Go d i_X12_numeral 61 [.ref h0, .int x1, .int x2, .int x3, .int x4] (vv.toList ++ []) SS II JJ Q)) : Go d i_X12_numeral 49 [.ref h0, .int x1, .int x2, .int x3, .int x4] [] S I J Q := by
  have h := (And.intro g1 (And.intro g2 (And.intro g3 (And.intro trivial kk))))
  exact Go.n tb_X12_numeral 6 h
theorem b_X12_numeral_61 {d : Nat} {S : zS} {I : zI} {J : zJ} {Q : zQ} {h0 : Nat} {x1 : Int32} {x2 : Int32} {x3 : Int32} {x4 : Int32} {y0 : Int32} (kt : y0 = (0 : Int32) → Go d i_X12_numeral 107 [.ref h0, .int x1, .int x2, .int x3, .int x4] [] S I J Q) (kf : ¬ y0 = (0 : Int32) → Go d i_X12_numeral 64 [.ref h0, .int x1, .int x2, .int x3, .int x4] [] S I J Q) : Go d i_X12_numeral 61 [.ref h0, .int x1, .int x2, .int x3, .int x4] [.int y0] S I J Q := by
  have h := (Go.ite kt kf)
  exact Go.n tb_X12_numeral 1 h
theorem b_X12_numeral_64 {d : Nat} {S : zS} {I : zI} {J : zJ} {Q : zQ} {h0 : Nat} {x1 : Int32} {x2 : Int32} {x3 : Int32} {x4 : Int32} (g1 : z_kd S h0 = 13) (kt : (2 : Int32) ≤ ((I h0 5) - x3) → Go d i_X12_numeral 94 [.ref h0, .int x1, .int x2, .int x3, .int x4] [] S I J Q) (kf : ¬ (2 : Int32) ≤ ((I h0 5) - x3) → Go d i_X12_numeral 74 [.ref h0, .int x1, .int x2, .int x3, .int x4] [] S I J Q) : Go d i_X12_numeral 64 [.ref h0, .int x1, .int x2, .int x3, .int x4] [] S I J Q := by
  have h := (And.intro g1 (Go.ite kt kf))
  exact Go.n tb_X12_numeral 6 h
theorem b_X12_numeral_74 {d : Nat} {S : zS} {I : zI} {J : zJ} {Q : zQ} {h0 : Nat} {x1 : Int32} {x2 : Int32} {x3 : Int32} {x4 : Int32} (g1 : z_kd S h0 = 13) (g2 : z_kd S h0 = 13) (g3 : z_isB (z_kd S (z_rv S h0 2)) = true ∧ vp_in (I h0 5) (z_ln S (z_rv S h0 2))) (g4 : z_kd S h0 = 13) (g5 : z_kd S h0 = 13) (kk : Go d i_X12_numeral 38 [.ref h0, .int x1, .int x2, .int x3, .int ((((10 : Int32) * x4) + (I (z_rv S h0 2) (Int32.toNatClampNeg (I h0 5)))) - (48 : Int32))] [] S (z_u2 I h0 5 ((I h0 5) + (1 : Int32))) J Q) : Go d i_X12_numeral 74 [.ref h0, .int x1, .int x2, .int x3, .int x4] [] S I J Q := by
  have h := (And.intro g1 (And.intro g2 (And.intro g3 (And.intro g4 (And.intro g5 kk)))))
  exact Go.n tb_X12_numeral 19 h
theorem b_X12_numeral_94 {d : Nat} {S : zS} {I : zI} {J : zJ} {Q : zQ} {h0 : Nat} {x1 : Int32} {x2 : Int32} {x3 : Int32} {x4 : Int32} (g1 : z_kd S h0 = 13) (g2 : z_kd S h0 = 13) (kk : Go d i_X12_numeral 38 [.ref h0, .int x1, .int x2, .int x3, .int x4] [] S (z_u2 I h0 5 ((I h0 5) + (1 : Int32))) J Q) : Go d i_X12_numeral 94 [.ref h0, .int x1, .int x2, .int x3, .int x4] [] S I J Q := by
  have h := (And.intro g1 (And.intro g2 kk))
  exact Go.n tb_X12_numeral 7 h
theorem b_X12_numeral_107 {d : Nat} {S : zS} {I : zI} {J : zJ} {Q : zQ} {h0 : Nat} {x1 : Int32} {x2 : Int32} {x3 : Int32} {x4 : Int32} (g1 : z_kd S h0 = 13) (kt : (2 : Int32) < ((I h0 5) - x3) → Go d i_X12_numeral 130 [.ref h0, .int x1, .int x2, .int x3, .int x4] [] S I J Q) (kf : ¬ (2 : Int32) < ((I h0 5) - x3) → Go d i_X12_numeral 117 [.ref h0, .int x1, .int x2, .int x3, .int x4] [] S I J Q) : Go d i_X12_numeral 107 [.ref h0, .int x1, .int x2, .int x3, .int x4] [] S I J Q := by
  have h := (And.intro g1 (Go.ite kt kf))
  exact Go.n tb_X12_numeral 6 h
theorem b_X12_numeral_117 {d : Nat} {S : zS} {I : zI} {J : zJ} {Q : zQ} {h0 : Nat} {x1 : Int32} {x2 : Int32} {x3 : Int32} {x4 : Int32} (kk : z_wp d i_X12_isIn [.long (Int32.toInt64 x4), .long (Int32.toInt64 x1), .long (Int32.toInt64 x2)] S I J (fun vv SS II JJ => Go d i_X12_numeral 127 [.ref h0, .int x1, .int x2, .int x3, .int x4] (vv.toList ++ []) SS II JJ Q)) : Go d i_X12_numeral 117 [.ref h0, .int x1, .int x2, .int x3, .int x4] [] S I J Q := by
  have h := (And.intro trivial kk)
  exact Go.n tb_X12_numeral 7 h
theorem b_X12_numeral_127 {d : Nat} {S : zS} {I : zI} {J : zJ} {Q : zQ} {h0 : Nat} {x1 : Int32} {x2 : Int32} {x3 : Int32} {x4 : Int32} {y0 : Int32} (kt : ¬ y0 = (0 : Int32) → Go d i_X12_numeral 136 [.ref h0, .int x1, .int x2, .int x3, .int x4] [] S I J Q) (kf : y0 = (0 : Int32) → Go d i_X12_numeral 130 [.ref h0, .int x1, .int x2, .int x3, .int x4] [] S I J Q) : Go d i_X12_numeral 127 [.ref h0, .int x1, .int x2, .int x3, .int x4] [.int y0] S I J Q := by
  have h := (Go.eti kt kf)
  exact Go.n tb_X12_numeral 1 h
theorem b_X12_numeral_130 {d : Nat} {S : zS} {I : zI} {J : zJ} {Q : zQ} {h0 : Nat} {x1 : Int32} {x2 : Int32} {x3 : Int32} {x4 : Int32} (g1 : z_kd S h0 = 13) (kk : z_wp d i_X12_fails [.ref h0, .int (2 : Int32), .int x3] S I J (fun vv SS II JJ => Go d i_X12_numeral 136 [.ref h0, .int x1, .int x2, .int x3, .int x4] (vv.toList ++ []) SS II JJ Q)) : Go d i_X12_numeral 130 [.ref h0, .int x1, .int x2, .int x3, .int x4] [] S I J Q := by
  have h := (And.intro g1 kk)
  exact Go.n tb_X12_numeral 4 h
theorem b_X12_numeral_136 {d : Nat} {S : zS} {I : zI} {J : zJ} {Q : zQ} {h0 : Nat} {x1 : Int32} {x2 : Int32} {x3 : Int32} {x4 : Int32} (g1 : z_kd S h0 = 13) (kt : ¬ (I h0 6) = (0 : Int32) → Go d i_X12_numeral 148 [.ref h0, .int x1, .int x2, .int x3, .int x4] [] S I J Q) (kf : (I h0 6) = (0 : Int32) → Go d i_X12_numeral 143 [.ref h0, .int x1, .int x2, .int x3, .int x4] [] S I J Q) : Go d i_X12_numeral 136 [.ref h0, .int x1, .int x2, .int x3, .int x4] [] S I J Q := by
  have h := (And.intro g1 (Go.eti kt kf))
  exact Go.n tb_X12_numeral 3 h
theorem b_X12_numeral_143 {d : Nat} {S : zS} {I : zI} {J : zJ} {Q : zQ} {h0 : Nat} {x1 : Int32} {x2 : Int32} {x3 : Int32} {x4 : Int32} (kk : Q (some (.int x4)) S I J) : Go d i_X12_numeral 143 [.ref h0, .int x1, .int x2, .int x3, .int x4] [] S I J Q := by
  have h := (And.intro trivial kk)
  exact Go.n tb_X12_numeral 3 h
theorem b_X12_numeral_148 {d : Nat} {S : zS} {I : zI} {J : zJ} {Q : zQ} {h0 : Nat} {x1 : Int32} {x2 : Int32} {x3 : Int32} {x4 : Int32} (kk : Q (some (.int x1)) S I J) : Go d i_X12_numeral 148 [.ref h0, .int x1, .int x2, .int x3, .int x4] [] S I J Q := by
  have h := (And.intro trivial kk)
  exact Go.n tb_X12_numeral 2 h
theorem w_X12_sizeOfFactor {d : Nat} {S : zS} {I : zI} {J : zJ} {Q : zQ} {h0 : Nat} (h : Go d i_X12_sizeOfFactor 0 [.ref h0] [] S I J Q) : z_wp (d + 1) i_X12_sizeOfFactor [.ref h0] S I J Q := Go.wp (Nat.le_of_ble_eq_true rfl) h
theorem e_X12_sizeOfFactor {d : Nat} {S S2 : zS} {I I2 : zI} {J J2 : zJ} {r : Option Value} {h0 : Nat} (h : Go d i_X12_sizeOfFactor 0 [.ref h0] [] S I J (z_eq r S2 I2 J2)) : z_ev (d + 1) i_X12_sizeOfFactor [.ref h0] S I J r S2 I2 J2 := Go.ev (Nat.le_of_ble_eq_true rfl) h
theorem b_X12_sizeOfFactor_0 {d : Nat} {S : zS} {I : zI} {J : zJ} {Q : zQ} {h0 : Nat} (g1 : z_kd S h0 = 13) (kt : ¬ (I h0 8) = (5 : Int32) → Go d i_X12_sizeOfFactor 15 [.ref h0] [] S I J Q) (kf : (I h0 8) = (5 : Int32) → Go d i_X12_sizeOfFactor 8 [.ref h0] [] S I J Q) : Go d i_X12_sizeOfFactor 0 [.ref h0] [] S I J Q := by
  have h := (And.intro g1 (Go.eti kt kf))
  exact Go.n tb_X12_sizeOfFactor 4 h
theorem b_X12_sizeOfFactor_8 {d : Nat} {S : zS} {I : zI} {J : zJ} {Q : zQ} {h0 : Nat} (g1 : z_kd S h0 = 13) (kk : Q (some (.int (I h0 9))) S I J) : Go d i_X12_sizeOfFactor 8 [.ref h0] [] S I J Q := by
  have h := (And.intro g1 (And.intro trivial kk))
  exact Go.n tb_X12_sizeOfFactor 4 h
theorem b_X12_sizeOfFactor_15 {d : Nat} {S : zS} {I : zI} {J : zJ} {Q : zQ} {h0 : Nat} (g1 : z_kd S h0 = 13) (kt : ¬ (I h0 8) = (6 : Int32) → Go d i_X12_sizeOfFactor 33 [.ref h0] [] S I J Q) (kf : (I h0 8) = (6 : Int32) → Go d i_X12_sizeOfFactor 24 [.ref h0] [] S I J Q) : Go d i_X12_sizeOfFactor 15 [.ref h0] [] S I J Q := by
  have h := (And.intro g1 (Go.eti kt kf))
  exact Go.n tb_X12_sizeOfFactor 4 h
theorem b_X12_sizeOfFactor_24 {d : Nat} {S : zS} {I : zI} {J : zJ} {Q : zQ} {h0 : Nat} (g1 : z_kd S h0 = 13) (kk : Q (some (.int ((2 : Int32) * (I h0 9)))) S I J) : Go d i_X12_sizeOfFactor 24 [.ref h0] [] S I J Q := by
  have h := (And.intro g1 (And.intro trivial kk))
  exact Go.n tb_X12_sizeOfFactor 6 h
theorem b_X12_sizeOfFactor_33 {d : Nat} {S : zS} {I : zI} {J : zJ} {Q : zQ} {h0 : Nat} (g1 : z_kd S h0 = 13) (kt : ¬ (I h0 8) = (7 : Int32) → Go d i_X12_sizeOfFactor 51 [.ref h0] [] S I J Q) (kf : (I h0 8) = (7 : Int32) → Go d i_X12_sizeOfFactor 42 [.ref h0] [] S I J Q) : Go d i_X12_sizeOfFactor 33 [.ref h0] [] S I J Q := by
  have h := (And.intro g1 (Go.eti kt kf))
  exact Go.n tb_X12_sizeOfFactor 4 h
theorem b_X12_sizeOfFactor_42 {d : Nat} {S : zS} {I : zI} {J : zJ} {Q : zQ} {h0 : Nat} (g1 : z_kd S h0 = 13) (kk : Q (some (.int ((4 : Int32) * (I h0 9)))) S I J) : Go d i_X12_sizeOfFactor 42 [.ref h0] [] S I J Q := by
  have h := (And.intro g1 (And.intro trivial kk))
  exact Go.n tb_X12_sizeOfFactor 6 h
theorem b_X12_sizeOfFactor_51 {d : Nat} {S : zS} {I : zI} {J : zJ} {Q : zQ} {h0 : Nat} (kk : Q (some (.int (12 : Int32))) S I J) : Go d i_X12_sizeOfFactor 51 [.ref h0] [] S I J Q := by
  have h := (And.intro trivial kk)
  exact Go.n tb_X12_sizeOfFactor 2 h
theorem w_X12_laysEven {d : Nat} {S : zS} {I : zI} {J : zJ} {Q : zQ} {h0 : Nat} (h : Go d i_X12_laysEven 0 [.ref h0, .retAddr 0, .retAddr 0, .retAddr 0, .retAddr 0, .retAddr 0] [] S I J Q) : z_wp (d + 1) i_X12_laysEven [.ref h0] S I J Q := Go.wp (Nat.le_of_ble_eq_true rfl) h
theorem e_X12_laysEven {d : Nat} {S S2 : zS} {I I2 : zI} {J J2 : zJ} {r : Option Value} {h0 : Nat} (h : Go d i_X12_laysEven 0 [.ref h0, .retAddr 0, .retAddr 0, .retAddr 0, .retAddr 0, .retAddr 0] [] S I J (z_eq r S2 I2 J2)) : z_ev (d + 1) i_X12_laysEven [.ref h0] S I J r S2 I2 J2 := Go.ev (Nat.le_of_ble_eq_true rfl) h
theorem b_X12_laysEven_0 {d : Nat} {S : zS} {I : zI} {J : zJ} {Q : zQ} {h0 : Nat} {v1 : Value} {v2 : Value} {v3 : Value} {v4 : Value} {v5 : Value} (g1 : z_kd S h0 = 13) (kt : (I h0 11) ≤ (0 : Int32) → Go d i_X12_laysEven 8 [.ref h0, v1, v2, v3, v4, v5] [] S I J Q) (kf : ¬ (I h0 11) ≤ (0 : Int32) → Go d i_X12_laysEven 7 [.ref h0, v1, v2, v3, v4, v5] [] S I J Q) : Go d i_X12_laysEven 0 [.ref h0, v1, v2, v3, v4, v5] [] S I J Q := by
  have h := (And.intro g1 (Go.ite kt kf))
  exact Go.n tb_X12_laysEven 3 h
theorem b_X12_laysEven_7 {d : Nat} {S : zS} {I : zI} {J : zJ} {Q : zQ} {h0 : Nat} {v1 : Value} {v2 : Value} {v3 : Value} {v4 : Value} {v5 : Value} (kk : Q none S I J) : Go d i_X12_laysEven 7 [.ref h0, v1, v2, v3, v4, v5] [] S I J Q := by
  have h := (And.intro trivial kk)
  exact Go.n tb_X12_laysEven 1 h
theorem b_X12_laysEven_8 {d : Nat} {S : zS} {I : zI} {J : zJ} {Q : zQ} {h0 : Nat} {v1 : Value} {v2 : Value} {v3 : Value} {v4 : Value} {v5 : Value} (kk : Go d i_X12_laysEven 10 [.ref h0, .int (0 : Int32), v2, v3, v4, v5] [] S I J Q) : Go d i_X12_laysEven 8 [.ref h0, v1, v2, v3, v4, v5] [] S I J Q := by
  have h := kk
  exact Go.n tb_X12_laysEven 2 h
theorem b_X12_laysEven_10 {d : Nat} {S : zS} {I : zI} {J : zJ} {Q : zQ} {h0 : Nat} {x1 : Int32} {v2 : Value} {v3 : Value} {v4 : Value} {v5 : Value} (kt : (256 : Int32) ≤ x1 → Go d i_X12_laysEven 128 [.ref h0, .int x1, v2, v3, v4, v5] [] S I J Q) (kf : ¬ (256 : Int32) ≤ x1 → Go d i_X12_laysEven 17 [.ref h0, .int x1, v2, v3, v4, v5] [] S I J Q) : Go d i_X12_laysEven 10 [.ref h0, .int x1, v2, v3, v4, v5] [] S I J Q := by
  have h := (Go.ite kt kf)
  exact Go.n tb_X12_laysEven 3 h
theorem b_X12_laysEven_17 {d : Nat} {S : zS} {I : zI} {J : zJ} {Q : zQ} {h0 : Nat} {x1 : Int32} {v2 : Value} {v3 : Value} {v4 : Value} {v5 : Value} (kk : Go d i_X12_laysEven 24 [.ref h0, .int x1, .int (0 : Int32), .int (0 : Int32), .int (0 : Int32), v5] [] S I J Q) : Go d i_X12_laysEven 17 [.ref h0, .int x1, v2, v3, v4, v5] [] S I J Q := by
  have h := kk
  exact Go.n tb_X12_laysEven 6 h
theorem b_X12_laysEven_24 {d : Nat} {S : zS} {I : zI} {J : zJ} {Q : zQ} {h0 : Nat} {x1 : Int32} {x2 : Int32} {x3 : Int32} {x4 : Int32} {v5 : Value} (kt : (4 : Int32) ≤ x4 → Go d i_X12_laysEven 86 [.ref h0, .int x1, .int x2, .int x3, .int x4, v5] [] S I J Q) (kf : ¬ (4 : Int32) ≤ x4 → Go d i_X12_laysEven 30 [.ref h0, .int x1, .int x2, .int x3, .int x4, v5] [] S I J Q) : Go d i_X12_laysEven 24 [.ref h0, .int x1, .int x2, .int x3, .int x4, v5] [] S I J Q := by
  have h := (Go.ite kt kf)
  exact Go.n tb_X12_laysEven 3 h
theorem b_X12_laysEven_30 {d : Nat} {S : zS} {I : zI} {J : zJ} {Q : zQ} {h0 : Nat} {x1 : Int32} {x2 : Int32} {x3 : Int32} {x4 : Int32} {v5 : Value} (kk : z_wp d i_X12_imageOf [.int x1, .int x4] S I J (fun vv SS II JJ => Go d i_X12_laysEven 38 [.ref h0, .int x1, .int x2, .int x3, .int x4, v5] (vv.toList ++ [.int (1 : Int32), .int x2]) SS II JJ Q)) : Go d i_X12_laysEven 30 [.ref h0, .int x1, .int x2, .int x3, .int x4, v5] [] S I J Q := by
  have h := (And.intro trivial kk)
  exact Go.n tb_X12_laysEven 5 h
theorem b_X12_laysEven_38 {d : Nat} {S : zS} {I : zI} {J : zJ} {Q : zQ} {h0 : Nat} {x1 : Int32} {x2 : Int32} {x3 : Int32} {x4 : Int32} {v5 : Value} {y0 : Int32} {y1 : Int32} {y2 : Int32} (kk : Go d i_X12_laysEven 44 [.ref h0, .int x1, .int (y0 ||| (y1 <<< (y2 &&& 31))), .int x3, .int x4, .int (0 : Int32)] [] S I J Q) : Go d i_X12_laysEven 38 [.ref h0, .int x1, .int x2, .int x3, .int x4, v5] [.int y2, .int y1, .int y0] S I J Q := by
  have h := kk
  exact Go.n tb_X12_laysEven 5 h
theorem b_X12_laysEven_44 {d : Nat} {S : zS} {I : zI} {J : zJ} {Q : zQ} {h0 : Nat} {x1 : Int32} {x2 : Int32} {x3 : Int32} {x4 : Int32} {x5 : Int32} (kt : x4 ≤ x5 → Go d i_X12_laysEven 80 [.ref h0, .int x1, .int x2, .int x3, .int x4, .int x5] [] S I J Q) (kf : ¬ x4 ≤ x5 → Go d i_X12_laysEven 51 [.ref h0, .int x1, .int x2, .int x3, .int x4, .int x5] [] S I J Q) : Go d i_X12_laysEven 44 [.ref h0, .int x1, .int x2, .int x3, .int x4, .int x5] [] S I J Q := by
  have h := (Go.ite kt kf)
  exact Go.n tb_X12_laysEven 3 h
theorem b_X12_laysEven_51 {d : Nat} {S : zS} {I : zI} {J : zJ} {Q : zQ} {h0 : Nat} {x1 : Int32} {x2 : Int32} {x3 : Int32} {x4 : Int32} {x5 : Int32} (kk : z_wp d i_X12_imageOf [.int x1, .int x5] S I J (fun vv SS II JJ => Go d i_X12_laysEven 58 [.ref h0, .int x1, .int x2, .int x3, .int x4, .int x5] (vv.toList ++ [.int x3]) SS II JJ Q)) : Go d i_X12_laysEven 51 [.ref h0, .int x1, .int x2, .int x3, .int x4, .int x5] [] S I J Q := by
  have h := (And.intro trivial kk)
  exact Go.n tb_X12_laysEven 4 h
theorem b_X12_laysEven_58 {d : Nat} {S : zS} {I : zI} {J : zJ} {Q : zQ} {h0 : Nat} {x1 : Int32} {x2 : Int32} {x3 : Int32} {x4 : Int32} {x5 : Int32} {y0 : Int32} {y1 : Int32} (kk : z_wp d i_X12_imageOf [.int x1, .int x4] S I J (fun vv SS II JJ => Go d i_X12_laysEven 64 [.ref h0, .int x1, .int x2, .int x3, .int x4, .int x5] (vv.toList ++ [.int y1, .int y0]) SS II JJ Q)) : Go d i_X12_laysEven 58 [.ref h0, .int x1, .int x2, .int x3, .int x4, .int x5] [.int y1, .int y0] S I J Q := by
  have h := (And.intro trivial kk)
  exact Go.n tb_X12_laysEven 3 h
theorem b_X12_laysEven_64 {d : Nat} {S : zS} {I : zI} {J : zJ} {Q : zQ} {h0 : Nat} {x1 : Int32} {x2 : Int32} {x3 : Int32} {x4 : Int32} {x5 : Int32} {y0 : Int32} {y1 : Int32} {y2 : Int32} (kt : y1 ≤ y2 → Go d i_X12_laysEven 71 [.ref h0, .int x1, .int x2, .int x3, .int x4, .int x5] [.int y0] S I J Q) (kf : ¬ y1 ≤ y2 → Go d i_X12_laysEven 67 [.ref h0, .int x1, .int x2, .int x3, .int x4, .int x5] [.int y0] S I J Q) : Go d i_X12_laysEven 64 [.ref h0, .int x1, .int x2, .int x3, .int x4, .int x5] [.int y2, .int y1, .int y0] S I J Q := by
  have h := (Go.ite kt kf)
  exact Go.n tb_X12_laysEven 1 h
theorem b_X12_laysEven_67 {d : Nat} {S : zS} {I : zI} {J : zJ} {Q : zQ} {h0 : Nat} {x1 : Int32} {x2 : Int32} {x3 : Int32} {x4 : Int32} {x5 : Int32} {y0 : Int32} (kk : Go d i_X12_laysEven 44 [.ref h0, .int x1, .int x2, .int (y0 + (1 : Int32)), .int x4, .int (x5 + (1 : Int32))] [] S I J Q) : Go d i_X12_laysEven 67 [.ref h0, .int x1, .int x2, .int x3, .int x4, .int x5] [.int y0] S I J Q := by
  have h := kk
  exact Go.n tb_X12_laysEven 6 h
theorem b_X12_laysEven_71 {d : Nat} {S : zS} {I : zI} {J : zJ} {Q : zQ} {h0 : Nat} {x1 : Int32} {x2 : Int32} {x3 : Int32} {x4 : Int32} {x5 : Int32} {y0 : Int32} (kk : Go d i_X12_laysEven 44 [.ref h0, .int x1, .int x2, .int (y0 + (0 : Int32)), .int x4, .int (x5 + (1 : Int32))] [] S I J Q) : Go d i_X12_laysEven 71 [.ref h0, .int x1, .int x2, .int x3, .int x4, .int x5] [.int y0] S I J Q := by
  have h := kk
  exact Go.n tb_X12_laysEven 5 h
theorem b_X12_laysEven_80 {d : Nat} {S : zS} {I : zI} {J : zJ} {Q : zQ} {h0 : Nat} {x1 : Int32} {x2 : Int32} {x3 : Int32} {x4 : Int32} {x5 : Int32} (kk : Go d i_X12_laysEven 24 [.ref h0, .int x1, .int x2, .int x3, .int (x4 + (1 : Int32)), .int x5] [] S I J Q) : Go d i_X12_laysEven 80 [.ref h0, .int x1, .int x2, .int x3, .int x4, .int x5] [] S I J Q := by
  have h := kk
  exact Go.n tb_X12_laysEven 2 h
theorem b_X12_laysEven_86 {d : Nat} {S : zS} {I : zI} {J : zJ} {Q : zQ} {h0 : Nat} {x1 : Int32} {x2 : Int32} {x3 : Int32} {x4 : Int32} {v5 : Value} (kt : ¬ x2 = (15 : Int32) → Go d i_X12_laysEven 122 [.ref h0, .int x1, .int x2, .int x3, .int x4, v5] [] S I J Q) (kf : x2 = (15 : Int32) → Go d i_X12_laysEven 92 [.ref h0, .int x1, .int x2, .int x3, .int x4, v5] [] S I J Q) : Go d i_X12_laysEven 86 [.ref h0, .int x1, .int x2, .int x3, .int x4, v5] [] S I J Q := by
  have h := (Go.eti kt kf)
  exact Go.n tb_X12_laysEven 3 h
theorem b_X12_laysEven_92 {d : Nat} {S : zS} {I : zI} {J : zJ} {Q : zQ} {h0 : Nat} {x1 : Int32} {x2 : Int32} {x3 : Int32} {x4 : Int32} {v5 : Value} (g1 : ¬ (2 : Int32) = 0) (kt : ¬ (x3 - x3 / (2 : Int32) * (2 : Int32)) = (1 : Int32) → Go d i_X12_laysEven 102 [.ref h0, .int x1, .int x2, .int x3, .int x4, v5] [] S I J Q) (kf : (x3 - x3 / (2 : Int32) * (2 : Int32)) = (1 : Int32) → Go d i_X12_laysEven 99 [.ref h0, .int x1, .int x2, .int x3, .int x4, v5] [] S I J Q) : Go d i_X12_laysEven 92 [.ref h0, .int x1, .int x2, .int x3, .int x4, v5] [] S I J Q := by
  have h := (And.intro g1 (Go.eti kt kf))
  exact Go.n tb_X12_laysEven 5 h
theorem b_X12_laysEven_99 {d : Nat} {S : zS} {I : zI} {J : zJ} {Q : zQ} {h0 : Nat} {x1 : Int32} {x2 : Int32} {x3 : Int32} {x4 : Int32} {v5 : Value} (kk : Go d i_X12_laysEven 10 [.ref h0, .int (x1 + (1 : Int32)), .int x2, .int x3, .int x4, v5] [] S I J Q) : Go d i_X12_laysEven 99 [.ref h0, .int x1, .int x2, .int x3, .int x4, v5] [] S I J Q := by
  have h := kk
  exact Go.n tb_X12_laysEven 3 h
theorem b_X12_laysEven_102 {d : Nat} {S : zS} {I : zI} {J : zJ} {Q : zQ} {h0 : Nat} {x1 : Int32} {x2 : Int32} {x3 : Int32} {x4 : Int32} {v5 : Value} {I1 : zI} (g1 : z_kd S h0 = 13) (g2 : z_kd S h0 = 13) (g3 : z_kd S (z_rv S h0 10) = 100 ∧ vp_in (I h0 11) (z_ln S (z_rv S h0 10))) (g4 : z_kd S h0 = 13) (g5 : z_kd S h0 = 13) (eI1 : I1 = z_u2 (z_u2 I (z_rv S h0 10) (Int32.toNatClampNeg (I h0 11)) x1) h0 11 (((z_u2 I (z_rv S h0 10) (Int32.toNatClampNeg (I h0 11)) x1) h0 11) + (1 : Int32))) (kk : Go d i_X12_laysEven 10 [.ref h0, .int (x1 + (1 : Int32)), .int x2, .int x3, .int x4, v5] [] S I1 J Q) : Go d i_X12_laysEven 102 [.ref h0, .int x1, .int x2, .int x3, .int x4, v5] [] S I J Q := by
  subst eI1
  have h := (And.intro g1 (And.intro g2 (And.intro g3 (And.intro g4 (And.intro g5 kk)))))
  exact Go.n tb_X12_laysEven 14 h
theorem b_X12_laysEven_122 {d : Nat} {S : zS} {I : zI} {J : zJ} {Q : zQ} {h0 : Nat} {x1 : Int32} {x2 : Int32} {x3 : Int32} {x4 : Int32} {v5 : Value} (kk : Go d i_X12_laysEven 10 [.ref h0, .int (x1 + (1 : Int32)), .int x2, .int x3, .int x4, v5] [] S I J Q) : Go d i_X12_laysEven 122 [.ref h0, .int x1, .int x2, .int x3, .int x4, v5] [] S I J Q := by
  have h := kk
  exact Go.n tb_X12_laysEven 2 h
theorem b_X12_laysEven_128 {d : Nat} {S : zS} {I : zI} {J : zJ} {Q : zQ} {h0 : Nat} {x1 : Int32} {v2 : Value} {v3 : Value} {v4 : Value} {v5 : Value} (kk : Q none S I J) : Go d i_X12_laysEven 128 [.ref h0, .int x1, v2, v3, v4, v5] [] S I J Q := by
  have h := (And.intro trivial kk)
  exact Go.n tb_X12_laysEven 1 h
theorem w_X12_imageOf {d : Nat} {S : zS} {I : zI} {J : zJ} {Q : zQ} {x0 : Int32} {x1 : Int32} (h : Go d i_X12_imageOf 0 [.int x0, .int x1] [] S I J Q) : z_wp (d + 1) i_X12_imageOf [.int x0, .int x1] S I J Q := Go.wp (Nat.le_of_ble_eq_true rfl) h
theorem e_X12_imageOf {d : Nat} {S S2 : zS} {I I2 : zI} {J J2 : zJ} {r : Option Value} {x0 : Int32} {x1 : Int32} (h : Go d i_X12_imageOf 0 [.int x0, .int x1] [] S I J (z_eq r S2 I2 J2)) : z_ev (d + 1) i_X12_imageOf [.int x0, .int x1] S I J r S2 I2 J2 := Go.ev (Nat.le_of_ble_eq_true rfl) h
theorem b_X12_imageOf_0 {d : Nat} {S : zS} {I : zI} {J : zJ} {Q : zQ} {x0 : Int32} {x1 : Int32} (kk : Q (some (.int ((x0 >>> (((6 : Int32) - ((2 : Int32) * x1)) &&& 31)) &&& (3 : Int32)))) S I J) : Go d i_X12_imageOf 0 [.int x0, .int x1] [] S I J Q := by
  have h := (And.intro trivial kk)
  exact Go.n tb_X12_imageOf 10 h
theorem w_X12_evenProduct {d : Nat} {S : zS} {I : zI} {J : zJ} {Q : zQ} {h0 : Nat} {x1 : Int32} {x2 : Int32} (h : Go d i_X12_evenProduct 0 [.ref h0, .int x1, .int x2, .retAddr 0, .retAddr 0] [] S I J Q) : z_wp (d + 1) i_X12_evenProduct [.ref h0, .int x1, .int x2] S I J Q := Go.wp (Nat.le_of_ble_eq_true rfl) h
theorem e_X12_evenProduct {d : Nat} {S S2 : zS} {I I2 : zI} {J J2 : zJ} {r : Option Value} {h0 : Nat} {x1 : Int32} {x2 : Int32} (h : Go d i_X12_evenProduct 0 [.ref h0, .int x1, .int x2, .retAddr 0, .retAddr 0] [] S I J (z_eq r S2 I2 J2)) : z_ev (d + 1) i_X12_evenProduct [.ref h0, .int x1, .int x2] S I J r S2 I2 J2 := Go.ev (Nat.le_of_ble_eq_true rfl) h
theorem b_X12_evenProduct_0 {d : Nat} {S : zS} {I : zI} {J : zJ} {Q : zQ} {h0 : Nat} {x1 : Int32} {x2 : Int32} {v3 : Value} {v4 : Value} (kk : Go d i_X12_evenProduct 5 [.ref h0, .int x1, .int x2, .int (0 : Int32), .int (0 : Int32)] [] S I J Q) : Go d i_X12_evenProduct 0 [.ref h0, .int x1, .int x2, v3, v4] [] S I J Q := by
  have h := kk
  exact Go.n tb_X12_evenProduct 4 h
theorem b_X12_evenProduct_5 {d : Nat} {S : zS} {I : zI} {J : zJ} {Q : zQ} {h0 : Nat} {x1 : Int32} {x2 : Int32} {x3 : Int32} {x4 : Int32} (kt : (4 : Int32) ≤ x4 → Go d i_X12_evenProduct 42 [.ref h0, .int x1, .int x2, .int x3, .int x4] [] S I J Q) (kf : ¬ (4 : Int32) ≤ x4 → Go d i_X12_evenProduct 11 [.ref h0, .int x1, .int x2, .int x3, .int x4] [] S I J Q) : Go d i_X12_evenProduct 5 [.ref h0, .int x1, .int x2, .int x3, .int x4] [] S I J Q := by
  have h := (Go.ite kt kf)
  exact Go.n tb_X12_evenProduct 3 h
theorem b_X12_evenProduct_11 {d : Nat} {S : zS} {I : zI} {J : zJ} {Q : zQ} {h0 : Nat} {x1 : Int32} {x2 : Int32} {x3 : Int32} {x4 : Int32} (g1 : z_kd S h0 = 13) (g2 : z_isI (z_kd S (z_rv S h0 10)) = true ∧ vp_in x2 (z_ln S (z_rv S h0 10))) (g3 : z_kd S h0 = 13) (g4 : z_isI (z_kd S (z_rv S h0 10)) = true ∧ vp_in x1 (z_ln S (z_rv S h0 10))) (kk : z_wp d i_X12_imageOf [.int (I (z_rv S h0 10) (Int32.toNatClampNeg x1)), .int x4] S I J (fun vv SS II JJ => Go d i_X12_evenProduct 31 [.ref h0, .int x1, .int x2, .int x3, .int x4] (vv.toList ++ [.int (I (z_rv S h0 10) (Int32.toNatClampNeg x2)), .int ((4 : Int32) * x3)]) SS II JJ Q)) : Go d i_X12_evenProduct 11 [.ref h0, .int x1, .int x2, .int x3, .int x4] [] S I J Q := by
  have h := (And.intro g1 (And.intro g2 (And.intro g3 (And.intro g4 (And.intro trivial kk)))))
  exact Go.n tb_X12_evenProduct 13 h
theorem b_X12_evenProduct_31 {d : Nat} {S : zS} {I : zI} {J : zJ} {Q : zQ} {h0 : Nat} {x1 : Int32} {x2 : Int32} {x3 : Int32} {x4 : Int32} {y0 : Int32} {y1 : Int32} {y2 : Int32} (kk : z_wp d i_X12_imageOf [.int y1, .int y2] S I J (fun vv SS II JJ => Go d i_X12_evenProduct 34 [.ref h0, .int x1, .int x2, .int x3, .int x4] (vv.toList ++ [.int y0]) SS II JJ Q)) : Go d i_X12_evenProduct 31 [.ref h0, .int x1, .int x2, .int x3, .int x4] [.int y2, .int y1, .int y0] S I J Q := by
  have h := (And.intro trivial kk)
  exact Go.n tb_X12_evenProduct 1 h
theorem b_X12_evenProduct_34 {d : Nat} {S : zS} {I : zI} {J : zJ} {Q : zQ} {h0 : Nat} {x1 : Int32} {x2 : Int32} {x3 : Int32} {x4 : Int32} {y0 : Int32} {y1 : Int32} (kk : Go d i_X12_evenProduct 5 [.ref h0, .int x1, .int x2, .int (y0 + y1), .int (x4 + (1 : Int32))] [] S I J Q) : Go d i_X12_evenProduct 34 [.ref h0, .int x1, .int x2, .int x3, .int x4] [.int y1, .int y0] S I J Q := by
  have h := kk
  exact Go.n tb_X12_evenProduct 4 h
theorem b_X12_evenProduct_42 {d : Nat} {S : zS} {I : zI} {J : zJ} {Q : zQ} {h0 : Nat} {x1 : Int32} {x2 : Int32} {x3 : Int32} {x4 : Int32} (kk : Go d i_X12_evenProduct 45 [.ref h0, .int x1, .int x2, .int x3, .int (0 : Int32)] [] S I J Q) : Go d i_X12_evenProduct 42 [.ref h0, .int x1, .int x2, .int x3, .int x4] [] S I J Q := by
  have h := kk
  exact Go.n tb_X12_evenProduct 2 h
theorem b_X12_evenProduct_45 {d : Nat} {S : zS} {I : zI} {J : zJ} {Q : zQ} {h0 : Nat} {x1 : Int32} {x2 : Int32} {x3 : Int32} {x4 : Int32} (g1 : z_kd S h0 = 13) (g2 : z_isI (z_kd S (z_rv S h0 10)) = true ∧ vp_in x4 (z_ln S (z_rv S h0 10))) (kt : (I (z_rv S h0 10) (Int32.toNatClampNeg x4)) = x3 → Go d i_X12_evenProduct 62 [.ref h0, .int x1, .int x2, .int x3, .int x4] [] S I J Q) (kf : ¬ (I (z_rv S h0 10) (Int32.toNatClampNeg x4)) = x3 → Go d i_X12_evenProduct 56 [.ref h0, .int x1, .int x2, .int x3, .int x4] [] S I J Q) : Go d i_X12_evenProduct 45 [.ref h0, .int x1, .int x2, .int x3, .int x4] [] S I J Q := by
  have h := (And.intro g1 (And.intro g2 (Go.ite kt kf)))
  exact Go.n tb_X12_evenProduct 6 h
theorem b_X12_evenProduct_56 {d : Nat} {S : zS} {I : zI} {J : zJ} {Q : zQ} {h0 : Nat} {x1 : Int32} {x2 : Int32} {x3 : Int32} {x4 : Int32} (kk : Go d i_X12_evenProduct 45 [.ref h0, .int x1, .int x2, .int x3, .int (x4 + (1 : Int32))] [] S I J Q) : Go d i_X12_evenProduct 56 [.ref h0, .int x1, .int x2, .int x3, .int x4] [] S I J Q := by
  have h := kk
  exact Go.n tb_X12_evenProduct 2 h
theorem b_X12_evenProduct_62 {d : Nat} {S : zS} {I : zI} {J : zJ} {Q : zQ} {h0 : Nat} {x1 : Int32} {x2 : Int32} {x3 : Int32} {x4 : Int32} (kk : Q (some (.int x4)) S I J) : Go d i_X12_evenProduct 62 [.ref h0, .int x1, .int x2, .int x3, .int x4] [] S I J Q := by
  have h := (And.intro trivial kk)
  exact Go.n tb_X12_evenProduct 2 h
theorem w_X12_factorProduct {d : Nat} {S : zS} {I : zI} {J : zJ} {Q : zQ} {h0 : Nat} {x1 : Int32} {x2 : Int32} (h : Go d i_X12_factorProduct 0 [.ref h0, .int x1, .int x2, .retAddr 0, .retAddr 0, .retAddr 0, .retAddr 0, .retAddr 0, .retAddr 0] [] S I J Q) : z_wp (d + 1) i_X12_factorProduct [.ref h0, .int x1, .int x2] S I J Q := Go.wp (Nat.le_of_ble_eq_true rfl) h
theorem e_X12_factorProduct {d : Nat} {S S2 : zS} {I I2 : zI} {J J2 : zJ} {r : Option Value} {h0 : Nat} {x1 : Int32} {x2 : Int32} (h : Go d i_X12_factorProduct 0 [.ref h0, .int x1, .int x2, .retAddr 0, .retAddr 0, .retAddr 0, .retAddr 0, .retAddr 0, .retAddr 0] [] S I J (z_eq r S2 I2 J2)) : z_ev (d + 1) i_X12_factorProduct [.ref h0, .int x1, .int x2] S I J r S2 I2 J2 := Go.ev (Nat.le_of_ble_eq_true rfl) h
theorem b_X12_factorProduct_0 {d : Nat} {S : zS} {I : zI} {J : zJ} {Q : zQ} {h0 : Nat} {x1 : Int32} {x2 : Int32} {v3 : Value} {v4 : Value} {v5 : Value} {v6 : Value} {v7 : Value} {v8 : Value} (g1 : z_kd S h0 = 13) (kt : ¬ (I h0 8) = (5 : Int32) → Go d i_X12_factorProduct 17 [.ref h0, .int x1, .int x2, v3, v4, v5, v6, v7, v8] [] S I J Q) (kf : (I h0 8) = (5 : Int32) → Go d i_X12_factorProduct 8 [.ref h0, .int x1, .int x2, v3, v4, v5, v6, v7, v8] [] S I J Q) : Go d i_X12_factorProduct 0 [.ref h0, .int x1, .int x2, v3, v4, v5, v6, v7, v8] [] S I J Q := by
  have h := (And.intro g1 (Go.eti kt kf))
  exact Go.n tb_X12_factorProduct 4 h
theorem b_X12_factorProduct_8 {d : Nat} {S : zS} {I : zI} {J : zJ} {Q : zQ} {h0 : Nat} {x1 : Int32} {x2 : Int32} {v3 : Value} {v4 : Value} {v5 : Value} {v6 : Value} {v7 : Value} {v8 : Value} (g1 : z_kd S h0 = 13) (g2 : ¬ (I h0 9) = 0) (kk : Q (some (.int ((x1 + x2) - (x1 + x2) / (I h0 9) * (I h0 9)))) S I J) : Go d i_X12_factorProduct 8 [.ref h0, .int x1, .int x2, v3, v4, v5, v6, v7, v8] [] S I J Q := by
  have h := (And.intro g1 (And.intro g2 (And.intro trivial kk)))
  exact Go.n tb_X12_factorProduct 7 h
theorem b_X12_factorProduct_17 {d : Nat} {S : zS} {I : zI} {J : zJ} {Q : zQ} {h0 : Nat} {x1 : Int32} {x2 : Int32} {v3 : Value} {v4 : Value} {v5 : Value} {v6 : Value} {v7 : Value} {v8 : Value} (g1 : z_kd S h0 = 13) (kt : ¬ (I h0 8) = (8 : Int32) → Go d i_X12_factorProduct 33 [.ref h0, .int x1, .int x2, v3, v4, v5, v6, v7, v8] [] S I J Q) (kf : (I h0 8) = (8 : Int32) → Go d i_X12_factorProduct 26 [.ref h0, .int x1, .int x2, v3, v4, v5, v6, v7, v8] [] S I J Q) : Go d i_X12_factorProduct 17 [.ref h0, .int x1, .int x2, v3, v4, v5, v6, v7, v8] [] S I J Q := by
  have h := (And.intro g1 (Go.eti kt kf))
  exact Go.n tb_X12_factorProduct 4 h
theorem b_X12_factorProduct_26 {d : Nat} {S : zS} {I : zI} {J : zJ} {Q : zQ} {h0 : Nat} {x1 : Int32} {x2 : Int32} {v3 : Value} {v4 : Value} {v5 : Value} {v6 : Value} {v7 : Value} {v8 : Value} (g1 : z_kd S h0 = 13) (kk : z_wp d i_X12_evenProduct [.ref h0, .int x1, .int x2] S I J (fun vv SS II JJ => Go d i_X12_factorProduct 32 [.ref h0, .int x1, .int x2, v3, v4, v5, v6, v7, v8] (vv.toList ++ []) SS II JJ Q)) : Go d i_X12_factorProduct 26 [.ref h0, .int x1, .int x2, v3, v4, v5, v6, v7, v8] [] S I J Q := by
  have h := (And.intro g1 kk)
  exact Go.n tb_X12_factorProduct 4 h
theorem b_X12_factorProduct_32 {d : Nat} {S : zS} {I : zI} {J : zJ} {Q : zQ} {h0 : Nat} {x1 : Int32} {x2 : Int32} {v3 : Value} {v4 : Value} {v5 : Value} {v6 : Value} {v7 : Value} {v8 : Value} {y0 : Int32} (kk : Q (some (.int y0)) S I J) : Go d i_X12_factorProduct 32 [.ref h0, .int x1, .int x2, v3, v4, v5, v6, v7, v8] [.int y0] S I J Q := by
  have h := (And.intro trivial kk)
  exact Go.n tb_X12_factorProduct 1 h
theorem b_X12_factorProduct_33 {d : Nat} {S : zS} {I : zI} {J : zJ} {Q : zQ} {h0 : Nat} {x1 : Int32} {x2 : Int32} {v3 : Value} {v4 : Value} {v5 : Value} {v6 : Value} {v7 : Value} {v8 : Value} (g1 : z_kd S h0 = 13) (kt : ¬ (I h0 8) = (6 : Int32) → Go d i_X12_factorProduct 49 [.ref h0, .int x1, .int x2, v3, v4, v5, v6, v7, v8] [] S I J Q) (kf : (I h0 8) = (6 : Int32) → Go d i_X12_factorProduct 42 [.ref h0, .int x1, .int x2, v3, v4, v5, v6, v7, v8] [] S I J Q) : Go d i_X12_factorProduct 33 [.ref h0, .int x1, .int x2, v3, v4, v5, v6, v7, v8] [] S I J Q := by
  have h := (And.intro g1 (Go.eti kt kf))
  exact Go.n tb_X12_factorProduct 4 h
theorem b_X12_factorProduct_42 {d : Nat} {S : zS} {I : zI} {J : zJ} {Q : zQ} {h0 : Nat} {x1 : Int32} {x2 : Int32} {v3 : Value} {v4 : Value} {v5 : Value} {v6 : Value} {v7 : Value} {v8 : Value} (g1 : z_kd S h0 = 13) (g2 : ¬ (I h0 9) = 0) (g3 : ¬ (I h0 9) = 0) (kt : x1 < (I h0 9) → Go d i_X12_factorProduct 75 [.ref h0, .int x1, .int x2, .int (I h0 9), .int (x1 - x1 / (I h0 9) * (I h0 9)), .int (x2 - x2 / (I h0 9) * (I h0 9)), v6, v7, v8] [] S I J Q) (kf : ¬ x1 < (I h0 9) → Go d i_X12_factorProduct 71 [.ref h0, .int x1, .int x2, .int (I h0 9), .int (x1 - x1 / (I h0 9) * (I h0 9)), .int (x2 - x2 / (I h0 9) * (I h0 9)), v6, v7, v8] [] S I J Q) : Go d i_X12_factorProduct 42 [.ref h0, .int x1, .int x2, v3, v4, v5, v6, v7, v8] [] S I J Q := by
  have h := (And.intro g1 (And.intro g2 (And.intro g3 (Go.ite kt kf))))
  exact Go.n tb_X12_factorProduct 15 h
theorem b_X12_factorProduct_49 {d : Nat} {S : zS} {I : zI} {J : zJ} {Q : zQ} {h0 : Nat} {x1 : Int32} {x2 : Int32} {v3 : Value} {v4 : Value} {v5 : Value} {v6 : Value} {v7 : Value} {v8 : Value} (g1 : z_kd S h0 = 13) (g2 : ¬ ((2 : Int32) * (I h0 9)) = 0) (g3 : ¬ ((2 : Int32) * (I h0 9)) = 0) (kt : x1 < ((2 : Int32) * (I h0 9)) → Go d i_X12_factorProduct 75 [.ref h0, .int x1, .int x2, .int ((2 : Int32) * (I h0 9)), .int (x1 - x1 / ((2 : Int32) * (I h0 9)) * ((2 : Int32) * (I h0 9))), .int (x2 - x2 / ((2 : Int32) * (I h0 9)) * ((2 : Int32) * (I h0 9))), v6, v7, v8] [] S I J Q) (kf : ¬ x1 < ((2 : Int32) * (I h0 9)) → Go d i_X12_factorProduct 71 [.ref h0, .int x1, .int x2, .int ((2 : Int32) * (I h0 9)), .int (x1 - x1 / ((2 : Int32) * (I h0 9)) * ((2 : Int32) * (I h0 9))), .int (x2 - x2 / ((2 : Int32) * (I h0 9)) * ((2 : Int32) * (I h0 9))), v6, v7, v8] [] S I J Q) : Go d i_X12_factorProduct 49 [.ref h0, .int x1, .int x2, v3, v4, v5, v6, v7, v8] [] S I J Q := by
  have h := (And.intro g1 (And.intro g2 (And.intro g3 (Go.ite kt kf))))
  exact Go.n tb_X12_factorProduct 16 h
theorem b_X12_factorProduct_71 {d : Nat} {S : zS} {I : zI} {J : zJ} {Q : zQ} {h0 : Nat} {x1 : Int32} {x2 : Int32} {x3 : Int32} {x4 : Int32} {x5 : Int32} {v6 : Value} {v7 : Value} {v8 : Value} (kt : x2 < x3 → Go d i_X12_factorProduct 87 [.ref h0, .int x1, .int x2, .int x3, .int x4, .int x5, .int (1 : Int32), v7, v8] [] S I J Q) (kf : ¬ x2 < x3 → Go d i_X12_factorProduct 83 [.ref h0, .int x1, .int x2, .int x3, .int x4, .int x5, .int (1 : Int32), v7, v8] [] S I J Q) : Go d i_X12_factorProduct 71 [.ref h0, .int x1, .int x2, .int x3, .int x4, .int x5, v6, v7, v8] [] S I J Q := by
  have h := (Go.ite kt kf)
  exact Go.n tb_X12_factorProduct 6 h
theorem b_X12_factorProduct_75 {d : Nat} {S : zS} {I : zI} {J : zJ} {Q : zQ} {h0 : Nat} {x1 : Int32} {x2 : Int32} {x3 : Int32} {x4 : Int32} {x5 : Int32} {v6 : Value} {v7 : Value} {v8 : Value} (kt : x2 < x3 → Go d i_X12_factorProduct 87 [.ref h0, .int x1, .int x2, .int x3, .int x4, .int x5, .int (0 : Int32), v7, v8] [] S I J Q) (kf : ¬ x2 < x3 → Go d i_X12_factorProduct 83 [.ref h0, .int x1, .int x2, .int x3, .int x4, .int x5, .int (0 : Int32), v7, v8] [] S I J Q) : Go d i_X12_factorProduct 75 [.ref h0, .int x1, .int x2, .int x3, .int x4, .int x5, v6, v7, v8] [] S I J Q := by
  have h := (Go.ite kt kf)
  exact Go.n tb_X12_factorProduct 5 h
theorem b_X12_factorProduct_83 {d : Nat} {S : zS} {I : zI} {J : zJ} {Q : zQ} {h0 : Nat} {x1 : Int32} {x2 : Int32} {x3 : Int32} {x4 : Int32} {x5 : Int32} {x6 : Int32} {v7 : Value} {v8 : Value} (kt : x6 = (0 : Int32) → Go d i_X12_factorProduct 105 [.ref h0, .int x1, .int x2, .int x3, .int x4, .int x5, .int x6, .int (1 : Int32), v8] [] S I J Q) (kf : ¬ x6 = (0 : Int32) → Go d i_X12_factorProduct 95 [.ref h0, .int x1, .int x2, .int x3, .int x4, .int x5, .int x6, .int (1 : Int32), v8] [] S I J Q) : Go d i_X12_factorProduct 83 [.ref h0, .int x1, .int x2, .int x3, .int x4, .int x5, .int x6, v7, v8] [] S I J Q := by
  have h := (Go.ite kt kf)
  exact Go.n tb_X12_factorProduct 5 h
theorem b_X12_factorProduct_87 {d : Nat} {S : zS} {I : zI} {J : zJ} {Q : zQ} {h0 : Nat} {x1 : Int32} {x2 : Int32} {x3 : Int32} {x4 : Int32} {x5 : Int32} {x6 : Int32} {v7 : Value} {v8 : Value} (kt : x6 = (0 : Int32) → Go d i_X12_factorProduct 105 [.ref h0, .int x1, .int x2, .int x3, .int x4, .int x5, .int x6, .int (0 : Int32), v8] [] S I J Q) (kf : ¬ x6 = (0 : Int32) → Go d i_X12_factorProduct 95 [.ref h0, .int x1, .int x2, .int x3, .int x4, .int x5, .int x6, .int (0 : Int32), v8] [] S I J Q) : Go d i_X12_factorProduct 87 [.ref h0, .int x1, .int x2, .int x3, .int x4, .int x5, .int x6, v7, v8] [] S I J Q := by
  have h := (Go.ite kt kf)
  exact Go.n tb_X12_factorProduct 4 h
theorem b_X12_factorProduct_95 {d : Nat} {S : zS} {I : zI} {J : zJ} {Q : zQ} {h0 : Nat} {x1 : Int32} {x2 : Int32} {x3 : Int32} {x4 : Int32} {x5 : Int32} {x6 : Int32} {x7 : Int32} {v8 : Value} (g1 : z_kd S h0 = 13) (kt : ¬ (I h0 8) = (7 : Int32) → Go d i_X12_factorProduct 136 [.ref h0, .int x1, .int x2, .int x3, .int x4, .int x5, .int x6, .int x7, v8] [.int ((x4 - x5) + x3)] S I J Q) (kf : (I h0 8) = (7 : Int32) → Go d i_X12_factorProduct 119 [.ref h0, .int x1, .int x2, .int x3, .int x4, .int x5, .int x6, .int x7, v8] [.int ((x4 - x5) + x3)] S I J Q) : Go d i_X12_factorProduct 95 [.ref h0, .int x1, .int x2, .int x3, .int x4, .int x5, .int x6, .int x7, v8] [] S I J Q := by
  have h := (And.intro g1 (Go.eti kt kf))
  exact Go.n tb_X12_factorProduct 10 h
theorem b_X12_factorProduct_105 {d : Nat} {S : zS} {I : zI} {J : zJ} {Q : zQ} {h0 : Nat} {x1 : Int32} {x2 : Int32} {x3 : Int32} {x4 : Int32} {x5 : Int32} {x6 : Int32} {x7 : Int32} {v8 : Value} (g1 : z_kd S h0 = 13) (kt : ¬ (I h0 8) = (7 : Int32) → Go d i_X12_factorProduct 136 [.ref h0, .int x1, .int x2, .int x3, .int x4, .int x5, .int x6, .int x7, v8] [.int (x4 + x5)] S I J Q) (kf : (I h0 8) = (7 : Int32) → Go d i_X12_factorProduct 119 [.ref h0, .int x1, .int x2, .int x3, .int x4, .int x5, .int x6, .int x7, v8] [.int (x4 + x5)] S I J Q) : Go d i_X12_factorProduct 105 [.ref h0, .int x1, .int x2, .int x3, .int x4, .int x5, .int x6, .int x7, v8] [] S I J Q := by
  have h := (And.intro g1 (Go.eti kt kf))
  exact Go.n tb_X12_factorProduct 7 h
theorem b_X12_factorProduct_119 {d : Nat} {S : zS} {I : zI} {J : zJ} {Q : zQ} {h0 : Nat} {x1 : Int32} {x2 : Int32} {x3 : Int32} {x4 : Int32} {x5 : Int32} {x6 : Int32} {x7 : Int32} {v8 : Value} {y0 : Int32} (kt : x6 = (0 : Int32) → Go d i_X12_factorProduct 136 [.ref h0, .int x1, .int x2, .int x3, .int x4, .int x5, .int x6, .int x7, v8] [.int y0] S I J Q) (kf : ¬ x6 = (0 : Int32) → Go d i_X12_factorProduct 124 [.ref h0, .int x1, .int x2, .int x3, .int x4, .int x5, .int x6, .int x7, v8] [.int y0] S I J Q) : Go d i_X12_factorProduct 119 [.ref h0, .int x1, .int x2, .int x3, .int x4, .int x5, .int x6, .int x7, v8] [.int y0] S I J Q := by
  have h := (Go.ite kt kf)
  exact Go.n tb_X12_factorProduct 2 h
theorem b_X12_factorProduct_124 {d : Nat} {S : zS} {I : zI} {J : zJ} {Q : zQ} {h0 : Nat} {x1 : Int32} {x2 : Int32} {x3 : Int32} {x4 : Int32} {x5 : Int32} {x6 : Int32} {x7 : Int32} {v8 : Value} {y0 : Int32} (kt : x7 = (0 : Int32) → Go d i_X12_factorProduct 136 [.ref h0, .int x1, .int x2, .int x3, .int x4, .int x5, .int x6, .int x7, v8] [.int y0] S I J Q) (kf : ¬ x7 = (0 : Int32) → Go d i_X12_factorProduct 129 [.ref h0, .int x1, .int x2, .int x3, .int x4, .int x5, .int x6, .int x7, v8] [.int y0] S I J Q) : Go d i_X12_factorProduct 124 [.ref h0, .int x1, .int x2, .int x3, .int x4, .int x5, .int x6, .int x7, v8] [.int y0] S I J Q := by
  have h := (Go.ite kt kf)
  exact Go.n tb_X12_factorProduct 2 h
theorem b_X12_factorProduct_129 {d : Nat} {S : zS} {I : zI} {J : zJ} {Q : zQ} {h0 : Nat} {x1 : Int32} {x2 : Int32} {x3 : Int32} {x4 : Int32} {x5 : Int32} {x6 : Int32} {x7 : Int32} {v8 : Value} {y0 : Int32} (g1 : z_kd S h0 = 13) (g2 : ¬ x3 = 0) (kt : ¬ x6 = x7 → Go d i_X12_factorProduct 155 [.ref h0, .int x1, .int x2, .int x3, .int x4, .int x5, .int x6, .int x7, .int (y0 + (I h0 9))] [.int ((y0 + (I h0 9)) - (y0 + (I h0 9)) / x3 * x3)] S I J Q) (kf : x6 = x7 → Go d i_X12_factorProduct 151 [.ref h0, .int x1, .int x2, .int x3, .int x4, .int x5, .int x6, .int x7, .int (y0 + (I h0 9))] [.int ((y0 + (I h0 9)) - (y0 + (I h0 9)) / x3 * x3)] S I J Q) : Go d i_X12_factorProduct 129 [.ref h0, .int x1, .int x2, .int x3, .int x4, .int x5, .int x6, .int x7, v8] [.int y0] S I J Q := by
  have h := (And.intro g1 (And.intro g2 (Go.eti kt kf)))
  exact Go.n tb_X12_factorProduct 11 h
theorem b_X12_factorProduct_136 {d : Nat} {S : zS} {I : zI} {J : zJ} {Q : zQ} {h0 : Nat} {x1 : Int32} {x2 : Int32} {x3 : Int32} {x4 : Int32} {x5 : Int32} {x6 : Int32} {x7 : Int32} {v8 : Value} {y0 : Int32} (g1 : ¬ x3 = 0) (kt : ¬ x6 = x7 → Go d i_X12_factorProduct 155 [.ref h0, .int x1, .int x2, .int x3, .int x4, .int x5, .int x6, .int x7, .int (y0 + (0 : Int32))] [.int ((y0 + (0 : Int32)) - (y0 + (0 : Int32)) / x3 * x3)] S I J Q) (kf : x6 = x7 → Go d i_X12_factorProduct 151 [.ref h0, .int x1, .int x2, .int x3, .int x4, .int x5, .int x6, .int x7, .int (y0 + (0 : Int32))] [.int ((y0 + (0 : Int32)) - (y0 + (0 : Int32)) / x3 * x3)] S I J Q) : Go d i_X12_factorProduct 136 [.ref h0, .int x1, .int x2, .int x3, .int x4, .int x5, .int x6, .int x7, v8] [.int y0] S I J Q := by
  have h := (And.intro g1 (Go.eti kt kf))
  exact Go.n tb_X12_factorProduct 9 h
theorem b_X12_factorProduct_151 {d : Nat} {S : zS} {I : zI} {J : zJ} {Q : zQ} {h0 : Nat} {x1 : Int32} {x2 : Int32} {x3 : Int32} {x4 : Int32} {x5 : Int32} {x6 : Int32} {x7 : Int32} {x8 : Int32} {y0 : Int32} (kk : Q (some (.int (y0 + (0 : Int32)))) S I J) : Go d i_X12_factorProduct 151 [.ref h0, .int x1, .int x2, .int x3, .int x4, .int x5, .int x6, .int x7, .int x8] [.int y0] S I J Q := by
  have h := (And.intro trivial kk)
  exact Go.n tb_X12_factorProduct 4 h
theorem b_X12_factorProduct_155 {d : Nat} {S : zS} {I : zI} {J : zJ} {Q : zQ} {h0 : Nat} {x1 : Int32} {x2 : Int32} {x3 : Int32} {x4 : Int32} {x5 : Int32} {x6 : Int32} {x7 : Int32} {x8 : Int32} {y0 : Int32} (kk : Q (some (.int (y0 + x3))) S I J) : Go d i_X12_factorProduct 155 [.ref h0, .int x1, .int x2, .int x3, .int x4, .int x5, .int x6, .int x7, .int x8] [.int y0] S I J Q := by
  have h := (And.intro trivial kk)
  exact Go.n tb_X12_factorProduct 3 h
theorem w_X12_factorRead {d : Nat} {S : zS} {I : zI} {J : zJ} {Q : zQ} {h0 : Nat} (h : Go d i_X12_factorRead 0 [.ref h0, .retAddr 0, .retAddr 0, .retAddr 0, .retAddr 0, .retAddr 0, .retAddr 0] [] S I J Q) : z_wp (d + 1) i_X12_factorRead [.ref h0] S I J Q := Go.wp (Nat.le_of_ble_eq_true rfl) h
theorem e_X12_factorRead {d : Nat} {S S2 : zS} {I I2 : zI} {J J2 : zJ} {r : Option Value} {h0 : Nat} (h : Go d i_X12_factorRead 0 [.ref h0, .retAddr 0, .retAddr 0, .retAddr 0, .retAddr 0, .retAddr 0, .retAddr 0] [] S I J (z_eq r S2 I2 J2)) : z_ev (d + 1) i_X12_factorRead [.ref h0] S I J r S2 I2 J2 := Go.ev (Nat.le_of_ble_eq_true rfl) h
theorem b_X12_factorRead_0 {d : Nat} {S : zS} {I : zI} {J : zJ} {Q : zQ} {h0 : Nat} {v1 : Value} {v2 : Value} {v3 : Value} {v4 : Value} {v5 : Value} {v6 : Value} (g1 : z_kd S h0 = 13) (kk : z_wp d i_X12_wordHere [.ref h0] S I J (fun vv SS II JJ => Go d i_X12_factorRead 4 [.ref h0, v1, v2, v3, v4, v5, v6] (vv.toList ++ []) SS II JJ Q)) : Go d i_X12_factorRead 0 [.ref h0, v1, v2, v3, v4, v5, v6] [] S I J Q := by
  have h := (And.intro g1 kk)
  exact Go.n tb_X12_factorRead 2 h
theorem b_X12_factorRead_4 {d : Nat} {S : zS} {I : zI} {J : zJ} {Q : zQ} {h0 : Nat} {v1 : Value} {v2 : Value} {v3 : Value} {v4 : Value} {v5 : Value} {v6 : Value} {y0 : Int32} (g1 : z_kd S h0 = 13) (kt : (5 : Int32) ≤ y0 → Go d i_X12_factorRead 21 [.ref h0, .int y0, .int (I h0 5), v3, v4, v5, v6] [] S I J Q) (kf : ¬ (5 : Int32) ≤ y0 → Go d i_X12_factorRead 15 [.ref h0, .int y0, .int (I h0 5), v3, v4, v5, v6] [] S I J Q) : Go d i_X12_factorRead 4 [.ref h0, v1, v2, v3, v4, v5, v6] [.int y0] S I J Q := by
  have h := (And.intro g1 (Go.ite kt kf))
  exact Go.n tb_X12_factorRead 7 h
theorem b_X12_factorRead_15 {d : Nat} {S : zS} {I : zI} {J : zJ} {Q : zQ} {h0 : Nat} {x1 : Int32} {x2 : Int32} {v3 : Value} {v4 : Value} {v5 : Value} {v6 : Value} (g1 : z_kd S h0 = 13) (kk : z_wp d i_X12_fails [.ref h0, .int (1 : Int32), .int x2] S I J (fun vv SS II JJ => Go d i_X12_factorRead 21 [.ref h0, .int x1, .int x2, v3, v4, v5, v6] (vv.toList ++ []) SS II JJ Q)) : Go d i_X12_factorRead 15 [.ref h0, .int x1, .int x2, v3, v4, v5, v6] [] S I J Q := by
  have h := (And.intro g1 kk)
  exact Go.n tb_X12_factorRead 4 h
theorem b_X12_factorRead_21 {d : Nat} {S : zS} {I : zI} {J : zJ} {Q : zQ} {h0 : Nat} {x1 : Int32} {x2 : Int32} {v3 : Value} {v4 : Value} {v5 : Value} {v6 : Value} (g1 : z_kd S h0 = 13) (kt : (I h0 6) = (0 : Int32) → Go d i_X12_factorRead 29 [.ref h0, .int x1, .int x2, v3, v4, v5, v6] [] S I J Q) (kf : ¬ (I h0 6) = (0 : Int32) → Go d i_X12_factorRead 28 [.ref h0, .int x1, .int x2, v3, v4, v5, v6] [] S I J Q) : Go d i_X12_factorRead 21 [.ref h0, .int x1, .int x2, v3, v4, v5, v6] [] S I J Q := by
  have h := (And.intro g1 (Go.ite kt kf))
  exact Go.n tb_X12_factorRead 3 h
theorem b_X12_factorRead_28 {d : Nat} {S : zS} {I : zI} {J : zJ} {Q : zQ} {h0 : Nat} {x1 : Int32} {x2 : Int32} {v3 : Value} {v4 : Value} {v5 : Value} {v6 : Value} (kk : Q none S I J) : Go d i_X12_factorRead 28 [.ref h0, .int x1, .int x2, v3, v4, v5, v6] [] S I J Q := by
  have h := (And.intro trivial kk)
  exact Go.n tb_X12_factorRead 1 h
theorem b_X12_factorRead_29 {d : Nat} {S : zS} {I : zI} {J : zJ} {Q : zQ} {h0 : Nat} {x1 : Int32} {x2 : Int32} {v3 : Value} {v4 : Value} {v5 : Value} {v6 : Value} (g1 : z_kd S h0 = 13) (kk : z_wp d i_X12_passesWord [.ref h0] S I J (fun vv SS II JJ => Go d i_X12_factorRead 33 [.ref h0, .int x1, .int x2, v3, v4, v5, v6] (vv.toList ++ []) SS II JJ Q)) : Go d i_X12_factorRead 29 [.ref h0, .int x1, .int x2, v3, v4, v5, v6] [] S I J Q := by
  have h := (And.intro g1 kk)
  exact Go.n tb_X12_factorRead 2 h
theorem b_X12_factorRead_33 {d : Nat} {S : zS} {I : zI} {J : zJ} {Q : zQ} {h0 : Nat} {x1 : Int32} {x2 : Int32} {v3 : Value} {v4 : Value} {v5 : Value} {v6 : Value} (g1 : z_kd S h0 = 13) (g2 : z_kd S h0 = 13) (g3 : z_kd S h0 = 13) (kt : ((z_u2 (z_u2 I h0 8 x1) h0 9 (0 : Int32)) h0 8) = (8 : Int32) → Go d i_X12_factorRead 102 [.ref h0, .int x1, .int x2, v3, v4, v5, v6] [] S (z_u2 (z_u2 I h0 8 x1) h0 9 (0 : Int32)) J Q) (kf : ¬ ((z_u2 (z_u2 I h0 8 x1) h0 9 (0 : Int32)) h0 8) = (8 : Int32) → Go d i_X12_factorRead 52 [.ref h0, .int x1, .int x2, v3, v4, v5, v6] [] S (z_u2 (z_u2 I h0 8 x1) h0 9 (0 : Int32)) J Q) : Go d i_X12_factorRead 33 [.ref h0, .int x1, .int x2, v3, v4, v5, v6] [] S I J Q := by
  have h := (And.intro g1 (And.intro g2 (And.intro g3 (Go.ite kt kf))))
  exact Go.n tb_X12_factorRead 10 h
theorem b_X12_factorRead_52 {d : Nat} {S : zS} {I : zI} {J : zJ} {Q : zQ} {h0 : Nat} {x1 : Int32} {x2 : Int32} {v3 : Value} {v4 : Value} {v5 : Value} {v6 : Value} (g1 : z_kd S h0 = 13) (kt : ¬ (I h0 8) = (7 : Int32) → Go d i_X12_factorRead 67 [.ref h0, .int x1, .int x2, v3, v4, v5, v6] [.ref h0, .ref h0] S I J Q) (kf : (I h0 8) = (7 : Int32) → Go d i_X12_factorRead 63 [.ref h0, .int x1, .int x2, v3, v4, v5, v6] [.ref h0, .ref h0] S I J Q) : Go d i_X12_factorRead 52 [.ref h0, .int x1, .int x2, v3, v4, v5, v6] [] S I J Q := by
  have h := (And.intro g1 (Go.eti kt kf))
  exact Go.n tb_X12_factorRead 6 h
theorem b_X12_factorRead_63 {d : Nat} {S : zS} {I : zI} {J : zJ} {Q : zQ} {h0 : Nat} {x1 : Int32} {x2 : Int32} {v3 : Value} {v4 : Value} {v5 : Value} {v6 : Value} {q0 : Nat} {q1 : Nat} (g1 : z_kd S h0 = 13) (kt : ¬ (I h0 8) = (5 : Int32) → Go d i_X12_factorRead 81 [.ref h0, .int x1, .int x2, v3, v4, v5, v6] [.int (2 : Int32), .ref q1, .ref q0] S I J Q) (kf : (I h0 8) = (5 : Int32) → Go d i_X12_factorRead 76 [.ref h0, .int x1, .int x2, v3, v4, v5, v6] [.int (2 : Int32), .ref q1, .ref q0] S I J Q) : Go d i_X12_factorRead 63 [.ref h0, .int x1, .int x2, v3, v4, v5, v6] [.ref q1, .ref q0] S I J Q := by
  have h := (And.intro g1 (Go.eti kt kf))
  exact Go.n tb_X12_factorRead 6 h
theorem b_X12_factorRead_67 {d : Nat} {S : zS} {I : zI} {J : zJ} {Q : zQ} {h0 : Nat} {x1 : Int32} {x2 : Int32} {v3 : Value} {v4 : Value} {v5 : Value} {v6 : Value} {q0 : Nat} {q1 : Nat} (g1 : z_kd S h0 = 13) (kt : ¬ (I h0 8) = (5 : Int32) → Go d i_X12_factorRead 81 [.ref h0, .int x1, .int x2, v3, v4, v5, v6] [.int (1 : Int32), .ref q1, .ref q0] S I J Q) (kf : (I h0 8) = (5 : Int32) → Go d i_X12_factorRead 76 [.ref h0, .int x1, .int x2, v3, v4, v5, v6] [.int (1 : Int32), .ref q1, .ref q0] S I J Q) : Go d i_X12_factorRead 67 [.ref h0, .int x1, .int x2, v3, v4, v5, v6] [.ref q1, .ref q0] S I J Q := by
  have h := (And.intro g1 (Go.eti kt kf))
  exact Go.n tb_X12_factorRead 5 h
theorem b_X12_factorRead_76 {d : Nat} {S : zS} {I : zI} {J : zJ} {Q : zQ} {h0 : Nat} {x1 : Int32} {x2 : Int32} {v3 : Value} {v4 : Value} {v5 : Value} {v6 : Value} {q0 : Nat} {q1 : Nat} {y2 : Int32} (g1 : z_kd S q1 = 13) (kk : z_wp d i_X12_numeral [.ref q1, .int y2, .int (20 : Int32)] S I J (fun vv SS II JJ => Go d i_X12_factorRead 99 [.ref h0, .int x1, .int x2, v3, v4, v5, v6] (vv.toList ++ [.ref q0]) SS II JJ Q)) : Go d i_X12_factorRead 76 [.ref h0, .int x1, .int x2, v3, v4, v5, v6] [.int y2, .ref q1, .ref q0] S I J Q := by
  have h := (And.intro g1 kk)
  exact Go.n tb_X12_factorRead 3 h
theorem b_X12_factorRead_81 {d : Nat} {S : zS} {I : zI} {J : zJ} {Q : zQ} {h0 : Nat} {x1 : Int32} {x2 : Int32} {v3 : Value} {v4 : Value} {v5 : Value} {v6 : Value} {q0 : Nat} {q1 : Nat} {y2 : Int32} (g1 : z_kd S h0 = 13) (kt : ¬ (I h0 8) = (6 : Int32) → Go d i_X12_factorRead 95 [.ref h0, .int x1, .int x2, v3, v4, v5, v6] [.int y2, .ref q1, .ref q0] S I J Q) (kf : (I h0 8) = (6 : Int32) → Go d i_X12_factorRead 90 [.ref h0, .int x1, .int x2, v3, v4, v5, v6] [.int y2, .ref q1, .ref q0] S I J Q) : Go d i_X12_factorRead 81 [.ref h0, .int x1, .int x2, v3, v4, v5, v6] [.int y2, .ref q1, .ref q0] S I J Q := by
  have h := (And.intro g1 (Go.eti kt kf))
  exact Go.n tb_X12_factorRead 4 h
theorem b_X12_factorRead_90 {d : Nat} {S : zS} {I : zI} {J : zJ} {Q : zQ} {h0 : Nat} {x1 : Int32} {x2 : Int32} {v3 : Value} {v4 : Value} {v5 : Value} {v6 : Value} {q0 : Nat} {q1 : Nat} {y2 : Int32} (g1 : z_kd S q1 = 13) (kk : z_wp d i_X12_numeral [.ref q1, .int y2, .int (10 : Int32)] S I J (fun vv SS II JJ => Go d i_X12_factorRead 99 [.ref h0, .int x1, .int x2, v3, v4, v5, v6] (vv.toList ++ [.ref q0]) SS II JJ Q)) : Go d i_X12_factorRead 90 [.ref h0, .int x1, .int x2, v3, v4, v5, v6] [.int y2, .ref q1, .ref q0] S I J Q := by
  have h := (And.intro g1 kk)
  exact Go.n tb_X12_factorRead 3 h
theorem b_X12_factorRead_95 {d : Nat} {S : zS} {I : zI} {J : zJ} {Q : zQ} {h0 : Nat} {x1 : Int32} {x2 : Int32} {v3 : Value} {v4 : Value} {v5 : Value} {v6 : Value} {q0 : Nat} {q1 : Nat} {y2 : Int32} (g1 : z_kd S q1 = 13) (kk : z_wp d i_X12_numeral [.ref q1, .int y2, .int (5 : Int32)] S I J (fun vv SS II JJ => Go d i_X12_factorRead 99 [.ref h0, .int x1, .int x2, v3, v4, v5, v6] (vv.toList ++ [.ref q0]) SS II JJ Q)) : Go d i_X12_factorRead 95 [.ref h0, .int x1, .int x2, v3, v4, v5, v6] [.int y2, .ref q1, .ref q0] S I J Q := by
  have h := (And.intro g1 kk)
  exact Go.n tb_X12_factorRead 2 h
theorem b_X12_factorRead_99 {d : Nat} {S : zS} {I : zI} {J : zJ} {Q : zQ} {h0 : Nat} {x1 : Int32} {x2 : Int32} {v3 : Value} {v4 : Value} {v5 : Value} {v6 : Value} {q0 : Nat} {y1 : Int32} (g1 : z_kd S q0 = 13) (g2 : z_kd S h0 = 13) (kt : ((z_u2 I q0 9 y1) h0 6) = (0 : Int32) → Go d i_X12_factorRead 110 [.ref h0, .int x1, .int x2, v3, v4, v5, v6] [] S (z_u2 I q0 9 y1) J Q) (kf : ¬ ((z_u2 I q0 9 y1) h0 6) = (0 : Int32) → Go d i_X12_factorRead 109 [.ref h0, .int x1, .int x2, v3, v4, v5, v6] [] S (z_u2 I q0 9 y1) J Q) : Go d i_X12_factorRead 99 [.ref h0, .int x1, .int x2, v3, v4, v5, v6] [.int y1, .ref q0] S I J Q := by
  have h := (And.intro g1 (And.intro g2 (Go.ite kt kf)))
  exact Go.n tb_X12_factorRead 4 h
theorem b_X12_factorRead_102 {d : Nat} {S : zS} {I : zI} {J : zJ} {Q : zQ} {h0 : Nat} {x1 : Int32} {x2 : Int32} {v3 : Value} {v4 : Value} {v5 : Value} {v6 : Value} (g1 : z_kd S h0 = 13) (kt : (I h0 6) = (0 : Int32) → Go d i_X12_factorRead 110 [.ref h0, .int x1, .int x2, v3, v4, v5, v6] [] S I J Q) (kf : ¬ (I h0 6) = (0 : Int32) → Go d i_X12_factorRead 109 [.ref h0, .int x1, .int x2, v3, v4, v5, v6] [] S I J Q) : Go d i_X12_factorRead 102 [.ref h0, .int x1, .int x2, v3, v4, v5, v6] [] S I J Q := by
  have h := (And.intro g1 (Go.ite kt kf))
  exact Go.n tb_X12_factorRead 3 h
theorem b_X12_factorRead_109 {d : Nat} {S : zS} {I : zI} {J : zJ} {Q : zQ} {h0 : Nat} {x1 : Int32} {x2 : Int32} {v3 : Value} {v4 : Value} {v5 : Value} {v6 : Value} (kk : Q none S I J) : Go d i_X12_factorRead 109 [.ref h0, .int x1, .int x2, v3, v4, v5, v6] [] S I J Q := by
  have h := (And.intro trivial kk)
  exact Go.n tb_X12_factorRead 1 h
theorem b_X12_factorRead_110 {d : Nat} {S : zS} {I : zI} {J : zJ} {Q : zQ} {h0 : Nat} {x1 : Int32} {x2 : Int32} {v3 : Value} {v4 : Value} {v5 : Value} {v6 : Value} (g1 : z_kd S h0 = 13) (g2 : z_isI (z_kd S (z_rv S h0 0)) = true ∧ vp_in (1330 : Int32) (z_ln S (z_rv S h0 0))) (g3 : z_kd S h0 = 13) (kk : z_wp d i_X12_sizeOfFactor [.ref h0] S I J (fun vv SS II JJ => Go d i_X12_factorRead 123 [.ref h0, .int x1, .int x2, .int (I (z_rv S h0 0) (Int32.toNatClampNeg (1330 : Int32))), v4, v5, v6] (vv.toList ++ []) SS II JJ Q)) : Go d i_X12_factorRead 110 [.ref h0, .int x1, .int x2, v3, v4, v5, v6] [] S I J Q := by
  have h := (And.intro g1 (And.intro g2 (And.intro g3 kk)))
  exact Go.n tb_X12_factorRead 7 h
theorem b_X12_factorRead_123 {d : Nat} {S : zS} {I : zI} {J : zJ} {Q : zQ} {h0 : Nat} {x1 : Int32} {x2 : Int32} {x3 : Int32} {v4 : Value} {v5 : Value} {v6 : Value} {y0 : Int32} (kt : (x3 * y0) ≤ (20 : Int32) → Go d i_X12_factorRead 141 [.ref h0, .int x1, .int x2, .int x3, .int y0, v5, v6] [] S I J Q) (kf : ¬ (x3 * y0) ≤ (20 : Int32) → Go d i_X12_factorRead 134 [.ref h0, .int x1, .int x2, .int x3, .int y0, v5, v6] [] S I J Q) : Go d i_X12_factorRead 123 [.ref h0, .int x1, .int x2, .int x3, v4, v5, v6] [.int y0] S I J Q := by
  have h := (Go.ite kt kf)
  exact Go.n tb_X12_factorRead 6 h
theorem b_X12_factorRead_134 {d : Nat} {S : zS} {I : zI} {J : zJ} {Q : zQ} {h0 : Nat} {x1 : Int32} {x2 : Int32} {x3 : Int32} {x4 : Int32} {v5 : Value} {v6 : Value} (g1 : z_kd S h0 = 13) (kk : z_wp d i_X12_fails [.ref h0, .int (3 : Int32), .int x2] S I J (fun vv SS II JJ => Go d i_X12_factorRead 140 [.ref h0, .int x1, .int x2, .int x3, .int x4, v5, v6] (vv.toList ++ []) SS II JJ Q)) : Go d i_X12_factorRead 134 [.ref h0, .int x1, .int x2, .int x3, .int x4, v5, v6] [] S I J Q := by
  have h := (And.intro g1 kk)
  exact Go.n tb_X12_factorRead 4 h
theorem b_X12_factorRead_140 {d : Nat} {S : zS} {I : zI} {J : zJ} {Q : zQ} {h0 : Nat} {x1 : Int32} {x2 : Int32} {x3 : Int32} {x4 : Int32} {v5 : Value} {v6 : Value} (kk : Q none S I J) : Go d i_X12_factorRead 140 [.ref h0, .int x1, .int x2, .int x3, .int x4, v5, v6] [] S I J Q := by
  have h := (And.intro trivial kk)
  exact Go.n tb_X12_factorRead 1 h
theorem b_X12_factorRead_141 {d : Nat} {S : zS} {I : zI} {J : zJ} {Q : zQ} {h0 : Nat} {x1 : Int32} {x2 : Int32} {x3 : Int32} {x4 : Int32} {v5 : Value} {v6 : Value} (g1 : z_kd S h0 = 13) (kk : z_wp d i_X12_laysEven [.ref h0] S I J (fun vv SS II JJ => Go d i_X12_factorRead 145 [.ref h0, .int x1, .int x2, .int x3, .int x4, v5, v6] (vv.toList ++ []) SS II JJ Q)) : Go d i_X12_factorRead 141 [.ref h0, .int x1, .int x2, .int x3, .int x4, v5, v6] [] S I J Q := by
  have h := (And.intro g1 kk)
  exact Go.n tb_X12_factorRead 2 h
theorem b_X12_factorRead_145 {d : Nat} {S : zS} {I : zI} {J : zJ} {Q : zQ} {h0 : Nat} {x1 : Int32} {x2 : Int32} {x3 : Int32} {x4 : Int32} {v5 : Value} {v6 : Value} (kk : Go d i_X12_factorRead 153 [.ref h0, .int x1, .int x2, .int x3, .int x4, .int ((x3 * x4) - (1 : Int32)), v6] [] S I J Q) : Go d i_X12_factorRead 145 [.ref h0, .int x1, .int x2, .int x3, .int x4, v5, v6] [] S I J Q := by
  have h := kk
  exact Go.n tb_X12_factorRead 6 h
theorem b_X12_factorRead_153 {d : Nat} {S : zS} {I : zI} {J : zJ} {Q : zQ} {h0 : Nat} {x1 : Int32} {x2 : Int32} {x3 : Int32} {x4 : Int32} {x5 : Int32} {v6 : Value} (kt : x5 < (0 : Int32) → Go d i_X12_factorRead 232 [.ref h0, .int x1, .int x2, .int x3, .int x4, .int x5, v6] [] S I J Q) (kf : ¬ x5 < (0 : Int32) → Go d i_X12_factorRead 158 [.ref h0, .int x1, .int x2, .int x3, .int x4, .int x5, v6] [] S I J Q) : Go d i_X12_factorRead 153 [.ref h0, .int x1, .int x2, .int x3, .int x4, .int x5, v6] [] S I J Q := by
  have h := (Go.ite kt kf)
  exact Go.n tb_X12_factorRead 2 h
theorem b_X12_factorRead_158 {d : Nat} {S : zS} {I : zI} {J : zJ} {Q : zQ} {h0 : Nat} {x1 : Int32} {x2 : Int32} {x3 : Int32} {x4 : Int32} {x5 : Int32} {v6 : Value} (kk : Go d i_X12_factorRead 166 [.ref h0, .int x1, .int x2, .int x3, .int x4, .int x5, .int ((x3 * x4) - (1 : Int32))] [] S I J Q) : Go d i_X12_factorRead 158 [.ref h0, .int x1, .int x2, .int x3, .int x4, .int x5, v6] [] S I J Q := by
  have h := kk
  exact Go.n tb_X12_factorRead 6 h
theorem b_X12_factorRead_166 {d : Nat} {S : zS} {I : zI} {J : zJ} {Q : zQ} {h0 : Nat} {x1 : Int32} {x2 : Int32} {x3 : Int32} {x4 : Int32} {x5 : Int32} {x6 : Int32} (kt : x6 < (0 : Int32) → Go d i_X12_factorRead 226 [.ref h0, .int x1, .int x2, .int x3, .int x4, .int x5, .int x6] [] S I J Q) (kf : ¬ x6 < (0 : Int32) → Go d i_X12_factorRead 171 [.ref h0, .int x1, .int x2, .int x3, .int x4, .int x5, .int x6] [] S I J Q) : Go d i_X12_factorRead 166 [.ref h0, .int x1, .int x2, .int x3, .int x4, .int x5, .int x6] [] S I J Q := by
  have h := (Go.ite kt kf)
  exact Go.n tb_X12_factorRead 2 h
theorem b_X12_factorRead_171 {d : Nat} {S : zS} {I : zI} {J : zJ} {Q : zQ} {h0 : Nat} {x1 : Int32} {x2 : Int32} {x3 : Int32} {x4 : Int32} {x5 : Int32} {x6 : Int32} (g1 : z_kd S h0 = 13) (g2 : z_kd S h0 = 13) (g3 : ¬ x3 = 0) (g4 : ¬ x3 = 0) (g5 : z_isI (z_kd S (z_rv S h0 0)) = true ∧ vp_in (((1595 : Int32) + ((20 : Int32) * (x5 - x5 / x3 * x3))) + (x6 - x6 / x3 * x3)) (z_ln S (z_rv S h0 0))) (g6 : ¬ x3 = 0) (g7 : ¬ x3 = 0) (g8 : z_kd S h0 = 13) (kk : z_wp d i_X12_factorProduct [.ref h0, .int (x5 / x3), .int (x6 / x3)] S I J (fun vv SS II JJ => Go d i_X12_factorRead 217 [.ref h0, .int x1, .int x2, .int x3, .int x4, .int x5, .int x6] (vv.toList ++ [.int x3, .int (I (z_rv S h0 0) (Int32.toNatClampNeg (((1595 : Int32) + ((20 : Int32) * (x5 - x5 / x3 * x3))) + (x6 - x6 / x3 * x3)))), .int (((20 : Int32) * x5) + x6), .ref (z_rv S h0 12)]) SS II JJ Q)) : Go d i_X12_factorRead 171 [.ref h0, .int x1, .int x2, .int x3, .int x4, .int x5, .int x6] [] S I J Q := by
  have h := (And.intro g1 (And.intro g2 (And.intro g3 (And.intro g4 (And.intro g5 (And.intro g6 (And.intro g7 (And.intro g8 kk))))))))
  exact Go.n tb_X12_factorRead 30 h
theorem b_X12_factorRead_217 {d : Nat} {S : zS} {I : zI} {J : zJ} {Q : zQ} {h0 : Nat} {x1 : Int32} {x2 : Int32} {x3 : Int32} {x4 : Int32} {x5 : Int32} {x6 : Int32} {q0 : Nat} {y1 : Int32} {y2 : Int32} {y3 : Int32} {y4 : Int32} (g1 : z_kd S q0 = 100 ∧ vp_in y1 (z_ln S q0)) (kk : Go d i_X12_factorRead 166 [.ref h0, .int x1, .int x2, .int x3, .int x4, .int x5, .int (x6 + (-1 : Int32))] [] S (z_u2 I q0 (Int32.toNatClampNeg y1) (y2 + (y3 * y4))) J Q) : Go d i_X12_factorRead 217 [.ref h0, .int x1, .int x2, .int x3, .int x4, .int x5, .int x6] [.int y4, .int y3, .int y2, .int y1, .ref q0] S I J Q := by
  have h := (And.intro g1 kk)
  exact Go.n tb_X12_factorRead 5 h
theorem b_X12_factorRead_226 {d : Nat} {S : zS} {I : zI} {J : zJ} {Q : zQ} {h0 : Nat} {x1 : Int32} {x2 : Int32} {x3 : Int32} {x4 : Int32} {x5 : Int32} {x6 : Int32} (kk : Go d i_X12_factorRead 153 [.ref h0, .int x1, .int x2, .int x3, .int x4, .int (x5 + (-1 : Int32)), .int x6] [] S I J Q) : Go d i_X12_factorRead 226 [.ref h0, .int x1, .int x2, .int x3, .int x4, .int x5, .int x6] [] S I J Q := by
  have h := kk
  exact Go.n tb_X12_factorRead 2 h
theorem b_X12_factorRead_232 {d : Nat} {S : zS} {I : zI} {J : zJ} {Q : zQ} {h0 : Nat} {x1 : Int32} {x2 : Int32} {x3 : Int32} {x4 : Int32} {x5 : Int32} {v6 : Value} (kk : Go d i_X12_factorRead 235 [.ref h0, .int x1, .int x2, .int x3, .int x4, .int (0 : Int32), v6] [] S I J Q) : Go d i_X12_factorRead 232 [.ref h0, .int x1, .int x2, .int x3, .int x4, .int x5, v6] [] S I J Q := by
  have h := kk
  exact Go.n tb_X12_factorRead 2 h
theorem b_X12_factorRead_235 {d : Nat} {S : zS} {I : zI} {J : zJ} {Q : zQ} {h0 : Nat} {x1 : Int32} {x2 : Int32} {x3 : Int32} {x4 : Int32} {x5 : Int32} {v6 : Value} (kt : (x3 * x4) ≤ x5 → Go d i_X12_factorRead 298 [.ref h0, .int x1, .int x2, .int x3, .int x4, .int x5, v6] [] S I J Q) (kf : ¬ (x3 * x4) ≤ x5 → Go d i_X12_factorRead 244 [.ref h0, .int x1, .int x2, .int x3, .int x4, .int x5, v6] [] S I J Q) : Go d i_X12_factorRead 235 [.ref h0, .int x1, .int x2, .int x3, .int x4, .int x5, v6] [] S I J Q := by
  have h := (Go.ite kt kf)
  exact Go.n tb_X12_factorRead 5 h
theorem b_X12_factorRead_244 {d : Nat} {S : zS} {I : zI} {J : zJ} {Q : zQ} {h0 : Nat} {x1 : Int32} {x2 : Int32} {x3 : Int32} {x4 : Int32} {x5 : Int32} {v6 : Value} (kk : Go d i_X12_factorRead 247 [.ref h0, .int x1, .int x2, .int x3, .int x4, .int x5, .int (0 : Int32)] [] S I J Q) : Go d i_X12_factorRead 244 [.ref h0, .int x1, .int x2, .int x3, .int x4, .int x5, v6] [] S I J Q := by
  have h := kk
  exact Go.n tb_X12_factorRead 2 h
theorem b_X12_factorRead_247 {d : Nat} {S : zS} {I : zI} {J : zJ} {Q : zQ} {h0 : Nat} {x1 : Int32} {x2 : Int32} {x3 : Int32} {x4 : Int32} {x5 : Int32} {x6 : Int32} (kt : (x3 * x4) ≤ x6 → Go d i_X12_factorRead 292 [.ref h0, .int x1, .int x2, .int x3, .int x4, .int x5, .int x6] [] S I J Q) (kf : ¬ (x3 * x4) ≤ x6 → Go d i_X12_factorRead 256 [.ref h0, .int x1, .int x2, .int x3, .int x4, .int x5, .int x6] [] S I J Q) : Go d i_X12_factorRead 247 [.ref h0, .int x1, .int x2, .int x3, .int x4, .int x5, .int x6] [] S I J Q := by
  have h := (Go.ite kt kf)
  exact Go.n tb_X12_factorRead 5 h
theorem b_X12_factorRead_256 {d : Nat} {S : zS} {I : zI} {J : zJ} {Q : zQ} {h0 : Nat} {x1 : Int32} {x2 : Int32} {x3 : Int32} {x4 : Int32} {x5 : Int32} {x6 : Int32} {I1 : zI} (g1 : z_kd S h0 = 13) (g2 : z_kd S h0 = 13) (g3 : z_isI (z_kd S (z_rv S h0 12)) = true ∧ vp_in (((20 : Int32) * x5) + x6) (z_ln S (z_rv S h0 12))) (g4 : z_kd S (z_rv S h0 0) = 100 ∧ vp_in (((1595 : Int32) + ((20 : Int32) * x5)) + x6) (z_ln S (z_rv S h0 0))) (eI1 : I1 = z_u2 I (z_rv S h0 0) (Int32.toNatClampNeg (((1595 : Int32) + ((20 : Int32) * x5)) + x6)) (I (z_rv S h0 12) (Int32.toNatClampNeg (((20 : Int32) * x5) + x6)))) (kk : Go d i_X12_factorRead 247 [.ref h0, .int x1, .int x2, .int x3, .int x4, .int x5, .int (x6 + (1 : Int32))] [] S I1 J Q) : Go d i_X12_factorRead 256 [.ref h0, .int x1, .int x2, .int x3, .int x4, .int x5, .int x6] [] S I J Q := by
  subst eI1
  have h := (And.intro g1 (And.intro g2 (And.intro g3 (And.intro g4 kk))))
  exact Go.n tb_X12_factorRead 20 h
theorem b_X12_factorRead_292 {d : Nat} {S : zS} {I : zI} {J : zJ} {Q : zQ} {h0 : Nat} {x1 : Int32} {x2 : Int32} {x3 : Int32} {x4 : Int32} {x5 : Int32} {x6 : Int32} (kk : Go d i_X12_factorRead 235 [.ref h0, .int x1, .int x2, .int x3, .int x4, .int (x5 + (1 : Int32)), .int x6] [] S I J Q) : Go d i_X12_factorRead 292 [.ref h0, .int x1, .int x2, .int x3, .int x4, .int x5, .int x6] [] S I J Q := by
  have h := kk
  exact Go.n tb_X12_factorRead 2 h
theorem b_X12_factorRead_298 {d : Nat} {S : zS} {I : zI} {J : zJ} {Q : zQ} {h0 : Nat} {x1 : Int32} {x2 : Int32} {x3 : Int32} {x4 : Int32} {x5 : Int32} {v6 : Value} {I1 : zI} {I2 : zI} (g1 : z_kd S h0 = 13) (g2 : z_kd S (z_rv S h0 0) = 100 ∧ vp_in (1330 : Int32) (z_ln S (z_rv S h0 0))) (g3 : z_kd S h0 = 13) (g4 : z_kd S h0 = 13) (g5 : z_isI (z_kd S (z_rv S h0 0)) = true ∧ vp_in (1333 : Int32) (z_ln S (z_rv S h0 0))) (g6 : z_kd S (z_rv S h0 0) = 100 ∧ vp_in ((1355 : Int32) + ((z_u2 I (z_rv S h0 0) (Int32.toNatClampNeg (1330 : Int32)) (x3 * x4)) (z_rv S h0 0) (Int32.toNatClampNeg (1333 : Int32)))) (z_ln S (z_rv S h0 0))) (eI1 : I1 = z_u2 (z_u2 I (z_rv S h0 0) (Int32.toNatClampNeg (1330 : Int32)) (x3 * x4)) (z_rv S h0 0) (Int32.toNatClampNeg ((1355 : Int32) + ((z_u2 I (z_rv S h0 0) (Int32.toNatClampNeg (1330 : Int32)) (x3 * x4)) (z_rv S h0 0) (Int32.toNatClampNeg (1333 : Int32))))) x4) (g8 : z_kd S h0 = 13) (g9 : z_isI (z_kd S (z_rv S h0 0)) = true ∧ vp_in (1333 : Int32) (z_ln S (z_rv S h0 0))) (g10 : z_kd S (z_rv S h0 0) = 100 ∧ vp_in (1333 : Int32) (z_ln S (z_rv S h0 0))) (eI2 : I2 = z_u2 I1 (z_rv S h0 0) (Int32.toNatClampNeg (1333 : Int32)) ((I1 (z_rv S h0 0) (Int32.toNatClampNeg (1333 : Int32))) + (1 : Int32))) (kk : Q none S I2 J) : Go d i_X12_factorRead 298 [.ref h0, .int x1, .int x2, .int x3, .int x4, .int x5, v6] [] S I J Q := by
  subst eI2
  subst eI1
  have h := (And.intro g1 (And.intro g2 (And.intro g3 (And.intro g4 (And.intro g5 (And.intro g6 (And.intro g8 (And.intro g9 (And.intro g10 (And.intro trivial kk))))))))))
  exact Go.n tb_X12_factorRead 26 h
theorem w_X12_begins {d : Nat} {S : zS} {I : zI} {J : zJ} {Q : zQ} {h0 : Nat} {x1 : Int32} (h : Go d i_X12_begins 0 [.ref h0, .int x1, .retAddr 0] [] S I J Q) : z_wp (d + 1) i_X12_begins [.ref h0, .int x1] S I J Q := Go.wp (Nat.le_of_ble_eq_true rfl) h
theorem e_X12_begins {d : Nat} {S S2 : zS} {I I2 : zI} {J J2 : zJ} {r : Option Value} {h0 : Nat} {x1 : Int32} (h : Go d i_X12_begins 0 [.ref h0, .int x1, .retAddr 0] [] S I J (z_eq r S2 I2 J2)) : z_ev (d + 1) i_X12_begins [.ref h0, .int x1] S I J r S2 I2 J2 := Go.ev (Nat.le_of_ble_eq_true rfl) h
theorem b_X12_begins_0 {d : Nat} {S : zS} {I : zI} {J : zJ} {Q : zQ} {h0 : Nat} {x1 : Int32} {v2 : Value} (kk : Go d i_X12_begins 2 [.ref h0, .int x1, .int (0 : Int32)] [] S I J Q) : Go d i_X12_begins 0 [.ref h0, .int x1, v2] [] S I J Q := by
  have h := kk
  exact Go.n tb_X12_begins 2 h
theorem b_X12_begins_2 {d : Nat} {S : zS} {I : zI} {J : zJ} {Q : zQ} {h0 : Nat} {x1 : Int32} {x2 : Int32} (kt : (665 : Int32) ≤ x2 → Go d i_X12_begins 26 [.ref h0, .int x1, .int x2] [] S I J Q) (kf : ¬ (665 : Int32) ≤ x2 → Go d i_X12_begins 9 [.ref h0, .int x1, .int x2] [] S I J Q) : Go d i_X12_begins 2 [.ref h0, .int x1, .int x2] [] S I J Q := by
  have h := (Go.ite kt kf)
  exact Go.n tb_X12_begins 3 h
theorem b_X12_begins_9 {d : Nat} {S : zS} {I : zI} {J : zJ} {Q : zQ} {h0 : Nat} {x1 : Int32} {x2 : Int32} (g1 : z_kd S h0 = 13) (g2 : z_kd S (z_rv S h0 0) = 100 ∧ vp_in ((1330 : Int32) + x2) (z_ln S (z_rv S h0 0))) (kk : Go d i_X12_begins 2 [.ref h0, .int x1, .int (x2 + (1 : Int32))] [] S (z_u2 I (z_rv S h0 0) (Int32.toNatClampNeg ((1330 : Int32) + x2)) (0 : Int32)) J Q) : Go d i_X12_begins 9 [.ref h0, .int x1, .int x2] [] S I J Q := by
  have h := (And.intro g1 (And.intro g2 kk))
  exact Go.n tb_X12_begins 9 h
theorem b_X12_begins_26 {d : Nat} {S : zS} {I : zI} {J : zJ} {Q : zQ} {h0 : Nat} {x1 : Int32} {x2 : Int32} {I1 : zI} (g1 : z_kd S h0 = 13) (g2 : z_kd S (z_rv S h0 0) = 100 ∧ vp_in (1330 : Int32) (z_ln S (z_rv S h0 0))) (g3 : z_kd S h0 = 13) (g4 : z_kd S (z_rv S h0 0) = 100 ∧ vp_in (1332 : Int32) (z_ln S (z_rv S h0 0))) (eI1 : I1 = z_u2 (z_u2 I (z_rv S h0 0) (Int32.toNatClampNeg (1330 : Int32)) (1 : Int32)) (z_rv S h0 0) (Int32.toNatClampNeg (1332 : Int32)) x1) (kk : Q none S I1 J) : Go d i_X12_begins 26 [.ref h0, .int x1, .int x2] [] S I J Q := by
  subst eI1
  have h := (And.intro g1 (And.intro g2 (And.intro g3 (And.intro g4 (And.intro trivial kk)))))
  exact Go.n tb_X12_begins 11 h
theorem w_X12_base {d : Nat} {S : zS} {I : zI} {J : zJ} {Q : zQ} {h0 : Nat} (h : Go d i_X12_base 0 [.ref h0, .retAddr 0] [] S I J Q) : z_wp (d + 1) i_X12_base [.ref h0] S I J Q := Go.wp (Nat.le_of_ble_eq_true rfl) h
theorem e_X12_base {d : Nat} {S S2 : zS} {I I2 : zI} {J J2 : zJ} {r : Option Value} {h0 : Nat} (h : Go d i_X12_base 0 [.ref h0, .retAddr 0] [] S I J (z_eq r S2 I2 J2)) : z_ev (d + 1) i_X12_base [.ref h0] S I J r S2 I2 J2 := Go.ev (Nat.le_of_ble_eq_true rfl) h
theorem b_X12_base_0 {d : Nat} {S : zS} {I : zI} {J : zJ} {Q : zQ} {h0 : Nat} {v1 : Value} (kk : Go d i_X12_base 2 [.ref h0, .int (0 : Int32)] [] S I J Q) : Go d i_X12_base 0 [.ref h0, v1] [] S I J Q := by
  have h := kk
  exact Go.n tb_X12_base 2 h
theorem b_X12_base_2 {d : Nat} {S : zS} {I : zI} {J : zJ} {Q : zQ} {h0 : Nat} {x1 : Int32} (g1 : z_kd S h0 = 13) (g2 : z_isI (z_kd S (z_rv S h0 0)) = true ∧ vp_in (1330 : Int32) (z_ln S (z_rv S h0 0))) (kt : (I (z_rv S h0 0) (Int32.toNatClampNeg (1330 : Int32))) ≤ x1 → Go d i_X12_base 31 [.ref h0, .int x1] [] S I J Q) (kf : ¬ (I (z_rv S h0 0) (Int32.toNatClampNeg (1330 : Int32))) ≤ x1 → Go d i_X12_base 14 [.ref h0, .int x1] [] S I J Q) : Go d i_X12_base 2 [.ref h0, .int x1] [] S I J Q := by
  have h := (And.intro g1 (And.intro g2 (Go.ite kt kf)))
  exact Go.n tb_X12_base 6 h
theorem b_X12_base_14 {d : Nat} {S : zS} {I : zI} {J : zJ} {Q : zQ} {h0 : Nat} {x1 : Int32} (g1 : z_kd S h0 = 13) (g2 : z_kd S (z_rv S h0 0) = 100 ∧ vp_in ((1335 : Int32) + x1) (z_ln S (z_rv S h0 0))) (kk : Go d i_X12_base 2 [.ref h0, .int (x1 + (1 : Int32))] [] S (z_u2 I (z_rv S h0 0) (Int32.toNatClampNeg ((1335 : Int32) + x1)) x1) J Q) : Go d i_X12_base 14 [.ref h0, .int x1] [] S I J Q := by
  have h := (And.intro g1 (And.intro g2 kk))
  exact Go.n tb_X12_base 9 h
theorem b_X12_base_31 {d : Nat} {S : zS} {I : zI} {J : zJ} {Q : zQ} {h0 : Nat} {x1 : Int32} (kk : Q none S I J) : Go d i_X12_base 31 [.ref h0, .int x1] [] S I J Q := by
  have h := (And.intro trivial kk)
  exact Go.n tb_X12_base 1 h
theorem w_X12_groupRead {d : Nat} {S : zS} {I : zI} {J : zJ} {Q : zQ} {h0 : Nat} (h : Go d i_X12_groupRead 0 [.ref h0] [] S I J Q) : z_wp (d + 1) i_X12_groupRead [.ref h0] S I J Q := Go.wp (Nat.le_of_ble_eq_true rfl) h
theorem e_X12_groupRead {d : Nat} {S S2 : zS} {I I2 : zI} {J J2 : zJ} {r : Option Value} {h0 : Nat} (h : Go d i_X12_groupRead 0 [.ref h0] [] S I J (z_eq r S2 I2 J2)) : z_ev (d + 1) i_X12_groupRead [.ref h0] S I J r S2 I2 J2 := Go.ev (Nat.le_of_ble_eq_true rfl) h
theorem b_X12_groupRead_0 {d : Nat} {S : zS} {I : zI} {J : zJ} {Q : zQ} {h0 : Nat} (g1 : z_kd S h0 = 13) (kk : z_wp d i_X12_begins [.ref h0, .int (0 : Int32)] S I J (fun vv SS II JJ => Go d i_X12_groupRead 5 [.ref h0] (vv.toList ++ []) SS II JJ Q)) : Go d i_X12_groupRead 0 [.ref h0] [] S I J Q := by
  have h := (And.intro g1 kk)
  exact Go.n tb_X12_groupRead 3 h
theorem b_X12_groupRead_5 {d : Nat} {S : zS} {I : zI} {J : zJ} {Q : zQ} {h0 : Nat} (g1 : z_kd S h0 = 13) (kk : z_wp d i_X12_factorRead [.ref h0] S I J (fun vv SS II JJ => Go d i_X12_groupRead 9 [.ref h0] (vv.toList ++ []) SS II JJ Q)) : Go d i_X12_groupRead 5 [.ref h0] [] S I J Q := by
  have h := (And.intro g1 kk)
  exact Go.n tb_X12_groupRead 2 h
theorem b_X12_groupRead_9 {d : Nat} {S : zS} {I : zI} {J : zJ} {Q : zQ} {h0 : Nat} (g1 : z_kd S h0 = 13) (kt : ¬ (I h0 6) = (0 : Int32) → Go d i_X12_groupRead 35 [.ref h0] [] S I J Q) (kf : (I h0 6) = (0 : Int32) → Go d i_X12_groupRead 16 [.ref h0] [] S I J Q) : Go d i_X12_groupRead 9 [.ref h0] [] S I J Q := by
  have h := (And.intro g1 (Go.eti kt kf))
  exact Go.n tb_X12_groupRead 3 h
theorem b_X12_groupRead_16 {d : Nat} {S : zS} {I : zI} {J : zJ} {Q : zQ} {h0 : Nat} (g1 : z_kd S h0 = 13) (kk : z_wp d i_X12_wordHere [.ref h0] S I J (fun vv SS II JJ => Go d i_X12_groupRead 20 [.ref h0] (vv.toList ++ []) SS II JJ Q)) : Go d i_X12_groupRead 16 [.ref h0] [] S I J Q := by
  have h := (And.intro g1 kk)
  exact Go.n tb_X12_groupRead 2 h
theorem b_X12_groupRead_20 {d : Nat} {S : zS} {I : zI} {J : zJ} {Q : zQ} {h0 : Nat} {y0 : Int32} (kt : ¬ y0 = (4 : Int32) → Go d i_X12_groupRead 35 [.ref h0] [] S I J Q) (kf : y0 = (4 : Int32) → Go d i_X12_groupRead 24 [.ref h0] [] S I J Q) : Go d i_X12_groupRead 20 [.ref h0] [.int y0] S I J Q := by
  have h := (Go.eti kt kf)
  exact Go.n tb_X12_groupRead 2 h
theorem b_X12_groupRead_24 {d : Nat} {S : zS} {I : zI} {J : zJ} {Q : zQ} {h0 : Nat} (g1 : z_kd S h0 = 13) (kk : z_wp d i_X12_passesWord [.ref h0] S I J (fun vv SS II JJ => Go d i_X12_groupRead 28 [.ref h0] (vv.toList ++ []) SS II JJ Q)) : Go d i_X12_groupRead 24 [.ref h0] [] S I J Q := by
  have h := (And.intro g1 kk)
  exact Go.n tb_X12_groupRead 2 h
theorem b_X12_groupRead_28 {d : Nat} {S : zS} {I : zI} {J : zJ} {Q : zQ} {h0 : Nat} (g1 : z_kd S h0 = 13) (kk : z_wp d i_X12_factorRead [.ref h0] S I J (fun vv SS II JJ => Go d i_X12_groupRead 32 [.ref h0] (vv.toList ++ []) SS II JJ Q)) : Go d i_X12_groupRead 28 [.ref h0] [] S I J Q := by
  have h := (And.intro g1 kk)
  exact Go.n tb_X12_groupRead 2 h
theorem b_X12_groupRead_32 {d : Nat} {S : zS} {I : zI} {J : zJ} {Q : zQ} {h0 : Nat} (kk : Go d i_X12_groupRead 9 [.ref h0] [] S I J Q) : Go d i_X12_groupRead 32 [.ref h0] [] S I J Q := by
  have h := kk
  exact Go.n tb_X12_groupRead 1 h
theorem b_X12_groupRead_35 {d : Nat} {S : zS} {I : zI} {J : zJ} {Q : zQ} {h0 : Nat} (g1 : z_kd S h0 = 13) (kk : z_wp d i_X12_base [.ref h0] S I J (fun vv SS II JJ => Go d i_X12_groupRead 39 [.ref h0] (vv.toList ++ []) SS II JJ Q)) : Go d i_X12_groupRead 35 [.ref h0] [] S I J Q := by
  have h := (And.intro g1 kk)
  exact Go.n tb_X12_groupRead 2 h
theorem b_X12_groupRead_39 {d : Nat} {S : zS} {I : zI} {J : zJ} {Q : zQ} {h0 : Nat} (kk : Q none S I J) : Go d i_X12_groupRead 39 [.ref h0] [] S I J Q := by
  have h := (And.intro trivial kk)
  exact Go.n tb_X12_groupRead 1 h
theorem w_X12_rowRead {d : Nat} {S : zS} {I : zI} {J : zJ} {Q : zQ} {h0 : Nat} (h : Go d i_X12_rowRead 0 [.ref h0, .retAddr 0, .retAddr 0, .retAddr 0, .retAddr 0] [] S I J Q) : z_wp (d + 1) i_X12_rowRead [.ref h0] S I J Q := Go.wp (Nat.le_of_ble_eq_true rfl) h
theorem e_X12_rowRead {d : Nat} {S S2 : zS} {I I2 : zI} {J J2 : zJ} {r : Option Value} {h0 : Nat} (h : Go d i_X12_rowRead 0 [.ref h0, .retAddr 0, .retAddr 0, .retAddr 0, .retAddr 0] [] S I J (z_eq r S2 I2 J2)) : z_ev (d + 1) i_X12_rowRead [.ref h0] S I J r S2 I2 J2 := Go.ev (Nat.le_of_ble_eq_true rfl) h
theorem b_X12_rowRead_0 {d : Nat} {S : zS} {I : zI} {J : zJ} {Q : zQ} {h0 : Nat} {v1 : Value} {v2 : Value} {v3 : Value} {v4 : Value} (g1 : z_kd S h0 = 13) (kt : (I h0 6) = (0 : Int32) → Go d i_X12_rowRead 8 [.ref h0, v1, v2, v3, v4] [] S I J Q) (kf : ¬ (I h0 6) = (0 : Int32) → Go d i_X12_rowRead 7 [.ref h0, v1, v2, v3, v4] [] S I J Q) : Go d i_X12_rowRead 0 [.ref h0, v1, v2, v3, v4] [] S I J Q := by
  have h := (And.intro g1 (Go.ite kt kf))
  exact Go.n tb_X12_rowRead 3 h
theorem b_X12_rowRead_7 {d : Nat} {S : zS} {I : zI} {J : zJ} {Q : zQ} {h0 : Nat} {v1 : Value} {v2 : Value} {v3 : Value} {v4 : Value} (kk : Q none S I J) : Go d i_X12_rowRead 7 [.ref h0, v1, v2, v3, v4] [] S I J Q := by
  have h := (And.intro trivial kk)
  exact Go.n tb_X12_rowRead 1 h
theorem b_X12_rowRead_8 {d : Nat} {S : zS} {I : zI} {J : zJ} {Q : zQ} {h0 : Nat} {v1 : Value} {v2 : Value} {v3 : Value} {v4 : Value} (g1 : z_kd S h0 = 13) (kk : z_wp d i_X12_peek [.ref h0] S I J (fun vv SS II JJ => Go d i_X12_rowRead 12 [.ref h0, v1, v2, v3, v4] (vv.toList ++ []) SS II JJ Q)) : Go d i_X12_rowRead 8 [.ref h0, v1, v2, v3, v4] [] S I J Q := by
  have h := (And.intro g1 kk)
  exact Go.n tb_X12_rowRead 2 h
theorem b_X12_rowRead_12 {d : Nat} {S : zS} {I : zI} {J : zJ} {Q : zQ} {h0 : Nat} {v1 : Value} {v2 : Value} {v3 : Value} {v4 : Value} {y0 : Int32} (kk : z_wp d i_X12_isDigit [.int y0] S I J (fun vv SS II JJ => Go d i_X12_rowRead 15 [.ref h0, v1, v2, v3, v4] (vv.toList ++ []) SS II JJ Q)) : Go d i_X12_rowRead 12 [.ref h0, v1, v2, v3, v4] [.int y0] S I J Q := by
  have h := (And.intro trivial kk)
  exact Go.n tb_X12_rowRead 1 h
theorem b_X12_rowRead_15 {d : Nat} {S : zS} {I : zI} {J : zJ} {Q : zQ} {h0 : Nat} {v1 : Value} {v2 : Value} {v3 : Value} {v4 : Value} {y0 : Int32} (kt : ¬ y0 = (0 : Int32) → Go d i_X12_rowRead 28 [.ref h0, v1, v2, v3, v4] [] S I J Q) (kf : y0 = (0 : Int32) → Go d i_X12_rowRead 18 [.ref h0, v1, v2, v3, v4] [] S I J Q) : Go d i_X12_rowRead 15 [.ref h0, v1, v2, v3, v4] [.int y0] S I J Q := by
  have h := (Go.eti kt kf)
  exact Go.n tb_X12_rowRead 1 h
theorem b_X12_rowRead_18 {d : Nat} {S : zS} {I : zI} {J : zJ} {Q : zQ} {h0 : Nat} {v1 : Value} {v2 : Value} {v3 : Value} {v4 : Value} (g1 : z_kd S h0 = 13) (g2 : z_kd S h0 = 13) (kk : z_wp d i_X12_fails [.ref h0, .int (1 : Int32), .int (I h0 5)] S I J (fun vv SS II JJ => Go d i_X12_rowRead 27 [.ref h0, v1, v2, v3, v4] (vv.toList ++ []) SS II JJ Q)) : Go d i_X12_rowRead 18 [.ref h0, v1, v2, v3, v4] [] S I J Q := by
  have h := (And.intro g1 (And.intro g2 kk))
  exact Go.n tb_X12_rowRead 5 h
theorem b_X12_rowRead_27 {d : Nat} {S : zS} {I : zI} {J : zJ} {Q : zQ} {h0 : Nat} {v1 : Value} {v2 : Value} {v3 : Value} {v4 : Value} (kk : Q none S I J) : Go d i_X12_rowRead 27 [.ref h0, v1, v2, v3, v4] [] S I J Q := by
  have h := (And.intro trivial kk)
  exact Go.n tb_X12_rowRead 1 h
theorem b_X12_rowRead_28 {d : Nat} {S : zS} {I : zI} {J : zJ} {Q : zQ} {h0 : Nat} {v1 : Value} {v2 : Value} {v3 : Value} {v4 : Value} (g1 : z_kd S h0 = 13) (kk : Go d i_X12_rowRead 37 [.ref h0, .int (I h0 5), .int (0 : Int32), .int (0 : Int32), v4] [] S I J Q) : Go d i_X12_rowRead 28 [.ref h0, v1, v2, v3, v4] [] S I J Q := by
  have h := (And.intro g1 kk)
  exact Go.n tb_X12_rowRead 7 h
theorem b_X12_rowRead_37 {d : Nat} {S : zS} {I : zI} {J : zJ} {Q : zQ} {h0 : Nat} {x1 : Int32} {x2 : Int32} {x3 : Int32} {v4 : Value} (g1 : z_kd S h0 = 13) (g2 : z_kd S h0 = 13) (kt : (I h0 4) ≤ (I h0 5) → Go d i_X12_rowRead 122 [.ref h0, .int x1, .int x2, .int x3, v4] [] S I J Q) (kf : ¬ (I h0 4) ≤ (I h0 5) → Go d i_X12_rowRead 48 [.ref h0, .int x1, .int x2, .int x3, v4] [] S I J Q) : Go d i_X12_rowRead 37 [.ref h0, .int x1, .int x2, .int x3, v4] [] S I J Q := by
  have h := (And.intro g1 (And.intro g2 (Go.ite kt kf)))
  exact Go.n tb_X12_rowRead 5 h
theorem b_X12_rowRead_48 {d : Nat} {S : zS} {I : zI} {J : zJ} {Q : zQ} {h0 : Nat} {x1 : Int32} {x2 : Int32} {x3 : Int32} {v4 : Value} (g1 : z_kd S h0 = 13) (g2 : z_kd S h0 = 13) (g3 : z_isB (z_kd S (z_rv S h0 2)) = true ∧ vp_in (I h0 5) (z_ln S (z_rv S h0 2))) (kk : z_wp d i_X12_isDigit [.int (I (z_rv S h0 2) (Int32.toNatClampNeg (I h0 5)))] S I J (fun vv SS II JJ => Go d i_X12_rowRead 60 [.ref h0, .int x1, .int x2, .int x3, v4] (vv.toList ++ []) SS II JJ Q)) : Go d i_X12_rowRead 48 [.ref h0, .int x1, .int x2, .int x3, v4] [] S I J Q := by
  have h := (And.intro g1 (And.intro g2 (And.intro g3 (And.intro trivial kk))))
  exact Go.n tb_X12_rowRead 6 h
theorem b_X12_rowRead_60 {d : Nat} {S : zS} {I : zI} {J : zJ} {Q : zQ} {h0 : Nat} {x1 : Int32} {x2 : Int32} {x3 : Int32} {v4 : Value} {y0 : Int32} (kt : y0 = (0 : Int32) → Go d i_X12_rowRead 122 [.ref h0, .int x1, .int x2, .int x3, v4] [] S I J Q) (kf : ¬ y0 = (0 : Int32) → Go d i_X12_rowRead 63 [.ref h0, .int x1, .int x2, .int x3, v4] [] S I J Q) : Go d i_X12_rowRead 60 [.ref h0, .int x1, .int x2, .int x3, v4] [.int y0] S I J Q := by
  have h := (Go.ite kt kf)
  exact Go.n tb_X12_rowRead 1 h
theorem b_X12_rowRead_63 {d : Nat} {S : zS} {I : zI} {J : zJ} {Q : zQ} {h0 : Nat} {x1 : Int32} {x2 : Int32} {x3 : Int32} {v4 : Value} (g1 : z_kd S h0 = 13) (g2 : z_kd S h0 = 13) (g3 : z_isB (z_kd S (z_rv S h0 2)) = true ∧ vp_in (I h0 5) (z_ln S (z_rv S h0 2))) (kt : (8 : Int32) ≤ x3 → Go d i_X12_rowRead 106 [.ref h0, .int x1, .int x2, .int x3, .int ((I (z_rv S h0 2) (Int32.toNatClampNeg (I h0 5))) - (48 : Int32))] [] S I J Q) (kf : ¬ (8 : Int32) ≤ x3 → Go d i_X12_rowRead 83 [.ref h0, .int x1, .int x2, .int x3, .int ((I (z_rv S h0 2) (Int32.toNatClampNeg (I h0 5))) - (48 : Int32))] [] S I J Q) : Go d i_X12_rowRead 63 [.ref h0, .int x1, .int x2, .int x3, v4] [] S I J Q := by
  have h := (And.intro g1 (And.intro g2 (And.intro g3 (Go.ite kt kf))))
  exact Go.n tb_X12_rowRead 11 h
theorem b_X12_rowRead_83 {d : Nat} {S : zS} {I : zI} {J : zJ} {Q : zQ} {h0 : Nat} {x1 : Int32} {x2 : Int32} {x3 : Int32} {x4 : Int32} {I1 : zI} (g1 : z_kd S h0 = 13) (g2 : z_kd S h0 = 13) (g3 : z_kd S (z_rv S h0 13) = 100 ∧ vp_in (((8 : Int32) * (I h0 14)) + x3) (z_ln S (z_rv S h0 13))) (g4 : z_kd S h0 = 13) (g5 : z_kd S h0 = 13) (eI1 : I1 = z_u2 (z_u2 I (z_rv S h0 13) (Int32.toNatClampNeg (((8 : Int32) * (I h0 14)) + x3)) x4) h0 5 (((z_u2 I (z_rv S h0 13) (Int32.toNatClampNeg (((8 : Int32) * (I h0 14)) + x3)) x4) h0 5) + (1 : Int32))) (kk : Go d i_X12_rowRead 37 [.ref h0, .int x1, .int (x2 ||| ((1 : Int32) <<< (x4 &&& 31))), .int (x3 + (1 : Int32)), .int x4] [] S I1 J Q) : Go d i_X12_rowRead 83 [.ref h0, .int x1, .int x2, .int x3, .int x4] [] S I J Q := by
  subst eI1
  have h := (And.intro g1 (And.intro g2 (And.intro g3 (And.intro g4 (And.intro g5 kk)))))
  exact Go.n tb_X12_rowRead 24 h
theorem b_X12_rowRead_106 {d : Nat} {S : zS} {I : zI} {J : zJ} {Q : zQ} {h0 : Nat} {x1 : Int32} {x2 : Int32} {x3 : Int32} {x4 : Int32} (g1 : z_kd S h0 = 13) (g2 : z_kd S h0 = 13) (kk : Go d i_X12_rowRead 37 [.ref h0, .int x1, .int x2, .int (x3 + (1 : Int32)), .int x4] [] S (z_u2 I h0 5 ((I h0 5) + (1 : Int32))) J Q) : Go d i_X12_rowRead 106 [.ref h0, .int x1, .int x2, .int x3, .int x4] [] S I J Q := by
  have h := (And.intro g1 (And.intro g2 kk))
  exact Go.n tb_X12_rowRead 8 h
theorem b_X12_rowRead_122 {d : Nat} {S : zS} {I : zI} {J : zJ} {Q : zQ} {h0 : Nat} {x1 : Int32} {x2 : Int32} {x3 : Int32} {v4 : Value} (kk : z_wp d i_X12_isIn [.long (Int32.toInt64 x3), .long (2 : Int64), .long (8 : Int64)] S I J (fun vv SS II JJ => Go d i_X12_rowRead 133 [.ref h0, .int x1, .int x2, .int x3, v4] (vv.toList ++ []) SS II JJ Q)) : Go d i_X12_rowRead 122 [.ref h0, .int x1, .int x2, .int x3, v4] [] S I J Q := by
  have h := (And.intro trivial kk)
  exact Go.n tb_X12_rowRead 5 h
theorem b_X12_rowRead_133 {d : Nat} {S : zS} {I : zI} {J : zJ} {Q : zQ} {h0 : Nat} {x1 : Int32} {x2 : Int32} {x3 : Int32} {v4 : Value} {y0 : Int32} (kt : y0 = (0 : Int32) → Go d i_X12_rowRead 160 [.ref h0, .int x1, .int x2, .int x3, v4] [] S I J Q) (kf : ¬ y0 = (0 : Int32) → Go d i_X12_rowRead 136 [.ref h0, .int x1, .int x2, .int x3, v4] [] S I J Q) : Go d i_X12_rowRead 133 [.ref h0, .int x1, .int x2, .int x3, v4] [.int y0] S I J Q := by
  have h := (Go.ite kt kf)
  exact Go.n tb_X12_rowRead 1 h
theorem b_X12_rowRead_136 {d : Nat} {S : zS} {I : zI} {J : zJ} {Q : zQ} {h0 : Nat} {x1 : Int32} {x2 : Int32} {x3 : Int32} {v4 : Value} (kt : ¬ x2 = (((1 : Int32) <<< (x3 &&& 31)) - (1 : Int32)) → Go d i_X12_rowRead 160 [.ref h0, .int x1, .int x2, .int x3, v4] [] S I J Q) (kf : x2 = (((1 : Int32) <<< (x3 &&& 31)) - (1 : Int32)) → Go d i_X12_rowRead 145 [.ref h0, .int x1, .int x2, .int x3, v4] [] S I J Q) : Go d i_X12_rowRead 136 [.ref h0, .int x1, .int x2, .int x3, v4] [] S I J Q := by
  have h := (Go.eti kt kf)
  exact Go.n tb_X12_rowRead 7 h
theorem b_X12_rowRead_145 {d : Nat} {S : zS} {I : zI} {J : zJ} {Q : zQ} {h0 : Nat} {x1 : Int32} {x2 : Int32} {x3 : Int32} {v4 : Value} (g1 : z_kd S h0 = 13) (kt : (I h0 14) ≤ (0 : Int32) → Go d i_X12_rowRead 167 [.ref h0, .int x1, .int x2, .int x3, v4] [] S I J Q) (kf : ¬ (I h0 14) ≤ (0 : Int32) → Go d i_X12_rowRead 152 [.ref h0, .int x1, .int x2, .int x3, v4] [] S I J Q) : Go d i_X12_rowRead 145 [.ref h0, .int x1, .int x2, .int x3, v4] [] S I J Q := by
  have h := (And.intro g1 (Go.ite kt kf))
  exact Go.n tb_X12_rowRead 3 h
theorem b_X12_rowRead_152 {d : Nat} {S : zS} {I : zI} {J : zJ} {Q : zQ} {h0 : Nat} {x1 : Int32} {x2 : Int32} {x3 : Int32} {v4 : Value} (g1 : z_kd S h0 = 13) (kt : x3 = (I h0 15) → Go d i_X12_rowRead 167 [.ref h0, .int x1, .int x2, .int x3, v4] [] S I J Q) (kf : ¬ x3 = (I h0 15) → Go d i_X12_rowRead 160 [.ref h0, .int x1, .int x2, .int x3, v4] [] S I J Q) : Go d i_X12_rowRead 152 [.ref h0, .int x1, .int x2, .int x3, v4] [] S I J Q := by
  have h := (And.intro g1 (Go.ite kt kf))
  exact Go.n tb_X12_rowRead 4 h
theorem b_X12_rowRead_160 {d : Nat} {S : zS} {I : zI} {J : zJ} {Q : zQ} {h0 : Nat} {x1 : Int32} {x2 : Int32} {x3 : Int32} {v4 : Value} (g1 : z_kd S h0 = 13) (kk : z_wp d i_X12_fails [.ref h0, .int (2 : Int32), .int x1] S I J (fun vv SS II JJ => Go d i_X12_rowRead 166 [.ref h0, .int x1, .int x2, .int x3, v4] (vv.toList ++ []) SS II JJ Q)) : Go d i_X12_rowRead 160 [.ref h0, .int x1, .int x2, .int x3, v4] [] S I J Q := by
  have h := (And.intro g1 kk)
  exact Go.n tb_X12_rowRead 4 h
theorem b_X12_rowRead_166 {d : Nat} {S : zS} {I : zI} {J : zJ} {Q : zQ} {h0 : Nat} {x1 : Int32} {x2 : Int32} {x3 : Int32} {v4 : Value} (kk : Q none S I J) : Go d i_X12_rowRead 166 [.ref h0, .int x1, .int x2, .int x3, v4] [] S I J Q := by
  have h := (And.intro trivial kk)
  exact Go.n tb_X12_rowRead 1 h
theorem b_X12_rowRead_167 {d : Nat} {S : zS} {I : zI} {J : zJ} {Q : zQ} {h0 : Nat} {x1 : Int32} {x2 : Int32} {x3 : Int32} {v4 : Value} (g1 : z_kd S h0 = 13) (g2 : z_kd S h0 = 13) (g3 : z_kd S h0 = 13) (kk : Q none S (z_u2 (z_u2 I h0 15 x3) h0 14 (((z_u2 I h0 15 x3) h0 14) + (1 : Int32))) J) : Go d i_X12_rowRead 167 [.ref h0, .int x1, .int x2, .int x3, v4] [] S I J Q := by
  have h := (And.intro g1 (And.intro g2 (And.intro g3 (And.intro trivial kk))))
  exact Go.n tb_X12_rowRead 10 h
theorem w_X12_findRow {d : Nat} {S : zS} {I : zI} {J : zJ} {Q : zQ} {h0 : Nat} {h1 : Nat} (h : Go d i_X12_findRow 0 [.ref h0, .ref h1, .retAddr 0] [] S I J Q) : z_wp (d + 1) i_X12_findRow [.ref h0, .ref h1] S I J Q := Go.wp (Nat.le_of_ble_eq_true rfl) h
theorem e_X12_findRow {d : Nat} {S S2 : zS} {I I2 : zI} {J J2 : zJ} {r : Option Value} {h0 : Nat} {h1 : Nat} (h : Go d i_X12_findRow 0 [.ref h0, .ref h1, .retAddr 0] [] S I J (z_eq r S2 I2 J2)) : z_ev (d + 1) i_X12_findRow [.ref h0, .ref h1] S I J r S2 I2 J2 := Go.ev (Nat.le_of_ble_eq_true rfl) h
theorem b_X12_findRow_0 {d : Nat} {S : zS} {I : zI} {J : zJ} {Q : zQ} {h0 : Nat} {h1 : Nat} {v2 : Value} (kk : Go d i_X12_findRow 2 [.ref h0, .ref h1, .int (0 : Int32)] [] S I J Q) : Go d i_X12_findRow 0 [.ref h0, .ref h1, v2] [] S I J Q := by
  have h := kk
  exact Go.n tb_X12_findRow 2 h
theorem b_X12_findRow_2 {d : Nat} {S : zS} {I : zI} {J : zJ} {Q : zQ} {h0 : Nat} {h1 : Nat} {x2 : Int32} (g1 : z_kd S h0 = 13) (g2 : z_isI (z_kd S (z_rv S h0 0)) = true ∧ vp_in (1330 : Int32) (z_ln S (z_rv S h0 0))) (kt : (I (z_rv S h0 0) (Int32.toNatClampNeg (1330 : Int32))) ≤ x2 → Go d i_X12_findRow 29 [.ref h0, .ref h1, .int x2] [] S I J Q) (kf : ¬ (I (z_rv S h0 0) (Int32.toNatClampNeg (1330 : Int32))) ≤ x2 → Go d i_X12_findRow 14 [.ref h0, .ref h1, .int x2] [] S I J Q) : Go d i_X12_findRow 2 [.ref h0, .ref h1, .int x2] [] S I J Q := by
  have h := (And.intro g1 (And.intro g2 (Go.ite kt kf)))
  exact Go.n tb_X12_findRow 6 h
theorem b_X12_findRow_14 {d : Nat} {S : zS} {I : zI} {J : zJ} {Q : zQ} {h0 : Nat} {h1 : Nat} {x2 : Int32} (g1 : z_kd S h0 = 13) (kk : z_wp d i_X12_isRow [.ref h0, .int x2, .ref h1] S I J (fun vv SS II JJ => Go d i_X12_findRow 20 [.ref h0, .ref h1, .int x2] (vv.toList ++ []) SS II JJ Q)) : Go d i_X12_findRow 14 [.ref h0, .ref h1, .int x2] [] S I J Q := by
  have h := (And.intro g1 kk)
  exact Go.n tb_X12_findRow 4 h
theorem b_X12_findRow_20 {d : Nat} {S : zS} {I : zI} {J : zJ} {Q : zQ} {h0 : Nat} {h1 : Nat} {x2 : Int32} {y0 : Int32} (kt : ¬ y0 = (0 : Int32) → Go d i_X12_findRow 29 [.ref h0, .ref h1, .int x2] [] S I J Q) (kf : y0 = (0 : Int32) → Go d i_X12_findRow 23 [.ref h0, .ref h1, .int x2] [] S I J Q) : Go d i_X12_findRow 20 [.ref h0, .ref h1, .int x2] [.int y0] S I J Q := by
  have h := (Go.eti kt kf)
  exact Go.n tb_X12_findRow 1 h
theorem b_X12_findRow_23 {d : Nat} {S : zS} {I : zI} {J : zJ} {Q : zQ} {h0 : Nat} {h1 : Nat} {x2 : Int32} (kk : Go d i_X12_findRow 2 [.ref h0, .ref h1, .int (x2 + (1 : Int32))] [] S I J Q) : Go d i_X12_findRow 23 [.ref h0, .ref h1, .int x2] [] S I J Q := by
  have h := kk
  exact Go.n tb_X12_findRow 2 h
theorem b_X12_findRow_29 {d : Nat} {S : zS} {I : zI} {J : zJ} {Q : zQ} {h0 : Nat} {h1 : Nat} {x2 : Int32} (kk : Q (some (.int x2)) S I J) : Go d i_X12_findRow 29 [.ref h0, .ref h1, .int x2] [] S I J Q := by
  have h := (And.intro trivial kk)
  exact Go.n tb_X12_findRow 2 h
theorem w_X12_isRow {d : Nat} {S : zS} {I : zI} {J : zJ} {Q : zQ} {h0 : Nat} {x1 : Int32} {h2 : Nat} (h : Go d i_X12_isRow 0 [.ref h0, .int x1, .ref h2, .retAddr 0] [] S I J Q) : z_wp (d + 1) i_X12_isRow [.ref h0, .int x1, .ref h2] S I J Q := Go.wp (Nat.le_of_ble_eq_true rfl) h
theorem e_X12_isRow {d : Nat} {S S2 : zS} {I I2 : zI} {J J2 : zJ} {r : Option Value} {h0 : Nat} {x1 : Int32} {h2 : Nat} (h : Go d i_X12_isRow 0 [.ref h0, .int x1, .ref h2, .retAddr 0] [] S I J (z_eq r S2 I2 J2)) : z_ev (d + 1) i_X12_isRow [.ref h0, .int x1, .ref h2] S I J r S2 I2 J2 := Go.ev (Nat.le_of_ble_eq_true rfl) h
theorem b_X12_isRow_0 {d : Nat} {S : zS} {I : zI} {J : zJ} {Q : zQ} {h0 : Nat} {x1 : Int32} {h2 : Nat} {v3 : Value} (kk : Go d i_X12_isRow 2 [.ref h0, .int x1, .ref h2, .int (0 : Int32)] [] S I J Q) : Go d i_X12_isRow 0 [.ref h0, .int x1, .ref h2, v3] [] S I J Q := by
  have h := kk
  exact Go.n tb_X12_isRow 2 h
theorem b_X12_isRow_2 {d : Nat} {S : zS} {I : zI} {J : zJ} {Q : zQ} {h0 : Nat} {x1 : Int32} {h2 : Nat} {x3 : Int32} (g1 : z_kd S h0 = 13) (kt : (I h0 15) ≤ x3 → Go d i_X12_isRow 39 [.ref h0, .int x1, .ref h2, .int x3] [] S I J Q) (kf : ¬ (I h0 15) ≤ x3 → Go d i_X12_isRow 10 [.ref h0, .int x1, .ref h2, .int x3] [] S I J Q) : Go d i_X12_isRow 2 [.ref h0, .int x1, .ref h2, .int x3] [] S I J Q := by
  have h := (And.intro g1 (Go.ite kt kf))
  exact Go.n tb_X12_isRow 4 h
theorem b_X12_isRow_10 {d : Nat} {S : zS} {I : zI} {J : zJ} {Q : zQ} {h0 : Nat} {x1 : Int32} {h2 : Nat} {x3 : Int32} (g1 : z_kd S h0 = 13) (g2 : z_isI (z_kd S (z_rv S h0 0)) = true ∧ vp_in (((1435 : Int32) + ((8 : Int32) * x1)) + x3) (z_ln S (z_rv S h0 0))) (g3 : z_isI (z_kd S h2) = true ∧ vp_in x3 (z_ln S h2)) (kt : (I (z_rv S h0 0) (Int32.toNatClampNeg (((1435 : Int32) + ((8 : Int32) * x1)) + x3))) = (I h2 (Int32.toNatClampNeg x3)) → Go d i_X12_isRow 33 [.ref h0, .int x1, .ref h2, .int x3] [] S I J Q) (kf : ¬ (I (z_rv S h0 0) (Int32.toNatClampNeg (((1435 : Int32) + ((8 : Int32) * x1)) + x3))) = (I h2 (Int32.toNatClampNeg x3)) → Go d i_X12_isRow 31 [.ref h0, .int x1, .ref h2, .int x3] [] S I J Q) : Go d i_X12_isRow 10 [.ref h0, .int x1, .ref h2, .int x3] [] S I J Q := by
  have h := (And.intro g1 (And.intro g2 (And.intro g3 (Go.ite kt kf))))
  exact Go.n tb_X12_isRow 14 h
theorem b_X12_isRow_31 {d : Nat} {S : zS} {I : zI} {J : zJ} {Q : zQ} {h0 : Nat} {x1 : Int32} {h2 : Nat} {x3 : Int32} (g1 : z_fit 3 (0 : Int32)) (kk : Q (some (.int (0 : Int32))) S I J) : Go d i_X12_isRow 31 [.ref h0, .int x1, .ref h2, .int x3] [] S I J Q := by
  have h := (And.intro g1 kk)
  exact Go.n tb_X12_isRow 2 h
theorem b_X12_isRow_33 {d : Nat} {S : zS} {I : zI} {J : zJ} {Q : zQ} {h0 : Nat} {x1 : Int32} {h2 : Nat} {x3 : Int32} (kk : Go d i_X12_isRow 2 [.ref h0, .int x1, .ref h2, .int (x3 + (1 : Int32))] [] S I J Q) : Go d i_X12_isRow 33 [.ref h0, .int x1, .ref h2, .int x3] [] S I J Q := by
  have h := kk
  exact Go.n tb_X12_isRow 2 h
theorem b_X12_isRow_39 {d : Nat} {S : zS} {I : zI} {J : zJ} {Q : zQ} {h0 : Nat} {x1 : Int32} {h2 : Nat} {x3 : Int32} (g1 : z_fit 3 (1 : Int32)) (kk : Q (some (.int (1 : Int32))) S I J) : Go d i_X12_isRow 39 [.ref h0, .int x1, .ref h2, .int x3] [] S I J Q := by
  have h := (And.intro g1 kk)
  exact Go.n tb_X12_isRow 2 h
theorem w_X12_permsRead {d : Nat} {S : zS} {I : zI} {J : zJ} {Q : zQ} {h0 : Nat} {x1 : Int32} (h : Go d i_X12_permsRead 0 [.ref h0, .int x1, .retAddr 0, .retAddr 0, .retAddr 0] [] S I J Q) : z_wp (d + 1) i_X12_permsRead [.ref h0, .int x1] S I J Q := Go.wp (Nat.le_of_ble_eq_true rfl) h
theorem e_X12_permsRead {d : Nat} {S S2 : zS} {I I2 : zI} {J J2 : zJ} {r : Option Value} {h0 : Nat} {x1 : Int32} (h : Go d i_X12_permsRead 0 [.ref h0, .int x1, .retAddr 0, .retAddr 0, .retAddr 0] [] S I J (z_eq r S2 I2 J2)) : z_ev (d + 1) i_X12_permsRead [.ref h0, .int x1] S I J r S2 I2 J2 := Go.ev (Nat.le_of_ble_eq_true rfl) h
theorem b_X12_permsRead_0 {d : Nat} {S : zS} {I : zI} {J : zJ} {Q : zQ} {h0 : Nat} {x1 : Int32} {v2 : Value} {v3 : Value} {v4 : Value} (g1 : z_kd S h0 = 13) (kk : z_wp d i_X12_begins [.ref h0, .int (1 : Int32)] S I J (fun vv SS II JJ => Go d i_X12_permsRead 5 [.ref h0, .int x1, v2, v3, v4] (vv.toList ++ []) SS II JJ Q)) : Go d i_X12_permsRead 0 [.ref h0, .int x1, v2, v3, v4] [] S I J Q := by
  have h := (And.intro g1 kk)
  exact Go.n tb_X12_permsRead 3 h
theorem b_X12_permsRead_5 {d : Nat} {S : zS} {I : zI} {J : zJ} {Q : zQ} {h0 : Nat} {x1 : Int32} {v2 : Value} {v3 : Value} {v4 : Value} (g1 : z_kd S h0 = 13) (g2 : z_kd S h0 = 13) (kk : z_wp d i_X12_rowRead [.ref h0] S (z_u2 I h0 14 (0 : Int32)) J (fun vv SS II JJ => Go d i_X12_permsRead 14 [.ref h0, .int x1, v2, v3, v4] (vv.toList ++ []) SS II JJ Q)) : Go d i_X12_permsRead 5 [.ref h0, .int x1, v2, v3, v4] [] S I J Q := by
  have h := (And.intro g1 (And.intro g2 kk))
  exact Go.n tb_X12_permsRead 5 h
theorem b_X12_permsRead_14 {d : Nat} {S : zS} {I : zI} {J : zJ} {Q : zQ} {h0 : Nat} {x1 : Int32} {v2 : Value} {v3 : Value} {v4 : Value} (g1 : z_kd S h0 = 13) (kt : ¬ (I h0 6) = (0 : Int32) → Go d i_X12_permsRead 47 [.ref h0, .int x1, v2, v3, v4] [] S I J Q) (kf : (I h0 6) = (0 : Int32) → Go d i_X12_permsRead 21 [.ref h0, .int x1, v2, v3, v4] [] S I J Q) : Go d i_X12_permsRead 14 [.ref h0, .int x1, v2, v3, v4] [] S I J Q := by
  have h := (And.intro g1 (Go.eti kt kf))
  exact Go.n tb_X12_permsRead 3 h
theorem b_X12_permsRead_21 {d : Nat} {S : zS} {I : zI} {J : zJ} {Q : zQ} {h0 : Nat} {x1 : Int32} {v2 : Value} {v3 : Value} {v4 : Value} (g1 : z_kd S h0 = 13) (kk : z_wp d i_X12_peek [.ref h0] S I J (fun vv SS II JJ => Go d i_X12_permsRead 25 [.ref h0, .int x1, v2, v3, v4] (vv.toList ++ []) SS II JJ Q)) : Go d i_X12_permsRead 21 [.ref h0, .int x1, v2, v3, v4] [] S I J Q := by
  have h := (And.intro g1 kk)
  exact Go.n tb_X12_permsRead 2 h
theorem b_X12_permsRead_25 {d : Nat} {S : zS} {I : zI} {J : zJ} {Q : zQ} {h0 : Nat} {x1 : Int32} {v2 : Value} {v3 : Value} {v4 : Value} {y0 : Int32} (kt : ¬ y0 = (44 : Int32) → Go d i_X12_permsRead 47 [.ref h0, .int x1, v2, v3, v4] [] S I J Q) (kf : y0 = (44 : Int32) → Go d i_X12_permsRead 30 [.ref h0, .int x1, v2, v3, v4] [] S I J Q) : Go d i_X12_permsRead 25 [.ref h0, .int x1, v2, v3, v4] [.int y0] S I J Q := by
  have h := (Go.eti kt kf)
  exact Go.n tb_X12_permsRead 2 h
theorem b_X12_permsRead_30 {d : Nat} {S : zS} {I : zI} {J : zJ} {Q : zQ} {h0 : Nat} {x1 : Int32} {v2 : Value} {v3 : Value} {v4 : Value} (g1 : z_kd S h0 = 13) (g2 : z_kd S h0 = 13) (g3 : z_kd S h0 = 13) (kk : z_wp d i_X12_rowRead [.ref h0] S (z_u2 I h0 5 ((I h0 5) + (1 : Int32))) J (fun vv SS II JJ => Go d i_X12_permsRead 44 [.ref h0, .int x1, v2, v3, v4] (vv.toList ++ []) SS II JJ Q)) : Go d i_X12_permsRead 30 [.ref h0, .int x1, v2, v3, v4] [] S I J Q := by
  have h := (And.intro g1 (And.intro g2 (And.intro g3 kk)))
  exact Go.n tb_X12_permsRead 8 h
theorem b_X12_permsRead_44 {d : Nat} {S : zS} {I : zI} {J : zJ} {Q : zQ} {h0 : Nat} {x1 : Int32} {v2 : Value} {v3 : Value} {v4 : Value} (kk : Go d i_X12_permsRead 14 [.ref h0, .int x1, v2, v3, v4] [] S I J Q) : Go d i_X12_permsRead 44 [.ref h0, .int x1, v2, v3, v4] [] S I J Q := by
  have h := kk
  exact Go.n tb_X12_permsRead 1 h
theorem b_X12_permsRead_47 {d : Nat} {S : zS} {I : zI} {J : zJ} {Q : zQ} {h0 : Nat} {x1 : Int32} {v2 : Value} {v3 : Value} {v4 : Value} (g1 : z_kd S h0 = 13) (kt : (I h0 6) = (0 : Int32) → Go d i_X12_permsRead 55 [.ref h0, .int x1, v2, v3, v4] [] S I J Q) (kf : ¬ (I h0 6) = (0 : Int32) → Go d i_X12_permsRead 54 [.ref h0, .int x1, v2, v3, v4] [] S I J Q) : Go d i_X12_permsRead 47 [.ref h0, .int x1, v2, v3, v4] [] S I J Q := by
  have h := (And.intro g1 (Go.ite kt kf))
  exact Go.n tb_X12_permsRead 3 h
theorem b_X12_permsRead_54 {d : Nat} {S : zS} {I : zI} {J : zJ} {Q : zQ} {h0 : Nat} {x1 : Int32} {v2 : Value} {v3 : Value} {v4 : Value} (kk : Q none S I J) : Go d i_X12_permsRead 54 [.ref h0, .int x1, v2, v3, v4] [] S I J Q := by
  have h := (And.intro trivial kk)
  exact Go.n tb_X12_permsRead 1 h
theorem b_X12_permsRead_55 {d : Nat} {S : zS} {I : zI} {J : zJ} {Q : zQ} {h0 : Nat} {x1 : Int32} {v2 : Value} {v3 : Value} {v4 : Value} (g1 : z_kd S h0 = 13) (g2 : z_kd S h0 = 13) (g3 : z_kd S (z_rv S h0 0) = 100 ∧ vp_in (1333 : Int32) (z_ln S (z_rv S h0 0))) (kk : Go d i_X12_permsRead 69 [.ref h0, .int x1, .int (0 : Int32), v3, v4] [] S (z_u2 I (z_rv S h0 0) (Int32.toNatClampNeg (1333 : Int32)) (I h0 15)) J Q) : Go d i_X12_permsRead 55 [.ref h0, .int x1, v2, v3, v4] [] S I J Q := by
  have h := (And.intro g1 (And.intro g2 (And.intro g3 kk)))
  exact Go.n tb_X12_permsRead 8 h
theorem b_X12_permsRead_69 {d : Nat} {S : zS} {I : zI} {J : zJ} {Q : zQ} {h0 : Nat} {x1 : Int32} {x2 : Int32} {v3 : Value} {v4 : Value} (g1 : z_kd S h0 = 13) (kt : (I h0 15) ≤ x2 → Go d i_X12_permsRead 94 [.ref h0, .int x1, .int x2, v3, v4] [] S I J Q) (kf : ¬ (I h0 15) ≤ x2 → Go d i_X12_permsRead 77 [.ref h0, .int x1, .int x2, v3, v4] [] S I J Q) : Go d i_X12_permsRead 69 [.ref h0, .int x1, .int x2, v3, v4] [] S I J Q := by
  have h := (And.intro g1 (Go.ite kt kf))
  exact Go.n tb_X12_permsRead 4 h
theorem b_X12_permsRead_77 {d : Nat} {S : zS} {I : zI} {J : zJ} {Q : zQ} {h0 : Nat} {x1 : Int32} {x2 : Int32} {v3 : Value} {v4 : Value} (g1 : z_kd S h0 = 13) (g2 : z_kd S (z_rv S h0 0) = 100 ∧ vp_in ((1435 : Int32) + x2) (z_ln S (z_rv S h0 0))) (kk : Go d i_X12_permsRead 69 [.ref h0, .int x1, .int (x2 + (1 : Int32)), v3, v4] [] S (z_u2 I (z_rv S h0 0) (Int32.toNatClampNeg ((1435 : Int32) + x2)) x2) J Q) : Go d i_X12_permsRead 77 [.ref h0, .int x1, .int x2, v3, v4] [] S I J Q := by
  have h := (And.intro g1 (And.intro g2 kk))
  exact Go.n tb_X12_permsRead 9 h
theorem b_X12_permsRead_94 {d : Nat} {S : zS} {I : zI} {J : zJ} {Q : zQ} {h0 : Nat} {x1 : Int32} {x2 : Int32} {v3 : Value} {v4 : Value} (kk : Go d i_X12_permsRead 96 [.ref h0, .int x1, .int (0 : Int32), v3, v4] [] S I J Q) : Go d i_X12_permsRead 94 [.ref h0, .int x1, .int x2, v3, v4] [] S I J Q := by
  have h := kk
  exact Go.n tb_X12_permsRead 2 h
theorem b_X12_permsRead_96 {d : Nat} {S : zS} {I : zI} {J : zJ} {Q : zQ} {h0 : Nat} {x1 : Int32} {x2 : Int32} {v3 : Value} {v4 : Value} (g1 : z_kd S h0 = 13) (g2 : z_isI (z_kd S (z_rv S h0 0)) = true ∧ vp_in (1330 : Int32) (z_ln S (z_rv S h0 0))) (kt : (I (z_rv S h0 0) (Int32.toNatClampNeg (1330 : Int32))) ≤ x2 → Go d i_X12_permsRead 283 [.ref h0, .int x1, .int x2, v3, v4] [] S I J Q) (kf : ¬ (I (z_rv S h0 0) (Int32.toNatClampNeg (1330 : Int32))) ≤ x2 → Go d i_X12_permsRead 108 [.ref h0, .int x1, .int x2, v3, v4] [] S I J Q) : Go d i_X12_permsRead 96 [.ref h0, .int x1, .int x2, v3, v4] [] S I J Q := by
  have h := (And.intro g1 (And.intro g2 (Go.ite kt kf)))
  exact Go.n tb_X12_permsRead 6 h
theorem b_X12_permsRead_108 {d : Nat} {S : zS} {I : zI} {J : zJ} {Q : zQ} {h0 : Nat} {x1 : Int32} {x2 : Int32} {v3 : Value} {v4 : Value} (kk : Go d i_X12_permsRead 110 [.ref h0, .int x1, .int x2, .int (0 : Int32), v4] [] S I J Q) : Go d i_X12_permsRead 108 [.ref h0, .int x1, .int x2, v3, v4] [] S I J Q := by
  have h := kk
  exact Go.n tb_X12_permsRead 2 h
theorem b_X12_permsRead_110 {d : Nat} {S : zS} {I : zI} {J : zJ} {Q : zQ} {h0 : Nat} {x1 : Int32} {x2 : Int32} {x3 : Int32} {v4 : Value} (g1 : z_kd S h0 = 13) (kt : (I h0 14) ≤ x3 → Go d i_X12_permsRead 277 [.ref h0, .int x1, .int x2, .int x3, v4] [] S I J Q) (kf : ¬ (I h0 14) ≤ x3 → Go d i_X12_permsRead 118 [.ref h0, .int x1, .int x2, .int x3, v4] [] S I J Q) : Go d i_X12_permsRead 110 [.ref h0, .int x1, .int x2, .int x3, v4] [] S I J Q := by
  have h := (And.intro g1 (Go.ite kt kf))
  exact Go.n tb_X12_permsRead 4 h
theorem b_X12_permsRead_118 {d : Nat} {S : zS} {I : zI} {J : zJ} {Q : zQ} {h0 : Nat} {x1 : Int32} {x2 : Int32} {x3 : Int32} {v4 : Value} (kk : Go d i_X12_permsRead 121 [.ref h0, .int x1, .int x2, .int x3, .int (0 : Int32)] [] S I J Q) : Go d i_X12_permsRead 118 [.ref h0, .int x1, .int x2, .int x3, v4] [] S I J Q := by
  have h := kk
  exact Go.n tb_X12_permsRead 2 h
theorem b_X12_permsRead_121 {d : Nat} {S : zS} {I : zI} {J : zJ} {Q : zQ} {h0 : Nat} {x1 : Int32} {x2 : Int32} {x3 : Int32} {x4 : Int32} (g1 : z_kd S h0 = 13) (kt : (I h0 15) ≤ x4 → Go d i_X12_permsRead 169 [.ref h0, .int x1, .int x2, .int x3, .int x4] [] S I J Q) (kf : ¬ (I h0 15) ≤ x4 → Go d i_X12_permsRead 130 [.ref h0, .int x1, .int x2, .int x3, .int x4] [] S I J Q) : Go d i_X12_permsRead 121 [.ref h0, .int x1, .int x2, .int x3, .int x4] [] S I J Q := by
  have h := (And.intro g1 (Go.ite kt kf))
  exact Go.n tb_X12_permsRead 4 h
theorem b_X12_permsRead_130 {d : Nat} {S : zS} {I : zI} {J : zJ} {Q : zQ} {h0 : Nat} {x1 : Int32} {x2 : Int32} {x3 : Int32} {x4 : Int32} {I1 : zI} (g1 : z_kd S h0 = 13) (g2 : z_kd S h0 = 13) (g3 : z_kd S h0 = 13) (g4 : z_isI (z_kd S (z_rv S h0 0)) = true ∧ vp_in (((1435 : Int32) + ((8 : Int32) * x2)) + x4) (z_ln S (z_rv S h0 0))) (g5 : z_isI (z_kd S (z_rv S h0 13)) = true ∧ vp_in (((8 : Int32) * x3) + (I (z_rv S h0 0) (Int32.toNatClampNeg (((1435 : Int32) + ((8 : Int32) * x2)) + x4)))) (z_ln S (z_rv S h0 13))) (g6 : z_kd S (z_rv S h0 16) = 100 ∧ vp_in x4 (z_ln S (z_rv S h0 16))) (eI1 : I1 = z_u2 I (z_rv S h0 16) (Int32.toNatClampNeg x4) (I (z_rv S h0 13) (Int32.toNatClampNeg (((8 : Int32) * x3) + (I (z_rv S h0 0) (Int32.toNatClampNeg (((1435 : Int32) + ((8 : Int32) * x2)) + x4))))))) (kk : Go d i_X12_permsRead 121 [.ref h0, .int x1, .int x2, .int x3, .int (x4 + (1 : Int32))] [] S I1 J Q) : Go d i_X12_permsRead 130 [.ref h0, .int x1, .int x2, .int x3, .int x4] [] S I J Q := by
  subst eI1
  have h := (And.intro g1 (And.intro g2 (And.intro g3 (And.intro g4 (And.intro g5 (And.intro g6 kk))))))
  exact Go.n tb_X12_permsRead 23 h
theorem b_X12_permsRead_169 {d : Nat} {S : zS} {I : zI} {J : zJ} {Q : zQ} {h0 : Nat} {x1 : Int32} {x2 : Int32} {x3 : Int32} {x4 : Int32} (g1 : z_kd S h0 = 13) (g2 : z_kd S h0 = 13) (kk : z_wp d i_X12_findRow [.ref h0, .ref (z_rv S h0 16)] S I J (fun vv SS II JJ => Go d i_X12_permsRead 177 [.ref h0, .int x1, .int x2, .int x3, .int x4] (vv.toList ++ []) SS II JJ Q)) : Go d i_X12_permsRead 169 [.ref h0, .int x1, .int x2, .int x3, .int x4] [] S I J Q := by
  have h := (And.intro g1 (And.intro g2 kk))
  exact Go.n tb_X12_permsRead 4 h
theorem b_X12_permsRead_177 {d : Nat} {S : zS} {I : zI} {J : zJ} {Q : zQ} {h0 : Nat} {x1 : Int32} {x2 : Int32} {x3 : Int32} {x4 : Int32} {y0 : Int32} (g1 : z_kd S h0 = 13) (g2 : z_isI (z_kd S (z_rv S h0 0)) = true ∧ vp_in (1330 : Int32) (z_ln S (z_rv S h0 0))) (kt : (I (z_rv S h0 0) (Int32.toNatClampNeg (1330 : Int32))) ≤ y0 → Go d i_X12_permsRead 191 [.ref h0, .int x1, .int x2, .int x3, .int x4] [] S I J Q) (kf : ¬ (I (z_rv S h0 0) (Int32.toNatClampNeg (1330 : Int32))) ≤ y0 → Go d i_X12_permsRead 188 [.ref h0, .int x1, .int x2, .int x3, .int x4] [] S I J Q) : Go d i_X12_permsRead 177 [.ref h0, .int x1, .int x2, .int x3, .int x4] [.int y0] S I J Q := by
  have h := (And.intro g1 (And.intro g2 (Go.ite kt kf)))
  exact Go.n tb_X12_permsRead 5 h
theorem b_X12_permsRead_188 {d : Nat} {S : zS} {I : zI} {J : zJ} {Q : zQ} {h0 : Nat} {x1 : Int32} {x2 : Int32} {x3 : Int32} {x4 : Int32} (kk : Go d i_X12_permsRead 110 [.ref h0, .int x1, .int x2, .int (x3 + (1 : Int32)), .int x4] [] S I J Q) : Go d i_X12_permsRead 188 [.ref h0, .int x1, .int x2, .int x3, .int x4] [] S I J Q := by
  have h := kk
  exact Go.n tb_X12_permsRead 3 h
theorem b_X12_permsRead_191 {d : Nat} {S : zS} {I : zI} {J : zJ} {Q : zQ} {h0 : Nat} {x1 : Int32} {x2 : Int32} {x3 : Int32} {x4 : Int32} (g1 : z_kd S h0 = 13) (g2 : z_isI (z_kd S (z_rv S h0 0)) = true ∧ vp_in (1330 : Int32) (z_ln S (z_rv S h0 0))) (kt : ¬ (I (z_rv S h0 0) (Int32.toNatClampNeg (1330 : Int32))) = (20 : Int32) → Go d i_X12_permsRead 211 [.ref h0, .int x1, .int x2, .int x3, .int x4] [] S I J Q) (kf : (I (z_rv S h0 0) (Int32.toNatClampNeg (1330 : Int32))) = (20 : Int32) → Go d i_X12_permsRead 204 [.ref h0, .int x1, .int x2, .int x3, .int x4] [] S I J Q) : Go d i_X12_permsRead 191 [.ref h0, .int x1, .int x2, .int x3, .int x4] [] S I J Q := by
  have h := (And.intro g1 (And.intro g2 (Go.eti kt kf)))
  exact Go.n tb_X12_permsRead 6 h
theorem b_X12_permsRead_204 {d : Nat} {S : zS} {I : zI} {J : zJ} {Q : zQ} {h0 : Nat} {x1 : Int32} {x2 : Int32} {x3 : Int32} {x4 : Int32} (g1 : z_kd S h0 = 13) (kk : z_wp d i_X12_fails [.ref h0, .int (3 : Int32), .int x1] S I J (fun vv SS II JJ => Go d i_X12_permsRead 210 [.ref h0, .int x1, .int x2, .int x3, .int x4] (vv.toList ++ []) SS II JJ Q)) : Go d i_X12_permsRead 204 [.ref h0, .int x1, .int x2, .int x3, .int x4] [] S I J Q := by
  have h := (And.intro g1 kk)
  exact Go.n tb_X12_permsRead 4 h
theorem b_X12_permsRead_210 {d : Nat} {S : zS} {I : zI} {J : zJ} {Q : zQ} {h0 : Nat} {x1 : Int32} {x2 : Int32} {x3 : Int32} {x4 : Int32} (kk : Q none S I J) : Go d i_X12_permsRead 210 [.ref h0, .int x1, .int x2, .int x3, .int x4] [] S I J Q := by
  have h := (And.intro trivial kk)
  exact Go.n tb_X12_permsRead 1 h
theorem b_X12_permsRead_211 {d : Nat} {S : zS} {I : zI} {J : zJ} {Q : zQ} {h0 : Nat} {x1 : Int32} {x2 : Int32} {x3 : Int32} {x4 : Int32} (kk : Go d i_X12_permsRead 214 [.ref h0, .int x1, .int x2, .int x3, .int (0 : Int32)] [] S I J Q) : Go d i_X12_permsRead 211 [.ref h0, .int x1, .int x2, .int x3, .int x4] [] S I J Q := by
  have h := kk
  exact Go.n tb_X12_permsRead 2 h
theorem b_X12_permsRead_214 {d : Nat} {S : zS} {I : zI} {J : zJ} {Q : zQ} {h0 : Nat} {x1 : Int32} {x2 : Int32} {x3 : Int32} {x4 : Int32} (g1 : z_kd S h0 = 13) (kt : (I h0 15) ≤ x4 → Go d i_X12_permsRead 259 [.ref h0, .int x1, .int x2, .int x3, .int x4] [] S I J Q) (kf : ¬ (I h0 15) ≤ x4 → Go d i_X12_permsRead 223 [.ref h0, .int x1, .int x2, .int x3, .int x4] [] S I J Q) : Go d i_X12_permsRead 214 [.ref h0, .int x1, .int x2, .int x3, .int x4] [] S I J Q := by
  have h := (And.intro g1 (Go.ite kt kf))
  exact Go.n tb_X12_permsRead 4 h
theorem b_X12_permsRead_223 {d : Nat} {S : zS} {I : zI} {J : zJ} {Q : zQ} {h0 : Nat} {x1 : Int32} {x2 : Int32} {x3 : Int32} {x4 : Int32} {I1 : zI} (g1 : z_kd S h0 = 13) (g2 : z_kd S h0 = 13) (g3 : z_isI (z_kd S (z_rv S h0 0)) = true ∧ vp_in (1330 : Int32) (z_ln S (z_rv S h0 0))) (g4 : z_kd S h0 = 13) (g5 : z_isI (z_kd S (z_rv S h0 16)) = true ∧ vp_in x4 (z_ln S (z_rv S h0 16))) (g6 : z_kd S (z_rv S h0 0) = 100 ∧ vp_in (((1435 : Int32) + ((8 : Int32) * (I (z_rv S h0 0) (Int32.toNatClampNeg (1330 : Int32))))) + x4) (z_ln S (z_rv S h0 0))) (eI1 : I1 = z_u2 I (z_rv S h0 0) (Int32.toNatClampNeg (((1435 : Int32) + ((8 : Int32) * (I (z_rv S h0 0) (Int32.toNatClampNeg (1330 : Int32))))) + x4)) (I (z_rv S h0 16) (Int32.toNatClampNeg x4))) (kk : Go d i_X12_permsRead 214 [.ref h0, .int x1, .int x2, .int x3, .int (x4 + (1 : Int32))] [] S I1 J Q) : Go d i_X12_permsRead 223 [.ref h0, .int x1, .int x2, .int x3, .int x4] [] S I J Q := by
  subst eI1
  have h := (And.intro g1 (And.intro g2 (And.intro g3 (And.intro g4 (And.intro g5 (And.intro g6 kk))))))
  exact Go.n tb_X12_permsRead 19 h
theorem b_X12_permsRead_259 {d : Nat} {S : zS} {I : zI} {J : zJ} {Q : zQ} {h0 : Nat} {x1 : Int32} {x2 : Int32} {x3 : Int32} {x4 : Int32} {I1 : zI} (g1 : z_kd S h0 = 13) (g2 : z_isI (z_kd S (z_rv S h0 0)) = true ∧ vp_in (1330 : Int32) (z_ln S (z_rv S h0 0))) (g3 : z_kd S (z_rv S h0 0) = 100 ∧ vp_in (1330 : Int32) (z_ln S (z_rv S h0 0))) (eI1 : I1 = z_u2 I (z_rv S h0 0) (Int32.toNatClampNeg (1330 : Int32)) ((I (z_rv S h0 0) (Int32.toNatClampNeg (1330 : Int32))) + (1 : Int32))) (kk : Go d i_X12_permsRead 110 [.ref h0, .int x1, .int x2, .int (x3 + (1 : Int32)), .int x4] [] S I1 J Q) : Go d i_X12_permsRead 259 [.ref h0, .int x1, .int x2, .int x3, .int x4] [] S I J Q := by
  subst eI1
  have h := (And.intro g1 (And.intro g2 (And.intro g3 kk)))
  exact Go.n tb_X12_permsRead 10 h
theorem b_X12_permsRead_277 {d : Nat} {S : zS} {I : zI} {J : zJ} {Q : zQ} {h0 : Nat} {x1 : Int32} {x2 : Int32} {x3 : Int32} {v4 : Value} (kk : Go d i_X12_permsRead 96 [.ref h0, .int x1, .int (x2 + (1 : Int32)), .int x3, v4] [] S I J Q) : Go d i_X12_permsRead 277 [.ref h0, .int x1, .int x2, .int x3, v4] [] S I J Q := by
  have h := kk
  exact Go.n tb_X12_permsRead 2 h
theorem b_X12_permsRead_283 {d : Nat} {S : zS} {I : zI} {J : zJ} {Q : zQ} {h0 : Nat} {x1 : Int32} {x2 : Int32} {v3 : Value} {v4 : Value} (kk : Go d i_X12_permsRead 285 [.ref h0, .int x1, .int (0 : Int32), v3, v4] [] S I J Q) : Go d i_X12_permsRead 283 [.ref h0, .int x1, .int x2, v3, v4] [] S I J Q := by
  have h := kk
  exact Go.n tb_X12_permsRead 2 h
theorem b_X12_permsRead_285 {d : Nat} {S : zS} {I : zI} {J : zJ} {Q : zQ} {h0 : Nat} {x1 : Int32} {x2 : Int32} {v3 : Value} {v4 : Value} (g1 : z_kd S h0 = 13) (g2 : z_isI (z_kd S (z_rv S h0 0)) = true ∧ vp_in (1330 : Int32) (z_ln S (z_rv S h0 0))) (kt : (I (z_rv S h0 0) (Int32.toNatClampNeg (1330 : Int32))) ≤ x2 → Go d i_X12_permsRead 401 [.ref h0, .int x1, .int x2, v3, v4] [] S I J Q) (kf : ¬ (I (z_rv S h0 0) (Int32.toNatClampNeg (1330 : Int32))) ≤ x2 → Go d i_X12_permsRead 297 [.ref h0, .int x1, .int x2, v3, v4] [] S I J Q) : Go d i_X12_permsRead 285 [.ref h0, .int x1, .int x2, v3, v4] [] S I J Q := by
  have h := (And.intro g1 (And.intro g2 (Go.ite kt kf)))
  exact Go.n tb_X12_permsRead 6 h
theorem b_X12_permsRead_297 {d : Nat} {S : zS} {I : zI} {J : zJ} {Q : zQ} {h0 : Nat} {x1 : Int32} {x2 : Int32} {v3 : Value} {v4 : Value} (kk : Go d i_X12_permsRead 299 [.ref h0, .int x1, .int x2, .int (0 : Int32), v4] [] S I J Q) : Go d i_X12_permsRead 297 [.ref h0, .int x1, .int x2, v3, v4] [] S I J Q := by
  have h := kk
  exact Go.n tb_X12_permsRead 2 h
theorem b_X12_permsRead_299 {d : Nat} {S : zS} {I : zI} {J : zJ} {Q : zQ} {h0 : Nat} {x1 : Int32} {x2 : Int32} {x3 : Int32} {v4 : Value} (g1 : z_kd S h0 = 13) (g2 : z_isI (z_kd S (z_rv S h0 0)) = true ∧ vp_in (1330 : Int32) (z_ln S (z_rv S h0 0))) (kt : (I (z_rv S h0 0) (Int32.toNatClampNeg (1330 : Int32))) ≤ x3 → Go d i_X12_permsRead 395 [.ref h0, .int x1, .int x2, .int x3, v4] [] S I J Q) (kf : ¬ (I (z_rv S h0 0) (Int32.toNatClampNeg (1330 : Int32))) ≤ x3 → Go d i_X12_permsRead 311 [.ref h0, .int x1, .int x2, .int x3, v4] [] S I J Q) : Go d i_X12_permsRead 299 [.ref h0, .int x1, .int x2, .int x3, v4] [] S I J Q := by
  have h := (And.intro g1 (And.intro g2 (Go.ite kt kf)))
  exact Go.n tb_X12_permsRead 6 h
theorem b_X12_permsRead_311 {d : Nat} {S : zS} {I : zI} {J : zJ} {Q : zQ} {h0 : Nat} {x1 : Int32} {x2 : Int32} {x3 : Int32} {v4 : Value} (kk : Go d i_X12_permsRead 314 [.ref h0, .int x1, .int x2, .int x3, .int (0 : Int32)] [] S I J Q) : Go d i_X12_permsRead 311 [.ref h0, .int x1, .int x2, .int x3, v4] [] S I J Q := by
  have h := kk
  exact Go.n tb_X12_permsRead 2 h
theorem b_X12_permsRead_314 {d : Nat} {S : zS} {I : zI} {J : zJ} {Q : zQ} {h0 : Nat} {x1 : Int32} {x2 : Int32} {x3 : Int32} {x4 : Int32} (g1 : z_kd S h0 = 13) (kt : (I h0 15) ≤ x4 → Go d i_X12_permsRead 366 [.ref h0, .int x1, .int x2, .int x3, .int x4] [] S I J Q) (kf : ¬ (I h0 15) ≤ x4 → Go d i_X12_permsRead 323 [.ref h0, .int x1, .int x2, .int x3, .int x4] [] S I J Q) : Go d i_X12_permsRead 314 [.ref h0, .int x1, .int x2, .int x3, .int x4] [] S I J Q := by
  have h := (And.intro g1 (Go.ite kt kf))
  exact Go.n tb_X12_permsRead 4 h
theorem b_X12_permsRead_323 {d : Nat} {S : zS} {I : zI} {J : zJ} {Q : zQ} {h0 : Nat} {x1 : Int32} {x2 : Int32} {x3 : Int32} {x4 : Int32} {z1 : Int32} (g1 : z_kd S h0 = 13) (g2 : z_kd S h0 = 13) (g3 : z_kd S h0 = 13) (g4 : z_isI (z_kd S (z_rv S h0 0)) = true ∧ vp_in (((1435 : Int32) + ((8 : Int32) * x2)) + x4) (z_ln S (z_rv S h0 0))) (g5 : z_isI (z_kd S (z_rv S h0 0)) = true ∧ vp_in (((1435 : Int32) + ((8 : Int32) * x3)) + (I (z_rv S h0 0) (Int32.toNatClampNeg (((1435 : Int32) + ((8 : Int32) * x2)) + x4)))) (z_ln S (z_rv S h0 0))) (ez1 : z1 = (I (z_rv S h0 0) (Int32.toNatClampNeg (((1435 : Int32) + ((8 : Int32) * x3)) + (I (z_rv S h0 0) (Int32.toNatClampNeg (((1435 : Int32) + ((8 : Int32) * x2)) + x4))))))) (g7 : z_kd S (z_rv S h0 16) = 100 ∧ vp_in x4 (z_ln S (z_rv S h0 16))) (kk : Go d i_X12_permsRead 314 [.ref h0, .int x1, .int x2, .int x3, .int (x4 + (1 : Int32))] [] S (z_u2 I (z_rv S h0 16) (Int32.toNatClampNeg x4) z1) J Q) : Go d i_X12_permsRead 323 [.ref h0, .int x1, .int x2, .int x3, .int x4] [] S I J Q := by
  subst ez1
  have h := (And.intro g1 (And.intro g2 (And.intro g3 (And.intro g4 (And.intro g5 (And.intro g7 kk))))))
  exact Go.n tb_X12_permsRead 25 h
theorem b_X12_permsRead_366 {d : Nat} {S : zS} {I : zI} {J : zJ} {Q : zQ} {h0 : Nat} {x1 : Int32} {x2 : Int32} {x3 : Int32} {x4 : Int32} (g1 : z_kd S h0 = 13) (g2 : z_kd S h0 = 13) (g3 : z_kd S h0 = 13) (kk : z_wp d i_X12_findRow [.ref h0, .ref (z_rv S h0 16)] S I J (fun vv SS II JJ => Go d i_X12_permsRead 388 [.ref h0, .int x1, .int x2, .int x3, .int x4] (vv.toList ++ [.int (((1595 : Int32) + ((20 : Int32) * x2)) + x3), .ref (z_rv S h0 0)]) SS II JJ Q)) : Go d i_X12_permsRead 366 [.ref h0, .int x1, .int x2, .int x3, .int x4] [] S I J Q := by
  have h := (And.intro g1 (And.intro g2 (And.intro g3 kk)))
  exact Go.n tb_X12_permsRead 13 h
theorem b_X12_permsRead_388 {d : Nat} {S : zS} {I : zI} {J : zJ} {Q : zQ} {h0 : Nat} {x1 : Int32} {x2 : Int32} {x3 : Int32} {x4 : Int32} {q0 : Nat} {y1 : Int32} {y2 : Int32} (g1 : z_kd S q0 = 100 ∧ vp_in y1 (z_ln S q0)) (kk : Go d i_X12_permsRead 299 [.ref h0, .int x1, .int x2, .int (x3 + (1 : Int32)), .int x4] [] S (z_u2 I q0 (Int32.toNatClampNeg y1) y2) J Q) : Go d i_X12_permsRead 388 [.ref h0, .int x1, .int x2, .int x3, .int x4] [.int y2, .int y1, .ref q0] S I J Q := by
  have h := (And.intro g1 kk)
  exact Go.n tb_X12_permsRead 3 h
theorem b_X12_permsRead_395 {d : Nat} {S : zS} {I : zI} {J : zJ} {Q : zQ} {h0 : Nat} {x1 : Int32} {x2 : Int32} {x3 : Int32} {v4 : Value} (kk : Go d i_X12_permsRead 285 [.ref h0, .int x1, .int (x2 + (1 : Int32)), .int x3, v4] [] S I J Q) : Go d i_X12_permsRead 395 [.ref h0, .int x1, .int x2, .int x3, v4] [] S I J Q := by
  have h := kk
  exact Go.n tb_X12_permsRead 2 h
theorem b_X12_permsRead_401 {d : Nat} {S : zS} {I : zI} {J : zJ} {Q : zQ} {h0 : Nat} {x1 : Int32} {x2 : Int32} {v3 : Value} {v4 : Value} (g1 : z_kd S h0 = 13) (kk : z_wp d i_X12_base [.ref h0] S I J (fun vv SS II JJ => Go d i_X12_permsRead 405 [.ref h0, .int x1, .int x2, v3, v4] (vv.toList ++ []) SS II JJ Q)) : Go d i_X12_permsRead 401 [.ref h0, .int x1, .int x2, v3, v4] [] S I J Q := by
  have h := (And.intro g1 kk)
  exact Go.n tb_X12_permsRead 2 h
theorem b_X12_permsRead_405 {d : Nat} {S : zS} {I : zI} {J : zJ} {Q : zQ} {h0 : Nat} {x1 : Int32} {x2 : Int32} {v3 : Value} {v4 : Value} (kk : Q none S I J) : Go d i_X12_permsRead 405 [.ref h0, .int x1, .int x2, v3, v4] [] S I J Q := by
  have h := (And.intro trivial kk)
  exact Go.n tb_X12_permsRead 1 h
theorem w_X12_stepsRead {d : Nat} {S : zS} {I : zI} {J : zJ} {Q : zQ} {h0 : Nat} (h : Go d i_X12_stepsRead 0 [.ref h0, .retAddr 0] [] S I J Q) : z_wp (d + 1) i_X12_stepsRead [.ref h0] S I J Q := Go.wp (Nat.le_of_ble_eq_true rfl) h
theorem e_X12_stepsRead {d : Nat} {S S2 : zS} {I I2 : zI} {J J2 : zJ} {r : Option Value} {h0 : Nat} (h : Go d i_X12_stepsRead 0 [.ref h0, .retAddr 0] [] S I J (z_eq r S2 I2 J2)) : z_ev (d + 1) i_X12_stepsRead [.ref h0] S I J r S2 I2 J2 := Go.ev (Nat.le_of_ble_eq_true rfl) h
theorem b_X12_stepsRead_0 {d : Nat} {S : zS} {I : zI} {J : zJ} {Q : zQ} {h0 : Nat} {v1 : Value} (g1 : z_kd S h0 = 13) (g2 : z_kd S (z_rv S h0 0) = 100 ∧ vp_in (1331 : Int32) (z_ln S (z_rv S h0 0))) (kk : Go d i_X12_stepsRead 9 [.ref h0, v1] [] S (z_u2 I (z_rv S h0 0) (Int32.toNatClampNeg (1331 : Int32)) (0 : Int32)) J Q) : Go d i_X12_stepsRead 0 [.ref h0, v1] [] S I J Q := by
  have h := (And.intro g1 (And.intro g2 kk))
  exact Go.n tb_X12_stepsRead 5 h
theorem b_X12_stepsRead_9 {d : Nat} {S : zS} {I : zI} {J : zJ} {Q : zQ} {h0 : Nat} {v1 : Value} (g1 : z_kd S h0 = 13) (g2 : z_isI (z_kd S (z_rv S h0 0)) = true ∧ vp_in (1330 : Int32) (z_ln S (z_rv S h0 0))) (g3 : z_kd S h0 = 13) (kk : z_wp d i_X12_numeral [.ref h0, .int (1 : Int32), .int ((I (z_rv S h0 0) (Int32.toNatClampNeg (1330 : Int32))) - (1 : Int32))] S I J (fun vv SS II JJ => Go d i_X12_stepsRead 24 [.ref h0, v1] (vv.toList ++ []) SS II JJ Q)) : Go d i_X12_stepsRead 9 [.ref h0, v1] [] S I J Q := by
  have h := (And.intro g1 (And.intro g2 (And.intro g3 kk)))
  exact Go.n tb_X12_stepsRead 9 h
theorem b_X12_stepsRead_24 {d : Nat} {S : zS} {I : zI} {J : zJ} {Q : zQ} {h0 : Nat} {v1 : Value} {y0 : Int32} (g1 : z_kd S h0 = 13) (kt : ¬ (I h0 6) = (0 : Int32) → Go d i_X12_stepsRead 46 [.ref h0, .int y0] [] S I J Q) (kf : (I h0 6) = (0 : Int32) → Go d i_X12_stepsRead 32 [.ref h0, .int y0] [] S I J Q) : Go d i_X12_stepsRead 24 [.ref h0, v1] [.int y0] S I J Q := by
  have h := (And.intro g1 (Go.eti kt kf))
  exact Go.n tb_X12_stepsRead 4 h
theorem b_X12_stepsRead_32 {d : Nat} {S : zS} {I : zI} {J : zJ} {Q : zQ} {h0 : Nat} {x1 : Int32} {I1 : zI} (g1 : z_kd S h0 = 13) (g2 : z_isI (z_kd S (z_rv S h0 0)) = true ∧ vp_in (1331 : Int32) (z_ln S (z_rv S h0 0))) (g3 : z_kd S (z_rv S h0 0) = 100 ∧ vp_in (1331 : Int32) (z_ln S (z_rv S h0 0))) (eI1 : I1 = z_u2 I (z_rv S h0 0) (Int32.toNatClampNeg (1331 : Int32)) ((I (z_rv S h0 0) (Int32.toNatClampNeg (1331 : Int32))) ||| ((1 : Int32) <<< (x1 &&& 31)))) (g5 : z_kd S h0 = 13) (kt : ¬ (I1 h0 6) = (0 : Int32) → Go d i_X12_stepsRead 63 [.ref h0, .int x1] [] S I1 J Q) (kf : (I1 h0 6) = (0 : Int32) → Go d i_X12_stepsRead 53 [.ref h0, .int x1] [] S I1 J Q) : Go d i_X12_stepsRead 32 [.ref h0, .int x1] [] S I J Q := by
  subst eI1
  have h := (And.intro g1 (And.intro g2 (And.intro g3 (And.intro g5 (Go.eti kt kf)))))
  exact Go.n tb_X12_stepsRead 13 h
theorem b_X12_stepsRead_46 {d : Nat} {S : zS} {I : zI} {J : zJ} {Q : zQ} {h0 : Nat} {x1 : Int32} (g1 : z_kd S h0 = 13) (kt : ¬ (I h0 6) = (0 : Int32) → Go d i_X12_stepsRead 63 [.ref h0, .int x1] [] S I J Q) (kf : (I h0 6) = (0 : Int32) → Go d i_X12_stepsRead 53 [.ref h0, .int x1] [] S I J Q) : Go d i_X12_stepsRead 46 [.ref h0, .int x1] [] S I J Q := by
  have h := (And.intro g1 (Go.eti kt kf))
  exact Go.n tb_X12_stepsRead 3 h
theorem b_X12_stepsRead_53 {d : Nat} {S : zS} {I : zI} {J : zJ} {Q : zQ} {h0 : Nat} {x1 : Int32} (g1 : z_kd S h0 = 13) (kk : z_wp d i_X12_peek [.ref h0] S I J (fun vv SS II JJ => Go d i_X12_stepsRead 57 [.ref h0, .int x1] (vv.toList ++ []) SS II JJ Q)) : Go d i_X12_stepsRead 53 [.ref h0, .int x1] [] S I J Q := by
  have h := (And.intro g1 kk)
  exact Go.n tb_X12_stepsRead 2 h
theorem b_X12_stepsRead_57 {d : Nat} {S : zS} {I : zI} {J : zJ} {Q : zQ} {h0 : Nat} {x1 : Int32} {y0 : Int32} (kk : z_wp d i_X12_isDigit [.int y0] S I J (fun vv SS II JJ => Go d i_X12_stepsRead 60 [.ref h0, .int x1] (vv.toList ++ []) SS II JJ Q)) : Go d i_X12_stepsRead 57 [.ref h0, .int x1] [.int y0] S I J Q := by
  have h := (And.intro trivial kk)
  exact Go.n tb_X12_stepsRead 1 h
theorem b_X12_stepsRead_60 {d : Nat} {S : zS} {I : zI} {J : zJ} {Q : zQ} {h0 : Nat} {x1 : Int32} {y0 : Int32} (kt : ¬ y0 = (0 : Int32) → Go d i_X12_stepsRead 9 [.ref h0, .int x1] [] S I J Q) (kf : y0 = (0 : Int32) → Go d i_X12_stepsRead 63 [.ref h0, .int x1] [] S I J Q) : Go d i_X12_stepsRead 60 [.ref h0, .int x1] [.int y0] S I J Q := by
  have h := (Go.eti kt kf)
  exact Go.n tb_X12_stepsRead 1 h
theorem b_X12_stepsRead_63 {d : Nat} {S : zS} {I : zI} {J : zJ} {Q : zQ} {h0 : Nat} {x1 : Int32} (kk : Q none S I J) : Go d i_X12_stepsRead 63 [.ref h0, .int x1] [] S I J Q := by
  have h := (And.intro trivial kk)
  exact Go.n tb_X12_stepsRead 1 h
theorem w_X12_lineRead {d : Nat} {S : zS} {I : zI} {J : zJ} {Q : zQ} {h0 : Nat} (h : Go d i_X12_lineRead 0 [.ref h0, .retAddr 0, .retAddr 0] [] S I J Q) : z_wp (d + 1) i_X12_lineRead [.ref h0] S I J Q := Go.wp (Nat.le_of_ble_eq_true rfl) h
theorem e_X12_lineRead {d : Nat} {S S2 : zS} {I I2 : zI} {J J2 : zJ} {r : Option Value} {h0 : Nat} (h : Go d i_X12_lineRead 0 [.ref h0, .retAddr 0, .retAddr 0] [] S I J (z_eq r S2 I2 J2)) : z_ev (d + 1) i_X12_lineRead [.ref h0] S I J r S2 I2 J2 := Go.ev (Nat.le_of_ble_eq_true rfl) h
theorem b_X12_lineRead_0 {d : Nat} {S : zS} {I : zI} {J : zJ} {Q : zQ} {h0 : Nat} {v1 : Value} {v2 : Value} (g1 : z_kd S h0 = 13) (kk : z_wp d i_X12_wordHere [.ref h0] S I J (fun vv SS II JJ => Go d i_X12_lineRead 4 [.ref h0, v1, v2] (vv.toList ++ []) SS II JJ Q)) : Go d i_X12_lineRead 0 [.ref h0, v1, v2] [] S I J Q := by
  have h := (And.intro g1 kk)
  exact Go.n tb_X12_lineRead 2 h
theorem b_X12_lineRead_4 {d : Nat} {S : zS} {I : zI} {J : zJ} {Q : zQ} {h0 : Nat} {v1 : Value} {v2 : Value} {y0 : Int32} (g1 : z_kd S h0 = 13) (kt : y0 = (-1 : Int32) → Go d i_X12_lineRead 32 [.ref h0, .int y0, .int (I h0 5)] [] S I J Q) (kf : ¬ y0 = (-1 : Int32) → Go d i_X12_lineRead 15 [.ref h0, .int y0, .int (I h0 5)] [] S I J Q) : Go d i_X12_lineRead 4 [.ref h0, v1, v2] [.int y0] S I J Q := by
  have h := (And.intro g1 (Go.ite kt kf))
  exact Go.n tb_X12_lineRead 7 h
theorem b_X12_lineRead_15 {d : Nat} {S : zS} {I : zI} {J : zJ} {Q : zQ} {h0 : Nat} {x1 : Int32} {x2 : Int32} (kt : (3 : Int32) < x1 → Go d i_X12_lineRead 32 [.ref h0, .int x1, .int x2] [] S I J Q) (kf : ¬ (3 : Int32) < x1 → Go d i_X12_lineRead 20 [.ref h0, .int x1, .int x2] [] S I J Q) : Go d i_X12_lineRead 15 [.ref h0, .int x1, .int x2] [] S I J Q := by
  have h := (Go.ite kt kf)
  exact Go.n tb_X12_lineRead 3 h
theorem b_X12_lineRead_20 {d : Nat} {S : zS} {I : zI} {J : zJ} {Q : zQ} {h0 : Nat} {x1 : Int32} {x2 : Int32} (kt : (1 : Int32) < x1 → Go d i_X12_lineRead 38 [.ref h0, .int x1, .int x2] [] S I J Q) (kf : ¬ (1 : Int32) < x1 → Go d i_X12_lineRead 25 [.ref h0, .int x1, .int x2] [] S I J Q) : Go d i_X12_lineRead 20 [.ref h0, .int x1, .int x2] [] S I J Q := by
  have h := (Go.ite kt kf)
  exact Go.n tb_X12_lineRead 3 h
theorem b_X12_lineRead_25 {d : Nat} {S : zS} {I : zI} {J : zJ} {Q : zQ} {h0 : Nat} {x1 : Int32} {x2 : Int32} (g1 : z_kd S h0 = 13) (kt : (I h0 17) = (0 : Int32) → Go d i_X12_lineRead 38 [.ref h0, .int x1, .int x2] [] S I J Q) (kf : ¬ (I h0 17) = (0 : Int32) → Go d i_X12_lineRead 32 [.ref h0, .int x1, .int x2] [] S I J Q) : Go d i_X12_lineRead 25 [.ref h0, .int x1, .int x2] [] S I J Q := by
  have h := (And.intro g1 (Go.ite kt kf))
  exact Go.n tb_X12_lineRead 3 h
theorem b_X12_lineRead_32 {d : Nat} {S : zS} {I : zI} {J : zJ} {Q : zQ} {h0 : Nat} {x1 : Int32} {x2 : Int32} (g1 : z_kd S h0 = 13) (kk : z_wp d i_X12_fails [.ref h0, .int (1 : Int32), .int x2] S I J (fun vv SS II JJ => Go d i_X12_lineRead 38 [.ref h0, .int x1, .int x2] (vv.toList ++ []) SS II JJ Q)) : Go d i_X12_lineRead 32 [.ref h0, .int x1, .int x2] [] S I J Q := by
  have h := (And.intro g1 kk)
  exact Go.n tb_X12_lineRead 4 h
theorem b_X12_lineRead_38 {d : Nat} {S : zS} {I : zI} {J : zJ} {Q : zQ} {h0 : Nat} {x1 : Int32} {x2 : Int32} (g1 : z_kd S h0 = 13) (kt : (I h0 6) = (0 : Int32) → Go d i_X12_lineRead 46 [.ref h0, .int x1, .int x2] [] S I J Q) (kf : ¬ (I h0 6) = (0 : Int32) → Go d i_X12_lineRead 45 [.ref h0, .int x1, .int x2] [] S I J Q) : Go d i_X12_lineRead 38 [.ref h0, .int x1, .int x2] [] S I J Q := by
  have h := (And.intro g1 (Go.ite kt kf))
  exact Go.n tb_X12_lineRead 3 h
theorem b_X12_lineRead_45 {d : Nat} {S : zS} {I : zI} {J : zJ} {Q : zQ} {h0 : Nat} {x1 : Int32} {x2 : Int32} (kk : Q none S I J) : Go d i_X12_lineRead 45 [.ref h0, .int x1, .int x2] [] S I J Q := by
  have h := (And.intro trivial kk)
  exact Go.n tb_X12_lineRead 1 h
theorem b_X12_lineRead_46 {d : Nat} {S : zS} {I : zI} {J : zJ} {Q : zQ} {h0 : Nat} {x1 : Int32} {x2 : Int32} (g1 : z_kd S h0 = 13) (kk : z_wp d i_X12_passesWord [.ref h0] S I J (fun vv SS II JJ => Go d i_X12_lineRead 50 [.ref h0, .int x1, .int x2] (vv.toList ++ []) SS II JJ Q)) : Go d i_X12_lineRead 46 [.ref h0, .int x1, .int x2] [] S I J Q := by
  have h := (And.intro g1 kk)
  exact Go.n tb_X12_lineRead 2 h
theorem b_X12_lineRead_50 {d : Nat} {S : zS} {I : zI} {J : zJ} {Q : zQ} {h0 : Nat} {x1 : Int32} {x2 : Int32} (g1 : z_kd S h0 = 13 ∧ ((1 : Int32) = 0 ∨ (1 : Int32) = 1)) (kk : Go d i_X12_lineRead (z_sw [(0, 84), (1, 91), (2, 99)] 106 x1) [.ref h0, .int x1, .int x2] [] S (z_u2 I h0 17 (1 : Int32)) J Q) : Go d i_X12_lineRead 50 [.ref h0, .int x1, .int x2] [] S I J Q := by
  have h := (And.intro g1 kk)
  exact Go.n tb_X12_lineRead 5 h
theorem b_X12_lineRead_84 {d : Nat} {S : zS} {I : zI} {J : zJ} {Q : zQ} {h0 : Nat} {x1 : Int32} {x2 : Int32} (g1 : z_kd S h0 = 13) (kk : z_wp d i_X12_groupRead [.ref h0] S I J (fun vv SS II JJ => Go d i_X12_lineRead 88 [.ref h0, .int x1, .int x2] (vv.toList ++ []) SS II JJ Q)) : Go d i_X12_lineRead 84 [.ref h0, .int x1, .int x2] [] S I J Q := by
  have h := (And.intro g1 kk)
  exact Go.n tb_X12_lineRead 2 h
theorem b_X12_lineRead_88 {d : Nat} {S : zS} {I : zI} {J : zJ} {Q : zQ} {h0 : Nat} {x1 : Int32} {x2 : Int32} (g1 : z_kd S h0 = 13) (kk : z_wp d i_X12_must [.ref h0, .int (59 : Int32)] S I J (fun vv SS II JJ => Go d i_X12_lineRead 138 [.ref h0, .int x1, .int x2] (vv.toList ++ []) SS II JJ Q)) : Go d i_X12_lineRead 88 [.ref h0, .int x1, .int x2] [] S I J Q := by
  have h := (And.intro g1 kk)
  exact Go.n tb_X12_lineRead 4 h
theorem b_X12_lineRead_91 {d : Nat} {S : zS} {I : zI} {J : zJ} {Q : zQ} {h0 : Nat} {x1 : Int32} {x2 : Int32} (g1 : z_kd S h0 = 13) (kk : z_wp d i_X12_permsRead [.ref h0, .int x2] S I J (fun vv SS II JJ => Go d i_X12_lineRead 96 [.ref h0, .int x1, .int x2] (vv.toList ++ []) SS II JJ Q)) : Go d i_X12_lineRead 91 [.ref h0, .int x1, .int x2] [] S I J Q := by
  have h := (And.intro g1 kk)
  exact Go.n tb_X12_lineRead 3 h
theorem b_X12_lineRead_96 {d : Nat} {S : zS} {I : zI} {J : zJ} {Q : zQ} {h0 : Nat} {x1 : Int32} {x2 : Int32} (g1 : z_kd S h0 = 13) (kk : z_wp d i_X12_must [.ref h0, .int (59 : Int32)] S I J (fun vv SS II JJ => Go d i_X12_lineRead 138 [.ref h0, .int x1, .int x2] (vv.toList ++ []) SS II JJ Q)) : Go d i_X12_lineRead 96 [.ref h0, .int x1, .int x2] [] S I J Q := by
  have h := (And.intro g1 kk)
  exact Go.n tb_X12_lineRead 4 h
theorem b_X12_lineRead_99 {d : Nat} {S : zS} {I : zI} {J : zJ} {Q : zQ} {h0 : Nat} {x1 : Int32} {x2 : Int32} (g1 : z_kd S h0 = 13) (kk : z_wp d i_X12_stepsRead [.ref h0] S I J (fun vv SS II JJ => Go d i_X12_lineRead 103 [.ref h0, .int x1, .int x2] (vv.toList ++ []) SS II JJ Q)) : Go d i_X12_lineRead 99 [.ref h0, .int x1, .int x2] [] S I J Q := by
  have h := (And.intro g1 kk)
  exact Go.n tb_X12_lineRead 2 h
theorem b_X12_lineRead_103 {d : Nat} {S : zS} {I : zI} {J : zJ} {Q : zQ} {h0 : Nat} {x1 : Int32} {x2 : Int32} (g1 : z_kd S h0 = 13) (kk : z_wp d i_X12_must [.ref h0, .int (59 : Int32)] S I J (fun vv SS II JJ => Go d i_X12_lineRead 138 [.ref h0, .int x1, .int x2] (vv.toList ++ []) SS II JJ Q)) : Go d i_X12_lineRead 103 [.ref h0, .int x1, .int x2] [] S I J Q := by
  have h := (And.intro g1 kk)
  exact Go.n tb_X12_lineRead 4 h
theorem b_X12_lineRead_106 {d : Nat} {S : zS} {I : zI} {J : zJ} {Q : zQ} {h0 : Nat} {x1 : Int32} {x2 : Int32} (g1 : z_kd S h0 = 13) (g2 : z_isI (z_kd S (z_rv S h0 0)) = true ∧ vp_in (1331 : Int32) (z_ln S (z_rv S h0 0))) (g3 : z_kd S h0 = 13) (g4 : z_isI (z_kd S (z_rv S h0 0)) = true ∧ vp_in (1331 : Int32) (z_ln S (z_rv S h0 0))) (g5 : z_kd S h0 = 13) (kk : z_wp d i_X12_undoing [.ref h0, .int (1330 : Int32), .int (I (z_rv S h0 0) (Int32.toNatClampNeg (1331 : Int32)))] S I J (fun vv SS II JJ => Go d i_X12_lineRead 130 [.ref h0, .int x1, .int x2] (vv.toList ++ [.int (I (z_rv S h0 0) (Int32.toNatClampNeg (1331 : Int32))), .int (1331 : Int32), .ref (z_rv S h0 0)]) SS II JJ Q)) : Go d i_X12_lineRead 106 [.ref h0, .int x1, .int x2] [] S I J Q := by
  have h := (And.intro g1 (And.intro g2 (And.intro g3 (And.intro g4 (And.intro g5 kk)))))
  exact Go.n tb_X12_lineRead 12 h
theorem b_X12_lineRead_130 {d : Nat} {S : zS} {I : zI} {J : zJ} {Q : zQ} {h0 : Nat} {x1 : Int32} {x2 : Int32} {q0 : Nat} {y1 : Int32} {y2 : Int32} {y3 : Int32} (g1 : z_kd S q0 = 100 ∧ vp_in y1 (z_ln S q0)) (g2 : z_kd S h0 = 13) (kk : z_wp d i_X12_must [.ref h0, .int (59 : Int32)] S (z_u2 I q0 (Int32.toNatClampNeg y1) (y2 ||| y3)) J (fun vv SS II JJ => Go d i_X12_lineRead 138 [.ref h0, .int x1, .int x2] (vv.toList ++ []) SS II JJ Q)) : Go d i_X12_lineRead 130 [.ref h0, .int x1, .int x2] [.int y3, .int y2, .int y1, .ref q0] S I J Q := by
  have h := (And.intro g1 (And.intro g2 kk))
  exact Go.n tb_X12_lineRead 5 h
theorem b_X12_lineRead_138 {d : Nat} {S : zS} {I : zI} {J : zJ} {Q : zQ} {h0 : Nat} {x1 : Int32} {x2 : Int32} (kk : Q none S I J) : Go d i_X12_lineRead 138 [.ref h0, .int x1, .int x2] [] S I J Q := by
  have h := (And.intro trivial kk)
  exact Go.n tb_X12_lineRead 1 h
theorem w_X12_tell {d : Nat} {S : zS} {I : zI} {J : zJ} {Q : zQ} {h0 : Nat} {x1 : Int32} {x2 : Int32} (h : Go d i_X12_tell 0 [.ref h0, .int x1, .int x2] [] S I J Q) : z_wp (d + 1) i_X12_tell [.ref h0, .int x1, .int x2] S I J Q := Go.wp (Nat.le_of_ble_eq_true rfl) h
theorem e_X12_tell {d : Nat} {S S2 : zS} {I I2 : zI} {J J2 : zJ} {r : Option Value} {h0 : Nat} {x1 : Int32} {x2 : Int32} (h : Go d i_X12_tell 0 [.ref h0, .int x1, .int x2] [] S I J (z_eq r S2 I2 J2)) : z_ev (d + 1) i_X12_tell [.ref h0, .int x1, .int x2] S I J r S2 I2 J2 := Go.ev (Nat.le_of_ble_eq_true rfl) h
theorem b_X12_tell_0 {d : Nat} {S : zS} {I : zI} {J : zJ} {Q : zQ} {h0 : Nat} {x1 : Int32} {x2 : Int32} (g1 : z_kd S h0 = 13) (kk : z_wp d i_X12_isSlot [.int x1] S (z_u2 I h0 1 (0 : Int32)) J (fun vv SS II JJ => Go d i_X12_tell 9 [.ref h0, .int x1, .int x2] (vv.toList ++ []) SS II JJ Q)) : Go d i_X12_tell 0 [.ref h0, .int x1, .int x2] [] S I J Q := by
  have h := (And.intro g1 (And.intro trivial kk))
  exact Go.n tb_X12_tell 5 h
theorem b_X12_tell_9 {d : Nat} {S : zS} {I : zI} {J : zJ} {Q : zQ} {h0 : Nat} {x1 : Int32} {x2 : Int32} {y0 : Int32} (kt : ¬ y0 = (0 : Int32) → Go d i_X12_tell 15 [.ref h0, .int x1, .int x2] [] S I J Q) (kf : y0 = (0 : Int32) → Go d i_X12_tell 12 [.ref h0, .int x1, .int x2] [] S I J Q) : Go d i_X12_tell 9 [.ref h0, .int x1, .int x2] [.int y0] S I J Q := by
  have h := (Go.eti kt kf)
  exact Go.n tb_X12_tell 1 h
theorem b_X12_tell_12 {d : Nat} {S : zS} {I : zI} {J : zJ} {Q : zQ} {h0 : Nat} {x1 : Int32} {x2 : Int32} (kk : Q (some (.int (-2 : Int32))) S I J) : Go d i_X12_tell 12 [.ref h0, .int x1, .int x2] [] S I J Q := by
  have h := (And.intro trivial kk)
  exact Go.n tb_X12_tell 2 h
theorem b_X12_tell_15 {d : Nat} {S : zS} {I : zI} {J : zJ} {Q : zQ} {h0 : Nat} {x1 : Int32} {x2 : Int32} (g1 : z_kd S h0 = 13) (kk : z_wp d i_X12_isIn [.long (Int32.toInt64 x2), .long (0 : Int64), .long (Int32.toInt64 (I h0 3))] S I J (fun vv SS II JJ => Go d i_X12_tell 26 [.ref h0, .int x1, .int x2] (vv.toList ++ []) SS II JJ Q)) : Go d i_X12_tell 15 [.ref h0, .int x1, .int x2] [] S I J Q := by
  have h := (And.intro g1 (And.intro trivial kk))
  exact Go.n tb_X12_tell 7 h
theorem b_X12_tell_26 {d : Nat} {S : zS} {I : zI} {J : zJ} {Q : zQ} {h0 : Nat} {x1 : Int32} {x2 : Int32} {y0 : Int32} (kt : ¬ y0 = (0 : Int32) → Go d i_X12_tell 32 [.ref h0, .int x1, .int x2] [] S I J Q) (kf : y0 = (0 : Int32) → Go d i_X12_tell 29 [.ref h0, .int x1, .int x2] [] S I J Q) : Go d i_X12_tell 26 [.ref h0, .int x1, .int x2] [.int y0] S I J Q := by
  have h := (Go.eti kt kf)
  exact Go.n tb_X12_tell 1 h
theorem b_X12_tell_29 {d : Nat} {S : zS} {I : zI} {J : zJ} {Q : zQ} {h0 : Nat} {x1 : Int32} {x2 : Int32} (kk : Q (some (.int (-3 : Int32))) S I J) : Go d i_X12_tell 29 [.ref h0, .int x1, .int x2] [] S I J Q := by
  have h := (And.intro trivial kk)
  exact Go.n tb_X12_tell 2 h
theorem b_X12_tell_32 {d : Nat} {S : zS} {I : zI} {J : zJ} {Q : zQ} {h0 : Nat} {x1 : Int32} {x2 : Int32} {I1 : zI} (g1 : z_kd S h0 = 13) (g2 : z_kd S h0 = 13) (g3 : z_kd S h0 = 13) (g4 : z_kd S h0 = 13) (g5 : z_kd S h0 = 13) (g6 : z_kd S h0 = 13 ∧ ((0 : Int32) = 0 ∨ (0 : Int32) = 1)) (eI1 : I1 = z_u2 (z_u2 (z_u2 (z_u2 (z_u2 (z_u2 I h0 3 (0 : Int32)) h0 4 x2) h0 5 (0 : Int32)) h0 6 (0 : Int32)) h0 7 (-1 : Int32)) h0 17 (0 : Int32)) (g8 : z_kd S h0 = 13) (g9 : z_kd S h0 = 13) (kk : z_wp d i_X12_copies [.ref (z_rv S h0 0), .int ((665 : Int32) * x1), .ref (z_rv S h0 0), .int (1330 : Int32)] S I1 J (fun vv SS II JJ => Go d i_X12_tell 81 [.ref h0, .int x1, .int x2] (vv.toList ++ []) SS II JJ Q)) : Go d i_X12_tell 32 [.ref h0, .int x1, .int x2] [] S I J Q := by
  subst eI1
  have h := (And.intro g1 (And.intro g2 (And.intro g3 (And.intro g4 (And.intro g5 (And.intro g6 (And.intro g8 (And.intro g9 (And.intro trivial kk)))))))))
  exact Go.n tb_X12_tell 27 h
theorem b_X12_tell_81 {d : Nat} {S : zS} {I : zI} {J : zJ} {Q : zQ} {h0 : Nat} {x1 : Int32} {x2 : Int32} (g1 : z_kd S h0 = 13) (kt : ¬ (I h0 6) = (0 : Int32) → Go d i_X12_tell 103 [.ref h0, .int x1, .int x2] [] S I J Q) (kf : (I h0 6) = (0 : Int32) → Go d i_X12_tell 88 [.ref h0, .int x1, .int x2] [] S I J Q) : Go d i_X12_tell 81 [.ref h0, .int x1, .int x2] [] S I J Q := by
  have h := (And.intro g1 (Go.eti kt kf))
  exact Go.n tb_X12_tell 3 h
theorem b_X12_tell_88 {d : Nat} {S : zS} {I : zI} {J : zJ} {Q : zQ} {h0 : Nat} {x1 : Int32} {x2 : Int32} (g1 : z_kd S h0 = 13) (kk : z_wp d i_X12_peek [.ref h0] S I J (fun vv SS II JJ => Go d i_X12_tell 92 [.ref h0, .int x1, .int x2] (vv.toList ++ []) SS II JJ Q)) : Go d i_X12_tell 88 [.ref h0, .int x1, .int x2] [] S I J Q := by
  have h := (And.intro g1 kk)
  exact Go.n tb_X12_tell 2 h
theorem b_X12_tell_92 {d : Nat} {S : zS} {I : zI} {J : zJ} {Q : zQ} {h0 : Nat} {x1 : Int32} {x2 : Int32} {y0 : Int32} (kt : y0 = (-1 : Int32) → Go d i_X12_tell 103 [.ref h0, .int x1, .int x2] [] S I J Q) (kf : ¬ y0 = (-1 : Int32) → Go d i_X12_tell 96 [.ref h0, .int x1, .int x2] [] S I J Q) : Go d i_X12_tell 92 [.ref h0, .int x1, .int x2] [.int y0] S I J Q := by
  have h := (Go.ite kt kf)
  exact Go.n tb_X12_tell 2 h
theorem b_X12_tell_96 {d : Nat} {S : zS} {I : zI} {J : zJ} {Q : zQ} {h0 : Nat} {x1 : Int32} {x2 : Int32} (g1 : z_kd S h0 = 13) (kk : z_wp d i_X12_lineRead [.ref h0] S I J (fun vv SS II JJ => Go d i_X12_tell 100 [.ref h0, .int x1, .int x2] (vv.toList ++ []) SS II JJ Q)) : Go d i_X12_tell 96 [.ref h0, .int x1, .int x2] [] S I J Q := by
  have h := (And.intro g1 kk)
  exact Go.n tb_X12_tell 2 h
theorem b_X12_tell_100 {d : Nat} {S : zS} {I : zI} {J : zJ} {Q : zQ} {h0 : Nat} {x1 : Int32} {x2 : Int32} (kk : Go d i_X12_tell 81 [.ref h0, .int x1, .int x2] [] S I J Q) : Go d i_X12_tell 100 [.ref h0, .int x1, .int x2] [] S I J Q := by
  have h := kk
  exact Go.n tb_X12_tell 1 h
theorem b_X12_tell_103 {d : Nat} {S : zS} {I : zI} {J : zJ} {Q : zQ} {h0 : Nat} {x1 : Int32} {x2 : Int32} (g1 : z_kd S h0 = 13) (kt : (I h0 6) = (0 : Int32) → Go d i_X12_tell 118 [.ref h0, .int x1, .int x2] [] S I J Q) (kf : ¬ (I h0 6) = (0 : Int32) → Go d i_X12_tell 110 [.ref h0, .int x1, .int x2] [] S I J Q) : Go d i_X12_tell 103 [.ref h0, .int x1, .int x2] [] S I J Q := by
  have h := (And.intro g1 (Go.ite kt kf))
  exact Go.n tb_X12_tell 3 h
theorem b_X12_tell_110 {d : Nat} {S : zS} {I : zI} {J : zJ} {Q : zQ} {h0 : Nat} {x1 : Int32} {x2 : Int32} (g1 : z_kd S h0 = 13) (kk : Q (some (.int ((-30 : Int32) - (I h0 6)))) S I J) : Go d i_X12_tell 110 [.ref h0, .int x1, .int x2] [] S I J Q := by
  have h := (And.intro g1 (And.intro trivial kk))
  exact Go.n tb_X12_tell 5 h
theorem b_X12_tell_118 {d : Nat} {S : zS} {I : zI} {J : zJ} {Q : zQ} {h0 : Nat} {x1 : Int32} {x2 : Int32} (g1 : z_kd S h0 = 13) (g2 : z_kd S h0 = 13) (kk : z_wp d i_X12_copies [.ref (z_rv S h0 0), .int (1330 : Int32), .ref (z_rv S h0 0), .int ((665 : Int32) * x1)] S I J (fun vv SS II JJ => Go d i_X12_tell 137 [.ref h0, .int x1, .int x2] (vv.toList ++ []) SS II JJ Q)) : Go d i_X12_tell 118 [.ref h0, .int x1, .int x2] [] S I J Q := by
  have h := (And.intro g1 (And.intro g2 (And.intro trivial kk)))
  exact Go.n tb_X12_tell 9 h
theorem b_X12_tell_137 {d : Nat} {S : zS} {I : zI} {J : zJ} {Q : zQ} {h0 : Nat} {x1 : Int32} {x2 : Int32} (g1 : z_kd S h0 = 13) (g2 : z_kd S h0 = 13) (g3 : z_isI (z_kd S (z_rv S h0 0)) = true ∧ vp_in (((665 : Int32) * x1) + (0 : Int32)) (z_ln S (z_rv S h0 0))) (kk : Q (some (.int ((z_u2 I h0 19 (0 : Int32)) (z_rv S h0 0) (Int32.toNatClampNeg (((665 : Int32) * x1) + (0 : Int32)))))) S (z_u2 I h0 19 (0 : Int32)) J) : Go d i_X12_tell 137 [.ref h0, .int x1, .int x2] [] S I J Q := by
  have h := (And.intro g1 (And.intro g2 (And.intro g3 (And.intro trivial kk))))
  exact Go.n tb_X12_tell 12 h
theorem w_X12_fault {d : Nat} {S : zS} {I : zI} {J : zJ} {Q : zQ} {h0 : Nat} {x1 : Int32} (h : Go d i_X12_fault 0 [.ref h0, .int x1] [] S I J Q) : z_wp (d + 1) i_X12_fault [.ref h0, .int x1] S I J Q := Go.wp (Nat.le_of_ble_eq_true rfl) h
theorem e_X12_fault {d : Nat} {S S2 : zS} {I I2 : zI} {J J2 : zJ} {r : Option Value} {h0 : Nat} {x1 : Int32} (h : Go d i_X12_fault 0 [.ref h0, .int x1] [] S I J (z_eq r S2 I2 J2)) : z_ev (d + 1) i_X12_fault [.ref h0, .int x1] S I J r S2 I2 J2 := Go.ev (Nat.le_of_ble_eq_true rfl) h
theorem b_X12_fault_0 {d : Nat} {S : zS} {I : zI} {J : zJ} {Q : zQ} {h0 : Nat} {x1 : Int32} (g1 : z_kd S h0 = 13) (kt : ¬ x1 = (0 : Int32) → Go d i_X12_fault 16 [.ref h0, .int x1] [] S (z_u2 I h0 1 (0 : Int32)) J Q) (kf : x1 = (0 : Int32) → Go d i_X12_fault 9 [.ref h0, .int x1] [] S (z_u2 I h0 1 (0 : Int32)) J Q) : Go d i_X12_fault 0 [.ref h0, .int x1] [] S I J Q := by
  have h := (And.intro g1 (Go.eti kt kf))
  exact Go.n tb_X12_fault 5 h
theorem b_X12_fault_9 {d : Nat} {S : zS} {I : zI} {J : zJ} {Q : zQ} {h0 : Nat} {x1 : Int32} (g1 : z_kd S h0 = 13) (kk : Q (some (.int (I h0 6))) S I J) : Go d i_X12_fault 9 [.ref h0, .int x1] [] S I J Q := by
  have h := (And.intro g1 (And.intro trivial kk))
  exact Go.n tb_X12_fault 4 h
theorem b_X12_fault_16 {d : Nat} {S : zS} {I : zI} {J : zJ} {Q : zQ} {h0 : Nat} {x1 : Int32} (kt : ¬ x1 = (1 : Int32) → Go d i_X12_fault 28 [.ref h0, .int x1] [] S I J Q) (kf : x1 = (1 : Int32) → Go d i_X12_fault 21 [.ref h0, .int x1] [] S I J Q) : Go d i_X12_fault 16 [.ref h0, .int x1] [] S I J Q := by
  have h := (Go.eti kt kf)
  exact Go.n tb_X12_fault 3 h
theorem b_X12_fault_21 {d : Nat} {S : zS} {I : zI} {J : zJ} {Q : zQ} {h0 : Nat} {x1 : Int32} (g1 : z_kd S h0 = 13) (kk : Q (some (.int (I h0 7))) S I J) : Go d i_X12_fault 21 [.ref h0, .int x1] [] S I J Q := by
  have h := (And.intro g1 (And.intro trivial kk))
  exact Go.n tb_X12_fault 4 h
theorem b_X12_fault_28 {d : Nat} {S : zS} {I : zI} {J : zJ} {Q : zQ} {h0 : Nat} {x1 : Int32} (kk : Q (some (.int (-1 : Int32))) S I J) : Go d i_X12_fault 28 [.ref h0, .int x1] [] S I J Q := by
  have h := (And.intro trivial kk)
  exact Go.n tb_X12_fault 2 h
theorem w_X12_keeps {d : Nat} {S : zS} {I : zI} {J : zJ} {Q : zQ} {h0 : Nat} {x1 : Int32} (h : Go d i_X12_keeps 0 [.ref h0, .int x1, .retAddr 0] [] S I J Q) : z_wp (d + 1) i_X12_keeps [.ref h0, .int x1] S I J Q := Go.wp (Nat.le_of_ble_eq_true rfl) h
theorem e_X12_keeps {d : Nat} {S S2 : zS} {I I2 : zI} {J J2 : zJ} {r : Option Value} {h0 : Nat} {x1 : Int32} (h : Go d i_X12_keeps 0 [.ref h0, .int x1, .retAddr 0] [] S I J (z_eq r S2 I2 J2)) : z_ev (d + 1) i_X12_keeps [.ref h0, .int x1] S I J r S2 I2 J2 := Go.ev (Nat.le_of_ble_eq_true rfl) h
theorem b_X12_keeps_0 {d : Nat} {S : zS} {I : zI} {J : zJ} {Q : zQ} {h0 : Nat} {x1 : Int32} {v2 : Value} (g1 : z_kd S h0 = 13) (kt : ¬ (I h0 19) = (8 : Int32) → Go d i_X12_keeps 52 [.ref h0, .int x1, v2] [] S I J Q) (kf : (I h0 19) = (8 : Int32) → Go d i_X12_keeps 9 [.ref h0, .int x1, v2] [] S I J Q) : Go d i_X12_keeps 0 [.ref h0, .int x1, v2] [] S I J Q := by
  have h := (And.intro g1 (Go.eti kt kf))
  exact Go.n tb_X12_keeps 4 h
theorem b_X12_keeps_9 {d : Nat} {S : zS} {I : zI} {J : zJ} {Q : zQ} {h0 : Nat} {x1 : Int32} {v2 : Value} (kk : Go d i_X12_keeps 11 [.ref h0, .int x1, .int (0 : Int32)] [] S I J Q) : Go d i_X12_keeps 9 [.ref h0, .int x1, v2] [] S I J Q := by
  have h := kk
  exact Go.n tb_X12_keeps 2 h
theorem b_X12_keeps_11 {d : Nat} {S : zS} {I : zI} {J : zJ} {Q : zQ} {h0 : Nat} {x1 : Int32} {x2 : Int32} (kt : (4662 : Int32) ≤ x2 → Go d i_X12_keeps 42 [.ref h0, .int x1, .int x2] [] S I J Q) (kf : ¬ (4662 : Int32) ≤ x2 → Go d i_X12_keeps 18 [.ref h0, .int x1, .int x2] [] S I J Q) : Go d i_X12_keeps 11 [.ref h0, .int x1, .int x2] [] S I J Q := by
  have h := (Go.ite kt kf)
  exact Go.n tb_X12_keeps 3 h
theorem b_X12_keeps_18 {d : Nat} {S : zS} {I : zI} {J : zJ} {Q : zQ} {h0 : Nat} {x1 : Int32} {x2 : Int32} {I1 : zI} (g1 : z_kd S h0 = 13) (g2 : z_kd S h0 = 13) (g3 : z_isI (z_kd S (z_rv S h0 18)) = true ∧ vp_in ((x2 + (665 : Int32)) + (1 : Int32)) (z_ln S (z_rv S h0 18))) (g4 : z_kd S (z_rv S h0 18) = 100 ∧ vp_in x2 (z_ln S (z_rv S h0 18))) (eI1 : I1 = z_u2 I (z_rv S h0 18) (Int32.toNatClampNeg x2) (I (z_rv S h0 18) (Int32.toNatClampNeg ((x2 + (665 : Int32)) + (1 : Int32))))) (kk : Go d i_X12_keeps 11 [.ref h0, .int x1, .int (x2 + (1 : Int32))] [] S I1 J Q) : Go d i_X12_keeps 18 [.ref h0, .int x1, .int x2] [] S I J Q := by
  subst eI1
  have h := (And.intro g1 (And.intro g2 (And.intro g3 (And.intro g4 kk))))
  exact Go.n tb_X12_keeps 14 h
theorem b_X12_keeps_42 {d : Nat} {S : zS} {I : zI} {J : zJ} {Q : zQ} {h0 : Nat} {x1 : Int32} {x2 : Int32} (g1 : z_kd S h0 = 13) (g2 : z_kd S h0 = 13) (g3 : z_kd S h0 = 13) (g4 : z_kd S h0 = 13) (g5 : z_kd S h0 = 13) (kk : z_wp d i_X12_copies [.ref (z_rv S h0 0), .int ((665 : Int32) * x1), .ref (z_rv S h0 18), .int ((666 : Int32) * ((z_u2 I h0 19 ((I h0 19) - (1 : Int32))) h0 19))] S (z_u2 I h0 19 ((I h0 19) - (1 : Int32))) J (fun vv SS II JJ => Go d i_X12_keeps 76 [.ref h0, .int x1, .int x2] (vv.toList ++ []) SS II JJ Q)) : Go d i_X12_keeps 42 [.ref h0, .int x1, .int x2] [] S I J Q := by
  have h := (And.intro g1 (And.intro g2 (And.intro g3 (And.intro g4 (And.intro g5 (And.intro trivial kk))))))
  exact Go.n tb_X12_keeps 18 h
theorem b_X12_keeps_52 {d : Nat} {S : zS} {I : zI} {J : zJ} {Q : zQ} {h0 : Nat} {x1 : Int32} {v2 : Value} (g1 : z_kd S h0 = 13) (g2 : z_kd S h0 = 13) (g3 : z_kd S h0 = 13) (kk : z_wp d i_X12_copies [.ref (z_rv S h0 0), .int ((665 : Int32) * x1), .ref (z_rv S h0 18), .int ((666 : Int32) * (I h0 19))] S I J (fun vv SS II JJ => Go d i_X12_keeps 76 [.ref h0, .int x1, v2] (vv.toList ++ []) SS II JJ Q)) : Go d i_X12_keeps 52 [.ref h0, .int x1, v2] [] S I J Q := by
  have h := (And.intro g1 (And.intro g2 (And.intro g3 (And.intro trivial kk))))
  exact Go.n tb_X12_keeps 12 h
theorem b_X12_keeps_76 {d : Nat} {S : zS} {I : zI} {J : zJ} {Q : zQ} {h0 : Nat} {x1 : Int32} {v2 : Value} {I1 : zI} (g1 : z_kd S h0 = 13) (g2 : z_kd S h0 = 13) (g3 : z_kd S (z_rv S h0 18) = 100 ∧ vp_in (((666 : Int32) * (I h0 19)) + (665 : Int32)) (z_ln S (z_rv S h0 18))) (g4 : z_kd S h0 = 13) (g5 : z_kd S h0 = 13) (eI1 : I1 = z_u2 (z_u2 I (z_rv S h0 18) (Int32.toNatClampNeg (((666 : Int32) * (I h0 19)) + (665 : Int32))) x1) h0 19 (((z_u2 I (z_rv S h0 18) (Int32.toNatClampNeg (((666 : Int32) * (I h0 19)) + (665 : Int32))) x1) h0 19) + (1 : Int32))) (kk : Q none S I1 J) : Go d i_X12_keeps 76 [.ref h0, .int x1, v2] [] S I J Q := by
  subst eI1
  have h := (And.intro g1 (And.intro g2 (And.intro g3 (And.intro g4 (And.intro g5 (And.intro trivial kk))))))
  exact Go.n tb_X12_keeps 17 h
theorem w_X12_isSlot {d : Nat} {S : zS} {I : zI} {J : zJ} {Q : zQ} {x0 : Int32} (h : Go d i_X12_isSlot 0 [.int x0] [] S I J Q) : z_wp (d + 1) i_X12_isSlot [.int x0] S I J Q := Go.wp (Nat.le_of_ble_eq_true rfl) h
theorem e_X12_isSlot {d : Nat} {S S2 : zS} {I I2 : zI} {J J2 : zJ} {r : Option Value} {x0 : Int32} (h : Go d i_X12_isSlot 0 [.int x0] [] S I J (z_eq r S2 I2 J2)) : z_ev (d + 1) i_X12_isSlot [.int x0] S I J r S2 I2 J2 := Go.ev (Nat.le_of_ble_eq_true rfl) h
theorem b_X12_isSlot_0 {d : Nat} {S : zS} {I : zI} {J : zJ} {Q : zQ} {x0 : Int32} (kk : z_wp d i_X12_isIn [.long (Int32.toInt64 x0), .long (0 : Int64), .long (1 : Int64)] S I J (fun vv SS II JJ => Go d i_X12_isSlot 7 [.int x0] (vv.toList ++ []) SS II JJ Q)) : Go d i_X12_isSlot 0 [.int x0] [] S I J Q := by
  have h := (And.intro trivial kk)
  exact Go.n tb_X12_isSlot 5 h
theorem b_X12_isSlot_7 {d : Nat} {S : zS} {I : zI} {J : zJ} {Q : zQ} {x0 : Int32} {y0 : Int32} (g1 : z_fit 3 y0) (kk : Q (some (.int y0)) S I J) : Go d i_X12_isSlot 7 [.int x0] [.int y0] S I J Q := by
  have h := (And.intro g1 kk)
  exact Go.n tb_X12_isSlot 1 h
theorem w_X12_many {d : Nat} {S : zS} {I : zI} {J : zJ} {Q : zQ} {h0 : Nat} {x1 : Int32} (h : Go d i_X12_many 0 [.ref h0, .int x1] [] S I J Q) : z_wp (d + 1) i_X12_many [.ref h0, .int x1] S I J Q := Go.wp (Nat.le_of_ble_eq_true rfl) h
theorem e_X12_many {d : Nat} {S S2 : zS} {I I2 : zI} {J J2 : zJ} {r : Option Value} {h0 : Nat} {x1 : Int32} (h : Go d i_X12_many 0 [.ref h0, .int x1] [] S I J (z_eq r S2 I2 J2)) : z_ev (d + 1) i_X12_many [.ref h0, .int x1] S I J r S2 I2 J2 := Go.ev (Nat.le_of_ble_eq_true rfl) h
theorem b_X12_many_0 {d : Nat} {S : zS} {I : zI} {J : zJ} {Q : zQ} {h0 : Nat} {x1 : Int32} (g1 : z_kd S h0 = 13) (g2 : z_isI (z_kd S (z_rv S h0 0)) = true ∧ vp_in (((665 : Int32) * x1) + (0 : Int32)) (z_ln S (z_rv S h0 0))) (kk : Q (some (.int (I (z_rv S h0 0) (Int32.toNatClampNeg (((665 : Int32) * x1) + (0 : Int32)))))) S I J) : Go d i_X12_many 0 [.ref h0, .int x1] [] S I J Q := by
  have h := (And.intro g1 (And.intro g2 (And.intro trivial kk)))
  exact Go.n tb_X12_many 9 h
theorem w_X12_steps {d : Nat} {S : zS} {I : zI} {J : zJ} {Q : zQ} {h0 : Nat} {x1 : Int32} (h : Go d i_X12_steps 0 [.ref h0, .int x1] [] S I J Q) : z_wp (d + 1) i_X12_steps [.ref h0, .int x1] S I J Q := Go.wp (Nat.le_of_ble_eq_true rfl) h
theorem e_X12_steps {d : Nat} {S S2 : zS} {I I2 : zI} {J J2 : zJ} {r : Option Value} {h0 : Nat} {x1 : Int32} (h : Go d i_X12_steps 0 [.ref h0, .int x1] [] S I J (z_eq r S2 I2 J2)) : z_ev (d + 1) i_X12_steps [.ref h0, .int x1] S I J r S2 I2 J2 := Go.ev (Nat.le_of_ble_eq_true rfl) h
theorem b_X12_steps_0 {d : Nat} {S : zS} {I : zI} {J : zJ} {Q : zQ} {h0 : Nat} {x1 : Int32} (g1 : z_kd S h0 = 13) (g2 : z_isI (z_kd S (z_rv S h0 0)) = true ∧ vp_in (((665 : Int32) * x1) + (1 : Int32)) (z_ln S (z_rv S h0 0))) (kk : Q (some (.int (I (z_rv S h0 0) (Int32.toNatClampNeg (((665 : Int32) * x1) + (1 : Int32)))))) S I J) : Go d i_X12_steps 0 [.ref h0, .int x1] [] S I J Q := by
  have h := (And.intro g1 (And.intro g2 (And.intro trivial kk)))
  exact Go.n tb_X12_steps 9 h
theorem w_X12_isElement {d : Nat} {S : zS} {I : zI} {J : zJ} {Q : zQ} {h0 : Nat} {x1 : Int32} {x2 : Int32} (h : Go d i_X12_isElement 0 [.ref h0, .int x1, .int x2] [] S I J Q) : z_wp (d + 1) i_X12_isElement [.ref h0, .int x1, .int x2] S I J Q := Go.wp (Nat.le_of_ble_eq_true rfl) h
theorem e_X12_isElement {d : Nat} {S S2 : zS} {I I2 : zI} {J J2 : zJ} {r : Option Value} {h0 : Nat} {x1 : Int32} {x2 : Int32} (h : Go d i_X12_isElement 0 [.ref h0, .int x1, .int x2] [] S I J (z_eq r S2 I2 J2)) : z_ev (d + 1) i_X12_isElement [.ref h0, .int x1, .int x2] S I J r S2 I2 J2 := Go.ev (Nat.le_of_ble_eq_true rfl) h
theorem b_X12_isElement_0 {d : Nat} {S : zS} {I : zI} {J : zJ} {Q : zQ} {h0 : Nat} {x1 : Int32} {x2 : Int32} (kk : z_wp d i_X12_isSlot [.int x1] S I J (fun vv SS II JJ => Go d i_X12_isElement 4 [.ref h0, .int x1, .int x2] (vv.toList ++ []) SS II JJ Q)) : Go d i_X12_isElement 0 [.ref h0, .int x1, .int x2] [] S I J Q := by
  have h := (And.intro trivial kk)
  exact Go.n tb_X12_isElement 2 h
theorem b_X12_isElement_4 {d : Nat} {S : zS} {I : zI} {J : zJ} {Q : zQ} {h0 : Nat} {x1 : Int32} {x2 : Int32} {y0 : Int32} (kt : y0 = (0 : Int32) → Go d i_X12_isElement 28 [.ref h0, .int x1, .int x2] [] S I J Q) (kf : ¬ y0 = (0 : Int32) → Go d i_X12_isElement 7 [.ref h0, .int x1, .int x2] [] S I J Q) : Go d i_X12_isElement 4 [.ref h0, .int x1, .int x2] [.int y0] S I J Q := by
  have h := (Go.ite kt kf)
  exact Go.n tb_X12_isElement 1 h
theorem b_X12_isElement_7 {d : Nat} {S : zS} {I : zI} {J : zJ} {Q : zQ} {h0 : Nat} {x1 : Int32} {x2 : Int32} (g1 : z_kd S h0 = 13) (kk : z_wp d i_X12_many [.ref h0, .int x1] S I J (fun vv SS II JJ => Go d i_X12_isElement 15 [.ref h0, .int x1, .int x2] (vv.toList ++ [.long (0 : Int64), .long (Int32.toInt64 x2)]) SS II JJ Q)) : Go d i_X12_isElement 7 [.ref h0, .int x1, .int x2] [] S I J Q := by
  have h := (And.intro g1 kk)
  exact Go.n tb_X12_isElement 6 h
theorem b_X12_isElement_15 {d : Nat} {S : zS} {I : zI} {J : zJ} {Q : zQ} {h0 : Nat} {x1 : Int32} {x2 : Int32} {w0 : Int64} {w1 : Int64} {y2 : Int32} (kk : z_wp d i_X12_isIn [.long w0, .long w1, .long (Int32.toInt64 (y2 - (1 : Int32)))] S I J (fun vv SS II JJ => Go d i_X12_isElement 21 [.ref h0, .int x1, .int x2] (vv.toList ++ []) SS II JJ Q)) : Go d i_X12_isElement 15 [.ref h0, .int x1, .int x2] [.int y2, .long w1, .long w0] S I J Q := by
  have h := (And.intro trivial kk)
  exact Go.n tb_X12_isElement 4 h
theorem b_X12_isElement_21 {d : Nat} {S : zS} {I : zI} {J : zJ} {Q : zQ} {h0 : Nat} {x1 : Int32} {x2 : Int32} {y0 : Int32} (kt : y0 = (0 : Int32) → Go d i_X12_isElement 28 [.ref h0, .int x1, .int x2] [] S I J Q) (kf : ¬ y0 = (0 : Int32) → Go d i_X12_isElement 24 [.ref h0, .int x1, .int x2] [] S I J Q) : Go d i_X12_isElement 21 [.ref h0, .int x1, .int x2] [.int y0] S I J Q := by
  have h := (Go.ite kt kf)
  exact Go.n tb_X12_isElement 1 h
theorem b_X12_isElement_24 {d : Nat} {S : zS} {I : zI} {J : zJ} {Q : zQ} {h0 : Nat} {x1 : Int32} {x2 : Int32} (g1 : z_fit 3 (1 : Int32)) (kk : Q (some (.int (1 : Int32))) S I J) : Go d i_X12_isElement 24 [.ref h0, .int x1, .int x2] [] S I J Q := by
  have h := (And.intro g1 kk)
  exact Go.n tb_X12_isElement 3 h
theorem b_X12_isElement_28 {d : Nat} {S : zS} {I : zI} {J : zJ} {Q : zQ} {h0 : Nat} {x1 : Int32} {x2 : Int32} (g1 : z_fit 3 (0 : Int32)) (kk : Q (some (.int (0 : Int32))) S I J) : Go d i_X12_isElement 28 [.ref h0, .int x1, .int x2] [] S I J Q := by
  have h := (And.intro g1 kk)
  exact Go.n tb_X12_isElement 2 h
theorem w_X12_isSet {d : Nat} {S : zS} {I : zI} {J : zJ} {Q : zQ} {h0 : Nat} {x1 : Int32} {x2 : Int32} (h : Go d i_X12_isSet 0 [.ref h0, .int x1, .int x2] [] S I J Q) : z_wp (d + 1) i_X12_isSet [.ref h0, .int x1, .int x2] S I J Q := Go.wp (Nat.le_of_ble_eq_true rfl) h
theorem e_X12_isSet {d : Nat} {S S2 : zS} {I I2 : zI} {J J2 : zJ} {r : Option Value} {h0 : Nat} {x1 : Int32} {x2 : Int32} (h : Go d i_X12_isSet 0 [.ref h0, .int x1, .int x2] [] S I J (z_eq r S2 I2 J2)) : z_ev (d + 1) i_X12_isSet [.ref h0, .int x1, .int x2] S I J r S2 I2 J2 := Go.ev (Nat.le_of_ble_eq_true rfl) h
theorem b_X12_isSet_0 {d : Nat} {S : zS} {I : zI} {J : zJ} {Q : zQ} {h0 : Nat} {x1 : Int32} {x2 : Int32} (g1 : z_kd S h0 = 13) (kk : z_wp d i_X12_many [.ref h0, .int x1] S I J (fun vv SS II JJ => Go d i_X12_isSet 9 [.ref h0, .int x1, .int x2] (vv.toList ++ [.int (1 : Int32), .long (0 : Int64), .long (Int32.toInt64 x2)]) SS II JJ Q)) : Go d i_X12_isSet 0 [.ref h0, .int x1, .int x2] [] S I J Q := by
  have h := (And.intro g1 kk)
  exact Go.n tb_X12_isSet 7 h
theorem b_X12_isSet_9 {d : Nat} {S : zS} {I : zI} {J : zJ} {Q : zQ} {h0 : Nat} {x1 : Int32} {x2 : Int32} {w0 : Int64} {w1 : Int64} {y2 : Int32} {y3 : Int32} (kk : z_wp d i_X12_isIn [.long w0, .long w1, .long (Int32.toInt64 ((y2 <<< (y3 &&& 31)) - (1 : Int32)))] S I J (fun vv SS II JJ => Go d i_X12_isSet 16 [.ref h0, .int x1, .int x2] (vv.toList ++ []) SS II JJ Q)) : Go d i_X12_isSet 9 [.ref h0, .int x1, .int x2] [.int y3, .int y2, .long w1, .long w0] S I J Q := by
  have h := (And.intro trivial kk)
  exact Go.n tb_X12_isSet 5 h
theorem b_X12_isSet_16 {d : Nat} {S : zS} {I : zI} {J : zJ} {Q : zQ} {h0 : Nat} {x1 : Int32} {x2 : Int32} {y0 : Int32} (g1 : z_fit 3 y0) (kk : Q (some (.int y0)) S I J) : Go d i_X12_isSet 16 [.ref h0, .int x1, .int x2] [.int y0] S I J Q := by
  have h := (And.intro g1 kk)
  exact Go.n tb_X12_isSet 1 h
theorem w_X12_has {d : Nat} {S : zS} {I : zI} {J : zJ} {Q : zQ} {x0 : Int32} {x1 : Int32} (h : Go d i_X12_has 0 [.int x0, .int x1] [] S I J Q) : z_wp (d + 1) i_X12_has [.int x0, .int x1] S I J Q := Go.wp (Nat.le_of_ble_eq_true rfl) h
theorem e_X12_has {d : Nat} {S S2 : zS} {I I2 : zI} {J J2 : zJ} {r : Option Value} {x0 : Int32} {x1 : Int32} (h : Go d i_X12_has 0 [.int x0, .int x1] [] S I J (z_eq r S2 I2 J2)) : z_ev (d + 1) i_X12_has [.int x0, .int x1] S I J r S2 I2 J2 := Go.ev (Nat.le_of_ble_eq_true rfl) h
theorem b_X12_has_0 {d : Nat} {S : zS} {I : zI} {J : zJ} {Q : zQ} {x0 : Int32} {x1 : Int32} (kt : ¬ ((x0 >>> (x1 &&& 31)) &&& (1 : Int32)) = (1 : Int32) → Go d i_X12_has 13 [.int x0, .int x1] [] S I J Q) (kf : ((x0 >>> (x1 &&& 31)) &&& (1 : Int32)) = (1 : Int32) → Go d i_X12_has 9 [.int x0, .int x1] [] S I J Q) : Go d i_X12_has 0 [.int x0, .int x1] [] S I J Q := by
  have h := (Go.eti kt kf)
  exact Go.n tb_X12_has 7 h
theorem b_X12_has_9 {d : Nat} {S : zS} {I : zI} {J : zJ} {Q : zQ} {x0 : Int32} {x1 : Int32} (g1 : z_fit 3 (1 : Int32)) (kk : Q (some (.int (1 : Int32))) S I J) : Go d i_X12_has 9 [.int x0, .int x1] [] S I J Q := by
  have h := (And.intro g1 kk)
  exact Go.n tb_X12_has 3 h
theorem b_X12_has_13 {d : Nat} {S : zS} {I : zI} {J : zJ} {Q : zQ} {x0 : Int32} {x1 : Int32} (g1 : z_fit 3 (0 : Int32)) (kk : Q (some (.int (0 : Int32))) S I J) : Go d i_X12_has 13 [.int x0, .int x1] [] S I J Q := by
  have h := (And.intro g1 kk)
  exact Go.n tb_X12_has 2 h
theorem w_X12_productAt {d : Nat} {S : zS} {I : zI} {J : zJ} {Q : zQ} {h0 : Nat} {x1 : Int32} {x2 : Int32} {x3 : Int32} (h : Go d i_X12_productAt 0 [.ref h0, .int x1, .int x2, .int x3] [] S I J Q) : z_wp (d + 1) i_X12_productAt [.ref h0, .int x1, .int x2, .int x3] S I J Q := Go.wp (Nat.le_of_ble_eq_true rfl) h
theorem e_X12_productAt {d : Nat} {S S2 : zS} {I I2 : zI} {J J2 : zJ} {r : Option Value} {h0 : Nat} {x1 : Int32} {x2 : Int32} {x3 : Int32} (h : Go d i_X12_productAt 0 [.ref h0, .int x1, .int x2, .int x3] [] S I J (z_eq r S2 I2 J2)) : z_ev (d + 1) i_X12_productAt [.ref h0, .int x1, .int x2, .int x3] S I J r S2 I2 J2 := Go.ev (Nat.le_of_ble_eq_true rfl) h
theorem b_X12_productAt_0 {d : Nat} {S : zS} {I : zI} {J : zJ} {Q : zQ} {h0 : Nat} {x1 : Int32} {x2 : Int32} {x3 : Int32} (g1 : z_kd S h0 = 13) (g2 : z_isI (z_kd S (z_rv S h0 0)) = true ∧ vp_in (((x1 + (265 : Int32)) + ((20 : Int32) * x2)) + x3) (z_ln S (z_rv S h0 0))) (kk : Q (some (.int (I (z_rv S h0 0) (Int32.toNatClampNeg (((x1 + (265 : Int32)) + ((20 : Int32) * x2)) + x3))))) S I J) : Go d i_X12_productAt 0 [.ref h0, .int x1, .int x2, .int x3] [] S I J Q := by
  have h := (And.intro g1 (And.intro g2 (And.intro trivial kk)))
  exact Go.n tb_X12_productAt 13 h
theorem w_X12_times {d : Nat} {S : zS} {I : zI} {J : zJ} {Q : zQ} {h0 : Nat} {x1 : Int32} {x2 : Int32} {x3 : Int32} (h : Go d i_X12_times 0 [.ref h0, .int x1, .int x2, .int x3] [] S I J Q) : z_wp (d + 1) i_X12_times [.ref h0, .int x1, .int x2, .int x3] S I J Q := Go.wp (Nat.le_of_ble_eq_true rfl) h
theorem e_X12_times {d : Nat} {S S2 : zS} {I I2 : zI} {J J2 : zJ} {r : Option Value} {h0 : Nat} {x1 : Int32} {x2 : Int32} {x3 : Int32} (h : Go d i_X12_times 0 [.ref h0, .int x1, .int x2, .int x3] [] S I J (z_eq r S2 I2 J2)) : z_ev (d + 1) i_X12_times [.ref h0, .int x1, .int x2, .int x3] S I J r S2 I2 J2 := Go.ev (Nat.le_of_ble_eq_true rfl) h
theorem b_X12_times_0 {d : Nat} {S : zS} {I : zI} {J : zJ} {Q : zQ} {h0 : Nat} {x1 : Int32} {x2 : Int32} {x3 : Int32} (g1 : z_kd S h0 = 13) (kk : z_wp d i_X12_productAt [.ref h0, .int ((665 : Int32) * x1), .int x2, .int x3] S I J (fun vv SS II JJ => Go d i_X12_times 11 [.ref h0, .int x1, .int x2, .int x3] (vv.toList ++ []) SS II JJ Q)) : Go d i_X12_times 0 [.ref h0, .int x1, .int x2, .int x3] [] S I J Q := by
  have h := (And.intro g1 kk)
  exact Go.n tb_X12_times 7 h
theorem b_X12_times_11 {d : Nat} {S : zS} {I : zI} {J : zJ} {Q : zQ} {h0 : Nat} {x1 : Int32} {x2 : Int32} {x3 : Int32} {y0 : Int32} (kk : Q (some (.int y0)) S I J) : Go d i_X12_times 11 [.ref h0, .int x1, .int x2, .int x3] [.int y0] S I J Q := by
  have h := (And.intro trivial kk)
  exact Go.n tb_X12_times 1 h
theorem w_X12_inverse {d : Nat} {S : zS} {I : zI} {J : zJ} {Q : zQ} {h0 : Nat} {x1 : Int32} {x2 : Int32} (h : Go d i_X12_inverse 0 [.ref h0, .int x1, .int x2, .retAddr 0] [] S I J Q) : z_wp (d + 1) i_X12_inverse [.ref h0, .int x1, .int x2] S I J Q := Go.wp (Nat.le_of_ble_eq_true rfl) h
theorem e_X12_inverse {d : Nat} {S S2 : zS} {I I2 : zI} {J J2 : zJ} {r : Option Value} {h0 : Nat} {x1 : Int32} {x2 : Int32} (h : Go d i_X12_inverse 0 [.ref h0, .int x1, .int x2, .retAddr 0] [] S I J (z_eq r S2 I2 J2)) : z_ev (d + 1) i_X12_inverse [.ref h0, .int x1, .int x2] S I J r S2 I2 J2 := Go.ev (Nat.le_of_ble_eq_true rfl) h
theorem b_X12_inverse_0 {d : Nat} {S : zS} {I : zI} {J : zJ} {Q : zQ} {h0 : Nat} {x1 : Int32} {x2 : Int32} {v3 : Value} (kk : Go d i_X12_inverse 2 [.ref h0, .int x1, .int x2, .int (0 : Int32)] [] S I J Q) : Go d i_X12_inverse 0 [.ref h0, .int x1, .int x2, v3] [] S I J Q := by
  have h := kk
  exact Go.n tb_X12_inverse 2 h
theorem b_X12_inverse_2 {d : Nat} {S : zS} {I : zI} {J : zJ} {Q : zQ} {h0 : Nat} {x1 : Int32} {x2 : Int32} {x3 : Int32} (g1 : z_kd S h0 = 13) (kk : z_wp d i_X12_productAt [.ref h0, .int x1, .int x2, .int x3] S I J (fun vv SS II JJ => Go d i_X12_inverse 9 [.ref h0, .int x1, .int x2, .int x3] (vv.toList ++ []) SS II JJ Q)) : Go d i_X12_inverse 2 [.ref h0, .int x1, .int x2, .int x3] [] S I J Q := by
  have h := (And.intro g1 kk)
  exact Go.n tb_X12_inverse 5 h
theorem b_X12_inverse_9 {d : Nat} {S : zS} {I : zI} {J : zJ} {Q : zQ} {h0 : Nat} {x1 : Int32} {x2 : Int32} {x3 : Int32} {y0 : Int32} (kt : y0 = (0 : Int32) → Go d i_X12_inverse 18 [.ref h0, .int x1, .int x2, .int x3] [] S I J Q) (kf : ¬ y0 = (0 : Int32) → Go d i_X12_inverse 12 [.ref h0, .int x1, .int x2, .int x3] [] S I J Q) : Go d i_X12_inverse 9 [.ref h0, .int x1, .int x2, .int x3] [.int y0] S I J Q := by
  have h := (Go.ite kt kf)
  exact Go.n tb_X12_inverse 1 h
theorem b_X12_inverse_12 {d : Nat} {S : zS} {I : zI} {J : zJ} {Q : zQ} {h0 : Nat} {x1 : Int32} {x2 : Int32} {x3 : Int32} (kk : Go d i_X12_inverse 2 [.ref h0, .int x1, .int x2, .int (x3 + (1 : Int32))] [] S I J Q) : Go d i_X12_inverse 12 [.ref h0, .int x1, .int x2, .int x3] [] S I J Q := by
  have h := kk
  exact Go.n tb_X12_inverse 2 h
theorem b_X12_inverse_18 {d : Nat} {S : zS} {I : zI} {J : zJ} {Q : zQ} {h0 : Nat} {x1 : Int32} {x2 : Int32} {x3 : Int32} (kk : Q (some (.int x3)) S I J) : Go d i_X12_inverse 18 [.ref h0, .int x1, .int x2, .int x3] [] S I J Q := by
  have h := (And.intro trivial kk)
  exact Go.n tb_X12_inverse 2 h
theorem w_X12_undoing {d : Nat} {S : zS} {I : zI} {J : zJ} {Q : zQ} {h0 : Nat} {x1 : Int32} {x2 : Int32} (h : Go d i_X12_undoing 0 [.ref h0, .int x1, .int x2, .retAddr 0, .retAddr 0] [] S I J Q) : z_wp (d + 1) i_X12_undoing [.ref h0, .int x1, .int x2] S I J Q := Go.wp (Nat.le_of_ble_eq_true rfl) h
theorem e_X12_undoing {d : Nat} {S S2 : zS} {I I2 : zI} {J J2 : zJ} {r : Option Value} {h0 : Nat} {x1 : Int32} {x2 : Int32} (h : Go d i_X12_undoing 0 [.ref h0, .int x1, .int x2, .retAddr 0, .retAddr 0] [] S I J (z_eq r S2 I2 J2)) : z_ev (d + 1) i_X12_undoing [.ref h0, .int x1, .int x2] S I J r S2 I2 J2 := Go.ev (Nat.le_of_ble_eq_true rfl) h
theorem b_X12_undoing_0 {d : Nat} {S : zS} {I : zI} {J : zJ} {Q : zQ} {h0 : Nat} {x1 : Int32} {x2 : Int32} {v3 : Value} {v4 : Value} (kk : Go d i_X12_undoing 5 [.ref h0, .int x1, .int x2, .int (0 : Int32), .int (0 : Int32)] [] S I J Q) : Go d i_X12_undoing 0 [.ref h0, .int x1, .int x2, v3, v4] [] S I J Q := by
  have h := kk
  exact Go.n tb_X12_undoing 4 h
theorem b_X12_undoing_5 {d : Nat} {S : zS} {I : zI} {J : zJ} {Q : zQ} {h0 : Nat} {x1 : Int32} {x2 : Int32} {x3 : Int32} {x4 : Int32} (g1 : z_kd S h0 = 13) (g2 : z_isI (z_kd S (z_rv S h0 0)) = true ∧ vp_in (x1 + (0 : Int32)) (z_ln S (z_rv S h0 0))) (kt : (I (z_rv S h0 0) (Int32.toNatClampNeg (x1 + (0 : Int32)))) ≤ x4 → Go d i_X12_undoing 49 [.ref h0, .int x1, .int x2, .int x3, .int x4] [] S I J Q) (kf : ¬ (I (z_rv S h0 0) (Int32.toNatClampNeg (x1 + (0 : Int32)))) ≤ x4 → Go d i_X12_undoing 18 [.ref h0, .int x1, .int x2, .int x3, .int x4] [] S I J Q) : Go d i_X12_undoing 5 [.ref h0, .int x1, .int x2, .int x3, .int x4] [] S I J Q := by
  have h := (And.intro g1 (And.intro g2 (Go.ite kt kf)))
  exact Go.n tb_X12_undoing 8 h
theorem b_X12_undoing_18 {d : Nat} {S : zS} {I : zI} {J : zJ} {Q : zQ} {h0 : Nat} {x1 : Int32} {x2 : Int32} {x3 : Int32} {x4 : Int32} (kk : z_wp d i_X12_has [.int x2, .int x4] S I J (fun vv SS II JJ => Go d i_X12_undoing 25 [.ref h0, .int x1, .int x2, .int x3, .int x4] (vv.toList ++ [.int x3]) SS II JJ Q)) : Go d i_X12_undoing 18 [.ref h0, .int x1, .int x2, .int x3, .int x4] [] S I J Q := by
  have h := (And.intro trivial kk)
  exact Go.n tb_X12_undoing 4 h
theorem b_X12_undoing_25 {d : Nat} {S : zS} {I : zI} {J : zJ} {Q : zQ} {h0 : Nat} {x1 : Int32} {x2 : Int32} {x3 : Int32} {x4 : Int32} {y0 : Int32} {y1 : Int32} (kt : y1 = (0 : Int32) → Go d i_X12_undoing 40 [.ref h0, .int x1, .int x2, .int x3, .int x4] [.int y0] S I J Q) (kf : ¬ y1 = (0 : Int32) → Go d i_X12_undoing 28 [.ref h0, .int x1, .int x2, .int x3, .int x4] [.int y0] S I J Q) : Go d i_X12_undoing 25 [.ref h0, .int x1, .int x2, .int x3, .int x4] [.int y1, .int y0] S I J Q := by
  have h := (Go.ite kt kf)
  exact Go.n tb_X12_undoing 1 h
theorem b_X12_undoing_28 {d : Nat} {S : zS} {I : zI} {J : zJ} {Q : zQ} {h0 : Nat} {x1 : Int32} {x2 : Int32} {x3 : Int32} {x4 : Int32} {y0 : Int32} (g1 : z_kd S h0 = 13) (kk : z_wp d i_X12_inverse [.ref h0, .int x1, .int x4] S I J (fun vv SS II JJ => Go d i_X12_undoing 36 [.ref h0, .int x1, .int x2, .int x3, .int x4] (vv.toList ++ [.int (1 : Int32), .int y0]) SS II JJ Q)) : Go d i_X12_undoing 28 [.ref h0, .int x1, .int x2, .int x3, .int x4] [.int y0] S I J Q := by
  have h := (And.intro g1 kk)
  exact Go.n tb_X12_undoing 5 h
theorem b_X12_undoing_36 {d : Nat} {S : zS} {I : zI} {J : zJ} {Q : zQ} {h0 : Nat} {x1 : Int32} {x2 : Int32} {x3 : Int32} {x4 : Int32} {y0 : Int32} {y1 : Int32} {y2 : Int32} (kk : Go d i_X12_undoing 5 [.ref h0, .int x1, .int x2, .int (y0 ||| (y1 <<< (y2 &&& 31))), .int (x4 + (1 : Int32))] [] S I J Q) : Go d i_X12_undoing 36 [.ref h0, .int x1, .int x2, .int x3, .int x4] [.int y2, .int y1, .int y0] S I J Q := by
  have h := kk
  exact Go.n tb_X12_undoing 6 h
theorem b_X12_undoing_40 {d : Nat} {S : zS} {I : zI} {J : zJ} {Q : zQ} {h0 : Nat} {x1 : Int32} {x2 : Int32} {x3 : Int32} {x4 : Int32} {y0 : Int32} (kk : Go d i_X12_undoing 5 [.ref h0, .int x1, .int x2, .int (y0 ||| (0 : Int32)), .int (x4 + (1 : Int32))] [] S I J Q) : Go d i_X12_undoing 40 [.ref h0, .int x1, .int x2, .int x3, .int x4] [.int y0] S I J Q := by
  have h := kk
  exact Go.n tb_X12_undoing 5 h
theorem b_X12_undoing_49 {d : Nat} {S : zS} {I : zI} {J : zJ} {Q : zQ} {h0 : Nat} {x1 : Int32} {x2 : Int32} {x3 : Int32} {x4 : Int32} (kk : Q (some (.int x3)) S I J) : Go d i_X12_undoing 49 [.ref h0, .int x1, .int x2, .int x3, .int x4] [] S I J Q := by
  have h := (And.intro trivial kk)
  exact Go.n tb_X12_undoing 2 h
theorem w_X12_step {d : Nat} {S : zS} {I : zI} {J : zJ} {Q : zQ} {h0 : Nat} {x1 : Int32} {x2 : Int32} (h : Go d i_X12_step 0 [.ref h0, .int x1, .int x2] [] S I J Q) : z_wp (d + 1) i_X12_step [.ref h0, .int x1, .int x2] S I J Q := Go.wp (Nat.le_of_ble_eq_true rfl) h
theorem e_X12_step {d : Nat} {S S2 : zS} {I I2 : zI} {J J2 : zJ} {r : Option Value} {h0 : Nat} {x1 : Int32} {x2 : Int32} (h : Go d i_X12_step 0 [.ref h0, .int x1, .int x2] [] S I J (z_eq r S2 I2 J2)) : z_ev (d + 1) i_X12_step [.ref h0, .int x1, .int x2] S I J r S2 I2 J2 := Go.ev (Nat.le_of_ble_eq_true rfl) h
theorem b_X12_step_0 {d : Nat} {S : zS} {I : zI} {J : zJ} {Q : zQ} {h0 : Nat} {x1 : Int32} {x2 : Int32} (g1 : z_kd S h0 = 13) (g2 : z_kd S h0 = 13) (kk : z_wp d i_X12_isElement [.ref h0, .int x1, .int x2] S (z_u2 I h0 1 (0 : Int32)) J (fun vv SS II JJ => Go d i_X12_step 11 [.ref h0, .int x1, .int x2] (vv.toList ++ []) SS II JJ Q)) : Go d i_X12_step 0 [.ref h0, .int x1, .int x2] [] S I J Q := by
  have h := (And.intro g1 (And.intro g2 kk))
  exact Go.n tb_X12_step 7 h
theorem b_X12_step_11 {d : Nat} {S : zS} {I : zI} {J : zJ} {Q : zQ} {h0 : Nat} {x1 : Int32} {x2 : Int32} {y0 : Int32} (kt : y0 = (0 : Int32) → Go d i_X12_step 18 [.ref h0, .int x1, .int x2] [] S I J Q) (kf : ¬ y0 = (0 : Int32) → Go d i_X12_step 14 [.ref h0, .int x1, .int x2] [] S I J Q) : Go d i_X12_step 11 [.ref h0, .int x1, .int x2] [.int y0] S I J Q := by
  have h := (Go.ite kt kf)
  exact Go.n tb_X12_step 1 h
theorem b_X12_step_14 {d : Nat} {S : zS} {I : zI} {J : zJ} {Q : zQ} {h0 : Nat} {x1 : Int32} {x2 : Int32} (kt : ¬ x2 = (0 : Int32) → Go d i_X12_step 21 [.ref h0, .int x1, .int x2] [] S I J Q) (kf : x2 = (0 : Int32) → Go d i_X12_step 18 [.ref h0, .int x1, .int x2] [] S I J Q) : Go d i_X12_step 14 [.ref h0, .int x1, .int x2] [] S I J Q := by
  have h := (Go.eti kt kf)
  exact Go.n tb_X12_step 2 h
theorem b_X12_step_18 {d : Nat} {S : zS} {I : zI} {J : zJ} {Q : zQ} {h0 : Nat} {x1 : Int32} {x2 : Int32} (kk : Q (some (.int (-2 : Int32))) S I J) : Go d i_X12_step 18 [.ref h0, .int x1, .int x2] [] S I J Q := by
  have h := (And.intro trivial kk)
  exact Go.n tb_X12_step 2 h
theorem b_X12_step_21 {d : Nat} {S : zS} {I : zI} {J : zJ} {Q : zQ} {h0 : Nat} {x1 : Int32} {x2 : Int32} (g1 : z_kd S h0 = 13) (kk : z_wp d i_X12_keeps [.ref h0, .int x1] S I J (fun vv SS II JJ => Go d i_X12_step 26 [.ref h0, .int x1, .int x2] (vv.toList ++ []) SS II JJ Q)) : Go d i_X12_step 21 [.ref h0, .int x1, .int x2] [] S I J Q := by
  have h := (And.intro g1 kk)
  exact Go.n tb_X12_step 3 h
theorem b_X12_step_26 {d : Nat} {S : zS} {I : zI} {J : zJ} {Q : zQ} {h0 : Nat} {x1 : Int32} {x2 : Int32} {I1 : zI} (g1 : z_kd S h0 = 13) (g2 : z_isI (z_kd S (z_rv S h0 0)) = true ∧ vp_in (((665 : Int32) * x1) + (1 : Int32)) (z_ln S (z_rv S h0 0))) (g3 : z_kd S (z_rv S h0 0) = 100 ∧ vp_in (((665 : Int32) * x1) + (1 : Int32)) (z_ln S (z_rv S h0 0))) (eI1 : I1 = z_u2 I (z_rv S h0 0) (Int32.toNatClampNeg (((665 : Int32) * x1) + (1 : Int32))) ((I (z_rv S h0 0) (Int32.toNatClampNeg (((665 : Int32) * x1) + (1 : Int32)))) ^^^ ((1 : Int32) <<< (x2 &&& 31)))) (g5 : z_kd S h0 = 13) (kk : z_wp d i_X12_steps [.ref h0, .int x1] S I1 J (fun vv SS II JJ => Go d i_X12_step 49 [.ref h0, .int x1, .int x2] (vv.toList ++ []) SS II JJ Q)) : Go d i_X12_step 26 [.ref h0, .int x1, .int x2] [] S I J Q := by
  subst eI1
  have h := (And.intro g1 (And.intro g2 (And.intro g3 (And.intro g5 kk))))
  exact Go.n tb_X12_step 17 h
theorem b_X12_step_49 {d : Nat} {S : zS} {I : zI} {J : zJ} {Q : zQ} {h0 : Nat} {x1 : Int32} {x2 : Int32} {y0 : Int32} (kk : z_wp d i_X12_has [.int y0, .int x2] S I J (fun vv SS II JJ => Go d i_X12_step 53 [.ref h0, .int x1, .int x2] (vv.toList ++ []) SS II JJ Q)) : Go d i_X12_step 49 [.ref h0, .int x1, .int x2] [.int y0] S I J Q := by
  have h := (And.intro trivial kk)
  exact Go.n tb_X12_step 2 h
theorem b_X12_step_53 {d : Nat} {S : zS} {I : zI} {J : zJ} {Q : zQ} {h0 : Nat} {x1 : Int32} {x2 : Int32} {y0 : Int32} (kt : y0 = (0 : Int32) → Go d i_X12_step 60 [.ref h0, .int x1, .int x2] [] S I J Q) (kf : ¬ y0 = (0 : Int32) → Go d i_X12_step 56 [.ref h0, .int x1, .int x2] [] S I J Q) : Go d i_X12_step 53 [.ref h0, .int x1, .int x2] [.int y0] S I J Q := by
  have h := (Go.ite kt kf)
  exact Go.n tb_X12_step 1 h
theorem b_X12_step_56 {d : Nat} {S : zS} {I : zI} {J : zJ} {Q : zQ} {h0 : Nat} {x1 : Int32} {x2 : Int32} (kk : Q (some (.int (1 : Int32))) S I J) : Go d i_X12_step 56 [.ref h0, .int x1, .int x2] [] S I J Q := by
  have h := (And.intro trivial kk)
  exact Go.n tb_X12_step 3 h
theorem b_X12_step_60 {d : Nat} {S : zS} {I : zI} {J : zJ} {Q : zQ} {h0 : Nat} {x1 : Int32} {x2 : Int32} (kk : Q (some (.int (0 : Int32))) S I J) : Go d i_X12_step 60 [.ref h0, .int x1, .int x2] [] S I J Q := by
  have h := (And.intro trivial kk)
  exact Go.n tb_X12_step 2 h
theorem w_X12_bits {d : Nat} {S : zS} {I : zI} {J : zJ} {Q : zQ} {x0 : Int32} (h : Go d i_X12_bits 0 [.int x0] [] S I J Q) : z_wp (d + 1) i_X12_bits [.int x0] S I J Q := Go.wp (Nat.le_of_ble_eq_true rfl) h
theorem e_X12_bits {d : Nat} {S S2 : zS} {I I2 : zI} {J J2 : zJ} {r : Option Value} {x0 : Int32} (h : Go d i_X12_bits 0 [.int x0] [] S I J (z_eq r S2 I2 J2)) : z_ev (d + 1) i_X12_bits [.int x0] S I J r S2 I2 J2 := Go.ev (Nat.le_of_ble_eq_true rfl) h
theorem b_X12_bits_0 {d : Nat} {S : zS} {I : zI} {J : zJ} {Q : zQ} {x0 : Int32} (kk : z_wp d i_J6_bitCount_0f7a4 [.int x0] S I J (fun vv SS II JJ => Go d i_X12_bits 4 [.int x0] (vv.toList ++ []) SS II JJ Q)) : Go d i_X12_bits 0 [.int x0] [] S I J Q := by
  have h := (And.intro trivial kk)
  exact Go.n tb_X12_bits 2 h
theorem b_X12_bits_4 {d : Nat} {S : zS} {I : zI} {J : zJ} {Q : zQ} {x0 : Int32} {y0 : Int32} (kk : Q (some (.int y0)) S I J) : Go d i_X12_bits 4 [.int x0] [.int y0] S I J Q := by
  have h := (And.intro trivial kk)
  exact Go.n tb_X12_bits 1 h
theorem w_X12_both {d : Nat} {S : zS} {I : zI} {J : zJ} {Q : zQ} {h0 : Nat} {x1 : Int32} (h : Go d i_X12_both 0 [.ref h0, .int x1] [] S I J Q) : z_wp (d + 1) i_X12_both [.ref h0, .int x1] S I J Q := Go.wp (Nat.le_of_ble_eq_true rfl) h
theorem e_X12_both {d : Nat} {S S2 : zS} {I I2 : zI} {J J2 : zJ} {r : Option Value} {h0 : Nat} {x1 : Int32} (h : Go d i_X12_both 0 [.ref h0, .int x1] [] S I J (z_eq r S2 I2 J2)) : z_ev (d + 1) i_X12_both [.ref h0, .int x1] S I J r S2 I2 J2 := Go.ev (Nat.le_of_ble_eq_true rfl) h
theorem b_X12_both_0 {d : Nat} {S : zS} {I : zI} {J : zJ} {Q : zQ} {h0 : Nat} {x1 : Int32} (g1 : z_kd S h0 = 13) (kk : z_wp d i_X12_isSlot [.int x1] S (z_u2 I h0 1 (0 : Int32)) J (fun vv SS II JJ => Go d i_X12_both 9 [.ref h0, .int x1] (vv.toList ++ []) SS II JJ Q)) : Go d i_X12_both 0 [.ref h0, .int x1] [] S I J Q := by
  have h := (And.intro g1 (And.intro trivial kk))
  exact Go.n tb_X12_both 5 h
theorem b_X12_both_9 {d : Nat} {S : zS} {I : zI} {J : zJ} {Q : zQ} {h0 : Nat} {x1 : Int32} {y0 : Int32} (kt : ¬ y0 = (0 : Int32) → Go d i_X12_both 15 [.ref h0, .int x1] [] S I J Q) (kf : y0 = (0 : Int32) → Go d i_X12_both 12 [.ref h0, .int x1] [] S I J Q) : Go d i_X12_both 9 [.ref h0, .int x1] [.int y0] S I J Q := by
  have h := (Go.eti kt kf)
  exact Go.n tb_X12_both 1 h
theorem b_X12_both_12 {d : Nat} {S : zS} {I : zI} {J : zJ} {Q : zQ} {h0 : Nat} {x1 : Int32} (kk : Q (some (.int (-2 : Int32))) S I J) : Go d i_X12_both 12 [.ref h0, .int x1] [] S I J Q := by
  have h := (And.intro trivial kk)
  exact Go.n tb_X12_both 2 h
theorem b_X12_both_15 {d : Nat} {S : zS} {I : zI} {J : zJ} {Q : zQ} {h0 : Nat} {x1 : Int32} (g1 : z_kd S h0 = 13) (kk : z_wp d i_X12_keeps [.ref h0, .int x1] S I J (fun vv SS II JJ => Go d i_X12_both 20 [.ref h0, .int x1] (vv.toList ++ []) SS II JJ Q)) : Go d i_X12_both 15 [.ref h0, .int x1] [] S I J Q := by
  have h := (And.intro g1 kk)
  exact Go.n tb_X12_both 3 h
theorem b_X12_both_20 {d : Nat} {S : zS} {I : zI} {J : zJ} {Q : zQ} {h0 : Nat} {x1 : Int32} (g1 : z_kd S h0 = 13) (g2 : z_isI (z_kd S (z_rv S h0 0)) = true ∧ vp_in (((665 : Int32) * x1) + (1 : Int32)) (z_ln S (z_rv S h0 0))) (g3 : z_kd S h0 = 13) (kk : z_wp d i_X12_steps [.ref h0, .int x1] S I J (fun vv SS II JJ => Go d i_X12_both 44 [.ref h0, .int x1] (vv.toList ++ [.int ((665 : Int32) * x1), .ref h0, .int (I (z_rv S h0 0) (Int32.toNatClampNeg (((665 : Int32) * x1) + (1 : Int32)))), .int (((665 : Int32) * x1) + (1 : Int32)), .ref (z_rv S h0 0)]) SS II JJ Q)) : Go d i_X12_both 20 [.ref h0, .int x1] [] S I J Q := by
  have h := (And.intro g1 (And.intro g2 (And.intro g3 kk)))
  exact Go.n tb_X12_both 16 h
theorem b_X12_both_44 {d : Nat} {S : zS} {I : zI} {J : zJ} {Q : zQ} {h0 : Nat} {x1 : Int32} {q0 : Nat} {y1 : Int32} {y2 : Int32} {q3 : Nat} {y4 : Int32} {y5 : Int32} (g1 : z_kd S q3 = 13) (kk : z_wp d i_X12_undoing [.ref q3, .int y4, .int y5] S I J (fun vv SS II JJ => Go d i_X12_both 47 [.ref h0, .int x1] (vv.toList ++ [.int y2, .int y1, .ref q0]) SS II JJ Q)) : Go d i_X12_both 44 [.ref h0, .int x1] [.int y5, .int y4, .ref q3, .int y2, .int y1, .ref q0] S I J Q := by
  have h := (And.intro g1 kk)
  exact Go.n tb_X12_both 1 h
theorem b_X12_both_47 {d : Nat} {S : zS} {I : zI} {J : zJ} {Q : zQ} {h0 : Nat} {x1 : Int32} {q0 : Nat} {y1 : Int32} {y2 : Int32} {y3 : Int32} (g1 : z_kd S q0 = 100 ∧ vp_in y1 (z_ln S q0)) (g2 : z_kd S h0 = 13) (kk : z_wp d i_X12_steps [.ref h0, .int x1] S (z_u2 I q0 (Int32.toNatClampNeg y1) (y2 ||| y3)) J (fun vv SS II JJ => Go d i_X12_both 54 [.ref h0, .int x1] (vv.toList ++ []) SS II JJ Q)) : Go d i_X12_both 47 [.ref h0, .int x1] [.int y3, .int y2, .int y1, .ref q0] S I J Q := by
  have h := (And.intro g1 (And.intro g2 kk))
  exact Go.n tb_X12_both 5 h
theorem b_X12_both_54 {d : Nat} {S : zS} {I : zI} {J : zJ} {Q : zQ} {h0 : Nat} {x1 : Int32} {y0 : Int32} (kk : z_wp d i_X12_bits [.int y0] S I J (fun vv SS II JJ => Go d i_X12_both 57 [.ref h0, .int x1] (vv.toList ++ []) SS II JJ Q)) : Go d i_X12_both 54 [.ref h0, .int x1] [.int y0] S I J Q := by
  have h := (And.intro trivial kk)
  exact Go.n tb_X12_both 1 h
theorem b_X12_both_57 {d : Nat} {S : zS} {I : zI} {J : zJ} {Q : zQ} {h0 : Nat} {x1 : Int32} {y0 : Int32} (kk : Q (some (.int y0)) S I J) : Go d i_X12_both 57 [.ref h0, .int x1] [.int y0] S I J Q := by
  have h := (And.intro trivial kk)
  exact Go.n tb_X12_both 1 h
theorem w_X12_products {d : Nat} {S : zS} {I : zI} {J : zJ} {Q : zQ} {h0 : Nat} {x1 : Int32} {x2 : Int32} {x3 : Int32} (h : Go d i_X12_products 0 [.ref h0, .int x1, .int x2, .int x3, .retAddr 0, .retAddr 0, .retAddr 0] [] S I J Q) : z_wp (d + 1) i_X12_products [.ref h0, .int x1, .int x2, .int x3] S I J Q := Go.wp (Nat.le_of_ble_eq_true rfl) h
theorem e_X12_products {d : Nat} {S S2 : zS} {I I2 : zI} {J J2 : zJ} {r : Option Value} {h0 : Nat} {x1 : Int32} {x2 : Int32} {x3 : Int32} (h : Go d i_X12_products 0 [.ref h0, .int x1, .int x2, .int x3, .retAddr 0, .retAddr 0, .retAddr 0] [] S I J (z_eq r S2 I2 J2)) : z_ev (d + 1) i_X12_products [.ref h0, .int x1, .int x2, .int x3] S I J r S2 I2 J2 := Go.ev (Nat.le_of_ble_eq_true rfl) h
theorem b_X12_products_0 {d : Nat} {S : zS} {I : zI} {J : zJ} {Q : zQ} {h0 : Nat} {x1 : Int32} {x2 : Int32} {x3 : Int32} {v4 : Value} {v5 : Value} {v6 : Value} (kk : Go d i_X12_products 6 [.ref h0, .int x1, .int x2, .int x3, .int (0 : Int32), .int (0 : Int32), v6] [] S I J Q) : Go d i_X12_products 0 [.ref h0, .int x1, .int x2, .int x3, v4, v5, v6] [] S I J Q := by
  have h := kk
  exact Go.n tb_X12_products 4 h
theorem b_X12_products_6 {d : Nat} {S : zS} {I : zI} {J : zJ} {Q : zQ} {h0 : Nat} {x1 : Int32} {x2 : Int32} {x3 : Int32} {x4 : Int32} {x5 : Int32} {v6 : Value} (g1 : z_kd S h0 = 13) (kk : z_wp d i_X12_many [.ref h0, .int x1] S I J (fun vv SS II JJ => Go d i_X12_products 13 [.ref h0, .int x1, .int x2, .int x3, .int x4, .int x5, v6] (vv.toList ++ [.int x5]) SS II JJ Q)) : Go d i_X12_products 6 [.ref h0, .int x1, .int x2, .int x3, .int x4, .int x5, v6] [] S I J Q := by
  have h := (And.intro g1 kk)
  exact Go.n tb_X12_products 4 h
theorem b_X12_products_13 {d : Nat} {S : zS} {I : zI} {J : zJ} {Q : zQ} {h0 : Nat} {x1 : Int32} {x2 : Int32} {x3 : Int32} {x4 : Int32} {x5 : Int32} {v6 : Value} {y0 : Int32} {y1 : Int32} (kt : y1 ≤ y0 → Go d i_X12_products 82 [.ref h0, .int x1, .int x2, .int x3, .int x4, .int x5, v6] [] S I J Q) (kf : ¬ y1 ≤ y0 → Go d i_X12_products 16 [.ref h0, .int x1, .int x2, .int x3, .int x4, .int x5, v6] [] S I J Q) : Go d i_X12_products 13 [.ref h0, .int x1, .int x2, .int x3, .int x4, .int x5, v6] [.int y1, .int y0] S I J Q := by
  have h := (Go.ite kt kf)
  exact Go.n tb_X12_products 1 h
theorem b_X12_products_16 {d : Nat} {S : zS} {I : zI} {J : zJ} {Q : zQ} {h0 : Nat} {x1 : Int32} {x2 : Int32} {x3 : Int32} {x4 : Int32} {x5 : Int32} {v6 : Value} (kk : z_wp d i_X12_has [.int x2, .int x5] S I J (fun vv SS II JJ => Go d i_X12_products 22 [.ref h0, .int x1, .int x2, .int x3, .int x4, .int x5, v6] (vv.toList ++ []) SS II JJ Q)) : Go d i_X12_products 16 [.ref h0, .int x1, .int x2, .int x3, .int x4, .int x5, v6] [] S I J Q := by
  have h := (And.intro trivial kk)
  exact Go.n tb_X12_products 3 h
theorem b_X12_products_22 {d : Nat} {S : zS} {I : zI} {J : zJ} {Q : zQ} {h0 : Nat} {x1 : Int32} {x2 : Int32} {x3 : Int32} {x4 : Int32} {x5 : Int32} {v6 : Value} {y0 : Int32} (kt : ¬ y0 = (0 : Int32) → Go d i_X12_products 28 [.ref h0, .int x1, .int x2, .int x3, .int x4, .int x5, v6] [] S I J Q) (kf : y0 = (0 : Int32) → Go d i_X12_products 25 [.ref h0, .int x1, .int x2, .int x3, .int x4, .int x5, v6] [] S I J Q) : Go d i_X12_products 22 [.ref h0, .int x1, .int x2, .int x3, .int x4, .int x5, v6] [.int y0] S I J Q := by
  have h := (Go.eti kt kf)
  exact Go.n tb_X12_products 1 h
theorem b_X12_products_25 {d : Nat} {S : zS} {I : zI} {J : zJ} {Q : zQ} {h0 : Nat} {x1 : Int32} {x2 : Int32} {x3 : Int32} {x4 : Int32} {x5 : Int32} {v6 : Value} (kk : Go d i_X12_products 6 [.ref h0, .int x1, .int x2, .int x3, .int x4, .int (x5 + (1 : Int32)), v6] [] S I J Q) : Go d i_X12_products 25 [.ref h0, .int x1, .int x2, .int x3, .int x4, .int x5, v6] [] S I J Q := by
  have h := kk
  exact Go.n tb_X12_products 3 h
theorem b_X12_products_28 {d : Nat} {S : zS} {I : zI} {J : zJ} {Q : zQ} {h0 : Nat} {x1 : Int32} {x2 : Int32} {x3 : Int32} {x4 : Int32} {x5 : Int32} {v6 : Value} (kk : Go d i_X12_products 31 [.ref h0, .int x1, .int x2, .int x3, .int x4, .int x5, .int (0 : Int32)] [] S I J Q) : Go d i_X12_products 28 [.ref h0, .int x1, .int x2, .int x3, .int x4, .int x5, v6] [] S I J Q := by
  have h := kk
  exact Go.n tb_X12_products 2 h
theorem b_X12_products_31 {d : Nat} {S : zS} {I : zI} {J : zJ} {Q : zQ} {h0 : Nat} {x1 : Int32} {x2 : Int32} {x3 : Int32} {x4 : Int32} {x5 : Int32} {x6 : Int32} (g1 : z_kd S h0 = 13) (kk : z_wp d i_X12_many [.ref h0, .int x1] S I J (fun vv SS II JJ => Go d i_X12_products 38 [.ref h0, .int x1, .int x2, .int x3, .int x4, .int x5, .int x6] (vv.toList ++ [.int x6]) SS II JJ Q)) : Go d i_X12_products 31 [.ref h0, .int x1, .int x2, .int x3, .int x4, .int x5, .int x6] [] S I J Q := by
  have h := (And.intro g1 kk)
  exact Go.n tb_X12_products 4 h
theorem b_X12_products_38 {d : Nat} {S : zS} {I : zI} {J : zJ} {Q : zQ} {h0 : Nat} {x1 : Int32} {x2 : Int32} {x3 : Int32} {x4 : Int32} {x5 : Int32} {x6 : Int32} {y0 : Int32} {y1 : Int32} (kt : y1 ≤ y0 → Go d i_X12_products 76 [.ref h0, .int x1, .int x2, .int x3, .int x4, .int x5, .int x6] [] S I J Q) (kf : ¬ y1 ≤ y0 → Go d i_X12_products 41 [.ref h0, .int x1, .int x2, .int x3, .int x4, .int x5, .int x6] [] S I J Q) : Go d i_X12_products 38 [.ref h0, .int x1, .int x2, .int x3, .int x4, .int x5, .int x6] [.int y1, .int y0] S I J Q := by
  have h := (Go.ite kt kf)
  exact Go.n tb_X12_products 1 h
theorem b_X12_products_41 {d : Nat} {S : zS} {I : zI} {J : zJ} {Q : zQ} {h0 : Nat} {x1 : Int32} {x2 : Int32} {x3 : Int32} {x4 : Int32} {x5 : Int32} {x6 : Int32} (kk : z_wp d i_X12_has [.int x3, .int x6] S I J (fun vv SS II JJ => Go d i_X12_products 49 [.ref h0, .int x1, .int x2, .int x3, .int x4, .int x5, .int x6] (vv.toList ++ [.int x4]) SS II JJ Q)) : Go d i_X12_products 41 [.ref h0, .int x1, .int x2, .int x3, .int x4, .int x5, .int x6] [] S I J Q := by
  have h := (And.intro trivial kk)
  exact Go.n tb_X12_products 4 h
theorem b_X12_products_49 {d : Nat} {S : zS} {I : zI} {J : zJ} {Q : zQ} {h0 : Nat} {x1 : Int32} {x2 : Int32} {x3 : Int32} {x4 : Int32} {x5 : Int32} {x6 : Int32} {y0 : Int32} {y1 : Int32} (kt : y1 = (0 : Int32) → Go d i_X12_products 66 [.ref h0, .int x1, .int x2, .int x3, .int x4, .int x5, .int x6] [.int y0] S I J Q) (kf : ¬ y1 = (0 : Int32) → Go d i_X12_products 52 [.ref h0, .int x1, .int x2, .int x3, .int x4, .int x5, .int x6] [.int y0] S I J Q) : Go d i_X12_products 49 [.ref h0, .int x1, .int x2, .int x3, .int x4, .int x5, .int x6] [.int y1, .int y0] S I J Q := by
  have h := (Go.ite kt kf)
  exact Go.n tb_X12_products 1 h
theorem b_X12_products_52 {d : Nat} {S : zS} {I : zI} {J : zJ} {Q : zQ} {h0 : Nat} {x1 : Int32} {x2 : Int32} {x3 : Int32} {x4 : Int32} {x5 : Int32} {x6 : Int32} {y0 : Int32} (g1 : z_kd S h0 = 13) (kk : z_wp d i_X12_times [.ref h0, .int x1, .int x5, .int x6] S I J (fun vv SS II JJ => Go d i_X12_products 62 [.ref h0, .int x1, .int x2, .int x3, .int x4, .int x5, .int x6] (vv.toList ++ [.int (1 : Int32), .int y0]) SS II JJ Q)) : Go d i_X12_products 52 [.ref h0, .int x1, .int x2, .int x3, .int x4, .int x5, .int x6] [.int y0] S I J Q := by
  have h := (And.intro g1 kk)
  exact Go.n tb_X12_products 6 h
theorem b_X12_products_62 {d : Nat} {S : zS} {I : zI} {J : zJ} {Q : zQ} {h0 : Nat} {x1 : Int32} {x2 : Int32} {x3 : Int32} {x4 : Int32} {x5 : Int32} {x6 : Int32} {y0 : Int32} {y1 : Int32} {y2 : Int32} (kk : Go d i_X12_products 31 [.ref h0, .int x1, .int x2, .int x3, .int (y0 ||| (y1 <<< (y2 &&& 31))), .int x5, .int (x6 + (1 : Int32))] [] S I J Q) : Go d i_X12_products 62 [.ref h0, .int x1, .int x2, .int x3, .int x4, .int x5, .int x6] [.int y2, .int y1, .int y0] S I J Q := by
  have h := kk
  exact Go.n tb_X12_products 6 h
theorem b_X12_products_66 {d : Nat} {S : zS} {I : zI} {J : zJ} {Q : zQ} {h0 : Nat} {x1 : Int32} {x2 : Int32} {x3 : Int32} {x4 : Int32} {x5 : Int32} {x6 : Int32} {y0 : Int32} (kk : Go d i_X12_products 31 [.ref h0, .int x1, .int x2, .int x3, .int (y0 ||| (0 : Int32)), .int x5, .int (x6 + (1 : Int32))] [] S I J Q) : Go d i_X12_products 66 [.ref h0, .int x1, .int x2, .int x3, .int x4, .int x5, .int x6] [.int y0] S I J Q := by
  have h := kk
  exact Go.n tb_X12_products 5 h
theorem b_X12_products_76 {d : Nat} {S : zS} {I : zI} {J : zJ} {Q : zQ} {h0 : Nat} {x1 : Int32} {x2 : Int32} {x3 : Int32} {x4 : Int32} {x5 : Int32} {v6 : Value} (kk : Go d i_X12_products 6 [.ref h0, .int x1, .int x2, .int x3, .int x4, .int (x5 + (1 : Int32)), v6] [] S I J Q) : Go d i_X12_products 76 [.ref h0, .int x1, .int x2, .int x3, .int x4, .int x5, v6] [] S I J Q := by
  have h := kk
  exact Go.n tb_X12_products 2 h
theorem b_X12_products_82 {d : Nat} {S : zS} {I : zI} {J : zJ} {Q : zQ} {h0 : Nat} {x1 : Int32} {x2 : Int32} {x3 : Int32} {x4 : Int32} {x5 : Int32} {v6 : Value} (kk : Q (some (.int x4)) S I J) : Go d i_X12_products 82 [.ref h0, .int x1, .int x2, .int x3, .int x4, .int x5, v6] [] S I J Q := by
  have h := (And.intro trivial kk)
  exact Go.n tb_X12_products 2 h
theorem w_X12_subgroupOf {d : Nat} {S : zS} {I : zI} {J : zJ} {Q : zQ} {h0 : Nat} {x1 : Int32} {x2 : Int32} (h : Go d i_X12_subgroupOf 0 [.ref h0, .int x1, .int x2, .retAddr 0, .retAddr 0] [] S I J Q) : z_wp (d + 1) i_X12_subgroupOf [.ref h0, .int x1, .int x2] S I J Q := Go.wp (Nat.le_of_ble_eq_true rfl) h
theorem e_X12_subgroupOf {d : Nat} {S S2 : zS} {I I2 : zI} {J J2 : zJ} {r : Option Value} {h0 : Nat} {x1 : Int32} {x2 : Int32} (h : Go d i_X12_subgroupOf 0 [.ref h0, .int x1, .int x2, .retAddr 0, .retAddr 0] [] S I J (z_eq r S2 I2 J2)) : z_ev (d + 1) i_X12_subgroupOf [.ref h0, .int x1, .int x2] S I J r S2 I2 J2 := Go.ev (Nat.le_of_ble_eq_true rfl) h
theorem b_X12_subgroupOf_0 {d : Nat} {S : zS} {I : zI} {J : zJ} {Q : zQ} {h0 : Nat} {x1 : Int32} {x2 : Int32} {v3 : Value} {v4 : Value} (kk : Go d i_X12_subgroupOf 5 [.ref h0, .int x1, .int x2, .int (1 : Int32), .int (0 : Int32)] [] S I J Q) : Go d i_X12_subgroupOf 0 [.ref h0, .int x1, .int x2, v3, v4] [] S I J Q := by
  have h := kk
  exact Go.n tb_X12_subgroupOf 4 h
theorem b_X12_subgroupOf_5 {d : Nat} {S : zS} {I : zI} {J : zJ} {Q : zQ} {h0 : Nat} {x1 : Int32} {x2 : Int32} {x3 : Int32} {x4 : Int32} (kt : x4 = x3 → Go d i_X12_subgroupOf 29 [.ref h0, .int x1, .int x2, .int x3, .int x4] [] S I J Q) (kf : ¬ x4 = x3 → Go d i_X12_subgroupOf 11 [.ref h0, .int x1, .int x2, .int x3, .int x4] [] S I J Q) : Go d i_X12_subgroupOf 5 [.ref h0, .int x1, .int x2, .int x3, .int x4] [] S I J Q := by
  have h := (Go.ite kt kf)
  exact Go.n tb_X12_subgroupOf 3 h
theorem b_X12_subgroupOf_11 {d : Nat} {S : zS} {I : zI} {J : zJ} {Q : zQ} {h0 : Nat} {x1 : Int32} {x2 : Int32} {x3 : Int32} {x4 : Int32} (g1 : z_kd S h0 = 13) (kk : z_wp d i_X12_products [.ref h0, .int x1, .int x3, .int (x2 ||| (1 : Int32))] S I J (fun vv SS II JJ => Go d i_X12_subgroupOf 24 [.ref h0, .int x1, .int x2, .int x3, .int x3] (vv.toList ++ [.int x3]) SS II JJ Q)) : Go d i_X12_subgroupOf 11 [.ref h0, .int x1, .int x2, .int x3, .int x4] [] S I J Q := by
  have h := (And.intro g1 kk)
  exact Go.n tb_X12_subgroupOf 10 h
theorem b_X12_subgroupOf_24 {d : Nat} {S : zS} {I : zI} {J : zJ} {Q : zQ} {h0 : Nat} {x1 : Int32} {x2 : Int32} {x3 : Int32} {x4 : Int32} {y0 : Int32} {y1 : Int32} (kk : Go d i_X12_subgroupOf 5 [.ref h0, .int x1, .int x2, .int (y0 ||| y1), .int x4] [] S I J Q) : Go d i_X12_subgroupOf 24 [.ref h0, .int x1, .int x2, .int x3, .int x4] [.int y1, .int y0] S I J Q := by
  have h := kk
  exact Go.n tb_X12_subgroupOf 3 h
theorem b_X12_subgroupOf_29 {d : Nat} {S : zS} {I : zI} {J : zJ} {Q : zQ} {h0 : Nat} {x1 : Int32} {x2 : Int32} {x3 : Int32} {x4 : Int32} (kk : Q (some (.int x3)) S I J) : Go d i_X12_subgroupOf 29 [.ref h0, .int x1, .int x2, .int x3, .int x4] [] S I J Q := by
  have h := (And.intro trivial kk)
  exact Go.n tb_X12_subgroupOf 2 h
theorem w_X12_classBits {d : Nat} {S : zS} {I : zI} {J : zJ} {Q : zQ} {h0 : Nat} {x1 : Int32} {x2 : Int32} (h : Go d i_X12_classBits 0 [.ref h0, .int x1, .int x2, .retAddr 0, .retAddr 0] [] S I J Q) : z_wp (d + 1) i_X12_classBits [.ref h0, .int x1, .int x2] S I J Q := Go.wp (Nat.le_of_ble_eq_true rfl) h
theorem e_X12_classBits {d : Nat} {S S2 : zS} {I I2 : zI} {J J2 : zJ} {r : Option Value} {h0 : Nat} {x1 : Int32} {x2 : Int32} (h : Go d i_X12_classBits 0 [.ref h0, .int x1, .int x2, .retAddr 0, .retAddr 0] [] S I J (z_eq r S2 I2 J2)) : z_ev (d + 1) i_X12_classBits [.ref h0, .int x1, .int x2] S I J r S2 I2 J2 := Go.ev (Nat.le_of_ble_eq_true rfl) h
theorem b_X12_classBits_0 {d : Nat} {S : zS} {I : zI} {J : zJ} {Q : zQ} {h0 : Nat} {x1 : Int32} {x2 : Int32} {v3 : Value} {v4 : Value} (kk : Go d i_X12_classBits 5 [.ref h0, .int x1, .int x2, .int (0 : Int32), .int (0 : Int32)] [] S I J Q) : Go d i_X12_classBits 0 [.ref h0, .int x1, .int x2, v3, v4] [] S I J Q := by
  have h := kk
  exact Go.n tb_X12_classBits 4 h
theorem b_X12_classBits_5 {d : Nat} {S : zS} {I : zI} {J : zJ} {Q : zQ} {h0 : Nat} {x1 : Int32} {x2 : Int32} {x3 : Int32} {x4 : Int32} (g1 : z_kd S h0 = 13) (kk : z_wp d i_X12_many [.ref h0, .int x1] S I J (fun vv SS II JJ => Go d i_X12_classBits 12 [.ref h0, .int x1, .int x2, .int x3, .int x4] (vv.toList ++ [.int x4]) SS II JJ Q)) : Go d i_X12_classBits 5 [.ref h0, .int x1, .int x2, .int x3, .int x4] [] S I J Q := by
  have h := (And.intro g1 kk)
  exact Go.n tb_X12_classBits 4 h
theorem b_X12_classBits_12 {d : Nat} {S : zS} {I : zI} {J : zJ} {Q : zQ} {h0 : Nat} {x1 : Int32} {x2 : Int32} {x3 : Int32} {x4 : Int32} {y0 : Int32} {y1 : Int32} (kt : y1 ≤ y0 → Go d i_X12_classBits 50 [.ref h0, .int x1, .int x2, .int x3, .int x4] [] S I J Q) (kf : ¬ y1 ≤ y0 → Go d i_X12_classBits 15 [.ref h0, .int x1, .int x2, .int x3, .int x4] [] S I J Q) : Go d i_X12_classBits 12 [.ref h0, .int x1, .int x2, .int x3, .int x4] [.int y1, .int y0] S I J Q := by
  have h := (Go.ite kt kf)
  exact Go.n tb_X12_classBits 1 h
theorem b_X12_classBits_15 {d : Nat} {S : zS} {I : zI} {J : zJ} {Q : zQ} {h0 : Nat} {x1 : Int32} {x2 : Int32} {x3 : Int32} {x4 : Int32} (g1 : z_kd S h0 = 13) (kk : z_wp d i_X12_inverse [.ref h0, .int ((665 : Int32) * x1), .int x4] S I J (fun vv SS II JJ => Go d i_X12_classBits 32 [.ref h0, .int x1, .int x2, .int x3, .int x4] (vv.toList ++ [.int x1, .ref h0, .int x1, .ref h0, .int (1 : Int32), .int x3]) SS II JJ Q)) : Go d i_X12_classBits 15 [.ref h0, .int x1, .int x2, .int x3, .int x4] [] S I J Q := by
  have h := (And.intro g1 kk)
  exact Go.n tb_X12_classBits 12 h
theorem b_X12_classBits_32 {d : Nat} {S : zS} {I : zI} {J : zJ} {Q : zQ} {h0 : Nat} {x1 : Int32} {x2 : Int32} {x3 : Int32} {x4 : Int32} {y0 : Int32} {y1 : Int32} {q2 : Nat} {y3 : Int32} {q4 : Nat} {y5 : Int32} {y6 : Int32} (g1 : z_kd S q4 = 13) (kk : z_wp d i_X12_times [.ref q4, .int y5, .int y6, .int x2] S I J (fun vv SS II JJ => Go d i_X12_classBits 36 [.ref h0, .int x1, .int x2, .int x3, .int x4] (vv.toList ++ [.int y3, .ref q2, .int y1, .int y0]) SS II JJ Q)) : Go d i_X12_classBits 32 [.ref h0, .int x1, .int x2, .int x3, .int x4] [.int y6, .int y5, .ref q4, .int y3, .ref q2, .int y1, .int y0] S I J Q := by
  have h := (And.intro g1 kk)
  exact Go.n tb_X12_classBits 2 h
theorem b_X12_classBits_36 {d : Nat} {S : zS} {I : zI} {J : zJ} {Q : zQ} {h0 : Nat} {x1 : Int32} {x2 : Int32} {x3 : Int32} {x4 : Int32} {y0 : Int32} {y1 : Int32} {q2 : Nat} {y3 : Int32} {y4 : Int32} (g1 : z_kd S q2 = 13) (kk : z_wp d i_X12_times [.ref q2, .int y3, .int y4, .int x4] S I J (fun vv SS II JJ => Go d i_X12_classBits 41 [.ref h0, .int x1, .int x2, .int x3, .int x4] (vv.toList ++ [.int y1, .int y0]) SS II JJ Q)) : Go d i_X12_classBits 36 [.ref h0, .int x1, .int x2, .int x3, .int x4] [.int y4, .int y3, .ref q2, .int y1, .int y0] S I J Q := by
  have h := (And.intro g1 kk)
  exact Go.n tb_X12_classBits 2 h
theorem b_X12_classBits_41 {d : Nat} {S : zS} {I : zI} {J : zJ} {Q : zQ} {h0 : Nat} {x1 : Int32} {x2 : Int32} {x3 : Int32} {x4 : Int32} {y0 : Int32} {y1 : Int32} {y2 : Int32} (kk : Go d i_X12_classBits 5 [.ref h0, .int x1, .int x2, .int (y0 ||| (y1 <<< (y2 &&& 31))), .int (x4 + (1 : Int32))] [] S I J Q) : Go d i_X12_classBits 41 [.ref h0, .int x1, .int x2, .int x3, .int x4] [.int y2, .int y1, .int y0] S I J Q := by
  have h := kk
  exact Go.n tb_X12_classBits 5 h
theorem b_X12_classBits_50 {d : Nat} {S : zS} {I : zI} {J : zJ} {Q : zQ} {h0 : Nat} {x1 : Int32} {x2 : Int32} {x3 : Int32} {x4 : Int32} (kk : Q (some (.int x3)) S I J) : Go d i_X12_classBits 50 [.ref h0, .int x1, .int x2, .int x3, .int x4] [] S I J Q := by
  have h := (And.intro trivial kk)
  exact Go.n tb_X12_classBits 2 h
theorem w_X12_kindOf {d : Nat} {S : zS} {I : zI} {J : zJ} {Q : zQ} {h0 : Nat} {x1 : Int32} {x2 : Int32} (h : Go d i_X12_kindOf 0 [.ref h0, .int x1, .int x2, .retAddr 0] [] S I J Q) : z_wp (d + 1) i_X12_kindOf [.ref h0, .int x1, .int x2] S I J Q := Go.wp (Nat.le_of_ble_eq_true rfl) h
theorem e_X12_kindOf {d : Nat} {S S2 : zS} {I I2 : zI} {J J2 : zJ} {r : Option Value} {h0 : Nat} {x1 : Int32} {x2 : Int32} (h : Go d i_X12_kindOf 0 [.ref h0, .int x1, .int x2, .retAddr 0] [] S I J (z_eq r S2 I2 J2)) : z_ev (d + 1) i_X12_kindOf [.ref h0, .int x1, .int x2] S I J r S2 I2 J2 := Go.ev (Nat.le_of_ble_eq_true rfl) h
theorem b_X12_kindOf_0 {d : Nat} {S : zS} {I : zI} {J : zJ} {Q : zQ} {h0 : Nat} {x1 : Int32} {x2 : Int32} {v3 : Value} (kk : z_wp d i_X12_has [.int x2, .int (0 : Int32)] S I J (fun vv SS II JJ => Go d i_X12_kindOf 5 [.ref h0, .int x1, .int x2, v3] (vv.toList ++ []) SS II JJ Q)) : Go d i_X12_kindOf 0 [.ref h0, .int x1, .int x2, v3] [] S I J Q := by
  have h := (And.intro trivial kk)
  exact Go.n tb_X12_kindOf 3 h
theorem b_X12_kindOf_5 {d : Nat} {S : zS} {I : zI} {J : zJ} {Q : zQ} {h0 : Nat} {x1 : Int32} {x2 : Int32} {v3 : Value} {y0 : Int32} (kt : y0 = (0 : Int32) → Go d i_X12_kindOf 18 [.ref h0, .int x1, .int x2, v3] [] S I J Q) (kf : ¬ y0 = (0 : Int32) → Go d i_X12_kindOf 8 [.ref h0, .int x1, .int x2, v3] [] S I J Q) : Go d i_X12_kindOf 5 [.ref h0, .int x1, .int x2, v3] [.int y0] S I J Q := by
  have h := (Go.ite kt kf)
  exact Go.n tb_X12_kindOf 1 h
theorem b_X12_kindOf_8 {d : Nat} {S : zS} {I : zI} {J : zJ} {Q : zQ} {h0 : Nat} {x1 : Int32} {x2 : Int32} {v3 : Value} (g1 : z_kd S h0 = 13) (kk : z_wp d i_X12_subgroupOf [.ref h0, .int x1, .int x2] S I J (fun vv SS II JJ => Go d i_X12_kindOf 14 [.ref h0, .int x1, .int x2, v3] (vv.toList ++ []) SS II JJ Q)) : Go d i_X12_kindOf 8 [.ref h0, .int x1, .int x2, v3] [] S I J Q := by
  have h := (And.intro g1 kk)
  exact Go.n tb_X12_kindOf 4 h
theorem b_X12_kindOf_14 {d : Nat} {S : zS} {I : zI} {J : zJ} {Q : zQ} {h0 : Nat} {x1 : Int32} {x2 : Int32} {v3 : Value} {y0 : Int32} (kt : y0 = x2 → Go d i_X12_kindOf 20 [.ref h0, .int x1, .int x2, v3] [] S I J Q) (kf : ¬ y0 = x2 → Go d i_X12_kindOf 18 [.ref h0, .int x1, .int x2, v3] [] S I J Q) : Go d i_X12_kindOf 14 [.ref h0, .int x1, .int x2, v3] [.int y0] S I J Q := by
  have h := (Go.ite kt kf)
  exact Go.n tb_X12_kindOf 2 h
theorem b_X12_kindOf_18 {d : Nat} {S : zS} {I : zI} {J : zJ} {Q : zQ} {h0 : Nat} {x1 : Int32} {x2 : Int32} {v3 : Value} (kk : Q (some (.int (0 : Int32))) S I J) : Go d i_X12_kindOf 18 [.ref h0, .int x1, .int x2, v3] [] S I J Q := by
  have h := (And.intro trivial kk)
  exact Go.n tb_X12_kindOf 2 h
theorem b_X12_kindOf_20 {d : Nat} {S : zS} {I : zI} {J : zJ} {Q : zQ} {h0 : Nat} {x1 : Int32} {x2 : Int32} {v3 : Value} (kk : Go d i_X12_kindOf 22 [.ref h0, .int x1, .int x2, .int (0 : Int32)] [] S I J Q) : Go d i_X12_kindOf 20 [.ref h0, .int x1, .int x2, v3] [] S I J Q := by
  have h := kk
  exact Go.n tb_X12_kindOf 2 h
theorem b_X12_kindOf_22 {d : Nat} {S : zS} {I : zI} {J : zJ} {Q : zQ} {h0 : Nat} {x1 : Int32} {x2 : Int32} {x3 : Int32} (g1 : z_kd S h0 = 13) (kk : z_wp d i_X12_many [.ref h0, .int x1] S I J (fun vv SS II JJ => Go d i_X12_kindOf 28 [.ref h0, .int x1, .int x2, .int x3] (vv.toList ++ [.int x3]) SS II JJ Q)) : Go d i_X12_kindOf 22 [.ref h0, .int x1, .int x2, .int x3] [] S I J Q := by
  have h := (And.intro g1 kk)
  exact Go.n tb_X12_kindOf 4 h
theorem b_X12_kindOf_28 {d : Nat} {S : zS} {I : zI} {J : zJ} {Q : zQ} {h0 : Nat} {x1 : Int32} {x2 : Int32} {x3 : Int32} {y0 : Int32} {y1 : Int32} (kt : y1 ≤ y0 → Go d i_X12_kindOf 60 [.ref h0, .int x1, .int x2, .int x3] [] S I J Q) (kf : ¬ y1 ≤ y0 → Go d i_X12_kindOf 31 [.ref h0, .int x1, .int x2, .int x3] [] S I J Q) : Go d i_X12_kindOf 28 [.ref h0, .int x1, .int x2, .int x3] [.int y1, .int y0] S I J Q := by
  have h := (Go.ite kt kf)
  exact Go.n tb_X12_kindOf 1 h
theorem b_X12_kindOf_31 {d : Nat} {S : zS} {I : zI} {J : zJ} {Q : zQ} {h0 : Nat} {x1 : Int32} {x2 : Int32} {x3 : Int32} (kk : z_wp d i_X12_has [.int x2, .int x3] S I J (fun vv SS II JJ => Go d i_X12_kindOf 36 [.ref h0, .int x1, .int x2, .int x3] (vv.toList ++ []) SS II JJ Q)) : Go d i_X12_kindOf 31 [.ref h0, .int x1, .int x2, .int x3] [] S I J Q := by
  have h := (And.intro trivial kk)
  exact Go.n tb_X12_kindOf 3 h
theorem b_X12_kindOf_36 {d : Nat} {S : zS} {I : zI} {J : zJ} {Q : zQ} {h0 : Nat} {x1 : Int32} {x2 : Int32} {x3 : Int32} {y0 : Int32} (kt : y0 = (0 : Int32) → Go d i_X12_kindOf 54 [.ref h0, .int x1, .int x2, .int x3] [] S I J Q) (kf : ¬ y0 = (0 : Int32) → Go d i_X12_kindOf 39 [.ref h0, .int x1, .int x2, .int x3] [] S I J Q) : Go d i_X12_kindOf 36 [.ref h0, .int x1, .int x2, .int x3] [.int y0] S I J Q := by
  have h := (Go.ite kt kf)
  exact Go.n tb_X12_kindOf 1 h
theorem b_X12_kindOf_39 {d : Nat} {S : zS} {I : zI} {J : zJ} {Q : zQ} {h0 : Nat} {x1 : Int32} {x2 : Int32} {x3 : Int32} (g1 : z_kd S h0 = 13) (kk : z_wp d i_X12_classBits [.ref h0, .int x1, .int x3] S I J (fun vv SS II JJ => Go d i_X12_kindOf 45 [.ref h0, .int x1, .int x2, .int x3] (vv.toList ++ []) SS II JJ Q)) : Go d i_X12_kindOf 39 [.ref h0, .int x1, .int x2, .int x3] [] S I J Q := by
  have h := (And.intro g1 kk)
  exact Go.n tb_X12_kindOf 4 h
theorem b_X12_kindOf_45 {d : Nat} {S : zS} {I : zI} {J : zJ} {Q : zQ} {h0 : Nat} {x1 : Int32} {x2 : Int32} {x3 : Int32} {y0 : Int32} (kt : (y0 &&& (x2 ^^^ (-1 : Int32))) = (0 : Int32) → Go d i_X12_kindOf 54 [.ref h0, .int x1, .int x2, .int x3] [] S I J Q) (kf : ¬ (y0 &&& (x2 ^^^ (-1 : Int32))) = (0 : Int32) → Go d i_X12_kindOf 52 [.ref h0, .int x1, .int x2, .int x3] [] S I J Q) : Go d i_X12_kindOf 45 [.ref h0, .int x1, .int x2, .int x3] [.int y0] S I J Q := by
  have h := (Go.ite kt kf)
  exact Go.n tb_X12_kindOf 5 h
theorem b_X12_kindOf_52 {d : Nat} {S : zS} {I : zI} {J : zJ} {Q : zQ} {h0 : Nat} {x1 : Int32} {x2 : Int32} {x3 : Int32} (kk : Q (some (.int (1 : Int32))) S I J) : Go d i_X12_kindOf 52 [.ref h0, .int x1, .int x2, .int x3] [] S I J Q := by
  have h := (And.intro trivial kk)
  exact Go.n tb_X12_kindOf 2 h
theorem b_X12_kindOf_54 {d : Nat} {S : zS} {I : zI} {J : zJ} {Q : zQ} {h0 : Nat} {x1 : Int32} {x2 : Int32} {x3 : Int32} (kk : Go d i_X12_kindOf 22 [.ref h0, .int x1, .int x2, .int (x3 + (1 : Int32))] [] S I J Q) : Go d i_X12_kindOf 54 [.ref h0, .int x1, .int x2, .int x3] [] S I J Q := by
  have h := kk
  exact Go.n tb_X12_kindOf 2 h
theorem b_X12_kindOf_60 {d : Nat} {S : zS} {I : zI} {J : zJ} {Q : zQ} {h0 : Nat} {x1 : Int32} {x2 : Int32} {x3 : Int32} (kk : Q (some (.int (2 : Int32))) S I J) : Go d i_X12_kindOf 60 [.ref h0, .int x1, .int x2, .int x3] [] S I J Q := by
  have h := (And.intro trivial kk)
  exact Go.n tb_X12_kindOf 2 h
theorem w_X12_quotient {d : Nat} {S : zS} {I : zI} {J : zJ} {Q : zQ} {h0 : Nat} {x1 : Int32} {x2 : Int32} (h : Go d i_X12_quotient 0 [.ref h0, .int x1, .int x2, .retAddr 0, .retAddr 0, .retAddr 0, .retAddr 0] [] S I J Q) : z_wp (d + 1) i_X12_quotient [.ref h0, .int x1, .int x2] S I J Q := Go.wp (Nat.le_of_ble_eq_true rfl) h
theorem e_X12_quotient {d : Nat} {S S2 : zS} {I I2 : zI} {J J2 : zJ} {r : Option Value} {h0 : Nat} {x1 : Int32} {x2 : Int32} (h : Go d i_X12_quotient 0 [.ref h0, .int x1, .int x2, .retAddr 0, .retAddr 0, .retAddr 0, .retAddr 0] [] S I J (z_eq r S2 I2 J2)) : z_ev (d + 1) i_X12_quotient [.ref h0, .int x1, .int x2] S I J r S2 I2 J2 := Go.ev (Nat.le_of_ble_eq_true rfl) h
theorem b_X12_quotient_0 {d : Nat} {S : zS} {I : zI} {J : zJ} {Q : zQ} {h0 : Nat} {x1 : Int32} {x2 : Int32} {v3 : Value} {v4 : Value} {v5 : Value} {v6 : Value} (g1 : z_kd S h0 = 13) (kk : z_wp d i_X12_isSlot [.int x1] S (z_u2 I h0 1 (0 : Int32)) J (fun vv SS II JJ => Go d i_X12_quotient 9 [.ref h0, .int x1, .int x2, v3, v4, v5, v6] (vv.toList ++ []) SS II JJ Q)) : Go d i_X12_quotient 0 [.ref h0, .int x1, .int x2, v3, v4, v5, v6] [] S I J Q := by
  have h := (And.intro g1 (And.intro trivial kk))
  exact Go.n tb_X12_quotient 5 h
theorem b_X12_quotient_9 {d : Nat} {S : zS} {I : zI} {J : zJ} {Q : zQ} {h0 : Nat} {x1 : Int32} {x2 : Int32} {v3 : Value} {v4 : Value} {v5 : Value} {v6 : Value} {y0 : Int32} (kt : ¬ y0 = (0 : Int32) → Go d i_X12_quotient 15 [.ref h0, .int x1, .int x2, v3, v4, v5, v6] [] S I J Q) (kf : y0 = (0 : Int32) → Go d i_X12_quotient 12 [.ref h0, .int x1, .int x2, v3, v4, v5, v6] [] S I J Q) : Go d i_X12_quotient 9 [.ref h0, .int x1, .int x2, v3, v4, v5, v6] [.int y0] S I J Q := by
  have h := (Go.eti kt kf)
  exact Go.n tb_X12_quotient 1 h
theorem b_X12_quotient_12 {d : Nat} {S : zS} {I : zI} {J : zJ} {Q : zQ} {h0 : Nat} {x1 : Int32} {x2 : Int32} {v3 : Value} {v4 : Value} {v5 : Value} {v6 : Value} (kk : Q (some (.int (-2 : Int32))) S I J) : Go d i_X12_quotient 12 [.ref h0, .int x1, .int x2, v3, v4, v5, v6] [] S I J Q := by
  have h := (And.intro trivial kk)
  exact Go.n tb_X12_quotient 2 h
theorem b_X12_quotient_15 {d : Nat} {S : zS} {I : zI} {J : zJ} {Q : zQ} {h0 : Nat} {x1 : Int32} {x2 : Int32} {v3 : Value} {v4 : Value} {v5 : Value} {v6 : Value} (g1 : z_kd S h0 = 13) (kk : z_wp d i_X12_isSet [.ref h0, .int x1, .int x2] S I J (fun vv SS II JJ => Go d i_X12_quotient 21 [.ref h0, .int x1, .int x2, v3, v4, v5, v6] (vv.toList ++ []) SS II JJ Q)) : Go d i_X12_quotient 15 [.ref h0, .int x1, .int x2, v3, v4, v5, v6] [] S I J Q := by
  have h := (And.intro g1 kk)
  exact Go.n tb_X12_quotient 4 h
theorem b_X12_quotient_21 {d : Nat} {S : zS} {I : zI} {J : zJ} {Q : zQ} {h0 : Nat} {x1 : Int32} {x2 : Int32} {v3 : Value} {v4 : Value} {v5 : Value} {v6 : Value} {y0 : Int32} (kt : ¬ y0 = (0 : Int32) → Go d i_X12_quotient 27 [.ref h0, .int x1, .int x2, v3, v4, v5, v6] [] S I J Q) (kf : y0 = (0 : Int32) → Go d i_X12_quotient 24 [.ref h0, .int x1, .int x2, v3, v4, v5, v6] [] S I J Q) : Go d i_X12_quotient 21 [.ref h0, .int x1, .int x2, v3, v4, v5, v6] [.int y0] S I J Q := by
  have h := (Go.eti kt kf)
  exact Go.n tb_X12_quotient 1 h
theorem b_X12_quotient_24 {d : Nat} {S : zS} {I : zI} {J : zJ} {Q : zQ} {h0 : Nat} {x1 : Int32} {x2 : Int32} {v3 : Value} {v4 : Value} {v5 : Value} {v6 : Value} (kk : Q (some (.int (-3 : Int32))) S I J) : Go d i_X12_quotient 24 [.ref h0, .int x1, .int x2, v3, v4, v5, v6] [] S I J Q := by
  have h := (And.intro trivial kk)
  exact Go.n tb_X12_quotient 2 h
theorem b_X12_quotient_27 {d : Nat} {S : zS} {I : zI} {J : zJ} {Q : zQ} {h0 : Nat} {x1 : Int32} {x2 : Int32} {v3 : Value} {v4 : Value} {v5 : Value} {v6 : Value} (g1 : z_kd S h0 = 13) (kk : z_wp d i_X12_kindOf [.ref h0, .int x1, .int x2] S I J (fun vv SS II JJ => Go d i_X12_quotient 33 [.ref h0, .int x1, .int x2, v3, v4, v5, v6] (vv.toList ++ []) SS II JJ Q)) : Go d i_X12_quotient 27 [.ref h0, .int x1, .int x2, v3, v4, v5, v6] [] S I J Q := by
  have h := (And.intro g1 kk)
  exact Go.n tb_X12_quotient 4 h
theorem b_X12_quotient_33 {d : Nat} {S : zS} {I : zI} {J : zJ} {Q : zQ} {h0 : Nat} {x1 : Int32} {x2 : Int32} {v3 : Value} {v4 : Value} {v5 : Value} {v6 : Value} {y0 : Int32} (kt : y0 = (2 : Int32) → Go d i_X12_quotient 40 [.ref h0, .int x1, .int x2, v3, v4, v5, v6] [] S I J Q) (kf : ¬ y0 = (2 : Int32) → Go d i_X12_quotient 37 [.ref h0, .int x1, .int x2, v3, v4, v5, v6] [] S I J Q) : Go d i_X12_quotient 33 [.ref h0, .int x1, .int x2, v3, v4, v5, v6] [.int y0] S I J Q := by
  have h := (Go.ite kt kf)
  exact Go.n tb_X12_quotient 2 h
theorem b_X12_quotient_37 {d : Nat} {S : zS} {I : zI} {J : zJ} {Q : zQ} {h0 : Nat} {x1 : Int32} {x2 : Int32} {v3 : Value} {v4 : Value} {v5 : Value} {v6 : Value} (kk : Q (some (.int (-5 : Int32))) S I J) : Go d i_X12_quotient 37 [.ref h0, .int x1, .int x2, v3, v4, v5, v6] [] S I J Q := by
  have h := (And.intro trivial kk)
  exact Go.n tb_X12_quotient 2 h
theorem b_X12_quotient_40 {d : Nat} {S : zS} {I : zI} {J : zJ} {Q : zQ} {h0 : Nat} {x1 : Int32} {x2 : Int32} {v3 : Value} {v4 : Value} {v5 : Value} {v6 : Value} (g1 : z_kd S h0 = 13) (kk : z_wp d i_X12_keeps [.ref h0, .int x1] S I J (fun vv SS II JJ => Go d i_X12_quotient 45 [.ref h0, .int x1, .int x2, v3, v4, v5, v6] (vv.toList ++ []) SS II JJ Q)) : Go d i_X12_quotient 40 [.ref h0, .int x1, .int x2, v3, v4, v5, v6] [] S I J Q := by
  have h := (And.intro g1 kk)
  exact Go.n tb_X12_quotient 3 h
theorem b_X12_quotient_45 {d : Nat} {S : zS} {I : zI} {J : zJ} {Q : zQ} {h0 : Nat} {x1 : Int32} {x2 : Int32} {v3 : Value} {v4 : Value} {v5 : Value} {v6 : Value} (kk : Go d i_X12_quotient 50 [.ref h0, .int x1, .int x2, .int (0 : Int32), .int (0 : Int32), v5, v6] [] S I J Q) : Go d i_X12_quotient 45 [.ref h0, .int x1, .int x2, v3, v4, v5, v6] [] S I J Q := by
  have h := kk
  exact Go.n tb_X12_quotient 4 h
theorem b_X12_quotient_50 {d : Nat} {S : zS} {I : zI} {J : zJ} {Q : zQ} {h0 : Nat} {x1 : Int32} {x2 : Int32} {x3 : Int32} {x4 : Int32} {v5 : Value} {v6 : Value} (g1 : z_kd S h0 = 13) (kk : z_wp d i_X12_many [.ref h0, .int x1] S I J (fun vv SS II JJ => Go d i_X12_quotient 57 [.ref h0, .int x1, .int x2, .int x3, .int x4, v5, v6] (vv.toList ++ [.int x4]) SS II JJ Q)) : Go d i_X12_quotient 50 [.ref h0, .int x1, .int x2, .int x3, .int x4, v5, v6] [] S I J Q := by
  have h := (And.intro g1 kk)
  exact Go.n tb_X12_quotient 4 h
theorem b_X12_quotient_57 {d : Nat} {S : zS} {I : zI} {J : zJ} {Q : zQ} {h0 : Nat} {x1 : Int32} {x2 : Int32} {x3 : Int32} {x4 : Int32} {v5 : Value} {v6 : Value} {y0 : Int32} {y1 : Int32} (kt : y1 ≤ y0 → Go d i_X12_quotient 74 [.ref h0, .int x1, .int x2, .int x3, .int x4, v5, v6] [] S I J Q) (kf : ¬ y1 ≤ y0 → Go d i_X12_quotient 60 [.ref h0, .int x1, .int x2, .int x3, .int x4, v5, v6] [] S I J Q) : Go d i_X12_quotient 57 [.ref h0, .int x1, .int x2, .int x3, .int x4, v5, v6] [.int y1, .int y0] S I J Q := by
  have h := (Go.ite kt kf)
  exact Go.n tb_X12_quotient 1 h
theorem b_X12_quotient_60 {d : Nat} {S : zS} {I : zI} {J : zJ} {Q : zQ} {h0 : Nat} {x1 : Int32} {x2 : Int32} {x3 : Int32} {x4 : Int32} {v5 : Value} {v6 : Value} (g1 : z_kd S h0 = 13) (g2 : z_kd S (z_rv S h0 20) = 100 ∧ vp_in x4 (z_ln S (z_rv S h0 20))) (kk : Go d i_X12_quotient 50 [.ref h0, .int x1, .int x2, .int x3, .int (x4 + (1 : Int32)), v5, v6] [] S (z_u2 I (z_rv S h0 20) (Int32.toNatClampNeg x4) (-1 : Int32)) J Q) : Go d i_X12_quotient 60 [.ref h0, .int x1, .int x2, .int x3, .int x4, v5, v6] [] S I J Q := by
  have h := (And.intro g1 (And.intro g2 kk))
  exact Go.n tb_X12_quotient 7 h
theorem b_X12_quotient_74 {d : Nat} {S : zS} {I : zI} {J : zJ} {Q : zQ} {h0 : Nat} {x1 : Int32} {x2 : Int32} {x3 : Int32} {x4 : Int32} {v5 : Value} {v6 : Value} (kk : Go d i_X12_quotient 77 [.ref h0, .int x1, .int x2, .int x3, .int (0 : Int32), v5, v6] [] S I J Q) : Go d i_X12_quotient 74 [.ref h0, .int x1, .int x2, .int x3, .int x4, v5, v6] [] S I J Q := by
  have h := kk
  exact Go.n tb_X12_quotient 2 h
theorem b_X12_quotient_77 {d : Nat} {S : zS} {I : zI} {J : zJ} {Q : zQ} {h0 : Nat} {x1 : Int32} {x2 : Int32} {x3 : Int32} {x4 : Int32} {v5 : Value} {v6 : Value} (g1 : z_kd S h0 = 13) (kk : z_wp d i_X12_many [.ref h0, .int x1] S I J (fun vv SS II JJ => Go d i_X12_quotient 84 [.ref h0, .int x1, .int x2, .int x3, .int x4, v5, v6] (vv.toList ++ [.int x4]) SS II JJ Q)) : Go d i_X12_quotient 77 [.ref h0, .int x1, .int x2, .int x3, .int x4, v5, v6] [] S I J Q := by
  have h := (And.intro g1 kk)
  exact Go.n tb_X12_quotient 4 h
theorem b_X12_quotient_84 {d : Nat} {S : zS} {I : zI} {J : zJ} {Q : zQ} {h0 : Nat} {x1 : Int32} {x2 : Int32} {x3 : Int32} {x4 : Int32} {v5 : Value} {v6 : Value} {y0 : Int32} {y1 : Int32} (kt : y1 ≤ y0 → Go d i_X12_quotient 161 [.ref h0, .int x1, .int x2, .int x3, .int x4, v5, v6] [] S I J Q) (kf : ¬ y1 ≤ y0 → Go d i_X12_quotient 87 [.ref h0, .int x1, .int x2, .int x3, .int x4, v5, v6] [] S I J Q) : Go d i_X12_quotient 84 [.ref h0, .int x1, .int x2, .int x3, .int x4, v5, v6] [.int y1, .int y0] S I J Q := by
  have h := (Go.ite kt kf)
  exact Go.n tb_X12_quotient 1 h
theorem b_X12_quotient_87 {d : Nat} {S : zS} {I : zI} {J : zJ} {Q : zQ} {h0 : Nat} {x1 : Int32} {x2 : Int32} {x3 : Int32} {x4 : Int32} {v5 : Value} {v6 : Value} (g1 : z_kd S h0 = 13) (g2 : z_isI (z_kd S (z_rv S h0 20)) = true ∧ vp_in x4 (z_ln S (z_rv S h0 20))) (kt : (I (z_rv S h0 20) (Int32.toNatClampNeg x4)) = (-1 : Int32) → Go d i_X12_quotient 101 [.ref h0, .int x1, .int x2, .int x3, .int x4, v5, v6] [] S I J Q) (kf : ¬ (I (z_rv S h0 20) (Int32.toNatClampNeg x4)) = (-1 : Int32) → Go d i_X12_quotient 98 [.ref h0, .int x1, .int x2, .int x3, .int x4, v5, v6] [] S I J Q) : Go d i_X12_quotient 87 [.ref h0, .int x1, .int x2, .int x3, .int x4, v5, v6] [] S I J Q := by
  have h := (And.intro g1 (And.intro g2 (Go.ite kt kf)))
  exact Go.n tb_X12_quotient 6 h
theorem b_X12_quotient_98 {d : Nat} {S : zS} {I : zI} {J : zJ} {Q : zQ} {h0 : Nat} {x1 : Int32} {x2 : Int32} {x3 : Int32} {x4 : Int32} {v5 : Value} {v6 : Value} (kk : Go d i_X12_quotient 77 [.ref h0, .int x1, .int x2, .int x3, .int (x4 + (1 : Int32)), v5, v6] [] S I J Q) : Go d i_X12_quotient 98 [.ref h0, .int x1, .int x2, .int x3, .int x4, v5, v6] [] S I J Q := by
  have h := kk
  exact Go.n tb_X12_quotient 3 h
theorem b_X12_quotient_101 {d : Nat} {S : zS} {I : zI} {J : zJ} {Q : zQ} {h0 : Nat} {x1 : Int32} {x2 : Int32} {x3 : Int32} {x4 : Int32} {v5 : Value} {v6 : Value} (kk : Go d i_X12_quotient 104 [.ref h0, .int x1, .int x2, .int x3, .int x4, .int (0 : Int32), v6] [] S I J Q) : Go d i_X12_quotient 101 [.ref h0, .int x1, .int x2, .int x3, .int x4, v5, v6] [] S I J Q := by
  have h := kk
  exact Go.n tb_X12_quotient 2 h
theorem b_X12_quotient_104 {d : Nat} {S : zS} {I : zI} {J : zJ} {Q : zQ} {h0 : Nat} {x1 : Int32} {x2 : Int32} {x3 : Int32} {x4 : Int32} {x5 : Int32} {v6 : Value} (g1 : z_kd S h0 = 13) (kk : z_wp d i_X12_many [.ref h0, .int x1] S I J (fun vv SS II JJ => Go d i_X12_quotient 111 [.ref h0, .int x1, .int x2, .int x3, .int x4, .int x5, v6] (vv.toList ++ [.int x5]) SS II JJ Q)) : Go d i_X12_quotient 104 [.ref h0, .int x1, .int x2, .int x3, .int x4, .int x5, v6] [] S I J Q := by
  have h := (And.intro g1 kk)
  exact Go.n tb_X12_quotient 4 h
theorem b_X12_quotient_111 {d : Nat} {S : zS} {I : zI} {J : zJ} {Q : zQ} {h0 : Nat} {x1 : Int32} {x2 : Int32} {x3 : Int32} {x4 : Int32} {x5 : Int32} {v6 : Value} {y0 : Int32} {y1 : Int32} (kt : y1 ≤ y0 → Go d i_X12_quotient 144 [.ref h0, .int x1, .int x2, .int x3, .int x4, .int x5, v6] [] S I J Q) (kf : ¬ y1 ≤ y0 → Go d i_X12_quotient 114 [.ref h0, .int x1, .int x2, .int x3, .int x4, .int x5, v6] [] S I J Q) : Go d i_X12_quotient 111 [.ref h0, .int x1, .int x2, .int x3, .int x4, .int x5, v6] [.int y1, .int y0] S I J Q := by
  have h := (Go.ite kt kf)
  exact Go.n tb_X12_quotient 1 h
theorem b_X12_quotient_114 {d : Nat} {S : zS} {I : zI} {J : zJ} {Q : zQ} {h0 : Nat} {x1 : Int32} {x2 : Int32} {x3 : Int32} {x4 : Int32} {x5 : Int32} {v6 : Value} (kk : z_wp d i_X12_has [.int x2, .int x5] S I J (fun vv SS II JJ => Go d i_X12_quotient 120 [.ref h0, .int x1, .int x2, .int x3, .int x4, .int x5, v6] (vv.toList ++ []) SS II JJ Q)) : Go d i_X12_quotient 114 [.ref h0, .int x1, .int x2, .int x3, .int x4, .int x5, v6] [] S I J Q := by
  have h := (And.intro trivial kk)
  exact Go.n tb_X12_quotient 3 h
theorem b_X12_quotient_120 {d : Nat} {S : zS} {I : zI} {J : zJ} {Q : zQ} {h0 : Nat} {x1 : Int32} {x2 : Int32} {x3 : Int32} {x4 : Int32} {x5 : Int32} {v6 : Value} {y0 : Int32} (kt : y0 = (0 : Int32) → Go d i_X12_quotient 138 [.ref h0, .int x1, .int x2, .int x3, .int x4, .int x5, v6] [] S I J Q) (kf : ¬ y0 = (0 : Int32) → Go d i_X12_quotient 123 [.ref h0, .int x1, .int x2, .int x3, .int x4, .int x5, v6] [] S I J Q) : Go d i_X12_quotient 120 [.ref h0, .int x1, .int x2, .int x3, .int x4, .int x5, v6] [.int y0] S I J Q := by
  have h := (Go.ite kt kf)
  exact Go.n tb_X12_quotient 1 h
theorem b_X12_quotient_123 {d : Nat} {S : zS} {I : zI} {J : zJ} {Q : zQ} {h0 : Nat} {x1 : Int32} {x2 : Int32} {x3 : Int32} {x4 : Int32} {x5 : Int32} {v6 : Value} (g1 : z_kd S h0 = 13) (g2 : z_kd S h0 = 13) (kk : z_wp d i_X12_times [.ref h0, .int x1, .int x4, .int x5] S I J (fun vv SS II JJ => Go d i_X12_quotient 136 [.ref h0, .int x1, .int x2, .int x3, .int x4, .int x5, v6] (vv.toList ++ [.ref (z_rv S h0 20)]) SS II JJ Q)) : Go d i_X12_quotient 123 [.ref h0, .int x1, .int x2, .int x3, .int x4, .int x5, v6] [] S I J Q := by
  have h := (And.intro g1 (And.intro g2 kk))
  exact Go.n tb_X12_quotient 7 h
theorem b_X12_quotient_136 {d : Nat} {S : zS} {I : zI} {J : zJ} {Q : zQ} {h0 : Nat} {x1 : Int32} {x2 : Int32} {x3 : Int32} {x4 : Int32} {x5 : Int32} {v6 : Value} {q0 : Nat} {y1 : Int32} (g1 : z_kd S q0 = 100 ∧ vp_in y1 (z_ln S q0)) (kk : Go d i_X12_quotient 104 [.ref h0, .int x1, .int x2, .int x3, .int x4, .int (x5 + (1 : Int32)), v6] [] S (z_u2 I q0 (Int32.toNatClampNeg y1) x3) J Q) : Go d i_X12_quotient 136 [.ref h0, .int x1, .int x2, .int x3, .int x4, .int x5, v6] [.int y1, .ref q0] S I J Q := by
  have h := (And.intro g1 kk)
  exact Go.n tb_X12_quotient 4 h
theorem b_X12_quotient_138 {d : Nat} {S : zS} {I : zI} {J : zJ} {Q : zQ} {h0 : Nat} {x1 : Int32} {x2 : Int32} {x3 : Int32} {x4 : Int32} {x5 : Int32} {v6 : Value} (kk : Go d i_X12_quotient 104 [.ref h0, .int x1, .int x2, .int x3, .int x4, .int (x5 + (1 : Int32)), v6] [] S I J Q) : Go d i_X12_quotient 138 [.ref h0, .int x1, .int x2, .int x3, .int x4, .int x5, v6] [] S I J Q := by
  have h := kk
  exact Go.n tb_X12_quotient 2 h
theorem b_X12_quotient_144 {d : Nat} {S : zS} {I : zI} {J : zJ} {Q : zQ} {h0 : Nat} {x1 : Int32} {x2 : Int32} {x3 : Int32} {x4 : Int32} {x5 : Int32} {v6 : Value} (g1 : z_kd S h0 = 13) (g2 : z_kd S (z_rv S h0 21) = 100 ∧ vp_in x3 (z_ln S (z_rv S h0 21))) (kk : Go d i_X12_quotient 77 [.ref h0, .int x1, .int x2, .int (x3 + (1 : Int32)), .int (x4 + (1 : Int32)), .int x5, v6] [] S (z_u2 I (z_rv S h0 21) (Int32.toNatClampNeg x3) x4) J Q) : Go d i_X12_quotient 144 [.ref h0, .int x1, .int x2, .int x3, .int x4, .int x5, v6] [] S I J Q := by
  have h := (And.intro g1 (And.intro g2 kk))
  exact Go.n tb_X12_quotient 8 h
theorem b_X12_quotient_161 {d : Nat} {S : zS} {I : zI} {J : zJ} {Q : zQ} {h0 : Nat} {x1 : Int32} {x2 : Int32} {x3 : Int32} {x4 : Int32} {v5 : Value} {v6 : Value} (g1 : z_kd S h0 = 13) (g2 : z_kd S h0 = 13) (kk : z_wp d i_X12_copies [.ref (z_rv S h0 0), .int ((665 : Int32) * x1), .ref (z_rv S h0 0), .int (1330 : Int32)] S I J (fun vv SS II JJ => Go d i_X12_quotient 180 [.ref h0, .int x1, .int x2, .int x3, .int x4, v5, v6] (vv.toList ++ []) SS II JJ Q)) : Go d i_X12_quotient 161 [.ref h0, .int x1, .int x2, .int x3, .int x4, v5, v6] [] S I J Q := by
  have h := (And.intro g1 (And.intro g2 (And.intro trivial kk)))
  exact Go.n tb_X12_quotient 9 h
theorem b_X12_quotient_180 {d : Nat} {S : zS} {I : zI} {J : zJ} {Q : zQ} {h0 : Nat} {x1 : Int32} {x2 : Int32} {x3 : Int32} {x4 : Int32} {v5 : Value} {v6 : Value} {I1 : zI} {I2 : zI} (g1 : z_kd S h0 = 13) (g2 : z_kd S (z_rv S h0 0) = 100 ∧ vp_in (((665 : Int32) * x1) + (0 : Int32)) (z_ln S (z_rv S h0 0))) (g3 : z_kd S h0 = 13) (g4 : z_kd S (z_rv S h0 0) = 100 ∧ vp_in (((665 : Int32) * x1) + (1 : Int32)) (z_ln S (z_rv S h0 0))) (eI1 : I1 = z_u2 (z_u2 I (z_rv S h0 0) (Int32.toNatClampNeg (((665 : Int32) * x1) + (0 : Int32))) x3) (z_rv S h0 0) (Int32.toNatClampNeg (((665 : Int32) * x1) + (1 : Int32))) (0 : Int32)) (g6 : z_kd S h0 = 13) (g7 : z_isI (z_kd S (z_rv S h0 0)) = true ∧ vp_in (((665 : Int32) * x1) + (4 : Int32)) (z_ln S (z_rv S h0 0))) (g8 : z_kd S (z_rv S h0 0) = 100 ∧ vp_in (((665 : Int32) * x1) + (4 : Int32)) (z_ln S (z_rv S h0 0))) (eI2 : I2 = z_u2 I1 (z_rv S h0 0) (Int32.toNatClampNeg (((665 : Int32) * x1) + (4 : Int32))) ((I1 (z_rv S h0 0) (Int32.toNatClampNeg (((665 : Int32) * x1) + (4 : Int32)))) + (1 : Int32))) (kk : Go d i_X12_quotient 223 [.ref h0, .int x1, .int x2, .int x3, .int ((665 : Int32) * x1), .int (0 : Int32), v6] [] S I2 J Q) : Go d i_X12_quotient 180 [.ref h0, .int x1, .int x2, .int x3, .int x4, v5, v6] [] S I J Q := by
  subst eI2
  subst eI1
  have h := (And.intro g1 (And.intro g2 (And.intro g3 (And.intro g4 (And.intro g6 (And.intro g7 (And.intro g8 kk)))))))
  exact Go.n tb_X12_quotient 30 h
theorem b_X12_quotient_223 {d : Nat} {S : zS} {I : zI} {J : zJ} {Q : zQ} {h0 : Nat} {x1 : Int32} {x2 : Int32} {x3 : Int32} {x4 : Int32} {x5 : Int32} {v6 : Value} (g1 : z_kd S h0 = 13) (g2 : z_isI (z_kd S (z_rv S h0 0)) = true ∧ vp_in (1330 : Int32) (z_ln S (z_rv S h0 0))) (kt : (I (z_rv S h0 0) (Int32.toNatClampNeg (1330 : Int32))) ≤ x5 → Go d i_X12_quotient 289 [.ref h0, .int x1, .int x2, .int x3, .int x4, .int x5, v6] [] S I J Q) (kf : ¬ (I (z_rv S h0 0) (Int32.toNatClampNeg (1330 : Int32))) ≤ x5 → Go d i_X12_quotient 236 [.ref h0, .int x1, .int x2, .int x3, .int x4, .int x5, v6] [] S I J Q) : Go d i_X12_quotient 223 [.ref h0, .int x1, .int x2, .int x3, .int x4, .int x5, v6] [] S I J Q := by
  have h := (And.intro g1 (And.intro g2 (Go.ite kt kf)))
  exact Go.n tb_X12_quotient 6 h
theorem b_X12_quotient_236 {d : Nat} {S : zS} {I : zI} {J : zJ} {Q : zQ} {h0 : Nat} {x1 : Int32} {x2 : Int32} {x3 : Int32} {x4 : Int32} {x5 : Int32} {v6 : Value} (g1 : z_kd S h0 = 13) (g2 : z_isI (z_kd S (z_rv S h0 0)) = true ∧ vp_in (1331 : Int32) (z_ln S (z_rv S h0 0))) (kk : z_wp d i_X12_has [.int (I (z_rv S h0 0) (Int32.toNatClampNeg (1331 : Int32))), .int x5] S I J (fun vv SS II JJ => Go d i_X12_quotient 249 [.ref h0, .int x1, .int x2, .int x3, .int x4, .int x5, v6] (vv.toList ++ []) SS II JJ Q)) : Go d i_X12_quotient 236 [.ref h0, .int x1, .int x2, .int x3, .int x4, .int x5, v6] [] S I J Q := by
  have h := (And.intro g1 (And.intro g2 (And.intro trivial kk)))
  exact Go.n tb_X12_quotient 6 h
theorem b_X12_quotient_249 {d : Nat} {S : zS} {I : zI} {J : zJ} {Q : zQ} {h0 : Nat} {x1 : Int32} {x2 : Int32} {x3 : Int32} {x4 : Int32} {x5 : Int32} {v6 : Value} {y0 : Int32} (kt : y0 = (0 : Int32) → Go d i_X12_quotient 283 [.ref h0, .int x1, .int x2, .int x3, .int x4, .int x5, v6] [] S I J Q) (kf : ¬ y0 = (0 : Int32) → Go d i_X12_quotient 252 [.ref h0, .int x1, .int x2, .int x3, .int x4, .int x5, v6] [] S I J Q) : Go d i_X12_quotient 249 [.ref h0, .int x1, .int x2, .int x3, .int x4, .int x5, v6] [.int y0] S I J Q := by
  have h := (Go.ite kt kf)
  exact Go.n tb_X12_quotient 1 h
theorem b_X12_quotient_252 {d : Nat} {S : zS} {I : zI} {J : zJ} {Q : zQ} {h0 : Nat} {x1 : Int32} {x2 : Int32} {x3 : Int32} {x4 : Int32} {x5 : Int32} {v6 : Value} (g1 : z_kd S h0 = 13) (g2 : z_isI (z_kd S (z_rv S h0 20)) = true ∧ vp_in x5 (z_ln S (z_rv S h0 20))) (kt : (I (z_rv S h0 20) (Int32.toNatClampNeg x5)) ≤ (0 : Int32) → Go d i_X12_quotient 283 [.ref h0, .int x1, .int x2, .int x3, .int x4, .int x5, v6] [] S I J Q) (kf : ¬ (I (z_rv S h0 20) (Int32.toNatClampNeg x5)) ≤ (0 : Int32) → Go d i_X12_quotient 262 [.ref h0, .int x1, .int x2, .int x3, .int x4, .int x5, v6] [] S I J Q) : Go d i_X12_quotient 252 [.ref h0, .int x1, .int x2, .int x3, .int x4, .int x5, v6] [] S I J Q := by
  have h := (And.intro g1 (And.intro g2 (Go.ite kt kf)))
  exact Go.n tb_X12_quotient 5 h
theorem b_X12_quotient_262 {d : Nat} {S : zS} {I : zI} {J : zJ} {Q : zQ} {h0 : Nat} {x1 : Int32} {x2 : Int32} {x3 : Int32} {x4 : Int32} {x5 : Int32} {v6 : Value} {I1 : zI} (g1 : z_kd S h0 = 13) (g2 : z_isI (z_kd S (z_rv S h0 0)) = true ∧ vp_in (x4 + (1 : Int32)) (z_ln S (z_rv S h0 0))) (g3 : z_kd S h0 = 13) (g4 : z_isI (z_kd S (z_rv S h0 20)) = true ∧ vp_in x5 (z_ln S (z_rv S h0 20))) (g5 : z_kd S (z_rv S h0 0) = 100 ∧ vp_in (x4 + (1 : Int32)) (z_ln S (z_rv S h0 0))) (eI1 : I1 = z_u2 I (z_rv S h0 0) (Int32.toNatClampNeg (x4 + (1 : Int32))) ((I (z_rv S h0 0) (Int32.toNatClampNeg (x4 + (1 : Int32)))) ||| ((1 : Int32) <<< ((I (z_rv S h0 20) (Int32.toNatClampNeg x5)) &&& 31)))) (kk : Go d i_X12_quotient 223 [.ref h0, .int x1, .int x2, .int x3, .int x4, .int (x5 + (1 : Int32)), v6] [] S I1 J Q) : Go d i_X12_quotient 262 [.ref h0, .int x1, .int x2, .int x3, .int x4, .int x5, v6] [] S I J Q := by
  subst eI1
  have h := (And.intro g1 (And.intro g2 (And.intro g3 (And.intro g4 (And.intro g5 kk)))))
  exact Go.n tb_X12_quotient 17 h
theorem b_X12_quotient_283 {d : Nat} {S : zS} {I : zI} {J : zJ} {Q : zQ} {h0 : Nat} {x1 : Int32} {x2 : Int32} {x3 : Int32} {x4 : Int32} {x5 : Int32} {v6 : Value} (kk : Go d i_X12_quotient 223 [.ref h0, .int x1, .int x2, .int x3, .int x4, .int (x5 + (1 : Int32)), v6] [] S I J Q) : Go d i_X12_quotient 283 [.ref h0, .int x1, .int x2, .int x3, .int x4, .int x5, v6] [] S I J Q := by
  have h := kk
  exact Go.n tb_X12_quotient 2 h
theorem b_X12_quotient_289 {d : Nat} {S : zS} {I : zI} {J : zJ} {Q : zQ} {h0 : Nat} {x1 : Int32} {x2 : Int32} {x3 : Int32} {x4 : Int32} {x5 : Int32} {v6 : Value} (kk : Go d i_X12_quotient 292 [.ref h0, .int x1, .int x2, .int x3, .int x4, .int (0 : Int32), v6] [] S I J Q) : Go d i_X12_quotient 289 [.ref h0, .int x1, .int x2, .int x3, .int x4, .int x5, v6] [] S I J Q := by
  have h := kk
  exact Go.n tb_X12_quotient 2 h
theorem b_X12_quotient_292 {d : Nat} {S : zS} {I : zI} {J : zJ} {Q : zQ} {h0 : Nat} {x1 : Int32} {x2 : Int32} {x3 : Int32} {x4 : Int32} {x5 : Int32} {v6 : Value} (kt : x3 ≤ x5 → Go d i_X12_quotient 393 [.ref h0, .int x1, .int x2, .int x3, .int x4, .int x5, v6] [] S I J Q) (kf : ¬ x3 ≤ x5 → Go d i_X12_quotient 298 [.ref h0, .int x1, .int x2, .int x3, .int x4, .int x5, v6] [] S I J Q) : Go d i_X12_quotient 292 [.ref h0, .int x1, .int x2, .int x3, .int x4, .int x5, v6] [] S I J Q := by
  have h := (Go.ite kt kf)
  exact Go.n tb_X12_quotient 3 h
theorem b_X12_quotient_298 {d : Nat} {S : zS} {I : zI} {J : zJ} {Q : zQ} {h0 : Nat} {x1 : Int32} {x2 : Int32} {x3 : Int32} {x4 : Int32} {x5 : Int32} {v6 : Value} {I1 : zI} (g1 : z_kd S h0 = 13) (g2 : z_kd S h0 = 13) (g3 : z_kd S h0 = 13) (g4 : z_isI (z_kd S (z_rv S h0 21)) = true ∧ vp_in x5 (z_ln S (z_rv S h0 21))) (g5 : z_isI (z_kd S (z_rv S h0 0)) = true ∧ vp_in ((1335 : Int32) + (I (z_rv S h0 21) (Int32.toNatClampNeg x5))) (z_ln S (z_rv S h0 0))) (g6 : z_kd S (z_rv S h0 0) = 100 ∧ vp_in ((x4 + (5 : Int32)) + x5) (z_ln S (z_rv S h0 0))) (eI1 : I1 = z_u2 I (z_rv S h0 0) (Int32.toNatClampNeg ((x4 + (5 : Int32)) + x5)) (I (z_rv S h0 0) (Int32.toNatClampNeg ((1335 : Int32) + (I (z_rv S h0 21) (Int32.toNatClampNeg x5)))))) (kk : Go d i_X12_quotient 329 [.ref h0, .int x1, .int x2, .int x3, .int x4, .int x5, .int (0 : Int32)] [] S I1 J Q) : Go d i_X12_quotient 298 [.ref h0, .int x1, .int x2, .int x3, .int x4, .int x5, v6] [] S I J Q := by
  subst eI1
  have h := (And.intro g1 (And.intro g2 (And.intro g3 (And.intro g4 (And.intro g5 (And.intro g6 kk))))))
  exact Go.n tb_X12_quotient 19 h
theorem b_X12_quotient_329 {d : Nat} {S : zS} {I : zI} {J : zJ} {Q : zQ} {h0 : Nat} {x1 : Int32} {x2 : Int32} {x3 : Int32} {x4 : Int32} {x5 : Int32} {x6 : Int32} (kt : x3 ≤ x6 → Go d i_X12_quotient 387 [.ref h0, .int x1, .int x2, .int x3, .int x4, .int x5, .int x6] [] S I J Q) (kf : ¬ x3 ≤ x6 → Go d i_X12_quotient 335 [.ref h0, .int x1, .int x2, .int x3, .int x4, .int x5, .int x6] [] S I J Q) : Go d i_X12_quotient 329 [.ref h0, .int x1, .int x2, .int x3, .int x4, .int x5, .int x6] [] S I J Q := by
  have h := (Go.ite kt kf)
  exact Go.n tb_X12_quotient 3 h
theorem b_X12_quotient_335 {d : Nat} {S : zS} {I : zI} {J : zJ} {Q : zQ} {h0 : Nat} {x1 : Int32} {x2 : Int32} {x3 : Int32} {x4 : Int32} {x5 : Int32} {x6 : Int32} (g1 : z_kd S h0 = 13) (g2 : z_kd S h0 = 13) (g3 : z_kd S h0 = 13) (g4 : z_isI (z_kd S (z_rv S h0 21)) = true ∧ vp_in x5 (z_ln S (z_rv S h0 21))) (g5 : z_kd S h0 = 13) (g6 : z_isI (z_kd S (z_rv S h0 21)) = true ∧ vp_in x6 (z_ln S (z_rv S h0 21))) (g7 : z_kd S h0 = 13) (kk : z_wp d i_X12_productAt [.ref h0, .int (1330 : Int32), .int (I (z_rv S h0 21) (Int32.toNatClampNeg x5)), .int (I (z_rv S h0 21) (Int32.toNatClampNeg x6))] S I J (fun vv SS II JJ => Go d i_X12_quotient 379 [.ref h0, .int x1, .int x2, .int x3, .int x4, .int x5, .int x6] (vv.toList ++ [.ref (z_rv S h0 20), .int (((x4 + (265 : Int32)) + ((20 : Int32) * x5)) + x6), .ref (z_rv S h0 0)]) SS II JJ Q)) : Go d i_X12_quotient 335 [.ref h0, .int x1, .int x2, .int x3, .int x4, .int x5, .int x6] [] S I J Q := by
  have h := (And.intro g1 (And.intro g2 (And.intro g3 (And.intro g4 (And.intro g5 (And.intro g6 (And.intro g7 kk)))))))
  exact Go.n tb_X12_quotient 24 h
theorem b_X12_quotient_379 {d : Nat} {S : zS} {I : zI} {J : zJ} {Q : zQ} {h0 : Nat} {x1 : Int32} {x2 : Int32} {x3 : Int32} {x4 : Int32} {x5 : Int32} {x6 : Int32} {q0 : Nat} {y1 : Int32} {q2 : Nat} {y3 : Int32} (g1 : z_isI (z_kd S q2) = true ∧ vp_in y3 (z_ln S q2)) (g2 : z_kd S q0 = 100 ∧ vp_in y1 (z_ln S q0)) (kk : Go d i_X12_quotient 329 [.ref h0, .int x1, .int x2, .int x3, .int x4, .int x5, .int (x6 + (1 : Int32))] [] S (z_u2 I q0 (Int32.toNatClampNeg y1) (I q2 (Int32.toNatClampNeg y3))) J Q) : Go d i_X12_quotient 379 [.ref h0, .int x1, .int x2, .int x3, .int x4, .int x5, .int x6] [.int y3, .ref q2, .int y1, .ref q0] S I J Q := by
  have h := (And.intro g1 (And.intro g2 kk))
  exact Go.n tb_X12_quotient 4 h
theorem b_X12_quotient_387 {d : Nat} {S : zS} {I : zI} {J : zJ} {Q : zQ} {h0 : Nat} {x1 : Int32} {x2 : Int32} {x3 : Int32} {x4 : Int32} {x5 : Int32} {x6 : Int32} (kk : Go d i_X12_quotient 292 [.ref h0, .int x1, .int x2, .int x3, .int x4, .int (x5 + (1 : Int32)), .int x6] [] S I J Q) : Go d i_X12_quotient 387 [.ref h0, .int x1, .int x2, .int x3, .int x4, .int x5, .int x6] [] S I J Q := by
  have h := kk
  exact Go.n tb_X12_quotient 2 h
theorem b_X12_quotient_393 {d : Nat} {S : zS} {I : zI} {J : zJ} {Q : zQ} {h0 : Nat} {x1 : Int32} {x2 : Int32} {x3 : Int32} {x4 : Int32} {x5 : Int32} {v6 : Value} (kk : Q (some (.int x3)) S I J) : Go d i_X12_quotient 393 [.ref h0, .int x1, .int x2, .int x3, .int x4, .int x5, v6] [] S I J Q := by
  have h := (And.intro trivial kk)
  exact Go.n tb_X12_quotient 2 h
theorem w_X12_undo {d : Nat} {S : zS} {I : zI} {J : zJ} {Q : zQ} {h0 : Nat} (h : Go d i_X12_undo 0 [.ref h0, .retAddr 0] [] S I J Q) : z_wp (d + 1) i_X12_undo [.ref h0] S I J Q := Go.wp (Nat.le_of_ble_eq_true rfl) h
theorem e_X12_undo {d : Nat} {S S2 : zS} {I I2 : zI} {J J2 : zJ} {r : Option Value} {h0 : Nat} (h : Go d i_X12_undo 0 [.ref h0, .retAddr 0] [] S I J (z_eq r S2 I2 J2)) : z_ev (d + 1) i_X12_undo [.ref h0] S I J r S2 I2 J2 := Go.ev (Nat.le_of_ble_eq_true rfl) h
theorem b_X12_undo_0 {d : Nat} {S : zS} {I : zI} {J : zJ} {Q : zQ} {h0 : Nat} {v1 : Value} (g1 : z_kd S h0 = 13) (g2 : z_kd S h0 = 13) (kt : ¬ ((z_u2 I h0 1 (0 : Int32)) h0 19) = (0 : Int32) → Go d i_X12_undo 15 [.ref h0, v1] [] S (z_u2 I h0 1 (0 : Int32)) J Q) (kf : ((z_u2 I h0 1 (0 : Int32)) h0 19) = (0 : Int32) → Go d i_X12_undo 12 [.ref h0, v1] [] S (z_u2 I h0 1 (0 : Int32)) J Q) : Go d i_X12_undo 0 [.ref h0, v1] [] S I J Q := by
  have h := (And.intro g1 (And.intro g2 (Go.eti kt kf)))
  exact Go.n tb_X12_undo 6 h
theorem b_X12_undo_12 {d : Nat} {S : zS} {I : zI} {J : zJ} {Q : zQ} {h0 : Nat} {v1 : Value} (kk : Q (some (.int (-5 : Int32))) S I J) : Go d i_X12_undo 12 [.ref h0, v1] [] S I J Q := by
  have h := (And.intro trivial kk)
  exact Go.n tb_X12_undo 2 h
theorem b_X12_undo_15 {d : Nat} {S : zS} {I : zI} {J : zJ} {Q : zQ} {h0 : Nat} {v1 : Value} {z1 : Int32} (g1 : z_kd S h0 = 13) (g2 : z_kd S h0 = 13) (g3 : z_kd S h0 = 13) (g4 : z_kd S h0 = 13) (g5 : z_kd S h0 = 13) (g6 : z_kd S h0 = 13) (g7 : z_isI (z_kd S (z_rv S h0 18)) = true ∧ vp_in (((666 : Int32) * ((z_u2 I h0 19 ((I h0 19) - (1 : Int32))) h0 19)) + (665 : Int32)) (z_ln S (z_rv S h0 18))) (ez1 : z1 = ((z_u2 I h0 19 ((I h0 19) - (1 : Int32))) (z_rv S h0 18) (Int32.toNatClampNeg (((666 : Int32) * ((z_u2 I h0 19 ((I h0 19) - (1 : Int32))) h0 19)) + (665 : Int32))))) (kk : z_wp d i_X12_copies [.ref (z_rv S h0 18), .int ((666 : Int32) * ((z_u2 I h0 19 ((I h0 19) - (1 : Int32))) h0 19)), .ref (z_rv S h0 0), .int ((665 : Int32) * z1)] S (z_u2 I h0 19 ((I h0 19) - (1 : Int32))) J (fun vv SS II JJ => Go d i_X12_undo 60 [.ref h0, .int ((666 : Int32) * ((z_u2 I h0 19 ((I h0 19) - (1 : Int32))) h0 19))] (vv.toList ++ []) SS II JJ Q)) : Go d i_X12_undo 15 [.ref h0, v1] [] S I J Q := by
  subst ez1
  have h := (And.intro g1 (And.intro g2 (And.intro g3 (And.intro g4 (And.intro g5 (And.intro g6 (And.intro g7 (And.intro trivial kk))))))))
  exact Go.n tb_X12_undo 25 h
theorem b_X12_undo_60 {d : Nat} {S : zS} {I : zI} {J : zJ} {Q : zQ} {h0 : Nat} {x1 : Int32} (g1 : z_kd S h0 = 13) (kk : Q (some (.int (I h0 19))) S I J) : Go d i_X12_undo 60 [.ref h0, .int x1] [] S I J Q := by
  have h := (And.intro g1 (And.intro trivial kk))
  exact Go.n tb_X12_undo 3 h
theorem w_X12_periodOf {d : Nat} {S : zS} {I : zI} {J : zJ} {Q : zQ} {h0 : Nat} {x1 : Int32} {x2 : Int32} (h : Go d i_X12_periodOf 0 [.ref h0, .int x1, .int x2, .retAddr 0, .retAddr 0] [] S I J Q) : z_wp (d + 1) i_X12_periodOf [.ref h0, .int x1, .int x2] S I J Q := Go.wp (Nat.le_of_ble_eq_true rfl) h
theorem e_X12_periodOf {d : Nat} {S S2 : zS} {I I2 : zI} {J J2 : zJ} {r : Option Value} {h0 : Nat} {x1 : Int32} {x2 : Int32} (h : Go d i_X12_periodOf 0 [.ref h0, .int x1, .int x2, .retAddr 0, .retAddr 0] [] S I J (z_eq r S2 I2 J2)) : z_ev (d + 1) i_X12_periodOf [.ref h0, .int x1, .int x2] S I J r S2 I2 J2 := Go.ev (Nat.le_of_ble_eq_true rfl) h
theorem b_X12_periodOf_0 {d : Nat} {S : zS} {I : zI} {J : zJ} {Q : zQ} {h0 : Nat} {x1 : Int32} {x2 : Int32} {v3 : Value} {v4 : Value} (kk : Go d i_X12_periodOf 5 [.ref h0, .int x1, .int x2, .int (1 : Int32), .int x2] [] S I J Q) : Go d i_X12_periodOf 0 [.ref h0, .int x1, .int x2, v3, v4] [] S I J Q := by
  have h := kk
  exact Go.n tb_X12_periodOf 4 h
theorem b_X12_periodOf_5 {d : Nat} {S : zS} {I : zI} {J : zJ} {Q : zQ} {h0 : Nat} {x1 : Int32} {x2 : Int32} {x3 : Int32} {x4 : Int32} (kt : x4 = (0 : Int32) → Go d i_X12_periodOf 26 [.ref h0, .int x1, .int x2, .int x3, .int x4] [] S I J Q) (kf : ¬ x4 = (0 : Int32) → Go d i_X12_periodOf 10 [.ref h0, .int x1, .int x2, .int x3, .int x4] [] S I J Q) : Go d i_X12_periodOf 5 [.ref h0, .int x1, .int x2, .int x3, .int x4] [] S I J Q := by
  have h := (Go.ite kt kf)
  exact Go.n tb_X12_periodOf 2 h
theorem b_X12_periodOf_10 {d : Nat} {S : zS} {I : zI} {J : zJ} {Q : zQ} {h0 : Nat} {x1 : Int32} {x2 : Int32} {x3 : Int32} {x4 : Int32} (g1 : z_kd S h0 = 13) (kk : z_wp d i_X12_times [.ref h0, .int x1, .int x4, .int x2] S I J (fun vv SS II JJ => Go d i_X12_periodOf 21 [.ref h0, .int x1, .int x2, .int (x3 + (1 : Int32)), .int x4] (vv.toList ++ []) SS II JJ Q)) : Go d i_X12_periodOf 10 [.ref h0, .int x1, .int x2, .int x3, .int x4] [] S I J Q := by
  have h := (And.intro g1 kk)
  exact Go.n tb_X12_periodOf 6 h
theorem b_X12_periodOf_21 {d : Nat} {S : zS} {I : zI} {J : zJ} {Q : zQ} {h0 : Nat} {x1 : Int32} {x2 : Int32} {x3 : Int32} {x4 : Int32} {y0 : Int32} (kk : Go d i_X12_periodOf 5 [.ref h0, .int x1, .int x2, .int x3, .int y0] [] S I J Q) : Go d i_X12_periodOf 21 [.ref h0, .int x1, .int x2, .int x3, .int x4] [.int y0] S I J Q := by
  have h := kk
  exact Go.n tb_X12_periodOf 2 h
theorem b_X12_periodOf_26 {d : Nat} {S : zS} {I : zI} {J : zJ} {Q : zQ} {h0 : Nat} {x1 : Int32} {x2 : Int32} {x3 : Int32} {x4 : Int32} (kk : Q (some (.int x3)) S I J) : Go d i_X12_periodOf 26 [.ref h0, .int x1, .int x2, .int x3, .int x4] [] S I J Q := by
  have h := (And.intro trivial kk)
  exact Go.n tb_X12_periodOf 2 h
theorem w_X12_common {d : Nat} {S : zS} {I : zI} {J : zJ} {Q : zQ} {x0 : Int32} {x1 : Int32} (h : Go d i_X12_common 0 [.int x0, .int x1] [] S I J Q) : z_wp (d + 1) i_X12_common [.int x0, .int x1] S I J Q := Go.wp (Nat.le_of_ble_eq_true rfl) h
theorem e_X12_common {d : Nat} {S S2 : zS} {I I2 : zI} {J J2 : zJ} {r : Option Value} {x0 : Int32} {x1 : Int32} (h : Go d i_X12_common 0 [.int x0, .int x1] [] S I J (z_eq r S2 I2 J2)) : z_ev (d + 1) i_X12_common [.int x0, .int x1] S I J r S2 I2 J2 := Go.ev (Nat.le_of_ble_eq_true rfl) h
theorem b_X12_common_0 {d : Nat} {S : zS} {I : zI} {J : zJ} {Q : zQ} {x0 : Int32} {x1 : Int32} (kt : ¬ x1 = (0 : Int32) → Go d i_X12_common 8 [.int x0, .int x1] [] S I J Q) (kf : x1 = (0 : Int32) → Go d i_X12_common 4 [.int x0, .int x1] [] S I J Q) : Go d i_X12_common 0 [.int x0, .int x1] [] S I J Q := by
  have h := (Go.eti kt kf)
  exact Go.n tb_X12_common 2 h
theorem b_X12_common_4 {d : Nat} {S : zS} {I : zI} {J : zJ} {Q : zQ} {x0 : Int32} {x1 : Int32} (kk : Q (some (.int x0)) S I J) : Go d i_X12_common 4 [.int x0, .int x1] [] S I J Q := by
  have h := (And.intro trivial kk)
  exact Go.n tb_X12_common 3 h
theorem b_X12_common_8 {d : Nat} {S : zS} {I : zI} {J : zJ} {Q : zQ} {x0 : Int32} {x1 : Int32} (g1 : ¬ x1 = 0) (kk : z_wp d i_X12_common [.int x1, .int (x0 - x0 / x1 * x1)] S I J (fun vv SS II JJ => Go d i_X12_common 15 [.int x0, .int x1] (vv.toList ++ []) SS II JJ Q)) : Go d i_X12_common 8 [.int x0, .int x1] [] S I J Q := by
  have h := (And.intro g1 (And.intro trivial kk))
  exact Go.n tb_X12_common 5 h
theorem b_X12_common_15 {d : Nat} {S : zS} {I : zI} {J : zJ} {Q : zQ} {x0 : Int32} {x1 : Int32} {y0 : Int32} (kk : Q (some (.int y0)) S I J) : Go d i_X12_common 15 [.int x0, .int x1] [.int y0] S I J Q := by
  have h := (And.intro trivial kk)
  exact Go.n tb_X12_common 1 h
theorem w_X12_centre {d : Nat} {S : zS} {I : zI} {J : zJ} {Q : zQ} {h0 : Nat} {x1 : Int32} (h : Go d i_X12_centre 0 [.ref h0, .int x1, .retAddr 0, .retAddr 0] [] S I J Q) : z_wp (d + 1) i_X12_centre [.ref h0, .int x1] S I J Q := Go.wp (Nat.le_of_ble_eq_true rfl) h
theorem e_X12_centre {d : Nat} {S S2 : zS} {I I2 : zI} {J J2 : zJ} {r : Option Value} {h0 : Nat} {x1 : Int32} (h : Go d i_X12_centre 0 [.ref h0, .int x1, .retAddr 0, .retAddr 0] [] S I J (z_eq r S2 I2 J2)) : z_ev (d + 1) i_X12_centre [.ref h0, .int x1] S I J r S2 I2 J2 := Go.ev (Nat.le_of_ble_eq_true rfl) h
theorem b_X12_centre_0 {d : Nat} {S : zS} {I : zI} {J : zJ} {Q : zQ} {h0 : Nat} {x1 : Int32} {v2 : Value} {v3 : Value} (kk : Go d i_X12_centre 4 [.ref h0, .int x1, .int (0 : Int32), .int (0 : Int32)] [] S I J Q) : Go d i_X12_centre 0 [.ref h0, .int x1, v2, v3] [] S I J Q := by
  have h := kk
  exact Go.n tb_X12_centre 4 h
theorem b_X12_centre_4 {d : Nat} {S : zS} {I : zI} {J : zJ} {Q : zQ} {h0 : Nat} {x1 : Int32} {x2 : Int32} {x3 : Int32} (g1 : z_kd S h0 = 13) (kk : z_wp d i_X12_many [.ref h0, .int x1] S I J (fun vv SS II JJ => Go d i_X12_centre 10 [.ref h0, .int x1, .int x2, .int x3] (vv.toList ++ [.int x3]) SS II JJ Q)) : Go d i_X12_centre 4 [.ref h0, .int x1, .int x2, .int x3] [] S I J Q := by
  have h := (And.intro g1 kk)
  exact Go.n tb_X12_centre 4 h
theorem b_X12_centre_10 {d : Nat} {S : zS} {I : zI} {J : zJ} {Q : zQ} {h0 : Nat} {x1 : Int32} {x2 : Int32} {x3 : Int32} {y0 : Int32} {y1 : Int32} (kt : y1 ≤ y0 → Go d i_X12_centre 40 [.ref h0, .int x1, .int x2, .int x3] [] S I J Q) (kf : ¬ y1 ≤ y0 → Go d i_X12_centre 13 [.ref h0, .int x1, .int x2, .int x3] [] S I J Q) : Go d i_X12_centre 10 [.ref h0, .int x1, .int x2, .int x3] [.int y1, .int y0] S I J Q := by
  have h := (Go.ite kt kf)
  exact Go.n tb_X12_centre 1 h
theorem b_X12_centre_13 {d : Nat} {S : zS} {I : zI} {J : zJ} {Q : zQ} {h0 : Nat} {x1 : Int32} {x2 : Int32} {x3 : Int32} (g1 : z_kd S h0 = 13) (kk : z_wp d i_X12_classBits [.ref h0, .int x1, .int x3] S I J (fun vv SS II JJ => Go d i_X12_centre 20 [.ref h0, .int x1, .int x2, .int x3] (vv.toList ++ [.int x2]) SS II JJ Q)) : Go d i_X12_centre 13 [.ref h0, .int x1, .int x2, .int x3] [] S I J Q := by
  have h := (And.intro g1 kk)
  exact Go.n tb_X12_centre 5 h
theorem b_X12_centre_20 {d : Nat} {S : zS} {I : zI} {J : zJ} {Q : zQ} {h0 : Nat} {x1 : Int32} {x2 : Int32} {x3 : Int32} {y0 : Int32} {y1 : Int32} (kk : z_wp d i_X12_bits [.int y1] S I J (fun vv SS II JJ => Go d i_X12_centre 23 [.ref h0, .int x1, .int x2, .int x3] (vv.toList ++ [.int y0]) SS II JJ Q)) : Go d i_X12_centre 20 [.ref h0, .int x1, .int x2, .int x3] [.int y1, .int y0] S I J Q := by
  have h := (And.intro trivial kk)
  exact Go.n tb_X12_centre 1 h
theorem b_X12_centre_23 {d : Nat} {S : zS} {I : zI} {J : zJ} {Q : zQ} {h0 : Nat} {x1 : Int32} {x2 : Int32} {x3 : Int32} {y0 : Int32} {y1 : Int32} (kt : ¬ y1 = (1 : Int32) → Go d i_X12_centre 31 [.ref h0, .int x1, .int x2, .int x3] [.int y0] S I J Q) (kf : y1 = (1 : Int32) → Go d i_X12_centre 27 [.ref h0, .int x1, .int x2, .int x3] [.int y0] S I J Q) : Go d i_X12_centre 23 [.ref h0, .int x1, .int x2, .int x3] [.int y1, .int y0] S I J Q := by
  have h := (Go.eti kt kf)
  exact Go.n tb_X12_centre 2 h
theorem b_X12_centre_27 {d : Nat} {S : zS} {I : zI} {J : zJ} {Q : zQ} {h0 : Nat} {x1 : Int32} {x2 : Int32} {x3 : Int32} {y0 : Int32} (kk : Go d i_X12_centre 4 [.ref h0, .int x1, .int (y0 + (1 : Int32)), .int (x3 + (1 : Int32))] [] S I J Q) : Go d i_X12_centre 27 [.ref h0, .int x1, .int x2, .int x3] [.int y0] S I J Q := by
  have h := kk
  exact Go.n tb_X12_centre 6 h
theorem b_X12_centre_31 {d : Nat} {S : zS} {I : zI} {J : zJ} {Q : zQ} {h0 : Nat} {x1 : Int32} {x2 : Int32} {x3 : Int32} {y0 : Int32} (kk : Go d i_X12_centre 4 [.ref h0, .int x1, .int (y0 + (0 : Int32)), .int (x3 + (1 : Int32))] [] S I J Q) : Go d i_X12_centre 31 [.ref h0, .int x1, .int x2, .int x3] [.int y0] S I J Q := by
  have h := kk
  exact Go.n tb_X12_centre 5 h
theorem b_X12_centre_40 {d : Nat} {S : zS} {I : zI} {J : zJ} {Q : zQ} {h0 : Nat} {x1 : Int32} {x2 : Int32} {x3 : Int32} (kk : Q (some (.int x2)) S I J) : Go d i_X12_centre 40 [.ref h0, .int x1, .int x2, .int x3] [] S I J Q := by
  have h := (And.intro trivial kk)
  exact Go.n tb_X12_centre 2 h
theorem w_X12_classes {d : Nat} {S : zS} {I : zI} {J : zJ} {Q : zQ} {h0 : Nat} {x1 : Int32} (h : Go d i_X12_classes 0 [.ref h0, .int x1, .retAddr 0, .retAddr 0] [] S I J Q) : z_wp (d + 1) i_X12_classes [.ref h0, .int x1] S I J Q := Go.wp (Nat.le_of_ble_eq_true rfl) h
theorem e_X12_classes {d : Nat} {S S2 : zS} {I I2 : zI} {J J2 : zJ} {r : Option Value} {h0 : Nat} {x1 : Int32} (h : Go d i_X12_classes 0 [.ref h0, .int x1, .retAddr 0, .retAddr 0] [] S I J (z_eq r S2 I2 J2)) : z_ev (d + 1) i_X12_classes [.ref h0, .int x1] S I J r S2 I2 J2 := Go.ev (Nat.le_of_ble_eq_true rfl) h
theorem b_X12_classes_0 {d : Nat} {S : zS} {I : zI} {J : zJ} {Q : zQ} {h0 : Nat} {x1 : Int32} {v2 : Value} {v3 : Value} (kk : Go d i_X12_classes 4 [.ref h0, .int x1, .int (0 : Int32), .int (0 : Int32)] [] S I J Q) : Go d i_X12_classes 0 [.ref h0, .int x1, v2, v3] [] S I J Q := by
  have h := kk
  exact Go.n tb_X12_classes 4 h
theorem b_X12_classes_4 {d : Nat} {S : zS} {I : zI} {J : zJ} {Q : zQ} {h0 : Nat} {x1 : Int32} {x2 : Int32} {x3 : Int32} (g1 : z_kd S h0 = 13) (kk : z_wp d i_X12_many [.ref h0, .int x1] S I J (fun vv SS II JJ => Go d i_X12_classes 10 [.ref h0, .int x1, .int x2, .int x3] (vv.toList ++ [.int x3]) SS II JJ Q)) : Go d i_X12_classes 4 [.ref h0, .int x1, .int x2, .int x3] [] S I J Q := by
  have h := (And.intro g1 kk)
  exact Go.n tb_X12_classes 4 h
theorem b_X12_classes_10 {d : Nat} {S : zS} {I : zI} {J : zJ} {Q : zQ} {h0 : Nat} {x1 : Int32} {x2 : Int32} {x3 : Int32} {y0 : Int32} {y1 : Int32} (kt : y1 ≤ y0 → Go d i_X12_classes 42 [.ref h0, .int x1, .int x2, .int x3] [] S I J Q) (kf : ¬ y1 ≤ y0 → Go d i_X12_classes 13 [.ref h0, .int x1, .int x2, .int x3] [] S I J Q) : Go d i_X12_classes 10 [.ref h0, .int x1, .int x2, .int x3] [.int y1, .int y0] S I J Q := by
  have h := (Go.ite kt kf)
  exact Go.n tb_X12_classes 1 h
theorem b_X12_classes_13 {d : Nat} {S : zS} {I : zI} {J : zJ} {Q : zQ} {h0 : Nat} {x1 : Int32} {x2 : Int32} {x3 : Int32} (g1 : z_kd S h0 = 13) (kk : z_wp d i_X12_classBits [.ref h0, .int x1, .int x3] S I J (fun vv SS II JJ => Go d i_X12_classes 20 [.ref h0, .int x1, .int x2, .int x3] (vv.toList ++ [.int x2]) SS II JJ Q)) : Go d i_X12_classes 13 [.ref h0, .int x1, .int x2, .int x3] [] S I J Q := by
  have h := (And.intro g1 kk)
  exact Go.n tb_X12_classes 5 h
theorem b_X12_classes_20 {d : Nat} {S : zS} {I : zI} {J : zJ} {Q : zQ} {h0 : Nat} {x1 : Int32} {x2 : Int32} {x3 : Int32} {y0 : Int32} {y1 : Int32} (kt : ¬ (y1 &&& (((1 : Int32) <<< (x3 &&& 31)) - (1 : Int32))) = (0 : Int32) → Go d i_X12_classes 33 [.ref h0, .int x1, .int x2, .int x3] [.int y0] S I J Q) (kf : (y1 &&& (((1 : Int32) <<< (x3 &&& 31)) - (1 : Int32))) = (0 : Int32) → Go d i_X12_classes 29 [.ref h0, .int x1, .int x2, .int x3] [.int y0] S I J Q) : Go d i_X12_classes 20 [.ref h0, .int x1, .int x2, .int x3] [.int y1, .int y0] S I J Q := by
  have h := (Go.eti kt kf)
  exact Go.n tb_X12_classes 7 h
theorem b_X12_classes_29 {d : Nat} {S : zS} {I : zI} {J : zJ} {Q : zQ} {h0 : Nat} {x1 : Int32} {x2 : Int32} {x3 : Int32} {y0 : Int32} (kk : Go d i_X12_classes 4 [.ref h0, .int x1, .int (y0 + (1 : Int32)), .int (x3 + (1 : Int32))] [] S I J Q) : Go d i_X12_classes 29 [.ref h0, .int x1, .int x2, .int x3] [.int y0] S I J Q := by
  have h := kk
  exact Go.n tb_X12_classes 6 h
theorem b_X12_classes_33 {d : Nat} {S : zS} {I : zI} {J : zJ} {Q : zQ} {h0 : Nat} {x1 : Int32} {x2 : Int32} {x3 : Int32} {y0 : Int32} (kk : Go d i_X12_classes 4 [.ref h0, .int x1, .int (y0 + (0 : Int32)), .int (x3 + (1 : Int32))] [] S I J Q) : Go d i_X12_classes 33 [.ref h0, .int x1, .int x2, .int x3] [.int y0] S I J Q := by
  have h := kk
  exact Go.n tb_X12_classes 5 h
theorem b_X12_classes_42 {d : Nat} {S : zS} {I : zI} {J : zJ} {Q : zQ} {h0 : Nat} {x1 : Int32} {x2 : Int32} {x3 : Int32} (kk : Q (some (.int x2)) S I J) : Go d i_X12_classes 42 [.ref h0, .int x1, .int x2, .int x3] [] S I J Q := by
  have h := (And.intro trivial kk)
  exact Go.n tb_X12_classes 2 h
theorem w_X12_derived {d : Nat} {S : zS} {I : zI} {J : zJ} {Q : zQ} {h0 : Nat} {x1 : Int32} (h : Go d i_X12_derived 0 [.ref h0, .int x1, .retAddr 0, .retAddr 0, .retAddr 0, .retAddr 0] [] S I J Q) : z_wp (d + 1) i_X12_derived [.ref h0, .int x1] S I J Q := Go.wp (Nat.le_of_ble_eq_true rfl) h
theorem e_X12_derived {d : Nat} {S S2 : zS} {I I2 : zI} {J J2 : zJ} {r : Option Value} {h0 : Nat} {x1 : Int32} (h : Go d i_X12_derived 0 [.ref h0, .int x1, .retAddr 0, .retAddr 0, .retAddr 0, .retAddr 0] [] S I J (z_eq r S2 I2 J2)) : z_ev (d + 1) i_X12_derived [.ref h0, .int x1] S I J r S2 I2 J2 := Go.ev (Nat.le_of_ble_eq_true rfl) h
theorem b_X12_derived_0 {d : Nat} {S : zS} {I : zI} {J : zJ} {Q : zQ} {h0 : Nat} {x1 : Int32} {v2 : Value} {v3 : Value} {v4 : Value} {v5 : Value} (kk : Go d i_X12_derived 4 [.ref h0, .int x1, .int (0 : Int32), .int (0 : Int32), v4, v5] [] S I J Q) : Go d i_X12_derived 0 [.ref h0, .int x1, v2, v3, v4, v5] [] S I J Q := by
  have h := kk
  exact Go.n tb_X12_derived 4 h
theorem b_X12_derived_4 {d : Nat} {S : zS} {I : zI} {J : zJ} {Q : zQ} {h0 : Nat} {x1 : Int32} {x2 : Int32} {x3 : Int32} {v4 : Value} {v5 : Value} (g1 : z_kd S h0 = 13) (kk : z_wp d i_X12_many [.ref h0, .int x1] S I J (fun vv SS II JJ => Go d i_X12_derived 10 [.ref h0, .int x1, .int x2, .int x3, v4, v5] (vv.toList ++ [.int x3]) SS II JJ Q)) : Go d i_X12_derived 4 [.ref h0, .int x1, .int x2, .int x3, v4, v5] [] S I J Q := by
  have h := (And.intro g1 kk)
  exact Go.n tb_X12_derived 4 h
theorem b_X12_derived_10 {d : Nat} {S : zS} {I : zI} {J : zJ} {Q : zQ} {h0 : Nat} {x1 : Int32} {x2 : Int32} {x3 : Int32} {v4 : Value} {v5 : Value} {y0 : Int32} {y1 : Int32} (kt : y1 ≤ y0 → Go d i_X12_derived 86 [.ref h0, .int x1, .int x2, .int x3, v4, v5] [] S I J Q) (kf : ¬ y1 ≤ y0 → Go d i_X12_derived 13 [.ref h0, .int x1, .int x2, .int x3, v4, v5] [] S I J Q) : Go d i_X12_derived 10 [.ref h0, .int x1, .int x2, .int x3, v4, v5] [.int y1, .int y0] S I J Q := by
  have h := (Go.ite kt kf)
  exact Go.n tb_X12_derived 1 h
theorem b_X12_derived_13 {d : Nat} {S : zS} {I : zI} {J : zJ} {Q : zQ} {h0 : Nat} {x1 : Int32} {x2 : Int32} {x3 : Int32} {v4 : Value} {v5 : Value} (kk : Go d i_X12_derived 16 [.ref h0, .int x1, .int x2, .int x3, .int (0 : Int32), v5] [] S I J Q) : Go d i_X12_derived 13 [.ref h0, .int x1, .int x2, .int x3, v4, v5] [] S I J Q := by
  have h := kk
  exact Go.n tb_X12_derived 2 h
theorem b_X12_derived_16 {d : Nat} {S : zS} {I : zI} {J : zJ} {Q : zQ} {h0 : Nat} {x1 : Int32} {x2 : Int32} {x3 : Int32} {x4 : Int32} {v5 : Value} (g1 : z_kd S h0 = 13) (kk : z_wp d i_X12_many [.ref h0, .int x1] S I J (fun vv SS II JJ => Go d i_X12_derived 23 [.ref h0, .int x1, .int x2, .int x3, .int x4, v5] (vv.toList ++ [.int x4]) SS II JJ Q)) : Go d i_X12_derived 16 [.ref h0, .int x1, .int x2, .int x3, .int x4, v5] [] S I J Q := by
  have h := (And.intro g1 kk)
  exact Go.n tb_X12_derived 4 h
theorem b_X12_derived_23 {d : Nat} {S : zS} {I : zI} {J : zJ} {Q : zQ} {h0 : Nat} {x1 : Int32} {x2 : Int32} {x3 : Int32} {x4 : Int32} {v5 : Value} {y0 : Int32} {y1 : Int32} (kt : y1 ≤ y0 → Go d i_X12_derived 80 [.ref h0, .int x1, .int x2, .int x3, .int x4, v5] [] S I J Q) (kf : ¬ y1 ≤ y0 → Go d i_X12_derived 26 [.ref h0, .int x1, .int x2, .int x3, .int x4, v5] [] S I J Q) : Go d i_X12_derived 23 [.ref h0, .int x1, .int x2, .int x3, .int x4, v5] [.int y1, .int y0] S I J Q := by
  have h := (Go.ite kt kf)
  exact Go.n tb_X12_derived 1 h
theorem b_X12_derived_26 {d : Nat} {S : zS} {I : zI} {J : zJ} {Q : zQ} {h0 : Nat} {x1 : Int32} {x2 : Int32} {x3 : Int32} {x4 : Int32} {v5 : Value} (g1 : z_kd S h0 = 13) (kk : z_wp d i_X12_inverse [.ref h0, .int ((665 : Int32) * x1), .int x3] S I J (fun vv SS II JJ => Go d i_X12_derived 38 [.ref h0, .int x1, .int x2, .int x3, .int x4, v5] (vv.toList ++ [.int x1, .ref h0]) SS II JJ Q)) : Go d i_X12_derived 26 [.ref h0, .int x1, .int x2, .int x3, .int x4, v5] [] S I J Q := by
  have h := (And.intro g1 kk)
  exact Go.n tb_X12_derived 8 h
theorem b_X12_derived_38 {d : Nat} {S : zS} {I : zI} {J : zJ} {Q : zQ} {h0 : Nat} {x1 : Int32} {x2 : Int32} {x3 : Int32} {x4 : Int32} {v5 : Value} {q0 : Nat} {y1 : Int32} {y2 : Int32} (g1 : z_kd S h0 = 13) (kk : z_wp d i_X12_inverse [.ref h0, .int ((665 : Int32) * x1), .int x4] S I J (fun vv SS II JJ => Go d i_X12_derived 49 [.ref h0, .int x1, .int x2, .int x3, .int x4, v5] (vv.toList ++ [.int y2, .int y1, .ref q0]) SS II JJ Q)) : Go d i_X12_derived 38 [.ref h0, .int x1, .int x2, .int x3, .int x4, v5] [.int y2, .int y1, .ref q0] S I J Q := by
  have h := (And.intro g1 kk)
  exact Go.n tb_X12_derived 6 h
theorem b_X12_derived_49 {d : Nat} {S : zS} {I : zI} {J : zJ} {Q : zQ} {h0 : Nat} {x1 : Int32} {x2 : Int32} {x3 : Int32} {x4 : Int32} {v5 : Value} {q0 : Nat} {y1 : Int32} {y2 : Int32} {y3 : Int32} (g1 : z_kd S q0 = 13) (kk : z_wp d i_X12_times [.ref q0, .int y1, .int y2, .int y3] S I J (fun vv SS II JJ => Go d i_X12_derived 52 [.ref h0, .int x1, .int x2, .int x3, .int x4, v5] (vv.toList ++ []) SS II JJ Q)) : Go d i_X12_derived 49 [.ref h0, .int x1, .int x2, .int x3, .int x4, v5] [.int y3, .int y2, .int y1, .ref q0] S I J Q := by
  have h := (And.intro g1 kk)
  exact Go.n tb_X12_derived 1 h
theorem b_X12_derived_52 {d : Nat} {S : zS} {I : zI} {J : zJ} {Q : zQ} {h0 : Nat} {x1 : Int32} {x2 : Int32} {x3 : Int32} {x4 : Int32} {v5 : Value} {y0 : Int32} (g1 : z_kd S h0 = 13) (kk : z_wp d i_X12_times [.ref h0, .int x1, .int x3, .int x4] S I J (fun vv SS II JJ => Go d i_X12_derived 68 [.ref h0, .int x1, .int x2, .int x3, .int x4, .int y0] (vv.toList ++ [.int y0, .int x1, .ref h0, .int (1 : Int32), .int x2]) SS II JJ Q)) : Go d i_X12_derived 52 [.ref h0, .int x1, .int x2, .int x3, .int x4, v5] [.int y0] S I J Q := by
  have h := (And.intro g1 kk)
  exact Go.n tb_X12_derived 11 h
theorem b_X12_derived_68 {d : Nat} {S : zS} {I : zI} {J : zJ} {Q : zQ} {h0 : Nat} {x1 : Int32} {x2 : Int32} {x3 : Int32} {x4 : Int32} {x5 : Int32} {y0 : Int32} {y1 : Int32} {q2 : Nat} {y3 : Int32} {y4 : Int32} {y5 : Int32} (g1 : z_kd S q2 = 13) (kk : z_wp d i_X12_times [.ref q2, .int y3, .int y4, .int y5] S I J (fun vv SS II JJ => Go d i_X12_derived 71 [.ref h0, .int x1, .int x2, .int x3, .int x4, .int x5] (vv.toList ++ [.int y1, .int y0]) SS II JJ Q)) : Go d i_X12_derived 68 [.ref h0, .int x1, .int x2, .int x3, .int x4, .int x5] [.int y5, .int y4, .int y3, .ref q2, .int y1, .int y0] S I J Q := by
  have h := (And.intro g1 kk)
  exact Go.n tb_X12_derived 1 h
theorem b_X12_derived_71 {d : Nat} {S : zS} {I : zI} {J : zJ} {Q : zQ} {h0 : Nat} {x1 : Int32} {x2 : Int32} {x3 : Int32} {x4 : Int32} {x5 : Int32} {y0 : Int32} {y1 : Int32} {y2 : Int32} (kk : Go d i_X12_derived 16 [.ref h0, .int x1, .int (y0 ||| (y1 <<< (y2 &&& 31))), .int x3, .int (x4 + (1 : Int32)), .int x5] [] S I J Q) : Go d i_X12_derived 71 [.ref h0, .int x1, .int x2, .int x3, .int x4, .int x5] [.int y2, .int y1, .int y0] S I J Q := by
  have h := kk
  exact Go.n tb_X12_derived 5 h
theorem b_X12_derived_80 {d : Nat} {S : zS} {I : zI} {J : zJ} {Q : zQ} {h0 : Nat} {x1 : Int32} {x2 : Int32} {x3 : Int32} {x4 : Int32} {v5 : Value} (kk : Go d i_X12_derived 4 [.ref h0, .int x1, .int x2, .int (x3 + (1 : Int32)), .int x4, v5] [] S I J Q) : Go d i_X12_derived 80 [.ref h0, .int x1, .int x2, .int x3, .int x4, v5] [] S I J Q := by
  have h := kk
  exact Go.n tb_X12_derived 2 h
theorem b_X12_derived_86 {d : Nat} {S : zS} {I : zI} {J : zJ} {Q : zQ} {h0 : Nat} {x1 : Int32} {x2 : Int32} {x3 : Int32} {v4 : Value} {v5 : Value} (g1 : z_kd S h0 = 13) (kk : z_wp d i_X12_subgroupOf [.ref h0, .int x1, .int x2] S I J (fun vv SS II JJ => Go d i_X12_derived 92 [.ref h0, .int x1, .int x2, .int x3, v4, v5] (vv.toList ++ []) SS II JJ Q)) : Go d i_X12_derived 86 [.ref h0, .int x1, .int x2, .int x3, v4, v5] [] S I J Q := by
  have h := (And.intro g1 kk)
  exact Go.n tb_X12_derived 4 h
theorem b_X12_derived_92 {d : Nat} {S : zS} {I : zI} {J : zJ} {Q : zQ} {h0 : Nat} {x1 : Int32} {x2 : Int32} {x3 : Int32} {v4 : Value} {v5 : Value} {y0 : Int32} (kk : z_wp d i_X12_bits [.int y0] S I J (fun vv SS II JJ => Go d i_X12_derived 95 [.ref h0, .int x1, .int x2, .int x3, v4, v5] (vv.toList ++ []) SS II JJ Q)) : Go d i_X12_derived 92 [.ref h0, .int x1, .int x2, .int x3, v4, v5] [.int y0] S I J Q := by
  have h := (And.intro trivial kk)
  exact Go.n tb_X12_derived 1 h
theorem b_X12_derived_95 {d : Nat} {S : zS} {I : zI} {J : zJ} {Q : zQ} {h0 : Nat} {x1 : Int32} {x2 : Int32} {x3 : Int32} {v4 : Value} {v5 : Value} {y0 : Int32} (kk : Q (some (.int y0)) S I J) : Go d i_X12_derived 95 [.ref h0, .int x1, .int x2, .int x3, v4, v5] [.int y0] S I J Q := by
  have h := (And.intro trivial kk)
  exact Go.n tb_X12_derived 1 h
theorem w_X12_comes {d : Nat} {S : zS} {I : zI} {J : zJ} {Q : zQ} {h0 : Nat} {x1 : Int32} (h : Go d i_X12_comes 0 [.ref h0, .int x1, .retAddr 0, .retAddr 0] [] S I J Q) : z_wp (d + 1) i_X12_comes [.ref h0, .int x1] S I J Q := Go.wp (Nat.le_of_ble_eq_true rfl) h
theorem e_X12_comes {d : Nat} {S S2 : zS} {I I2 : zI} {J J2 : zJ} {r : Option Value} {h0 : Nat} {x1 : Int32} (h : Go d i_X12_comes 0 [.ref h0, .int x1, .retAddr 0, .retAddr 0] [] S I J (z_eq r S2 I2 J2)) : z_ev (d + 1) i_X12_comes [.ref h0, .int x1] S I J r S2 I2 J2 := Go.ev (Nat.le_of_ble_eq_true rfl) h
theorem b_X12_comes_0 {d : Nat} {S : zS} {I : zI} {J : zJ} {Q : zQ} {h0 : Nat} {x1 : Int32} {v2 : Value} {v3 : Value} (g1 : z_kd S h0 = 13) (kk : Go d i_X12_comes 5 [.ref h0, .int x1, .int (I h0 23), v3] [] S I J Q) : Go d i_X12_comes 0 [.ref h0, .int x1, v2, v3] [] S I J Q := by
  have h := (And.intro g1 kk)
  exact Go.n tb_X12_comes 3 h
theorem b_X12_comes_5 {d : Nat} {S : zS} {I : zI} {J : zJ} {Q : zQ} {h0 : Nat} {x1 : Int32} {x2 : Int32} {v3 : Value} (kt : x2 ≤ (0 : Int32) → Go d i_X12_comes 27 [.ref h0, .int x1, .int x2, v3] [] S I J Q) (kf : ¬ x2 ≤ (0 : Int32) → Go d i_X12_comes 9 [.ref h0, .int x1, .int x2, v3] [] S I J Q) : Go d i_X12_comes 5 [.ref h0, .int x1, .int x2, v3] [] S I J Q := by
  have h := (Go.ite kt kf)
  exact Go.n tb_X12_comes 2 h
theorem b_X12_comes_9 {d : Nat} {S : zS} {I : zI} {J : zJ} {Q : zQ} {h0 : Nat} {x1 : Int32} {x2 : Int32} {v3 : Value} (g1 : z_kd S h0 = 13) (g2 : z_isI (z_kd S (z_rv S h0 22)) = true ∧ vp_in (x2 - (1 : Int32)) (z_ln S (z_rv S h0 22))) (kt : (I (z_rv S h0 22) (Int32.toNatClampNeg (x2 - (1 : Int32)))) ≤ x1 → Go d i_X12_comes 27 [.ref h0, .int x1, .int x2, v3] [] S I J Q) (kf : ¬ (I (z_rv S h0 22) (Int32.toNatClampNeg (x2 - (1 : Int32)))) ≤ x1 → Go d i_X12_comes 21 [.ref h0, .int x1, .int x2, v3] [] S I J Q) : Go d i_X12_comes 9 [.ref h0, .int x1, .int x2, v3] [] S I J Q := by
  have h := (And.intro g1 (And.intro g2 (Go.ite kt kf)))
  exact Go.n tb_X12_comes 8 h
theorem b_X12_comes_21 {d : Nat} {S : zS} {I : zI} {J : zJ} {Q : zQ} {h0 : Nat} {x1 : Int32} {x2 : Int32} {v3 : Value} (kk : Go d i_X12_comes 5 [.ref h0, .int x1, .int (x2 + (-1 : Int32)), v3] [] S I J Q) : Go d i_X12_comes 21 [.ref h0, .int x1, .int x2, v3] [] S I J Q := by
  have h := kk
  exact Go.n tb_X12_comes 2 h
theorem b_X12_comes_27 {d : Nat} {S : zS} {I : zI} {J : zJ} {Q : zQ} {h0 : Nat} {x1 : Int32} {x2 : Int32} {v3 : Value} (kt : x2 ≤ (0 : Int32) → Go d i_X12_comes 44 [.ref h0, .int x1, .int x2, v3] [] S I J Q) (kf : ¬ x2 ≤ (0 : Int32) → Go d i_X12_comes 31 [.ref h0, .int x1, .int x2, v3] [] S I J Q) : Go d i_X12_comes 27 [.ref h0, .int x1, .int x2, v3] [] S I J Q := by
  have h := (Go.ite kt kf)
  exact Go.n tb_X12_comes 2 h
theorem b_X12_comes_31 {d : Nat} {S : zS} {I : zI} {J : zJ} {Q : zQ} {h0 : Nat} {x1 : Int32} {x2 : Int32} {v3 : Value} (g1 : z_kd S h0 = 13) (g2 : z_isI (z_kd S (z_rv S h0 22)) = true ∧ vp_in (x2 - (1 : Int32)) (z_ln S (z_rv S h0 22))) (kt : ¬ (I (z_rv S h0 22) (Int32.toNatClampNeg (x2 - (1 : Int32)))) = x1 → Go d i_X12_comes 44 [.ref h0, .int x1, .int x2, v3] [] S I J Q) (kf : (I (z_rv S h0 22) (Int32.toNatClampNeg (x2 - (1 : Int32)))) = x1 → Go d i_X12_comes 43 [.ref h0, .int x1, .int x2, v3] [] S I J Q) : Go d i_X12_comes 31 [.ref h0, .int x1, .int x2, v3] [] S I J Q := by
  have h := (And.intro g1 (And.intro g2 (Go.eti kt kf)))
  exact Go.n tb_X12_comes 8 h
theorem b_X12_comes_43 {d : Nat} {S : zS} {I : zI} {J : zJ} {Q : zQ} {h0 : Nat} {x1 : Int32} {x2 : Int32} {v3 : Value} (kk : Q none S I J) : Go d i_X12_comes 43 [.ref h0, .int x1, .int x2, v3] [] S I J Q := by
  have h := (And.intro trivial kk)
  exact Go.n tb_X12_comes 1 h
theorem b_X12_comes_44 {d : Nat} {S : zS} {I : zI} {J : zJ} {Q : zQ} {h0 : Nat} {x1 : Int32} {x2 : Int32} {v3 : Value} (g1 : z_kd S h0 = 13) (kk : Go d i_X12_comes 49 [.ref h0, .int x1, .int x2, .int (I h0 23)] [] S I J Q) : Go d i_X12_comes 44 [.ref h0, .int x1, .int x2, v3] [] S I J Q := by
  have h := (And.intro g1 kk)
  exact Go.n tb_X12_comes 3 h
theorem b_X12_comes_49 {d : Nat} {S : zS} {I : zI} {J : zJ} {Q : zQ} {h0 : Nat} {x1 : Int32} {x2 : Int32} {x3 : Int32} (kt : x3 ≤ x2 → Go d i_X12_comes 74 [.ref h0, .int x1, .int x2, .int x3] [] S I J Q) (kf : ¬ x3 ≤ x2 → Go d i_X12_comes 54 [.ref h0, .int x1, .int x2, .int x3] [] S I J Q) : Go d i_X12_comes 49 [.ref h0, .int x1, .int x2, .int x3] [] S I J Q := by
  have h := (Go.ite kt kf)
  exact Go.n tb_X12_comes 3 h
theorem b_X12_comes_54 {d : Nat} {S : zS} {I : zI} {J : zJ} {Q : zQ} {h0 : Nat} {x1 : Int32} {x2 : Int32} {x3 : Int32} (g1 : z_kd S h0 = 13) (g2 : z_kd S h0 = 13) (g3 : z_isI (z_kd S (z_rv S h0 22)) = true ∧ vp_in (x3 - (1 : Int32)) (z_ln S (z_rv S h0 22))) (g4 : z_kd S (z_rv S h0 22) = 100 ∧ vp_in x3 (z_ln S (z_rv S h0 22))) (kk : Go d i_X12_comes 49 [.ref h0, .int x1, .int x2, .int (x3 + (-1 : Int32))] [] S (z_u2 I (z_rv S h0 22) (Int32.toNatClampNeg x3) (I (z_rv S h0 22) (Int32.toNatClampNeg (x3 - (1 : Int32))))) J Q) : Go d i_X12_comes 54 [.ref h0, .int x1, .int x2, .int x3] [] S I J Q := by
  have h := (And.intro g1 (And.intro g2 (And.intro g3 (And.intro g4 kk))))
  exact Go.n tb_X12_comes 12 h
theorem b_X12_comes_74 {d : Nat} {S : zS} {I : zI} {J : zJ} {Q : zQ} {h0 : Nat} {x1 : Int32} {x2 : Int32} {x3 : Int32} {I1 : zI} (g1 : z_kd S h0 = 13) (g2 : z_kd S (z_rv S h0 22) = 100 ∧ vp_in x2 (z_ln S (z_rv S h0 22))) (g3 : z_kd S h0 = 13) (g4 : z_kd S h0 = 13) (eI1 : I1 = z_u2 (z_u2 I (z_rv S h0 22) (Int32.toNatClampNeg x2) x1) h0 23 (((z_u2 I (z_rv S h0 22) (Int32.toNatClampNeg x2) x1) h0 23) + (1 : Int32))) (kk : Q none S I1 J) : Go d i_X12_comes 74 [.ref h0, .int x1, .int x2, .int x3] [] S I J Q := by
  subst eI1
  have h := (And.intro g1 (And.intro g2 (And.intro g3 (And.intro g4 (And.intro trivial kk)))))
  exact Go.n tb_X12_comes 12 h
theorem w_X12_laysSubgroups {d : Nat} {S : zS} {I : zI} {J : zJ} {Q : zQ} {h0 : Nat} {x1 : Int32} (h : Go d i_X12_laysSubgroups 0 [.ref h0, .int x1, .retAddr 0, .retAddr 0, .retAddr 0, .retAddr 0] [] S I J Q) : z_wp (d + 1) i_X12_laysSubgroups [.ref h0, .int x1] S I J Q := Go.wp (Nat.le_of_ble_eq_true rfl) h
theorem e_X12_laysSubgroups {d : Nat} {S S2 : zS} {I I2 : zI} {J J2 : zJ} {r : Option Value} {h0 : Nat} {x1 : Int32} (h : Go d i_X12_laysSubgroups 0 [.ref h0, .int x1, .retAddr 0, .retAddr 0, .retAddr 0, .retAddr 0] [] S I J (z_eq r S2 I2 J2)) : z_ev (d + 1) i_X12_laysSubgroups [.ref h0, .int x1] S I J r S2 I2 J2 := Go.ev (Nat.le_of_ble_eq_true rfl) h
theorem b_X12_laysSubgroups_0 {d : Nat} {S : zS} {I : zI} {J : zJ} {Q : zQ} {h0 : Nat} {x1 : Int32} {v2 : Value} {v3 : Value} {v4 : Value} {v5 : Value} (g1 : z_kd S h0 = 13) (g2 : z_kd S h0 = 13) (kk : z_wp d i_X12_comes [.ref h0, .int (1 : Int32)] S (z_u2 I h0 23 (0 : Int32)) J (fun vv SS II JJ => Go d i_X12_laysSubgroups 10 [.ref h0, .int x1, v2, v3, v4, v5] (vv.toList ++ []) SS II JJ Q)) : Go d i_X12_laysSubgroups 0 [.ref h0, .int x1, v2, v3, v4, v5] [] S I J Q := by
  have h := (And.intro g1 (And.intro g2 kk))
  exact Go.n tb_X12_laysSubgroups 6 h
theorem b_X12_laysSubgroups_10 {d : Nat} {S : zS} {I : zI} {J : zJ} {Q : zQ} {h0 : Nat} {x1 : Int32} {v2 : Value} {v3 : Value} {v4 : Value} {v5 : Value} (kk : Go d i_X12_laysSubgroups 12 [.ref h0, .int x1, .int (0 : Int32), v3, v4, v5] [] S I J Q) : Go d i_X12_laysSubgroups 10 [.ref h0, .int x1, v2, v3, v4, v5] [] S I J Q := by
  have h := kk
  exact Go.n tb_X12_laysSubgroups 2 h
theorem b_X12_laysSubgroups_12 {d : Nat} {S : zS} {I : zI} {J : zJ} {Q : zQ} {h0 : Nat} {x1 : Int32} {x2 : Int32} {v3 : Value} {v4 : Value} {v5 : Value} (g1 : z_kd S h0 = 13) (kt : x2 = (I h0 23) → Go d i_X12_laysSubgroups 97 [.ref h0, .int x1, .int x2, v3, v4, v5] [] S I J Q) (kf : ¬ x2 = (I h0 23) → Go d i_X12_laysSubgroups 20 [.ref h0, .int x1, .int x2, v3, v4, v5] [] S I J Q) : Go d i_X12_laysSubgroups 12 [.ref h0, .int x1, .int x2, v3, v4, v5] [] S I J Q := by
  have h := (And.intro g1 (Go.ite kt kf))
  exact Go.n tb_X12_laysSubgroups 4 h
theorem b_X12_laysSubgroups_20 {d : Nat} {S : zS} {I : zI} {J : zJ} {Q : zQ} {h0 : Nat} {x1 : Int32} {x2 : Int32} {v3 : Value} {v4 : Value} {v5 : Value} (g1 : z_kd S h0 = 13) (kk : Go d i_X12_laysSubgroups 27 [.ref h0, .int x1, .int (I h0 23), .int (0 : Int32), v4, v5] [] S I J Q) : Go d i_X12_laysSubgroups 20 [.ref h0, .int x1, .int x2, v3, v4, v5] [] S I J Q := by
  have h := (And.intro g1 kk)
  exact Go.n tb_X12_laysSubgroups 5 h
theorem b_X12_laysSubgroups_27 {d : Nat} {S : zS} {I : zI} {J : zJ} {Q : zQ} {h0 : Nat} {x1 : Int32} {x2 : Int32} {x3 : Int32} {v4 : Value} {v5 : Value} (g1 : z_kd S h0 = 13) (kt : (I h0 23) ≤ x3 → Go d i_X12_laysSubgroups 94 [.ref h0, .int x1, .int x2, .int x3, v4, v5] [] S I J Q) (kf : ¬ (I h0 23) ≤ x3 → Go d i_X12_laysSubgroups 35 [.ref h0, .int x1, .int x2, .int x3, v4, v5] [] S I J Q) : Go d i_X12_laysSubgroups 27 [.ref h0, .int x1, .int x2, .int x3, v4, v5] [] S I J Q := by
  have h := (And.intro g1 (Go.ite kt kf))
  exact Go.n tb_X12_laysSubgroups 4 h
theorem b_X12_laysSubgroups_35 {d : Nat} {S : zS} {I : zI} {J : zJ} {Q : zQ} {h0 : Nat} {x1 : Int32} {x2 : Int32} {x3 : Int32} {v4 : Value} {v5 : Value} (g1 : z_kd S h0 = 13) (g2 : z_isI (z_kd S (z_rv S h0 22)) = true ∧ vp_in x3 (z_ln S (z_rv S h0 22))) (kk : Go d i_X12_laysSubgroups 46 [.ref h0, .int x1, .int x2, .int x3, .int (I (z_rv S h0 22) (Int32.toNatClampNeg x3)), .int (1 : Int32)] [] S I J Q) : Go d i_X12_laysSubgroups 35 [.ref h0, .int x1, .int x2, .int x3, v4, v5] [] S I J Q := by
  have h := (And.intro g1 (And.intro g2 kk))
  exact Go.n tb_X12_laysSubgroups 7 h
theorem b_X12_laysSubgroups_46 {d : Nat} {S : zS} {I : zI} {J : zJ} {Q : zQ} {h0 : Nat} {x1 : Int32} {x2 : Int32} {x3 : Int32} {x4 : Int32} {x5 : Int32} (g1 : z_kd S h0 = 13) (kk : z_wp d i_X12_many [.ref h0, .int x1] S I J (fun vv SS II JJ => Go d i_X12_laysSubgroups 53 [.ref h0, .int x1, .int x2, .int x3, .int x4, .int x5] (vv.toList ++ [.int x5]) SS II JJ Q)) : Go d i_X12_laysSubgroups 46 [.ref h0, .int x1, .int x2, .int x3, .int x4, .int x5] [] S I J Q := by
  have h := (And.intro g1 kk)
  exact Go.n tb_X12_laysSubgroups 4 h
theorem b_X12_laysSubgroups_53 {d : Nat} {S : zS} {I : zI} {J : zJ} {Q : zQ} {h0 : Nat} {x1 : Int32} {x2 : Int32} {x3 : Int32} {x4 : Int32} {x5 : Int32} {y0 : Int32} {y1 : Int32} (kt : y1 ≤ y0 → Go d i_X12_laysSubgroups 88 [.ref h0, .int x1, .int x2, .int x3, .int x4, .int x5] [] S I J Q) (kf : ¬ y1 ≤ y0 → Go d i_X12_laysSubgroups 56 [.ref h0, .int x1, .int x2, .int x3, .int x4, .int x5] [] S I J Q) : Go d i_X12_laysSubgroups 53 [.ref h0, .int x1, .int x2, .int x3, .int x4, .int x5] [.int y1, .int y0] S I J Q := by
  have h := (Go.ite kt kf)
  exact Go.n tb_X12_laysSubgroups 1 h
theorem b_X12_laysSubgroups_56 {d : Nat} {S : zS} {I : zI} {J : zJ} {Q : zQ} {h0 : Nat} {x1 : Int32} {x2 : Int32} {x3 : Int32} {x4 : Int32} {x5 : Int32} (kk : z_wp d i_X12_has [.int x4, .int x5] S I J (fun vv SS II JJ => Go d i_X12_laysSubgroups 63 [.ref h0, .int x1, .int x2, .int x3, .int x4, .int x5] (vv.toList ++ []) SS II JJ Q)) : Go d i_X12_laysSubgroups 56 [.ref h0, .int x1, .int x2, .int x3, .int x4, .int x5] [] S I J Q := by
  have h := (And.intro trivial kk)
  exact Go.n tb_X12_laysSubgroups 3 h
theorem b_X12_laysSubgroups_63 {d : Nat} {S : zS} {I : zI} {J : zJ} {Q : zQ} {h0 : Nat} {x1 : Int32} {x2 : Int32} {x3 : Int32} {x4 : Int32} {x5 : Int32} {y0 : Int32} (kt : ¬ y0 = (0 : Int32) → Go d i_X12_laysSubgroups 82 [.ref h0, .int x1, .int x2, .int x3, .int x4, .int x5] [] S I J Q) (kf : y0 = (0 : Int32) → Go d i_X12_laysSubgroups 66 [.ref h0, .int x1, .int x2, .int x3, .int x4, .int x5] [] S I J Q) : Go d i_X12_laysSubgroups 63 [.ref h0, .int x1, .int x2, .int x3, .int x4, .int x5] [.int y0] S I J Q := by
  have h := (Go.eti kt kf)
  exact Go.n tb_X12_laysSubgroups 1 h
theorem b_X12_laysSubgroups_66 {d : Nat} {S : zS} {I : zI} {J : zJ} {Q : zQ} {h0 : Nat} {x1 : Int32} {x2 : Int32} {x3 : Int32} {x4 : Int32} {x5 : Int32} (g1 : z_kd S h0 = 13) (kk : z_wp d i_X12_subgroupOf [.ref h0, .int x1, .int (x4 ||| ((1 : Int32) <<< (x5 &&& 31)))] S I J (fun vv SS II JJ => Go d i_X12_laysSubgroups 79 [.ref h0, .int x1, .int x2, .int x3, .int x4, .int x5] (vv.toList ++ [.ref h0]) SS II JJ Q)) : Go d i_X12_laysSubgroups 66 [.ref h0, .int x1, .int x2, .int x3, .int x4, .int x5] [] S I J Q := by
  have h := (And.intro g1 kk)
  exact Go.n tb_X12_laysSubgroups 9 h
theorem b_X12_laysSubgroups_79 {d : Nat} {S : zS} {I : zI} {J : zJ} {Q : zQ} {h0 : Nat} {x1 : Int32} {x2 : Int32} {x3 : Int32} {x4 : Int32} {x5 : Int32} {q0 : Nat} {y1 : Int32} (g1 : z_kd S q0 = 13) (kk : z_wp d i_X12_comes [.ref q0, .int y1] S I J (fun vv SS II JJ => Go d i_X12_laysSubgroups 82 [.ref h0, .int x1, .int x2, .int x3, .int x4, .int x5] (vv.toList ++ []) SS II JJ Q)) : Go d i_X12_laysSubgroups 79 [.ref h0, .int x1, .int x2, .int x3, .int x4, .int x5] [.int y1, .ref q0] S I J Q := by
  have h := (And.intro g1 kk)
  exact Go.n tb_X12_laysSubgroups 1 h
theorem b_X12_laysSubgroups_82 {d : Nat} {S : zS} {I : zI} {J : zJ} {Q : zQ} {h0 : Nat} {x1 : Int32} {x2 : Int32} {x3 : Int32} {x4 : Int32} {x5 : Int32} (kk : Go d i_X12_laysSubgroups 46 [.ref h0, .int x1, .int x2, .int x3, .int x4, .int (x5 + (1 : Int32))] [] S I J Q) : Go d i_X12_laysSubgroups 82 [.ref h0, .int x1, .int x2, .int x3, .int x4, .int x5] [] S I J Q := by
  have h := kk
  exact Go.n tb_X12_laysSubgroups 2 h
theorem b_X12_laysSubgroups_88 {d : Nat} {S : zS} {I : zI} {J : zJ} {Q : zQ} {h0 : Nat} {x1 : Int32} {x2 : Int32} {x3 : Int32} {x4 : Int32} {x5 : Int32} (kk : Go d i_X12_laysSubgroups 27 [.ref h0, .int x1, .int x2, .int (x3 + (1 : Int32)), .int x4, .int x5] [] S I J Q) : Go d i_X12_laysSubgroups 88 [.ref h0, .int x1, .int x2, .int x3, .int x4, .int x5] [] S I J Q := by
  have h := kk
  exact Go.n tb_X12_laysSubgroups 2 h
theorem b_X12_laysSubgroups_94 {d : Nat} {S : zS} {I : zI} {J : zJ} {Q : zQ} {h0 : Nat} {x1 : Int32} {x2 : Int32} {x3 : Int32} {v4 : Value} {v5 : Value} (kk : Go d i_X12_laysSubgroups 12 [.ref h0, .int x1, .int x2, .int x3, v4, v5] [] S I J Q) : Go d i_X12_laysSubgroups 94 [.ref h0, .int x1, .int x2, .int x3, v4, v5] [] S I J Q := by
  have h := kk
  exact Go.n tb_X12_laysSubgroups 1 h
theorem b_X12_laysSubgroups_97 {d : Nat} {S : zS} {I : zI} {J : zJ} {Q : zQ} {h0 : Nat} {x1 : Int32} {x2 : Int32} {v3 : Value} {v4 : Value} {v5 : Value} (kk : Q none S I J) : Go d i_X12_laysSubgroups 97 [.ref h0, .int x1, .int x2, v3, v4, v5] [] S I J Q := by
  have h := (And.intro trivial kk)
  exact Go.n tb_X12_laysSubgroups 1 h
theorem w_X12_size {d : Nat} {S : zS} {I : zI} {J : zJ} {Q : zQ} {h0 : Nat} {x1 : Int32} {x2 : Int32} (h : Go d i_X12_size 0 [.ref h0, .int x1, .int x2, .retAddr 0, .retAddr 0] [] S I J Q) : z_wp (d + 1) i_X12_size [.ref h0, .int x1, .int x2] S I J Q := Go.wp (Nat.le_of_ble_eq_true rfl) h
theorem e_X12_size {d : Nat} {S S2 : zS} {I I2 : zI} {J J2 : zJ} {r : Option Value} {h0 : Nat} {x1 : Int32} {x2 : Int32} (h : Go d i_X12_size 0 [.ref h0, .int x1, .int x2, .retAddr 0, .retAddr 0] [] S I J (z_eq r S2 I2 J2)) : z_ev (d + 1) i_X12_size [.ref h0, .int x1, .int x2] S I J r S2 I2 J2 := Go.ev (Nat.le_of_ble_eq_true rfl) h
theorem b_X12_size_0 {d : Nat} {S : zS} {I : zI} {J : zJ} {Q : zQ} {h0 : Nat} {x1 : Int32} {x2 : Int32} {v3 : Value} {v4 : Value} (g1 : z_kd S h0 = 13) (kk : z_wp d i_X12_isSlot [.int x1] S (z_u2 I h0 1 (0 : Int32)) J (fun vv SS II JJ => Go d i_X12_size 9 [.ref h0, .int x1, .int x2, v3, v4] (vv.toList ++ []) SS II JJ Q)) : Go d i_X12_size 0 [.ref h0, .int x1, .int x2, v3, v4] [] S I J Q := by
  have h := (And.intro g1 (And.intro trivial kk))
  exact Go.n tb_X12_size 5 h
theorem b_X12_size_9 {d : Nat} {S : zS} {I : zI} {J : zJ} {Q : zQ} {h0 : Nat} {x1 : Int32} {x2 : Int32} {v3 : Value} {v4 : Value} {y0 : Int32} (kt : ¬ y0 = (0 : Int32) → Go d i_X12_size 15 [.ref h0, .int x1, .int x2, v3, v4] [] S I J Q) (kf : y0 = (0 : Int32) → Go d i_X12_size 12 [.ref h0, .int x1, .int x2, v3, v4] [] S I J Q) : Go d i_X12_size 9 [.ref h0, .int x1, .int x2, v3, v4] [.int y0] S I J Q := by
  have h := (Go.eti kt kf)
  exact Go.n tb_X12_size 1 h
theorem b_X12_size_12 {d : Nat} {S : zS} {I : zI} {J : zJ} {Q : zQ} {h0 : Nat} {x1 : Int32} {x2 : Int32} {v3 : Value} {v4 : Value} (kk : Q (some (.int (-2 : Int32))) S I J) : Go d i_X12_size 12 [.ref h0, .int x1, .int x2, v3, v4] [] S I J Q := by
  have h := (And.intro trivial kk)
  exact Go.n tb_X12_size 2 h
theorem b_X12_size_15 {d : Nat} {S : zS} {I : zI} {J : zJ} {Q : zQ} {h0 : Nat} {x1 : Int32} {x2 : Int32} {v3 : Value} {v4 : Value} (kk : Go d i_X12_size (z_sw [(0, 60), (1, 66), (2, 75), (3, 81), (4, 87), (5, 97), (6, 103)] 148 x2) [.ref h0, .int x1, .int x2, v3, v4] [] S I J Q) : Go d i_X12_size 15 [.ref h0, .int x1, .int x2, v3, v4] [] S I J Q := by
  have h := kk
  exact Go.n tb_X12_size 2 h
theorem b_X12_size_60 {d : Nat} {S : zS} {I : zI} {J : zJ} {Q : zQ} {h0 : Nat} {x1 : Int32} {x2 : Int32} {v3 : Value} {v4 : Value} (g1 : z_kd S h0 = 13) (kk : z_wp d i_X12_many [.ref h0, .int x1] S I J (fun vv SS II JJ => Go d i_X12_size 65 [.ref h0, .int x1, .int x2, v3, v4] (vv.toList ++ []) SS II JJ Q)) : Go d i_X12_size 60 [.ref h0, .int x1, .int x2, v3, v4] [] S I J Q := by
  have h := (And.intro g1 kk)
  exact Go.n tb_X12_size 3 h
theorem b_X12_size_65 {d : Nat} {S : zS} {I : zI} {J : zJ} {Q : zQ} {h0 : Nat} {x1 : Int32} {x2 : Int32} {v3 : Value} {v4 : Value} {y0 : Int32} (kk : Q (some (.int y0)) S I J) : Go d i_X12_size 65 [.ref h0, .int x1, .int x2, v3, v4] [.int y0] S I J Q := by
  have h := (And.intro trivial kk)
  exact Go.n tb_X12_size 1 h
theorem b_X12_size_66 {d : Nat} {S : zS} {I : zI} {J : zJ} {Q : zQ} {h0 : Nat} {x1 : Int32} {x2 : Int32} {v3 : Value} {v4 : Value} (g1 : z_kd S h0 = 13) (kk : z_wp d i_X12_steps [.ref h0, .int x1] S I J (fun vv SS II JJ => Go d i_X12_size 71 [.ref h0, .int x1, .int x2, v3, v4] (vv.toList ++ []) SS II JJ Q)) : Go d i_X12_size 66 [.ref h0, .int x1, .int x2, v3, v4] [] S I J Q := by
  have h := (And.intro g1 kk)
  exact Go.n tb_X12_size 3 h
theorem b_X12_size_71 {d : Nat} {S : zS} {I : zI} {J : zJ} {Q : zQ} {h0 : Nat} {x1 : Int32} {x2 : Int32} {v3 : Value} {v4 : Value} {y0 : Int32} (kk : z_wp d i_X12_bits [.int y0] S I J (fun vv SS II JJ => Go d i_X12_size 74 [.ref h0, .int x1, .int x2, v3, v4] (vv.toList ++ []) SS II JJ Q)) : Go d i_X12_size 71 [.ref h0, .int x1, .int x2, v3, v4] [.int y0] S I J Q := by
  have h := (And.intro trivial kk)
  exact Go.n tb_X12_size 1 h
theorem b_X12_size_74 {d : Nat} {S : zS} {I : zI} {J : zJ} {Q : zQ} {h0 : Nat} {x1 : Int32} {x2 : Int32} {v3 : Value} {v4 : Value} {y0 : Int32} (kk : Q (some (.int y0)) S I J) : Go d i_X12_size 74 [.ref h0, .int x1, .int x2, v3, v4] [.int y0] S I J Q := by
  have h := (And.intro trivial kk)
  exact Go.n tb_X12_size 1 h
theorem b_X12_size_75 {d : Nat} {S : zS} {I : zI} {J : zJ} {Q : zQ} {h0 : Nat} {x1 : Int32} {x2 : Int32} {v3 : Value} {v4 : Value} (g1 : z_kd S h0 = 13) (kk : z_wp d i_X12_centre [.ref h0, .int x1] S I J (fun vv SS II JJ => Go d i_X12_size 80 [.ref h0, .int x1, .int x2, v3, v4] (vv.toList ++ []) SS II JJ Q)) : Go d i_X12_size 75 [.ref h0, .int x1, .int x2, v3, v4] [] S I J Q := by
  have h := (And.intro g1 kk)
  exact Go.n tb_X12_size 3 h
theorem b_X12_size_80 {d : Nat} {S : zS} {I : zI} {J : zJ} {Q : zQ} {h0 : Nat} {x1 : Int32} {x2 : Int32} {v3 : Value} {v4 : Value} {y0 : Int32} (kk : Q (some (.int y0)) S I J) : Go d i_X12_size 80 [.ref h0, .int x1, .int x2, v3, v4] [.int y0] S I J Q := by
  have h := (And.intro trivial kk)
  exact Go.n tb_X12_size 1 h
theorem b_X12_size_81 {d : Nat} {S : zS} {I : zI} {J : zJ} {Q : zQ} {h0 : Nat} {x1 : Int32} {x2 : Int32} {v3 : Value} {v4 : Value} (g1 : z_kd S h0 = 13) (kk : z_wp d i_X12_classes [.ref h0, .int x1] S I J (fun vv SS II JJ => Go d i_X12_size 86 [.ref h0, .int x1, .int x2, v3, v4] (vv.toList ++ []) SS II JJ Q)) : Go d i_X12_size 81 [.ref h0, .int x1, .int x2, v3, v4] [] S I J Q := by
  have h := (And.intro g1 kk)
  exact Go.n tb_X12_size 3 h
theorem b_X12_size_86 {d : Nat} {S : zS} {I : zI} {J : zJ} {Q : zQ} {h0 : Nat} {x1 : Int32} {x2 : Int32} {v3 : Value} {v4 : Value} {y0 : Int32} (kk : Q (some (.int y0)) S I J) : Go d i_X12_size 86 [.ref h0, .int x1, .int x2, v3, v4] [.int y0] S I J Q := by
  have h := (And.intro trivial kk)
  exact Go.n tb_X12_size 1 h
theorem b_X12_size_87 {d : Nat} {S : zS} {I : zI} {J : zJ} {Q : zQ} {h0 : Nat} {x1 : Int32} {x2 : Int32} {v3 : Value} {v4 : Value} (g1 : z_kd S h0 = 13) (kk : z_wp d i_X12_laysSubgroups [.ref h0, .int x1] S I J (fun vv SS II JJ => Go d i_X12_size 92 [.ref h0, .int x1, .int x2, v3, v4] (vv.toList ++ []) SS II JJ Q)) : Go d i_X12_size 87 [.ref h0, .int x1, .int x2, v3, v4] [] S I J Q := by
  have h := (And.intro g1 kk)
  exact Go.n tb_X12_size 3 h
theorem b_X12_size_92 {d : Nat} {S : zS} {I : zI} {J : zJ} {Q : zQ} {h0 : Nat} {x1 : Int32} {x2 : Int32} {v3 : Value} {v4 : Value} (g1 : z_kd S h0 = 13) (kk : Q (some (.int (I h0 23))) S I J) : Go d i_X12_size 92 [.ref h0, .int x1, .int x2, v3, v4] [] S I J Q := by
  have h := (And.intro g1 (And.intro trivial kk))
  exact Go.n tb_X12_size 3 h
theorem b_X12_size_97 {d : Nat} {S : zS} {I : zI} {J : zJ} {Q : zQ} {h0 : Nat} {x1 : Int32} {x2 : Int32} {v3 : Value} {v4 : Value} (g1 : z_kd S h0 = 13) (kk : z_wp d i_X12_derived [.ref h0, .int x1] S I J (fun vv SS II JJ => Go d i_X12_size 102 [.ref h0, .int x1, .int x2, v3, v4] (vv.toList ++ []) SS II JJ Q)) : Go d i_X12_size 97 [.ref h0, .int x1, .int x2, v3, v4] [] S I J Q := by
  have h := (And.intro g1 kk)
  exact Go.n tb_X12_size 3 h
theorem b_X12_size_102 {d : Nat} {S : zS} {I : zI} {J : zJ} {Q : zQ} {h0 : Nat} {x1 : Int32} {x2 : Int32} {v3 : Value} {v4 : Value} {y0 : Int32} (kk : Q (some (.int y0)) S I J) : Go d i_X12_size 102 [.ref h0, .int x1, .int x2, v3, v4] [.int y0] S I J Q := by
  have h := (And.intro trivial kk)
  exact Go.n tb_X12_size 1 h
theorem b_X12_size_103 {d : Nat} {S : zS} {I : zI} {J : zJ} {Q : zQ} {h0 : Nat} {x1 : Int32} {x2 : Int32} {v3 : Value} {v4 : Value} (kk : Go d i_X12_size 108 [.ref h0, .int x1, .int x2, .int (1 : Int32), .int (0 : Int32)] [] S I J Q) : Go d i_X12_size 103 [.ref h0, .int x1, .int x2, v3, v4] [] S I J Q := by
  have h := kk
  exact Go.n tb_X12_size 4 h
theorem b_X12_size_108 {d : Nat} {S : zS} {I : zI} {J : zJ} {Q : zQ} {h0 : Nat} {x1 : Int32} {x2 : Int32} {x3 : Int32} {x4 : Int32} (g1 : z_kd S h0 = 13) (kk : z_wp d i_X12_many [.ref h0, .int x1] S I J (fun vv SS II JJ => Go d i_X12_size 115 [.ref h0, .int x1, .int x2, .int x3, .int x4] (vv.toList ++ [.int x4]) SS II JJ Q)) : Go d i_X12_size 108 [.ref h0, .int x1, .int x2, .int x3, .int x4] [] S I J Q := by
  have h := (And.intro g1 kk)
  exact Go.n tb_X12_size 4 h
theorem b_X12_size_115 {d : Nat} {S : zS} {I : zI} {J : zJ} {Q : zQ} {h0 : Nat} {x1 : Int32} {x2 : Int32} {x3 : Int32} {x4 : Int32} {y0 : Int32} {y1 : Int32} (kt : y1 ≤ y0 → Go d i_X12_size 146 [.ref h0, .int x1, .int x2, .int x3, .int x4] [] S I J Q) (kf : ¬ y1 ≤ y0 → Go d i_X12_size 118 [.ref h0, .int x1, .int x2, .int x3, .int x4] [] S I J Q) : Go d i_X12_size 115 [.ref h0, .int x1, .int x2, .int x3, .int x4] [.int y1, .int y0] S I J Q := by
  have h := (Go.ite kt kf)
  exact Go.n tb_X12_size 1 h
theorem b_X12_size_118 {d : Nat} {S : zS} {I : zI} {J : zJ} {Q : zQ} {h0 : Nat} {x1 : Int32} {x2 : Int32} {x3 : Int32} {x4 : Int32} (g1 : z_kd S h0 = 13) (kk : z_wp d i_X12_periodOf [.ref h0, .int x1, .int x4] S I J (fun vv SS II JJ => Go d i_X12_size 127 [.ref h0, .int x1, .int x2, .int x3, .int x4] (vv.toList ++ [.int x3, .int x3]) SS II JJ Q)) : Go d i_X12_size 118 [.ref h0, .int x1, .int x2, .int x3, .int x4] [] S I J Q := by
  have h := (And.intro g1 kk)
  exact Go.n tb_X12_size 6 h
theorem b_X12_size_127 {d : Nat} {S : zS} {I : zI} {J : zJ} {Q : zQ} {h0 : Nat} {x1 : Int32} {x2 : Int32} {x3 : Int32} {x4 : Int32} {y0 : Int32} {y1 : Int32} {y2 : Int32} (kk : z_wp d i_X12_common [.int y1, .int y2] S I J (fun vv SS II JJ => Go d i_X12_size 130 [.ref h0, .int x1, .int x2, .int x3, .int x4] (vv.toList ++ [.int y0]) SS II JJ Q)) : Go d i_X12_size 127 [.ref h0, .int x1, .int x2, .int x3, .int x4] [.int y2, .int y1, .int y0] S I J Q := by
  have h := (And.intro trivial kk)
  exact Go.n tb_X12_size 1 h
theorem b_X12_size_130 {d : Nat} {S : zS} {I : zI} {J : zJ} {Q : zQ} {h0 : Nat} {x1 : Int32} {x2 : Int32} {x3 : Int32} {x4 : Int32} {y0 : Int32} {y1 : Int32} (g1 : ¬ y1 = 0) (g2 : z_kd S h0 = 13) (kk : z_wp d i_X12_periodOf [.ref h0, .int x1, .int x4] S I J (fun vv SS II JJ => Go d i_X12_size 138 [.ref h0, .int x1, .int x2, .int x3, .int x4] (vv.toList ++ [.int (y0 / y1)]) SS II JJ Q)) : Go d i_X12_size 130 [.ref h0, .int x1, .int x2, .int x3, .int x4] [.int y1, .int y0] S I J Q := by
  have h := (And.intro g1 (And.intro g2 kk))
  exact Go.n tb_X12_size 5 h
theorem b_X12_size_138 {d : Nat} {S : zS} {I : zI} {J : zJ} {Q : zQ} {h0 : Nat} {x1 : Int32} {x2 : Int32} {x3 : Int32} {x4 : Int32} {y0 : Int32} {y1 : Int32} (kk : Go d i_X12_size 108 [.ref h0, .int x1, .int x2, .int (y0 * y1), .int (x4 + (1 : Int32))] [] S I J Q) : Go d i_X12_size 138 [.ref h0, .int x1, .int x2, .int x3, .int x4] [.int y1, .int y0] S I J Q := by
  have h := kk
  exact Go.n tb_X12_size 4 h
theorem b_X12_size_146 {d : Nat} {S : zS} {I : zI} {J : zJ} {Q : zQ} {h0 : Nat} {x1 : Int32} {x2 : Int32} {x3 : Int32} {x4 : Int32} (kk : Q (some (.int x3)) S I J) : Go d i_X12_size 146 [.ref h0, .int x1, .int x2, .int x3, .int x4] [] S I J Q := by
  have h := (And.intro trivial kk)
  exact Go.n tb_X12_size 2 h
theorem b_X12_size_148 {d : Nat} {S : zS} {I : zI} {J : zJ} {Q : zQ} {h0 : Nat} {x1 : Int32} {x2 : Int32} {v3 : Value} {v4 : Value} (kk : Q (some (.int (-2 : Int32))) S I J) : Go d i_X12_size 148 [.ref h0, .int x1, .int x2, v3, v4] [] S I J Q := by
  have h := (And.intro trivial kk)
  exact Go.n tb_X12_size 2 h
theorem w_X12_product {d : Nat} {S : zS} {I : zI} {J : zJ} {Q : zQ} {h0 : Nat} {x1 : Int32} {x2 : Int32} {x3 : Int32} (h : Go d i_X12_product 0 [.ref h0, .int x1, .int x2, .int x3] [] S I J Q) : z_wp (d + 1) i_X12_product [.ref h0, .int x1, .int x2, .int x3] S I J Q := Go.wp (Nat.le_of_ble_eq_true rfl) h
theorem e_X12_product {d : Nat} {S S2 : zS} {I I2 : zI} {J J2 : zJ} {r : Option Value} {h0 : Nat} {x1 : Int32} {x2 : Int32} {x3 : Int32} (h : Go d i_X12_product 0 [.ref h0, .int x1, .int x2, .int x3] [] S I J (z_eq r S2 I2 J2)) : z_ev (d + 1) i_X12_product [.ref h0, .int x1, .int x2, .int x3] S I J r S2 I2 J2 := Go.ev (Nat.le_of_ble_eq_true rfl) h
theorem b_X12_product_0 {d : Nat} {S : zS} {I : zI} {J : zJ} {Q : zQ} {h0 : Nat} {x1 : Int32} {x2 : Int32} {x3 : Int32} (g1 : z_kd S h0 = 13) (g2 : z_kd S h0 = 13) (kk : z_wp d i_X12_isElement [.ref h0, .int x1, .int x2] S (z_u2 I h0 1 (0 : Int32)) J (fun vv SS II JJ => Go d i_X12_product 11 [.ref h0, .int x1, .int x2, .int x3] (vv.toList ++ []) SS II JJ Q)) : Go d i_X12_product 0 [.ref h0, .int x1, .int x2, .int x3] [] S I J Q := by
  have h := (And.intro g1 (And.intro g2 kk))
  exact Go.n tb_X12_product 7 h
theorem b_X12_product_11 {d : Nat} {S : zS} {I : zI} {J : zJ} {Q : zQ} {h0 : Nat} {x1 : Int32} {x2 : Int32} {x3 : Int32} {y0 : Int32} (kt : y0 = (0 : Int32) → Go d i_X12_product 33 [.ref h0, .int x1, .int x2, .int x3] [] S I J Q) (kf : ¬ y0 = (0 : Int32) → Go d i_X12_product 14 [.ref h0, .int x1, .int x2, .int x3] [] S I J Q) : Go d i_X12_product 11 [.ref h0, .int x1, .int x2, .int x3] [.int y0] S I J Q := by
  have h := (Go.ite kt kf)
  exact Go.n tb_X12_product 1 h
theorem b_X12_product_14 {d : Nat} {S : zS} {I : zI} {J : zJ} {Q : zQ} {h0 : Nat} {x1 : Int32} {x2 : Int32} {x3 : Int32} (g1 : z_kd S h0 = 13) (kk : z_wp d i_X12_isElement [.ref h0, .int x1, .int x3] S I J (fun vv SS II JJ => Go d i_X12_product 20 [.ref h0, .int x1, .int x2, .int x3] (vv.toList ++ []) SS II JJ Q)) : Go d i_X12_product 14 [.ref h0, .int x1, .int x2, .int x3] [] S I J Q := by
  have h := (And.intro g1 kk)
  exact Go.n tb_X12_product 4 h
theorem b_X12_product_20 {d : Nat} {S : zS} {I : zI} {J : zJ} {Q : zQ} {h0 : Nat} {x1 : Int32} {x2 : Int32} {x3 : Int32} {y0 : Int32} (kt : y0 = (0 : Int32) → Go d i_X12_product 33 [.ref h0, .int x1, .int x2, .int x3] [] S I J Q) (kf : ¬ y0 = (0 : Int32) → Go d i_X12_product 23 [.ref h0, .int x1, .int x2, .int x3] [] S I J Q) : Go d i_X12_product 20 [.ref h0, .int x1, .int x2, .int x3] [.int y0] S I J Q := by
  have h := (Go.ite kt kf)
  exact Go.n tb_X12_product 1 h
theorem b_X12_product_23 {d : Nat} {S : zS} {I : zI} {J : zJ} {Q : zQ} {h0 : Nat} {x1 : Int32} {x2 : Int32} {x3 : Int32} (g1 : z_kd S h0 = 13) (kk : z_wp d i_X12_times [.ref h0, .int x1, .int x2, .int x3] S I J (fun vv SS II JJ => Go d i_X12_product 30 [.ref h0, .int x1, .int x2, .int x3] (vv.toList ++ []) SS II JJ Q)) : Go d i_X12_product 23 [.ref h0, .int x1, .int x2, .int x3] [] S I J Q := by
  have h := (And.intro g1 kk)
  exact Go.n tb_X12_product 5 h
theorem b_X12_product_30 {d : Nat} {S : zS} {I : zI} {J : zJ} {Q : zQ} {h0 : Nat} {x1 : Int32} {x2 : Int32} {x3 : Int32} {y0 : Int32} (kk : Q (some (.int y0)) S I J) : Go d i_X12_product 30 [.ref h0, .int x1, .int x2, .int x3] [.int y0] S I J Q := by
  have h := (And.intro trivial kk)
  exact Go.n tb_X12_product 2 h
theorem b_X12_product_33 {d : Nat} {S : zS} {I : zI} {J : zJ} {Q : zQ} {h0 : Nat} {x1 : Int32} {x2 : Int32} {x3 : Int32} (kk : Q (some (.int (-2 : Int32))) S I J) : Go d i_X12_product 33 [.ref h0, .int x1, .int x2, .int x3] [] S I J Q := by
  have h := (And.intro trivial kk)
  exact Go.n tb_X12_product 2 h
theorem w_X12_element {d : Nat} {S : zS} {I : zI} {J : zJ} {Q : zQ} {h0 : Nat} {x1 : Int32} {x2 : Int32} {x3 : Int32} (h : Go d i_X12_element 0 [.ref h0, .int x1, .int x2, .int x3] [] S I J Q) : z_wp (d + 1) i_X12_element [.ref h0, .int x1, .int x2, .int x3] S I J Q := Go.wp (Nat.le_of_ble_eq_true rfl) h
theorem e_X12_element {d : Nat} {S S2 : zS} {I I2 : zI} {J J2 : zJ} {r : Option Value} {h0 : Nat} {x1 : Int32} {x2 : Int32} {x3 : Int32} (h : Go d i_X12_element 0 [.ref h0, .int x1, .int x2, .int x3] [] S I J (z_eq r S2 I2 J2)) : z_ev (d + 1) i_X12_element [.ref h0, .int x1, .int x2, .int x3] S I J r S2 I2 J2 := Go.ev (Nat.le_of_ble_eq_true rfl) h
theorem b_X12_element_0 {d : Nat} {S : zS} {I : zI} {J : zJ} {Q : zQ} {h0 : Nat} {x1 : Int32} {x2 : Int32} {x3 : Int32} (g1 : z_kd S h0 = 13) (g2 : z_kd S h0 = 13) (kk : z_wp d i_X12_isElement [.ref h0, .int x1, .int x2] S (z_u2 I h0 1 (0 : Int32)) J (fun vv SS II JJ => Go d i_X12_element 11 [.ref h0, .int x1, .int x2, .int x3] (vv.toList ++ []) SS II JJ Q)) : Go d i_X12_element 0 [.ref h0, .int x1, .int x2, .int x3] [] S I J Q := by
  have h := (And.intro g1 (And.intro g2 kk))
  exact Go.n tb_X12_element 7 h
theorem b_X12_element_11 {d : Nat} {S : zS} {I : zI} {J : zJ} {Q : zQ} {h0 : Nat} {x1 : Int32} {x2 : Int32} {x3 : Int32} {y0 : Int32} (kt : ¬ y0 = (0 : Int32) → Go d i_X12_element 17 [.ref h0, .int x1, .int x2, .int x3] [] S I J Q) (kf : y0 = (0 : Int32) → Go d i_X12_element 14 [.ref h0, .int x1, .int x2, .int x3] [] S I J Q) : Go d i_X12_element 11 [.ref h0, .int x1, .int x2, .int x3] [.int y0] S I J Q := by
  have h := (Go.eti kt kf)
  exact Go.n tb_X12_element 1 h
theorem b_X12_element_14 {d : Nat} {S : zS} {I : zI} {J : zJ} {Q : zQ} {h0 : Nat} {x1 : Int32} {x2 : Int32} {x3 : Int32} (kk : Q (some (.int (-2 : Int32))) S I J) : Go d i_X12_element 14 [.ref h0, .int x1, .int x2, .int x3] [] S I J Q := by
  have h := (And.intro trivial kk)
  exact Go.n tb_X12_element 2 h
theorem b_X12_element_17 {d : Nat} {S : zS} {I : zI} {J : zJ} {Q : zQ} {h0 : Nat} {x1 : Int32} {x2 : Int32} {x3 : Int32} (kk : Go d i_X12_element (z_sw [(0, 48), (1, 59), (2, 66), (3, 84)] 94 x3) [.ref h0, .int x1, .int x2, .int x3] [] S I J Q) : Go d i_X12_element 17 [.ref h0, .int x1, .int x2, .int x3] [] S I J Q := by
  have h := kk
  exact Go.n tb_X12_element 2 h
theorem b_X12_element_48 {d : Nat} {S : zS} {I : zI} {J : zJ} {Q : zQ} {h0 : Nat} {x1 : Int32} {x2 : Int32} {x3 : Int32} (g1 : z_kd S h0 = 13) (kk : z_wp d i_X12_inverse [.ref h0, .int ((665 : Int32) * x1), .int x2] S I J (fun vv SS II JJ => Go d i_X12_element 58 [.ref h0, .int x1, .int x2, .int x3] (vv.toList ++ []) SS II JJ Q)) : Go d i_X12_element 48 [.ref h0, .int x1, .int x2, .int x3] [] S I J Q := by
  have h := (And.intro g1 kk)
  exact Go.n tb_X12_element 6 h
theorem b_X12_element_58 {d : Nat} {S : zS} {I : zI} {J : zJ} {Q : zQ} {h0 : Nat} {x1 : Int32} {x2 : Int32} {x3 : Int32} {y0 : Int32} (kk : Q (some (.int y0)) S I J) : Go d i_X12_element 58 [.ref h0, .int x1, .int x2, .int x3] [.int y0] S I J Q := by
  have h := (And.intro trivial kk)
  exact Go.n tb_X12_element 1 h
theorem b_X12_element_59 {d : Nat} {S : zS} {I : zI} {J : zJ} {Q : zQ} {h0 : Nat} {x1 : Int32} {x2 : Int32} {x3 : Int32} (g1 : z_kd S h0 = 13) (kk : z_wp d i_X12_periodOf [.ref h0, .int x1, .int x2] S I J (fun vv SS II JJ => Go d i_X12_element 65 [.ref h0, .int x1, .int x2, .int x3] (vv.toList ++ []) SS II JJ Q)) : Go d i_X12_element 59 [.ref h0, .int x1, .int x2, .int x3] [] S I J Q := by
  have h := (And.intro g1 kk)
  exact Go.n tb_X12_element 4 h
theorem b_X12_element_65 {d : Nat} {S : zS} {I : zI} {J : zJ} {Q : zQ} {h0 : Nat} {x1 : Int32} {x2 : Int32} {x3 : Int32} {y0 : Int32} (kk : Q (some (.int y0)) S I J) : Go d i_X12_element 65 [.ref h0, .int x1, .int x2, .int x3] [.int y0] S I J Q := by
  have h := (And.intro trivial kk)
  exact Go.n tb_X12_element 1 h
theorem b_X12_element_66 {d : Nat} {S : zS} {I : zI} {J : zJ} {Q : zQ} {h0 : Nat} {x1 : Int32} {x2 : Int32} {x3 : Int32} (g1 : z_kd S h0 = 13) (kk : z_wp d i_X12_steps [.ref h0, .int x1] S I J (fun vv SS II JJ => Go d i_X12_element 71 [.ref h0, .int x1, .int x2, .int x3] (vv.toList ++ []) SS II JJ Q)) : Go d i_X12_element 66 [.ref h0, .int x1, .int x2, .int x3] [] S I J Q := by
  have h := (And.intro g1 kk)
  exact Go.n tb_X12_element 3 h
theorem b_X12_element_71 {d : Nat} {S : zS} {I : zI} {J : zJ} {Q : zQ} {h0 : Nat} {x1 : Int32} {x2 : Int32} {x3 : Int32} {y0 : Int32} (kk : z_wp d i_X12_has [.int y0, .int x2] S I J (fun vv SS II JJ => Go d i_X12_element 75 [.ref h0, .int x1, .int x2, .int x3] (vv.toList ++ []) SS II JJ Q)) : Go d i_X12_element 71 [.ref h0, .int x1, .int x2, .int x3] [.int y0] S I J Q := by
  have h := (And.intro trivial kk)
  exact Go.n tb_X12_element 2 h
theorem b_X12_element_75 {d : Nat} {S : zS} {I : zI} {J : zJ} {Q : zQ} {h0 : Nat} {x1 : Int32} {x2 : Int32} {x3 : Int32} {y0 : Int32} (kt : y0 = (0 : Int32) → Go d i_X12_element 82 [.ref h0, .int x1, .int x2, .int x3] [] S I J Q) (kf : ¬ y0 = (0 : Int32) → Go d i_X12_element 78 [.ref h0, .int x1, .int x2, .int x3] [] S I J Q) : Go d i_X12_element 75 [.ref h0, .int x1, .int x2, .int x3] [.int y0] S I J Q := by
  have h := (Go.ite kt kf)
  exact Go.n tb_X12_element 1 h
theorem b_X12_element_78 {d : Nat} {S : zS} {I : zI} {J : zJ} {Q : zQ} {h0 : Nat} {x1 : Int32} {x2 : Int32} {x3 : Int32} (kk : Q (some (.int (1 : Int32))) S I J) : Go d i_X12_element 78 [.ref h0, .int x1, .int x2, .int x3] [] S I J Q := by
  have h := (And.intro trivial kk)
  exact Go.n tb_X12_element 3 h
theorem b_X12_element_82 {d : Nat} {S : zS} {I : zI} {J : zJ} {Q : zQ} {h0 : Nat} {x1 : Int32} {x2 : Int32} {x3 : Int32} (kk : Q (some (.int (0 : Int32))) S I J) : Go d i_X12_element 82 [.ref h0, .int x1, .int x2, .int x3] [] S I J Q := by
  have h := (And.intro trivial kk)
  exact Go.n tb_X12_element 2 h
theorem b_X12_element_84 {d : Nat} {S : zS} {I : zI} {J : zJ} {Q : zQ} {h0 : Nat} {x1 : Int32} {x2 : Int32} {x3 : Int32} (g1 : z_kd S h0 = 13) (kk : z_wp d i_X12_classBits [.ref h0, .int x1, .int x2] S I J (fun vv SS II JJ => Go d i_X12_element 90 [.ref h0, .int x1, .int x2, .int x3] (vv.toList ++ []) SS II JJ Q)) : Go d i_X12_element 84 [.ref h0, .int x1, .int x2, .int x3] [] S I J Q := by
  have h := (And.intro g1 kk)
  exact Go.n tb_X12_element 4 h
theorem b_X12_element_90 {d : Nat} {S : zS} {I : zI} {J : zJ} {Q : zQ} {h0 : Nat} {x1 : Int32} {x2 : Int32} {x3 : Int32} {y0 : Int32} (kk : z_wp d i_X12_bits [.int y0] S I J (fun vv SS II JJ => Go d i_X12_element 93 [.ref h0, .int x1, .int x2, .int x3] (vv.toList ++ []) SS II JJ Q)) : Go d i_X12_element 90 [.ref h0, .int x1, .int x2, .int x3] [.int y0] S I J Q := by
  have h := (And.intro trivial kk)
  exact Go.n tb_X12_element 1 h
theorem b_X12_element_93 {d : Nat} {S : zS} {I : zI} {J : zJ} {Q : zQ} {h0 : Nat} {x1 : Int32} {x2 : Int32} {x3 : Int32} {y0 : Int32} (kk : Q (some (.int y0)) S I J) : Go d i_X12_element 93 [.ref h0, .int x1, .int x2, .int x3] [.int y0] S I J Q := by
  have h := (And.intro trivial kk)
  exact Go.n tb_X12_element 1 h
theorem b_X12_element_94 {d : Nat} {S : zS} {I : zI} {J : zJ} {Q : zQ} {h0 : Nat} {x1 : Int32} {x2 : Int32} {x3 : Int32} (kk : Q (some (.int (-2 : Int32))) S I J) : Go d i_X12_element 94 [.ref h0, .int x1, .int x2, .int x3] [] S I J Q := by
  have h := (And.intro trivial kk)
  exact Go.n tb_X12_element 2 h
theorem w_X12_classOf {d : Nat} {S : zS} {I : zI} {J : zJ} {Q : zQ} {h0 : Nat} {x1 : Int32} {x2 : Int32} (h : Go d i_X12_classOf 0 [.ref h0, .int x1, .int x2] [] S I J Q) : z_wp (d + 1) i_X12_classOf [.ref h0, .int x1, .int x2] S I J Q := Go.wp (Nat.le_of_ble_eq_true rfl) h
theorem e_X12_classOf {d : Nat} {S S2 : zS} {I I2 : zI} {J J2 : zJ} {r : Option Value} {h0 : Nat} {x1 : Int32} {x2 : Int32} (h : Go d i_X12_classOf 0 [.ref h0, .int x1, .int x2] [] S I J (z_eq r S2 I2 J2)) : z_ev (d + 1) i_X12_classOf [.ref h0, .int x1, .int x2] S I J r S2 I2 J2 := Go.ev (Nat.le_of_ble_eq_true rfl) h
theorem b_X12_classOf_0 {d : Nat} {S : zS} {I : zI} {J : zJ} {Q : zQ} {h0 : Nat} {x1 : Int32} {x2 : Int32} (g1 : z_kd S h0 = 13) (g2 : z_kd S h0 = 13) (kk : z_wp d i_X12_isElement [.ref h0, .int x1, .int x2] S (z_u2 I h0 1 (0 : Int32)) J (fun vv SS II JJ => Go d i_X12_classOf 11 [.ref h0, .int x1, .int x2] (vv.toList ++ []) SS II JJ Q)) : Go d i_X12_classOf 0 [.ref h0, .int x1, .int x2] [] S I J Q := by
  have h := (And.intro g1 (And.intro g2 kk))
  exact Go.n tb_X12_classOf 7 h
theorem b_X12_classOf_11 {d : Nat} {S : zS} {I : zI} {J : zJ} {Q : zQ} {h0 : Nat} {x1 : Int32} {x2 : Int32} {y0 : Int32} (kt : y0 = (0 : Int32) → Go d i_X12_classOf 23 [.ref h0, .int x1, .int x2] [] S I J Q) (kf : ¬ y0 = (0 : Int32) → Go d i_X12_classOf 14 [.ref h0, .int x1, .int x2] [] S I J Q) : Go d i_X12_classOf 11 [.ref h0, .int x1, .int x2] [.int y0] S I J Q := by
  have h := (Go.ite kt kf)
  exact Go.n tb_X12_classOf 1 h
theorem b_X12_classOf_14 {d : Nat} {S : zS} {I : zI} {J : zJ} {Q : zQ} {h0 : Nat} {x1 : Int32} {x2 : Int32} (g1 : z_kd S h0 = 13) (kk : z_wp d i_X12_classBits [.ref h0, .int x1, .int x2] S I J (fun vv SS II JJ => Go d i_X12_classOf 20 [.ref h0, .int x1, .int x2] (vv.toList ++ []) SS II JJ Q)) : Go d i_X12_classOf 14 [.ref h0, .int x1, .int x2] [] S I J Q := by
  have h := (And.intro g1 kk)
  exact Go.n tb_X12_classOf 4 h
theorem b_X12_classOf_20 {d : Nat} {S : zS} {I : zI} {J : zJ} {Q : zQ} {h0 : Nat} {x1 : Int32} {x2 : Int32} {y0 : Int32} (kk : Q (some (.int y0)) S I J) : Go d i_X12_classOf 20 [.ref h0, .int x1, .int x2] [.int y0] S I J Q := by
  have h := (And.intro trivial kk)
  exact Go.n tb_X12_classOf 2 h
theorem b_X12_classOf_23 {d : Nat} {S : zS} {I : zI} {J : zJ} {Q : zQ} {h0 : Nat} {x1 : Int32} {x2 : Int32} (kk : Q (some (.int (-2 : Int32))) S I J) : Go d i_X12_classOf 23 [.ref h0, .int x1, .int x2] [] S I J Q := by
  have h := (And.intro trivial kk)
  exact Go.n tb_X12_classOf 2 h
theorem w_X12_generated {d : Nat} {S : zS} {I : zI} {J : zJ} {Q : zQ} {h0 : Nat} {x1 : Int32} {x2 : Int32} (h : Go d i_X12_generated 0 [.ref h0, .int x1, .int x2] [] S I J Q) : z_wp (d + 1) i_X12_generated [.ref h0, .int x1, .int x2] S I J Q := Go.wp (Nat.le_of_ble_eq_true rfl) h
theorem e_X12_generated {d : Nat} {S S2 : zS} {I I2 : zI} {J J2 : zJ} {r : Option Value} {h0 : Nat} {x1 : Int32} {x2 : Int32} (h : Go d i_X12_generated 0 [.ref h0, .int x1, .int x2] [] S I J (z_eq r S2 I2 J2)) : z_ev (d + 1) i_X12_generated [.ref h0, .int x1, .int x2] S I J r S2 I2 J2 := Go.ev (Nat.le_of_ble_eq_true rfl) h
theorem b_X12_generated_0 {d : Nat} {S : zS} {I : zI} {J : zJ} {Q : zQ} {h0 : Nat} {x1 : Int32} {x2 : Int32} (g1 : z_kd S h0 = 13) (kk : z_wp d i_X12_isSlot [.int x1] S (z_u2 I h0 1 (0 : Int32)) J (fun vv SS II JJ => Go d i_X12_generated 9 [.ref h0, .int x1, .int x2] (vv.toList ++ []) SS II JJ Q)) : Go d i_X12_generated 0 [.ref h0, .int x1, .int x2] [] S I J Q := by
  have h := (And.intro g1 (And.intro trivial kk))
  exact Go.n tb_X12_generated 5 h
theorem b_X12_generated_9 {d : Nat} {S : zS} {I : zI} {J : zJ} {Q : zQ} {h0 : Nat} {x1 : Int32} {x2 : Int32} {y0 : Int32} (kt : ¬ y0 = (0 : Int32) → Go d i_X12_generated 15 [.ref h0, .int x1, .int x2] [] S I J Q) (kf : y0 = (0 : Int32) → Go d i_X12_generated 12 [.ref h0, .int x1, .int x2] [] S I J Q) : Go d i_X12_generated 9 [.ref h0, .int x1, .int x2] [.int y0] S I J Q := by
  have h := (Go.eti kt kf)
  exact Go.n tb_X12_generated 1 h
theorem b_X12_generated_12 {d : Nat} {S : zS} {I : zI} {J : zJ} {Q : zQ} {h0 : Nat} {x1 : Int32} {x2 : Int32} (kk : Q (some (.int (-2 : Int32))) S I J) : Go d i_X12_generated 12 [.ref h0, .int x1, .int x2] [] S I J Q := by
  have h := (And.intro trivial kk)
  exact Go.n tb_X12_generated 2 h
theorem b_X12_generated_15 {d : Nat} {S : zS} {I : zI} {J : zJ} {Q : zQ} {h0 : Nat} {x1 : Int32} {x2 : Int32} (g1 : z_kd S h0 = 13) (kk : z_wp d i_X12_isSet [.ref h0, .int x1, .int x2] S I J (fun vv SS II JJ => Go d i_X12_generated 21 [.ref h0, .int x1, .int x2] (vv.toList ++ []) SS II JJ Q)) : Go d i_X12_generated 15 [.ref h0, .int x1, .int x2] [] S I J Q := by
  have h := (And.intro g1 kk)
  exact Go.n tb_X12_generated 4 h
theorem b_X12_generated_21 {d : Nat} {S : zS} {I : zI} {J : zJ} {Q : zQ} {h0 : Nat} {x1 : Int32} {x2 : Int32} {y0 : Int32} (kt : y0 = (0 : Int32) → Go d i_X12_generated 33 [.ref h0, .int x1, .int x2] [] S I J Q) (kf : ¬ y0 = (0 : Int32) → Go d i_X12_generated 24 [.ref h0, .int x1, .int x2] [] S I J Q) : Go d i_X12_generated 21 [.ref h0, .int x1, .int x2] [.int y0] S I J Q := by
  have h := (Go.ite kt kf)
  exact Go.n tb_X12_generated 1 h
theorem b_X12_generated_24 {d : Nat} {S : zS} {I : zI} {J : zJ} {Q : zQ} {h0 : Nat} {x1 : Int32} {x2 : Int32} (g1 : z_kd S h0 = 13) (kk : z_wp d i_X12_subgroupOf [.ref h0, .int x1, .int x2] S I J (fun vv SS II JJ => Go d i_X12_generated 30 [.ref h0, .int x1, .int x2] (vv.toList ++ []) SS II JJ Q)) : Go d i_X12_generated 24 [.ref h0, .int x1, .int x2] [] S I J Q := by
  have h := (And.intro g1 kk)
  exact Go.n tb_X12_generated 4 h
theorem b_X12_generated_30 {d : Nat} {S : zS} {I : zI} {J : zJ} {Q : zQ} {h0 : Nat} {x1 : Int32} {x2 : Int32} {y0 : Int32} (kk : Q (some (.int y0)) S I J) : Go d i_X12_generated 30 [.ref h0, .int x1, .int x2] [.int y0] S I J Q := by
  have h := (And.intro trivial kk)
  exact Go.n tb_X12_generated 2 h
theorem b_X12_generated_33 {d : Nat} {S : zS} {I : zI} {J : zJ} {Q : zQ} {h0 : Nat} {x1 : Int32} {x2 : Int32} (kk : Q (some (.int (-3 : Int32))) S I J) : Go d i_X12_generated 33 [.ref h0, .int x1, .int x2] [] S I J Q := by
  have h := (And.intro trivial kk)
  exact Go.n tb_X12_generated 2 h
theorem w_X12_subgroup {d : Nat} {S : zS} {I : zI} {J : zJ} {Q : zQ} {h0 : Nat} {x1 : Int32} {x2 : Int32} (h : Go d i_X12_subgroup 0 [.ref h0, .int x1, .int x2] [] S I J Q) : z_wp (d + 1) i_X12_subgroup [.ref h0, .int x1, .int x2] S I J Q := Go.wp (Nat.le_of_ble_eq_true rfl) h
theorem e_X12_subgroup {d : Nat} {S S2 : zS} {I I2 : zI} {J J2 : zJ} {r : Option Value} {h0 : Nat} {x1 : Int32} {x2 : Int32} (h : Go d i_X12_subgroup 0 [.ref h0, .int x1, .int x2] [] S I J (z_eq r S2 I2 J2)) : z_ev (d + 1) i_X12_subgroup [.ref h0, .int x1, .int x2] S I J r S2 I2 J2 := Go.ev (Nat.le_of_ble_eq_true rfl) h
theorem b_X12_subgroup_0 {d : Nat} {S : zS} {I : zI} {J : zJ} {Q : zQ} {h0 : Nat} {x1 : Int32} {x2 : Int32} (g1 : z_kd S h0 = 13) (kk : z_wp d i_X12_isSlot [.int x1] S (z_u2 I h0 1 (0 : Int32)) J (fun vv SS II JJ => Go d i_X12_subgroup 9 [.ref h0, .int x1, .int x2] (vv.toList ++ []) SS II JJ Q)) : Go d i_X12_subgroup 0 [.ref h0, .int x1, .int x2] [] S I J Q := by
  have h := (And.intro g1 (And.intro trivial kk))
  exact Go.n tb_X12_subgroup 5 h
theorem b_X12_subgroup_9 {d : Nat} {S : zS} {I : zI} {J : zJ} {Q : zQ} {h0 : Nat} {x1 : Int32} {x2 : Int32} {y0 : Int32} (kt : ¬ y0 = (0 : Int32) → Go d i_X12_subgroup 15 [.ref h0, .int x1, .int x2] [] S I J Q) (kf : y0 = (0 : Int32) → Go d i_X12_subgroup 12 [.ref h0, .int x1, .int x2] [] S I J Q) : Go d i_X12_subgroup 9 [.ref h0, .int x1, .int x2] [.int y0] S I J Q := by
  have h := (Go.eti kt kf)
  exact Go.n tb_X12_subgroup 1 h
theorem b_X12_subgroup_12 {d : Nat} {S : zS} {I : zI} {J : zJ} {Q : zQ} {h0 : Nat} {x1 : Int32} {x2 : Int32} (kk : Q (some (.int (-2 : Int32))) S I J) : Go d i_X12_subgroup 12 [.ref h0, .int x1, .int x2] [] S I J Q := by
  have h := (And.intro trivial kk)
  exact Go.n tb_X12_subgroup 2 h
theorem b_X12_subgroup_15 {d : Nat} {S : zS} {I : zI} {J : zJ} {Q : zQ} {h0 : Nat} {x1 : Int32} {x2 : Int32} (kt : (0 : Int32) ≤ x2 → Go d i_X12_subgroup 22 [.ref h0, .int x1, .int x2] [] S I J Q) (kf : ¬ (0 : Int32) ≤ x2 → Go d i_X12_subgroup 19 [.ref h0, .int x1, .int x2] [] S I J Q) : Go d i_X12_subgroup 15 [.ref h0, .int x1, .int x2] [] S I J Q := by
  have h := (Go.ite kt kf)
  exact Go.n tb_X12_subgroup 2 h
theorem b_X12_subgroup_19 {d : Nat} {S : zS} {I : zI} {J : zJ} {Q : zQ} {h0 : Nat} {x1 : Int32} {x2 : Int32} (kk : Q (some (.int (-3 : Int32))) S I J) : Go d i_X12_subgroup 19 [.ref h0, .int x1, .int x2] [] S I J Q := by
  have h := (And.intro trivial kk)
  exact Go.n tb_X12_subgroup 2 h
theorem b_X12_subgroup_22 {d : Nat} {S : zS} {I : zI} {J : zJ} {Q : zQ} {h0 : Nat} {x1 : Int32} {x2 : Int32} (g1 : z_kd S h0 = 13) (kk : z_wp d i_X12_laysSubgroups [.ref h0, .int x1] S I J (fun vv SS II JJ => Go d i_X12_subgroup 27 [.ref h0, .int x1, .int x2] (vv.toList ++ []) SS II JJ Q)) : Go d i_X12_subgroup 22 [.ref h0, .int x1, .int x2] [] S I J Q := by
  have h := (And.intro g1 kk)
  exact Go.n tb_X12_subgroup 3 h
theorem b_X12_subgroup_27 {d : Nat} {S : zS} {I : zI} {J : zJ} {Q : zQ} {h0 : Nat} {x1 : Int32} {x2 : Int32} (g1 : z_kd S h0 = 13) (kt : (I h0 23) ≤ x2 → Go d i_X12_subgroup 44 [.ref h0, .int x1, .int x2] [] S I J Q) (kf : ¬ (I h0 23) ≤ x2 → Go d i_X12_subgroup 35 [.ref h0, .int x1, .int x2] [] S I J Q) : Go d i_X12_subgroup 27 [.ref h0, .int x1, .int x2] [] S I J Q := by
  have h := (And.intro g1 (Go.ite kt kf))
  exact Go.n tb_X12_subgroup 4 h
theorem b_X12_subgroup_35 {d : Nat} {S : zS} {I : zI} {J : zJ} {Q : zQ} {h0 : Nat} {x1 : Int32} {x2 : Int32} (g1 : z_kd S h0 = 13) (g2 : z_isI (z_kd S (z_rv S h0 22)) = true ∧ vp_in x2 (z_ln S (z_rv S h0 22))) (kk : Q (some (.int (I (z_rv S h0 22) (Int32.toNatClampNeg x2)))) S I J) : Go d i_X12_subgroup 35 [.ref h0, .int x1, .int x2] [] S I J Q := by
  have h := (And.intro g1 (And.intro g2 (And.intro trivial kk)))
  exact Go.n tb_X12_subgroup 6 h
theorem b_X12_subgroup_44 {d : Nat} {S : zS} {I : zI} {J : zJ} {Q : zQ} {h0 : Nat} {x1 : Int32} {x2 : Int32} (kk : Q (some (.int (-1 : Int32))) S I J) : Go d i_X12_subgroup 44 [.ref h0, .int x1, .int x2] [] S I J Q := by
  have h := (And.intro trivial kk)
  exact Go.n tb_X12_subgroup 2 h
theorem w_X12_kind {d : Nat} {S : zS} {I : zI} {J : zJ} {Q : zQ} {h0 : Nat} {x1 : Int32} {x2 : Int32} (h : Go d i_X12_kind 0 [.ref h0, .int x1, .int x2] [] S I J Q) : z_wp (d + 1) i_X12_kind [.ref h0, .int x1, .int x2] S I J Q := Go.wp (Nat.le_of_ble_eq_true rfl) h
theorem e_X12_kind {d : Nat} {S S2 : zS} {I I2 : zI} {J J2 : zJ} {r : Option Value} {h0 : Nat} {x1 : Int32} {x2 : Int32} (h : Go d i_X12_kind 0 [.ref h0, .int x1, .int x2] [] S I J (z_eq r S2 I2 J2)) : z_ev (d + 1) i_X12_kind [.ref h0, .int x1, .int x2] S I J r S2 I2 J2 := Go.ev (Nat.le_of_ble_eq_true rfl) h
theorem b_X12_kind_0 {d : Nat} {S : zS} {I : zI} {J : zJ} {Q : zQ} {h0 : Nat} {x1 : Int32} {x2 : Int32} (g1 : z_kd S h0 = 13) (kk : z_wp d i_X12_isSlot [.int x1] S (z_u2 I h0 1 (0 : Int32)) J (fun vv SS II JJ => Go d i_X12_kind 9 [.ref h0, .int x1, .int x2] (vv.toList ++ []) SS II JJ Q)) : Go d i_X12_kind 0 [.ref h0, .int x1, .int x2] [] S I J Q := by
  have h := (And.intro g1 (And.intro trivial kk))
  exact Go.n tb_X12_kind 5 h
theorem b_X12_kind_9 {d : Nat} {S : zS} {I : zI} {J : zJ} {Q : zQ} {h0 : Nat} {x1 : Int32} {x2 : Int32} {y0 : Int32} (kt : ¬ y0 = (0 : Int32) → Go d i_X12_kind 15 [.ref h0, .int x1, .int x2] [] S I J Q) (kf : y0 = (0 : Int32) → Go d i_X12_kind 12 [.ref h0, .int x1, .int x2] [] S I J Q) : Go d i_X12_kind 9 [.ref h0, .int x1, .int x2] [.int y0] S I J Q := by
  have h := (Go.eti kt kf)
  exact Go.n tb_X12_kind 1 h
theorem b_X12_kind_12 {d : Nat} {S : zS} {I : zI} {J : zJ} {Q : zQ} {h0 : Nat} {x1 : Int32} {x2 : Int32} (kk : Q (some (.int (-2 : Int32))) S I J) : Go d i_X12_kind 12 [.ref h0, .int x1, .int x2] [] S I J Q := by
  have h := (And.intro trivial kk)
  exact Go.n tb_X12_kind 2 h
theorem b_X12_kind_15 {d : Nat} {S : zS} {I : zI} {J : zJ} {Q : zQ} {h0 : Nat} {x1 : Int32} {x2 : Int32} (g1 : z_kd S h0 = 13) (kk : z_wp d i_X12_isSet [.ref h0, .int x1, .int x2] S I J (fun vv SS II JJ => Go d i_X12_kind 21 [.ref h0, .int x1, .int x2] (vv.toList ++ []) SS II JJ Q)) : Go d i_X12_kind 15 [.ref h0, .int x1, .int x2] [] S I J Q := by
  have h := (And.intro g1 kk)
  exact Go.n tb_X12_kind 4 h
theorem b_X12_kind_21 {d : Nat} {S : zS} {I : zI} {J : zJ} {Q : zQ} {h0 : Nat} {x1 : Int32} {x2 : Int32} {y0 : Int32} (kt : y0 = (0 : Int32) → Go d i_X12_kind 33 [.ref h0, .int x1, .int x2] [] S I J Q) (kf : ¬ y0 = (0 : Int32) → Go d i_X12_kind 24 [.ref h0, .int x1, .int x2] [] S I J Q) : Go d i_X12_kind 21 [.ref h0, .int x1, .int x2] [.int y0] S I J Q := by
  have h := (Go.ite kt kf)
  exact Go.n tb_X12_kind 1 h
theorem b_X12_kind_24 {d : Nat} {S : zS} {I : zI} {J : zJ} {Q : zQ} {h0 : Nat} {x1 : Int32} {x2 : Int32} (g1 : z_kd S h0 = 13) (kk : z_wp d i_X12_kindOf [.ref h0, .int x1, .int x2] S I J (fun vv SS II JJ => Go d i_X12_kind 30 [.ref h0, .int x1, .int x2] (vv.toList ++ []) SS II JJ Q)) : Go d i_X12_kind 24 [.ref h0, .int x1, .int x2] [] S I J Q := by
  have h := (And.intro g1 kk)
  exact Go.n tb_X12_kind 4 h
theorem b_X12_kind_30 {d : Nat} {S : zS} {I : zI} {J : zJ} {Q : zQ} {h0 : Nat} {x1 : Int32} {x2 : Int32} {y0 : Int32} (kk : Q (some (.int y0)) S I J) : Go d i_X12_kind 30 [.ref h0, .int x1, .int x2] [.int y0] S I J Q := by
  have h := (And.intro trivial kk)
  exact Go.n tb_X12_kind 2 h
theorem b_X12_kind_33 {d : Nat} {S : zS} {I : zI} {J : zJ} {Q : zQ} {h0 : Nat} {x1 : Int32} {x2 : Int32} (kk : Q (some (.int (-3 : Int32))) S I J) : Go d i_X12_kind 33 [.ref h0, .int x1, .int x2] [] S I J Q := by
  have h := (And.intro trivial kk)
  exact Go.n tb_X12_kind 2 h
theorem w_X12_follows {d : Nat} {S : zS} {I : zI} {J : zJ} {Q : zQ} {h0 : Nat} {x1 : Int32} {x2 : Int32} {x3 : Int32} {x4 : Int32} {x5 : Int32} (h : Go d i_X12_follows 0 [.ref h0, .int x1, .int x2, .int x3, .int x4, .int x5, .retAddr 0, .retAddr 0, .retAddr 0, .retAddr 0, .retAddr 0, .retAddr 0, .retAddr 0] [] S I J Q) : z_wp (d + 1) i_X12_follows [.ref h0, .int x1, .int x2, .int x3, .int x4, .int x5] S I J Q := Go.wp (Nat.le_of_ble_eq_true rfl) h
theorem e_X12_follows {d : Nat} {S S2 : zS} {I I2 : zI} {J J2 : zJ} {r : Option Value} {h0 : Nat} {x1 : Int32} {x2 : Int32} {x3 : Int32} {x4 : Int32} {x5 : Int32} (h : Go d i_X12_follows 0 [.ref h0, .int x1, .int x2, .int x3, .int x4, .int x5, .retAddr 0, .retAddr 0, .retAddr 0, .retAddr 0, .retAddr 0, .retAddr 0, .retAddr 0] [] S I J (z_eq r S2 I2 J2)) : z_ev (d + 1) i_X12_follows [.ref h0, .int x1, .int x2, .int x3, .int x4, .int x5] S I J r S2 I2 J2 := Go.ev (Nat.le_of_ble_eq_true rfl) h
theorem b_X12_follows_0 {d : Nat} {S : zS} {I : zI} {J : zJ} {Q : zQ} {h0 : Nat} {x1 : Int32} {x2 : Int32} {x3 : Int32} {x4 : Int32} {x5 : Int32} {v6 : Value} {v7 : Value} {v8 : Value} {v9 : Value} {v10 : Value} {v11 : Value} {v12 : Value} (kk : Go d i_X12_follows 16 [.ref h0, .int x1, .int x2, .int x3, .int x4, .int x5, .int ((20 : Int32) * x3), .int (((20 : Int32) * x3) + (20 : Int32)), .int (0 : Int32), v9, v10, v11, v12] [] S I J Q) : Go d i_X12_follows 0 [.ref h0, .int x1, .int x2, .int x3, .int x4, .int x5, v6, v7, v8, v9, v10, v11, v12] [] S I J Q := by
  have h := kk
  exact Go.n tb_X12_follows 10 h
theorem b_X12_follows_16 {d : Nat} {S : zS} {I : zI} {J : zJ} {Q : zQ} {h0 : Nat} {x1 : Int32} {x2 : Int32} {x3 : Int32} {x4 : Int32} {x5 : Int32} {x6 : Int32} {x7 : Int32} {x8 : Int32} {v9 : Value} {v10 : Value} {v11 : Value} {v12 : Value} (kt : (20 : Int32) ≤ x8 → Go d i_X12_follows 49 [.ref h0, .int x1, .int x2, .int x3, .int x4, .int x5, .int x6, .int x7, .int x8, v9, v10, v11, v12] [] S I J Q) (kf : ¬ (20 : Int32) ≤ x8 → Go d i_X12_follows 23 [.ref h0, .int x1, .int x2, .int x3, .int x4, .int x5, .int x6, .int x7, .int x8, v9, v10, v11, v12] [] S I J Q) : Go d i_X12_follows 16 [.ref h0, .int x1, .int x2, .int x3, .int x4, .int x5, .int x6, .int x7, .int x8, v9, v10, v11, v12] [] S I J Q := by
  have h := (Go.ite kt kf)
  exact Go.n tb_X12_follows 3 h
theorem b_X12_follows_23 {d : Nat} {S : zS} {I : zI} {J : zJ} {Q : zQ} {h0 : Nat} {x1 : Int32} {x2 : Int32} {x3 : Int32} {x4 : Int32} {x5 : Int32} {x6 : Int32} {x7 : Int32} {x8 : Int32} {v9 : Value} {v10 : Value} {v11 : Value} {v12 : Value} (g1 : z_kd S h0 = 13) (g2 : z_kd S h0 = 13) (g3 : z_isI (z_kd S (z_rv S h0 24)) = true ∧ vp_in (x6 + x8) (z_ln S (z_rv S h0 24))) (g4 : z_kd S (z_rv S h0 24) = 100 ∧ vp_in (x7 + x8) (z_ln S (z_rv S h0 24))) (kk : Go d i_X12_follows 16 [.ref h0, .int x1, .int x2, .int x3, .int x4, .int x5, .int x6, .int x7, .int (x8 + (1 : Int32)), v9, v10, v11, v12] [] S (z_u2 I (z_rv S h0 24) (Int32.toNatClampNeg (x7 + x8)) (I (z_rv S h0 24) (Int32.toNatClampNeg (x6 + x8)))) J Q) : Go d i_X12_follows 23 [.ref h0, .int x1, .int x2, .int x3, .int x4, .int x5, .int x6, .int x7, .int x8, v9, v10, v11, v12] [] S I J Q := by
  have h := (And.intro g1 (And.intro g2 (And.intro g3 (And.intro g4 kk))))
  exact Go.n tb_X12_follows 14 h
theorem b_X12_follows_49 {d : Nat} {S : zS} {I : zI} {J : zJ} {Q : zQ} {h0 : Nat} {x1 : Int32} {x2 : Int32} {x3 : Int32} {x4 : Int32} {x5 : Int32} {x6 : Int32} {x7 : Int32} {x8 : Int32} {v9 : Value} {v10 : Value} {v11 : Value} {v12 : Value} (g1 : z_kd S h0 = 13) (g2 : z_kd S (z_rv S h0 24) = 100 ∧ vp_in (x7 + x4) (z_ln S (z_rv S h0 24))) (kk : Go d i_X12_follows 64 [.ref h0, .int x1, .int x2, .int x3, .int x4, .int x5, .int x6, .int x7, .int (1 : Int32), v9, v10, v11, v12] [] S (z_u2 I (z_rv S h0 24) (Int32.toNatClampNeg (x7 + x4)) x5) J Q) : Go d i_X12_follows 49 [.ref h0, .int x1, .int x2, .int x3, .int x4, .int x5, .int x6, .int x7, .int x8, v9, v10, v11, v12] [] S I J Q := by
  have h := (And.intro g1 (And.intro g2 kk))
  exact Go.n tb_X12_follows 9 h
theorem b_X12_follows_64 {d : Nat} {S : zS} {I : zI} {J : zJ} {Q : zQ} {h0 : Nat} {x1 : Int32} {x2 : Int32} {x3 : Int32} {x4 : Int32} {x5 : Int32} {x6 : Int32} {x7 : Int32} {x8 : Int32} {v9 : Value} {v10 : Value} {v11 : Value} {v12 : Value} (kt : x8 = (0 : Int32) → Go d i_X12_follows 231 [.ref h0, .int x1, .int x2, .int x3, .int x4, .int x5, .int x6, .int x7, .int x8, v9, v10, v11, v12] [] S I J Q) (kf : ¬ x8 = (0 : Int32) → Go d i_X12_follows 69 [.ref h0, .int x1, .int x2, .int x3, .int x4, .int x5, .int x6, .int x7, .int x8, v9, v10, v11, v12] [] S I J Q) : Go d i_X12_follows 64 [.ref h0, .int x1, .int x2, .int x3, .int x4, .int x5, .int x6, .int x7, .int x8, v9, v10, v11, v12] [] S I J Q := by
  have h := (Go.ite kt kf)
  exact Go.n tb_X12_follows 2 h
theorem b_X12_follows_69 {d : Nat} {S : zS} {I : zI} {J : zJ} {Q : zQ} {h0 : Nat} {x1 : Int32} {x2 : Int32} {x3 : Int32} {x4 : Int32} {x5 : Int32} {x6 : Int32} {x7 : Int32} {x8 : Int32} {v9 : Value} {v10 : Value} {v11 : Value} {v12 : Value} (kk : Go d i_X12_follows 75 [.ref h0, .int x1, .int x2, .int x3, .int x4, .int x5, .int x6, .int x7, .int (0 : Int32), .int (0 : Int32), v10, v11, v12] [] S I J Q) : Go d i_X12_follows 69 [.ref h0, .int x1, .int x2, .int x3, .int x4, .int x5, .int x6, .int x7, .int x8, v9, v10, v11, v12] [] S I J Q := by
  have h := kk
  exact Go.n tb_X12_follows 4 h
theorem b_X12_follows_75 {d : Nat} {S : zS} {I : zI} {J : zJ} {Q : zQ} {h0 : Nat} {x1 : Int32} {x2 : Int32} {x3 : Int32} {x4 : Int32} {x5 : Int32} {x6 : Int32} {x7 : Int32} {x8 : Int32} {x9 : Int32} {v10 : Value} {v11 : Value} {v12 : Value} (g1 : z_kd S h0 = 13) (kk : z_wp d i_X12_many [.ref h0, .int x1] S I J (fun vv SS II JJ => Go d i_X12_follows 82 [.ref h0, .int x1, .int x2, .int x3, .int x4, .int x5, .int x6, .int x7, .int x8, .int x9, v10, v11, v12] (vv.toList ++ [.int x9]) SS II JJ Q)) : Go d i_X12_follows 75 [.ref h0, .int x1, .int x2, .int x3, .int x4, .int x5, .int x6, .int x7, .int x8, .int x9, v10, v11, v12] [] S I J Q := by
  have h := (And.intro g1 kk)
  exact Go.n tb_X12_follows 4 h
theorem b_X12_follows_82 {d : Nat} {S : zS} {I : zI} {J : zJ} {Q : zQ} {h0 : Nat} {x1 : Int32} {x2 : Int32} {x3 : Int32} {x4 : Int32} {x5 : Int32} {x6 : Int32} {x7 : Int32} {x8 : Int32} {x9 : Int32} {v10 : Value} {v11 : Value} {v12 : Value} {y0 : Int32} {y1 : Int32} (kt : y1 ≤ y0 → Go d i_X12_follows 228 [.ref h0, .int x1, .int x2, .int x3, .int x4, .int x5, .int x6, .int x7, .int x8, .int x9, v10, v11, v12] [] S I J Q) (kf : ¬ y1 ≤ y0 → Go d i_X12_follows 85 [.ref h0, .int x1, .int x2, .int x3, .int x4, .int x5, .int x6, .int x7, .int x8, .int x9, v10, v11, v12] [] S I J Q) : Go d i_X12_follows 82 [.ref h0, .int x1, .int x2, .int x3, .int x4, .int x5, .int x6, .int x7, .int x8, .int x9, v10, v11, v12] [.int y1, .int y0] S I J Q := by
  have h := (Go.ite kt kf)
  exact Go.n tb_X12_follows 1 h
theorem b_X12_follows_85 {d : Nat} {S : zS} {I : zI} {J : zJ} {Q : zQ} {h0 : Nat} {x1 : Int32} {x2 : Int32} {x3 : Int32} {x4 : Int32} {x5 : Int32} {x6 : Int32} {x7 : Int32} {x8 : Int32} {x9 : Int32} {v10 : Value} {v11 : Value} {v12 : Value} (g1 : z_kd S h0 = 13) (g2 : z_isI (z_kd S (z_rv S h0 24)) = true ∧ vp_in (x7 + x9) (z_ln S (z_rv S h0 24))) (kt : ¬ (I (z_rv S h0 24) (Int32.toNatClampNeg (x7 + x9))) = (-1 : Int32) → Go d i_X12_follows 102 [.ref h0, .int x1, .int x2, .int x3, .int x4, .int x5, .int x6, .int x7, .int x8, .int x9, v10, v11, v12] [] S I J Q) (kf : (I (z_rv S h0 24) (Int32.toNatClampNeg (x7 + x9))) = (-1 : Int32) → Go d i_X12_follows 99 [.ref h0, .int x1, .int x2, .int x3, .int x4, .int x5, .int x6, .int x7, .int x8, .int x9, v10, v11, v12] [] S I J Q) : Go d i_X12_follows 85 [.ref h0, .int x1, .int x2, .int x3, .int x4, .int x5, .int x6, .int x7, .int x8, .int x9, v10, v11, v12] [] S I J Q := by
  have h := (And.intro g1 (And.intro g2 (Go.eti kt kf)))
  exact Go.n tb_X12_follows 8 h
theorem b_X12_follows_99 {d : Nat} {S : zS} {I : zI} {J : zJ} {Q : zQ} {h0 : Nat} {x1 : Int32} {x2 : Int32} {x3 : Int32} {x4 : Int32} {x5 : Int32} {x6 : Int32} {x7 : Int32} {x8 : Int32} {x9 : Int32} {v10 : Value} {v11 : Value} {v12 : Value} (kk : Go d i_X12_follows 75 [.ref h0, .int x1, .int x2, .int x3, .int x4, .int x5, .int x6, .int x7, .int x8, .int (x9 + (1 : Int32)), v10, v11, v12] [] S I J Q) : Go d i_X12_follows 99 [.ref h0, .int x1, .int x2, .int x3, .int x4, .int x5, .int x6, .int x7, .int x8, .int x9, v10, v11, v12] [] S I J Q := by
  have h := kk
  exact Go.n tb_X12_follows 3 h
theorem b_X12_follows_102 {d : Nat} {S : zS} {I : zI} {J : zJ} {Q : zQ} {h0 : Nat} {x1 : Int32} {x2 : Int32} {x3 : Int32} {x4 : Int32} {x5 : Int32} {x6 : Int32} {x7 : Int32} {x8 : Int32} {x9 : Int32} {v10 : Value} {v11 : Value} {v12 : Value} (kk : Go d i_X12_follows 105 [.ref h0, .int x1, .int x2, .int x3, .int x4, .int x5, .int x6, .int x7, .int x8, .int x9, .int (0 : Int32), v11, v12] [] S I J Q) : Go d i_X12_follows 102 [.ref h0, .int x1, .int x2, .int x3, .int x4, .int x5, .int x6, .int x7, .int x8, .int x9, v10, v11, v12] [] S I J Q := by
  have h := kk
  exact Go.n tb_X12_follows 2 h
theorem b_X12_follows_105 {d : Nat} {S : zS} {I : zI} {J : zJ} {Q : zQ} {h0 : Nat} {x1 : Int32} {x2 : Int32} {x3 : Int32} {x4 : Int32} {x5 : Int32} {x6 : Int32} {x7 : Int32} {x8 : Int32} {x9 : Int32} {x10 : Int32} {v11 : Value} {v12 : Value} (g1 : z_kd S h0 = 13) (kk : z_wp d i_X12_many [.ref h0, .int x1] S I J (fun vv SS II JJ => Go d i_X12_follows 112 [.ref h0, .int x1, .int x2, .int x3, .int x4, .int x5, .int x6, .int x7, .int x8, .int x9, .int x10, v11, v12] (vv.toList ++ [.int x10]) SS II JJ Q)) : Go d i_X12_follows 105 [.ref h0, .int x1, .int x2, .int x3, .int x4, .int x5, .int x6, .int x7, .int x8, .int x9, .int x10, v11, v12] [] S I J Q := by
  have h := (And.intro g1 kk)
  exact Go.n tb_X12_follows 4 h
theorem b_X12_follows_112 {d : Nat} {S : zS} {I : zI} {J : zJ} {Q : zQ} {h0 : Nat} {x1 : Int32} {x2 : Int32} {x3 : Int32} {x4 : Int32} {x5 : Int32} {x6 : Int32} {x7 : Int32} {x8 : Int32} {x9 : Int32} {x10 : Int32} {v11 : Value} {v12 : Value} {y0 : Int32} {y1 : Int32} (kt : y1 ≤ y0 → Go d i_X12_follows 222 [.ref h0, .int x1, .int x2, .int x3, .int x4, .int x5, .int x6, .int x7, .int x8, .int x9, .int x10, v11, v12] [] S I J Q) (kf : ¬ y1 ≤ y0 → Go d i_X12_follows 115 [.ref h0, .int x1, .int x2, .int x3, .int x4, .int x5, .int x6, .int x7, .int x8, .int x9, .int x10, v11, v12] [] S I J Q) : Go d i_X12_follows 112 [.ref h0, .int x1, .int x2, .int x3, .int x4, .int x5, .int x6, .int x7, .int x8, .int x9, .int x10, v11, v12] [.int y1, .int y0] S I J Q := by
  have h := (Go.ite kt kf)
  exact Go.n tb_X12_follows 1 h
theorem b_X12_follows_115 {d : Nat} {S : zS} {I : zI} {J : zJ} {Q : zQ} {h0 : Nat} {x1 : Int32} {x2 : Int32} {x3 : Int32} {x4 : Int32} {x5 : Int32} {x6 : Int32} {x7 : Int32} {x8 : Int32} {x9 : Int32} {x10 : Int32} {v11 : Value} {v12 : Value} (g1 : z_kd S h0 = 13) (g2 : z_isI (z_kd S (z_rv S h0 24)) = true ∧ vp_in (x7 + x10) (z_ln S (z_rv S h0 24))) (kt : ¬ (I (z_rv S h0 24) (Int32.toNatClampNeg (x7 + x10))) = (-1 : Int32) → Go d i_X12_follows 132 [.ref h0, .int x1, .int x2, .int x3, .int x4, .int x5, .int x6, .int x7, .int x8, .int x9, .int x10, v11, v12] [] S I J Q) (kf : (I (z_rv S h0 24) (Int32.toNatClampNeg (x7 + x10))) = (-1 : Int32) → Go d i_X12_follows 129 [.ref h0, .int x1, .int x2, .int x3, .int x4, .int x5, .int x6, .int x7, .int x8, .int x9, .int x10, v11, v12] [] S I J Q) : Go d i_X12_follows 115 [.ref h0, .int x1, .int x2, .int x3, .int x4, .int x5, .int x6, .int x7, .int x8, .int x9, .int x10, v11, v12] [] S I J Q := by
  have h := (And.intro g1 (And.intro g2 (Go.eti kt kf)))
  exact Go.n tb_X12_follows 8 h
theorem b_X12_follows_129 {d : Nat} {S : zS} {I : zI} {J : zJ} {Q : zQ} {h0 : Nat} {x1 : Int32} {x2 : Int32} {x3 : Int32} {x4 : Int32} {x5 : Int32} {x6 : Int32} {x7 : Int32} {x8 : Int32} {x9 : Int32} {x10 : Int32} {v11 : Value} {v12 : Value} (kk : Go d i_X12_follows 105 [.ref h0, .int x1, .int x2, .int x3, .int x4, .int x5, .int x6, .int x7, .int x8, .int x9, .int (x10 + (1 : Int32)), v11, v12] [] S I J Q) : Go d i_X12_follows 129 [.ref h0, .int x1, .int x2, .int x3, .int x4, .int x5, .int x6, .int x7, .int x8, .int x9, .int x10, v11, v12] [] S I J Q := by
  have h := kk
  exact Go.n tb_X12_follows 3 h
theorem b_X12_follows_132 {d : Nat} {S : zS} {I : zI} {J : zJ} {Q : zQ} {h0 : Nat} {x1 : Int32} {x2 : Int32} {x3 : Int32} {x4 : Int32} {x5 : Int32} {x6 : Int32} {x7 : Int32} {x8 : Int32} {x9 : Int32} {x10 : Int32} {v11 : Value} {v12 : Value} (g1 : z_kd S h0 = 13) (kk : z_wp d i_X12_times [.ref h0, .int x1, .int x9, .int x10] S I J (fun vv SS II JJ => Go d i_X12_follows 141 [.ref h0, .int x1, .int x2, .int x3, .int x4, .int x5, .int x6, .int x7, .int x8, .int x9, .int x10, v11, v12] (vv.toList ++ []) SS II JJ Q)) : Go d i_X12_follows 132 [.ref h0, .int x1, .int x2, .int x3, .int x4, .int x5, .int x6, .int x7, .int x8, .int x9, .int x10, v11, v12] [] S I J Q := by
  have h := (And.intro g1 kk)
  exact Go.n tb_X12_follows 5 h
theorem b_X12_follows_141 {d : Nat} {S : zS} {I : zI} {J : zJ} {Q : zQ} {h0 : Nat} {x1 : Int32} {x2 : Int32} {x3 : Int32} {x4 : Int32} {x5 : Int32} {x6 : Int32} {x7 : Int32} {x8 : Int32} {x9 : Int32} {x10 : Int32} {v11 : Value} {v12 : Value} {y0 : Int32} (g1 : z_kd S h0 = 13) (g2 : z_isI (z_kd S (z_rv S h0 24)) = true ∧ vp_in (x7 + x9) (z_ln S (z_rv S h0 24))) (g3 : z_kd S h0 = 13) (g4 : z_isI (z_kd S (z_rv S h0 24)) = true ∧ vp_in (x7 + x10) (z_ln S (z_rv S h0 24))) (g5 : z_kd S h0 = 13) (kk : z_wp d i_X12_times [.ref h0, .int x2, .int (I (z_rv S h0 24) (Int32.toNatClampNeg (x7 + x9))), .int (I (z_rv S h0 24) (Int32.toNatClampNeg (x7 + x10)))] S I J (fun vv SS II JJ => Go d i_X12_follows 168 [.ref h0, .int x1, .int x2, .int x3, .int x4, .int x5, .int x6, .int x7, .int x8, .int x9, .int x10, .int y0, v12] (vv.toList ++ []) SS II JJ Q)) : Go d i_X12_follows 141 [.ref h0, .int x1, .int x2, .int x3, .int x4, .int x5, .int x6, .int x7, .int x8, .int x9, .int x10, v11, v12] [.int y0] S I J Q := by
  have h := (And.intro g1 (And.intro g2 (And.intro g3 (And.intro g4 (And.intro g5 kk)))))
  exact Go.n tb_X12_follows 16 h
theorem b_X12_follows_168 {d : Nat} {S : zS} {I : zI} {J : zJ} {Q : zQ} {h0 : Nat} {x1 : Int32} {x2 : Int32} {x3 : Int32} {x4 : Int32} {x5 : Int32} {x6 : Int32} {x7 : Int32} {x8 : Int32} {x9 : Int32} {x10 : Int32} {x11 : Int32} {v12 : Value} {y0 : Int32} (g1 : z_kd S h0 = 13) (g2 : z_isI (z_kd S (z_rv S h0 24)) = true ∧ vp_in (x7 + x11) (z_ln S (z_rv S h0 24))) (kt : ¬ (I (z_rv S h0 24) (Int32.toNatClampNeg (x7 + x11))) = (-1 : Int32) → Go d i_X12_follows 199 [.ref h0, .int x1, .int x2, .int x3, .int x4, .int x5, .int x6, .int x7, .int x8, .int x9, .int x10, .int x11, .int y0] [] S I J Q) (kf : (I (z_rv S h0 24) (Int32.toNatClampNeg (x7 + x11))) = (-1 : Int32) → Go d i_X12_follows 184 [.ref h0, .int x1, .int x2, .int x3, .int x4, .int x5, .int x6, .int x7, .int x8, .int x9, .int x10, .int x11, .int y0] [] S I J Q) : Go d i_X12_follows 168 [.ref h0, .int x1, .int x2, .int x3, .int x4, .int x5, .int x6, .int x7, .int x8, .int x9, .int x10, .int x11, v12] [.int y0] S I J Q := by
  have h := (And.intro g1 (And.intro g2 (Go.eti kt kf)))
  exact Go.n tb_X12_follows 9 h
theorem b_X12_follows_184 {d : Nat} {S : zS} {I : zI} {J : zJ} {Q : zQ} {h0 : Nat} {x1 : Int32} {x2 : Int32} {x3 : Int32} {x4 : Int32} {x5 : Int32} {x6 : Int32} {x7 : Int32} {x8 : Int32} {x9 : Int32} {x10 : Int32} {x11 : Int32} {x12 : Int32} (g1 : z_kd S h0 = 13) (g2 : z_kd S (z_rv S h0 24) = 100 ∧ vp_in (x7 + x11) (z_ln S (z_rv S h0 24))) (g3 : z_kd S h0 = 13) (g4 : z_isI (z_kd S (z_rv S h0 24)) = true ∧ vp_in (x7 + x11) (z_ln S (z_rv S h0 24))) (kt : ((z_u2 I (z_rv S h0 24) (Int32.toNatClampNeg (x7 + x11)) x12) (z_rv S h0 24) (Int32.toNatClampNeg (x7 + x11))) = x12 → Go d i_X12_follows 216 [.ref h0, .int x1, .int x2, .int x3, .int x4, .int x5, .int x6, .int x7, .int (1 : Int32), .int x9, .int x10, .int x11, .int x12] [] S (z_u2 I (z_rv S h0 24) (Int32.toNatClampNeg (x7 + x11)) x12) J Q) (kf : ¬ ((z_u2 I (z_rv S h0 24) (Int32.toNatClampNeg (x7 + x11)) x12) (z_rv S h0 24) (Int32.toNatClampNeg (x7 + x11))) = x12 → Go d i_X12_follows 214 [.ref h0, .int x1, .int x2, .int x3, .int x4, .int x5, .int x6, .int x7, .int (1 : Int32), .int x9, .int x10, .int x11, .int x12] [] S (z_u2 I (z_rv S h0 24) (Int32.toNatClampNeg (x7 + x11)) x12) J Q) : Go d i_X12_follows 184 [.ref h0, .int x1, .int x2, .int x3, .int x4, .int x5, .int x6, .int x7, .int x8, .int x9, .int x10, .int x11, .int x12] [] S I J Q := by
  have h := (And.intro g1 (And.intro g2 (And.intro g3 (And.intro g4 (Go.ite kt kf)))))
  exact Go.n tb_X12_follows 17 h
theorem b_X12_follows_199 {d : Nat} {S : zS} {I : zI} {J : zJ} {Q : zQ} {h0 : Nat} {x1 : Int32} {x2 : Int32} {x3 : Int32} {x4 : Int32} {x5 : Int32} {x6 : Int32} {x7 : Int32} {x8 : Int32} {x9 : Int32} {x10 : Int32} {x11 : Int32} {x12 : Int32} (g1 : z_kd S h0 = 13) (g2 : z_isI (z_kd S (z_rv S h0 24)) = true ∧ vp_in (x7 + x11) (z_ln S (z_rv S h0 24))) (kt : (I (z_rv S h0 24) (Int32.toNatClampNeg (x7 + x11))) = x12 → Go d i_X12_follows 216 [.ref h0, .int x1, .int x2, .int x3, .int x4, .int x5, .int x6, .int x7, .int x8, .int x9, .int x10, .int x11, .int x12] [] S I J Q) (kf : ¬ (I (z_rv S h0 24) (Int32.toNatClampNeg (x7 + x11))) = x12 → Go d i_X12_follows 214 [.ref h0, .int x1, .int x2, .int x3, .int x4, .int x5, .int x6, .int x7, .int x8, .int x9, .int x10, .int x11, .int x12] [] S I J Q) : Go d i_X12_follows 199 [.ref h0, .int x1, .int x2, .int x3, .int x4, .int x5, .int x6, .int x7, .int x8, .int x9, .int x10, .int x11, .int x12] [] S I J Q := by
  have h := (And.intro g1 (And.intro g2 (Go.ite kt kf)))
  exact Go.n tb_X12_follows 8 h
theorem b_X12_follows_214 {d : Nat} {S : zS} {I : zI} {J : zJ} {Q : zQ} {h0 : Nat} {x1 : Int32} {x2 : Int32} {x3 : Int32} {x4 : Int32} {x5 : Int32} {x6 : Int32} {x7 : Int32} {x8 : Int32} {x9 : Int32} {x10 : Int32} {x11 : Int32} {x12 : Int32} (g1 : z_fit 3 (0 : Int32)) (kk : Q (some (.int (0 : Int32))) S I J) : Go d i_X12_follows 214 [.ref h0, .int x1, .int x2, .int x3, .int x4, .int x5, .int x6, .int x7, .int x8, .int x9, .int x10, .int x11, .int x12] [] S I J Q := by
  have h := (And.intro g1 kk)
  exact Go.n tb_X12_follows 2 h
theorem b_X12_follows_216 {d : Nat} {S : zS} {I : zI} {J : zJ} {Q : zQ} {h0 : Nat} {x1 : Int32} {x2 : Int32} {x3 : Int32} {x4 : Int32} {x5 : Int32} {x6 : Int32} {x7 : Int32} {x8 : Int32} {x9 : Int32} {x10 : Int32} {v11 : Value} {v12 : Value} (kk : Go d i_X12_follows 105 [.ref h0, .int x1, .int x2, .int x3, .int x4, .int x5, .int x6, .int x7, .int x8, .int x9, .int (x10 + (1 : Int32)), v11, v12] [] S I J Q) : Go d i_X12_follows 216 [.ref h0, .int x1, .int x2, .int x3, .int x4, .int x5, .int x6, .int x7, .int x8, .int x9, .int x10, v11, v12] [] S I J Q := by
  have h := kk
  exact Go.n tb_X12_follows 2 h
theorem b_X12_follows_222 {d : Nat} {S : zS} {I : zI} {J : zJ} {Q : zQ} {h0 : Nat} {x1 : Int32} {x2 : Int32} {x3 : Int32} {x4 : Int32} {x5 : Int32} {x6 : Int32} {x7 : Int32} {x8 : Int32} {x9 : Int32} {v10 : Value} {v11 : Value} {v12 : Value} (kk : Go d i_X12_follows 75 [.ref h0, .int x1, .int x2, .int x3, .int x4, .int x5, .int x6, .int x7, .int x8, .int (x9 + (1 : Int32)), v10, v11, v12] [] S I J Q) : Go d i_X12_follows 222 [.ref h0, .int x1, .int x2, .int x3, .int x4, .int x5, .int x6, .int x7, .int x8, .int x9, v10, v11, v12] [] S I J Q := by
  have h := kk
  exact Go.n tb_X12_follows 2 h
theorem b_X12_follows_228 {d : Nat} {S : zS} {I : zI} {J : zJ} {Q : zQ} {h0 : Nat} {x1 : Int32} {x2 : Int32} {x3 : Int32} {x4 : Int32} {x5 : Int32} {x6 : Int32} {x7 : Int32} {x8 : Int32} {x9 : Int32} {v10 : Value} {v11 : Value} {v12 : Value} (kk : Go d i_X12_follows 64 [.ref h0, .int x1, .int x2, .int x3, .int x4, .int x5, .int x6, .int x7, .int x8, .int x9, v10, v11, v12] [] S I J Q) : Go d i_X12_follows 228 [.ref h0, .int x1, .int x2, .int x3, .int x4, .int x5, .int x6, .int x7, .int x8, .int x9, v10, v11, v12] [] S I J Q := by
  have h := kk
  exact Go.n tb_X12_follows 1 h
theorem b_X12_follows_231 {d : Nat} {S : zS} {I : zI} {J : zJ} {Q : zQ} {h0 : Nat} {x1 : Int32} {x2 : Int32} {x3 : Int32} {x4 : Int32} {x5 : Int32} {x6 : Int32} {x7 : Int32} {x8 : Int32} {v9 : Value} {v10 : Value} {v11 : Value} {v12 : Value} (kk : Go d i_X12_follows 237 [.ref h0, .int x1, .int x2, .int x3, .int x4, .int x5, .int x6, .int x7, .int x8, .int (0 : Int32), .int (0 : Int32), v11, v12] [] S I J Q) : Go d i_X12_follows 231 [.ref h0, .int x1, .int x2, .int x3, .int x4, .int x5, .int x6, .int x7, .int x8, v9, v10, v11, v12] [] S I J Q := by
  have h := kk
  exact Go.n tb_X12_follows 4 h
theorem b_X12_follows_237 {d : Nat} {S : zS} {I : zI} {J : zJ} {Q : zQ} {h0 : Nat} {x1 : Int32} {x2 : Int32} {x3 : Int32} {x4 : Int32} {x5 : Int32} {x6 : Int32} {x7 : Int32} {x8 : Int32} {x9 : Int32} {x10 : Int32} {v11 : Value} {v12 : Value} (g1 : z_kd S h0 = 13) (kk : z_wp d i_X12_many [.ref h0, .int x1] S I J (fun vv SS II JJ => Go d i_X12_follows 244 [.ref h0, .int x1, .int x2, .int x3, .int x4, .int x5, .int x6, .int x7, .int x8, .int x9, .int x10, v11, v12] (vv.toList ++ [.int x10]) SS II JJ Q)) : Go d i_X12_follows 237 [.ref h0, .int x1, .int x2, .int x3, .int x4, .int x5, .int x6, .int x7, .int x8, .int x9, .int x10, v11, v12] [] S I J Q := by
  have h := (And.intro g1 kk)
  exact Go.n tb_X12_follows 4 h
theorem b_X12_follows_244 {d : Nat} {S : zS} {I : zI} {J : zJ} {Q : zQ} {h0 : Nat} {x1 : Int32} {x2 : Int32} {x3 : Int32} {x4 : Int32} {x5 : Int32} {x6 : Int32} {x7 : Int32} {x8 : Int32} {x9 : Int32} {x10 : Int32} {v11 : Value} {v12 : Value} {y0 : Int32} {y1 : Int32} (kt : y1 ≤ y0 → Go d i_X12_follows 307 [.ref h0, .int x1, .int x2, .int x3, .int x4, .int x5, .int x6, .int x7, .int x8, .int x9, .int x10, v11, v12] [] S I J Q) (kf : ¬ y1 ≤ y0 → Go d i_X12_follows 247 [.ref h0, .int x1, .int x2, .int x3, .int x4, .int x5, .int x6, .int x7, .int x8, .int x9, .int x10, v11, v12] [] S I J Q) : Go d i_X12_follows 244 [.ref h0, .int x1, .int x2, .int x3, .int x4, .int x5, .int x6, .int x7, .int x8, .int x9, .int x10, v11, v12] [.int y1, .int y0] S I J Q := by
  have h := (Go.ite kt kf)
  exact Go.n tb_X12_follows 1 h
theorem b_X12_follows_247 {d : Nat} {S : zS} {I : zI} {J : zJ} {Q : zQ} {h0 : Nat} {x1 : Int32} {x2 : Int32} {x3 : Int32} {x4 : Int32} {x5 : Int32} {x6 : Int32} {x7 : Int32} {x8 : Int32} {x9 : Int32} {x10 : Int32} {v11 : Value} {v12 : Value} (g1 : z_kd S h0 = 13) (g2 : z_isI (z_kd S (z_rv S h0 24)) = true ∧ vp_in (x7 + x10) (z_ln S (z_rv S h0 24))) (kt : ¬ (I (z_rv S h0 24) (Int32.toNatClampNeg (x7 + x10))) = (-1 : Int32) → Go d i_X12_follows 264 [.ref h0, .int x1, .int x2, .int x3, .int x4, .int x5, .int x6, .int x7, .int x8, .int x9, .int x10, v11, v12] [] S I J Q) (kf : (I (z_rv S h0 24) (Int32.toNatClampNeg (x7 + x10))) = (-1 : Int32) → Go d i_X12_follows 261 [.ref h0, .int x1, .int x2, .int x3, .int x4, .int x5, .int x6, .int x7, .int x8, .int x9, .int x10, v11, v12] [] S I J Q) : Go d i_X12_follows 247 [.ref h0, .int x1, .int x2, .int x3, .int x4, .int x5, .int x6, .int x7, .int x8, .int x9, .int x10, v11, v12] [] S I J Q := by
  have h := (And.intro g1 (And.intro g2 (Go.eti kt kf)))
  exact Go.n tb_X12_follows 8 h
theorem b_X12_follows_261 {d : Nat} {S : zS} {I : zI} {J : zJ} {Q : zQ} {h0 : Nat} {x1 : Int32} {x2 : Int32} {x3 : Int32} {x4 : Int32} {x5 : Int32} {x6 : Int32} {x7 : Int32} {x8 : Int32} {x9 : Int32} {x10 : Int32} {v11 : Value} {v12 : Value} (kk : Go d i_X12_follows 237 [.ref h0, .int x1, .int x2, .int x3, .int x4, .int x5, .int x6, .int x7, .int x8, .int x9, .int (x10 + (1 : Int32)), v11, v12] [] S I J Q) : Go d i_X12_follows 261 [.ref h0, .int x1, .int x2, .int x3, .int x4, .int x5, .int x6, .int x7, .int x8, .int x9, .int x10, v11, v12] [] S I J Q := by
  have h := kk
  exact Go.n tb_X12_follows 3 h
theorem b_X12_follows_264 {d : Nat} {S : zS} {I : zI} {J : zJ} {Q : zQ} {h0 : Nat} {x1 : Int32} {x2 : Int32} {x3 : Int32} {x4 : Int32} {x5 : Int32} {x6 : Int32} {x7 : Int32} {x8 : Int32} {x9 : Int32} {x10 : Int32} {v11 : Value} {v12 : Value} (g1 : z_kd S h0 = 13) (g2 : z_isI (z_kd S (z_rv S h0 24)) = true ∧ vp_in (x7 + x10) (z_ln S (z_rv S h0 24))) (kk : z_wp d i_X12_has [.int x9, .int (I (z_rv S h0 24) (Int32.toNatClampNeg (x7 + x10)))] S I J (fun vv SS II JJ => Go d i_X12_follows 279 [.ref h0, .int x1, .int x2, .int x3, .int x4, .int x5, .int x6, .int x7, .int x8, .int x9, .int x10, v11, v12] (vv.toList ++ []) SS II JJ Q)) : Go d i_X12_follows 264 [.ref h0, .int x1, .int x2, .int x3, .int x4, .int x5, .int x6, .int x7, .int x8, .int x9, .int x10, v11, v12] [] S I J Q := by
  have h := (And.intro g1 (And.intro g2 (And.intro trivial kk)))
  exact Go.n tb_X12_follows 8 h
theorem b_X12_follows_279 {d : Nat} {S : zS} {I : zI} {J : zJ} {Q : zQ} {h0 : Nat} {x1 : Int32} {x2 : Int32} {x3 : Int32} {x4 : Int32} {x5 : Int32} {x6 : Int32} {x7 : Int32} {x8 : Int32} {x9 : Int32} {x10 : Int32} {v11 : Value} {v12 : Value} {y0 : Int32} (kt : y0 = (0 : Int32) → Go d i_X12_follows 284 [.ref h0, .int x1, .int x2, .int x3, .int x4, .int x5, .int x6, .int x7, .int x8, .int x9, .int x10, v11, v12] [] S I J Q) (kf : ¬ y0 = (0 : Int32) → Go d i_X12_follows 282 [.ref h0, .int x1, .int x2, .int x3, .int x4, .int x5, .int x6, .int x7, .int x8, .int x9, .int x10, v11, v12] [] S I J Q) : Go d i_X12_follows 279 [.ref h0, .int x1, .int x2, .int x3, .int x4, .int x5, .int x6, .int x7, .int x8, .int x9, .int x10, v11, v12] [.int y0] S I J Q := by
  have h := (Go.ite kt kf)
  exact Go.n tb_X12_follows 1 h
theorem b_X12_follows_282 {d : Nat} {S : zS} {I : zI} {J : zJ} {Q : zQ} {h0 : Nat} {x1 : Int32} {x2 : Int32} {x3 : Int32} {x4 : Int32} {x5 : Int32} {x6 : Int32} {x7 : Int32} {x8 : Int32} {x9 : Int32} {x10 : Int32} {v11 : Value} {v12 : Value} (g1 : z_fit 3 (0 : Int32)) (kk : Q (some (.int (0 : Int32))) S I J) : Go d i_X12_follows 282 [.ref h0, .int x1, .int x2, .int x3, .int x4, .int x5, .int x6, .int x7, .int x8, .int x9, .int x10, v11, v12] [] S I J Q := by
  have h := (And.intro g1 kk)
  exact Go.n tb_X12_follows 2 h
theorem b_X12_follows_284 {d : Nat} {S : zS} {I : zI} {J : zJ} {Q : zQ} {h0 : Nat} {x1 : Int32} {x2 : Int32} {x3 : Int32} {x4 : Int32} {x5 : Int32} {x6 : Int32} {x7 : Int32} {x8 : Int32} {x9 : Int32} {x10 : Int32} {v11 : Value} {v12 : Value} (g1 : z_kd S h0 = 13) (g2 : z_isI (z_kd S (z_rv S h0 24)) = true ∧ vp_in (x7 + x10) (z_ln S (z_rv S h0 24))) (kk : Go d i_X12_follows 237 [.ref h0, .int x1, .int x2, .int x3, .int x4, .int x5, .int x6, .int x7, .int x8, .int (x9 ||| ((1 : Int32) <<< ((I (z_rv S h0 24) (Int32.toNatClampNeg (x7 + x10))) &&& 31))), .int (x10 + (1 : Int32)), v11, v12] [] S I J Q) : Go d i_X12_follows 284 [.ref h0, .int x1, .int x2, .int x3, .int x4, .int x5, .int x6, .int x7, .int x8, .int x9, .int x10, v11, v12] [] S I J Q := by
  have h := (And.intro g1 (And.intro g2 kk))
  exact Go.n tb_X12_follows 13 h
theorem b_X12_follows_307 {d : Nat} {S : zS} {I : zI} {J : zJ} {Q : zQ} {h0 : Nat} {x1 : Int32} {x2 : Int32} {x3 : Int32} {x4 : Int32} {x5 : Int32} {x6 : Int32} {x7 : Int32} {x8 : Int32} {x9 : Int32} {x10 : Int32} {v11 : Value} {v12 : Value} (g1 : z_fit 3 (1 : Int32)) (kk : Q (some (.int (1 : Int32))) S I J) : Go d i_X12_follows 307 [.ref h0, .int x1, .int x2, .int x3, .int x4, .int x5, .int x6, .int x7, .int x8, .int x9, .int x10, v11, v12] [] S I J Q := by
  have h := (And.intro g1 kk)
  exact Go.n tb_X12_follows 2 h
theorem w_X12_goesMaps {d : Nat} {S : zS} {I : zI} {J : zJ} {Q : zQ} {h0 : Nat} {x1 : Int32} {x2 : Int32} {x3 : Int32} (h : Go d i_X12_goesMaps 0 [.ref h0, .int x1, .int x2, .int x3, .retAddr 0, .retAddr 0, .retAddr 0, .retAddr 0] [] S I J Q) : z_wp (d + 1) i_X12_goesMaps [.ref h0, .int x1, .int x2, .int x3] S I J Q := Go.wp (Nat.le_of_ble_eq_true rfl) h
theorem e_X12_goesMaps {d : Nat} {S S2 : zS} {I I2 : zI} {J J2 : zJ} {r : Option Value} {h0 : Nat} {x1 : Int32} {x2 : Int32} {x3 : Int32} (h : Go d i_X12_goesMaps 0 [.ref h0, .int x1, .int x2, .int x3, .retAddr 0, .retAddr 0, .retAddr 0, .retAddr 0] [] S I J (z_eq r S2 I2 J2)) : z_ev (d + 1) i_X12_goesMaps [.ref h0, .int x1, .int x2, .int x3] S I J r S2 I2 J2 := Go.ev (Nat.le_of_ble_eq_true rfl) h
theorem b_X12_goesMaps_0 {d : Nat} {S : zS} {I : zI} {J : zJ} {Q : zQ} {h0 : Nat} {x1 : Int32} {x2 : Int32} {x3 : Int32} {v4 : Value} {v5 : Value} {v6 : Value} {v7 : Value} (g1 : z_kd S h0 = 13) (kt : (I h0 28) = (0 : Int32) → Go d i_X12_goesMaps 15 [.ref h0, .int x1, .int x2, .int x3, v4, v5, v6, v7] [] S I J Q) (kf : ¬ (I h0 28) = (0 : Int32) → Go d i_X12_goesMaps 7 [.ref h0, .int x1, .int x2, .int x3, v4, v5, v6, v7] [] S I J Q) : Go d i_X12_goesMaps 0 [.ref h0, .int x1, .int x2, .int x3, v4, v5, v6, v7] [] S I J Q := by
  have h := (And.intro g1 (Go.ite kt kf))
  exact Go.n tb_X12_goesMaps 3 h
theorem b_X12_goesMaps_7 {d : Nat} {S : zS} {I : zI} {J : zJ} {Q : zQ} {h0 : Nat} {x1 : Int32} {x2 : Int32} {x3 : Int32} {v4 : Value} {v5 : Value} {v6 : Value} {v7 : Value} (g1 : z_kd S h0 = 13) (kt : (I h0 26) ≤ (0 : Int32) → Go d i_X12_goesMaps 15 [.ref h0, .int x1, .int x2, .int x3, v4, v5, v6, v7] [] S I J Q) (kf : ¬ (I h0 26) ≤ (0 : Int32) → Go d i_X12_goesMaps 14 [.ref h0, .int x1, .int x2, .int x3, v4, v5, v6, v7] [] S I J Q) : Go d i_X12_goesMaps 7 [.ref h0, .int x1, .int x2, .int x3, v4, v5, v6, v7] [] S I J Q := by
  have h := (And.intro g1 (Go.ite kt kf))
  exact Go.n tb_X12_goesMaps 3 h
theorem b_X12_goesMaps_14 {d : Nat} {S : zS} {I : zI} {J : zJ} {Q : zQ} {h0 : Nat} {x1 : Int32} {x2 : Int32} {x3 : Int32} {v4 : Value} {v5 : Value} {v6 : Value} {v7 : Value} (kk : Q none S I J) : Go d i_X12_goesMaps 14 [.ref h0, .int x1, .int x2, .int x3, v4, v5, v6, v7] [] S I J Q := by
  have h := (And.intro trivial kk)
  exact Go.n tb_X12_goesMaps 1 h
theorem b_X12_goesMaps_15 {d : Nat} {S : zS} {I : zI} {J : zJ} {Q : zQ} {h0 : Nat} {x1 : Int32} {x2 : Int32} {x3 : Int32} {v4 : Value} {v5 : Value} {v6 : Value} {v7 : Value} (kk : Go d i_X12_goesMaps 24 [.ref h0, .int x1, .int x2, .int x3, .int ((20 : Int32) * x3), .int (0 : Int32), v6, v7] [] S I J Q) : Go d i_X12_goesMaps 15 [.ref h0, .int x1, .int x2, .int x3, v4, v5, v6, v7] [] S I J Q := by
  have h := kk
  exact Go.n tb_X12_goesMaps 6 h
theorem b_X12_goesMaps_24 {d : Nat} {S : zS} {I : zI} {J : zJ} {Q : zQ} {h0 : Nat} {x1 : Int32} {x2 : Int32} {x3 : Int32} {x4 : Int32} {x5 : Int32} {v6 : Value} {v7 : Value} (g1 : z_kd S h0 = 13) (kk : z_wp d i_X12_many [.ref h0, .int x1] S I J (fun vv SS II JJ => Go d i_X12_goesMaps 31 [.ref h0, .int x1, .int x2, .int x3, .int x4, .int x5, v6, v7] (vv.toList ++ [.int x5]) SS II JJ Q)) : Go d i_X12_goesMaps 24 [.ref h0, .int x1, .int x2, .int x3, .int x4, .int x5, v6, v7] [] S I J Q := by
  have h := (And.intro g1 kk)
  exact Go.n tb_X12_goesMaps 4 h
theorem b_X12_goesMaps_31 {d : Nat} {S : zS} {I : zI} {J : zJ} {Q : zQ} {h0 : Nat} {x1 : Int32} {x2 : Int32} {x3 : Int32} {x4 : Int32} {x5 : Int32} {v6 : Value} {v7 : Value} {y0 : Int32} {y1 : Int32} (kt : y1 ≤ y0 → Go d i_X12_goesMaps 54 [.ref h0, .int x1, .int x2, .int x3, .int x4, .int x5, v6, v7] [] S I J Q) (kf : ¬ y1 ≤ y0 → Go d i_X12_goesMaps 34 [.ref h0, .int x1, .int x2, .int x3, .int x4, .int x5, v6, v7] [] S I J Q) : Go d i_X12_goesMaps 31 [.ref h0, .int x1, .int x2, .int x3, .int x4, .int x5, v6, v7] [.int y1, .int y0] S I J Q := by
  have h := (Go.ite kt kf)
  exact Go.n tb_X12_goesMaps 1 h
theorem b_X12_goesMaps_34 {d : Nat} {S : zS} {I : zI} {J : zJ} {Q : zQ} {h0 : Nat} {x1 : Int32} {x2 : Int32} {x3 : Int32} {x4 : Int32} {x5 : Int32} {v6 : Value} {v7 : Value} (g1 : z_kd S h0 = 13) (g2 : z_isI (z_kd S (z_rv S h0 24)) = true ∧ vp_in (x4 + x5) (z_ln S (z_rv S h0 24))) (kt : (I (z_rv S h0 24) (Int32.toNatClampNeg (x4 + x5))) = (-1 : Int32) → Go d i_X12_goesMaps 54 [.ref h0, .int x1, .int x2, .int x3, .int x4, .int x5, v6, v7] [] S I J Q) (kf : ¬ (I (z_rv S h0 24) (Int32.toNatClampNeg (x4 + x5))) = (-1 : Int32) → Go d i_X12_goesMaps 48 [.ref h0, .int x1, .int x2, .int x3, .int x4, .int x5, v6, v7] [] S I J Q) : Go d i_X12_goesMaps 34 [.ref h0, .int x1, .int x2, .int x3, .int x4, .int x5, v6, v7] [] S I J Q := by
  have h := (And.intro g1 (And.intro g2 (Go.ite kt kf)))
  exact Go.n tb_X12_goesMaps 8 h
theorem b_X12_goesMaps_48 {d : Nat} {S : zS} {I : zI} {J : zJ} {Q : zQ} {h0 : Nat} {x1 : Int32} {x2 : Int32} {x3 : Int32} {x4 : Int32} {x5 : Int32} {v6 : Value} {v7 : Value} (kk : Go d i_X12_goesMaps 24 [.ref h0, .int x1, .int x2, .int x3, .int x4, .int (x5 + (1 : Int32)), v6, v7] [] S I J Q) : Go d i_X12_goesMaps 48 [.ref h0, .int x1, .int x2, .int x3, .int x4, .int x5, v6, v7] [] S I J Q := by
  have h := kk
  exact Go.n tb_X12_goesMaps 2 h
theorem b_X12_goesMaps_54 {d : Nat} {S : zS} {I : zI} {J : zJ} {Q : zQ} {h0 : Nat} {x1 : Int32} {x2 : Int32} {x3 : Int32} {x4 : Int32} {x5 : Int32} {v6 : Value} {v7 : Value} (g1 : z_kd S h0 = 13) (kk : z_wp d i_X12_many [.ref h0, .int x1] S I J (fun vv SS II JJ => Go d i_X12_goesMaps 61 [.ref h0, .int x1, .int x2, .int x3, .int x4, .int x5, v6, v7] (vv.toList ++ [.int x5]) SS II JJ Q)) : Go d i_X12_goesMaps 54 [.ref h0, .int x1, .int x2, .int x3, .int x4, .int x5, v6, v7] [] S I J Q := by
  have h := (And.intro g1 kk)
  exact Go.n tb_X12_goesMaps 4 h
theorem b_X12_goesMaps_61 {d : Nat} {S : zS} {I : zI} {J : zJ} {Q : zQ} {h0 : Nat} {x1 : Int32} {x2 : Int32} {x3 : Int32} {x4 : Int32} {x5 : Int32} {v6 : Value} {v7 : Value} {y0 : Int32} {y1 : Int32} (kt : ¬ y0 = y1 → Go d i_X12_goesMaps 192 [.ref h0, .int x1, .int x2, .int x3, .int x4, .int x5, v6, v7] [] S I J Q) (kf : y0 = y1 → Go d i_X12_goesMaps 64 [.ref h0, .int x1, .int x2, .int x3, .int x4, .int x5, v6, v7] [] S I J Q) : Go d i_X12_goesMaps 61 [.ref h0, .int x1, .int x2, .int x3, .int x4, .int x5, v6, v7] [.int y1, .int y0] S I J Q := by
  have h := (Go.eti kt kf)
  exact Go.n tb_X12_goesMaps 1 h
theorem b_X12_goesMaps_64 {d : Nat} {S : zS} {I : zI} {J : zJ} {Q : zQ} {h0 : Nat} {x1 : Int32} {x2 : Int32} {x3 : Int32} {x4 : Int32} {x5 : Int32} {v6 : Value} {v7 : Value} (g1 : z_kd S h0 = 13) (kt : ¬ (I h0 26) = (0 : Int32) → Go d i_X12_goesMaps 104 [.ref h0, .int x1, .int x2, .int x3, .int x4, .int x5, v6, v7] [] S I J Q) (kf : (I h0 26) = (0 : Int32) → Go d i_X12_goesMaps 71 [.ref h0, .int x1, .int x2, .int x3, .int x4, .int x5, v6, v7] [] S I J Q) : Go d i_X12_goesMaps 64 [.ref h0, .int x1, .int x2, .int x3, .int x4, .int x5, v6, v7] [] S I J Q := by
  have h := (And.intro g1 (Go.eti kt kf))
  exact Go.n tb_X12_goesMaps 3 h
theorem b_X12_goesMaps_71 {d : Nat} {S : zS} {I : zI} {J : zJ} {Q : zQ} {h0 : Nat} {x1 : Int32} {x2 : Int32} {x3 : Int32} {x4 : Int32} {x5 : Int32} {v6 : Value} {v7 : Value} (kk : Go d i_X12_goesMaps 74 [.ref h0, .int x1, .int x2, .int x3, .int x4, .int x5, .int (0 : Int32), v7] [] S I J Q) : Go d i_X12_goesMaps 71 [.ref h0, .int x1, .int x2, .int x3, .int x4, .int x5, v6, v7] [] S I J Q := by
  have h := kk
  exact Go.n tb_X12_goesMaps 2 h
theorem b_X12_goesMaps_74 {d : Nat} {S : zS} {I : zI} {J : zJ} {Q : zQ} {h0 : Nat} {x1 : Int32} {x2 : Int32} {x3 : Int32} {x4 : Int32} {x5 : Int32} {x6 : Int32} {v7 : Value} (kt : x5 ≤ x6 → Go d i_X12_goesMaps 104 [.ref h0, .int x1, .int x2, .int x3, .int x4, .int x5, .int x6, v7] [] S I J Q) (kf : ¬ x5 ≤ x6 → Go d i_X12_goesMaps 81 [.ref h0, .int x1, .int x2, .int x3, .int x4, .int x5, .int x6, v7] [] S I J Q) : Go d i_X12_goesMaps 74 [.ref h0, .int x1, .int x2, .int x3, .int x4, .int x5, .int x6, v7] [] S I J Q := by
  have h := (Go.ite kt kf)
  exact Go.n tb_X12_goesMaps 3 h
theorem b_X12_goesMaps_81 {d : Nat} {S : zS} {I : zI} {J : zJ} {Q : zQ} {h0 : Nat} {x1 : Int32} {x2 : Int32} {x3 : Int32} {x4 : Int32} {x5 : Int32} {x6 : Int32} {v7 : Value} (g1 : z_kd S h0 = 13) (g2 : z_kd S h0 = 13) (g3 : z_isI (z_kd S (z_rv S h0 24)) = true ∧ vp_in (x4 + x6) (z_ln S (z_rv S h0 24))) (g4 : z_kd S (z_rv S h0 25) = 100 ∧ vp_in x6 (z_ln S (z_rv S h0 25))) (kk : Go d i_X12_goesMaps 74 [.ref h0, .int x1, .int x2, .int x3, .int x4, .int x5, .int (x6 + (1 : Int32)), v7] [] S (z_u2 I (z_rv S h0 25) (Int32.toNatClampNeg x6) (I (z_rv S h0 24) (Int32.toNatClampNeg (x4 + x6)))) J Q) : Go d i_X12_goesMaps 81 [.ref h0, .int x1, .int x2, .int x3, .int x4, .int x5, .int x6, v7] [] S I J Q := by
  have h := (And.intro g1 (And.intro g2 (And.intro g3 (And.intro g4 kk))))
  exact Go.n tb_X12_goesMaps 12 h
theorem b_X12_goesMaps_104 {d : Nat} {S : zS} {I : zI} {J : zJ} {Q : zQ} {h0 : Nat} {x1 : Int32} {x2 : Int32} {x3 : Int32} {x4 : Int32} {x5 : Int32} {v6 : Value} {v7 : Value} (g1 : z_kd S h0 = 13) (g2 : z_kd S h0 = 13) (kk : Go d i_X12_goesMaps 120 [.ref h0, .int x1, .int x2, .int x3, .int x4, .int x5, .int (0 : Int32), .int (0 : Int32)] [] S (z_u2 I h0 26 ((I h0 26) + (1 : Int32))) J Q) : Go d i_X12_goesMaps 104 [.ref h0, .int x1, .int x2, .int x3, .int x4, .int x5, v6, v7] [] S I J Q := by
  have h := (And.intro g1 (And.intro g2 kk))
  exact Go.n tb_X12_goesMaps 10 h
theorem b_X12_goesMaps_120 {d : Nat} {S : zS} {I : zI} {J : zJ} {Q : zQ} {h0 : Nat} {x1 : Int32} {x2 : Int32} {x3 : Int32} {x4 : Int32} {x5 : Int32} {x6 : Int32} {x7 : Int32} (kt : x5 ≤ x7 → Go d i_X12_goesMaps 167 [.ref h0, .int x1, .int x2, .int x3, .int x4, .int x5, .int x6, .int x7] [] S I J Q) (kf : ¬ x5 ≤ x7 → Go d i_X12_goesMaps 127 [.ref h0, .int x1, .int x2, .int x3, .int x4, .int x5, .int x6, .int x7] [] S I J Q) : Go d i_X12_goesMaps 120 [.ref h0, .int x1, .int x2, .int x3, .int x4, .int x5, .int x6, .int x7] [] S I J Q := by
  have h := (Go.ite kt kf)
  exact Go.n tb_X12_goesMaps 3 h
theorem b_X12_goesMaps_127 {d : Nat} {S : zS} {I : zI} {J : zJ} {Q : zQ} {h0 : Nat} {x1 : Int32} {x2 : Int32} {x3 : Int32} {x4 : Int32} {x5 : Int32} {x6 : Int32} {x7 : Int32} (g1 : z_kd S h0 = 13) (kk : z_wp d i_X12_steps [.ref h0, .int x1] S I J (fun vv SS II JJ => Go d i_X12_goesMaps 134 [.ref h0, .int x1, .int x2, .int x3, .int x4, .int x5, .int x6, .int x7] (vv.toList ++ [.int x6]) SS II JJ Q)) : Go d i_X12_goesMaps 127 [.ref h0, .int x1, .int x2, .int x3, .int x4, .int x5, .int x6, .int x7] [] S I J Q := by
  have h := (And.intro g1 kk)
  exact Go.n tb_X12_goesMaps 4 h
theorem b_X12_goesMaps_134 {d : Nat} {S : zS} {I : zI} {J : zJ} {Q : zQ} {h0 : Nat} {x1 : Int32} {x2 : Int32} {x3 : Int32} {x4 : Int32} {x5 : Int32} {x6 : Int32} {x7 : Int32} {y0 : Int32} {y1 : Int32} (kk : z_wp d i_X12_has [.int y1, .int x7] S I J (fun vv SS II JJ => Go d i_X12_goesMaps 139 [.ref h0, .int x1, .int x2, .int x3, .int x4, .int x5, .int x6, .int x7] (vv.toList ++ [.int y0]) SS II JJ Q)) : Go d i_X12_goesMaps 134 [.ref h0, .int x1, .int x2, .int x3, .int x4, .int x5, .int x6, .int x7] [.int y1, .int y0] S I J Q := by
  have h := (And.intro trivial kk)
  exact Go.n tb_X12_goesMaps 2 h
theorem b_X12_goesMaps_139 {d : Nat} {S : zS} {I : zI} {J : zJ} {Q : zQ} {h0 : Nat} {x1 : Int32} {x2 : Int32} {x3 : Int32} {x4 : Int32} {x5 : Int32} {x6 : Int32} {x7 : Int32} {y0 : Int32} {y1 : Int32} (kt : y1 = (0 : Int32) → Go d i_X12_goesMaps 157 [.ref h0, .int x1, .int x2, .int x3, .int x4, .int x5, .int x6, .int x7] [.int y0] S I J Q) (kf : ¬ y1 = (0 : Int32) → Go d i_X12_goesMaps 142 [.ref h0, .int x1, .int x2, .int x3, .int x4, .int x5, .int x6, .int x7] [.int y0] S I J Q) : Go d i_X12_goesMaps 139 [.ref h0, .int x1, .int x2, .int x3, .int x4, .int x5, .int x6, .int x7] [.int y1, .int y0] S I J Q := by
  have h := (Go.ite kt kf)
  exact Go.n tb_X12_goesMaps 1 h
theorem b_X12_goesMaps_142 {d : Nat} {S : zS} {I : zI} {J : zJ} {Q : zQ} {h0 : Nat} {x1 : Int32} {x2 : Int32} {x3 : Int32} {x4 : Int32} {x5 : Int32} {x6 : Int32} {x7 : Int32} {y0 : Int32} (g1 : z_kd S h0 = 13) (g2 : z_isI (z_kd S (z_rv S h0 24)) = true ∧ vp_in (x4 + x7) (z_ln S (z_rv S h0 24))) (kk : Go d i_X12_goesMaps 120 [.ref h0, .int x1, .int x2, .int x3, .int x4, .int x5, .int (y0 ||| ((1 : Int32) <<< ((I (z_rv S h0 24) (Int32.toNatClampNeg (x4 + x7))) &&& 31))), .int (x7 + (1 : Int32))] [] S I J Q) : Go d i_X12_goesMaps 142 [.ref h0, .int x1, .int x2, .int x3, .int x4, .int x5, .int x6, .int x7] [.int y0] S I J Q := by
  have h := (And.intro g1 (And.intro g2 kk))
  exact Go.n tb_X12_goesMaps 13 h
theorem b_X12_goesMaps_157 {d : Nat} {S : zS} {I : zI} {J : zJ} {Q : zQ} {h0 : Nat} {x1 : Int32} {x2 : Int32} {x3 : Int32} {x4 : Int32} {x5 : Int32} {x6 : Int32} {x7 : Int32} {y0 : Int32} (kk : Go d i_X12_goesMaps 120 [.ref h0, .int x1, .int x2, .int x3, .int x4, .int x5, .int (y0 ||| (0 : Int32)), .int (x7 + (1 : Int32))] [] S I J Q) : Go d i_X12_goesMaps 157 [.ref h0, .int x1, .int x2, .int x3, .int x4, .int x5, .int x6, .int x7] [.int y0] S I J Q := by
  have h := kk
  exact Go.n tb_X12_goesMaps 5 h
theorem b_X12_goesMaps_167 {d : Nat} {S : zS} {I : zI} {J : zJ} {Q : zQ} {h0 : Nat} {x1 : Int32} {x2 : Int32} {x3 : Int32} {x4 : Int32} {x5 : Int32} {x6 : Int32} {x7 : Int32} (g1 : z_kd S h0 = 13) (g2 : z_kd S h0 = 13) (kk : z_wp d i_X12_steps [.ref h0, .int x2] S I J (fun vv SS II JJ => Go d i_X12_goesMaps 179 [.ref h0, .int x1, .int x2, .int x3, .int x4, .int x5, .int x6, .int x7] (vv.toList ++ [.int x6, .int (I h0 27), .ref h0]) SS II JJ Q)) : Go d i_X12_goesMaps 167 [.ref h0, .int x1, .int x2, .int x3, .int x4, .int x5, .int x6, .int x7] [] S I J Q := by
  have h := (And.intro g1 (And.intro g2 kk))
  exact Go.n tb_X12_goesMaps 7 h
theorem b_X12_goesMaps_179 {d : Nat} {S : zS} {I : zI} {J : zJ} {Q : zQ} {h0 : Nat} {x1 : Int32} {x2 : Int32} {x3 : Int32} {x4 : Int32} {x5 : Int32} {x6 : Int32} {x7 : Int32} {q0 : Nat} {y1 : Int32} {y2 : Int32} {y3 : Int32} (kt : ¬ y2 = y3 → Go d i_X12_goesMaps 186 [.ref h0, .int x1, .int x2, .int x3, .int x4, .int x5, .int x6, .int x7] [.int y1, .ref q0] S I J Q) (kf : y2 = y3 → Go d i_X12_goesMaps 182 [.ref h0, .int x1, .int x2, .int x3, .int x4, .int x5, .int x6, .int x7] [.int y1, .ref q0] S I J Q) : Go d i_X12_goesMaps 179 [.ref h0, .int x1, .int x2, .int x3, .int x4, .int x5, .int x6, .int x7] [.int y3, .int y2, .int y1, .ref q0] S I J Q := by
  have h := (Go.eti kt kf)
  exact Go.n tb_X12_goesMaps 1 h
theorem b_X12_goesMaps_182 {d : Nat} {S : zS} {I : zI} {J : zJ} {Q : zQ} {h0 : Nat} {x1 : Int32} {x2 : Int32} {x3 : Int32} {x4 : Int32} {x5 : Int32} {x6 : Int32} {x7 : Int32} {q0 : Nat} {y1 : Int32} (g1 : z_kd S q0 = 13) (kk : Q none S (z_u2 I q0 27 (y1 + (1 : Int32))) J) : Go d i_X12_goesMaps 182 [.ref h0, .int x1, .int x2, .int x3, .int x4, .int x5, .int x6, .int x7] [.int y1, .ref q0] S I J Q := by
  have h := (And.intro g1 (And.intro trivial kk))
  exact Go.n tb_X12_goesMaps 5 h
theorem b_X12_goesMaps_186 {d : Nat} {S : zS} {I : zI} {J : zJ} {Q : zQ} {h0 : Nat} {x1 : Int32} {x2 : Int32} {x3 : Int32} {x4 : Int32} {x5 : Int32} {x6 : Int32} {x7 : Int32} {q0 : Nat} {y1 : Int32} (g1 : z_kd S q0 = 13) (kk : Q none S (z_u2 I q0 27 (y1 + (0 : Int32))) J) : Go d i_X12_goesMaps 186 [.ref h0, .int x1, .int x2, .int x3, .int x4, .int x5, .int x6, .int x7] [.int y1, .ref q0] S I J Q := by
  have h := (And.intro g1 (And.intro trivial kk))
  exact Go.n tb_X12_goesMaps 4 h
theorem b_X12_goesMaps_192 {d : Nat} {S : zS} {I : zI} {J : zJ} {Q : zQ} {h0 : Nat} {x1 : Int32} {x2 : Int32} {x3 : Int32} {x4 : Int32} {x5 : Int32} {v6 : Value} {v7 : Value} (kk : Go d i_X12_goesMaps 195 [.ref h0, .int x1, .int x2, .int x3, .int x4, .int x5, .int (1 : Int32), v7] [] S I J Q) : Go d i_X12_goesMaps 192 [.ref h0, .int x1, .int x2, .int x3, .int x4, .int x5, v6, v7] [] S I J Q := by
  have h := kk
  exact Go.n tb_X12_goesMaps 2 h
theorem b_X12_goesMaps_195 {d : Nat} {S : zS} {I : zI} {J : zJ} {Q : zQ} {h0 : Nat} {x1 : Int32} {x2 : Int32} {x3 : Int32} {x4 : Int32} {x5 : Int32} {x6 : Int32} {v7 : Value} (g1 : z_kd S h0 = 13) (kk : z_wp d i_X12_many [.ref h0, .int x2] S I J (fun vv SS II JJ => Go d i_X12_goesMaps 202 [.ref h0, .int x1, .int x2, .int x3, .int x4, .int x5, .int x6, v7] (vv.toList ++ [.int x6]) SS II JJ Q)) : Go d i_X12_goesMaps 195 [.ref h0, .int x1, .int x2, .int x3, .int x4, .int x5, .int x6, v7] [] S I J Q := by
  have h := (And.intro g1 kk)
  exact Go.n tb_X12_goesMaps 4 h
theorem b_X12_goesMaps_202 {d : Nat} {S : zS} {I : zI} {J : zJ} {Q : zQ} {h0 : Nat} {x1 : Int32} {x2 : Int32} {x3 : Int32} {x4 : Int32} {x5 : Int32} {x6 : Int32} {v7 : Value} {y0 : Int32} {y1 : Int32} (kt : y1 ≤ y0 → Go d i_X12_goesMaps 251 [.ref h0, .int x1, .int x2, .int x3, .int x4, .int x5, .int x6, v7] [] S I J Q) (kf : ¬ y1 ≤ y0 → Go d i_X12_goesMaps 205 [.ref h0, .int x1, .int x2, .int x3, .int x4, .int x5, .int x6, v7] [] S I J Q) : Go d i_X12_goesMaps 202 [.ref h0, .int x1, .int x2, .int x3, .int x4, .int x5, .int x6, v7] [.int y1, .int y0] S I J Q := by
  have h := (Go.ite kt kf)
  exact Go.n tb_X12_goesMaps 1 h
theorem b_X12_goesMaps_205 {d : Nat} {S : zS} {I : zI} {J : zJ} {Q : zQ} {h0 : Nat} {x1 : Int32} {x2 : Int32} {x3 : Int32} {x4 : Int32} {x5 : Int32} {x6 : Int32} {v7 : Value} (g1 : z_kd S h0 = 13) (kk : z_wp d i_X12_periodOf [.ref h0, .int x1, .int x5] S I J (fun vv SS II JJ => Go d i_X12_goesMaps 212 [.ref h0, .int x1, .int x2, .int x3, .int x4, .int x5, .int x6, v7] (vv.toList ++ []) SS II JJ Q)) : Go d i_X12_goesMaps 205 [.ref h0, .int x1, .int x2, .int x3, .int x4, .int x5, .int x6, v7] [] S I J Q := by
  have h := (And.intro g1 kk)
  exact Go.n tb_X12_goesMaps 4 h
theorem b_X12_goesMaps_212 {d : Nat} {S : zS} {I : zI} {J : zJ} {Q : zQ} {h0 : Nat} {x1 : Int32} {x2 : Int32} {x3 : Int32} {x4 : Int32} {x5 : Int32} {x6 : Int32} {v7 : Value} {y0 : Int32} (g1 : z_kd S h0 = 13) (kk : z_wp d i_X12_periodOf [.ref h0, .int x2, .int x6] S I J (fun vv SS II JJ => Go d i_X12_goesMaps 219 [.ref h0, .int x1, .int x2, .int x3, .int x4, .int x5, .int x6, v7] (vv.toList ++ [.int y0]) SS II JJ Q)) : Go d i_X12_goesMaps 212 [.ref h0, .int x1, .int x2, .int x3, .int x4, .int x5, .int x6, v7] [.int y0] S I J Q := by
  have h := (And.intro g1 kk)
  exact Go.n tb_X12_goesMaps 4 h
theorem b_X12_goesMaps_219 {d : Nat} {S : zS} {I : zI} {J : zJ} {Q : zQ} {h0 : Nat} {x1 : Int32} {x2 : Int32} {x3 : Int32} {x4 : Int32} {x5 : Int32} {x6 : Int32} {v7 : Value} {y0 : Int32} {y1 : Int32} (kt : ¬ y0 = y1 → Go d i_X12_goesMaps 245 [.ref h0, .int x1, .int x2, .int x3, .int x4, .int x5, .int x6, v7] [] S I J Q) (kf : y0 = y1 → Go d i_X12_goesMaps 222 [.ref h0, .int x1, .int x2, .int x3, .int x4, .int x5, .int x6, v7] [] S I J Q) : Go d i_X12_goesMaps 219 [.ref h0, .int x1, .int x2, .int x3, .int x4, .int x5, .int x6, v7] [.int y1, .int y0] S I J Q := by
  have h := (Go.eti kt kf)
  exact Go.n tb_X12_goesMaps 1 h
theorem b_X12_goesMaps_222 {d : Nat} {S : zS} {I : zI} {J : zJ} {Q : zQ} {h0 : Nat} {x1 : Int32} {x2 : Int32} {x3 : Int32} {x4 : Int32} {x5 : Int32} {x6 : Int32} {v7 : Value} (g1 : z_kd S h0 = 13) (kk : z_wp d i_X12_follows [.ref h0, .int x1, .int x2, .int x3, .int x5, .int x6] S I J (fun vv SS II JJ => Go d i_X12_goesMaps 233 [.ref h0, .int x1, .int x2, .int x3, .int x4, .int x5, .int x6, v7] (vv.toList ++ []) SS II JJ Q)) : Go d i_X12_goesMaps 222 [.ref h0, .int x1, .int x2, .int x3, .int x4, .int x5, .int x6, v7] [] S I J Q := by
  have h := (And.intro g1 kk)
  exact Go.n tb_X12_goesMaps 7 h
theorem b_X12_goesMaps_233 {d : Nat} {S : zS} {I : zI} {J : zJ} {Q : zQ} {h0 : Nat} {x1 : Int32} {x2 : Int32} {x3 : Int32} {x4 : Int32} {x5 : Int32} {x6 : Int32} {v7 : Value} {y0 : Int32} (kt : y0 = (0 : Int32) → Go d i_X12_goesMaps 245 [.ref h0, .int x1, .int x2, .int x3, .int x4, .int x5, .int x6, v7] [] S I J Q) (kf : ¬ y0 = (0 : Int32) → Go d i_X12_goesMaps 236 [.ref h0, .int x1, .int x2, .int x3, .int x4, .int x5, .int x6, v7] [] S I J Q) : Go d i_X12_goesMaps 233 [.ref h0, .int x1, .int x2, .int x3, .int x4, .int x5, .int x6, v7] [.int y0] S I J Q := by
  have h := (Go.ite kt kf)
  exact Go.n tb_X12_goesMaps 1 h
theorem b_X12_goesMaps_236 {d : Nat} {S : zS} {I : zI} {J : zJ} {Q : zQ} {h0 : Nat} {x1 : Int32} {x2 : Int32} {x3 : Int32} {x4 : Int32} {x5 : Int32} {x6 : Int32} {v7 : Value} (g1 : z_kd S h0 = 13) (kk : z_wp d i_X12_goesMaps [.ref h0, .int x1, .int x2, .int (x3 + (1 : Int32))] S I J (fun vv SS II JJ => Go d i_X12_goesMaps 245 [.ref h0, .int x1, .int x2, .int x3, .int x4, .int x5, .int x6, v7] (vv.toList ++ []) SS II JJ Q)) : Go d i_X12_goesMaps 236 [.ref h0, .int x1, .int x2, .int x3, .int x4, .int x5, .int x6, v7] [] S I J Q := by
  have h := (And.intro g1 kk)
  exact Go.n tb_X12_goesMaps 7 h
theorem b_X12_goesMaps_245 {d : Nat} {S : zS} {I : zI} {J : zJ} {Q : zQ} {h0 : Nat} {x1 : Int32} {x2 : Int32} {x3 : Int32} {x4 : Int32} {x5 : Int32} {x6 : Int32} {v7 : Value} (kk : Go d i_X12_goesMaps 195 [.ref h0, .int x1, .int x2, .int x3, .int x4, .int x5, .int (x6 + (1 : Int32)), v7] [] S I J Q) : Go d i_X12_goesMaps 245 [.ref h0, .int x1, .int x2, .int x3, .int x4, .int x5, .int x6, v7] [] S I J Q := by
  have h := kk
  exact Go.n tb_X12_goesMaps 2 h
theorem b_X12_goesMaps_251 {d : Nat} {S : zS} {I : zI} {J : zJ} {Q : zQ} {h0 : Nat} {x1 : Int32} {x2 : Int32} {x3 : Int32} {x4 : Int32} {x5 : Int32} {x6 : Int32} {v7 : Value} (kk : Q none S I J) : Go d i_X12_goesMaps 251 [.ref h0, .int x1, .int x2, .int x3, .int x4, .int x5, .int x6, v7] [] S I J Q := by
  have h := (And.intro trivial kk)
  exact Go.n tb_X12_goesMaps 1 h
theorem w_X12_laysMaps {d : Nat} {S : zS} {I : zI} {J : zJ} {Q : zQ} {h0 : Nat} {x1 : Int32} {x2 : Int32} {x3 : Int32} (h : Go d i_X12_laysMaps 0 [.ref h0, .int x1, .int x2, .int x3, .retAddr 0] [] S I J Q) : z_wp (d + 1) i_X12_laysMaps [.ref h0, .int x1, .int x2, .int x3] S I J Q := Go.wp (Nat.le_of_ble_eq_true rfl) h
theorem e_X12_laysMaps {d : Nat} {S S2 : zS} {I I2 : zI} {J J2 : zJ} {r : Option Value} {h0 : Nat} {x1 : Int32} {x2 : Int32} {x3 : Int32} (h : Go d i_X12_laysMaps 0 [.ref h0, .int x1, .int x2, .int x3, .retAddr 0] [] S I J (z_eq r S2 I2 J2)) : z_ev (d + 1) i_X12_laysMaps [.ref h0, .int x1, .int x2, .int x3] S I J r S2 I2 J2 := Go.ev (Nat.le_of_ble_eq_true rfl) h
theorem b_X12_laysMaps_0 {d : Nat} {S : zS} {I : zI} {J : zJ} {Q : zQ} {h0 : Nat} {x1 : Int32} {x2 : Int32} {x3 : Int32} {v4 : Value} (g1 : z_kd S h0 = 13) (g2 : z_kd S h0 = 13) (g3 : z_kd S h0 = 13 ∧ (x3 = 0 ∨ x3 = 1)) (g4 : z_kd S h0 = 13) (kk : z_wp d i_X12_many [.ref h0, .int x1] S (z_u2 (z_u2 (z_u2 I h0 26 (0 : Int32)) h0 27 (0 : Int32)) h0 28 x3) J (fun vv SS II JJ => Go d i_X12_laysMaps 20 [.ref h0, .int x1, .int x2, .int x3, v4] (vv.toList ++ []) SS II JJ Q)) : Go d i_X12_laysMaps 0 [.ref h0, .int x1, .int x2, .int x3, v4] [] S I J Q := by
  have h := (And.intro g1 (And.intro g2 (And.intro g3 (And.intro g4 kk))))
  exact Go.n tb_X12_laysMaps 12 h
theorem b_X12_laysMaps_20 {d : Nat} {S : zS} {I : zI} {J : zJ} {Q : zQ} {h0 : Nat} {x1 : Int32} {x2 : Int32} {x3 : Int32} {v4 : Value} {y0 : Int32} (g1 : z_kd S h0 = 13) (kk : z_wp d i_X12_many [.ref h0, .int x2] S I J (fun vv SS II JJ => Go d i_X12_laysMaps 25 [.ref h0, .int x1, .int x2, .int x3, v4] (vv.toList ++ [.int y0]) SS II JJ Q)) : Go d i_X12_laysMaps 20 [.ref h0, .int x1, .int x2, .int x3, v4] [.int y0] S I J Q := by
  have h := (And.intro g1 kk)
  exact Go.n tb_X12_laysMaps 3 h
theorem b_X12_laysMaps_25 {d : Nat} {S : zS} {I : zI} {J : zJ} {Q : zQ} {h0 : Nat} {x1 : Int32} {x2 : Int32} {x3 : Int32} {v4 : Value} {y0 : Int32} {y1 : Int32} (kt : y0 = y1 → Go d i_X12_laysMaps 29 [.ref h0, .int x1, .int x2, .int x3, v4] [] S I J Q) (kf : ¬ y0 = y1 → Go d i_X12_laysMaps 28 [.ref h0, .int x1, .int x2, .int x3, v4] [] S I J Q) : Go d i_X12_laysMaps 25 [.ref h0, .int x1, .int x2, .int x3, v4] [.int y1, .int y0] S I J Q := by
  have h := (Go.ite kt kf)
  exact Go.n tb_X12_laysMaps 1 h
theorem b_X12_laysMaps_28 {d : Nat} {S : zS} {I : zI} {J : zJ} {Q : zQ} {h0 : Nat} {x1 : Int32} {x2 : Int32} {x3 : Int32} {v4 : Value} (kk : Q none S I J) : Go d i_X12_laysMaps 28 [.ref h0, .int x1, .int x2, .int x3, v4] [] S I J Q := by
  have h := (And.intro trivial kk)
  exact Go.n tb_X12_laysMaps 1 h
theorem b_X12_laysMaps_29 {d : Nat} {S : zS} {I : zI} {J : zJ} {Q : zQ} {h0 : Nat} {x1 : Int32} {x2 : Int32} {x3 : Int32} {v4 : Value} (kk : Go d i_X12_laysMaps 32 [.ref h0, .int x1, .int x2, .int x3, .int (0 : Int32)] [] S I J Q) : Go d i_X12_laysMaps 29 [.ref h0, .int x1, .int x2, .int x3, v4] [] S I J Q := by
  have h := kk
  exact Go.n tb_X12_laysMaps 2 h
theorem b_X12_laysMaps_32 {d : Nat} {S : zS} {I : zI} {J : zJ} {Q : zQ} {h0 : Nat} {x1 : Int32} {x2 : Int32} {x3 : Int32} {x4 : Int32} (kt : (20 : Int32) ≤ x4 → Go d i_X12_laysMaps 62 [.ref h0, .int x1, .int x2, .int x3, .int x4] [] S I J Q) (kf : ¬ (20 : Int32) ≤ x4 → Go d i_X12_laysMaps 39 [.ref h0, .int x1, .int x2, .int x3, .int x4] [] S I J Q) : Go d i_X12_laysMaps 32 [.ref h0, .int x1, .int x2, .int x3, .int x4] [] S I J Q := by
  have h := (Go.ite kt kf)
  exact Go.n tb_X12_laysMaps 3 h
theorem b_X12_laysMaps_39 {d : Nat} {S : zS} {I : zI} {J : zJ} {Q : zQ} {h0 : Nat} {x1 : Int32} {x2 : Int32} {x3 : Int32} {x4 : Int32} (g1 : z_kd S h0 = 13) (kt : ¬ x4 = (0 : Int32) → Go d i_X12_laysMaps 54 [.ref h0, .int x1, .int x2, .int x3, .int x4] [.int x4, .ref (z_rv S h0 24)] S I J Q) (kf : x4 = (0 : Int32) → Go d i_X12_laysMaps 50 [.ref h0, .int x1, .int x2, .int x3, .int x4] [.int x4, .ref (z_rv S h0 24)] S I J Q) : Go d i_X12_laysMaps 39 [.ref h0, .int x1, .int x2, .int x3, .int x4] [] S I J Q := by
  have h := (And.intro g1 (Go.eti kt kf))
  exact Go.n tb_X12_laysMaps 5 h
theorem b_X12_laysMaps_50 {d : Nat} {S : zS} {I : zI} {J : zJ} {Q : zQ} {h0 : Nat} {x1 : Int32} {x2 : Int32} {x3 : Int32} {x4 : Int32} {q0 : Nat} {y1 : Int32} (g1 : z_kd S q0 = 100 ∧ vp_in y1 (z_ln S q0)) (kk : Go d i_X12_laysMaps 32 [.ref h0, .int x1, .int x2, .int x3, .int (x4 + (1 : Int32))] [] S (z_u2 I q0 (Int32.toNatClampNeg y1) (0 : Int32)) J Q) : Go d i_X12_laysMaps 50 [.ref h0, .int x1, .int x2, .int x3, .int x4] [.int y1, .ref q0] S I J Q := by
  have h := (And.intro g1 kk)
  exact Go.n tb_X12_laysMaps 5 h
theorem b_X12_laysMaps_54 {d : Nat} {S : zS} {I : zI} {J : zJ} {Q : zQ} {h0 : Nat} {x1 : Int32} {x2 : Int32} {x3 : Int32} {x4 : Int32} {q0 : Nat} {y1 : Int32} (g1 : z_kd S q0 = 100 ∧ vp_in y1 (z_ln S q0)) (kk : Go d i_X12_laysMaps 32 [.ref h0, .int x1, .int x2, .int x3, .int (x4 + (1 : Int32))] [] S (z_u2 I q0 (Int32.toNatClampNeg y1) (-1 : Int32)) J Q) : Go d i_X12_laysMaps 54 [.ref h0, .int x1, .int x2, .int x3, .int x4] [.int y1, .ref q0] S I J Q := by
  have h := (And.intro g1 kk)
  exact Go.n tb_X12_laysMaps 4 h
theorem b_X12_laysMaps_62 {d : Nat} {S : zS} {I : zI} {J : zJ} {Q : zQ} {h0 : Nat} {x1 : Int32} {x2 : Int32} {x3 : Int32} {x4 : Int32} (g1 : z_kd S h0 = 13) (kk : z_wp d i_X12_goesMaps [.ref h0, .int x1, .int x2, .int (0 : Int32)] S I J (fun vv SS II JJ => Go d i_X12_laysMaps 69 [.ref h0, .int x1, .int x2, .int x3, .int x4] (vv.toList ++ []) SS II JJ Q)) : Go d i_X12_laysMaps 62 [.ref h0, .int x1, .int x2, .int x3, .int x4] [] S I J Q := by
  have h := (And.intro g1 kk)
  exact Go.n tb_X12_laysMaps 5 h
theorem b_X12_laysMaps_69 {d : Nat} {S : zS} {I : zI} {J : zJ} {Q : zQ} {h0 : Nat} {x1 : Int32} {x2 : Int32} {x3 : Int32} {x4 : Int32} (kk : Q none S I J) : Go d i_X12_laysMaps 69 [.ref h0, .int x1, .int x2, .int x3, .int x4] [] S I J Q := by
  have h := (And.intro trivial kk)
  exact Go.n tb_X12_laysMaps 1 h
theorem w_X12_maps {d : Nat} {S : zS} {I : zI} {J : zJ} {Q : zQ} {h0 : Nat} {x1 : Int32} (h : Go d i_X12_maps 0 [.ref h0, .int x1] [] S I J Q) : z_wp (d + 1) i_X12_maps [.ref h0, .int x1] S I J Q := Go.wp (Nat.le_of_ble_eq_true rfl) h
theorem e_X12_maps {d : Nat} {S S2 : zS} {I I2 : zI} {J J2 : zJ} {r : Option Value} {h0 : Nat} {x1 : Int32} (h : Go d i_X12_maps 0 [.ref h0, .int x1] [] S I J (z_eq r S2 I2 J2)) : z_ev (d + 1) i_X12_maps [.ref h0, .int x1] S I J r S2 I2 J2 := Go.ev (Nat.le_of_ble_eq_true rfl) h
theorem b_X12_maps_0 {d : Nat} {S : zS} {I : zI} {J : zJ} {Q : zQ} {h0 : Nat} {x1 : Int32} (g1 : z_kd S h0 = 13) (kk : z_wp d i_X12_isSlot [.int x1] S (z_u2 I h0 1 (0 : Int32)) J (fun vv SS II JJ => Go d i_X12_maps 9 [.ref h0, .int x1] (vv.toList ++ []) SS II JJ Q)) : Go d i_X12_maps 0 [.ref h0, .int x1] [] S I J Q := by
  have h := (And.intro g1 (And.intro trivial kk))
  exact Go.n tb_X12_maps 5 h
theorem b_X12_maps_9 {d : Nat} {S : zS} {I : zI} {J : zJ} {Q : zQ} {h0 : Nat} {x1 : Int32} {y0 : Int32} (kt : ¬ y0 = (0 : Int32) → Go d i_X12_maps 15 [.ref h0, .int x1] [] S I J Q) (kf : y0 = (0 : Int32) → Go d i_X12_maps 12 [.ref h0, .int x1] [] S I J Q) : Go d i_X12_maps 9 [.ref h0, .int x1] [.int y0] S I J Q := by
  have h := (Go.eti kt kf)
  exact Go.n tb_X12_maps 1 h
theorem b_X12_maps_12 {d : Nat} {S : zS} {I : zI} {J : zJ} {Q : zQ} {h0 : Nat} {x1 : Int32} (kk : Q (some (.int (-2 : Int32))) S I J) : Go d i_X12_maps 12 [.ref h0, .int x1] [] S I J Q := by
  have h := (And.intro trivial kk)
  exact Go.n tb_X12_maps 2 h
theorem b_X12_maps_15 {d : Nat} {S : zS} {I : zI} {J : zJ} {Q : zQ} {h0 : Nat} {x1 : Int32} (g1 : z_kd S h0 = 13) (kk : z_wp d i_X12_laysMaps [.ref h0, .int x1, .int x1, .int (0 : Int32)] S I J (fun vv SS II JJ => Go d i_X12_maps 22 [.ref h0, .int x1] (vv.toList ++ []) SS II JJ Q)) : Go d i_X12_maps 15 [.ref h0, .int x1] [] S I J Q := by
  have h := (And.intro g1 kk)
  exact Go.n tb_X12_maps 5 h
theorem b_X12_maps_22 {d : Nat} {S : zS} {I : zI} {J : zJ} {Q : zQ} {h0 : Nat} {x1 : Int32} (g1 : z_kd S h0 = 13) (kk : Q (some (.int (I h0 26))) S I J) : Go d i_X12_maps 22 [.ref h0, .int x1] [] S I J Q := by
  have h := (And.intro g1 (And.intro trivial kk))
  exact Go.n tb_X12_maps 3 h
theorem w_X12_mapped {d : Nat} {S : zS} {I : zI} {J : zJ} {Q : zQ} {h0 : Nat} {x1 : Int32} (h : Go d i_X12_mapped 0 [.ref h0, .int x1] [] S I J Q) : z_wp (d + 1) i_X12_mapped [.ref h0, .int x1] S I J Q := Go.wp (Nat.le_of_ble_eq_true rfl) h
theorem e_X12_mapped {d : Nat} {S S2 : zS} {I I2 : zI} {J J2 : zJ} {r : Option Value} {h0 : Nat} {x1 : Int32} (h : Go d i_X12_mapped 0 [.ref h0, .int x1] [] S I J (z_eq r S2 I2 J2)) : z_ev (d + 1) i_X12_mapped [.ref h0, .int x1] S I J r S2 I2 J2 := Go.ev (Nat.le_of_ble_eq_true rfl) h
theorem b_X12_mapped_0 {d : Nat} {S : zS} {I : zI} {J : zJ} {Q : zQ} {h0 : Nat} {x1 : Int32} (g1 : z_kd S h0 = 13) (g2 : z_kd S h0 = 13) (kk : z_wp d i_X12_isElement [.ref h0, .int (0 : Int32), .int x1] S (z_u2 I h0 1 (0 : Int32)) J (fun vv SS II JJ => Go d i_X12_mapped 11 [.ref h0, .int x1] (vv.toList ++ []) SS II JJ Q)) : Go d i_X12_mapped 0 [.ref h0, .int x1] [] S I J Q := by
  have h := (And.intro g1 (And.intro g2 kk))
  exact Go.n tb_X12_mapped 7 h
theorem b_X12_mapped_11 {d : Nat} {S : zS} {I : zI} {J : zJ} {Q : zQ} {h0 : Nat} {x1 : Int32} {y0 : Int32} (kt : ¬ y0 = (0 : Int32) → Go d i_X12_mapped 17 [.ref h0, .int x1] [] S I J Q) (kf : y0 = (0 : Int32) → Go d i_X12_mapped 14 [.ref h0, .int x1] [] S I J Q) : Go d i_X12_mapped 11 [.ref h0, .int x1] [.int y0] S I J Q := by
  have h := (Go.eti kt kf)
  exact Go.n tb_X12_mapped 1 h
theorem b_X12_mapped_14 {d : Nat} {S : zS} {I : zI} {J : zJ} {Q : zQ} {h0 : Nat} {x1 : Int32} (kk : Q (some (.int (-2 : Int32))) S I J) : Go d i_X12_mapped 14 [.ref h0, .int x1] [] S I J Q := by
  have h := (And.intro trivial kk)
  exact Go.n tb_X12_mapped 2 h
theorem b_X12_mapped_17 {d : Nat} {S : zS} {I : zI} {J : zJ} {Q : zQ} {h0 : Nat} {x1 : Int32} (g1 : z_kd S h0 = 13) (kk : z_wp d i_X12_laysMaps [.ref h0, .int (0 : Int32), .int (1 : Int32), .int (1 : Int32)] S I J (fun vv SS II JJ => Go d i_X12_mapped 24 [.ref h0, .int x1] (vv.toList ++ []) SS II JJ Q)) : Go d i_X12_mapped 17 [.ref h0, .int x1] [] S I J Q := by
  have h := (And.intro g1 kk)
  exact Go.n tb_X12_mapped 5 h
theorem b_X12_mapped_24 {d : Nat} {S : zS} {I : zI} {J : zJ} {Q : zQ} {h0 : Nat} {x1 : Int32} (g1 : z_kd S h0 = 13) (kt : ¬ (I h0 26) = (0 : Int32) → Go d i_X12_mapped 35 [.ref h0, .int x1] [] S I J Q) (kf : (I h0 26) = (0 : Int32) → Go d i_X12_mapped 31 [.ref h0, .int x1] [] S I J Q) : Go d i_X12_mapped 24 [.ref h0, .int x1] [] S I J Q := by
  have h := (And.intro g1 (Go.eti kt kf))
  exact Go.n tb_X12_mapped 3 h
theorem b_X12_mapped_31 {d : Nat} {S : zS} {I : zI} {J : zJ} {Q : zQ} {h0 : Nat} {x1 : Int32} (kk : Q (some (.int (-1 : Int32))) S I J) : Go d i_X12_mapped 31 [.ref h0, .int x1] [] S I J Q := by
  have h := (And.intro trivial kk)
  exact Go.n tb_X12_mapped 3 h
theorem b_X12_mapped_35 {d : Nat} {S : zS} {I : zI} {J : zJ} {Q : zQ} {h0 : Nat} {x1 : Int32} (g1 : z_kd S h0 = 13) (g2 : z_isI (z_kd S (z_rv S h0 25)) = true ∧ vp_in x1 (z_ln S (z_rv S h0 25))) (kk : Q (some (.int (I (z_rv S h0 25) (Int32.toNatClampNeg x1)))) S I J) : Go d i_X12_mapped 35 [.ref h0, .int x1] [] S I J Q := by
  have h := (And.intro g1 (And.intro g2 (And.intro trivial kk)))
  exact Go.n tb_X12_mapped 5 h
theorem w_X12_laysFar {d : Nat} {S : zS} {I : zI} {J : zJ} {Q : zQ} {h0 : Nat} {x1 : Int32} {x2 : Int32} {x3 : Int32} (h : Go d i_X12_laysFar 0 [.ref h0, .int x1, .int x2, .int x3, .retAddr 0, .retAddr 0, .retAddr 0, .retAddr 0] [] S I J Q) : z_wp (d + 1) i_X12_laysFar [.ref h0, .int x1, .int x2, .int x3] S I J Q := Go.wp (Nat.le_of_ble_eq_true rfl) h
theorem e_X12_laysFar {d : Nat} {S S2 : zS} {I I2 : zI} {J J2 : zJ} {r : Option Value} {h0 : Nat} {x1 : Int32} {x2 : Int32} {x3 : Int32} (h : Go d i_X12_laysFar 0 [.ref h0, .int x1, .int x2, .int x3, .retAddr 0, .retAddr 0, .retAddr 0, .retAddr 0] [] S I J (z_eq r S2 I2 J2)) : z_ev (d + 1) i_X12_laysFar [.ref h0, .int x1, .int x2, .int x3] S I J r S2 I2 J2 := Go.ev (Nat.le_of_ble_eq_true rfl) h
theorem b_X12_laysFar_0 {d : Nat} {S : zS} {I : zI} {J : zJ} {Q : zQ} {h0 : Nat} {x1 : Int32} {x2 : Int32} {x3 : Int32} {v4 : Value} {v5 : Value} {v6 : Value} {v7 : Value} (kk : Go d i_X12_laysFar 3 [.ref h0, .int x1, .int x2, .int x3, .int (0 : Int32), v5, v6, v7] [] S I J Q) : Go d i_X12_laysFar 0 [.ref h0, .int x1, .int x2, .int x3, v4, v5, v6, v7] [] S I J Q := by
  have h := kk
  exact Go.n tb_X12_laysFar 2 h
theorem b_X12_laysFar_3 {d : Nat} {S : zS} {I : zI} {J : zJ} {Q : zQ} {h0 : Nat} {x1 : Int32} {x2 : Int32} {x3 : Int32} {x4 : Int32} {v5 : Value} {v6 : Value} {v7 : Value} (kt : (20 : Int32) ≤ x4 → Go d i_X12_laysFar 29 [.ref h0, .int x1, .int x2, .int x3, .int x4, v5, v6, v7] [] S I J Q) (kf : ¬ (20 : Int32) ≤ x4 → Go d i_X12_laysFar 10 [.ref h0, .int x1, .int x2, .int x3, .int x4, v5, v6, v7] [] S I J Q) : Go d i_X12_laysFar 3 [.ref h0, .int x1, .int x2, .int x3, .int x4, v5, v6, v7] [] S I J Q := by
  have h := (Go.ite kt kf)
  exact Go.n tb_X12_laysFar 3 h
theorem b_X12_laysFar_10 {d : Nat} {S : zS} {I : zI} {J : zJ} {Q : zQ} {h0 : Nat} {x1 : Int32} {x2 : Int32} {x3 : Int32} {x4 : Int32} {v5 : Value} {v6 : Value} {v7 : Value} (g1 : z_kd S h0 = 13) (g2 : z_kd S (z_rv S h0 29) = 100 ∧ vp_in (((20 : Int32) * x3) + x4) (z_ln S (z_rv S h0 29))) (kk : Go d i_X12_laysFar 3 [.ref h0, .int x1, .int x2, .int x3, .int (x4 + (1 : Int32)), v5, v6, v7] [] S (z_u2 I (z_rv S h0 29) (Int32.toNatClampNeg (((20 : Int32) * x3) + x4)) (-1 : Int32)) J Q) : Go d i_X12_laysFar 10 [.ref h0, .int x1, .int x2, .int x3, .int x4, v5, v6, v7] [] S I J Q := by
  have h := (And.intro g1 (And.intro g2 kk))
  exact Go.n tb_X12_laysFar 11 h
theorem b_X12_laysFar_29 {d : Nat} {S : zS} {I : zI} {J : zJ} {Q : zQ} {h0 : Nat} {x1 : Int32} {x2 : Int32} {x3 : Int32} {x4 : Int32} {v5 : Value} {v6 : Value} {v7 : Value} {I1 : zI} (g1 : z_kd S h0 = 13) (g2 : z_kd S (z_rv S h0 29) = 100 ∧ vp_in ((20 : Int32) * x3) (z_ln S (z_rv S h0 29))) (g3 : z_kd S h0 = 13) (g4 : z_kd S (z_rv S h0 30) = 100 ∧ vp_in (0 : Int32) (z_ln S (z_rv S h0 30))) (eI1 : I1 = z_u2 (z_u2 I (z_rv S h0 29) (Int32.toNatClampNeg ((20 : Int32) * x3)) (0 : Int32)) (z_rv S h0 30) (Int32.toNatClampNeg (0 : Int32)) (0 : Int32)) (kk : Go d i_X12_laysFar 52 [.ref h0, .int x1, .int x2, .int x3, .int (1 : Int32), .int (0 : Int32), v6, v7] [] S I1 J Q) : Go d i_X12_laysFar 29 [.ref h0, .int x1, .int x2, .int x3, .int x4, v5, v6, v7] [] S I J Q := by
  subst eI1
  have h := (And.intro g1 (And.intro g2 (And.intro g3 (And.intro g4 kk))))
  exact Go.n tb_X12_laysFar 16 h
theorem b_X12_laysFar_52 {d : Nat} {S : zS} {I : zI} {J : zJ} {Q : zQ} {h0 : Nat} {x1 : Int32} {x2 : Int32} {x3 : Int32} {x4 : Int32} {x5 : Int32} {v6 : Value} {v7 : Value} (kt : x4 ≤ x5 → Go d i_X12_laysFar 171 [.ref h0, .int x1, .int x2, .int x3, .int x4, .int x5, v6, v7] [] S I J Q) (kf : ¬ x4 ≤ x5 → Go d i_X12_laysFar 59 [.ref h0, .int x1, .int x2, .int x3, .int x4, .int x5, v6, v7] [] S I J Q) : Go d i_X12_laysFar 52 [.ref h0, .int x1, .int x2, .int x3, .int x4, .int x5, v6, v7] [] S I J Q := by
  have h := (Go.ite kt kf)
  exact Go.n tb_X12_laysFar 3 h
theorem b_X12_laysFar_59 {d : Nat} {S : zS} {I : zI} {J : zJ} {Q : zQ} {h0 : Nat} {x1 : Int32} {x2 : Int32} {x3 : Int32} {x4 : Int32} {x5 : Int32} {v6 : Value} {v7 : Value} (kk : Go d i_X12_laysFar 62 [.ref h0, .int x1, .int x2, .int x3, .int x4, .int x5, .int (1 : Int32), v7] [] S I J Q) : Go d i_X12_laysFar 59 [.ref h0, .int x1, .int x2, .int x3, .int x4, .int x5, v6, v7] [] S I J Q := by
  have h := kk
  exact Go.n tb_X12_laysFar 2 h
theorem b_X12_laysFar_62 {d : Nat} {S : zS} {I : zI} {J : zJ} {Q : zQ} {h0 : Nat} {x1 : Int32} {x2 : Int32} {x3 : Int32} {x4 : Int32} {x5 : Int32} {x6 : Int32} {v7 : Value} (g1 : z_kd S h0 = 13) (kk : z_wp d i_X12_many [.ref h0, .int x1] S I J (fun vv SS II JJ => Go d i_X12_laysFar 69 [.ref h0, .int x1, .int x2, .int x3, .int x4, .int x5, .int x6, v7] (vv.toList ++ [.int x6]) SS II JJ Q)) : Go d i_X12_laysFar 62 [.ref h0, .int x1, .int x2, .int x3, .int x4, .int x5, .int x6, v7] [] S I J Q := by
  have h := (And.intro g1 kk)
  exact Go.n tb_X12_laysFar 4 h
theorem b_X12_laysFar_69 {d : Nat} {S : zS} {I : zI} {J : zJ} {Q : zQ} {h0 : Nat} {x1 : Int32} {x2 : Int32} {x3 : Int32} {x4 : Int32} {x5 : Int32} {x6 : Int32} {v7 : Value} {y0 : Int32} {y1 : Int32} (kt : y1 ≤ y0 → Go d i_X12_laysFar 165 [.ref h0, .int x1, .int x2, .int x3, .int x4, .int x5, .int x6, v7] [] S I J Q) (kf : ¬ y1 ≤ y0 → Go d i_X12_laysFar 72 [.ref h0, .int x1, .int x2, .int x3, .int x4, .int x5, .int x6, v7] [] S I J Q) : Go d i_X12_laysFar 69 [.ref h0, .int x1, .int x2, .int x3, .int x4, .int x5, .int x6, v7] [.int y1, .int y0] S I J Q := by
  have h := (Go.ite kt kf)
  exact Go.n tb_X12_laysFar 1 h
theorem b_X12_laysFar_72 {d : Nat} {S : zS} {I : zI} {J : zJ} {Q : zQ} {h0 : Nat} {x1 : Int32} {x2 : Int32} {x3 : Int32} {x4 : Int32} {x5 : Int32} {x6 : Int32} {v7 : Value} (g1 : z_kd S h0 = 13) (g2 : z_isI (z_kd S (z_rv S h0 30)) = true ∧ vp_in x5 (z_ln S (z_rv S h0 30))) (g3 : z_kd S h0 = 13) (kk : z_wp d i_X12_times [.ref h0, .int x1, .int (I (z_rv S h0 30) (Int32.toNatClampNeg x5)), .int x6] S I J (fun vv SS II JJ => Go d i_X12_laysFar 86 [.ref h0, .int x1, .int x2, .int x3, .int x4, .int x5, .int x6, v7] (vv.toList ++ []) SS II JJ Q)) : Go d i_X12_laysFar 72 [.ref h0, .int x1, .int x2, .int x3, .int x4, .int x5, .int x6, v7] [] S I J Q := by
  have h := (And.intro g1 (And.intro g2 (And.intro g3 kk)))
  exact Go.n tb_X12_laysFar 8 h
theorem b_X12_laysFar_86 {d : Nat} {S : zS} {I : zI} {J : zJ} {Q : zQ} {h0 : Nat} {x1 : Int32} {x2 : Int32} {x3 : Int32} {x4 : Int32} {x5 : Int32} {x6 : Int32} {v7 : Value} {y0 : Int32} (kk : z_wp d i_X12_has [.int x2, .int x6] S I J (fun vv SS II JJ => Go d i_X12_laysFar 94 [.ref h0, .int x1, .int x2, .int x3, .int x4, .int x5, .int x6, .int y0] (vv.toList ++ []) SS II JJ Q)) : Go d i_X12_laysFar 86 [.ref h0, .int x1, .int x2, .int x3, .int x4, .int x5, .int x6, v7] [.int y0] S I J Q := by
  have h := (And.intro trivial kk)
  exact Go.n tb_X12_laysFar 4 h
theorem b_X12_laysFar_94 {d : Nat} {S : zS} {I : zI} {J : zJ} {Q : zQ} {h0 : Nat} {x1 : Int32} {x2 : Int32} {x3 : Int32} {x4 : Int32} {x5 : Int32} {x6 : Int32} {x7 : Int32} {y0 : Int32} (kt : y0 = (0 : Int32) → Go d i_X12_laysFar 159 [.ref h0, .int x1, .int x2, .int x3, .int x4, .int x5, .int x6, .int x7] [] S I J Q) (kf : ¬ y0 = (0 : Int32) → Go d i_X12_laysFar 97 [.ref h0, .int x1, .int x2, .int x3, .int x4, .int x5, .int x6, .int x7] [] S I J Q) : Go d i_X12_laysFar 94 [.ref h0, .int x1, .int x2, .int x3, .int x4, .int x5, .int x6, .int x7] [.int y0] S I J Q := by
  have h := (Go.ite kt kf)
  exact Go.n tb_X12_laysFar 1 h
theorem b_X12_laysFar_97 {d : Nat} {S : zS} {I : zI} {J : zJ} {Q : zQ} {h0 : Nat} {x1 : Int32} {x2 : Int32} {x3 : Int32} {x4 : Int32} {x5 : Int32} {x6 : Int32} {x7 : Int32} (g1 : z_kd S h0 = 13) (g2 : z_isI (z_kd S (z_rv S h0 29)) = true ∧ vp_in (((20 : Int32) * x3) + x7) (z_ln S (z_rv S h0 29))) (kt : (I (z_rv S h0 29) (Int32.toNatClampNeg (((20 : Int32) * x3) + x7))) = (-1 : Int32) → Go d i_X12_laysFar 116 [.ref h0, .int x1, .int x2, .int x3, .int x4, .int x5, .int x6, .int x7] [] S I J Q) (kf : ¬ (I (z_rv S h0 29) (Int32.toNatClampNeg (((20 : Int32) * x3) + x7))) = (-1 : Int32) → Go d i_X12_laysFar 113 [.ref h0, .int x1, .int x2, .int x3, .int x4, .int x5, .int x6, .int x7] [] S I J Q) : Go d i_X12_laysFar 97 [.ref h0, .int x1, .int x2, .int x3, .int x4, .int x5, .int x6, .int x7] [] S I J Q := by
  have h := (And.intro g1 (And.intro g2 (Go.ite kt kf)))
  exact Go.n tb_X12_laysFar 10 h
theorem b_X12_laysFar_113 {d : Nat} {S : zS} {I : zI} {J : zJ} {Q : zQ} {h0 : Nat} {x1 : Int32} {x2 : Int32} {x3 : Int32} {x4 : Int32} {x5 : Int32} {x6 : Int32} {x7 : Int32} (kk : Go d i_X12_laysFar 62 [.ref h0, .int x1, .int x2, .int x3, .int x4, .int x5, .int (x6 + (1 : Int32)), .int x7] [] S I J Q) : Go d i_X12_laysFar 113 [.ref h0, .int x1, .int x2, .int x3, .int x4, .int x5, .int x6, .int x7] [] S I J Q := by
  have h := kk
  exact Go.n tb_X12_laysFar 3 h
theorem b_X12_laysFar_116 {d : Nat} {S : zS} {I : zI} {J : zJ} {Q : zQ} {h0 : Nat} {x1 : Int32} {x2 : Int32} {x3 : Int32} {x4 : Int32} {x5 : Int32} {x6 : Int32} {x7 : Int32} {I1 : zI} (g1 : z_kd S h0 = 13) (g2 : z_kd S h0 = 13) (g3 : z_kd S h0 = 13) (g4 : z_isI (z_kd S (z_rv S h0 30)) = true ∧ vp_in x5 (z_ln S (z_rv S h0 30))) (g5 : z_isI (z_kd S (z_rv S h0 29)) = true ∧ vp_in (((20 : Int32) * x3) + (I (z_rv S h0 30) (Int32.toNatClampNeg x5))) (z_ln S (z_rv S h0 29))) (g6 : z_kd S (z_rv S h0 29) = 100 ∧ vp_in (((20 : Int32) * x3) + x7) (z_ln S (z_rv S h0 29))) (eI1 : I1 = z_u2 I (z_rv S h0 29) (Int32.toNatClampNeg (((20 : Int32) * x3) + x7)) ((I (z_rv S h0 29) (Int32.toNatClampNeg (((20 : Int32) * x3) + (I (z_rv S h0 30) (Int32.toNatClampNeg x5))))) + (1 : Int32))) (g8 : z_kd S h0 = 13) (g9 : z_kd S (z_rv S h0 30) = 100 ∧ vp_in x4 (z_ln S (z_rv S h0 30))) (kk : Go d i_X12_laysFar 62 [.ref h0, .int x1, .int x2, .int x3, .int (x4 + (1 : Int32)), .int x5, .int (x6 + (1 : Int32)), .int x7] [] S (z_u2 I1 (z_rv S h0 30) (Int32.toNatClampNeg x4) x7) J Q) : Go d i_X12_laysFar 116 [.ref h0, .int x1, .int x2, .int x3, .int x4, .int x5, .int x6, .int x7] [] S I J Q := by
  subst eI1
  have h := (And.intro g1 (And.intro g2 (And.intro g3 (And.intro g4 (And.intro g5 (And.intro g6 (And.intro g8 (And.intro g9 kk))))))))
  exact Go.n tb_X12_laysFar 29 h
theorem b_X12_laysFar_159 {d : Nat} {S : zS} {I : zI} {J : zJ} {Q : zQ} {h0 : Nat} {x1 : Int32} {x2 : Int32} {x3 : Int32} {x4 : Int32} {x5 : Int32} {x6 : Int32} {x7 : Int32} (kk : Go d i_X12_laysFar 62 [.ref h0, .int x1, .int x2, .int x3, .int x4, .int x5, .int (x6 + (1 : Int32)), .int x7] [] S I J Q) : Go d i_X12_laysFar 159 [.ref h0, .int x1, .int x2, .int x3, .int x4, .int x5, .int x6, .int x7] [] S I J Q := by
  have h := kk
  exact Go.n tb_X12_laysFar 2 h
theorem b_X12_laysFar_165 {d : Nat} {S : zS} {I : zI} {J : zJ} {Q : zQ} {h0 : Nat} {x1 : Int32} {x2 : Int32} {x3 : Int32} {x4 : Int32} {x5 : Int32} {x6 : Int32} {v7 : Value} (kk : Go d i_X12_laysFar 52 [.ref h0, .int x1, .int x2, .int x3, .int x4, .int (x5 + (1 : Int32)), .int x6, v7] [] S I J Q) : Go d i_X12_laysFar 165 [.ref h0, .int x1, .int x2, .int x3, .int x4, .int x5, .int x6, v7] [] S I J Q := by
  have h := kk
  exact Go.n tb_X12_laysFar 2 h
theorem b_X12_laysFar_171 {d : Nat} {S : zS} {I : zI} {J : zJ} {Q : zQ} {h0 : Nat} {x1 : Int32} {x2 : Int32} {x3 : Int32} {x4 : Int32} {x5 : Int32} {v6 : Value} {v7 : Value} (kk : Q none S I J) : Go d i_X12_laysFar 171 [.ref h0, .int x1, .int x2, .int x3, .int x4, .int x5, v6, v7] [] S I J Q := by
  have h := (And.intro trivial kk)
  exact Go.n tb_X12_laysFar 1 h
theorem w_X12_farOf {d : Nat} {S : zS} {I : zI} {J : zJ} {Q : zQ} {h0 : Nat} {x1 : Int32} {x2 : Int32} {x3 : Int32} {x4 : Int32} (h : Go d i_X12_farOf 0 [.ref h0, .int x1, .int x2, .int x3, .int x4] [] S I J Q) : z_wp (d + 1) i_X12_farOf [.ref h0, .int x1, .int x2, .int x3, .int x4] S I J Q := Go.wp (Nat.le_of_ble_eq_true rfl) h
theorem e_X12_farOf {d : Nat} {S S2 : zS} {I I2 : zI} {J J2 : zJ} {r : Option Value} {h0 : Nat} {x1 : Int32} {x2 : Int32} {x3 : Int32} {x4 : Int32} (h : Go d i_X12_farOf 0 [.ref h0, .int x1, .int x2, .int x3, .int x4] [] S I J (z_eq r S2 I2 J2)) : z_ev (d + 1) i_X12_farOf [.ref h0, .int x1, .int x2, .int x3, .int x4] S I J r S2 I2 J2 := Go.ev (Nat.le_of_ble_eq_true rfl) h
theorem b_X12_farOf_0 {d : Nat} {S : zS} {I : zI} {J : zJ} {Q : zQ} {h0 : Nat} {x1 : Int32} {x2 : Int32} {x3 : Int32} {x4 : Int32} (g1 : z_kd S h0 = 13) (g2 : z_kd S h0 = 13) (kk : z_wp d i_X12_inverse [.ref h0, .int ((665 : Int32) * x1), .int x2] S I J (fun vv SS II JJ => Go d i_X12_farOf 21 [.ref h0, .int x1, .int x2, .int x3, .int x4] (vv.toList ++ [.int x1, .ref h0, .int ((20 : Int32) * x4), .ref (z_rv S h0 29)]) SS II JJ Q)) : Go d i_X12_farOf 0 [.ref h0, .int x1, .int x2, .int x3, .int x4] [] S I J Q := by
  have h := (And.intro g1 (And.intro g2 kk))
  exact Go.n tb_X12_farOf 13 h
theorem b_X12_farOf_21 {d : Nat} {S : zS} {I : zI} {J : zJ} {Q : zQ} {h0 : Nat} {x1 : Int32} {x2 : Int32} {x3 : Int32} {x4 : Int32} {q0 : Nat} {y1 : Int32} {q2 : Nat} {y3 : Int32} {y4 : Int32} (g1 : z_kd S q2 = 13) (kk : z_wp d i_X12_times [.ref q2, .int y3, .int y4, .int x3] S I J (fun vv SS II JJ => Go d i_X12_farOf 25 [.ref h0, .int x1, .int x2, .int x3, .int x4] (vv.toList ++ [.int y1, .ref q0]) SS II JJ Q)) : Go d i_X12_farOf 21 [.ref h0, .int x1, .int x2, .int x3, .int x4] [.int y4, .int y3, .ref q2, .int y1, .ref q0] S I J Q := by
  have h := (And.intro g1 kk)
  exact Go.n tb_X12_farOf 2 h
theorem b_X12_farOf_25 {d : Nat} {S : zS} {I : zI} {J : zJ} {Q : zQ} {h0 : Nat} {x1 : Int32} {x2 : Int32} {x3 : Int32} {x4 : Int32} {q0 : Nat} {y1 : Int32} {y2 : Int32} (g1 : z_isI (z_kd S q0) = true ∧ vp_in (y1 + y2) (z_ln S q0)) (kk : Q (some (.int (I q0 (Int32.toNatClampNeg (y1 + y2))))) S I J) : Go d i_X12_farOf 25 [.ref h0, .int x1, .int x2, .int x3, .int x4] [.int y2, .int y1, .ref q0] S I J Q := by
  have h := (And.intro g1 (And.intro trivial kk))
  exact Go.n tb_X12_farOf 3 h
theorem w_X12_far {d : Nat} {S : zS} {I : zI} {J : zJ} {Q : zQ} {h0 : Nat} {x1 : Int32} {x2 : Int32} {x3 : Int32} (h : Go d i_X12_far 0 [.ref h0, .int x1, .int x2, .int x3] [] S I J Q) : z_wp (d + 1) i_X12_far [.ref h0, .int x1, .int x2, .int x3] S I J Q := Go.wp (Nat.le_of_ble_eq_true rfl) h
theorem e_X12_far {d : Nat} {S S2 : zS} {I I2 : zI} {J J2 : zJ} {r : Option Value} {h0 : Nat} {x1 : Int32} {x2 : Int32} {x3 : Int32} (h : Go d i_X12_far 0 [.ref h0, .int x1, .int x2, .int x3] [] S I J (z_eq r S2 I2 J2)) : z_ev (d + 1) i_X12_far [.ref h0, .int x1, .int x2, .int x3] S I J r S2 I2 J2 := Go.ev (Nat.le_of_ble_eq_true rfl) h
theorem b_X12_far_0 {d : Nat} {S : zS} {I : zI} {J : zJ} {Q : zQ} {h0 : Nat} {x1 : Int32} {x2 : Int32} {x3 : Int32} (g1 : z_kd S h0 = 13) (g2 : z_kd S h0 = 13) (kk : z_wp d i_X12_isElement [.ref h0, .int x1, .int x2] S (z_u2 I h0 1 (0 : Int32)) J (fun vv SS II JJ => Go d i_X12_far 11 [.ref h0, .int x1, .int x2, .int x3] (vv.toList ++ []) SS II JJ Q)) : Go d i_X12_far 0 [.ref h0, .int x1, .int x2, .int x3] [] S I J Q := by
  have h := (And.intro g1 (And.intro g2 kk))
  exact Go.n tb_X12_far 7 h
theorem b_X12_far_11 {d : Nat} {S : zS} {I : zI} {J : zJ} {Q : zQ} {h0 : Nat} {x1 : Int32} {x2 : Int32} {x3 : Int32} {y0 : Int32} (kt : y0 = (0 : Int32) → Go d i_X12_far 23 [.ref h0, .int x1, .int x2, .int x3] [] S I J Q) (kf : ¬ y0 = (0 : Int32) → Go d i_X12_far 14 [.ref h0, .int x1, .int x2, .int x3] [] S I J Q) : Go d i_X12_far 11 [.ref h0, .int x1, .int x2, .int x3] [.int y0] S I J Q := by
  have h := (Go.ite kt kf)
  exact Go.n tb_X12_far 1 h
theorem b_X12_far_14 {d : Nat} {S : zS} {I : zI} {J : zJ} {Q : zQ} {h0 : Nat} {x1 : Int32} {x2 : Int32} {x3 : Int32} (g1 : z_kd S h0 = 13) (kk : z_wp d i_X12_isElement [.ref h0, .int x1, .int x3] S I J (fun vv SS II JJ => Go d i_X12_far 20 [.ref h0, .int x1, .int x2, .int x3] (vv.toList ++ []) SS II JJ Q)) : Go d i_X12_far 14 [.ref h0, .int x1, .int x2, .int x3] [] S I J Q := by
  have h := (And.intro g1 kk)
  exact Go.n tb_X12_far 4 h
theorem b_X12_far_20 {d : Nat} {S : zS} {I : zI} {J : zJ} {Q : zQ} {h0 : Nat} {x1 : Int32} {x2 : Int32} {x3 : Int32} {y0 : Int32} (kt : ¬ y0 = (0 : Int32) → Go d i_X12_far 26 [.ref h0, .int x1, .int x2, .int x3] [] S I J Q) (kf : y0 = (0 : Int32) → Go d i_X12_far 23 [.ref h0, .int x1, .int x2, .int x3] [] S I J Q) : Go d i_X12_far 20 [.ref h0, .int x1, .int x2, .int x3] [.int y0] S I J Q := by
  have h := (Go.eti kt kf)
  exact Go.n tb_X12_far 1 h
theorem b_X12_far_23 {d : Nat} {S : zS} {I : zI} {J : zJ} {Q : zQ} {h0 : Nat} {x1 : Int32} {x2 : Int32} {x3 : Int32} (kk : Q (some (.int (-2 : Int32))) S I J) : Go d i_X12_far 23 [.ref h0, .int x1, .int x2, .int x3] [] S I J Q := by
  have h := (And.intro trivial kk)
  exact Go.n tb_X12_far 2 h
theorem b_X12_far_26 {d : Nat} {S : zS} {I : zI} {J : zJ} {Q : zQ} {h0 : Nat} {x1 : Int32} {x2 : Int32} {x3 : Int32} (g1 : z_kd S h0 = 13) (kk : z_wp d i_X12_steps [.ref h0, .int x1] S I J (fun vv SS II JJ => Go d i_X12_far 33 [.ref h0, .int x1, .int x2, .int x3] (vv.toList ++ [.int x1, .ref h0]) SS II JJ Q)) : Go d i_X12_far 26 [.ref h0, .int x1, .int x2, .int x3] [] S I J Q := by
  have h := (And.intro g1 kk)
  exact Go.n tb_X12_far 5 h
theorem b_X12_far_33 {d : Nat} {S : zS} {I : zI} {J : zJ} {Q : zQ} {h0 : Nat} {x1 : Int32} {x2 : Int32} {x3 : Int32} {q0 : Nat} {y1 : Int32} {y2 : Int32} (g1 : z_kd S q0 = 13) (kk : z_wp d i_X12_laysFar [.ref q0, .int y1, .int y2, .int (0 : Int32)] S I J (fun vv SS II JJ => Go d i_X12_far 37 [.ref h0, .int x1, .int x2, .int x3] (vv.toList ++ []) SS II JJ Q)) : Go d i_X12_far 33 [.ref h0, .int x1, .int x2, .int x3] [.int y2, .int y1, .ref q0] S I J Q := by
  have h := (And.intro g1 kk)
  exact Go.n tb_X12_far 2 h
theorem b_X12_far_37 {d : Nat} {S : zS} {I : zI} {J : zJ} {Q : zQ} {h0 : Nat} {x1 : Int32} {x2 : Int32} {x3 : Int32} (g1 : z_kd S h0 = 13) (kk : z_wp d i_X12_farOf [.ref h0, .int x1, .int x2, .int x3, .int (0 : Int32)] S I J (fun vv SS II JJ => Go d i_X12_far 45 [.ref h0, .int x1, .int x2, .int x3] (vv.toList ++ []) SS II JJ Q)) : Go d i_X12_far 37 [.ref h0, .int x1, .int x2, .int x3] [] S I J Q := by
  have h := (And.intro g1 kk)
  exact Go.n tb_X12_far 6 h
theorem b_X12_far_45 {d : Nat} {S : zS} {I : zI} {J : zJ} {Q : zQ} {h0 : Nat} {x1 : Int32} {x2 : Int32} {x3 : Int32} {y0 : Int32} (kk : Q (some (.int y0)) S I J) : Go d i_X12_far 45 [.ref h0, .int x1, .int x2, .int x3] [.int y0] S I J Q := by
  have h := (And.intro trivial kk)
  exact Go.n tb_X12_far 1 h
theorem w_X12_sphere {d : Nat} {S : zS} {I : zI} {J : zJ} {Q : zQ} {h0 : Nat} {x1 : Int32} {x2 : Int32} (h : Go d i_X12_sphere 0 [.ref h0, .int x1, .int x2, .retAddr 0, .retAddr 0, .retAddr 0] [] S I J Q) : z_wp (d + 1) i_X12_sphere [.ref h0, .int x1, .int x2] S I J Q := Go.wp (Nat.le_of_ble_eq_true rfl) h
theorem e_X12_sphere {d : Nat} {S S2 : zS} {I I2 : zI} {J J2 : zJ} {r : Option Value} {h0 : Nat} {x1 : Int32} {x2 : Int32} (h : Go d i_X12_sphere 0 [.ref h0, .int x1, .int x2, .retAddr 0, .retAddr 0, .retAddr 0] [] S I J (z_eq r S2 I2 J2)) : z_ev (d + 1) i_X12_sphere [.ref h0, .int x1, .int x2] S I J r S2 I2 J2 := Go.ev (Nat.le_of_ble_eq_true rfl) h
theorem b_X12_sphere_0 {d : Nat} {S : zS} {I : zI} {J : zJ} {Q : zQ} {h0 : Nat} {x1 : Int32} {x2 : Int32} {v3 : Value} {v4 : Value} {v5 : Value} (g1 : z_kd S h0 = 13) (kk : z_wp d i_X12_isSlot [.int x1] S (z_u2 I h0 1 (0 : Int32)) J (fun vv SS II JJ => Go d i_X12_sphere 9 [.ref h0, .int x1, .int x2, v3, v4, v5] (vv.toList ++ []) SS II JJ Q)) : Go d i_X12_sphere 0 [.ref h0, .int x1, .int x2, v3, v4, v5] [] S I J Q := by
  have h := (And.intro g1 (And.intro trivial kk))
  exact Go.n tb_X12_sphere 5 h
theorem b_X12_sphere_9 {d : Nat} {S : zS} {I : zI} {J : zJ} {Q : zQ} {h0 : Nat} {x1 : Int32} {x2 : Int32} {v3 : Value} {v4 : Value} {v5 : Value} {y0 : Int32} (kt : ¬ y0 = (0 : Int32) → Go d i_X12_sphere 15 [.ref h0, .int x1, .int x2, v3, v4, v5] [] S I J Q) (kf : y0 = (0 : Int32) → Go d i_X12_sphere 12 [.ref h0, .int x1, .int x2, v3, v4, v5] [] S I J Q) : Go d i_X12_sphere 9 [.ref h0, .int x1, .int x2, v3, v4, v5] [.int y0] S I J Q := by
  have h := (Go.eti kt kf)
  exact Go.n tb_X12_sphere 1 h
theorem b_X12_sphere_12 {d : Nat} {S : zS} {I : zI} {J : zJ} {Q : zQ} {h0 : Nat} {x1 : Int32} {x2 : Int32} {v3 : Value} {v4 : Value} {v5 : Value} (kk : Q (some (.int (-2 : Int32))) S I J) : Go d i_X12_sphere 12 [.ref h0, .int x1, .int x2, v3, v4, v5] [] S I J Q := by
  have h := (And.intro trivial kk)
  exact Go.n tb_X12_sphere 2 h
theorem b_X12_sphere_15 {d : Nat} {S : zS} {I : zI} {J : zJ} {Q : zQ} {h0 : Nat} {x1 : Int32} {x2 : Int32} {v3 : Value} {v4 : Value} {v5 : Value} (kt : (-1 : Int32) ≤ x2 → Go d i_X12_sphere 23 [.ref h0, .int x1, .int x2, v3, v4, v5] [] S I J Q) (kf : ¬ (-1 : Int32) ≤ x2 → Go d i_X12_sphere 20 [.ref h0, .int x1, .int x2, v3, v4, v5] [] S I J Q) : Go d i_X12_sphere 15 [.ref h0, .int x1, .int x2, v3, v4, v5] [] S I J Q := by
  have h := (Go.ite kt kf)
  exact Go.n tb_X12_sphere 3 h
theorem b_X12_sphere_20 {d : Nat} {S : zS} {I : zI} {J : zJ} {Q : zQ} {h0 : Nat} {x1 : Int32} {x2 : Int32} {v3 : Value} {v4 : Value} {v5 : Value} (kk : Q (some (.int (-3 : Int32))) S I J) : Go d i_X12_sphere 20 [.ref h0, .int x1, .int x2, v3, v4, v5] [] S I J Q := by
  have h := (And.intro trivial kk)
  exact Go.n tb_X12_sphere 2 h
theorem b_X12_sphere_23 {d : Nat} {S : zS} {I : zI} {J : zJ} {Q : zQ} {h0 : Nat} {x1 : Int32} {x2 : Int32} {v3 : Value} {v4 : Value} {v5 : Value} (g1 : z_kd S h0 = 13) (kk : z_wp d i_X12_steps [.ref h0, .int x1] S I J (fun vv SS II JJ => Go d i_X12_sphere 30 [.ref h0, .int x1, .int x2, v3, v4, v5] (vv.toList ++ [.int x1, .ref h0]) SS II JJ Q)) : Go d i_X12_sphere 23 [.ref h0, .int x1, .int x2, v3, v4, v5] [] S I J Q := by
  have h := (And.intro g1 kk)
  exact Go.n tb_X12_sphere 5 h
theorem b_X12_sphere_30 {d : Nat} {S : zS} {I : zI} {J : zJ} {Q : zQ} {h0 : Nat} {x1 : Int32} {x2 : Int32} {v3 : Value} {v4 : Value} {v5 : Value} {q0 : Nat} {y1 : Int32} {y2 : Int32} (g1 : z_kd S q0 = 13) (kk : z_wp d i_X12_laysFar [.ref q0, .int y1, .int y2, .int (0 : Int32)] S I J (fun vv SS II JJ => Go d i_X12_sphere 34 [.ref h0, .int x1, .int x2, v3, v4, v5] (vv.toList ++ []) SS II JJ Q)) : Go d i_X12_sphere 30 [.ref h0, .int x1, .int x2, v3, v4, v5] [.int y2, .int y1, .ref q0] S I J Q := by
  have h := (And.intro g1 kk)
  exact Go.n tb_X12_sphere 2 h
theorem b_X12_sphere_34 {d : Nat} {S : zS} {I : zI} {J : zJ} {Q : zQ} {h0 : Nat} {x1 : Int32} {x2 : Int32} {v3 : Value} {v4 : Value} {v5 : Value} (kk : Go d i_X12_sphere 42 [.ref h0, .int x1, .int x2, .int (0 : Int32), .int (0 : Int32), .int (0 : Int32)] [] S I J Q) : Go d i_X12_sphere 34 [.ref h0, .int x1, .int x2, v3, v4, v5] [] S I J Q := by
  have h := kk
  exact Go.n tb_X12_sphere 6 h
theorem b_X12_sphere_42 {d : Nat} {S : zS} {I : zI} {J : zJ} {Q : zQ} {h0 : Nat} {x1 : Int32} {x2 : Int32} {x3 : Int32} {x4 : Int32} {x5 : Int32} (g1 : z_kd S h0 = 13) (kk : z_wp d i_X12_many [.ref h0, .int x1] S I J (fun vv SS II JJ => Go d i_X12_sphere 49 [.ref h0, .int x1, .int x2, .int x3, .int x4, .int x5] (vv.toList ++ [.int x5]) SS II JJ Q)) : Go d i_X12_sphere 42 [.ref h0, .int x1, .int x2, .int x3, .int x4, .int x5] [] S I J Q := by
  have h := (And.intro g1 kk)
  exact Go.n tb_X12_sphere 4 h
theorem b_X12_sphere_49 {d : Nat} {S : zS} {I : zI} {J : zJ} {Q : zQ} {h0 : Nat} {x1 : Int32} {x2 : Int32} {x3 : Int32} {x4 : Int32} {x5 : Int32} {y0 : Int32} {y1 : Int32} (kt : y1 ≤ y0 → Go d i_X12_sphere 103 [.ref h0, .int x1, .int x2, .int x3, .int x4, .int x5] [] S I J Q) (kf : ¬ y1 ≤ y0 → Go d i_X12_sphere 52 [.ref h0, .int x1, .int x2, .int x3, .int x4, .int x5] [] S I J Q) : Go d i_X12_sphere 49 [.ref h0, .int x1, .int x2, .int x3, .int x4, .int x5] [.int y1, .int y0] S I J Q := by
  have h := (Go.ite kt kf)
  exact Go.n tb_X12_sphere 1 h
theorem b_X12_sphere_52 {d : Nat} {S : zS} {I : zI} {J : zJ} {Q : zQ} {h0 : Nat} {x1 : Int32} {x2 : Int32} {x3 : Int32} {x4 : Int32} {x5 : Int32} (g1 : z_kd S h0 = 13) (g2 : z_isI (z_kd S (z_rv S h0 29)) = true ∧ vp_in x5 (z_ln S (z_rv S h0 29))) (kt : ¬ (I (z_rv S h0 29) (Int32.toNatClampNeg x5)) = x2 → Go d i_X12_sphere 68 [.ref h0, .int x1, .int x2, .int x3, .int x4, .int x5] [.int x3] S I J Q) (kf : (I (z_rv S h0 29) (Int32.toNatClampNeg x5)) = x2 → Go d i_X12_sphere 64 [.ref h0, .int x1, .int x2, .int x3, .int x4, .int x5] [.int x3] S I J Q) : Go d i_X12_sphere 52 [.ref h0, .int x1, .int x2, .int x3, .int x4, .int x5] [] S I J Q := by
  have h := (And.intro g1 (And.intro g2 (Go.eti kt kf)))
  exact Go.n tb_X12_sphere 7 h
theorem b_X12_sphere_64 {d : Nat} {S : zS} {I : zI} {J : zJ} {Q : zQ} {h0 : Nat} {x1 : Int32} {x2 : Int32} {x3 : Int32} {x4 : Int32} {x5 : Int32} {y0 : Int32} (g1 : z_kd S h0 = 13) (g2 : z_isI (z_kd S (z_rv S h0 29)) = true ∧ vp_in x5 (z_ln S (z_rv S h0 29))) (kt : (I (z_rv S h0 29) (Int32.toNatClampNeg x5)) ≤ x4 → Go d i_X12_sphere 93 [.ref h0, .int x1, .int x2, .int (y0 + (1 : Int32)), .int x4, .int x5] [] S I J Q) (kf : ¬ (I (z_rv S h0 29) (Int32.toNatClampNeg x5)) ≤ x4 → Go d i_X12_sphere 83 [.ref h0, .int x1, .int x2, .int (y0 + (1 : Int32)), .int x4, .int x5] [] S I J Q) : Go d i_X12_sphere 64 [.ref h0, .int x1, .int x2, .int x3, .int x4, .int x5] [.int y0] S I J Q := by
  have h := (And.intro g1 (And.intro g2 (Go.ite kt kf)))
  exact Go.n tb_X12_sphere 10 h
theorem b_X12_sphere_68 {d : Nat} {S : zS} {I : zI} {J : zJ} {Q : zQ} {h0 : Nat} {x1 : Int32} {x2 : Int32} {x3 : Int32} {x4 : Int32} {x5 : Int32} {y0 : Int32} (g1 : z_kd S h0 = 13) (g2 : z_isI (z_kd S (z_rv S h0 29)) = true ∧ vp_in x5 (z_ln S (z_rv S h0 29))) (kt : (I (z_rv S h0 29) (Int32.toNatClampNeg x5)) ≤ x4 → Go d i_X12_sphere 93 [.ref h0, .int x1, .int x2, .int (y0 + (0 : Int32)), .int x4, .int x5] [] S I J Q) (kf : ¬ (I (z_rv S h0 29) (Int32.toNatClampNeg x5)) ≤ x4 → Go d i_X12_sphere 83 [.ref h0, .int x1, .int x2, .int (y0 + (0 : Int32)), .int x4, .int x5] [] S I J Q) : Go d i_X12_sphere 68 [.ref h0, .int x1, .int x2, .int x3, .int x4, .int x5] [.int y0] S I J Q := by
  have h := (And.intro g1 (And.intro g2 (Go.ite kt kf)))
  exact Go.n tb_X12_sphere 9 h
theorem b_X12_sphere_83 {d : Nat} {S : zS} {I : zI} {J : zJ} {Q : zQ} {h0 : Nat} {x1 : Int32} {x2 : Int32} {x3 : Int32} {x4 : Int32} {x5 : Int32} (g1 : z_kd S h0 = 13) (g2 : z_isI (z_kd S (z_rv S h0 29)) = true ∧ vp_in x5 (z_ln S (z_rv S h0 29))) (kk : Go d i_X12_sphere 42 [.ref h0, .int x1, .int x2, .int x3, .int (I (z_rv S h0 29) (Int32.toNatClampNeg x5)), .int (x5 + (1 : Int32))] [] S I J Q) : Go d i_X12_sphere 83 [.ref h0, .int x1, .int x2, .int x3, .int x4, .int x5] [] S I J Q := by
  have h := (And.intro g1 (And.intro g2 kk))
  exact Go.n tb_X12_sphere 8 h
theorem b_X12_sphere_93 {d : Nat} {S : zS} {I : zI} {J : zJ} {Q : zQ} {h0 : Nat} {x1 : Int32} {x2 : Int32} {x3 : Int32} {x4 : Int32} {x5 : Int32} (kk : Go d i_X12_sphere 42 [.ref h0, .int x1, .int x2, .int x3, .int x4, .int (x5 + (1 : Int32))] [] S I J Q) : Go d i_X12_sphere 93 [.ref h0, .int x1, .int x2, .int x3, .int x4, .int x5] [] S I J Q := by
  have h := kk
  exact Go.n tb_X12_sphere 4 h
theorem b_X12_sphere_103 {d : Nat} {S : zS} {I : zI} {J : zJ} {Q : zQ} {h0 : Nat} {x1 : Int32} {x2 : Int32} {x3 : Int32} {x4 : Int32} {x5 : Int32} (kt : ¬ x2 = (-1 : Int32) → Go d i_X12_sphere 113 [.ref h0, .int x1, .int x2, .int x3, .int x4, .int x5] [] S I J Q) (kf : x2 = (-1 : Int32) → Go d i_X12_sphere 108 [.ref h0, .int x1, .int x2, .int x3, .int x4, .int x5] [] S I J Q) : Go d i_X12_sphere 103 [.ref h0, .int x1, .int x2, .int x3, .int x4, .int x5] [] S I J Q := by
  have h := (Go.eti kt kf)
  exact Go.n tb_X12_sphere 3 h
theorem b_X12_sphere_108 {d : Nat} {S : zS} {I : zI} {J : zJ} {Q : zQ} {h0 : Nat} {x1 : Int32} {x2 : Int32} {x3 : Int32} {x4 : Int32} {x5 : Int32} (kk : Q (some (.int x4)) S I J) : Go d i_X12_sphere 108 [.ref h0, .int x1, .int x2, .int x3, .int x4, .int x5] [] S I J Q := by
  have h := (And.intro trivial kk)
  exact Go.n tb_X12_sphere 3 h
theorem b_X12_sphere_113 {d : Nat} {S : zS} {I : zI} {J : zJ} {Q : zQ} {h0 : Nat} {x1 : Int32} {x2 : Int32} {x3 : Int32} {x4 : Int32} {x5 : Int32} (kk : Q (some (.int x3)) S I J) : Go d i_X12_sphere 113 [.ref h0, .int x1, .int x2, .int x3, .int x4, .int x5] [] S I J Q := by
  have h := (And.intro trivial kk)
  exact Go.n tb_X12_sphere 2 h
theorem w_X12_way {d : Nat} {S : zS} {I : zI} {J : zJ} {Q : zQ} {h0 : Nat} {x1 : Int32} {x2 : Int32} {x3 : Int32} (h : Go d i_X12_way 0 [.ref h0, .int x1, .int x2, .int x3, .retAddr 0, .retAddr 0, .retAddr 0, .retAddr 0] [] S I J Q) : z_wp (d + 1) i_X12_way [.ref h0, .int x1, .int x2, .int x3] S I J Q := Go.wp (Nat.le_of_ble_eq_true rfl) h
theorem e_X12_way {d : Nat} {S S2 : zS} {I I2 : zI} {J J2 : zJ} {r : Option Value} {h0 : Nat} {x1 : Int32} {x2 : Int32} {x3 : Int32} (h : Go d i_X12_way 0 [.ref h0, .int x1, .int x2, .int x3, .retAddr 0, .retAddr 0, .retAddr 0, .retAddr 0] [] S I J (z_eq r S2 I2 J2)) : z_ev (d + 1) i_X12_way [.ref h0, .int x1, .int x2, .int x3] S I J r S2 I2 J2 := Go.ev (Nat.le_of_ble_eq_true rfl) h
theorem b_X12_way_0 {d : Nat} {S : zS} {I : zI} {J : zJ} {Q : zQ} {h0 : Nat} {x1 : Int32} {x2 : Int32} {x3 : Int32} {v4 : Value} {v5 : Value} {v6 : Value} {v7 : Value} (g1 : z_kd S h0 = 13) (g2 : z_kd S h0 = 13) (kk : z_wp d i_X12_isElement [.ref h0, .int x1, .int x2] S (z_u2 I h0 1 (0 : Int32)) J (fun vv SS II JJ => Go d i_X12_way 11 [.ref h0, .int x1, .int x2, .int x3, v4, v5, v6, v7] (vv.toList ++ []) SS II JJ Q)) : Go d i_X12_way 0 [.ref h0, .int x1, .int x2, .int x3, v4, v5, v6, v7] [] S I J Q := by
  have h := (And.intro g1 (And.intro g2 kk))
  exact Go.n tb_X12_way 7 h
theorem b_X12_way_11 {d : Nat} {S : zS} {I : zI} {J : zJ} {Q : zQ} {h0 : Nat} {x1 : Int32} {x2 : Int32} {x3 : Int32} {v4 : Value} {v5 : Value} {v6 : Value} {v7 : Value} {y0 : Int32} (kt : ¬ y0 = (0 : Int32) → Go d i_X12_way 17 [.ref h0, .int x1, .int x2, .int x3, v4, v5, v6, v7] [] S I J Q) (kf : y0 = (0 : Int32) → Go d i_X12_way 14 [.ref h0, .int x1, .int x2, .int x3, v4, v5, v6, v7] [] S I J Q) : Go d i_X12_way 11 [.ref h0, .int x1, .int x2, .int x3, v4, v5, v6, v7] [.int y0] S I J Q := by
  have h := (Go.eti kt kf)
  exact Go.n tb_X12_way 1 h
theorem b_X12_way_14 {d : Nat} {S : zS} {I : zI} {J : zJ} {Q : zQ} {h0 : Nat} {x1 : Int32} {x2 : Int32} {x3 : Int32} {v4 : Value} {v5 : Value} {v6 : Value} {v7 : Value} (kk : Q (some (.int (-2 : Int32))) S I J) : Go d i_X12_way 14 [.ref h0, .int x1, .int x2, .int x3, v4, v5, v6, v7] [] S I J Q := by
  have h := (And.intro trivial kk)
  exact Go.n tb_X12_way 2 h
theorem b_X12_way_17 {d : Nat} {S : zS} {I : zI} {J : zJ} {Q : zQ} {h0 : Nat} {x1 : Int32} {x2 : Int32} {x3 : Int32} {v4 : Value} {v5 : Value} {v6 : Value} {v7 : Value} (kt : (0 : Int32) ≤ x3 → Go d i_X12_way 24 [.ref h0, .int x1, .int x2, .int x3, v4, v5, v6, v7] [] S I J Q) (kf : ¬ (0 : Int32) ≤ x3 → Go d i_X12_way 21 [.ref h0, .int x1, .int x2, .int x3, v4, v5, v6, v7] [] S I J Q) : Go d i_X12_way 17 [.ref h0, .int x1, .int x2, .int x3, v4, v5, v6, v7] [] S I J Q := by
  have h := (Go.ite kt kf)
  exact Go.n tb_X12_way 2 h
theorem b_X12_way_21 {d : Nat} {S : zS} {I : zI} {J : zJ} {Q : zQ} {h0 : Nat} {x1 : Int32} {x2 : Int32} {x3 : Int32} {v4 : Value} {v5 : Value} {v6 : Value} {v7 : Value} (kk : Q (some (.int (-3 : Int32))) S I J) : Go d i_X12_way 21 [.ref h0, .int x1, .int x2, .int x3, v4, v5, v6, v7] [] S I J Q := by
  have h := (And.intro trivial kk)
  exact Go.n tb_X12_way 2 h
theorem b_X12_way_24 {d : Nat} {S : zS} {I : zI} {J : zJ} {Q : zQ} {h0 : Nat} {x1 : Int32} {x2 : Int32} {x3 : Int32} {v4 : Value} {v5 : Value} {v6 : Value} {v7 : Value} (g1 : z_kd S h0 = 13) (kk : z_wp d i_X12_steps [.ref h0, .int x1] S I J (fun vv SS II JJ => Go d i_X12_way 31 [.ref h0, .int x1, .int x2, .int x3, v4, v5, v6, v7] (vv.toList ++ [.int x1, .ref h0]) SS II JJ Q)) : Go d i_X12_way 24 [.ref h0, .int x1, .int x2, .int x3, v4, v5, v6, v7] [] S I J Q := by
  have h := (And.intro g1 kk)
  exact Go.n tb_X12_way 5 h
theorem b_X12_way_31 {d : Nat} {S : zS} {I : zI} {J : zJ} {Q : zQ} {h0 : Nat} {x1 : Int32} {x2 : Int32} {x3 : Int32} {v4 : Value} {v5 : Value} {v6 : Value} {v7 : Value} {q0 : Nat} {y1 : Int32} {y2 : Int32} (g1 : z_kd S q0 = 13) (kk : z_wp d i_X12_laysFar [.ref q0, .int y1, .int y2, .int (0 : Int32)] S I J (fun vv SS II JJ => Go d i_X12_way 35 [.ref h0, .int x1, .int x2, .int x3, v4, v5, v6, v7] (vv.toList ++ []) SS II JJ Q)) : Go d i_X12_way 31 [.ref h0, .int x1, .int x2, .int x3, v4, v5, v6, v7] [.int y2, .int y1, .ref q0] S I J Q := by
  have h := (And.intro g1 kk)
  exact Go.n tb_X12_way 2 h
theorem b_X12_way_35 {d : Nat} {S : zS} {I : zI} {J : zJ} {Q : zQ} {h0 : Nat} {x1 : Int32} {x2 : Int32} {x3 : Int32} {v4 : Value} {v5 : Value} {v6 : Value} {v7 : Value} (g1 : z_kd S h0 = 13) (g2 : z_isI (z_kd S (z_rv S h0 29)) = true ∧ vp_in x2 (z_ln S (z_rv S h0 29))) (kt : x3 < (I (z_rv S h0 29) (Int32.toNatClampNeg x2)) → Go d i_X12_way 51 [.ref h0, .int x1, .int x2, .int x3, .int (I (z_rv S h0 29) (Int32.toNatClampNeg x2)), v5, v6, v7] [] S I J Q) (kf : ¬ x3 < (I (z_rv S h0 29) (Int32.toNatClampNeg x2)) → Go d i_X12_way 49 [.ref h0, .int x1, .int x2, .int x3, .int (I (z_rv S h0 29) (Int32.toNatClampNeg x2)), v5, v6, v7] [] S I J Q) : Go d i_X12_way 35 [.ref h0, .int x1, .int x2, .int x3, v4, v5, v6, v7] [] S I J Q := by
  have h := (And.intro g1 (And.intro g2 (Go.ite kt kf)))
  exact Go.n tb_X12_way 8 h
theorem b_X12_way_49 {d : Nat} {S : zS} {I : zI} {J : zJ} {Q : zQ} {h0 : Nat} {x1 : Int32} {x2 : Int32} {x3 : Int32} {x4 : Int32} {v5 : Value} {v6 : Value} {v7 : Value} (kk : Q (some (.int (-1 : Int32))) S I J) : Go d i_X12_way 49 [.ref h0, .int x1, .int x2, .int x3, .int x4, v5, v6, v7] [] S I J Q := by
  have h := (And.intro trivial kk)
  exact Go.n tb_X12_way 2 h
theorem b_X12_way_51 {d : Nat} {S : zS} {I : zI} {J : zJ} {Q : zQ} {h0 : Nat} {x1 : Int32} {x2 : Int32} {x3 : Int32} {x4 : Int32} {v5 : Value} {v6 : Value} {v7 : Value} (kk : Go d i_X12_way 60 [.ref h0, .int x1, .int x2, .int x3, .int x4, .int (0 : Int32), .int (0 : Int32), .int (0 : Int32)] [] S I J Q) : Go d i_X12_way 51 [.ref h0, .int x1, .int x2, .int x3, .int x4, v5, v6, v7] [] S I J Q := by
  have h := kk
  exact Go.n tb_X12_way 6 h
theorem b_X12_way_60 {d : Nat} {S : zS} {I : zI} {J : zJ} {Q : zQ} {h0 : Nat} {x1 : Int32} {x2 : Int32} {x3 : Int32} {x4 : Int32} {x5 : Int32} {x6 : Int32} {x7 : Int32} (kt : x3 < x7 → Go d i_X12_way 131 [.ref h0, .int x1, .int x2, .int x3, .int x4, .int x5, .int x6, .int x7] [] S I J Q) (kf : ¬ x3 < x7 → Go d i_X12_way 66 [.ref h0, .int x1, .int x2, .int x3, .int x4, .int x5, .int x6, .int x7] [] S I J Q) : Go d i_X12_way 60 [.ref h0, .int x1, .int x2, .int x3, .int x4, .int x5, .int x6, .int x7] [] S I J Q := by
  have h := (Go.ite kt kf)
  exact Go.n tb_X12_way 3 h
theorem b_X12_way_66 {d : Nat} {S : zS} {I : zI} {J : zJ} {Q : zQ} {h0 : Nat} {x1 : Int32} {x2 : Int32} {x3 : Int32} {x4 : Int32} {x5 : Int32} {x6 : Int32} {x7 : Int32} (kk : Go d i_X12_way 69 [.ref h0, .int x1, .int x2, .int x3, .int x4, .int x5, .int (1 : Int32), .int x7] [] S I J Q) : Go d i_X12_way 66 [.ref h0, .int x1, .int x2, .int x3, .int x4, .int x5, .int x6, .int x7] [] S I J Q := by
  have h := kk
  exact Go.n tb_X12_way 2 h
theorem b_X12_way_69 {d : Nat} {S : zS} {I : zI} {J : zJ} {Q : zQ} {h0 : Nat} {x1 : Int32} {x2 : Int32} {x3 : Int32} {x4 : Int32} {x5 : Int32} {x6 : Int32} {x7 : Int32} (g1 : z_kd S h0 = 13) (kk : z_wp d i_X12_steps [.ref h0, .int x1] S I J (fun vv SS II JJ => Go d i_X12_way 74 [.ref h0, .int x1, .int x2, .int x3, .int x4, .int x5, .int x6, .int x7] (vv.toList ++ []) SS II JJ Q)) : Go d i_X12_way 69 [.ref h0, .int x1, .int x2, .int x3, .int x4, .int x5, .int x6, .int x7] [] S I J Q := by
  have h := (And.intro g1 kk)
  exact Go.n tb_X12_way 3 h
theorem b_X12_way_74 {d : Nat} {S : zS} {I : zI} {J : zJ} {Q : zQ} {h0 : Nat} {x1 : Int32} {x2 : Int32} {x3 : Int32} {x4 : Int32} {x5 : Int32} {x6 : Int32} {x7 : Int32} {y0 : Int32} (kk : z_wp d i_X12_has [.int y0, .int x6] S I J (fun vv SS II JJ => Go d i_X12_way 79 [.ref h0, .int x1, .int x2, .int x3, .int x4, .int x5, .int x6, .int x7] (vv.toList ++ []) SS II JJ Q)) : Go d i_X12_way 74 [.ref h0, .int x1, .int x2, .int x3, .int x4, .int x5, .int x6, .int x7] [.int y0] S I J Q := by
  have h := (And.intro trivial kk)
  exact Go.n tb_X12_way 2 h
theorem b_X12_way_79 {d : Nat} {S : zS} {I : zI} {J : zJ} {Q : zQ} {h0 : Nat} {x1 : Int32} {x2 : Int32} {x3 : Int32} {x4 : Int32} {x5 : Int32} {x6 : Int32} {x7 : Int32} {y0 : Int32} (kt : y0 = (0 : Int32) → Go d i_X12_way 105 [.ref h0, .int x1, .int x2, .int x3, .int x4, .int x5, .int x6, .int x7] [] S I J Q) (kf : ¬ y0 = (0 : Int32) → Go d i_X12_way 82 [.ref h0, .int x1, .int x2, .int x3, .int x4, .int x5, .int x6, .int x7] [] S I J Q) : Go d i_X12_way 79 [.ref h0, .int x1, .int x2, .int x3, .int x4, .int x5, .int x6, .int x7] [.int y0] S I J Q := by
  have h := (Go.ite kt kf)
  exact Go.n tb_X12_way 1 h
theorem b_X12_way_82 {d : Nat} {S : zS} {I : zI} {J : zJ} {Q : zQ} {h0 : Nat} {x1 : Int32} {x2 : Int32} {x3 : Int32} {x4 : Int32} {x5 : Int32} {x6 : Int32} {x7 : Int32} (g1 : z_kd S h0 = 13) (kk : z_wp d i_X12_times [.ref h0, .int x1, .int x5, .int x6] S I J (fun vv SS II JJ => Go d i_X12_way 93 [.ref h0, .int x1, .int x2, .int x3, .int x4, .int x5, .int x6, .int x7] (vv.toList ++ [.int x1, .ref h0]) SS II JJ Q)) : Go d i_X12_way 82 [.ref h0, .int x1, .int x2, .int x3, .int x4, .int x5, .int x6, .int x7] [] S I J Q := by
  have h := (And.intro g1 kk)
  exact Go.n tb_X12_way 7 h
theorem b_X12_way_93 {d : Nat} {S : zS} {I : zI} {J : zJ} {Q : zQ} {h0 : Nat} {x1 : Int32} {x2 : Int32} {x3 : Int32} {x4 : Int32} {x5 : Int32} {x6 : Int32} {x7 : Int32} {q0 : Nat} {y1 : Int32} {y2 : Int32} (g1 : z_kd S q0 = 13) (kk : z_wp d i_X12_farOf [.ref q0, .int y1, .int y2, .int x2, .int (0 : Int32)] S I J (fun vv SS II JJ => Go d i_X12_way 98 [.ref h0, .int x1, .int x2, .int x3, .int x4, .int x5, .int x6, .int x7] (vv.toList ++ []) SS II JJ Q)) : Go d i_X12_way 93 [.ref h0, .int x1, .int x2, .int x3, .int x4, .int x5, .int x6, .int x7] [.int y2, .int y1, .ref q0] S I J Q := by
  have h := (And.intro g1 kk)
  exact Go.n tb_X12_way 3 h
theorem b_X12_way_98 {d : Nat} {S : zS} {I : zI} {J : zJ} {Q : zQ} {h0 : Nat} {x1 : Int32} {x2 : Int32} {x3 : Int32} {x4 : Int32} {x5 : Int32} {x6 : Int32} {x7 : Int32} {y0 : Int32} (kt : y0 = (x4 - (1 : Int32)) → Go d i_X12_way 111 [.ref h0, .int x1, .int x2, .int x3, .int x4, .int x5, .int x6, .int x7] [] S I J Q) (kf : ¬ y0 = (x4 - (1 : Int32)) → Go d i_X12_way 105 [.ref h0, .int x1, .int x2, .int x3, .int x4, .int x5, .int x6, .int x7] [] S I J Q) : Go d i_X12_way 98 [.ref h0, .int x1, .int x2, .int x3, .int x4, .int x5, .int x6, .int x7] [.int y0] S I J Q := by
  have h := (Go.ite kt kf)
  exact Go.n tb_X12_way 4 h
theorem b_X12_way_105 {d : Nat} {S : zS} {I : zI} {J : zJ} {Q : zQ} {h0 : Nat} {x1 : Int32} {x2 : Int32} {x3 : Int32} {x4 : Int32} {x5 : Int32} {x6 : Int32} {x7 : Int32} (kk : Go d i_X12_way 69 [.ref h0, .int x1, .int x2, .int x3, .int x4, .int x5, .int (x6 + (1 : Int32)), .int x7] [] S I J Q) : Go d i_X12_way 105 [.ref h0, .int x1, .int x2, .int x3, .int x4, .int x5, .int x6, .int x7] [] S I J Q := by
  have h := kk
  exact Go.n tb_X12_way 2 h
theorem b_X12_way_111 {d : Nat} {S : zS} {I : zI} {J : zJ} {Q : zQ} {h0 : Nat} {x1 : Int32} {x2 : Int32} {x3 : Int32} {x4 : Int32} {x5 : Int32} {x6 : Int32} {x7 : Int32} (g1 : z_kd S h0 = 13) (kk : z_wp d i_X12_times [.ref h0, .int x1, .int x5, .int x6] S I J (fun vv SS II JJ => Go d i_X12_way 120 [.ref h0, .int x1, .int x2, .int x3, .int x4, .int x5, .int x6, .int x7] (vv.toList ++ []) SS II JJ Q)) : Go d i_X12_way 111 [.ref h0, .int x1, .int x2, .int x3, .int x4, .int x5, .int x6, .int x7] [] S I J Q := by
  have h := (And.intro g1 kk)
  exact Go.n tb_X12_way 5 h
theorem b_X12_way_120 {d : Nat} {S : zS} {I : zI} {J : zJ} {Q : zQ} {h0 : Nat} {x1 : Int32} {x2 : Int32} {x3 : Int32} {x4 : Int32} {x5 : Int32} {x6 : Int32} {x7 : Int32} {y0 : Int32} (kk : Go d i_X12_way 60 [.ref h0, .int x1, .int x2, .int x3, .int (x4 + (-1 : Int32)), .int y0, .int x6, .int (x7 + (1 : Int32))] [] S I J Q) : Go d i_X12_way 120 [.ref h0, .int x1, .int x2, .int x3, .int x4, .int x5, .int x6, .int x7] [.int y0] S I J Q := by
  have h := kk
  exact Go.n tb_X12_way 4 h
theorem b_X12_way_131 {d : Nat} {S : zS} {I : zI} {J : zJ} {Q : zQ} {h0 : Nat} {x1 : Int32} {x2 : Int32} {x3 : Int32} {x4 : Int32} {x5 : Int32} {x6 : Int32} {x7 : Int32} (kk : Q (some (.int x6)) S I J) : Go d i_X12_way 131 [.ref h0, .int x1, .int x2, .int x3, .int x4, .int x5, .int x6, .int x7] [] S I J Q := by
  have h := (And.intro trivial kk)
  exact Go.n tb_X12_way 2 h
theorem w_X12_back {d : Nat} {S : zS} {I : zI} {J : zJ} {Q : zQ} {h0 : Nat} {x1 : Int32} {x2 : Int32} (h : Go d i_X12_back 0 [.ref h0, .int x1, .int x2, .retAddr 0, .retAddr 0, .retAddr 0, .retAddr 0] [] S I J Q) : z_wp (d + 1) i_X12_back [.ref h0, .int x1, .int x2] S I J Q := Go.wp (Nat.le_of_ble_eq_true rfl) h
theorem e_X12_back {d : Nat} {S S2 : zS} {I I2 : zI} {J J2 : zJ} {r : Option Value} {h0 : Nat} {x1 : Int32} {x2 : Int32} (h : Go d i_X12_back 0 [.ref h0, .int x1, .int x2, .retAddr 0, .retAddr 0, .retAddr 0, .retAddr 0] [] S I J (z_eq r S2 I2 J2)) : z_ev (d + 1) i_X12_back [.ref h0, .int x1, .int x2] S I J r S2 I2 J2 := Go.ev (Nat.le_of_ble_eq_true rfl) h
theorem b_X12_back_0 {d : Nat} {S : zS} {I : zI} {J : zJ} {Q : zQ} {h0 : Nat} {x1 : Int32} {x2 : Int32} {v3 : Value} {v4 : Value} {v5 : Value} {v6 : Value} (kk : Go d i_X12_back 2 [.ref h0, .int x1, .int x2, .int (0 : Int32), v4, v5, v6] [] S I J Q) : Go d i_X12_back 0 [.ref h0, .int x1, .int x2, v3, v4, v5, v6] [] S I J Q := by
  have h := kk
  exact Go.n tb_X12_back 2 h
theorem b_X12_back_2 {d : Nat} {S : zS} {I : zI} {J : zJ} {Q : zQ} {h0 : Nat} {x1 : Int32} {x2 : Int32} {x3 : Int32} {v4 : Value} {v5 : Value} {v6 : Value} (kt : (20 : Int32) ≤ x3 → Go d i_X12_back 21 [.ref h0, .int x1, .int x2, .int x3, v4, v5, v6] [] S I J Q) (kf : ¬ (20 : Int32) ≤ x3 → Go d i_X12_back 8 [.ref h0, .int x1, .int x2, .int x3, v4, v5, v6] [] S I J Q) : Go d i_X12_back 2 [.ref h0, .int x1, .int x2, .int x3, v4, v5, v6] [] S I J Q := by
  have h := (Go.ite kt kf)
  exact Go.n tb_X12_back 3 h
theorem b_X12_back_8 {d : Nat} {S : zS} {I : zI} {J : zJ} {Q : zQ} {h0 : Nat} {x1 : Int32} {x2 : Int32} {x3 : Int32} {v4 : Value} {v5 : Value} {v6 : Value} (g1 : z_kd S h0 = 13) (g2 : z_kd S (z_rv S h0 29) = 100 ∧ vp_in x3 (z_ln S (z_rv S h0 29))) (kk : Go d i_X12_back 2 [.ref h0, .int x1, .int x2, .int (x3 + (1 : Int32)), v4, v5, v6] [] S (z_u2 I (z_rv S h0 29) (Int32.toNatClampNeg x3) (-1 : Int32)) J Q) : Go d i_X12_back 8 [.ref h0, .int x1, .int x2, .int x3, v4, v5, v6] [] S I J Q := by
  have h := (And.intro g1 (And.intro g2 kk))
  exact Go.n tb_X12_back 7 h
theorem b_X12_back_21 {d : Nat} {S : zS} {I : zI} {J : zJ} {Q : zQ} {h0 : Nat} {x1 : Int32} {x2 : Int32} {x3 : Int32} {v4 : Value} {v5 : Value} {v6 : Value} (g1 : z_kd S h0 = 13) (g2 : z_kd S (z_rv S h0 29) = 100 ∧ vp_in x2 (z_ln S (z_rv S h0 29))) (g3 : z_kd S h0 = 13) (g4 : z_kd S (z_rv S h0 30) = 100 ∧ vp_in (0 : Int32) (z_ln S (z_rv S h0 30))) (kk : Go d i_X12_back 40 [.ref h0, .int x1, .int x2, .int (1 : Int32), .int (0 : Int32), v5, v6] [] S (z_u2 (z_u2 I (z_rv S h0 29) (Int32.toNatClampNeg x2) (0 : Int32)) (z_rv S h0 30) (Int32.toNatClampNeg (0 : Int32)) x2) J Q) : Go d i_X12_back 21 [.ref h0, .int x1, .int x2, .int x3, v4, v5, v6] [] S I J Q := by
  have h := (And.intro g1 (And.intro g2 (And.intro g3 (And.intro g4 kk))))
  exact Go.n tb_X12_back 14 h
theorem b_X12_back_40 {d : Nat} {S : zS} {I : zI} {J : zJ} {Q : zQ} {h0 : Nat} {x1 : Int32} {x2 : Int32} {x3 : Int32} {x4 : Int32} {v5 : Value} {v6 : Value} (kt : x3 ≤ x4 → Go d i_X12_back 162 [.ref h0, .int x1, .int x2, .int x3, .int x4, v5, v6] [] S I J Q) (kf : ¬ x3 ≤ x4 → Go d i_X12_back 46 [.ref h0, .int x1, .int x2, .int x3, .int x4, v5, v6] [] S I J Q) : Go d i_X12_back 40 [.ref h0, .int x1, .int x2, .int x3, .int x4, v5, v6] [] S I J Q := by
  have h := (Go.ite kt kf)
  exact Go.n tb_X12_back 3 h
theorem b_X12_back_46 {d : Nat} {S : zS} {I : zI} {J : zJ} {Q : zQ} {h0 : Nat} {x1 : Int32} {x2 : Int32} {x3 : Int32} {x4 : Int32} {v5 : Value} {v6 : Value} (kk : Go d i_X12_back 49 [.ref h0, .int x1, .int x2, .int x3, .int x4, .int (1 : Int32), v6] [] S I J Q) : Go d i_X12_back 46 [.ref h0, .int x1, .int x2, .int x3, .int x4, v5, v6] [] S I J Q := by
  have h := kk
  exact Go.n tb_X12_back 2 h
theorem b_X12_back_49 {d : Nat} {S : zS} {I : zI} {J : zJ} {Q : zQ} {h0 : Nat} {x1 : Int32} {x2 : Int32} {x3 : Int32} {x4 : Int32} {x5 : Int32} {v6 : Value} (g1 : z_kd S h0 = 13) (kk : z_wp d i_X12_many [.ref h0, .int x1] S I J (fun vv SS II JJ => Go d i_X12_back 56 [.ref h0, .int x1, .int x2, .int x3, .int x4, .int x5, v6] (vv.toList ++ [.int x5]) SS II JJ Q)) : Go d i_X12_back 49 [.ref h0, .int x1, .int x2, .int x3, .int x4, .int x5, v6] [] S I J Q := by
  have h := (And.intro g1 kk)
  exact Go.n tb_X12_back 4 h
theorem b_X12_back_56 {d : Nat} {S : zS} {I : zI} {J : zJ} {Q : zQ} {h0 : Nat} {x1 : Int32} {x2 : Int32} {x3 : Int32} {x4 : Int32} {x5 : Int32} {v6 : Value} {y0 : Int32} {y1 : Int32} (kt : y1 ≤ y0 → Go d i_X12_back 156 [.ref h0, .int x1, .int x2, .int x3, .int x4, .int x5, v6] [] S I J Q) (kf : ¬ y1 ≤ y0 → Go d i_X12_back 59 [.ref h0, .int x1, .int x2, .int x3, .int x4, .int x5, v6] [] S I J Q) : Go d i_X12_back 56 [.ref h0, .int x1, .int x2, .int x3, .int x4, .int x5, v6] [.int y1, .int y0] S I J Q := by
  have h := (Go.ite kt kf)
  exact Go.n tb_X12_back 1 h
theorem b_X12_back_59 {d : Nat} {S : zS} {I : zI} {J : zJ} {Q : zQ} {h0 : Nat} {x1 : Int32} {x2 : Int32} {x3 : Int32} {x4 : Int32} {x5 : Int32} {v6 : Value} (g1 : z_kd S h0 = 13) (g2 : z_isI (z_kd S (z_rv S h0 30)) = true ∧ vp_in x4 (z_ln S (z_rv S h0 30))) (g3 : z_kd S h0 = 13) (kk : z_wp d i_X12_times [.ref h0, .int x1, .int (I (z_rv S h0 30) (Int32.toNatClampNeg x4)), .int x5] S I J (fun vv SS II JJ => Go d i_X12_back 73 [.ref h0, .int x1, .int x2, .int x3, .int x4, .int x5, v6] (vv.toList ++ []) SS II JJ Q)) : Go d i_X12_back 59 [.ref h0, .int x1, .int x2, .int x3, .int x4, .int x5, v6] [] S I J Q := by
  have h := (And.intro g1 (And.intro g2 (And.intro g3 kk)))
  exact Go.n tb_X12_back 8 h
theorem b_X12_back_73 {d : Nat} {S : zS} {I : zI} {J : zJ} {Q : zQ} {h0 : Nat} {x1 : Int32} {x2 : Int32} {x3 : Int32} {x4 : Int32} {x5 : Int32} {v6 : Value} {y0 : Int32} (g1 : z_kd S h0 = 13) (kk : z_wp d i_X12_steps [.ref h0, .int x1] S I J (fun vv SS II JJ => Go d i_X12_back 80 [.ref h0, .int x1, .int x2, .int x3, .int x4, .int x5, .int y0] (vv.toList ++ []) SS II JJ Q)) : Go d i_X12_back 73 [.ref h0, .int x1, .int x2, .int x3, .int x4, .int x5, v6] [.int y0] S I J Q := by
  have h := (And.intro g1 kk)
  exact Go.n tb_X12_back 4 h
theorem b_X12_back_80 {d : Nat} {S : zS} {I : zI} {J : zJ} {Q : zQ} {h0 : Nat} {x1 : Int32} {x2 : Int32} {x3 : Int32} {x4 : Int32} {x5 : Int32} {x6 : Int32} {y0 : Int32} (kk : z_wp d i_X12_has [.int y0, .int x5] S I J (fun vv SS II JJ => Go d i_X12_back 85 [.ref h0, .int x1, .int x2, .int x3, .int x4, .int x5, .int x6] (vv.toList ++ []) SS II JJ Q)) : Go d i_X12_back 80 [.ref h0, .int x1, .int x2, .int x3, .int x4, .int x5, .int x6] [.int y0] S I J Q := by
  have h := (And.intro trivial kk)
  exact Go.n tb_X12_back 2 h
theorem b_X12_back_85 {d : Nat} {S : zS} {I : zI} {J : zJ} {Q : zQ} {h0 : Nat} {x1 : Int32} {x2 : Int32} {x3 : Int32} {x4 : Int32} {x5 : Int32} {x6 : Int32} {y0 : Int32} (kt : y0 = (0 : Int32) → Go d i_X12_back 150 [.ref h0, .int x1, .int x2, .int x3, .int x4, .int x5, .int x6] [] S I J Q) (kf : ¬ y0 = (0 : Int32) → Go d i_X12_back 88 [.ref h0, .int x1, .int x2, .int x3, .int x4, .int x5, .int x6] [] S I J Q) : Go d i_X12_back 85 [.ref h0, .int x1, .int x2, .int x3, .int x4, .int x5, .int x6] [.int y0] S I J Q := by
  have h := (Go.ite kt kf)
  exact Go.n tb_X12_back 1 h
theorem b_X12_back_88 {d : Nat} {S : zS} {I : zI} {J : zJ} {Q : zQ} {h0 : Nat} {x1 : Int32} {x2 : Int32} {x3 : Int32} {x4 : Int32} {x5 : Int32} {x6 : Int32} (g1 : z_kd S h0 = 13) (g2 : z_isI (z_kd S (z_rv S h0 29)) = true ∧ vp_in x6 (z_ln S (z_rv S h0 29))) (kt : ¬ (I (z_rv S h0 29) (Int32.toNatClampNeg x6)) = (-1 : Int32) → Go d i_X12_back 150 [.ref h0, .int x1, .int x2, .int x3, .int x4, .int x5, .int x6] [] S I J Q) (kf : (I (z_rv S h0 29) (Int32.toNatClampNeg x6)) = (-1 : Int32) → Go d i_X12_back 99 [.ref h0, .int x1, .int x2, .int x3, .int x4, .int x5, .int x6] [] S I J Q) : Go d i_X12_back 88 [.ref h0, .int x1, .int x2, .int x3, .int x4, .int x5, .int x6] [] S I J Q := by
  have h := (And.intro g1 (And.intro g2 (Go.eti kt kf)))
  exact Go.n tb_X12_back 6 h
theorem b_X12_back_99 {d : Nat} {S : zS} {I : zI} {J : zJ} {Q : zQ} {h0 : Nat} {x1 : Int32} {x2 : Int32} {x3 : Int32} {x4 : Int32} {x5 : Int32} {x6 : Int32} (kt : ¬ x6 = (0 : Int32) → Go d i_X12_back 118 [.ref h0, .int x1, .int x2, .int x3, .int x4, .int x5, .int x6] [] S I J Q) (kf : x6 = (0 : Int32) → Go d i_X12_back 104 [.ref h0, .int x1, .int x2, .int x3, .int x4, .int x5, .int x6] [] S I J Q) : Go d i_X12_back 99 [.ref h0, .int x1, .int x2, .int x3, .int x4, .int x5, .int x6] [] S I J Q := by
  have h := (Go.eti kt kf)
  exact Go.n tb_X12_back 2 h
theorem b_X12_back_104 {d : Nat} {S : zS} {I : zI} {J : zJ} {Q : zQ} {h0 : Nat} {x1 : Int32} {x2 : Int32} {x3 : Int32} {x4 : Int32} {x5 : Int32} {x6 : Int32} (g1 : z_kd S h0 = 13) (g2 : z_isI (z_kd S (z_rv S h0 30)) = true ∧ vp_in x4 (z_ln S (z_rv S h0 30))) (kt : ¬ (I (z_rv S h0 30) (Int32.toNatClampNeg x4)) = x2 → Go d i_X12_back 118 [.ref h0, .int x1, .int x2, .int x3, .int x4, .int x5, .int x6] [] S I J Q) (kf : (I (z_rv S h0 30) (Int32.toNatClampNeg x4)) = x2 → Go d i_X12_back 115 [.ref h0, .int x1, .int x2, .int x3, .int x4, .int x5, .int x6] [] S I J Q) : Go d i_X12_back 104 [.ref h0, .int x1, .int x2, .int x3, .int x4, .int x5, .int x6] [] S I J Q := by
  have h := (And.intro g1 (And.intro g2 (Go.eti kt kf)))
  exact Go.n tb_X12_back 6 h
theorem b_X12_back_115 {d : Nat} {S : zS} {I : zI} {J : zJ} {Q : zQ} {h0 : Nat} {x1 : Int32} {x2 : Int32} {x3 : Int32} {x4 : Int32} {x5 : Int32} {x6 : Int32} (kk : Go d i_X12_back 49 [.ref h0, .int x1, .int x2, .int x3, .int x4, .int (x5 + (1 : Int32)), .int x6] [] S I J Q) : Go d i_X12_back 115 [.ref h0, .int x1, .int x2, .int x3, .int x4, .int x5, .int x6] [] S I J Q := by
  have h := kk
  exact Go.n tb_X12_back 3 h
theorem b_X12_back_118 {d : Nat} {S : zS} {I : zI} {J : zJ} {Q : zQ} {h0 : Nat} {x1 : Int32} {x2 : Int32} {x3 : Int32} {x4 : Int32} {x5 : Int32} {x6 : Int32} {I1 : zI} (g1 : z_kd S h0 = 13) (g2 : z_kd S h0 = 13) (g3 : z_kd S h0 = 13) (g4 : z_isI (z_kd S (z_rv S h0 30)) = true ∧ vp_in x4 (z_ln S (z_rv S h0 30))) (g5 : z_isI (z_kd S (z_rv S h0 29)) = true ∧ vp_in (I (z_rv S h0 30) (Int32.toNatClampNeg x4)) (z_ln S (z_rv S h0 29))) (g6 : z_kd S (z_rv S h0 29) = 100 ∧ vp_in x6 (z_ln S (z_rv S h0 29))) (eI1 : I1 = z_u2 I (z_rv S h0 29) (Int32.toNatClampNeg x6) ((I (z_rv S h0 29) (Int32.toNatClampNeg (I (z_rv S h0 30) (Int32.toNatClampNeg x4)))) + (1 : Int32))) (g8 : z_kd S h0 = 13) (g9 : z_kd S (z_rv S h0 30) = 100 ∧ vp_in x3 (z_ln S (z_rv S h0 30))) (kk : Go d i_X12_back 49 [.ref h0, .int x1, .int x2, .int (x3 + (1 : Int32)), .int x4, .int (x5 + (1 : Int32)), .int x6] [] S (z_u2 I1 (z_rv S h0 30) (Int32.toNatClampNeg x3) x6) J Q) : Go d i_X12_back 118 [.ref h0, .int x1, .int x2, .int x3, .int x4, .int x5, .int x6] [] S I J Q := by
  subst eI1
  have h := (And.intro g1 (And.intro g2 (And.intro g3 (And.intro g4 (And.intro g5 (And.intro g6 (And.intro g8 (And.intro g9 kk))))))))
  exact Go.n tb_X12_back 21 h
theorem b_X12_back_150 {d : Nat} {S : zS} {I : zI} {J : zJ} {Q : zQ} {h0 : Nat} {x1 : Int32} {x2 : Int32} {x3 : Int32} {x4 : Int32} {x5 : Int32} {x6 : Int32} (kk : Go d i_X12_back 49 [.ref h0, .int x1, .int x2, .int x3, .int x4, .int (x5 + (1 : Int32)), .int x6] [] S I J Q) : Go d i_X12_back 150 [.ref h0, .int x1, .int x2, .int x3, .int x4, .int x5, .int x6] [] S I J Q := by
  have h := kk
  exact Go.n tb_X12_back 2 h
theorem b_X12_back_156 {d : Nat} {S : zS} {I : zI} {J : zJ} {Q : zQ} {h0 : Nat} {x1 : Int32} {x2 : Int32} {x3 : Int32} {x4 : Int32} {x5 : Int32} {v6 : Value} (kk : Go d i_X12_back 40 [.ref h0, .int x1, .int x2, .int x3, .int (x4 + (1 : Int32)), .int x5, v6] [] S I J Q) : Go d i_X12_back 156 [.ref h0, .int x1, .int x2, .int x3, .int x4, .int x5, v6] [] S I J Q := by
  have h := kk
  exact Go.n tb_X12_back 2 h
theorem b_X12_back_162 {d : Nat} {S : zS} {I : zI} {J : zJ} {Q : zQ} {h0 : Nat} {x1 : Int32} {x2 : Int32} {x3 : Int32} {x4 : Int32} {v5 : Value} {v6 : Value} (g1 : z_kd S h0 = 13) (g2 : z_isI (z_kd S (z_rv S h0 29)) = true ∧ vp_in (0 : Int32) (z_ln S (z_rv S h0 29))) (kk : Q (some (.int (I (z_rv S h0 29) (Int32.toNatClampNeg (0 : Int32))))) S I J) : Go d i_X12_back 162 [.ref h0, .int x1, .int x2, .int x3, .int x4, v5, v6] [] S I J Q := by
  have h := (And.intro g1 (And.intro g2 (And.intro trivial kk)))
  exact Go.n tb_X12_back 5 h
theorem w_X12_ring {d : Nat} {S : zS} {I : zI} {J : zJ} {Q : zQ} {h0 : Nat} {x1 : Int32} (h : Go d i_X12_ring 0 [.ref h0, .int x1, .retAddr 0, .retAddr 0, .retAddr 0] [] S I J Q) : z_wp (d + 1) i_X12_ring [.ref h0, .int x1] S I J Q := Go.wp (Nat.le_of_ble_eq_true rfl) h
theorem e_X12_ring {d : Nat} {S S2 : zS} {I I2 : zI} {J J2 : zJ} {r : Option Value} {h0 : Nat} {x1 : Int32} (h : Go d i_X12_ring 0 [.ref h0, .int x1, .retAddr 0, .retAddr 0, .retAddr 0] [] S I J (z_eq r S2 I2 J2)) : z_ev (d + 1) i_X12_ring [.ref h0, .int x1] S I J r S2 I2 J2 := Go.ev (Nat.le_of_ble_eq_true rfl) h
theorem b_X12_ring_0 {d : Nat} {S : zS} {I : zI} {J : zJ} {Q : zQ} {h0 : Nat} {x1 : Int32} {v2 : Value} {v3 : Value} {v4 : Value} (g1 : z_kd S h0 = 13) (kk : z_wp d i_X12_isSlot [.int x1] S (z_u2 I h0 1 (0 : Int32)) J (fun vv SS II JJ => Go d i_X12_ring 9 [.ref h0, .int x1, v2, v3, v4] (vv.toList ++ []) SS II JJ Q)) : Go d i_X12_ring 0 [.ref h0, .int x1, v2, v3, v4] [] S I J Q := by
  have h := (And.intro g1 (And.intro trivial kk))
  exact Go.n tb_X12_ring 5 h
theorem b_X12_ring_9 {d : Nat} {S : zS} {I : zI} {J : zJ} {Q : zQ} {h0 : Nat} {x1 : Int32} {v2 : Value} {v3 : Value} {v4 : Value} {y0 : Int32} (kt : ¬ y0 = (0 : Int32) → Go d i_X12_ring 15 [.ref h0, .int x1, v2, v3, v4] [] S I J Q) (kf : y0 = (0 : Int32) → Go d i_X12_ring 12 [.ref h0, .int x1, v2, v3, v4] [] S I J Q) : Go d i_X12_ring 9 [.ref h0, .int x1, v2, v3, v4] [.int y0] S I J Q := by
  have h := (Go.eti kt kf)
  exact Go.n tb_X12_ring 1 h
theorem b_X12_ring_12 {d : Nat} {S : zS} {I : zI} {J : zJ} {Q : zQ} {h0 : Nat} {x1 : Int32} {v2 : Value} {v3 : Value} {v4 : Value} (kk : Q (some (.int (-2 : Int32))) S I J) : Go d i_X12_ring 12 [.ref h0, .int x1, v2, v3, v4] [] S I J Q := by
  have h := (And.intro trivial kk)
  exact Go.n tb_X12_ring 2 h
theorem b_X12_ring_15 {d : Nat} {S : zS} {I : zI} {J : zJ} {Q : zQ} {h0 : Nat} {x1 : Int32} {v2 : Value} {v3 : Value} {v4 : Value} (kk : Go d i_X12_ring 19 [.ref h0, .int x1, .int (-1 : Int32), .int (1 : Int32), v4] [] S I J Q) : Go d i_X12_ring 15 [.ref h0, .int x1, v2, v3, v4] [] S I J Q := by
  have h := kk
  exact Go.n tb_X12_ring 4 h
theorem b_X12_ring_19 {d : Nat} {S : zS} {I : zI} {J : zJ} {Q : zQ} {h0 : Nat} {x1 : Int32} {x2 : Int32} {x3 : Int32} {v4 : Value} (g1 : z_kd S h0 = 13) (kk : z_wp d i_X12_many [.ref h0, .int x1] S I J (fun vv SS II JJ => Go d i_X12_ring 25 [.ref h0, .int x1, .int x2, .int x3, v4] (vv.toList ++ [.int x3]) SS II JJ Q)) : Go d i_X12_ring 19 [.ref h0, .int x1, .int x2, .int x3, v4] [] S I J Q := by
  have h := (And.intro g1 kk)
  exact Go.n tb_X12_ring 4 h
theorem b_X12_ring_25 {d : Nat} {S : zS} {I : zI} {J : zJ} {Q : zQ} {h0 : Nat} {x1 : Int32} {x2 : Int32} {x3 : Int32} {v4 : Value} {y0 : Int32} {y1 : Int32} (kt : y1 ≤ y0 → Go d i_X12_ring 82 [.ref h0, .int x1, .int x2, .int x3, v4] [] S I J Q) (kf : ¬ y1 ≤ y0 → Go d i_X12_ring 28 [.ref h0, .int x1, .int x2, .int x3, v4] [] S I J Q) : Go d i_X12_ring 25 [.ref h0, .int x1, .int x2, .int x3, v4] [.int y1, .int y0] S I J Q := by
  have h := (Go.ite kt kf)
  exact Go.n tb_X12_ring 1 h
theorem b_X12_ring_28 {d : Nat} {S : zS} {I : zI} {J : zJ} {Q : zQ} {h0 : Nat} {x1 : Int32} {x2 : Int32} {x3 : Int32} {v4 : Value} (g1 : z_kd S h0 = 13) (kk : z_wp d i_X12_steps [.ref h0, .int x1] S I J (fun vv SS II JJ => Go d i_X12_ring 33 [.ref h0, .int x1, .int x2, .int x3, v4] (vv.toList ++ []) SS II JJ Q)) : Go d i_X12_ring 28 [.ref h0, .int x1, .int x2, .int x3, v4] [] S I J Q := by
  have h := (And.intro g1 kk)
  exact Go.n tb_X12_ring 3 h
theorem b_X12_ring_33 {d : Nat} {S : zS} {I : zI} {J : zJ} {Q : zQ} {h0 : Nat} {x1 : Int32} {x2 : Int32} {x3 : Int32} {v4 : Value} {y0 : Int32} (kk : z_wp d i_X12_has [.int y0, .int x3] S I J (fun vv SS II JJ => Go d i_X12_ring 37 [.ref h0, .int x1, .int x2, .int x3, v4] (vv.toList ++ []) SS II JJ Q)) : Go d i_X12_ring 33 [.ref h0, .int x1, .int x2, .int x3, v4] [.int y0] S I J Q := by
  have h := (And.intro trivial kk)
  exact Go.n tb_X12_ring 2 h
theorem b_X12_ring_37 {d : Nat} {S : zS} {I : zI} {J : zJ} {Q : zQ} {h0 : Nat} {x1 : Int32} {x2 : Int32} {x3 : Int32} {v4 : Value} {y0 : Int32} (kt : y0 = (0 : Int32) → Go d i_X12_ring 49 [.ref h0, .int x1, .int x2, .int x3, v4] [] S I J Q) (kf : ¬ y0 = (0 : Int32) → Go d i_X12_ring 40 [.ref h0, .int x1, .int x2, .int x3, v4] [] S I J Q) : Go d i_X12_ring 37 [.ref h0, .int x1, .int x2, .int x3, v4] [.int y0] S I J Q := by
  have h := (Go.ite kt kf)
  exact Go.n tb_X12_ring 1 h
theorem b_X12_ring_40 {d : Nat} {S : zS} {I : zI} {J : zJ} {Q : zQ} {h0 : Nat} {x1 : Int32} {x2 : Int32} {x3 : Int32} {v4 : Value} (g1 : z_kd S h0 = 13) (kk : z_wp d i_X12_back [.ref h0, .int x1, .int x3] S I J (fun vv SS II JJ => Go d i_X12_ring 46 [.ref h0, .int x1, .int x2, .int x3, v4] (vv.toList ++ []) SS II JJ Q)) : Go d i_X12_ring 40 [.ref h0, .int x1, .int x2, .int x3, v4] [] S I J Q := by
  have h := (And.intro g1 kk)
  exact Go.n tb_X12_ring 4 h
theorem b_X12_ring_46 {d : Nat} {S : zS} {I : zI} {J : zJ} {Q : zQ} {h0 : Nat} {x1 : Int32} {x2 : Int32} {x3 : Int32} {v4 : Value} {y0 : Int32} (kt : y0 = (-1 : Int32) → Go d i_X12_ring 76 [.ref h0, .int x1, .int x2, .int x3, .int y0] [] S I J Q) (kf : ¬ y0 = (-1 : Int32) → Go d i_X12_ring 58 [.ref h0, .int x1, .int x2, .int x3, .int y0] [] S I J Q) : Go d i_X12_ring 46 [.ref h0, .int x1, .int x2, .int x3, v4] [.int y0] S I J Q := by
  have h := (Go.ite kt kf)
  exact Go.n tb_X12_ring 5 h
theorem b_X12_ring_49 {d : Nat} {S : zS} {I : zI} {J : zJ} {Q : zQ} {h0 : Nat} {x1 : Int32} {x2 : Int32} {x3 : Int32} {v4 : Value} (kt : (-1 : Int32) = (-1 : Int32) → Go d i_X12_ring 76 [.ref h0, .int x1, .int x2, .int x3, .int (-1 : Int32)] [] S I J Q) (kf : ¬ (-1 : Int32) = (-1 : Int32) → Go d i_X12_ring 58 [.ref h0, .int x1, .int x2, .int x3, .int (-1 : Int32)] [] S I J Q) : Go d i_X12_ring 49 [.ref h0, .int x1, .int x2, .int x3, v4] [] S I J Q := by
  have h := (Go.ite kt kf)
  exact Go.n tb_X12_ring 5 h
theorem b_X12_ring_58 {d : Nat} {S : zS} {I : zI} {J : zJ} {Q : zQ} {h0 : Nat} {x1 : Int32} {x2 : Int32} {x3 : Int32} {x4 : Int32} (kt : x2 = (-1 : Int32) → Go d i_X12_ring 71 [.ref h0, .int x1, .int x2, .int x3, .int x4] [] S I J Q) (kf : ¬ x2 = (-1 : Int32) → Go d i_X12_ring 63 [.ref h0, .int x1, .int x2, .int x3, .int x4] [] S I J Q) : Go d i_X12_ring 58 [.ref h0, .int x1, .int x2, .int x3, .int x4] [] S I J Q := by
  have h := (Go.ite kt kf)
  exact Go.n tb_X12_ring 3 h
theorem b_X12_ring_63 {d : Nat} {S : zS} {I : zI} {J : zJ} {Q : zQ} {h0 : Nat} {x1 : Int32} {x2 : Int32} {x3 : Int32} {x4 : Int32} (kt : x2 ≤ (x4 + (1 : Int32)) → Go d i_X12_ring 76 [.ref h0, .int x1, .int x2, .int x3, .int x4] [] S I J Q) (kf : ¬ x2 ≤ (x4 + (1 : Int32)) → Go d i_X12_ring 71 [.ref h0, .int x1, .int x2, .int x3, .int x4] [] S I J Q) : Go d i_X12_ring 63 [.ref h0, .int x1, .int x2, .int x3, .int x4] [] S I J Q := by
  have h := (Go.ite kt kf)
  exact Go.n tb_X12_ring 5 h
theorem b_X12_ring_71 {d : Nat} {S : zS} {I : zI} {J : zJ} {Q : zQ} {h0 : Nat} {x1 : Int32} {x2 : Int32} {x3 : Int32} {x4 : Int32} (kk : Go d i_X12_ring 19 [.ref h0, .int x1, .int (x4 + (1 : Int32)), .int (x3 + (1 : Int32)), .int x4] [] S I J Q) : Go d i_X12_ring 71 [.ref h0, .int x1, .int x2, .int x3, .int x4] [] S I J Q := by
  have h := kk
  exact Go.n tb_X12_ring 6 h
theorem b_X12_ring_76 {d : Nat} {S : zS} {I : zI} {J : zJ} {Q : zQ} {h0 : Nat} {x1 : Int32} {x2 : Int32} {x3 : Int32} {x4 : Int32} (kk : Go d i_X12_ring 19 [.ref h0, .int x1, .int x2, .int (x3 + (1 : Int32)), .int x4] [] S I J Q) : Go d i_X12_ring 76 [.ref h0, .int x1, .int x2, .int x3, .int x4] [] S I J Q := by
  have h := kk
  exact Go.n tb_X12_ring 2 h
theorem b_X12_ring_82 {d : Nat} {S : zS} {I : zI} {J : zJ} {Q : zQ} {h0 : Nat} {x1 : Int32} {x2 : Int32} {x3 : Int32} {v4 : Value} (kk : Q (some (.int x2)) S I J) : Go d i_X12_ring 82 [.ref h0, .int x1, .int x2, .int x3, v4] [] S I J Q := by
  have h := (And.intro trivial kk)
  exact Go.n tb_X12_ring 2 h
theorem w_X12_parts {d : Nat} {S : zS} {I : zI} {J : zJ} {Q : zQ} {h0 : Nat} {x1 : Int32} (h : Go d i_X12_parts 0 [.ref h0, .int x1] [] S I J Q) : z_wp (d + 1) i_X12_parts [.ref h0, .int x1] S I J Q := Go.wp (Nat.le_of_ble_eq_true rfl) h
theorem e_X12_parts {d : Nat} {S S2 : zS} {I I2 : zI} {J J2 : zJ} {r : Option Value} {h0 : Nat} {x1 : Int32} (h : Go d i_X12_parts 0 [.ref h0, .int x1] [] S I J (z_eq r S2 I2 J2)) : z_ev (d + 1) i_X12_parts [.ref h0, .int x1] S I J r S2 I2 J2 := Go.ev (Nat.le_of_ble_eq_true rfl) h
theorem b_X12_parts_0 {d : Nat} {S : zS} {I : zI} {J : zJ} {Q : zQ} {h0 : Nat} {x1 : Int32} (g1 : z_kd S h0 = 13) (kk : z_wp d i_X12_isSlot [.int x1] S (z_u2 I h0 1 (0 : Int32)) J (fun vv SS II JJ => Go d i_X12_parts 9 [.ref h0, .int x1] (vv.toList ++ []) SS II JJ Q)) : Go d i_X12_parts 0 [.ref h0, .int x1] [] S I J Q := by
  have h := (And.intro g1 (And.intro trivial kk))
  exact Go.n tb_X12_parts 5 h
theorem b_X12_parts_9 {d : Nat} {S : zS} {I : zI} {J : zJ} {Q : zQ} {h0 : Nat} {x1 : Int32} {y0 : Int32} (kt : y0 = (0 : Int32) → Go d i_X12_parts 34 [.ref h0, .int x1] [] S I J Q) (kf : ¬ y0 = (0 : Int32) → Go d i_X12_parts 12 [.ref h0, .int x1] [] S I J Q) : Go d i_X12_parts 9 [.ref h0, .int x1] [.int y0] S I J Q := by
  have h := (Go.ite kt kf)
  exact Go.n tb_X12_parts 1 h
theorem b_X12_parts_12 {d : Nat} {S : zS} {I : zI} {J : zJ} {Q : zQ} {h0 : Nat} {x1 : Int32} (g1 : z_kd S h0 = 13) (kk : z_wp d i_X12_many [.ref h0, .int x1] S I J (fun vv SS II JJ => Go d i_X12_parts 17 [.ref h0, .int x1] (vv.toList ++ []) SS II JJ Q)) : Go d i_X12_parts 12 [.ref h0, .int x1] [] S I J Q := by
  have h := (And.intro g1 kk)
  exact Go.n tb_X12_parts 3 h
theorem b_X12_parts_17 {d : Nat} {S : zS} {I : zI} {J : zJ} {Q : zQ} {h0 : Nat} {x1 : Int32} {y0 : Int32} (g1 : z_kd S h0 = 13) (kk : z_wp d i_X12_steps [.ref h0, .int x1] S I J (fun vv SS II JJ => Go d i_X12_parts 24 [.ref h0, .int x1] (vv.toList ++ [.int x1, .ref h0, .int y0]) SS II JJ Q)) : Go d i_X12_parts 17 [.ref h0, .int x1] [.int y0] S I J Q := by
  have h := (And.intro g1 kk)
  exact Go.n tb_X12_parts 5 h
theorem b_X12_parts_24 {d : Nat} {S : zS} {I : zI} {J : zJ} {Q : zQ} {h0 : Nat} {x1 : Int32} {y0 : Int32} {q1 : Nat} {y2 : Int32} {y3 : Int32} (g1 : z_kd S q1 = 13) (kk : z_wp d i_X12_subgroupOf [.ref q1, .int y2, .int y3] S I J (fun vv SS II JJ => Go d i_X12_parts 27 [.ref h0, .int x1] (vv.toList ++ [.int y0]) SS II JJ Q)) : Go d i_X12_parts 24 [.ref h0, .int x1] [.int y3, .int y2, .ref q1, .int y0] S I J Q := by
  have h := (And.intro g1 kk)
  exact Go.n tb_X12_parts 1 h
theorem b_X12_parts_27 {d : Nat} {S : zS} {I : zI} {J : zJ} {Q : zQ} {h0 : Nat} {x1 : Int32} {y0 : Int32} {y1 : Int32} (kk : z_wp d i_X12_bits [.int y1] S I J (fun vv SS II JJ => Go d i_X12_parts 30 [.ref h0, .int x1] (vv.toList ++ [.int y0]) SS II JJ Q)) : Go d i_X12_parts 27 [.ref h0, .int x1] [.int y1, .int y0] S I J Q := by
  have h := (And.intro trivial kk)
  exact Go.n tb_X12_parts 1 h
theorem b_X12_parts_30 {d : Nat} {S : zS} {I : zI} {J : zJ} {Q : zQ} {h0 : Nat} {x1 : Int32} {y0 : Int32} {y1 : Int32} (g1 : ¬ y1 = 0) (kk : Q (some (.int (y0 / y1))) S I J) : Go d i_X12_parts 30 [.ref h0, .int x1] [.int y1, .int y0] S I J Q := by
  have h := (And.intro g1 (And.intro trivial kk))
  exact Go.n tb_X12_parts 3 h
theorem b_X12_parts_34 {d : Nat} {S : zS} {I : zI} {J : zJ} {Q : zQ} {h0 : Nat} {x1 : Int32} (kk : Q (some (.int (-2 : Int32))) S I J) : Go d i_X12_parts 34 [.ref h0, .int x1] [] S I J Q := by
  have h := (And.intro trivial kk)
  exact Go.n tb_X12_parts 2 h
theorem w_X12_laysFars {d : Nat} {S : zS} {I : zI} {J : zJ} {Q : zQ} {h0 : Nat} {x1 : Int32} {x2 : Int32} {x3 : Int32} (h : Go d i_X12_laysFars 0 [.ref h0, .int x1, .int x2, .int x3, .retAddr 0, .retAddr 0] [] S I J Q) : z_wp (d + 1) i_X12_laysFars [.ref h0, .int x1, .int x2, .int x3] S I J Q := Go.wp (Nat.le_of_ble_eq_true rfl) h
theorem e_X12_laysFars {d : Nat} {S S2 : zS} {I I2 : zI} {J J2 : zJ} {r : Option Value} {h0 : Nat} {x1 : Int32} {x2 : Int32} {x3 : Int32} (h : Go d i_X12_laysFars 0 [.ref h0, .int x1, .int x2, .int x3, .retAddr 0, .retAddr 0] [] S I J (z_eq r S2 I2 J2)) : z_ev (d + 1) i_X12_laysFars [.ref h0, .int x1, .int x2, .int x3] S I J r S2 I2 J2 := Go.ev (Nat.le_of_ble_eq_true rfl) h
theorem b_X12_laysFars_0 {d : Nat} {S : zS} {I : zI} {J : zJ} {Q : zQ} {h0 : Nat} {x1 : Int32} {x2 : Int32} {x3 : Int32} {v4 : Value} {v5 : Value} (g1 : z_kd S h0 = 13) (kk : z_wp d i_X12_laysFar [.ref h0, .int x1, .int x2, .int x3] S I J (fun vv SS II JJ => Go d i_X12_laysFars 7 [.ref h0, .int x1, .int x2, .int x3, v4, v5] (vv.toList ++ []) SS II JJ Q)) : Go d i_X12_laysFars 0 [.ref h0, .int x1, .int x2, .int x3, v4, v5] [] S I J Q := by
  have h := (And.intro g1 kk)
  exact Go.n tb_X12_laysFars 5 h
theorem b_X12_laysFars_7 {d : Nat} {S : zS} {I : zI} {J : zJ} {Q : zQ} {h0 : Nat} {x1 : Int32} {x2 : Int32} {x3 : Int32} {v4 : Value} {v5 : Value} (kk : Go d i_X12_laysFars 10 [.ref h0, .int x1, .int x2, .int x3, .int (0 : Int32), v5] [] S I J Q) : Go d i_X12_laysFars 7 [.ref h0, .int x1, .int x2, .int x3, v4, v5] [] S I J Q := by
  have h := kk
  exact Go.n tb_X12_laysFars 2 h
theorem b_X12_laysFars_10 {d : Nat} {S : zS} {I : zI} {J : zJ} {Q : zQ} {h0 : Nat} {x1 : Int32} {x2 : Int32} {x3 : Int32} {x4 : Int32} {v5 : Value} (g1 : z_kd S h0 = 13) (kk : z_wp d i_X12_many [.ref h0, .int x1] S I J (fun vv SS II JJ => Go d i_X12_laysFars 17 [.ref h0, .int x1, .int x2, .int x3, .int x4, v5] (vv.toList ++ [.int x4]) SS II JJ Q)) : Go d i_X12_laysFars 10 [.ref h0, .int x1, .int x2, .int x3, .int x4, v5] [] S I J Q := by
  have h := (And.intro g1 kk)
  exact Go.n tb_X12_laysFars 4 h
theorem b_X12_laysFars_17 {d : Nat} {S : zS} {I : zI} {J : zJ} {Q : zQ} {h0 : Nat} {x1 : Int32} {x2 : Int32} {x3 : Int32} {x4 : Int32} {v5 : Value} {y0 : Int32} {y1 : Int32} (kt : y1 ≤ y0 → Go d i_X12_laysFars 74 [.ref h0, .int x1, .int x2, .int x3, .int x4, v5] [] S I J Q) (kf : ¬ y1 ≤ y0 → Go d i_X12_laysFars 20 [.ref h0, .int x1, .int x2, .int x3, .int x4, v5] [] S I J Q) : Go d i_X12_laysFars 17 [.ref h0, .int x1, .int x2, .int x3, .int x4, v5] [.int y1, .int y0] S I J Q := by
  have h := (Go.ite kt kf)
  exact Go.n tb_X12_laysFars 1 h
theorem b_X12_laysFars_20 {d : Nat} {S : zS} {I : zI} {J : zJ} {Q : zQ} {h0 : Nat} {x1 : Int32} {x2 : Int32} {x3 : Int32} {x4 : Int32} {v5 : Value} (kk : Go d i_X12_laysFars 23 [.ref h0, .int x1, .int x2, .int x3, .int x4, .int (0 : Int32)] [] S I J Q) : Go d i_X12_laysFars 20 [.ref h0, .int x1, .int x2, .int x3, .int x4, v5] [] S I J Q := by
  have h := kk
  exact Go.n tb_X12_laysFars 2 h
theorem b_X12_laysFars_23 {d : Nat} {S : zS} {I : zI} {J : zJ} {Q : zQ} {h0 : Nat} {x1 : Int32} {x2 : Int32} {x3 : Int32} {x4 : Int32} {x5 : Int32} (g1 : z_kd S h0 = 13) (kk : z_wp d i_X12_many [.ref h0, .int x1] S I J (fun vv SS II JJ => Go d i_X12_laysFars 30 [.ref h0, .int x1, .int x2, .int x3, .int x4, .int x5] (vv.toList ++ [.int x5]) SS II JJ Q)) : Go d i_X12_laysFars 23 [.ref h0, .int x1, .int x2, .int x3, .int x4, .int x5] [] S I J Q := by
  have h := (And.intro g1 kk)
  exact Go.n tb_X12_laysFars 4 h
theorem b_X12_laysFars_30 {d : Nat} {S : zS} {I : zI} {J : zJ} {Q : zQ} {h0 : Nat} {x1 : Int32} {x2 : Int32} {x3 : Int32} {x4 : Int32} {x5 : Int32} {y0 : Int32} {y1 : Int32} (kt : y1 ≤ y0 → Go d i_X12_laysFars 68 [.ref h0, .int x1, .int x2, .int x3, .int x4, .int x5] [] S I J Q) (kf : ¬ y1 ≤ y0 → Go d i_X12_laysFars 33 [.ref h0, .int x1, .int x2, .int x3, .int x4, .int x5] [] S I J Q) : Go d i_X12_laysFars 30 [.ref h0, .int x1, .int x2, .int x3, .int x4, .int x5] [.int y1, .int y0] S I J Q := by
  have h := (Go.ite kt kf)
  exact Go.n tb_X12_laysFars 1 h
theorem b_X12_laysFars_33 {d : Nat} {S : zS} {I : zI} {J : zJ} {Q : zQ} {h0 : Nat} {x1 : Int32} {x2 : Int32} {x3 : Int32} {x4 : Int32} {x5 : Int32} (g1 : z_kd S h0 = 13) (g2 : z_kd S h0 = 13) (kk : z_wp d i_X12_farOf [.ref h0, .int x1, .int x4, .int x5, .int x3] S I J (fun vv SS II JJ => Go d i_X12_laysFars 61 [.ref h0, .int x1, .int x2, .int x3, .int x4, .int x5] (vv.toList ++ [.int ((((400 : Int32) * x3) + ((20 : Int32) * x4)) + x5), .ref (z_rv S h0 32)]) SS II JJ Q)) : Go d i_X12_laysFars 33 [.ref h0, .int x1, .int x2, .int x3, .int x4, .int x5] [] S I J Q := by
  have h := (And.intro g1 (And.intro g2 kk))
  exact Go.n tb_X12_laysFars 17 h
theorem b_X12_laysFars_61 {d : Nat} {S : zS} {I : zI} {J : zJ} {Q : zQ} {h0 : Nat} {x1 : Int32} {x2 : Int32} {x3 : Int32} {x4 : Int32} {x5 : Int32} {q0 : Nat} {y1 : Int32} {y2 : Int32} (g1 : z_kd S q0 = 100 ∧ vp_in y1 (z_ln S q0)) (kk : Go d i_X12_laysFars 23 [.ref h0, .int x1, .int x2, .int x3, .int x4, .int (x5 + (1 : Int32))] [] S (z_u2 I q0 (Int32.toNatClampNeg y1) y2) J Q) : Go d i_X12_laysFars 61 [.ref h0, .int x1, .int x2, .int x3, .int x4, .int x5] [.int y2, .int y1, .ref q0] S I J Q := by
  have h := (And.intro g1 kk)
  exact Go.n tb_X12_laysFars 3 h
theorem b_X12_laysFars_68 {d : Nat} {S : zS} {I : zI} {J : zJ} {Q : zQ} {h0 : Nat} {x1 : Int32} {x2 : Int32} {x3 : Int32} {x4 : Int32} {x5 : Int32} (kk : Go d i_X12_laysFars 10 [.ref h0, .int x1, .int x2, .int x3, .int (x4 + (1 : Int32)), .int x5] [] S I J Q) : Go d i_X12_laysFars 68 [.ref h0, .int x1, .int x2, .int x3, .int x4, .int x5] [] S I J Q := by
  have h := kk
  exact Go.n tb_X12_laysFars 2 h
theorem b_X12_laysFars_74 {d : Nat} {S : zS} {I : zI} {J : zJ} {Q : zQ} {h0 : Nat} {x1 : Int32} {x2 : Int32} {x3 : Int32} {x4 : Int32} {v5 : Value} (kk : Q none S I J) : Go d i_X12_laysFars 74 [.ref h0, .int x1, .int x2, .int x3, .int x4, v5] [] S I J Q := by
  have h := (And.intro trivial kk)
  exact Go.n tb_X12_laysFars 1 h
theorem w_X12_mayLead {d : Nat} {S : zS} {I : zI} {J : zJ} {Q : zQ} {h0 : Nat} {x1 : Int32} {x2 : Int32} (h : Go d i_X12_mayLead 0 [.ref h0, .int x1, .int x2, .retAddr 0] [] S I J Q) : z_wp (d + 1) i_X12_mayLead [.ref h0, .int x1, .int x2] S I J Q := Go.wp (Nat.le_of_ble_eq_true rfl) h
theorem e_X12_mayLead {d : Nat} {S S2 : zS} {I I2 : zI} {J J2 : zJ} {r : Option Value} {h0 : Nat} {x1 : Int32} {x2 : Int32} (h : Go d i_X12_mayLead 0 [.ref h0, .int x1, .int x2, .retAddr 0] [] S I J (z_eq r S2 I2 J2)) : z_ev (d + 1) i_X12_mayLead [.ref h0, .int x1, .int x2] S I J r S2 I2 J2 := Go.ev (Nat.le_of_ble_eq_true rfl) h
theorem b_X12_mayLead_0 {d : Nat} {S : zS} {I : zI} {J : zJ} {Q : zQ} {h0 : Nat} {x1 : Int32} {x2 : Int32} {v3 : Value} (kk : Go d i_X12_mayLead 2 [.ref h0, .int x1, .int x2, .int (0 : Int32)] [] S I J Q) : Go d i_X12_mayLead 0 [.ref h0, .int x1, .int x2, v3] [] S I J Q := by
  have h := kk
  exact Go.n tb_X12_mayLead 2 h
theorem b_X12_mayLead_2 {d : Nat} {S : zS} {I : zI} {J : zJ} {Q : zQ} {h0 : Nat} {x1 : Int32} {x2 : Int32} {x3 : Int32} (kt : x1 ≤ x3 → Go d i_X12_mayLead 83 [.ref h0, .int x1, .int x2, .int x3] [] S I J Q) (kf : ¬ x1 ≤ x3 → Go d i_X12_mayLead 7 [.ref h0, .int x1, .int x2, .int x3] [] S I J Q) : Go d i_X12_mayLead 2 [.ref h0, .int x1, .int x2, .int x3] [] S I J Q := by
  have h := (Go.ite kt kf)
  exact Go.n tb_X12_mayLead 3 h
theorem b_X12_mayLead_7 {d : Nat} {S : zS} {I : zI} {J : zJ} {Q : zQ} {h0 : Nat} {x1 : Int32} {x2 : Int32} {x3 : Int32} (g1 : z_kd S h0 = 13) (g2 : z_isI (z_kd S (z_rv S h0 32)) = true ∧ vp_in (((20 : Int32) * x3) + x1) (z_ln S (z_rv S h0 32))) (g3 : z_kd S h0 = 13) (g4 : z_kd S h0 = 13) (g5 : z_isI (z_kd S (z_rv S h0 31)) = true ∧ vp_in x3 (z_ln S (z_rv S h0 31))) (g6 : z_isI (z_kd S (z_rv S h0 32)) = true ∧ vp_in (((400 : Int32) + ((20 : Int32) * (I (z_rv S h0 31) (Int32.toNatClampNeg x3)))) + x2) (z_ln S (z_rv S h0 32))) (kt : ¬ (I (z_rv S h0 32) (Int32.toNatClampNeg (((20 : Int32) * x3) + x1))) = (I (z_rv S h0 32) (Int32.toNatClampNeg (((400 : Int32) + ((20 : Int32) * (I (z_rv S h0 31) (Int32.toNatClampNeg x3)))) + x2))) → Go d i_X12_mayLead 75 [.ref h0, .int x1, .int x2, .int x3] [] S I J Q) (kf : (I (z_rv S h0 32) (Int32.toNatClampNeg (((20 : Int32) * x3) + x1))) = (I (z_rv S h0 32) (Int32.toNatClampNeg (((400 : Int32) + ((20 : Int32) * (I (z_rv S h0 31) (Int32.toNatClampNeg x3)))) + x2))) → Go d i_X12_mayLead 41 [.ref h0, .int x1, .int x2, .int x3] [] S I J Q) : Go d i_X12_mayLead 7 [.ref h0, .int x1, .int x2, .int x3] [] S I J Q := by
  have h := (And.intro g1 (And.intro g2 (And.intro g3 (And.intro g4 (And.intro g5 (And.intro g6 (Go.eti kt kf)))))))
  exact Go.n tb_X12_mayLead 22 h
theorem b_X12_mayLead_41 {d : Nat} {S : zS} {I : zI} {J : zJ} {Q : zQ} {h0 : Nat} {x1 : Int32} {x2 : Int32} {x3 : Int32} (g1 : z_kd S h0 = 13) (g2 : z_isI (z_kd S (z_rv S h0 32)) = true ∧ vp_in (((20 : Int32) * x1) + x3) (z_ln S (z_rv S h0 32))) (g3 : z_kd S h0 = 13) (g4 : z_kd S h0 = 13) (g5 : z_isI (z_kd S (z_rv S h0 31)) = true ∧ vp_in x3 (z_ln S (z_rv S h0 31))) (g6 : z_isI (z_kd S (z_rv S h0 32)) = true ∧ vp_in (((400 : Int32) + ((20 : Int32) * x2)) + (I (z_rv S h0 31) (Int32.toNatClampNeg x3))) (z_ln S (z_rv S h0 32))) (kt : (I (z_rv S h0 32) (Int32.toNatClampNeg (((20 : Int32) * x1) + x3))) = (I (z_rv S h0 32) (Int32.toNatClampNeg (((400 : Int32) + ((20 : Int32) * x2)) + (I (z_rv S h0 31) (Int32.toNatClampNeg x3))))) → Go d i_X12_mayLead 77 [.ref h0, .int x1, .int x2, .int x3] [] S I J Q) (kf : ¬ (I (z_rv S h0 32) (Int32.toNatClampNeg (((20 : Int32) * x1) + x3))) = (I (z_rv S h0 32) (Int32.toNatClampNeg (((400 : Int32) + ((20 : Int32) * x2)) + (I (z_rv S h0 31) (Int32.toNatClampNeg x3))))) → Go d i_X12_mayLead 75 [.ref h0, .int x1, .int x2, .int x3] [] S I J Q) : Go d i_X12_mayLead 41 [.ref h0, .int x1, .int x2, .int x3] [] S I J Q := by
  have h := (And.intro g1 (And.intro g2 (And.intro g3 (And.intro g4 (And.intro g5 (And.intro g6 (Go.ite kt kf)))))))
  exact Go.n tb_X12_mayLead 22 h
theorem b_X12_mayLead_75 {d : Nat} {S : zS} {I : zI} {J : zJ} {Q : zQ} {h0 : Nat} {x1 : Int32} {x2 : Int32} {x3 : Int32} (g1 : z_fit 3 (0 : Int32)) (kk : Q (some (.int (0 : Int32))) S I J) : Go d i_X12_mayLead 75 [.ref h0, .int x1, .int x2, .int x3] [] S I J Q := by
  have h := (And.intro g1 kk)
  exact Go.n tb_X12_mayLead 2 h
theorem b_X12_mayLead_77 {d : Nat} {S : zS} {I : zI} {J : zJ} {Q : zQ} {h0 : Nat} {x1 : Int32} {x2 : Int32} {x3 : Int32} (kk : Go d i_X12_mayLead 2 [.ref h0, .int x1, .int x2, .int (x3 + (1 : Int32))] [] S I J Q) : Go d i_X12_mayLead 77 [.ref h0, .int x1, .int x2, .int x3] [] S I J Q := by
  have h := kk
  exact Go.n tb_X12_mayLead 2 h
theorem b_X12_mayLead_83 {d : Nat} {S : zS} {I : zI} {J : zJ} {Q : zQ} {h0 : Nat} {x1 : Int32} {x2 : Int32} {x3 : Int32} (g1 : z_fit 3 (1 : Int32)) (kk : Q (some (.int (1 : Int32))) S I J) : Go d i_X12_mayLead 83 [.ref h0, .int x1, .int x2, .int x3] [] S I J Q := by
  have h := (And.intro g1 kk)
  exact Go.n tb_X12_mayLead 2 h
theorem w_X12_goesOn {d : Nat} {S : zS} {I : zI} {J : zJ} {Q : zQ} {h0 : Nat} {x1 : Int32} {x2 : Int32} (h : Go d i_X12_goesOn 0 [.ref h0, .int x1, .int x2, .retAddr 0] [] S I J Q) : z_wp (d + 1) i_X12_goesOn [.ref h0, .int x1, .int x2] S I J Q := Go.wp (Nat.le_of_ble_eq_true rfl) h
theorem e_X12_goesOn {d : Nat} {S S2 : zS} {I I2 : zI} {J J2 : zJ} {r : Option Value} {h0 : Nat} {x1 : Int32} {x2 : Int32} (h : Go d i_X12_goesOn 0 [.ref h0, .int x1, .int x2, .retAddr 0] [] S I J (z_eq r S2 I2 J2)) : z_ev (d + 1) i_X12_goesOn [.ref h0, .int x1, .int x2] S I J r S2 I2 J2 := Go.ev (Nat.le_of_ble_eq_true rfl) h
theorem b_X12_goesOn_0 {d : Nat} {S : zS} {I : zI} {J : zJ} {Q : zQ} {h0 : Nat} {x1 : Int32} {x2 : Int32} {v3 : Value} (kt : ¬ x1 = x2 → Go d i_X12_goesOn 7 [.ref h0, .int x1, .int x2, v3] [] S I J Q) (kf : x1 = x2 → Go d i_X12_goesOn 5 [.ref h0, .int x1, .int x2, v3] [] S I J Q) : Go d i_X12_goesOn 0 [.ref h0, .int x1, .int x2, v3] [] S I J Q := by
  have h := (Go.eti kt kf)
  exact Go.n tb_X12_goesOn 3 h
theorem b_X12_goesOn_5 {d : Nat} {S : zS} {I : zI} {J : zJ} {Q : zQ} {h0 : Nat} {x1 : Int32} {x2 : Int32} {v3 : Value} (g1 : z_fit 3 (1 : Int32)) (kk : Q (some (.int (1 : Int32))) S I J) : Go d i_X12_goesOn 5 [.ref h0, .int x1, .int x2, v3] [] S I J Q := by
  have h := (And.intro g1 kk)
  exact Go.n tb_X12_goesOn 2 h
theorem b_X12_goesOn_7 {d : Nat} {S : zS} {I : zI} {J : zJ} {Q : zQ} {h0 : Nat} {x1 : Int32} {x2 : Int32} {v3 : Value} (kk : Go d i_X12_goesOn 9 [.ref h0, .int x1, .int x2, .int (0 : Int32)] [] S I J Q) : Go d i_X12_goesOn 7 [.ref h0, .int x1, .int x2, v3] [] S I J Q := by
  have h := kk
  exact Go.n tb_X12_goesOn 2 h
theorem b_X12_goesOn_9 {d : Nat} {S : zS} {I : zI} {J : zJ} {Q : zQ} {h0 : Nat} {x1 : Int32} {x2 : Int32} {x3 : Int32} (kt : x2 ≤ x3 → Go d i_X12_goesOn 89 [.ref h0, .int x1, .int x2, .int x3] [] S I J Q) (kf : ¬ x2 ≤ x3 → Go d i_X12_goesOn 14 [.ref h0, .int x1, .int x2, .int x3] [] S I J Q) : Go d i_X12_goesOn 9 [.ref h0, .int x1, .int x2, .int x3] [] S I J Q := by
  have h := (Go.ite kt kf)
  exact Go.n tb_X12_goesOn 3 h
theorem b_X12_goesOn_14 {d : Nat} {S : zS} {I : zI} {J : zJ} {Q : zQ} {h0 : Nat} {x1 : Int32} {x2 : Int32} {x3 : Int32} (g1 : z_kd S h0 = 13) (kk : z_wp d i_X12_has [.int (I h0 33), .int x3] S I J (fun vv SS II JJ => Go d i_X12_goesOn 22 [.ref h0, .int x1, .int x2, .int x3] (vv.toList ++ []) SS II JJ Q)) : Go d i_X12_goesOn 14 [.ref h0, .int x1, .int x2, .int x3] [] S I J Q := by
  have h := (And.intro g1 (And.intro trivial kk))
  exact Go.n tb_X12_goesOn 4 h
theorem b_X12_goesOn_22 {d : Nat} {S : zS} {I : zI} {J : zJ} {Q : zQ} {h0 : Nat} {x1 : Int32} {x2 : Int32} {x3 : Int32} {y0 : Int32} (kt : ¬ y0 = (0 : Int32) → Go d i_X12_goesOn 83 [.ref h0, .int x1, .int x2, .int x3] [] S I J Q) (kf : y0 = (0 : Int32) → Go d i_X12_goesOn 25 [.ref h0, .int x1, .int x2, .int x3] [] S I J Q) : Go d i_X12_goesOn 22 [.ref h0, .int x1, .int x2, .int x3] [.int y0] S I J Q := by
  have h := (Go.eti kt kf)
  exact Go.n tb_X12_goesOn 1 h
theorem b_X12_goesOn_25 {d : Nat} {S : zS} {I : zI} {J : zJ} {Q : zQ} {h0 : Nat} {x1 : Int32} {x2 : Int32} {x3 : Int32} (g1 : z_kd S h0 = 13) (kk : z_wp d i_X12_mayLead [.ref h0, .int x1, .int x3] S I J (fun vv SS II JJ => Go d i_X12_goesOn 31 [.ref h0, .int x1, .int x2, .int x3] (vv.toList ++ []) SS II JJ Q)) : Go d i_X12_goesOn 25 [.ref h0, .int x1, .int x2, .int x3] [] S I J Q := by
  have h := (And.intro g1 kk)
  exact Go.n tb_X12_goesOn 4 h
theorem b_X12_goesOn_31 {d : Nat} {S : zS} {I : zI} {J : zJ} {Q : zQ} {h0 : Nat} {x1 : Int32} {x2 : Int32} {x3 : Int32} {y0 : Int32} (kt : ¬ y0 = (0 : Int32) → Go d i_X12_goesOn 37 [.ref h0, .int x1, .int x2, .int x3] [] S I J Q) (kf : y0 = (0 : Int32) → Go d i_X12_goesOn 34 [.ref h0, .int x1, .int x2, .int x3] [] S I J Q) : Go d i_X12_goesOn 31 [.ref h0, .int x1, .int x2, .int x3] [.int y0] S I J Q := by
  have h := (Go.eti kt kf)
  exact Go.n tb_X12_goesOn 1 h
theorem b_X12_goesOn_34 {d : Nat} {S : zS} {I : zI} {J : zJ} {Q : zQ} {h0 : Nat} {x1 : Int32} {x2 : Int32} {x3 : Int32} (kk : Go d i_X12_goesOn 9 [.ref h0, .int x1, .int x2, .int (x3 + (1 : Int32))] [] S I J Q) : Go d i_X12_goesOn 34 [.ref h0, .int x1, .int x2, .int x3] [] S I J Q := by
  have h := kk
  exact Go.n tb_X12_goesOn 3 h
theorem b_X12_goesOn_37 {d : Nat} {S : zS} {I : zI} {J : zJ} {Q : zQ} {h0 : Nat} {x1 : Int32} {x2 : Int32} {x3 : Int32} {I1 : zI} (g1 : z_kd S h0 = 13) (g2 : z_kd S (z_rv S h0 31) = 100 ∧ vp_in x1 (z_ln S (z_rv S h0 31))) (g3 : z_kd S h0 = 13) (g4 : z_kd S h0 = 13) (eI1 : I1 = z_u2 (z_u2 I (z_rv S h0 31) (Int32.toNatClampNeg x1) x3) h0 33 (((z_u2 I (z_rv S h0 31) (Int32.toNatClampNeg x1) x3) h0 33) ||| ((1 : Int32) <<< (x3 &&& 31)))) (g6 : z_kd S h0 = 13) (kk : z_wp d i_X12_goesOn [.ref h0, .int (x1 + (1 : Int32)), .int x2] S I1 J (fun vv SS II JJ => Go d i_X12_goesOn 64 [.ref h0, .int x1, .int x2, .int x3] (vv.toList ++ []) SS II JJ Q)) : Go d i_X12_goesOn 37 [.ref h0, .int x1, .int x2, .int x3] [] S I J Q := by
  subst eI1
  have h := (And.intro g1 (And.intro g2 (And.intro g3 (And.intro g4 (And.intro g6 kk)))))
  exact Go.n tb_X12_goesOn 19 h
theorem b_X12_goesOn_64 {d : Nat} {S : zS} {I : zI} {J : zJ} {Q : zQ} {h0 : Nat} {x1 : Int32} {x2 : Int32} {x3 : Int32} {y0 : Int32} (kt : y0 = (0 : Int32) → Go d i_X12_goesOn 69 [.ref h0, .int x1, .int x2, .int x3] [] S I J Q) (kf : ¬ y0 = (0 : Int32) → Go d i_X12_goesOn 67 [.ref h0, .int x1, .int x2, .int x3] [] S I J Q) : Go d i_X12_goesOn 64 [.ref h0, .int x1, .int x2, .int x3] [.int y0] S I J Q := by
  have h := (Go.ite kt kf)
  exact Go.n tb_X12_goesOn 1 h
theorem b_X12_goesOn_67 {d : Nat} {S : zS} {I : zI} {J : zJ} {Q : zQ} {h0 : Nat} {x1 : Int32} {x2 : Int32} {x3 : Int32} (g1 : z_fit 3 (1 : Int32)) (kk : Q (some (.int (1 : Int32))) S I J) : Go d i_X12_goesOn 67 [.ref h0, .int x1, .int x2, .int x3] [] S I J Q := by
  have h := (And.intro g1 kk)
  exact Go.n tb_X12_goesOn 2 h
theorem b_X12_goesOn_69 {d : Nat} {S : zS} {I : zI} {J : zJ} {Q : zQ} {h0 : Nat} {x1 : Int32} {x2 : Int32} {x3 : Int32} (g1 : z_kd S h0 = 13) (g2 : z_kd S h0 = 13) (kk : Go d i_X12_goesOn 9 [.ref h0, .int x1, .int x2, .int (x3 + (1 : Int32))] [] S (z_u2 I h0 33 ((I h0 33) &&& (((1 : Int32) <<< (x3 &&& 31)) ^^^ (-1 : Int32)))) J Q) : Go d i_X12_goesOn 69 [.ref h0, .int x1, .int x2, .int x3] [] S I J Q := by
  have h := (And.intro g1 (And.intro g2 kk))
  exact Go.n tb_X12_goesOn 12 h
theorem b_X12_goesOn_83 {d : Nat} {S : zS} {I : zI} {J : zJ} {Q : zQ} {h0 : Nat} {x1 : Int32} {x2 : Int32} {x3 : Int32} (kk : Go d i_X12_goesOn 9 [.ref h0, .int x1, .int x2, .int (x3 + (1 : Int32))] [] S I J Q) : Go d i_X12_goesOn 83 [.ref h0, .int x1, .int x2, .int x3] [] S I J Q := by
  have h := kk
  exact Go.n tb_X12_goesOn 2 h
theorem b_X12_goesOn_89 {d : Nat} {S : zS} {I : zI} {J : zJ} {Q : zQ} {h0 : Nat} {x1 : Int32} {x2 : Int32} {x3 : Int32} (g1 : z_fit 3 (0 : Int32)) (kk : Q (some (.int (0 : Int32))) S I J) : Go d i_X12_goesOn 89 [.ref h0, .int x1, .int x2, .int x3] [] S I J Q := by
  have h := (And.intro g1 kk)
  exact Go.n tb_X12_goesOn 2 h
theorem w_X12_canLead {d : Nat} {S : zS} {I : zI} {J : zJ} {Q : zQ} {h0 : Nat} {x1 : Int32} {x2 : Int32} {x3 : Int32} (h : Go d i_X12_canLead 0 [.ref h0, .int x1, .int x2, .int x3, .retAddr 0] [] S I J Q) : z_wp (d + 1) i_X12_canLead [.ref h0, .int x1, .int x2, .int x3] S I J Q := Go.wp (Nat.le_of_ble_eq_true rfl) h
theorem e_X12_canLead {d : Nat} {S S2 : zS} {I I2 : zI} {J J2 : zJ} {r : Option Value} {h0 : Nat} {x1 : Int32} {x2 : Int32} {x3 : Int32} (h : Go d i_X12_canLead 0 [.ref h0, .int x1, .int x2, .int x3, .retAddr 0] [] S I J (z_eq r S2 I2 J2)) : z_ev (d + 1) i_X12_canLead [.ref h0, .int x1, .int x2, .int x3] S I J r S2 I2 J2 := Go.ev (Nat.le_of_ble_eq_true rfl) h
theorem b_X12_canLead_0 {d : Nat} {S : zS} {I : zI} {J : zJ} {Q : zQ} {h0 : Nat} {x1 : Int32} {x2 : Int32} {x3 : Int32} {v4 : Value} (g1 : z_kd S h0 = 13) (kk : Go d i_X12_canLead 12 [.ref h0, .int x1, .int x2, .int x3, .int (0 : Int32)] [] S (z_u2 I h0 33 (((1 : Int32) <<< (x1 &&& 31)) - (1 : Int32))) J Q) : Go d i_X12_canLead 0 [.ref h0, .int x1, .int x2, .int x3, v4] [] S I J Q := by
  have h := (And.intro g1 kk)
  exact Go.n tb_X12_canLead 9 h
theorem b_X12_canLead_12 {d : Nat} {S : zS} {I : zI} {J : zJ} {Q : zQ} {h0 : Nat} {x1 : Int32} {x2 : Int32} {x3 : Int32} {x4 : Int32} (kt : x1 ≤ x4 → Go d i_X12_canLead 33 [.ref h0, .int x1, .int x2, .int x3, .int x4] [] S I J Q) (kf : ¬ x1 ≤ x4 → Go d i_X12_canLead 18 [.ref h0, .int x1, .int x2, .int x3, .int x4] [] S I J Q) : Go d i_X12_canLead 12 [.ref h0, .int x1, .int x2, .int x3, .int x4] [] S I J Q := by
  have h := (Go.ite kt kf)
  exact Go.n tb_X12_canLead 3 h
theorem b_X12_canLead_18 {d : Nat} {S : zS} {I : zI} {J : zJ} {Q : zQ} {h0 : Nat} {x1 : Int32} {x2 : Int32} {x3 : Int32} {x4 : Int32} (g1 : z_kd S h0 = 13) (g2 : z_kd S (z_rv S h0 31) = 100 ∧ vp_in x4 (z_ln S (z_rv S h0 31))) (kk : Go d i_X12_canLead 12 [.ref h0, .int x1, .int x2, .int x3, .int (x4 + (1 : Int32))] [] S (z_u2 I (z_rv S h0 31) (Int32.toNatClampNeg x4) x4) J Q) : Go d i_X12_canLead 18 [.ref h0, .int x1, .int x2, .int x3, .int x4] [] S I J Q := by
  have h := (And.intro g1 (And.intro g2 kk))
  exact Go.n tb_X12_canLead 7 h
theorem b_X12_canLead_33 {d : Nat} {S : zS} {I : zI} {J : zJ} {Q : zQ} {h0 : Nat} {x1 : Int32} {x2 : Int32} {x3 : Int32} {x4 : Int32} (g1 : z_kd S h0 = 13) (kk : z_wp d i_X12_has [.int (I h0 33), .int x2] S I J (fun vv SS II JJ => Go d i_X12_canLead 41 [.ref h0, .int x1, .int x2, .int x3, .int x4] (vv.toList ++ []) SS II JJ Q)) : Go d i_X12_canLead 33 [.ref h0, .int x1, .int x2, .int x3, .int x4] [] S I J Q := by
  have h := (And.intro g1 (And.intro trivial kk))
  exact Go.n tb_X12_canLead 4 h
theorem b_X12_canLead_41 {d : Nat} {S : zS} {I : zI} {J : zJ} {Q : zQ} {h0 : Nat} {x1 : Int32} {x2 : Int32} {x3 : Int32} {x4 : Int32} {y0 : Int32} (kt : ¬ y0 = (0 : Int32) → Go d i_X12_canLead 53 [.ref h0, .int x1, .int x2, .int x3, .int x4] [] S I J Q) (kf : y0 = (0 : Int32) → Go d i_X12_canLead 44 [.ref h0, .int x1, .int x2, .int x3, .int x4] [] S I J Q) : Go d i_X12_canLead 41 [.ref h0, .int x1, .int x2, .int x3, .int x4] [.int y0] S I J Q := by
  have h := (Go.eti kt kf)
  exact Go.n tb_X12_canLead 1 h
theorem b_X12_canLead_44 {d : Nat} {S : zS} {I : zI} {J : zJ} {Q : zQ} {h0 : Nat} {x1 : Int32} {x2 : Int32} {x3 : Int32} {x4 : Int32} (g1 : z_kd S h0 = 13) (kk : z_wp d i_X12_mayLead [.ref h0, .int x1, .int x2] S I J (fun vv SS II JJ => Go d i_X12_canLead 50 [.ref h0, .int x1, .int x2, .int x3, .int x4] (vv.toList ++ []) SS II JJ Q)) : Go d i_X12_canLead 44 [.ref h0, .int x1, .int x2, .int x3, .int x4] [] S I J Q := by
  have h := (And.intro g1 kk)
  exact Go.n tb_X12_canLead 4 h
theorem b_X12_canLead_50 {d : Nat} {S : zS} {I : zI} {J : zJ} {Q : zQ} {h0 : Nat} {x1 : Int32} {x2 : Int32} {x3 : Int32} {x4 : Int32} {y0 : Int32} (kt : ¬ y0 = (0 : Int32) → Go d i_X12_canLead 55 [.ref h0, .int x1, .int x2, .int x3, .int x4] [] S I J Q) (kf : y0 = (0 : Int32) → Go d i_X12_canLead 53 [.ref h0, .int x1, .int x2, .int x3, .int x4] [] S I J Q) : Go d i_X12_canLead 50 [.ref h0, .int x1, .int x2, .int x3, .int x4] [.int y0] S I J Q := by
  have h := (Go.eti kt kf)
  exact Go.n tb_X12_canLead 1 h
theorem b_X12_canLead_53 {d : Nat} {S : zS} {I : zI} {J : zJ} {Q : zQ} {h0 : Nat} {x1 : Int32} {x2 : Int32} {x3 : Int32} {x4 : Int32} (g1 : z_fit 3 (0 : Int32)) (kk : Q (some (.int (0 : Int32))) S I J) : Go d i_X12_canLead 53 [.ref h0, .int x1, .int x2, .int x3, .int x4] [] S I J Q := by
  have h := (And.intro g1 kk)
  exact Go.n tb_X12_canLead 2 h
theorem b_X12_canLead_55 {d : Nat} {S : zS} {I : zI} {J : zJ} {Q : zQ} {h0 : Nat} {x1 : Int32} {x2 : Int32} {x3 : Int32} {x4 : Int32} {I1 : zI} (g1 : z_kd S h0 = 13) (g2 : z_kd S (z_rv S h0 31) = 100 ∧ vp_in x1 (z_ln S (z_rv S h0 31))) (g3 : z_kd S h0 = 13) (g4 : z_kd S h0 = 13) (eI1 : I1 = z_u2 (z_u2 I (z_rv S h0 31) (Int32.toNatClampNeg x1) x2) h0 33 (((z_u2 I (z_rv S h0 31) (Int32.toNatClampNeg x1) x2) h0 33) ||| ((1 : Int32) <<< (x2 &&& 31)))) (g6 : z_kd S h0 = 13) (kk : z_wp d i_X12_goesOn [.ref h0, .int (x1 + (1 : Int32)), .int x3] S I1 J (fun vv SS II JJ => Go d i_X12_canLead 82 [.ref h0, .int x1, .int x2, .int x3, .int x4] (vv.toList ++ []) SS II JJ Q)) : Go d i_X12_canLead 55 [.ref h0, .int x1, .int x2, .int x3, .int x4] [] S I J Q := by
  subst eI1
  have h := (And.intro g1 (And.intro g2 (And.intro g3 (And.intro g4 (And.intro g6 kk)))))
  exact Go.n tb_X12_canLead 19 h
theorem b_X12_canLead_82 {d : Nat} {S : zS} {I : zI} {J : zJ} {Q : zQ} {h0 : Nat} {x1 : Int32} {x2 : Int32} {x3 : Int32} {x4 : Int32} {y0 : Int32} (g1 : z_fit 3 y0) (kk : Q (some (.int y0)) S I J) : Go d i_X12_canLead 82 [.ref h0, .int x1, .int x2, .int x3, .int x4] [.int y0] S I J Q := by
  have h := (And.intro g1 kk)
  exact Go.n tb_X12_canLead 1 h
theorem w_X12_laysSame {d : Nat} {S : zS} {I : zI} {J : zJ} {Q : zQ} {h0 : Nat} {x1 : Int32} (h : Go d i_X12_laysSame 0 [.ref h0, .int x1] [] S I J Q) : z_wp (d + 1) i_X12_laysSame [.ref h0, .int x1] S I J Q := Go.wp (Nat.le_of_ble_eq_true rfl) h
theorem e_X12_laysSame {d : Nat} {S S2 : zS} {I I2 : zI} {J J2 : zJ} {r : Option Value} {h0 : Nat} {x1 : Int32} (h : Go d i_X12_laysSame 0 [.ref h0, .int x1] [] S I J (z_eq r S2 I2 J2)) : z_ev (d + 1) i_X12_laysSame [.ref h0, .int x1] S I J r S2 I2 J2 := Go.ev (Nat.le_of_ble_eq_true rfl) h
theorem b_X12_laysSame_0 {d : Nat} {S : zS} {I : zI} {J : zJ} {Q : zQ} {h0 : Nat} {x1 : Int32} (g1 : z_kd S h0 = 13) (kk : z_wp d i_X12_steps [.ref h0, .int x1] S I J (fun vv SS II JJ => Go d i_X12_laysSame 7 [.ref h0, .int x1] (vv.toList ++ [.int x1, .ref h0]) SS II JJ Q)) : Go d i_X12_laysSame 0 [.ref h0, .int x1] [] S I J Q := by
  have h := (And.intro g1 kk)
  exact Go.n tb_X12_laysSame 5 h
theorem b_X12_laysSame_7 {d : Nat} {S : zS} {I : zI} {J : zJ} {Q : zQ} {h0 : Nat} {x1 : Int32} {q0 : Nat} {y1 : Int32} {y2 : Int32} (g1 : z_kd S q0 = 13) (kk : z_wp d i_X12_laysFars [.ref q0, .int y1, .int y2, .int (0 : Int32)] S I J (fun vv SS II JJ => Go d i_X12_laysSame 11 [.ref h0, .int x1] (vv.toList ++ []) SS II JJ Q)) : Go d i_X12_laysSame 7 [.ref h0, .int x1] [.int y2, .int y1, .ref q0] S I J Q := by
  have h := (And.intro g1 kk)
  exact Go.n tb_X12_laysSame 2 h
theorem b_X12_laysSame_11 {d : Nat} {S : zS} {I : zI} {J : zJ} {Q : zQ} {h0 : Nat} {x1 : Int32} (g1 : z_kd S h0 = 13) (kk : z_wp d i_X12_steps [.ref h0, .int x1] S I J (fun vv SS II JJ => Go d i_X12_laysSame 18 [.ref h0, .int x1] (vv.toList ++ [.int x1, .ref h0]) SS II JJ Q)) : Go d i_X12_laysSame 11 [.ref h0, .int x1] [] S I J Q := by
  have h := (And.intro g1 kk)
  exact Go.n tb_X12_laysSame 5 h
theorem b_X12_laysSame_18 {d : Nat} {S : zS} {I : zI} {J : zJ} {Q : zQ} {h0 : Nat} {x1 : Int32} {q0 : Nat} {y1 : Int32} {y2 : Int32} (g1 : z_kd S q0 = 13) (kk : z_wp d i_X12_laysFars [.ref q0, .int y1, .int y2, .int (1 : Int32)] S I J (fun vv SS II JJ => Go d i_X12_laysSame 22 [.ref h0, .int x1] (vv.toList ++ []) SS II JJ Q)) : Go d i_X12_laysSame 18 [.ref h0, .int x1] [.int y2, .int y1, .ref q0] S I J Q := by
  have h := (And.intro g1 kk)
  exact Go.n tb_X12_laysSame 2 h
theorem b_X12_laysSame_22 {d : Nat} {S : zS} {I : zI} {J : zJ} {Q : zQ} {h0 : Nat} {x1 : Int32} (kk : Q none S I J) : Go d i_X12_laysSame 22 [.ref h0, .int x1] [] S I J Q := by
  have h := (And.intro trivial kk)
  exact Go.n tb_X12_laysSame 1 h
theorem w_X12_staying {d : Nat} {S : zS} {I : zI} {J : zJ} {Q : zQ} {h0 : Nat} {x1 : Int32} (h : Go d i_X12_staying 0 [.ref h0, .int x1, .retAddr 0, .retAddr 0, .retAddr 0, .retAddr 0, .retAddr 0] [] S I J Q) : z_wp (d + 1) i_X12_staying [.ref h0, .int x1] S I J Q := Go.wp (Nat.le_of_ble_eq_true rfl) h
theorem e_X12_staying {d : Nat} {S S2 : zS} {I I2 : zI} {J J2 : zJ} {r : Option Value} {h0 : Nat} {x1 : Int32} (h : Go d i_X12_staying 0 [.ref h0, .int x1, .retAddr 0, .retAddr 0, .retAddr 0, .retAddr 0, .retAddr 0] [] S I J (z_eq r S2 I2 J2)) : z_ev (d + 1) i_X12_staying [.ref h0, .int x1] S I J r S2 I2 J2 := Go.ev (Nat.le_of_ble_eq_true rfl) h
theorem b_X12_staying_0 {d : Nat} {S : zS} {I : zI} {J : zJ} {Q : zQ} {h0 : Nat} {x1 : Int32} {v2 : Value} {v3 : Value} {v4 : Value} {v5 : Value} {v6 : Value} (g1 : z_kd S h0 = 13) (kk : z_wp d i_X12_laysSame [.ref h0, .int x1] S I J (fun vv SS II JJ => Go d i_X12_staying 5 [.ref h0, .int x1, v2, v3, v4, v5, v6] (vv.toList ++ []) SS II JJ Q)) : Go d i_X12_staying 0 [.ref h0, .int x1, v2, v3, v4, v5, v6] [] S I J Q := by
  have h := (And.intro g1 kk)
  exact Go.n tb_X12_staying 3 h
theorem b_X12_staying_5 {d : Nat} {S : zS} {I : zI} {J : zJ} {Q : zQ} {h0 : Nat} {x1 : Int32} {v2 : Value} {v3 : Value} {v4 : Value} {v5 : Value} {v6 : Value} (kk : Go d i_X12_staying 10 [.ref h0, .int x1, .long (1 : Int64), (.retAddr 0), .int (1 : Int32), v5, v6] [] S I J Q) : Go d i_X12_staying 5 [.ref h0, .int x1, v2, v3, v4, v5, v6] [] S I J Q := by
  have h := kk
  exact Go.n tb_X12_staying 4 h
theorem b_X12_staying_10 {d : Nat} {S : zS} {I : zI} {J : zJ} {Q : zQ} {h0 : Nat} {x1 : Int32} {j2 : Int64} {v3 : Value} {x4 : Int32} {v5 : Value} {v6 : Value} (g1 : z_kd S h0 = 13) (kk : z_wp d i_X12_many [.ref h0, .int x1] S I J (fun vv SS II JJ => Go d i_X12_staying 17 [.ref h0, .int x1, .long j2, v3, .int x4, v5, v6] (vv.toList ++ [.int x4]) SS II JJ Q)) : Go d i_X12_staying 10 [.ref h0, .int x1, .long j2, v3, .int x4, v5, v6] [] S I J Q := by
  have h := (And.intro g1 kk)
  exact Go.n tb_X12_staying 4 h
theorem b_X12_staying_17 {d : Nat} {S : zS} {I : zI} {J : zJ} {Q : zQ} {h0 : Nat} {x1 : Int32} {j2 : Int64} {v3 : Value} {x4 : Int32} {v5 : Value} {v6 : Value} {y0 : Int32} {y1 : Int32} (kt : y1 ≤ y0 → Go d i_X12_staying 80 [.ref h0, .int x1, .long j2, v3, .int x4, v5, v6] [] S I J Q) (kf : ¬ y1 ≤ y0 → Go d i_X12_staying 20 [.ref h0, .int x1, .long j2, v3, .int x4, v5, v6] [] S I J Q) : Go d i_X12_staying 17 [.ref h0, .int x1, .long j2, v3, .int x4, v5, v6] [.int y1, .int y0] S I J Q := by
  have h := (Go.ite kt kf)
  exact Go.n tb_X12_staying 1 h
theorem b_X12_staying_20 {d : Nat} {S : zS} {I : zI} {J : zJ} {Q : zQ} {h0 : Nat} {x1 : Int32} {j2 : Int64} {v3 : Value} {x4 : Int32} {v5 : Value} {v6 : Value} (kk : Go d i_X12_staying 26 [.ref h0, .int x1, .long j2, v3, .int x4, .int (0 : Int32), .int (0 : Int32)] [] S I J Q) : Go d i_X12_staying 20 [.ref h0, .int x1, .long j2, v3, .int x4, v5, v6] [] S I J Q := by
  have h := kk
  exact Go.n tb_X12_staying 4 h
theorem b_X12_staying_26 {d : Nat} {S : zS} {I : zI} {J : zJ} {Q : zQ} {h0 : Nat} {x1 : Int32} {j2 : Int64} {v3 : Value} {x4 : Int32} {x5 : Int32} {x6 : Int32} (g1 : z_kd S h0 = 13) (kk : z_wp d i_X12_many [.ref h0, .int x1] S I J (fun vv SS II JJ => Go d i_X12_staying 33 [.ref h0, .int x1, .long j2, v3, .int x4, .int x5, .int x6] (vv.toList ++ [.int x6]) SS II JJ Q)) : Go d i_X12_staying 26 [.ref h0, .int x1, .long j2, v3, .int x4, .int x5, .int x6] [] S I J Q := by
  have h := (And.intro g1 kk)
  exact Go.n tb_X12_staying 4 h
theorem b_X12_staying_33 {d : Nat} {S : zS} {I : zI} {J : zJ} {Q : zQ} {h0 : Nat} {x1 : Int32} {j2 : Int64} {v3 : Value} {x4 : Int32} {x5 : Int32} {x6 : Int32} {y0 : Int32} {y1 : Int32} (kt : y1 ≤ y0 → Go d i_X12_staying 68 [.ref h0, .int x1, .long j2, v3, .int x4, .int x5, .int x6] [] S I J Q) (kf : ¬ y1 ≤ y0 → Go d i_X12_staying 36 [.ref h0, .int x1, .long j2, v3, .int x4, .int x5, .int x6] [] S I J Q) : Go d i_X12_staying 33 [.ref h0, .int x1, .long j2, v3, .int x4, .int x5, .int x6] [.int y1, .int y0] S I J Q := by
  have h := (Go.ite kt kf)
  exact Go.n tb_X12_staying 1 h
theorem b_X12_staying_36 {d : Nat} {S : zS} {I : zI} {J : zJ} {Q : zQ} {h0 : Nat} {x1 : Int32} {j2 : Int64} {v3 : Value} {x4 : Int32} {x5 : Int32} {x6 : Int32} (g1 : z_kd S h0 = 13) (kk : z_wp d i_X12_many [.ref h0, .int x1] S I J (fun vv SS II JJ => Go d i_X12_staying 48 [.ref h0, .int x1, .long j2, v3, .int x4, .int x5, .int x6] (vv.toList ++ [.int x6, .int x4, .ref h0, .int x5]) SS II JJ Q)) : Go d i_X12_staying 36 [.ref h0, .int x1, .long j2, v3, .int x4, .int x5, .int x6] [] S I J Q := by
  have h := (And.intro g1 kk)
  exact Go.n tb_X12_staying 7 h
theorem b_X12_staying_48 {d : Nat} {S : zS} {I : zI} {J : zJ} {Q : zQ} {h0 : Nat} {x1 : Int32} {j2 : Int64} {v3 : Value} {x4 : Int32} {x5 : Int32} {x6 : Int32} {y0 : Int32} {q1 : Nat} {y2 : Int32} {y3 : Int32} {y4 : Int32} (g1 : z_kd S q1 = 13) (kk : z_wp d i_X12_canLead [.ref q1, .int y2, .int y3, .int y4] S I J (fun vv SS II JJ => Go d i_X12_staying 51 [.ref h0, .int x1, .long j2, v3, .int x4, .int x5, .int x6] (vv.toList ++ [.int y0]) SS II JJ Q)) : Go d i_X12_staying 48 [.ref h0, .int x1, .long j2, v3, .int x4, .int x5, .int x6] [.int y4, .int y3, .int y2, .ref q1, .int y0] S I J Q := by
  have h := (And.intro g1 kk)
  exact Go.n tb_X12_staying 1 h
theorem b_X12_staying_51 {d : Nat} {S : zS} {I : zI} {J : zJ} {Q : zQ} {h0 : Nat} {x1 : Int32} {j2 : Int64} {v3 : Value} {x4 : Int32} {x5 : Int32} {x6 : Int32} {y0 : Int32} {y1 : Int32} (kt : y1 = (0 : Int32) → Go d i_X12_staying 58 [.ref h0, .int x1, .long j2, v3, .int x4, .int x5, .int x6] [.int y0] S I J Q) (kf : ¬ y1 = (0 : Int32) → Go d i_X12_staying 54 [.ref h0, .int x1, .long j2, v3, .int x4, .int x5, .int x6] [.int y0] S I J Q) : Go d i_X12_staying 51 [.ref h0, .int x1, .long j2, v3, .int x4, .int x5, .int x6] [.int y1, .int y0] S I J Q := by
  have h := (Go.ite kt kf)
  exact Go.n tb_X12_staying 1 h
theorem b_X12_staying_54 {d : Nat} {S : zS} {I : zI} {J : zJ} {Q : zQ} {h0 : Nat} {x1 : Int32} {j2 : Int64} {v3 : Value} {x4 : Int32} {x5 : Int32} {x6 : Int32} {y0 : Int32} (kk : Go d i_X12_staying 26 [.ref h0, .int x1, .long j2, v3, .int x4, .int (y0 + (1 : Int32)), .int (x6 + (1 : Int32))] [] S I J Q) : Go d i_X12_staying 54 [.ref h0, .int x1, .long j2, v3, .int x4, .int x5, .int x6] [.int y0] S I J Q := by
  have h := kk
  exact Go.n tb_X12_staying 6 h
theorem b_X12_staying_58 {d : Nat} {S : zS} {I : zI} {J : zJ} {Q : zQ} {h0 : Nat} {x1 : Int32} {j2 : Int64} {v3 : Value} {x4 : Int32} {x5 : Int32} {x6 : Int32} {y0 : Int32} (kk : Go d i_X12_staying 26 [.ref h0, .int x1, .long j2, v3, .int x4, .int (y0 + (0 : Int32)), .int (x6 + (1 : Int32))] [] S I J Q) : Go d i_X12_staying 58 [.ref h0, .int x1, .long j2, v3, .int x4, .int x5, .int x6] [.int y0] S I J Q := by
  have h := kk
  exact Go.n tb_X12_staying 5 h
theorem b_X12_staying_68 {d : Nat} {S : zS} {I : zI} {J : zJ} {Q : zQ} {h0 : Nat} {x1 : Int32} {j2 : Int64} {v3 : Value} {x4 : Int32} {x5 : Int32} {x6 : Int32} (kk : Go d i_X12_staying 10 [.ref h0, .int x1, .long (j2 * (Int32.toInt64 x5)), (.retAddr 0), .int (x4 + (1 : Int32)), .int x5, .int x6] [] S I J Q) : Go d i_X12_staying 68 [.ref h0, .int x1, .long j2, v3, .int x4, .int x5, .int x6] [] S I J Q := by
  have h := kk
  exact Go.n tb_X12_staying 7 h
theorem b_X12_staying_80 {d : Nat} {S : zS} {I : zI} {J : zJ} {Q : zQ} {h0 : Nat} {x1 : Int32} {j2 : Int64} {v3 : Value} {x4 : Int32} {v5 : Value} {v6 : Value} (kk : Q (some (.long j2)) S I J) : Go d i_X12_staying 80 [.ref h0, .int x1, .long j2, v3, .int x4, v5, v6] [] S I J Q := by
  have h := (And.intro trivial kk)
  exact Go.n tb_X12_staying 2 h
theorem w_X12_symmetries {d : Nat} {S : zS} {I : zI} {J : zJ} {Q : zQ} {h0 : Nat} {x1 : Int32} (h : Go d i_X12_symmetries 0 [.ref h0, .int x1] [] S I J Q) : z_wp (d + 1) i_X12_symmetries [.ref h0, .int x1] S I J Q := Go.wp (Nat.le_of_ble_eq_true rfl) h
theorem e_X12_symmetries {d : Nat} {S S2 : zS} {I I2 : zI} {J J2 : zJ} {r : Option Value} {h0 : Nat} {x1 : Int32} (h : Go d i_X12_symmetries 0 [.ref h0, .int x1] [] S I J (z_eq r S2 I2 J2)) : z_ev (d + 1) i_X12_symmetries [.ref h0, .int x1] S I J r S2 I2 J2 := Go.ev (Nat.le_of_ble_eq_true rfl) h
theorem b_X12_symmetries_0 {d : Nat} {S : zS} {I : zI} {J : zJ} {Q : zQ} {h0 : Nat} {x1 : Int32} (g1 : z_kd S h0 = 13) (kk : z_wp d i_X12_isSlot [.int x1] S (z_u2 I h0 1 (0 : Int32)) J (fun vv SS II JJ => Go d i_X12_symmetries 9 [.ref h0, .int x1] (vv.toList ++ []) SS II JJ Q)) : Go d i_X12_symmetries 0 [.ref h0, .int x1] [] S I J Q := by
  have h := (And.intro g1 (And.intro trivial kk))
  exact Go.n tb_X12_symmetries 5 h
theorem b_X12_symmetries_9 {d : Nat} {S : zS} {I : zI} {J : zJ} {Q : zQ} {h0 : Nat} {x1 : Int32} {y0 : Int32} (kt : y0 = (0 : Int32) → Go d i_X12_symmetries 27 [.ref h0, .int x1] [] S I J Q) (kf : ¬ y0 = (0 : Int32) → Go d i_X12_symmetries 12 [.ref h0, .int x1] [] S I J Q) : Go d i_X12_symmetries 9 [.ref h0, .int x1] [.int y0] S I J Q := by
  have h := (Go.ite kt kf)
  exact Go.n tb_X12_symmetries 1 h
theorem b_X12_symmetries_12 {d : Nat} {S : zS} {I : zI} {J : zJ} {Q : zQ} {h0 : Nat} {x1 : Int32} (g1 : z_kd S h0 = 13) (kk : z_wp d i_X12_staying [.ref h0, .int x1] S I J (fun vv SS II JJ => Go d i_X12_symmetries 17 [.ref h0, .int x1] (vv.toList ++ []) SS II JJ Q)) : Go d i_X12_symmetries 12 [.ref h0, .int x1] [] S I J Q := by
  have h := (And.intro g1 kk)
  exact Go.n tb_X12_symmetries 3 h
theorem b_X12_symmetries_17 {d : Nat} {S : zS} {I : zI} {J : zJ} {Q : zQ} {h0 : Nat} {x1 : Int32} {w0 : Int64} (g1 : z_kd S h0 = 13) (kk : z_wp d i_X12_many [.ref h0, .int x1] S I J (fun vv SS II JJ => Go d i_X12_symmetries 22 [.ref h0, .int x1] (vv.toList ++ [.long w0]) SS II JJ Q)) : Go d i_X12_symmetries 17 [.ref h0, .int x1] [.long w0] S I J Q := by
  have h := (And.intro g1 kk)
  exact Go.n tb_X12_symmetries 3 h
theorem b_X12_symmetries_22 {d : Nat} {S : zS} {I : zI} {J : zJ} {Q : zQ} {h0 : Nat} {x1 : Int32} {w0 : Int64} {y1 : Int32} (kk : Q (some (.long (w0 * (Int32.toInt64 y1)))) S I J) : Go d i_X12_symmetries 22 [.ref h0, .int x1] [.int y1, .long w0] S I J Q := by
  have h := (And.intro trivial kk)
  exact Go.n tb_X12_symmetries 4 h
theorem b_X12_symmetries_27 {d : Nat} {S : zS} {I : zI} {J : zJ} {Q : zQ} {h0 : Nat} {x1 : Int32} (kk : Q (some (.long (-2 : Int64))) S I J) : Go d i_X12_symmetries 27 [.ref h0, .int x1] [] S I J Q := by
  have h := (And.intro trivial kk)
  exact Go.n tb_X12_symmetries 2 h
theorem w_X12_fitsPin {d : Nat} {S : zS} {I : zI} {J : zJ} {Q : zQ} {h0 : Nat} {x1 : Int32} {x2 : Int32} (h : Go d i_X12_fitsPin 0 [.ref h0, .int x1, .int x2] [] S I J Q) : z_wp (d + 1) i_X12_fitsPin [.ref h0, .int x1, .int x2] S I J Q := Go.wp (Nat.le_of_ble_eq_true rfl) h
theorem e_X12_fitsPin {d : Nat} {S S2 : zS} {I I2 : zI} {J J2 : zJ} {r : Option Value} {h0 : Nat} {x1 : Int32} {x2 : Int32} (h : Go d i_X12_fitsPin 0 [.ref h0, .int x1, .int x2] [] S I J (z_eq r S2 I2 J2)) : z_ev (d + 1) i_X12_fitsPin [.ref h0, .int x1, .int x2] S I J r S2 I2 J2 := Go.ev (Nat.le_of_ble_eq_true rfl) h
theorem b_X12_fitsPin_0 {d : Nat} {S : zS} {I : zI} {J : zJ} {Q : zQ} {h0 : Nat} {x1 : Int32} {x2 : Int32} (g1 : z_kd S h0 = 13) (g2 : z_kd S h0 = 13) (g3 : z_isI (z_kd S (z_rv S h0 32)) = true ∧ vp_in (((20 : Int32) * (I h0 34)) + x1) (z_ln S (z_rv S h0 32))) (g4 : z_kd S h0 = 13) (g5 : z_kd S h0 = 13) (g6 : z_isI (z_kd S (z_rv S h0 32)) = true ∧ vp_in (((400 : Int32) + ((20 : Int32) * (I h0 35))) + x2) (z_ln S (z_rv S h0 32))) (kt : ¬ (I (z_rv S h0 32) (Int32.toNatClampNeg (((20 : Int32) * (I h0 34)) + x1))) = (I (z_rv S h0 32) (Int32.toNatClampNeg (((400 : Int32) + ((20 : Int32) * (I h0 35))) + x2))) → Go d i_X12_fitsPin 74 [.ref h0, .int x1, .int x2] [] S I J Q) (kf : (I (z_rv S h0 32) (Int32.toNatClampNeg (((20 : Int32) * (I h0 34)) + x1))) = (I (z_rv S h0 32) (Int32.toNatClampNeg (((400 : Int32) + ((20 : Int32) * (I h0 35))) + x2))) → Go d i_X12_fitsPin 35 [.ref h0, .int x1, .int x2] [] S I J Q) : Go d i_X12_fitsPin 0 [.ref h0, .int x1, .int x2] [] S I J Q := by
  have h := (And.intro g1 (And.intro g2 (And.intro g3 (And.intro g4 (And.intro g5 (And.intro g6 (Go.eti kt kf)))))))
  exact Go.n tb_X12_fitsPin 21 h
theorem b_X12_fitsPin_35 {d : Nat} {S : zS} {I : zI} {J : zJ} {Q : zQ} {h0 : Nat} {x1 : Int32} {x2 : Int32} (g1 : z_kd S h0 = 13) (g2 : z_kd S h0 = 13) (g3 : z_isI (z_kd S (z_rv S h0 32)) = true ∧ vp_in (((20 : Int32) * x1) + (I h0 34)) (z_ln S (z_rv S h0 32))) (g4 : z_kd S h0 = 13) (g5 : z_kd S h0 = 13) (g6 : z_isI (z_kd S (z_rv S h0 32)) = true ∧ vp_in (((400 : Int32) + ((20 : Int32) * x2)) + (I h0 35)) (z_ln S (z_rv S h0 32))) (kt : ¬ (I (z_rv S h0 32) (Int32.toNatClampNeg (((20 : Int32) * x1) + (I h0 34)))) = (I (z_rv S h0 32) (Int32.toNatClampNeg (((400 : Int32) + ((20 : Int32) * x2)) + (I h0 35)))) → Go d i_X12_fitsPin 74 [.ref h0, .int x1, .int x2] [] S I J Q) (kf : (I (z_rv S h0 32) (Int32.toNatClampNeg (((20 : Int32) * x1) + (I h0 34)))) = (I (z_rv S h0 32) (Int32.toNatClampNeg (((400 : Int32) + ((20 : Int32) * x2)) + (I h0 35)))) → Go d i_X12_fitsPin 70 [.ref h0, .int x1, .int x2] [] S I J Q) : Go d i_X12_fitsPin 35 [.ref h0, .int x1, .int x2] [] S I J Q := by
  have h := (And.intro g1 (And.intro g2 (And.intro g3 (And.intro g4 (And.intro g5 (And.intro g6 (Go.eti kt kf)))))))
  exact Go.n tb_X12_fitsPin 21 h
theorem b_X12_fitsPin_70 {d : Nat} {S : zS} {I : zI} {J : zJ} {Q : zQ} {h0 : Nat} {x1 : Int32} {x2 : Int32} (g1 : z_fit 3 (1 : Int32)) (kk : Q (some (.int (1 : Int32))) S I J) : Go d i_X12_fitsPin 70 [.ref h0, .int x1, .int x2] [] S I J Q := by
  have h := (And.intro g1 kk)
  exact Go.n tb_X12_fitsPin 3 h
theorem b_X12_fitsPin_74 {d : Nat} {S : zS} {I : zI} {J : zJ} {Q : zQ} {h0 : Nat} {x1 : Int32} {x2 : Int32} (g1 : z_fit 3 (0 : Int32)) (kk : Q (some (.int (0 : Int32))) S I J) : Go d i_X12_fitsPin 74 [.ref h0, .int x1, .int x2] [] S I J Q := by
  have h := (And.intro g1 kk)
  exact Go.n tb_X12_fitsPin 2 h
theorem w_X12_goesPinned {d : Nat} {S : zS} {I : zI} {J : zJ} {Q : zQ} {h0 : Nat} {x1 : Int32} {x2 : Int32} (h : Go d i_X12_goesPinned 0 [.ref h0, .int x1, .int x2, .retAddr 0] [] S I J Q) : z_wp (d + 1) i_X12_goesPinned [.ref h0, .int x1, .int x2] S I J Q := Go.wp (Nat.le_of_ble_eq_true rfl) h
theorem e_X12_goesPinned {d : Nat} {S S2 : zS} {I I2 : zI} {J J2 : zJ} {r : Option Value} {h0 : Nat} {x1 : Int32} {x2 : Int32} (h : Go d i_X12_goesPinned 0 [.ref h0, .int x1, .int x2, .retAddr 0] [] S I J (z_eq r S2 I2 J2)) : z_ev (d + 1) i_X12_goesPinned [.ref h0, .int x1, .int x2] S I J r S2 I2 J2 := Go.ev (Nat.le_of_ble_eq_true rfl) h
theorem b_X12_goesPinned_0 {d : Nat} {S : zS} {I : zI} {J : zJ} {Q : zQ} {h0 : Nat} {x1 : Int32} {x2 : Int32} {v3 : Value} (kt : ¬ x1 = x2 → Go d i_X12_goesPinned 7 [.ref h0, .int x1, .int x2, v3] [] S I J Q) (kf : x1 = x2 → Go d i_X12_goesPinned 5 [.ref h0, .int x1, .int x2, v3] [] S I J Q) : Go d i_X12_goesPinned 0 [.ref h0, .int x1, .int x2, v3] [] S I J Q := by
  have h := (Go.eti kt kf)
  exact Go.n tb_X12_goesPinned 3 h
theorem b_X12_goesPinned_5 {d : Nat} {S : zS} {I : zI} {J : zJ} {Q : zQ} {h0 : Nat} {x1 : Int32} {x2 : Int32} {v3 : Value} (g1 : z_fit 3 (1 : Int32)) (kk : Q (some (.int (1 : Int32))) S I J) : Go d i_X12_goesPinned 5 [.ref h0, .int x1, .int x2, v3] [] S I J Q := by
  have h := (And.intro g1 kk)
  exact Go.n tb_X12_goesPinned 2 h
theorem b_X12_goesPinned_7 {d : Nat} {S : zS} {I : zI} {J : zJ} {Q : zQ} {h0 : Nat} {x1 : Int32} {x2 : Int32} {v3 : Value} (g1 : z_kd S h0 = 13) (kt : ¬ x1 = (I h0 34) → Go d i_X12_goesPinned 48 [.ref h0, .int x1, .int x2, v3] [] S I J Q) (kf : x1 = (I h0 34) → Go d i_X12_goesPinned 15 [.ref h0, .int x1, .int x2, v3] [] S I J Q) : Go d i_X12_goesPinned 7 [.ref h0, .int x1, .int x2, v3] [] S I J Q := by
  have h := (And.intro g1 (Go.eti kt kf))
  exact Go.n tb_X12_goesPinned 4 h
theorem b_X12_goesPinned_15 {d : Nat} {S : zS} {I : zI} {J : zJ} {Q : zQ} {h0 : Nat} {x1 : Int32} {x2 : Int32} {v3 : Value} (g1 : z_kd S h0 = 13) (g2 : z_kd S h0 = 13) (kk : z_wp d i_X12_mayLead [.ref h0, .int x1, .int (I h0 35)] S I J (fun vv SS II JJ => Go d i_X12_goesPinned 24 [.ref h0, .int x1, .int x2, v3] (vv.toList ++ []) SS II JJ Q)) : Go d i_X12_goesPinned 15 [.ref h0, .int x1, .int x2, v3] [] S I J Q := by
  have h := (And.intro g1 (And.intro g2 kk))
  exact Go.n tb_X12_goesPinned 5 h
theorem b_X12_goesPinned_24 {d : Nat} {S : zS} {I : zI} {J : zJ} {Q : zQ} {h0 : Nat} {x1 : Int32} {x2 : Int32} {v3 : Value} {y0 : Int32} (kt : ¬ y0 = (0 : Int32) → Go d i_X12_goesPinned 29 [.ref h0, .int x1, .int x2, v3] [] S I J Q) (kf : y0 = (0 : Int32) → Go d i_X12_goesPinned 27 [.ref h0, .int x1, .int x2, v3] [] S I J Q) : Go d i_X12_goesPinned 24 [.ref h0, .int x1, .int x2, v3] [.int y0] S I J Q := by
  have h := (Go.eti kt kf)
  exact Go.n tb_X12_goesPinned 1 h
theorem b_X12_goesPinned_27 {d : Nat} {S : zS} {I : zI} {J : zJ} {Q : zQ} {h0 : Nat} {x1 : Int32} {x2 : Int32} {v3 : Value} (g1 : z_fit 3 (0 : Int32)) (kk : Q (some (.int (0 : Int32))) S I J) : Go d i_X12_goesPinned 27 [.ref h0, .int x1, .int x2, v3] [] S I J Q := by
  have h := (And.intro g1 kk)
  exact Go.n tb_X12_goesPinned 2 h
theorem b_X12_goesPinned_29 {d : Nat} {S : zS} {I : zI} {J : zJ} {Q : zQ} {h0 : Nat} {x1 : Int32} {x2 : Int32} {v3 : Value} (g1 : z_kd S h0 = 13) (g2 : z_kd S h0 = 13) (g3 : z_kd S (z_rv S h0 31) = 100 ∧ vp_in x1 (z_ln S (z_rv S h0 31))) (g4 : z_kd S h0 = 13) (kk : z_wp d i_X12_goesPinned [.ref h0, .int (x1 + (1 : Int32)), .int x2] S (z_u2 I (z_rv S h0 31) (Int32.toNatClampNeg x1) (I h0 35)) J (fun vv SS II JJ => Go d i_X12_goesPinned 47 [.ref h0, .int x1, .int x2, v3] (vv.toList ++ []) SS II JJ Q)) : Go d i_X12_goesPinned 29 [.ref h0, .int x1, .int x2, v3] [] S I J Q := by
  have h := (And.intro g1 (And.intro g2 (And.intro g3 (And.intro g4 kk))))
  exact Go.n tb_X12_goesPinned 12 h
theorem b_X12_goesPinned_47 {d : Nat} {S : zS} {I : zI} {J : zJ} {Q : zQ} {h0 : Nat} {x1 : Int32} {x2 : Int32} {v3 : Value} {y0 : Int32} (g1 : z_fit 3 y0) (kk : Q (some (.int y0)) S I J) : Go d i_X12_goesPinned 47 [.ref h0, .int x1, .int x2, v3] [.int y0] S I J Q := by
  have h := (And.intro g1 kk)
  exact Go.n tb_X12_goesPinned 1 h
theorem b_X12_goesPinned_48 {d : Nat} {S : zS} {I : zI} {J : zJ} {Q : zQ} {h0 : Nat} {x1 : Int32} {x2 : Int32} {v3 : Value} (kk : Go d i_X12_goesPinned 50 [.ref h0, .int x1, .int x2, .int (0 : Int32)] [] S I J Q) : Go d i_X12_goesPinned 48 [.ref h0, .int x1, .int x2, v3] [] S I J Q := by
  have h := kk
  exact Go.n tb_X12_goesPinned 2 h
theorem b_X12_goesPinned_50 {d : Nat} {S : zS} {I : zI} {J : zJ} {Q : zQ} {h0 : Nat} {x1 : Int32} {x2 : Int32} {x3 : Int32} (kt : x2 ≤ x3 → Go d i_X12_goesPinned 139 [.ref h0, .int x1, .int x2, .int x3] [] S I J Q) (kf : ¬ x2 ≤ x3 → Go d i_X12_goesPinned 55 [.ref h0, .int x1, .int x2, .int x3] [] S I J Q) : Go d i_X12_goesPinned 50 [.ref h0, .int x1, .int x2, .int x3] [] S I J Q := by
  have h := (Go.ite kt kf)
  exact Go.n tb_X12_goesPinned 3 h
theorem b_X12_goesPinned_55 {d : Nat} {S : zS} {I : zI} {J : zJ} {Q : zQ} {h0 : Nat} {x1 : Int32} {x2 : Int32} {x3 : Int32} (g1 : z_kd S h0 = 13) (kk : z_wp d i_X12_has [.int (I h0 33), .int x3] S I J (fun vv SS II JJ => Go d i_X12_goesPinned 63 [.ref h0, .int x1, .int x2, .int x3] (vv.toList ++ []) SS II JJ Q)) : Go d i_X12_goesPinned 55 [.ref h0, .int x1, .int x2, .int x3] [] S I J Q := by
  have h := (And.intro g1 (And.intro trivial kk))
  exact Go.n tb_X12_goesPinned 4 h
theorem b_X12_goesPinned_63 {d : Nat} {S : zS} {I : zI} {J : zJ} {Q : zQ} {h0 : Nat} {x1 : Int32} {x2 : Int32} {x3 : Int32} {y0 : Int32} (kt : ¬ y0 = (0 : Int32) → Go d i_X12_goesPinned 133 [.ref h0, .int x1, .int x2, .int x3] [] S I J Q) (kf : y0 = (0 : Int32) → Go d i_X12_goesPinned 66 [.ref h0, .int x1, .int x2, .int x3] [] S I J Q) : Go d i_X12_goesPinned 63 [.ref h0, .int x1, .int x2, .int x3] [.int y0] S I J Q := by
  have h := (Go.eti kt kf)
  exact Go.n tb_X12_goesPinned 1 h
theorem b_X12_goesPinned_66 {d : Nat} {S : zS} {I : zI} {J : zJ} {Q : zQ} {h0 : Nat} {x1 : Int32} {x2 : Int32} {x3 : Int32} (g1 : z_kd S h0 = 13) (kk : z_wp d i_X12_fitsPin [.ref h0, .int x1, .int x3] S I J (fun vv SS II JJ => Go d i_X12_goesPinned 72 [.ref h0, .int x1, .int x2, .int x3] (vv.toList ++ []) SS II JJ Q)) : Go d i_X12_goesPinned 66 [.ref h0, .int x1, .int x2, .int x3] [] S I J Q := by
  have h := (And.intro g1 kk)
  exact Go.n tb_X12_goesPinned 4 h
theorem b_X12_goesPinned_72 {d : Nat} {S : zS} {I : zI} {J : zJ} {Q : zQ} {h0 : Nat} {x1 : Int32} {x2 : Int32} {x3 : Int32} {y0 : Int32} (kt : y0 = (0 : Int32) → Go d i_X12_goesPinned 133 [.ref h0, .int x1, .int x2, .int x3] [] S I J Q) (kf : ¬ y0 = (0 : Int32) → Go d i_X12_goesPinned 75 [.ref h0, .int x1, .int x2, .int x3] [] S I J Q) : Go d i_X12_goesPinned 72 [.ref h0, .int x1, .int x2, .int x3] [.int y0] S I J Q := by
  have h := (Go.ite kt kf)
  exact Go.n tb_X12_goesPinned 1 h
theorem b_X12_goesPinned_75 {d : Nat} {S : zS} {I : zI} {J : zJ} {Q : zQ} {h0 : Nat} {x1 : Int32} {x2 : Int32} {x3 : Int32} (g1 : z_kd S h0 = 13) (kk : z_wp d i_X12_mayLead [.ref h0, .int x1, .int x3] S I J (fun vv SS II JJ => Go d i_X12_goesPinned 81 [.ref h0, .int x1, .int x2, .int x3] (vv.toList ++ []) SS II JJ Q)) : Go d i_X12_goesPinned 75 [.ref h0, .int x1, .int x2, .int x3] [] S I J Q := by
  have h := (And.intro g1 kk)
  exact Go.n tb_X12_goesPinned 4 h
theorem b_X12_goesPinned_81 {d : Nat} {S : zS} {I : zI} {J : zJ} {Q : zQ} {h0 : Nat} {x1 : Int32} {x2 : Int32} {x3 : Int32} {y0 : Int32} (kt : ¬ y0 = (0 : Int32) → Go d i_X12_goesPinned 87 [.ref h0, .int x1, .int x2, .int x3] [] S I J Q) (kf : y0 = (0 : Int32) → Go d i_X12_goesPinned 84 [.ref h0, .int x1, .int x2, .int x3] [] S I J Q) : Go d i_X12_goesPinned 81 [.ref h0, .int x1, .int x2, .int x3] [.int y0] S I J Q := by
  have h := (Go.eti kt kf)
  exact Go.n tb_X12_goesPinned 1 h
theorem b_X12_goesPinned_84 {d : Nat} {S : zS} {I : zI} {J : zJ} {Q : zQ} {h0 : Nat} {x1 : Int32} {x2 : Int32} {x3 : Int32} (kk : Go d i_X12_goesPinned 50 [.ref h0, .int x1, .int x2, .int (x3 + (1 : Int32))] [] S I J Q) : Go d i_X12_goesPinned 84 [.ref h0, .int x1, .int x2, .int x3] [] S I J Q := by
  have h := kk
  exact Go.n tb_X12_goesPinned 3 h
theorem b_X12_goesPinned_87 {d : Nat} {S : zS} {I : zI} {J : zJ} {Q : zQ} {h0 : Nat} {x1 : Int32} {x2 : Int32} {x3 : Int32} {I1 : zI} (g1 : z_kd S h0 = 13) (g2 : z_kd S (z_rv S h0 31) = 100 ∧ vp_in x1 (z_ln S (z_rv S h0 31))) (g3 : z_kd S h0 = 13) (g4 : z_kd S h0 = 13) (eI1 : I1 = z_u2 (z_u2 I (z_rv S h0 31) (Int32.toNatClampNeg x1) x3) h0 33 (((z_u2 I (z_rv S h0 31) (Int32.toNatClampNeg x1) x3) h0 33) ||| ((1 : Int32) <<< (x3 &&& 31)))) (g6 : z_kd S h0 = 13) (kk : z_wp d i_X12_goesPinned [.ref h0, .int (x1 + (1 : Int32)), .int x2] S I1 J (fun vv SS II JJ => Go d i_X12_goesPinned 114 [.ref h0, .int x1, .int x2, .int x3] (vv.toList ++ []) SS II JJ Q)) : Go d i_X12_goesPinned 87 [.ref h0, .int x1, .int x2, .int x3] [] S I J Q := by
  subst eI1
  have h := (And.intro g1 (And.intro g2 (And.intro g3 (And.intro g4 (And.intro g6 kk)))))
  exact Go.n tb_X12_goesPinned 19 h
theorem b_X12_goesPinned_114 {d : Nat} {S : zS} {I : zI} {J : zJ} {Q : zQ} {h0 : Nat} {x1 : Int32} {x2 : Int32} {x3 : Int32} {y0 : Int32} (kt : y0 = (0 : Int32) → Go d i_X12_goesPinned 119 [.ref h0, .int x1, .int x2, .int x3] [] S I J Q) (kf : ¬ y0 = (0 : Int32) → Go d i_X12_goesPinned 117 [.ref h0, .int x1, .int x2, .int x3] [] S I J Q) : Go d i_X12_goesPinned 114 [.ref h0, .int x1, .int x2, .int x3] [.int y0] S I J Q := by
  have h := (Go.ite kt kf)
  exact Go.n tb_X12_goesPinned 1 h
theorem b_X12_goesPinned_117 {d : Nat} {S : zS} {I : zI} {J : zJ} {Q : zQ} {h0 : Nat} {x1 : Int32} {x2 : Int32} {x3 : Int32} (g1 : z_fit 3 (1 : Int32)) (kk : Q (some (.int (1 : Int32))) S I J) : Go d i_X12_goesPinned 117 [.ref h0, .int x1, .int x2, .int x3] [] S I J Q := by
  have h := (And.intro g1 kk)
  exact Go.n tb_X12_goesPinned 2 h
theorem b_X12_goesPinned_119 {d : Nat} {S : zS} {I : zI} {J : zJ} {Q : zQ} {h0 : Nat} {x1 : Int32} {x2 : Int32} {x3 : Int32} (g1 : z_kd S h0 = 13) (g2 : z_kd S h0 = 13) (kk : Go d i_X12_goesPinned 50 [.ref h0, .int x1, .int x2, .int (x3 + (1 : Int32))] [] S (z_u2 I h0 33 ((I h0 33) &&& (((1 : Int32) <<< (x3 &&& 31)) ^^^ (-1 : Int32)))) J Q) : Go d i_X12_goesPinned 119 [.ref h0, .int x1, .int x2, .int x3] [] S I J Q := by
  have h := (And.intro g1 (And.intro g2 kk))
  exact Go.n tb_X12_goesPinned 12 h
theorem b_X12_goesPinned_133 {d : Nat} {S : zS} {I : zI} {J : zJ} {Q : zQ} {h0 : Nat} {x1 : Int32} {x2 : Int32} {x3 : Int32} (kk : Go d i_X12_goesPinned 50 [.ref h0, .int x1, .int x2, .int (x3 + (1 : Int32))] [] S I J Q) : Go d i_X12_goesPinned 133 [.ref h0, .int x1, .int x2, .int x3] [] S I J Q := by
  have h := kk
  exact Go.n tb_X12_goesPinned 2 h
theorem b_X12_goesPinned_139 {d : Nat} {S : zS} {I : zI} {J : zJ} {Q : zQ} {h0 : Nat} {x1 : Int32} {x2 : Int32} {x3 : Int32} (g1 : z_fit 3 (0 : Int32)) (kk : Q (some (.int (0 : Int32))) S I J) : Go d i_X12_goesPinned 139 [.ref h0, .int x1, .int x2, .int x3] [] S I J Q := by
  have h := (And.intro g1 kk)
  exact Go.n tb_X12_goesPinned 2 h
theorem w_X12_alikeBits {d : Nat} {S : zS} {I : zI} {J : zJ} {Q : zQ} {h0 : Nat} {x1 : Int32} {x2 : Int32} (h : Go d i_X12_alikeBits 0 [.ref h0, .int x1, .int x2, .retAddr 0, .retAddr 0] [] S I J Q) : z_wp (d + 1) i_X12_alikeBits [.ref h0, .int x1, .int x2] S I J Q := Go.wp (Nat.le_of_ble_eq_true rfl) h
theorem e_X12_alikeBits {d : Nat} {S S2 : zS} {I I2 : zI} {J J2 : zJ} {r : Option Value} {h0 : Nat} {x1 : Int32} {x2 : Int32} (h : Go d i_X12_alikeBits 0 [.ref h0, .int x1, .int x2, .retAddr 0, .retAddr 0] [] S I J (z_eq r S2 I2 J2)) : z_ev (d + 1) i_X12_alikeBits [.ref h0, .int x1, .int x2] S I J r S2 I2 J2 := Go.ev (Nat.le_of_ble_eq_true rfl) h
theorem b_X12_alikeBits_0 {d : Nat} {S : zS} {I : zI} {J : zJ} {Q : zQ} {h0 : Nat} {x1 : Int32} {x2 : Int32} {v3 : Value} {v4 : Value} (kk : Go d i_X12_alikeBits 5 [.ref h0, .int x1, .int x2, .int (0 : Int32), .int (0 : Int32)] [] S I J Q) : Go d i_X12_alikeBits 0 [.ref h0, .int x1, .int x2, v3, v4] [] S I J Q := by
  have h := kk
  exact Go.n tb_X12_alikeBits 4 h
theorem b_X12_alikeBits_5 {d : Nat} {S : zS} {I : zI} {J : zJ} {Q : zQ} {h0 : Nat} {x1 : Int32} {x2 : Int32} {x3 : Int32} {x4 : Int32} (g1 : z_kd S h0 = 13) (kk : z_wp d i_X12_many [.ref h0, .int x1] S I J (fun vv SS II JJ => Go d i_X12_alikeBits 12 [.ref h0, .int x1, .int x2, .int x3, .int x4] (vv.toList ++ [.int x4]) SS II JJ Q)) : Go d i_X12_alikeBits 5 [.ref h0, .int x1, .int x2, .int x3, .int x4] [] S I J Q := by
  have h := (And.intro g1 kk)
  exact Go.n tb_X12_alikeBits 4 h
theorem b_X12_alikeBits_12 {d : Nat} {S : zS} {I : zI} {J : zJ} {Q : zQ} {h0 : Nat} {x1 : Int32} {x2 : Int32} {x3 : Int32} {x4 : Int32} {y0 : Int32} {y1 : Int32} (kt : y1 ≤ y0 → Go d i_X12_alikeBits 98 [.ref h0, .int x1, .int x2, .int x3, .int x4] [] S I J Q) (kf : ¬ y1 ≤ y0 → Go d i_X12_alikeBits 15 [.ref h0, .int x1, .int x2, .int x3, .int x4] [] S I J Q) : Go d i_X12_alikeBits 12 [.ref h0, .int x1, .int x2, .int x3, .int x4] [.int y1, .int y0] S I J Q := by
  have h := (Go.ite kt kf)
  exact Go.n tb_X12_alikeBits 1 h
theorem b_X12_alikeBits_15 {d : Nat} {S : zS} {I : zI} {J : zJ} {Q : zQ} {h0 : Nat} {x1 : Int32} {x2 : Int32} {x3 : Int32} {x4 : Int32} (g1 : z_kd S h0 = 13) (g2 : z_kd S (z_rv S h0 31) = 100 ∧ vp_in (0 : Int32) (z_ln S (z_rv S h0 31))) (kt : ¬ x2 = (0 : Int32) → Go d i_X12_alikeBits 30 [.ref h0, .int x1, .int x2, .int x3, .int x4] [] S (z_u2 I (z_rv S h0 31) (Int32.toNatClampNeg (0 : Int32)) (0 : Int32)) J Q) (kf : x2 = (0 : Int32) → Go d i_X12_alikeBits 26 [.ref h0, .int x1, .int x2, .int x3, .int x4] [] S (z_u2 I (z_rv S h0 31) (Int32.toNatClampNeg (0 : Int32)) (0 : Int32)) J Q) : Go d i_X12_alikeBits 15 [.ref h0, .int x1, .int x2, .int x3, .int x4] [] S I J Q := by
  have h := (And.intro g1 (And.intro g2 (Go.eti kt kf)))
  exact Go.n tb_X12_alikeBits 7 h
theorem b_X12_alikeBits_26 {d : Nat} {S : zS} {I : zI} {J : zJ} {Q : zQ} {h0 : Nat} {x1 : Int32} {x2 : Int32} {x3 : Int32} {x4 : Int32} (kt : ¬ x4 = (0 : Int32) → Go d i_X12_alikeBits 40 [.ref h0, .int x1, .int x2, .int x3, .int x4] [.int (1 : Int32)] S I J Q) (kf : x4 = (0 : Int32) → Go d i_X12_alikeBits 36 [.ref h0, .int x1, .int x2, .int x3, .int x4] [.int (1 : Int32)] S I J Q) : Go d i_X12_alikeBits 26 [.ref h0, .int x1, .int x2, .int x3, .int x4] [] S I J Q := by
  have h := (Go.eti kt kf)
  exact Go.n tb_X12_alikeBits 4 h
theorem b_X12_alikeBits_30 {d : Nat} {S : zS} {I : zI} {J : zJ} {Q : zQ} {h0 : Nat} {x1 : Int32} {x2 : Int32} {x3 : Int32} {x4 : Int32} (kt : ¬ x4 = (0 : Int32) → Go d i_X12_alikeBits 40 [.ref h0, .int x1, .int x2, .int x3, .int x4] [.int (0 : Int32)] S I J Q) (kf : x4 = (0 : Int32) → Go d i_X12_alikeBits 36 [.ref h0, .int x1, .int x2, .int x3, .int x4] [.int (0 : Int32)] S I J Q) : Go d i_X12_alikeBits 30 [.ref h0, .int x1, .int x2, .int x3, .int x4] [] S I J Q := by
  have h := (Go.eti kt kf)
  exact Go.n tb_X12_alikeBits 3 h
theorem b_X12_alikeBits_36 {d : Nat} {S : zS} {I : zI} {J : zJ} {Q : zQ} {h0 : Nat} {x1 : Int32} {x2 : Int32} {x3 : Int32} {x4 : Int32} {y0 : Int32} (kt : y0 = (1 : Int32) → Go d i_X12_alikeBits 47 [.ref h0, .int x1, .int x2, .int x3, .int x4] [] S I J Q) (kf : ¬ y0 = (1 : Int32) → Go d i_X12_alikeBits 44 [.ref h0, .int x1, .int x2, .int x3, .int x4] [] S I J Q) : Go d i_X12_alikeBits 36 [.ref h0, .int x1, .int x2, .int x3, .int x4] [.int y0] S I J Q := by
  have h := (Go.ite kt kf)
  exact Go.n tb_X12_alikeBits 3 h
theorem b_X12_alikeBits_40 {d : Nat} {S : zS} {I : zI} {J : zJ} {Q : zQ} {h0 : Nat} {x1 : Int32} {x2 : Int32} {x3 : Int32} {x4 : Int32} {y0 : Int32} (kt : y0 = (0 : Int32) → Go d i_X12_alikeBits 47 [.ref h0, .int x1, .int x2, .int x3, .int x4] [] S I J Q) (kf : ¬ y0 = (0 : Int32) → Go d i_X12_alikeBits 44 [.ref h0, .int x1, .int x2, .int x3, .int x4] [] S I J Q) : Go d i_X12_alikeBits 40 [.ref h0, .int x1, .int x2, .int x3, .int x4] [.int y0] S I J Q := by
  have h := (Go.ite kt kf)
  exact Go.n tb_X12_alikeBits 2 h
theorem b_X12_alikeBits_44 {d : Nat} {S : zS} {I : zI} {J : zJ} {Q : zQ} {h0 : Nat} {x1 : Int32} {x2 : Int32} {x3 : Int32} {x4 : Int32} (kk : Go d i_X12_alikeBits 5 [.ref h0, .int x1, .int x2, .int x3, .int (x4 + (1 : Int32))] [] S I J Q) : Go d i_X12_alikeBits 44 [.ref h0, .int x1, .int x2, .int x3, .int x4] [] S I J Q := by
  have h := kk
  exact Go.n tb_X12_alikeBits 3 h
theorem b_X12_alikeBits_47 {d : Nat} {S : zS} {I : zI} {J : zJ} {Q : zQ} {h0 : Nat} {x1 : Int32} {x2 : Int32} {x3 : Int32} {x4 : Int32} (g1 : z_kd S h0 = 13) (g2 : z_kd S h0 = 13) (g3 : z_kd S h0 = 13) (g4 : z_kd S h0 = 13) (kk : z_wp d i_X12_many [.ref h0, .int x1] S (z_u2 (z_u2 (z_u2 I h0 34 x2) h0 35 x4) h0 33 ((1 : Int32) ||| ((1 : Int32) <<< (x4 &&& 31)))) J (fun vv SS II JJ => Go d i_X12_alikeBits 76 [.ref h0, .int x1, .int x2, .int x3, .int x4] (vv.toList ++ [.int (1 : Int32), .ref h0, .int x3]) SS II JJ Q)) : Go d i_X12_alikeBits 47 [.ref h0, .int x1, .int x2, .int x3, .int x4] [] S I J Q := by
  have h := (And.intro g1 (And.intro g2 (And.intro g3 (And.intro g4 kk))))
  exact Go.n tb_X12_alikeBits 19 h
theorem b_X12_alikeBits_76 {d : Nat} {S : zS} {I : zI} {J : zJ} {Q : zQ} {h0 : Nat} {x1 : Int32} {x2 : Int32} {x3 : Int32} {x4 : Int32} {y0 : Int32} {q1 : Nat} {y2 : Int32} {y3 : Int32} (g1 : z_kd S q1 = 13) (kk : z_wp d i_X12_goesPinned [.ref q1, .int y2, .int y3] S I J (fun vv SS II JJ => Go d i_X12_alikeBits 79 [.ref h0, .int x1, .int x2, .int x3, .int x4] (vv.toList ++ [.int y0]) SS II JJ Q)) : Go d i_X12_alikeBits 76 [.ref h0, .int x1, .int x2, .int x3, .int x4] [.int y3, .int y2, .ref q1, .int y0] S I J Q := by
  have h := (And.intro g1 kk)
  exact Go.n tb_X12_alikeBits 1 h
theorem b_X12_alikeBits_79 {d : Nat} {S : zS} {I : zI} {J : zJ} {Q : zQ} {h0 : Nat} {x1 : Int32} {x2 : Int32} {x3 : Int32} {x4 : Int32} {y0 : Int32} {y1 : Int32} (kt : y1 = (0 : Int32) → Go d i_X12_alikeBits 89 [.ref h0, .int x1, .int x2, .int x3, .int x4] [.int y0] S I J Q) (kf : ¬ y1 = (0 : Int32) → Go d i_X12_alikeBits 82 [.ref h0, .int x1, .int x2, .int x3, .int x4] [.int y0] S I J Q) : Go d i_X12_alikeBits 79 [.ref h0, .int x1, .int x2, .int x3, .int x4] [.int y1, .int y0] S I J Q := by
  have h := (Go.ite kt kf)
  exact Go.n tb_X12_alikeBits 1 h
theorem b_X12_alikeBits_82 {d : Nat} {S : zS} {I : zI} {J : zJ} {Q : zQ} {h0 : Nat} {x1 : Int32} {x2 : Int32} {x3 : Int32} {x4 : Int32} {y0 : Int32} (kk : Go d i_X12_alikeBits 5 [.ref h0, .int x1, .int x2, .int (y0 ||| ((1 : Int32) <<< (x4 &&& 31))), .int (x4 + (1 : Int32))] [] S I J Q) : Go d i_X12_alikeBits 82 [.ref h0, .int x1, .int x2, .int x3, .int x4] [.int y0] S I J Q := by
  have h := kk
  exact Go.n tb_X12_alikeBits 8 h
theorem b_X12_alikeBits_89 {d : Nat} {S : zS} {I : zI} {J : zJ} {Q : zQ} {h0 : Nat} {x1 : Int32} {x2 : Int32} {x3 : Int32} {x4 : Int32} {y0 : Int32} (kk : Go d i_X12_alikeBits 5 [.ref h0, .int x1, .int x2, .int (y0 ||| (0 : Int32)), .int (x4 + (1 : Int32))] [] S I J Q) : Go d i_X12_alikeBits 89 [.ref h0, .int x1, .int x2, .int x3, .int x4] [.int y0] S I J Q := by
  have h := kk
  exact Go.n tb_X12_alikeBits 5 h
theorem b_X12_alikeBits_98 {d : Nat} {S : zS} {I : zI} {J : zJ} {Q : zQ} {h0 : Nat} {x1 : Int32} {x2 : Int32} {x3 : Int32} {x4 : Int32} (kk : Q (some (.int x3)) S I J) : Go d i_X12_alikeBits 98 [.ref h0, .int x1, .int x2, .int x3, .int x4] [] S I J Q := by
  have h := (And.intro trivial kk)
  exact Go.n tb_X12_alikeBits 2 h
theorem w_X12_alikeTo {d : Nat} {S : zS} {I : zI} {J : zJ} {Q : zQ} {h0 : Nat} {x1 : Int32} {x2 : Int32} (h : Go d i_X12_alikeTo 0 [.ref h0, .int x1, .int x2] [] S I J Q) : z_wp (d + 1) i_X12_alikeTo [.ref h0, .int x1, .int x2] S I J Q := Go.wp (Nat.le_of_ble_eq_true rfl) h
theorem e_X12_alikeTo {d : Nat} {S S2 : zS} {I I2 : zI} {J J2 : zJ} {r : Option Value} {h0 : Nat} {x1 : Int32} {x2 : Int32} (h : Go d i_X12_alikeTo 0 [.ref h0, .int x1, .int x2] [] S I J (z_eq r S2 I2 J2)) : z_ev (d + 1) i_X12_alikeTo [.ref h0, .int x1, .int x2] S I J r S2 I2 J2 := Go.ev (Nat.le_of_ble_eq_true rfl) h
theorem b_X12_alikeTo_0 {d : Nat} {S : zS} {I : zI} {J : zJ} {Q : zQ} {h0 : Nat} {x1 : Int32} {x2 : Int32} (g1 : z_kd S h0 = 13) (g2 : z_kd S h0 = 13) (kk : z_wp d i_X12_isElement [.ref h0, .int x1, .int x2] S (z_u2 I h0 1 (0 : Int32)) J (fun vv SS II JJ => Go d i_X12_alikeTo 11 [.ref h0, .int x1, .int x2] (vv.toList ++ []) SS II JJ Q)) : Go d i_X12_alikeTo 0 [.ref h0, .int x1, .int x2] [] S I J Q := by
  have h := (And.intro g1 (And.intro g2 kk))
  exact Go.n tb_X12_alikeTo 7 h
theorem b_X12_alikeTo_11 {d : Nat} {S : zS} {I : zI} {J : zJ} {Q : zQ} {h0 : Nat} {x1 : Int32} {x2 : Int32} {y0 : Int32} (kt : ¬ y0 = (0 : Int32) → Go d i_X12_alikeTo 17 [.ref h0, .int x1, .int x2] [] S I J Q) (kf : y0 = (0 : Int32) → Go d i_X12_alikeTo 14 [.ref h0, .int x1, .int x2] [] S I J Q) : Go d i_X12_alikeTo 11 [.ref h0, .int x1, .int x2] [.int y0] S I J Q := by
  have h := (Go.eti kt kf)
  exact Go.n tb_X12_alikeTo 1 h
theorem b_X12_alikeTo_14 {d : Nat} {S : zS} {I : zI} {J : zJ} {Q : zQ} {h0 : Nat} {x1 : Int32} {x2 : Int32} (kk : Q (some (.int (-2 : Int32))) S I J) : Go d i_X12_alikeTo 14 [.ref h0, .int x1, .int x2] [] S I J Q := by
  have h := (And.intro trivial kk)
  exact Go.n tb_X12_alikeTo 2 h
theorem b_X12_alikeTo_17 {d : Nat} {S : zS} {I : zI} {J : zJ} {Q : zQ} {h0 : Nat} {x1 : Int32} {x2 : Int32} (g1 : z_kd S h0 = 13) (kk : z_wp d i_X12_laysSame [.ref h0, .int x1] S I J (fun vv SS II JJ => Go d i_X12_alikeTo 22 [.ref h0, .int x1, .int x2] (vv.toList ++ []) SS II JJ Q)) : Go d i_X12_alikeTo 17 [.ref h0, .int x1, .int x2] [] S I J Q := by
  have h := (And.intro g1 kk)
  exact Go.n tb_X12_alikeTo 3 h
theorem b_X12_alikeTo_22 {d : Nat} {S : zS} {I : zI} {J : zJ} {Q : zQ} {h0 : Nat} {x1 : Int32} {x2 : Int32} (g1 : z_kd S h0 = 13) (kk : z_wp d i_X12_alikeBits [.ref h0, .int x1, .int x2] S I J (fun vv SS II JJ => Go d i_X12_alikeTo 28 [.ref h0, .int x1, .int x2] (vv.toList ++ []) SS II JJ Q)) : Go d i_X12_alikeTo 22 [.ref h0, .int x1, .int x2] [] S I J Q := by
  have h := (And.intro g1 kk)
  exact Go.n tb_X12_alikeTo 4 h
theorem b_X12_alikeTo_28 {d : Nat} {S : zS} {I : zI} {J : zJ} {Q : zQ} {h0 : Nat} {x1 : Int32} {x2 : Int32} {y0 : Int32} (kk : Q (some (.int y0)) S I J) : Go d i_X12_alikeTo 28 [.ref h0, .int x1, .int x2] [.int y0] S I J Q := by
  have h := (And.intro trivial kk)
  exact Go.n tb_X12_alikeTo 1 h
theorem w_X12_areFarAlike {d : Nat} {S : zS} {I : zI} {J : zJ} {Q : zQ} {h0 : Nat} {x1 : Int32} (h : Go d i_X12_areFarAlike 0 [.ref h0, .int x1, .retAddr 0, .retAddr 0, .retAddr 0] [] S I J Q) : z_wp (d + 1) i_X12_areFarAlike [.ref h0, .int x1] S I J Q := Go.wp (Nat.le_of_ble_eq_true rfl) h
theorem e_X12_areFarAlike {d : Nat} {S S2 : zS} {I I2 : zI} {J J2 : zJ} {r : Option Value} {h0 : Nat} {x1 : Int32} (h : Go d i_X12_areFarAlike 0 [.ref h0, .int x1, .retAddr 0, .retAddr 0, .retAddr 0] [] S I J (z_eq r S2 I2 J2)) : z_ev (d + 1) i_X12_areFarAlike [.ref h0, .int x1] S I J r S2 I2 J2 := Go.ev (Nat.le_of_ble_eq_true rfl) h
theorem b_X12_areFarAlike_0 {d : Nat} {S : zS} {I : zI} {J : zJ} {Q : zQ} {h0 : Nat} {x1 : Int32} {v2 : Value} {v3 : Value} {v4 : Value} (g1 : z_kd S h0 = 13) (kk : z_wp d i_X12_laysSame [.ref h0, .int x1] S I J (fun vv SS II JJ => Go d i_X12_areFarAlike 5 [.ref h0, .int x1, v2, v3, v4] (vv.toList ++ []) SS II JJ Q)) : Go d i_X12_areFarAlike 0 [.ref h0, .int x1, v2, v3, v4] [] S I J Q := by
  have h := (And.intro g1 kk)
  exact Go.n tb_X12_areFarAlike 3 h
theorem b_X12_areFarAlike_5 {d : Nat} {S : zS} {I : zI} {J : zJ} {Q : zQ} {h0 : Nat} {x1 : Int32} {v2 : Value} {v3 : Value} {v4 : Value} (kk : Go d i_X12_areFarAlike 7 [.ref h0, .int x1, .int (1 : Int32), v3, v4] [] S I J Q) : Go d i_X12_areFarAlike 5 [.ref h0, .int x1, v2, v3, v4] [] S I J Q := by
  have h := kk
  exact Go.n tb_X12_areFarAlike 2 h
theorem b_X12_areFarAlike_7 {d : Nat} {S : zS} {I : zI} {J : zJ} {Q : zQ} {h0 : Nat} {x1 : Int32} {x2 : Int32} {v3 : Value} {v4 : Value} (g1 : z_kd S h0 = 13) (kk : z_wp d i_X12_many [.ref h0, .int x1] S I J (fun vv SS II JJ => Go d i_X12_areFarAlike 13 [.ref h0, .int x1, .int x2, v3, v4] (vv.toList ++ [.int x2]) SS II JJ Q)) : Go d i_X12_areFarAlike 7 [.ref h0, .int x1, .int x2, v3, v4] [] S I J Q := by
  have h := (And.intro g1 kk)
  exact Go.n tb_X12_areFarAlike 4 h
theorem b_X12_areFarAlike_13 {d : Nat} {S : zS} {I : zI} {J : zJ} {Q : zQ} {h0 : Nat} {x1 : Int32} {x2 : Int32} {v3 : Value} {v4 : Value} {y0 : Int32} {y1 : Int32} (kt : y1 ≤ y0 → Go d i_X12_areFarAlike 92 [.ref h0, .int x1, .int x2, v3, v4] [] S I J Q) (kf : ¬ y1 ≤ y0 → Go d i_X12_areFarAlike 16 [.ref h0, .int x1, .int x2, v3, v4] [] S I J Q) : Go d i_X12_areFarAlike 13 [.ref h0, .int x1, .int x2, v3, v4] [.int y1, .int y0] S I J Q := by
  have h := (Go.ite kt kf)
  exact Go.n tb_X12_areFarAlike 1 h
theorem b_X12_areFarAlike_16 {d : Nat} {S : zS} {I : zI} {J : zJ} {Q : zQ} {h0 : Nat} {x1 : Int32} {x2 : Int32} {v3 : Value} {v4 : Value} (kk : Go d i_X12_areFarAlike 21 [.ref h0, .int x1, .int x2, .int (0 : Int32), .int (0 : Int32)] [] S I J Q) : Go d i_X12_areFarAlike 16 [.ref h0, .int x1, .int x2, v3, v4] [] S I J Q := by
  have h := kk
  exact Go.n tb_X12_areFarAlike 4 h
theorem b_X12_areFarAlike_21 {d : Nat} {S : zS} {I : zI} {J : zJ} {Q : zQ} {h0 : Nat} {x1 : Int32} {x2 : Int32} {x3 : Int32} {x4 : Int32} (g1 : z_kd S h0 = 13) (kk : z_wp d i_X12_many [.ref h0, .int x1] S I J (fun vv SS II JJ => Go d i_X12_areFarAlike 28 [.ref h0, .int x1, .int x2, .int x3, .int x4] (vv.toList ++ [.int x4]) SS II JJ Q)) : Go d i_X12_areFarAlike 21 [.ref h0, .int x1, .int x2, .int x3, .int x4] [] S I J Q := by
  have h := (And.intro g1 kk)
  exact Go.n tb_X12_areFarAlike 4 h
theorem b_X12_areFarAlike_28 {d : Nat} {S : zS} {I : zI} {J : zJ} {Q : zQ} {h0 : Nat} {x1 : Int32} {x2 : Int32} {x3 : Int32} {x4 : Int32} {y0 : Int32} {y1 : Int32} (kt : y1 ≤ y0 → Go d i_X12_areFarAlike 64 [.ref h0, .int x1, .int x2, .int x3, .int x4] [] S I J Q) (kf : ¬ y1 ≤ y0 → Go d i_X12_areFarAlike 31 [.ref h0, .int x1, .int x2, .int x3, .int x4] [] S I J Q) : Go d i_X12_areFarAlike 28 [.ref h0, .int x1, .int x2, .int x3, .int x4] [.int y1, .int y0] S I J Q := by
  have h := (Go.ite kt kf)
  exact Go.n tb_X12_areFarAlike 1 h
theorem b_X12_areFarAlike_31 {d : Nat} {S : zS} {I : zI} {J : zJ} {Q : zQ} {h0 : Nat} {x1 : Int32} {x2 : Int32} {x3 : Int32} {x4 : Int32} (g1 : z_kd S h0 = 13) (g2 : z_isI (z_kd S (z_rv S h0 32)) = true ∧ vp_in x4 (z_ln S (z_rv S h0 32))) (g3 : z_kd S h0 = 13) (g4 : z_isI (z_kd S (z_rv S h0 32)) = true ∧ vp_in x2 (z_ln S (z_rv S h0 32))) (kt : ¬ (I (z_rv S h0 32) (Int32.toNatClampNeg x4)) = (I (z_rv S h0 32) (Int32.toNatClampNeg x2)) → Go d i_X12_areFarAlike 55 [.ref h0, .int x1, .int x2, .int x3, .int x4] [.int x3] S I J Q) (kf : (I (z_rv S h0 32) (Int32.toNatClampNeg x4)) = (I (z_rv S h0 32) (Int32.toNatClampNeg x2)) → Go d i_X12_areFarAlike 48 [.ref h0, .int x1, .int x2, .int x3, .int x4] [.int x3] S I J Q) : Go d i_X12_areFarAlike 31 [.ref h0, .int x1, .int x2, .int x3, .int x4] [] S I J Q := by
  have h := (And.intro g1 (And.intro g2 (And.intro g3 (And.intro g4 (Go.eti kt kf)))))
  exact Go.n tb_X12_areFarAlike 10 h
theorem b_X12_areFarAlike_48 {d : Nat} {S : zS} {I : zI} {J : zJ} {Q : zQ} {h0 : Nat} {x1 : Int32} {x2 : Int32} {x3 : Int32} {x4 : Int32} {y0 : Int32} (kk : Go d i_X12_areFarAlike 21 [.ref h0, .int x1, .int x2, .int (y0 ||| ((1 : Int32) <<< (x4 &&& 31))), .int (x4 + (1 : Int32))] [] S I J Q) : Go d i_X12_areFarAlike 48 [.ref h0, .int x1, .int x2, .int x3, .int x4] [.int y0] S I J Q := by
  have h := kk
  exact Go.n tb_X12_areFarAlike 8 h
theorem b_X12_areFarAlike_55 {d : Nat} {S : zS} {I : zI} {J : zJ} {Q : zQ} {h0 : Nat} {x1 : Int32} {x2 : Int32} {x3 : Int32} {x4 : Int32} {y0 : Int32} (kk : Go d i_X12_areFarAlike 21 [.ref h0, .int x1, .int x2, .int (y0 ||| (0 : Int32)), .int (x4 + (1 : Int32))] [] S I J Q) : Go d i_X12_areFarAlike 55 [.ref h0, .int x1, .int x2, .int x3, .int x4] [.int y0] S I J Q := by
  have h := kk
  exact Go.n tb_X12_areFarAlike 5 h
theorem b_X12_areFarAlike_64 {d : Nat} {S : zS} {I : zI} {J : zJ} {Q : zQ} {h0 : Nat} {x1 : Int32} {x2 : Int32} {x3 : Int32} {x4 : Int32} (kt : ¬ (x3 &&& (((1 : Int32) <<< (x2 &&& 31)) - (1 : Int32))) = (0 : Int32) → Go d i_X12_areFarAlike 86 [.ref h0, .int x1, .int x2, .int x3, .int x4] [] S I J Q) (kf : (x3 &&& (((1 : Int32) <<< (x2 &&& 31)) - (1 : Int32))) = (0 : Int32) → Go d i_X12_areFarAlike 74 [.ref h0, .int x1, .int x2, .int x3, .int x4] [] S I J Q) : Go d i_X12_areFarAlike 64 [.ref h0, .int x1, .int x2, .int x3, .int x4] [] S I J Q := by
  have h := (Go.eti kt kf)
  exact Go.n tb_X12_areFarAlike 8 h
theorem b_X12_areFarAlike_74 {d : Nat} {S : zS} {I : zI} {J : zJ} {Q : zQ} {h0 : Nat} {x1 : Int32} {x2 : Int32} {x3 : Int32} {x4 : Int32} (g1 : z_kd S h0 = 13) (kk : z_wp d i_X12_alikeBits [.ref h0, .int x1, .int x2] S I J (fun vv SS II JJ => Go d i_X12_areFarAlike 80 [.ref h0, .int x1, .int x2, .int x3, .int x4] (vv.toList ++ []) SS II JJ Q)) : Go d i_X12_areFarAlike 74 [.ref h0, .int x1, .int x2, .int x3, .int x4] [] S I J Q := by
  have h := (And.intro g1 kk)
  exact Go.n tb_X12_areFarAlike 4 h
theorem b_X12_areFarAlike_80 {d : Nat} {S : zS} {I : zI} {J : zJ} {Q : zQ} {h0 : Nat} {x1 : Int32} {x2 : Int32} {x3 : Int32} {x4 : Int32} {y0 : Int32} (kt : y0 = x3 → Go d i_X12_areFarAlike 86 [.ref h0, .int x1, .int x2, .int x3, .int x4] [] S I J Q) (kf : ¬ y0 = x3 → Go d i_X12_areFarAlike 84 [.ref h0, .int x1, .int x2, .int x3, .int x4] [] S I J Q) : Go d i_X12_areFarAlike 80 [.ref h0, .int x1, .int x2, .int x3, .int x4] [.int y0] S I J Q := by
  have h := (Go.ite kt kf)
  exact Go.n tb_X12_areFarAlike 2 h
theorem b_X12_areFarAlike_84 {d : Nat} {S : zS} {I : zI} {J : zJ} {Q : zQ} {h0 : Nat} {x1 : Int32} {x2 : Int32} {x3 : Int32} {x4 : Int32} (g1 : z_fit 3 (0 : Int32)) (kk : Q (some (.int (0 : Int32))) S I J) : Go d i_X12_areFarAlike 84 [.ref h0, .int x1, .int x2, .int x3, .int x4] [] S I J Q := by
  have h := (And.intro g1 kk)
  exact Go.n tb_X12_areFarAlike 2 h
theorem b_X12_areFarAlike_86 {d : Nat} {S : zS} {I : zI} {J : zJ} {Q : zQ} {h0 : Nat} {x1 : Int32} {x2 : Int32} {x3 : Int32} {x4 : Int32} (kk : Go d i_X12_areFarAlike 7 [.ref h0, .int x1, .int (x2 + (1 : Int32)), .int x3, .int x4] [] S I J Q) : Go d i_X12_areFarAlike 86 [.ref h0, .int x1, .int x2, .int x3, .int x4] [] S I J Q := by
  have h := kk
  exact Go.n tb_X12_areFarAlike 2 h
theorem b_X12_areFarAlike_92 {d : Nat} {S : zS} {I : zI} {J : zJ} {Q : zQ} {h0 : Nat} {x1 : Int32} {x2 : Int32} {v3 : Value} {v4 : Value} (g1 : z_fit 3 (1 : Int32)) (kk : Q (some (.int (1 : Int32))) S I J) : Go d i_X12_areFarAlike 92 [.ref h0, .int x1, .int x2, v3, v4] [] S I J Q := by
  have h := (And.intro g1 kk)
  exact Go.n tb_X12_areFarAlike 2 h
theorem w_X12_areArcsAlike {d : Nat} {S : zS} {I : zI} {J : zJ} {Q : zQ} {h0 : Nat} {x1 : Int32} (h : Go d i_X12_areArcsAlike 0 [.ref h0, .int x1] [] S I J Q) : z_wp (d + 1) i_X12_areArcsAlike [.ref h0, .int x1] S I J Q := Go.wp (Nat.le_of_ble_eq_true rfl) h
theorem e_X12_areArcsAlike {d : Nat} {S S2 : zS} {I I2 : zI} {J J2 : zJ} {r : Option Value} {h0 : Nat} {x1 : Int32} (h : Go d i_X12_areArcsAlike 0 [.ref h0, .int x1] [] S I J (z_eq r S2 I2 J2)) : z_ev (d + 1) i_X12_areArcsAlike [.ref h0, .int x1] S I J r S2 I2 J2 := Go.ev (Nat.le_of_ble_eq_true rfl) h
theorem b_X12_areArcsAlike_0 {d : Nat} {S : zS} {I : zI} {J : zJ} {Q : zQ} {h0 : Nat} {x1 : Int32} (g1 : z_kd S h0 = 13) (kk : z_wp d i_X12_steps [.ref h0, .int x1] S I J (fun vv SS II JJ => Go d i_X12_areArcsAlike 5 [.ref h0, .int x1] (vv.toList ++ []) SS II JJ Q)) : Go d i_X12_areArcsAlike 0 [.ref h0, .int x1] [] S I J Q := by
  have h := (And.intro g1 kk)
  exact Go.n tb_X12_areArcsAlike 3 h
theorem b_X12_areArcsAlike_5 {d : Nat} {S : zS} {I : zI} {J : zJ} {Q : zQ} {h0 : Nat} {x1 : Int32} {y0 : Int32} (kt : ¬ y0 = (0 : Int32) → Go d i_X12_areArcsAlike 10 [.ref h0, .int x1] [] S I J Q) (kf : y0 = (0 : Int32) → Go d i_X12_areArcsAlike 8 [.ref h0, .int x1] [] S I J Q) : Go d i_X12_areArcsAlike 5 [.ref h0, .int x1] [.int y0] S I J Q := by
  have h := (Go.eti kt kf)
  exact Go.n tb_X12_areArcsAlike 1 h
theorem b_X12_areArcsAlike_8 {d : Nat} {S : zS} {I : zI} {J : zJ} {Q : zQ} {h0 : Nat} {x1 : Int32} (g1 : z_fit 3 (0 : Int32)) (kk : Q (some (.int (0 : Int32))) S I J) : Go d i_X12_areArcsAlike 8 [.ref h0, .int x1] [] S I J Q := by
  have h := (And.intro g1 kk)
  exact Go.n tb_X12_areArcsAlike 2 h
theorem b_X12_areArcsAlike_10 {d : Nat} {S : zS} {I : zI} {J : zJ} {Q : zQ} {h0 : Nat} {x1 : Int32} (g1 : z_kd S h0 = 13) (kk : z_wp d i_X12_laysSame [.ref h0, .int x1] S I J (fun vv SS II JJ => Go d i_X12_areArcsAlike 15 [.ref h0, .int x1] (vv.toList ++ []) SS II JJ Q)) : Go d i_X12_areArcsAlike 10 [.ref h0, .int x1] [] S I J Q := by
  have h := (And.intro g1 kk)
  exact Go.n tb_X12_areArcsAlike 3 h
theorem b_X12_areArcsAlike_15 {d : Nat} {S : zS} {I : zI} {J : zJ} {Q : zQ} {h0 : Nat} {x1 : Int32} (g1 : z_kd S h0 = 13) (kk : z_wp d i_X12_steps [.ref h0, .int x1] S I J (fun vv SS II JJ => Go d i_X12_areArcsAlike 22 [.ref h0, .int x1] (vv.toList ++ [.int x1, .ref h0]) SS II JJ Q)) : Go d i_X12_areArcsAlike 15 [.ref h0, .int x1] [] S I J Q := by
  have h := (And.intro g1 kk)
  exact Go.n tb_X12_areArcsAlike 5 h
theorem b_X12_areArcsAlike_22 {d : Nat} {S : zS} {I : zI} {J : zJ} {Q : zQ} {h0 : Nat} {x1 : Int32} {q0 : Nat} {y1 : Int32} {y2 : Int32} (kk : z_wp d i_J6_numberOfTrailingZeros_0f7a4 [.int y2] S I J (fun vv SS II JJ => Go d i_X12_areArcsAlike 25 [.ref h0, .int x1] (vv.toList ++ [.int y1, .ref q0]) SS II JJ Q)) : Go d i_X12_areArcsAlike 22 [.ref h0, .int x1] [.int y2, .int y1, .ref q0] S I J Q := by
  have h := (And.intro trivial kk)
  exact Go.n tb_X12_areArcsAlike 1 h
theorem b_X12_areArcsAlike_25 {d : Nat} {S : zS} {I : zI} {J : zJ} {Q : zQ} {h0 : Nat} {x1 : Int32} {q0 : Nat} {y1 : Int32} {y2 : Int32} (g1 : z_kd S q0 = 13) (kk : z_wp d i_X12_alikeBits [.ref q0, .int y1, .int y2] S I J (fun vv SS II JJ => Go d i_X12_areArcsAlike 28 [.ref h0, .int x1] (vv.toList ++ []) SS II JJ Q)) : Go d i_X12_areArcsAlike 25 [.ref h0, .int x1] [.int y2, .int y1, .ref q0] S I J Q := by
  have h := (And.intro g1 kk)
  exact Go.n tb_X12_areArcsAlike 1 h
theorem b_X12_areArcsAlike_28 {d : Nat} {S : zS} {I : zI} {J : zJ} {Q : zQ} {h0 : Nat} {x1 : Int32} {y0 : Int32} (g1 : z_kd S h0 = 13) (kk : z_wp d i_X12_steps [.ref h0, .int x1] S I J (fun vv SS II JJ => Go d i_X12_areArcsAlike 33 [.ref h0, .int x1] (vv.toList ++ [.int y0]) SS II JJ Q)) : Go d i_X12_areArcsAlike 28 [.ref h0, .int x1] [.int y0] S I J Q := by
  have h := (And.intro g1 kk)
  exact Go.n tb_X12_areArcsAlike 3 h
theorem b_X12_areArcsAlike_33 {d : Nat} {S : zS} {I : zI} {J : zJ} {Q : zQ} {h0 : Nat} {x1 : Int32} {y0 : Int32} {y1 : Int32} (kt : ¬ y0 = y1 → Go d i_X12_areArcsAlike 40 [.ref h0, .int x1] [] S I J Q) (kf : y0 = y1 → Go d i_X12_areArcsAlike 36 [.ref h0, .int x1] [] S I J Q) : Go d i_X12_areArcsAlike 33 [.ref h0, .int x1] [.int y1, .int y0] S I J Q := by
  have h := (Go.eti kt kf)
  exact Go.n tb_X12_areArcsAlike 1 h
theorem b_X12_areArcsAlike_36 {d : Nat} {S : zS} {I : zI} {J : zJ} {Q : zQ} {h0 : Nat} {x1 : Int32} (g1 : z_fit 3 (1 : Int32)) (kk : Q (some (.int (1 : Int32))) S I J) : Go d i_X12_areArcsAlike 36 [.ref h0, .int x1] [] S I J Q := by
  have h := (And.intro g1 kk)
  exact Go.n tb_X12_areArcsAlike 3 h
theorem b_X12_areArcsAlike_40 {d : Nat} {S : zS} {I : zI} {J : zJ} {Q : zQ} {h0 : Nat} {x1 : Int32} (g1 : z_fit 3 (0 : Int32)) (kk : Q (some (.int (0 : Int32))) S I J) : Go d i_X12_areArcsAlike 40 [.ref h0, .int x1] [] S I J Q := by
  have h := (And.intro g1 kk)
  exact Go.n tb_X12_areArcsAlike 2 h
theorem w_X12_own {d : Nat} {S : zS} {I : zI} {J : zJ} {Q : zQ} {h0 : Nat} {x1 : Int32} (h : Go d i_X12_own 0 [.ref h0, .int x1] [] S I J Q) : z_wp (d + 1) i_X12_own [.ref h0, .int x1] S I J Q := Go.wp (Nat.le_of_ble_eq_true rfl) h
theorem e_X12_own {d : Nat} {S S2 : zS} {I I2 : zI} {J J2 : zJ} {r : Option Value} {h0 : Nat} {x1 : Int32} (h : Go d i_X12_own 0 [.ref h0, .int x1] [] S I J (z_eq r S2 I2 J2)) : z_ev (d + 1) i_X12_own [.ref h0, .int x1] S I J r S2 I2 J2 := Go.ev (Nat.le_of_ble_eq_true rfl) h
theorem b_X12_own_0 {d : Nat} {S : zS} {I : zI} {J : zJ} {Q : zQ} {h0 : Nat} {x1 : Int32} (g1 : z_kd S h0 = 13) (kk : z_wp d i_X12_laysMaps [.ref h0, .int x1, .int x1, .int (0 : Int32)] S I J (fun vv SS II JJ => Go d i_X12_own 7 [.ref h0, .int x1] (vv.toList ++ []) SS II JJ Q)) : Go d i_X12_own 0 [.ref h0, .int x1] [] S I J Q := by
  have h := (And.intro g1 kk)
  exact Go.n tb_X12_own 5 h
theorem b_X12_own_7 {d : Nat} {S : zS} {I : zI} {J : zJ} {Q : zQ} {h0 : Nat} {x1 : Int32} (g1 : z_kd S h0 = 13) (kk : Q (some (.int (I h0 27))) S I J) : Go d i_X12_own 7 [.ref h0, .int x1] [] S I J Q := by
  have h := (And.intro g1 (And.intro trivial kk))
  exact Go.n tb_X12_own 3 h
theorem w_X12_regular {d : Nat} {S : zS} {I : zI} {J : zJ} {Q : zQ} {h0 : Nat} {x1 : Int32} {x2 : Int32} (h : Go d i_X12_regular 0 [.ref h0, .int x1, .int x2] [] S I J Q) : z_wp (d + 1) i_X12_regular [.ref h0, .int x1, .int x2] S I J Q := Go.wp (Nat.le_of_ble_eq_true rfl) h
theorem e_X12_regular {d : Nat} {S S2 : zS} {I I2 : zI} {J J2 : zJ} {r : Option Value} {h0 : Nat} {x1 : Int32} {x2 : Int32} (h : Go d i_X12_regular 0 [.ref h0, .int x1, .int x2] [] S I J (z_eq r S2 I2 J2)) : z_ev (d + 1) i_X12_regular [.ref h0, .int x1, .int x2] S I J r S2 I2 J2 := Go.ev (Nat.le_of_ble_eq_true rfl) h
theorem b_X12_regular_0 {d : Nat} {S : zS} {I : zI} {J : zJ} {Q : zQ} {h0 : Nat} {x1 : Int32} {x2 : Int32} (g1 : z_kd S h0 = 13) (kk : z_wp d i_X12_isSlot [.int x1] S (z_u2 I h0 1 (0 : Int32)) J (fun vv SS II JJ => Go d i_X12_regular 9 [.ref h0, .int x1, .int x2] (vv.toList ++ []) SS II JJ Q)) : Go d i_X12_regular 0 [.ref h0, .int x1, .int x2] [] S I J Q := by
  have h := (And.intro g1 (And.intro trivial kk))
  exact Go.n tb_X12_regular 5 h
theorem b_X12_regular_9 {d : Nat} {S : zS} {I : zI} {J : zJ} {Q : zQ} {h0 : Nat} {x1 : Int32} {x2 : Int32} {y0 : Int32} (kt : ¬ y0 = (0 : Int32) → Go d i_X12_regular 15 [.ref h0, .int x1, .int x2] [] S I J Q) (kf : y0 = (0 : Int32) → Go d i_X12_regular 12 [.ref h0, .int x1, .int x2] [] S I J Q) : Go d i_X12_regular 9 [.ref h0, .int x1, .int x2] [.int y0] S I J Q := by
  have h := (Go.eti kt kf)
  exact Go.n tb_X12_regular 1 h
theorem b_X12_regular_12 {d : Nat} {S : zS} {I : zI} {J : zJ} {Q : zQ} {h0 : Nat} {x1 : Int32} {x2 : Int32} (kk : Q (some (.int (-2 : Int32))) S I J) : Go d i_X12_regular 12 [.ref h0, .int x1, .int x2] [] S I J Q := by
  have h := (And.intro trivial kk)
  exact Go.n tb_X12_regular 2 h
theorem b_X12_regular_15 {d : Nat} {S : zS} {I : zI} {J : zJ} {Q : zQ} {h0 : Nat} {x1 : Int32} {x2 : Int32} (kk : Go d i_X12_regular (z_sw [(0, 48), (1, 62), (2, 76), (3, 97)] 103 x2) [.ref h0, .int x1, .int x2] [] S I J Q) : Go d i_X12_regular 15 [.ref h0, .int x1, .int x2] [] S I J Q := by
  have h := kk
  exact Go.n tb_X12_regular 2 h
theorem b_X12_regular_48 {d : Nat} {S : zS} {I : zI} {J : zJ} {Q : zQ} {h0 : Nat} {x1 : Int32} {x2 : Int32} (g1 : z_kd S h0 = 13) (kk : z_wp d i_X12_areArcsAlike [.ref h0, .int x1] S I J (fun vv SS II JJ => Go d i_X12_regular 53 [.ref h0, .int x1, .int x2] (vv.toList ++ []) SS II JJ Q)) : Go d i_X12_regular 48 [.ref h0, .int x1, .int x2] [] S I J Q := by
  have h := (And.intro g1 kk)
  exact Go.n tb_X12_regular 3 h
theorem b_X12_regular_53 {d : Nat} {S : zS} {I : zI} {J : zJ} {Q : zQ} {h0 : Nat} {x1 : Int32} {x2 : Int32} {y0 : Int32} (kt : y0 = (0 : Int32) → Go d i_X12_regular 60 [.ref h0, .int x1, .int x2] [] S I J Q) (kf : ¬ y0 = (0 : Int32) → Go d i_X12_regular 56 [.ref h0, .int x1, .int x2] [] S I J Q) : Go d i_X12_regular 53 [.ref h0, .int x1, .int x2] [.int y0] S I J Q := by
  have h := (Go.ite kt kf)
  exact Go.n tb_X12_regular 1 h
theorem b_X12_regular_56 {d : Nat} {S : zS} {I : zI} {J : zJ} {Q : zQ} {h0 : Nat} {x1 : Int32} {x2 : Int32} (kk : Q (some (.int (1 : Int32))) S I J) : Go d i_X12_regular 56 [.ref h0, .int x1, .int x2] [] S I J Q := by
  have h := (And.intro trivial kk)
  exact Go.n tb_X12_regular 3 h
theorem b_X12_regular_60 {d : Nat} {S : zS} {I : zI} {J : zJ} {Q : zQ} {h0 : Nat} {x1 : Int32} {x2 : Int32} (kk : Q (some (.int (0 : Int32))) S I J) : Go d i_X12_regular 60 [.ref h0, .int x1, .int x2] [] S I J Q := by
  have h := (And.intro trivial kk)
  exact Go.n tb_X12_regular 2 h
theorem b_X12_regular_62 {d : Nat} {S : zS} {I : zI} {J : zJ} {Q : zQ} {h0 : Nat} {x1 : Int32} {x2 : Int32} (g1 : z_kd S h0 = 13) (kk : z_wp d i_X12_areFarAlike [.ref h0, .int x1] S I J (fun vv SS II JJ => Go d i_X12_regular 67 [.ref h0, .int x1, .int x2] (vv.toList ++ []) SS II JJ Q)) : Go d i_X12_regular 62 [.ref h0, .int x1, .int x2] [] S I J Q := by
  have h := (And.intro g1 kk)
  exact Go.n tb_X12_regular 3 h
theorem b_X12_regular_67 {d : Nat} {S : zS} {I : zI} {J : zJ} {Q : zQ} {h0 : Nat} {x1 : Int32} {x2 : Int32} {y0 : Int32} (kt : y0 = (0 : Int32) → Go d i_X12_regular 74 [.ref h0, .int x1, .int x2] [] S I J Q) (kf : ¬ y0 = (0 : Int32) → Go d i_X12_regular 70 [.ref h0, .int x1, .int x2] [] S I J Q) : Go d i_X12_regular 67 [.ref h0, .int x1, .int x2] [.int y0] S I J Q := by
  have h := (Go.ite kt kf)
  exact Go.n tb_X12_regular 1 h
theorem b_X12_regular_70 {d : Nat} {S : zS} {I : zI} {J : zJ} {Q : zQ} {h0 : Nat} {x1 : Int32} {x2 : Int32} (kk : Q (some (.int (1 : Int32))) S I J) : Go d i_X12_regular 70 [.ref h0, .int x1, .int x2] [] S I J Q := by
  have h := (And.intro trivial kk)
  exact Go.n tb_X12_regular 3 h
theorem b_X12_regular_74 {d : Nat} {S : zS} {I : zI} {J : zJ} {Q : zQ} {h0 : Nat} {x1 : Int32} {x2 : Int32} (kk : Q (some (.int (0 : Int32))) S I J) : Go d i_X12_regular 74 [.ref h0, .int x1, .int x2] [] S I J Q := by
  have h := (And.intro trivial kk)
  exact Go.n tb_X12_regular 2 h
theorem b_X12_regular_76 {d : Nat} {S : zS} {I : zI} {J : zJ} {Q : zQ} {h0 : Nat} {x1 : Int32} {x2 : Int32} (g1 : z_kd S h0 = 13) (kk : z_wp d i_X12_staying [.ref h0, .int x1] S I J (fun vv SS II JJ => Go d i_X12_regular 81 [.ref h0, .int x1, .int x2] (vv.toList ++ []) SS II JJ Q)) : Go d i_X12_regular 76 [.ref h0, .int x1, .int x2] [] S I J Q := by
  have h := (And.intro g1 kk)
  exact Go.n tb_X12_regular 3 h
theorem b_X12_regular_81 {d : Nat} {S : zS} {I : zI} {J : zJ} {Q : zQ} {h0 : Nat} {x1 : Int32} {x2 : Int32} {w0 : Int64} (g1 : z_kd S h0 = 13) (kk : z_wp d i_X12_own [.ref h0, .int x1] S I J (fun vv SS II JJ => Go d i_X12_regular 86 [.ref h0, .int x1, .int x2] (vv.toList ++ [.long w0]) SS II JJ Q)) : Go d i_X12_regular 81 [.ref h0, .int x1, .int x2] [.long w0] S I J Q := by
  have h := (And.intro g1 kk)
  exact Go.n tb_X12_regular 3 h
theorem b_X12_regular_86 {d : Nat} {S : zS} {I : zI} {J : zJ} {Q : zQ} {h0 : Nat} {x1 : Int32} {x2 : Int32} {w0 : Int64} {y1 : Int32} (kt : ¬ (lg_cmp w0 (Int32.toInt64 y1)) = (0 : Int32) → Go d i_X12_regular 95 [.ref h0, .int x1, .int x2] [] S I J Q) (kf : (lg_cmp w0 (Int32.toInt64 y1)) = (0 : Int32) → Go d i_X12_regular 91 [.ref h0, .int x1, .int x2] [] S I J Q) : Go d i_X12_regular 86 [.ref h0, .int x1, .int x2] [.int y1, .long w0] S I J Q := by
  have h := (Go.eti kt kf)
  exact Go.n tb_X12_regular 3 h
theorem b_X12_regular_91 {d : Nat} {S : zS} {I : zI} {J : zJ} {Q : zQ} {h0 : Nat} {x1 : Int32} {x2 : Int32} (kk : Q (some (.int (1 : Int32))) S I J) : Go d i_X12_regular 91 [.ref h0, .int x1, .int x2] [] S I J Q := by
  have h := (And.intro trivial kk)
  exact Go.n tb_X12_regular 3 h
theorem b_X12_regular_95 {d : Nat} {S : zS} {I : zI} {J : zJ} {Q : zQ} {h0 : Nat} {x1 : Int32} {x2 : Int32} (kk : Q (some (.int (0 : Int32))) S I J) : Go d i_X12_regular 95 [.ref h0, .int x1, .int x2] [] S I J Q := by
  have h := (And.intro trivial kk)
  exact Go.n tb_X12_regular 2 h
theorem b_X12_regular_97 {d : Nat} {S : zS} {I : zI} {J : zJ} {Q : zQ} {h0 : Nat} {x1 : Int32} {x2 : Int32} (g1 : z_kd S h0 = 13) (kk : z_wp d i_X12_own [.ref h0, .int x1] S I J (fun vv SS II JJ => Go d i_X12_regular 102 [.ref h0, .int x1, .int x2] (vv.toList ++ []) SS II JJ Q)) : Go d i_X12_regular 97 [.ref h0, .int x1, .int x2] [] S I J Q := by
  have h := (And.intro g1 kk)
  exact Go.n tb_X12_regular 3 h
theorem b_X12_regular_102 {d : Nat} {S : zS} {I : zI} {J : zJ} {Q : zQ} {h0 : Nat} {x1 : Int32} {x2 : Int32} {y0 : Int32} (kk : Q (some (.int y0)) S I J) : Go d i_X12_regular 102 [.ref h0, .int x1, .int x2] [.int y0] S I J Q := by
  have h := (And.intro trivial kk)
  exact Go.n tb_X12_regular 1 h
theorem b_X12_regular_103 {d : Nat} {S : zS} {I : zI} {J : zJ} {Q : zQ} {h0 : Nat} {x1 : Int32} {x2 : Int32} (kk : Q (some (.int (-2 : Int32))) S I J) : Go d i_X12_regular 103 [.ref h0, .int x1, .int x2] [] S I J Q := by
  have h := (And.intro trivial kk)
  exact Go.n tb_X12_regular 2 h
theorem w_X12_leads {d : Nat} {S : zS} {I : zI} {J : zJ} {Q : zQ} {h0 : Nat} {x1 : Int32} (h : Go d i_X12_leads 0 [.ref h0, .int x1, .retAddr 0, .retAddr 0, .retAddr 0] [] S I J Q) : z_wp (d + 1) i_X12_leads [.ref h0, .int x1] S I J Q := Go.wp (Nat.le_of_ble_eq_true rfl) h
theorem e_X12_leads {d : Nat} {S S2 : zS} {I I2 : zI} {J J2 : zJ} {r : Option Value} {h0 : Nat} {x1 : Int32} (h : Go d i_X12_leads 0 [.ref h0, .int x1, .retAddr 0, .retAddr 0, .retAddr 0] [] S I J (z_eq r S2 I2 J2)) : z_ev (d + 1) i_X12_leads [.ref h0, .int x1] S I J r S2 I2 J2 := Go.ev (Nat.le_of_ble_eq_true rfl) h
theorem b_X12_leads_0 {d : Nat} {S : zS} {I : zI} {J : zJ} {Q : zQ} {h0 : Nat} {x1 : Int32} {v2 : Value} {v3 : Value} {v4 : Value} (g1 : z_kd S h0 = 13) (kk : z_wp d i_X12_many [.ref h0, .int (0 : Int32)] S I J (fun vv SS II JJ => Go d i_X12_leads 5 [.ref h0, .int x1, v2, v3, v4] (vv.toList ++ []) SS II JJ Q)) : Go d i_X12_leads 0 [.ref h0, .int x1, v2, v3, v4] [] S I J Q := by
  have h := (And.intro g1 kk)
  exact Go.n tb_X12_leads 3 h
theorem b_X12_leads_5 {d : Nat} {S : zS} {I : zI} {J : zJ} {Q : zQ} {h0 : Nat} {x1 : Int32} {v2 : Value} {v3 : Value} {v4 : Value} {y0 : Int32} (g1 : z_kd S h0 = 13) (kk : z_wp d i_X12_many [.ref h0, .int (1 : Int32)] S I J (fun vv SS II JJ => Go d i_X12_leads 10 [.ref h0, .int x1, v2, v3, v4] (vv.toList ++ [.int y0]) SS II JJ Q)) : Go d i_X12_leads 5 [.ref h0, .int x1, v2, v3, v4] [.int y0] S I J Q := by
  have h := (And.intro g1 kk)
  exact Go.n tb_X12_leads 3 h
theorem b_X12_leads_10 {d : Nat} {S : zS} {I : zI} {J : zJ} {Q : zQ} {h0 : Nat} {x1 : Int32} {v2 : Value} {v3 : Value} {v4 : Value} {y0 : Int32} {y1 : Int32} (kt : ¬ y0 = y1 → Go d i_X12_leads 28 [.ref h0, .int x1, v2, v3, v4] [] S I J Q) (kf : y0 = y1 → Go d i_X12_leads 13 [.ref h0, .int x1, v2, v3, v4] [] S I J Q) : Go d i_X12_leads 10 [.ref h0, .int x1, v2, v3, v4] [.int y1, .int y0] S I J Q := by
  have h := (Go.eti kt kf)
  exact Go.n tb_X12_leads 1 h
theorem b_X12_leads_13 {d : Nat} {S : zS} {I : zI} {J : zJ} {Q : zQ} {h0 : Nat} {x1 : Int32} {v2 : Value} {v3 : Value} {v4 : Value} (g1 : z_kd S h0 = 13) (kk : z_wp d i_X12_steps [.ref h0, .int (0 : Int32)] S I J (fun vv SS II JJ => Go d i_X12_leads 18 [.ref h0, .int x1, v2, v3, v4] (vv.toList ++ []) SS II JJ Q)) : Go d i_X12_leads 13 [.ref h0, .int x1, v2, v3, v4] [] S I J Q := by
  have h := (And.intro g1 kk)
  exact Go.n tb_X12_leads 3 h
theorem b_X12_leads_18 {d : Nat} {S : zS} {I : zI} {J : zJ} {Q : zQ} {h0 : Nat} {x1 : Int32} {v2 : Value} {v3 : Value} {v4 : Value} {y0 : Int32} (kk : z_wp d i_X12_bits [.int y0] S I J (fun vv SS II JJ => Go d i_X12_leads 21 [.ref h0, .int x1, v2, v3, v4] (vv.toList ++ []) SS II JJ Q)) : Go d i_X12_leads 18 [.ref h0, .int x1, v2, v3, v4] [.int y0] S I J Q := by
  have h := (And.intro trivial kk)
  exact Go.n tb_X12_leads 1 h
theorem b_X12_leads_21 {d : Nat} {S : zS} {I : zI} {J : zJ} {Q : zQ} {h0 : Nat} {x1 : Int32} {v2 : Value} {v3 : Value} {v4 : Value} {y0 : Int32} (kk : z_wp d i_X12_bits [.int x1] S I J (fun vv SS II JJ => Go d i_X12_leads 25 [.ref h0, .int x1, v2, v3, v4] (vv.toList ++ [.int y0]) SS II JJ Q)) : Go d i_X12_leads 21 [.ref h0, .int x1, v2, v3, v4] [.int y0] S I J Q := by
  have h := (And.intro trivial kk)
  exact Go.n tb_X12_leads 2 h
theorem b_X12_leads_25 {d : Nat} {S : zS} {I : zI} {J : zJ} {Q : zQ} {h0 : Nat} {x1 : Int32} {v2 : Value} {v3 : Value} {v4 : Value} {y0 : Int32} {y1 : Int32} (kt : y0 = y1 → Go d i_X12_leads 30 [.ref h0, .int x1, v2, v3, v4] [] S I J Q) (kf : ¬ y0 = y1 → Go d i_X12_leads 28 [.ref h0, .int x1, v2, v3, v4] [] S I J Q) : Go d i_X12_leads 25 [.ref h0, .int x1, v2, v3, v4] [.int y1, .int y0] S I J Q := by
  have h := (Go.ite kt kf)
  exact Go.n tb_X12_leads 1 h
theorem b_X12_leads_28 {d : Nat} {S : zS} {I : zI} {J : zJ} {Q : zQ} {h0 : Nat} {x1 : Int32} {v2 : Value} {v3 : Value} {v4 : Value} (g1 : z_fit 3 (0 : Int32)) (kk : Q (some (.int (0 : Int32))) S I J) : Go d i_X12_leads 28 [.ref h0, .int x1, v2, v3, v4] [] S I J Q := by
  have h := (And.intro g1 kk)
  exact Go.n tb_X12_leads 2 h
theorem b_X12_leads_30 {d : Nat} {S : zS} {I : zI} {J : zJ} {Q : zQ} {h0 : Nat} {x1 : Int32} {v2 : Value} {v3 : Value} {v4 : Value} (g1 : z_kd S h0 = 13) (kk : z_wp d i_X12_laysFars [.ref h0, .int (1 : Int32), .int x1, .int (1 : Int32)] S I J (fun vv SS II JJ => Go d i_X12_leads 37 [.ref h0, .int x1, v2, v3, v4] (vv.toList ++ []) SS II JJ Q)) : Go d i_X12_leads 30 [.ref h0, .int x1, v2, v3, v4] [] S I J Q := by
  have h := (And.intro g1 kk)
  exact Go.n tb_X12_leads 5 h
theorem b_X12_leads_37 {d : Nat} {S : zS} {I : zI} {J : zJ} {Q : zQ} {h0 : Nat} {x1 : Int32} {v2 : Value} {v3 : Value} {v4 : Value} (kk : Go d i_X12_leads 39 [.ref h0, .int x1, .int (-1 : Int32), v3, v4] [] S I J Q) : Go d i_X12_leads 37 [.ref h0, .int x1, v2, v3, v4] [] S I J Q := by
  have h := kk
  exact Go.n tb_X12_leads 2 h
theorem b_X12_leads_39 {d : Nat} {S : zS} {I : zI} {J : zJ} {Q : zQ} {h0 : Nat} {x1 : Int32} {x2 : Int32} {v3 : Value} {v4 : Value} (kt : (20 : Int32) ≤ x2 → Go d i_X12_leads 117 [.ref h0, .int x1, .int x2, v3, v4] [] S I J Q) (kf : ¬ (20 : Int32) ≤ x2 → Go d i_X12_leads 45 [.ref h0, .int x1, .int x2, v3, v4] [] S I J Q) : Go d i_X12_leads 39 [.ref h0, .int x1, .int x2, v3, v4] [] S I J Q := by
  have h := (Go.ite kt kf)
  exact Go.n tb_X12_leads 3 h
theorem b_X12_leads_45 {d : Nat} {S : zS} {I : zI} {J : zJ} {Q : zQ} {h0 : Nat} {x1 : Int32} {x2 : Int32} {v3 : Value} {v4 : Value} (kk : Go d i_X12_leads 50 [.ref h0, .int x1, .int x2, .int (0 : Int32), .int (0 : Int32)] [] S I J Q) : Go d i_X12_leads 45 [.ref h0, .int x1, .int x2, v3, v4] [] S I J Q := by
  have h := kk
  exact Go.n tb_X12_leads 4 h
theorem b_X12_leads_50 {d : Nat} {S : zS} {I : zI} {J : zJ} {Q : zQ} {h0 : Nat} {x1 : Int32} {x2 : Int32} {x3 : Int32} {x4 : Int32} (g1 : z_kd S h0 = 13) (kk : z_wp d i_X12_many [.ref h0, .int (0 : Int32)] S I J (fun vv SS II JJ => Go d i_X12_leads 57 [.ref h0, .int x1, .int x2, .int x3, .int x4] (vv.toList ++ [.int x4]) SS II JJ Q)) : Go d i_X12_leads 50 [.ref h0, .int x1, .int x2, .int x3, .int x4] [] S I J Q := by
  have h := (And.intro g1 kk)
  exact Go.n tb_X12_leads 4 h
theorem b_X12_leads_57 {d : Nat} {S : zS} {I : zI} {J : zJ} {Q : zQ} {h0 : Nat} {x1 : Int32} {x2 : Int32} {x3 : Int32} {x4 : Int32} {y0 : Int32} {y1 : Int32} (kt : y1 ≤ y0 → Go d i_X12_leads 105 [.ref h0, .int x1, .int x2, .int x3, .int x4] [] S I J Q) (kf : ¬ y1 ≤ y0 → Go d i_X12_leads 60 [.ref h0, .int x1, .int x2, .int x3, .int x4] [] S I J Q) : Go d i_X12_leads 57 [.ref h0, .int x1, .int x2, .int x3, .int x4] [.int y1, .int y0] S I J Q := by
  have h := (Go.ite kt kf)
  exact Go.n tb_X12_leads 1 h
theorem b_X12_leads_60 {d : Nat} {S : zS} {I : zI} {J : zJ} {Q : zQ} {h0 : Nat} {x1 : Int32} {x2 : Int32} {x3 : Int32} {x4 : Int32} (g1 : z_kd S h0 = 13) (g2 : z_isI (z_kd S (z_rv S h0 29)) = true ∧ vp_in x4 (z_ln S (z_rv S h0 29))) (kt : ¬ (I (z_rv S h0 29) (Int32.toNatClampNeg x4)) = x2 → Go d i_X12_leads 76 [.ref h0, .int x1, .int x2, .int x3, .int x4] [.int x3] S I J Q) (kf : (I (z_rv S h0 29) (Int32.toNatClampNeg x4)) = x2 → Go d i_X12_leads 72 [.ref h0, .int x1, .int x2, .int x3, .int x4] [.int x3] S I J Q) : Go d i_X12_leads 60 [.ref h0, .int x1, .int x2, .int x3, .int x4] [] S I J Q := by
  have h := (And.intro g1 (And.intro g2 (Go.eti kt kf)))
  exact Go.n tb_X12_leads 7 h
theorem b_X12_leads_72 {d : Nat} {S : zS} {I : zI} {J : zJ} {Q : zQ} {h0 : Nat} {x1 : Int32} {x2 : Int32} {x3 : Int32} {x4 : Int32} {y0 : Int32} (g1 : z_kd S h0 = 13) (g2 : z_isI (z_kd S (z_rv S h0 29)) = true ∧ vp_in ((20 : Int32) + x4) (z_ln S (z_rv S h0 29))) (kt : ¬ (I (z_rv S h0 29) (Int32.toNatClampNeg ((20 : Int32) + x4))) = x2 → Go d i_X12_leads 95 [.ref h0, .int x1, .int x2, .int x3, .int x4] [.int (1 : Int32), .int y0] S I J Q) (kf : (I (z_rv S h0 29) (Int32.toNatClampNeg ((20 : Int32) + x4))) = x2 → Go d i_X12_leads 91 [.ref h0, .int x1, .int x2, .int x3, .int x4] [.int (1 : Int32), .int y0] S I J Q) : Go d i_X12_leads 72 [.ref h0, .int x1, .int x2, .int x3, .int x4] [.int y0] S I J Q := by
  have h := (And.intro g1 (And.intro g2 (Go.eti kt kf)))
  exact Go.n tb_X12_leads 10 h
theorem b_X12_leads_76 {d : Nat} {S : zS} {I : zI} {J : zJ} {Q : zQ} {h0 : Nat} {x1 : Int32} {x2 : Int32} {x3 : Int32} {x4 : Int32} {y0 : Int32} (g1 : z_kd S h0 = 13) (g2 : z_isI (z_kd S (z_rv S h0 29)) = true ∧ vp_in ((20 : Int32) + x4) (z_ln S (z_rv S h0 29))) (kt : ¬ (I (z_rv S h0 29) (Int32.toNatClampNeg ((20 : Int32) + x4))) = x2 → Go d i_X12_leads 95 [.ref h0, .int x1, .int x2, .int x3, .int x4] [.int (0 : Int32), .int y0] S I J Q) (kf : (I (z_rv S h0 29) (Int32.toNatClampNeg ((20 : Int32) + x4))) = x2 → Go d i_X12_leads 91 [.ref h0, .int x1, .int x2, .int x3, .int x4] [.int (0 : Int32), .int y0] S I J Q) : Go d i_X12_leads 76 [.ref h0, .int x1, .int x2, .int x3, .int x4] [.int y0] S I J Q := by
  have h := (And.intro g1 (And.intro g2 (Go.eti kt kf)))
  exact Go.n tb_X12_leads 9 h
theorem b_X12_leads_91 {d : Nat} {S : zS} {I : zI} {J : zJ} {Q : zQ} {h0 : Nat} {x1 : Int32} {x2 : Int32} {x3 : Int32} {x4 : Int32} {y0 : Int32} {y1 : Int32} (kk : Go d i_X12_leads 50 [.ref h0, .int x1, .int x2, .int (y0 + (y1 - (1 : Int32))), .int (x4 + (1 : Int32))] [] S I J Q) : Go d i_X12_leads 91 [.ref h0, .int x1, .int x2, .int x3, .int x4] [.int y1, .int y0] S I J Q := by
  have h := kk
  exact Go.n tb_X12_leads 7 h
theorem b_X12_leads_95 {d : Nat} {S : zS} {I : zI} {J : zJ} {Q : zQ} {h0 : Nat} {x1 : Int32} {x2 : Int32} {x3 : Int32} {x4 : Int32} {y0 : Int32} {y1 : Int32} (kk : Go d i_X12_leads 50 [.ref h0, .int x1, .int x2, .int (y0 + (y1 - (0 : Int32))), .int (x4 + (1 : Int32))] [] S I J Q) : Go d i_X12_leads 95 [.ref h0, .int x1, .int x2, .int x3, .int x4] [.int y1, .int y0] S I J Q := by
  have h := kk
  exact Go.n tb_X12_leads 6 h
theorem b_X12_leads_105 {d : Nat} {S : zS} {I : zI} {J : zJ} {Q : zQ} {h0 : Nat} {x1 : Int32} {x2 : Int32} {x3 : Int32} {x4 : Int32} (kt : x3 = (0 : Int32) → Go d i_X12_leads 111 [.ref h0, .int x1, .int x2, .int x3, .int x4] [] S I J Q) (kf : ¬ x3 = (0 : Int32) → Go d i_X12_leads 109 [.ref h0, .int x1, .int x2, .int x3, .int x4] [] S I J Q) : Go d i_X12_leads 105 [.ref h0, .int x1, .int x2, .int x3, .int x4] [] S I J Q := by
  have h := (Go.ite kt kf)
  exact Go.n tb_X12_leads 2 h
theorem b_X12_leads_109 {d : Nat} {S : zS} {I : zI} {J : zJ} {Q : zQ} {h0 : Nat} {x1 : Int32} {x2 : Int32} {x3 : Int32} {x4 : Int32} (g1 : z_fit 3 (0 : Int32)) (kk : Q (some (.int (0 : Int32))) S I J) : Go d i_X12_leads 109 [.ref h0, .int x1, .int x2, .int x3, .int x4] [] S I J Q := by
  have h := (And.intro g1 kk)
  exact Go.n tb_X12_leads 2 h
theorem b_X12_leads_111 {d : Nat} {S : zS} {I : zI} {J : zJ} {Q : zQ} {h0 : Nat} {x1 : Int32} {x2 : Int32} {x3 : Int32} {x4 : Int32} (kk : Go d i_X12_leads 39 [.ref h0, .int x1, .int (x2 + (1 : Int32)), .int x3, .int x4] [] S I J Q) : Go d i_X12_leads 111 [.ref h0, .int x1, .int x2, .int x3, .int x4] [] S I J Q := by
  have h := kk
  exact Go.n tb_X12_leads 2 h
theorem b_X12_leads_117 {d : Nat} {S : zS} {I : zI} {J : zJ} {Q : zQ} {h0 : Nat} {x1 : Int32} {x2 : Int32} {v3 : Value} {v4 : Value} (g1 : z_kd S h0 = 13) (g2 : z_kd S (z_rv S h0 31) = 100 ∧ vp_in (0 : Int32) (z_ln S (z_rv S h0 31))) (g3 : z_kd S h0 = 13) (g4 : z_kd S h0 = 13) (kk : z_wp d i_X12_many [.ref h0, .int (0 : Int32)] S (z_u2 (z_u2 I (z_rv S h0 31) (Int32.toNatClampNeg (0 : Int32)) (0 : Int32)) h0 33 (1 : Int32)) J (fun vv SS II JJ => Go d i_X12_leads 136 [.ref h0, .int x1, .int x2, v3, v4] (vv.toList ++ [.int (1 : Int32), .ref h0]) SS II JJ Q)) : Go d i_X12_leads 117 [.ref h0, .int x1, .int x2, v3, v4] [] S I J Q := by
  have h := (And.intro g1 (And.intro g2 (And.intro g3 (And.intro g4 kk))))
  exact Go.n tb_X12_leads 13 h
theorem b_X12_leads_136 {d : Nat} {S : zS} {I : zI} {J : zJ} {Q : zQ} {h0 : Nat} {x1 : Int32} {x2 : Int32} {v3 : Value} {v4 : Value} {q0 : Nat} {y1 : Int32} {y2 : Int32} (g1 : z_kd S q0 = 13) (kk : z_wp d i_X12_goesOn [.ref q0, .int y1, .int y2] S I J (fun vv SS II JJ => Go d i_X12_leads 139 [.ref h0, .int x1, .int x2, v3, v4] (vv.toList ++ []) SS II JJ Q)) : Go d i_X12_leads 136 [.ref h0, .int x1, .int x2, v3, v4] [.int y2, .int y1, .ref q0] S I J Q := by
  have h := (And.intro g1 kk)
  exact Go.n tb_X12_leads 1 h
theorem b_X12_leads_139 {d : Nat} {S : zS} {I : zI} {J : zJ} {Q : zQ} {h0 : Nat} {x1 : Int32} {x2 : Int32} {v3 : Value} {v4 : Value} {y0 : Int32} (g1 : z_fit 3 y0) (kk : Q (some (.int y0)) S I J) : Go d i_X12_leads 139 [.ref h0, .int x1, .int x2, v3, v4] [.int y0] S I J Q := by
  have h := (And.intro g1 kk)
  exact Go.n tb_X12_leads 1 h
theorem w_X12_alike {d : Nat} {S : zS} {I : zI} {J : zJ} {Q : zQ} {h0 : Nat} {x1 : Int32} (h : Go d i_X12_alike 0 [.ref h0, .int x1] [] S I J Q) : z_wp (d + 1) i_X12_alike [.ref h0, .int x1] S I J Q := Go.wp (Nat.le_of_ble_eq_true rfl) h
theorem e_X12_alike {d : Nat} {S S2 : zS} {I I2 : zI} {J J2 : zJ} {r : Option Value} {h0 : Nat} {x1 : Int32} (h : Go d i_X12_alike 0 [.ref h0, .int x1] [] S I J (z_eq r S2 I2 J2)) : z_ev (d + 1) i_X12_alike [.ref h0, .int x1] S I J r S2 I2 J2 := Go.ev (Nat.le_of_ble_eq_true rfl) h
theorem b_X12_alike_0 {d : Nat} {S : zS} {I : zI} {J : zJ} {Q : zQ} {h0 : Nat} {x1 : Int32} (g1 : z_kd S h0 = 13) (g2 : z_kd S h0 = 13) (kk : z_wp d i_X12_isElement [.ref h0, .int (0 : Int32), .int x1] S (z_u2 I h0 1 (0 : Int32)) J (fun vv SS II JJ => Go d i_X12_alike 11 [.ref h0, .int x1] (vv.toList ++ []) SS II JJ Q)) : Go d i_X12_alike 0 [.ref h0, .int x1] [] S I J Q := by
  have h := (And.intro g1 (And.intro g2 kk))
  exact Go.n tb_X12_alike 7 h
theorem b_X12_alike_11 {d : Nat} {S : zS} {I : zI} {J : zJ} {Q : zQ} {h0 : Nat} {x1 : Int32} {y0 : Int32} (kt : ¬ y0 = (0 : Int32) → Go d i_X12_alike 17 [.ref h0, .int x1] [] S I J Q) (kf : y0 = (0 : Int32) → Go d i_X12_alike 14 [.ref h0, .int x1] [] S I J Q) : Go d i_X12_alike 11 [.ref h0, .int x1] [.int y0] S I J Q := by
  have h := (Go.eti kt kf)
  exact Go.n tb_X12_alike 1 h
theorem b_X12_alike_14 {d : Nat} {S : zS} {I : zI} {J : zJ} {Q : zQ} {h0 : Nat} {x1 : Int32} (kk : Q (some (.int (-2 : Int32))) S I J) : Go d i_X12_alike 14 [.ref h0, .int x1] [] S I J Q := by
  have h := (And.intro trivial kk)
  exact Go.n tb_X12_alike 2 h
theorem b_X12_alike_17 {d : Nat} {S : zS} {I : zI} {J : zJ} {Q : zQ} {h0 : Nat} {x1 : Int32} (g1 : z_kd S h0 = 13) (kk : z_wp d i_X12_steps [.ref h0, .int (0 : Int32)] S I J (fun vv SS II JJ => Go d i_X12_alike 24 [.ref h0, .int x1] (vv.toList ++ [.int (0 : Int32), .ref h0]) SS II JJ Q)) : Go d i_X12_alike 17 [.ref h0, .int x1] [] S I J Q := by
  have h := (And.intro g1 kk)
  exact Go.n tb_X12_alike 5 h
theorem b_X12_alike_24 {d : Nat} {S : zS} {I : zI} {J : zJ} {Q : zQ} {h0 : Nat} {x1 : Int32} {q0 : Nat} {y1 : Int32} {y2 : Int32} (g1 : z_kd S q0 = 13) (kk : z_wp d i_X12_laysFars [.ref q0, .int y1, .int y2, .int (0 : Int32)] S I J (fun vv SS II JJ => Go d i_X12_alike 28 [.ref h0, .int x1] (vv.toList ++ []) SS II JJ Q)) : Go d i_X12_alike 24 [.ref h0, .int x1] [.int y2, .int y1, .ref q0] S I J Q := by
  have h := (And.intro g1 kk)
  exact Go.n tb_X12_alike 2 h
theorem b_X12_alike_28 {d : Nat} {S : zS} {I : zI} {J : zJ} {Q : zQ} {h0 : Nat} {x1 : Int32} (g1 : z_kd S h0 = 13) (kk : z_wp d i_X12_steps [.ref h0, .int (1 : Int32)] S I J (fun vv SS II JJ => Go d i_X12_alike 34 [.ref h0, .int x1] (vv.toList ++ [.ref h0]) SS II JJ Q)) : Go d i_X12_alike 28 [.ref h0, .int x1] [] S I J Q := by
  have h := (And.intro g1 kk)
  exact Go.n tb_X12_alike 4 h
theorem b_X12_alike_34 {d : Nat} {S : zS} {I : zI} {J : zJ} {Q : zQ} {h0 : Nat} {x1 : Int32} {q0 : Nat} {y1 : Int32} (g1 : z_kd S q0 = 13) (kk : z_wp d i_X12_leads [.ref q0, .int y1] S I J (fun vv SS II JJ => Go d i_X12_alike 37 [.ref h0, .int x1] (vv.toList ++ []) SS II JJ Q)) : Go d i_X12_alike 34 [.ref h0, .int x1] [.int y1, .ref q0] S I J Q := by
  have h := (And.intro g1 kk)
  exact Go.n tb_X12_alike 1 h
theorem b_X12_alike_37 {d : Nat} {S : zS} {I : zI} {J : zJ} {Q : zQ} {h0 : Nat} {x1 : Int32} {y0 : Int32} (kt : y0 = (0 : Int32) → Go d i_X12_alike 49 [.ref h0, .int x1] [] S I J Q) (kf : ¬ y0 = (0 : Int32) → Go d i_X12_alike 40 [.ref h0, .int x1] [] S I J Q) : Go d i_X12_alike 37 [.ref h0, .int x1] [.int y0] S I J Q := by
  have h := (Go.ite kt kf)
  exact Go.n tb_X12_alike 1 h
theorem b_X12_alike_40 {d : Nat} {S : zS} {I : zI} {J : zJ} {Q : zQ} {h0 : Nat} {x1 : Int32} (g1 : z_kd S h0 = 13) (g2 : z_isI (z_kd S (z_rv S h0 31)) = true ∧ vp_in x1 (z_ln S (z_rv S h0 31))) (kk : Q (some (.int (I (z_rv S h0 31) (Int32.toNatClampNeg x1)))) S I J) : Go d i_X12_alike 40 [.ref h0, .int x1] [] S I J Q := by
  have h := (And.intro g1 (And.intro g2 (And.intro trivial kk)))
  exact Go.n tb_X12_alike 6 h
theorem b_X12_alike_49 {d : Nat} {S : zS} {I : zI} {J : zJ} {Q : zQ} {h0 : Nat} {x1 : Int32} (kk : Q (some (.int (-1 : Int32))) S I J) : Go d i_X12_alike 49 [.ref h0, .int x1] [] S I J Q := by
  have h := (And.intro trivial kk)
  exact Go.n tb_X12_alike 2 h
theorem w_X12_other {d : Nat} {S : zS} {I : zI} {J : zJ} {Q : zQ} {h0 : Nat} (h : Go d i_X12_other 0 [.ref h0, .retAddr 0] [] S I J Q) : z_wp (d + 1) i_X12_other [.ref h0] S I J Q := Go.wp (Nat.le_of_ble_eq_true rfl) h
theorem e_X12_other {d : Nat} {S S2 : zS} {I I2 : zI} {J J2 : zJ} {r : Option Value} {h0 : Nat} (h : Go d i_X12_other 0 [.ref h0, .retAddr 0] [] S I J (z_eq r S2 I2 J2)) : z_ev (d + 1) i_X12_other [.ref h0] S I J r S2 I2 J2 := Go.ev (Nat.le_of_ble_eq_true rfl) h
theorem b_X12_other_0 {d : Nat} {S : zS} {I : zI} {J : zJ} {Q : zQ} {h0 : Nat} {v1 : Value} (g1 : z_kd S h0 = 13) (g2 : z_kd S h0 = 13) (kk : z_wp d i_X12_many [.ref h0, .int (0 : Int32)] S (z_u2 I h0 1 (0 : Int32)) J (fun vv SS II JJ => Go d i_X12_other 10 [.ref h0, v1] (vv.toList ++ []) SS II JJ Q)) : Go d i_X12_other 0 [.ref h0, v1] [] S I J Q := by
  have h := (And.intro g1 (And.intro g2 kk))
  exact Go.n tb_X12_other 6 h
theorem b_X12_other_10 {d : Nat} {S : zS} {I : zI} {J : zJ} {Q : zQ} {h0 : Nat} {v1 : Value} {y0 : Int32} (g1 : z_kd S h0 = 13) (kk : z_wp d i_X12_many [.ref h0, .int (1 : Int32)] S I J (fun vv SS II JJ => Go d i_X12_other 15 [.ref h0, v1] (vv.toList ++ [.int y0]) SS II JJ Q)) : Go d i_X12_other 10 [.ref h0, v1] [.int y0] S I J Q := by
  have h := (And.intro g1 kk)
  exact Go.n tb_X12_other 3 h
theorem b_X12_other_15 {d : Nat} {S : zS} {I : zI} {J : zJ} {Q : zQ} {h0 : Nat} {v1 : Value} {y0 : Int32} {y1 : Int32} (kt : y0 = y1 → Go d i_X12_other 21 [.ref h0, v1] [] S I J Q) (kf : ¬ y0 = y1 → Go d i_X12_other 18 [.ref h0, v1] [] S I J Q) : Go d i_X12_other 15 [.ref h0, v1] [.int y1, .int y0] S I J Q := by
  have h := (Go.ite kt kf)
  exact Go.n tb_X12_other 1 h
theorem b_X12_other_18 {d : Nat} {S : zS} {I : zI} {J : zJ} {Q : zQ} {h0 : Nat} {v1 : Value} (kk : Q (some (.int (-5 : Int32))) S I J) : Go d i_X12_other 18 [.ref h0, v1] [] S I J Q := by
  have h := (And.intro trivial kk)
  exact Go.n tb_X12_other 2 h
theorem b_X12_other_21 {d : Nat} {S : zS} {I : zI} {J : zJ} {Q : zQ} {h0 : Nat} {v1 : Value} (g1 : z_kd S h0 = 13) (kk : z_wp d i_X12_steps [.ref h0, .int (0 : Int32)] S I J (fun vv SS II JJ => Go d i_X12_other 26 [.ref h0, v1] (vv.toList ++ []) SS II JJ Q)) : Go d i_X12_other 21 [.ref h0, v1] [] S I J Q := by
  have h := (And.intro g1 kk)
  exact Go.n tb_X12_other 3 h
theorem b_X12_other_26 {d : Nat} {S : zS} {I : zI} {J : zJ} {Q : zQ} {h0 : Nat} {v1 : Value} {y0 : Int32} (kk : z_wp d i_X12_bits [.int y0] S I J (fun vv SS II JJ => Go d i_X12_other 29 [.ref h0, v1] (vv.toList ++ []) SS II JJ Q)) : Go d i_X12_other 26 [.ref h0, v1] [.int y0] S I J Q := by
  have h := (And.intro trivial kk)
  exact Go.n tb_X12_other 1 h
theorem b_X12_other_29 {d : Nat} {S : zS} {I : zI} {J : zJ} {Q : zQ} {h0 : Nat} {v1 : Value} {y0 : Int32} (kt : y0 ≤ (4 : Int32) → Go d i_X12_other 36 [.ref h0, v1] [] S I J Q) (kf : ¬ y0 ≤ (4 : Int32) → Go d i_X12_other 33 [.ref h0, v1] [] S I J Q) : Go d i_X12_other 29 [.ref h0, v1] [.int y0] S I J Q := by
  have h := (Go.ite kt kf)
  exact Go.n tb_X12_other 2 h
theorem b_X12_other_33 {d : Nat} {S : zS} {I : zI} {J : zJ} {Q : zQ} {h0 : Nat} {v1 : Value} (kk : Q (some (.int (-4 : Int32))) S I J) : Go d i_X12_other 33 [.ref h0, v1] [] S I J Q := by
  have h := (And.intro trivial kk)
  exact Go.n tb_X12_other 2 h
theorem b_X12_other_36 {d : Nat} {S : zS} {I : zI} {J : zJ} {Q : zQ} {h0 : Nat} {v1 : Value} (g1 : z_kd S h0 = 13) (kk : z_wp d i_X12_steps [.ref h0, .int (0 : Int32)] S I J (fun vv SS II JJ => Go d i_X12_other 43 [.ref h0, v1] (vv.toList ++ [.int (0 : Int32), .ref h0]) SS II JJ Q)) : Go d i_X12_other 36 [.ref h0, v1] [] S I J Q := by
  have h := (And.intro g1 kk)
  exact Go.n tb_X12_other 5 h
theorem b_X12_other_43 {d : Nat} {S : zS} {I : zI} {J : zJ} {Q : zQ} {h0 : Nat} {v1 : Value} {q0 : Nat} {y1 : Int32} {y2 : Int32} (g1 : z_kd S q0 = 13) (kk : z_wp d i_X12_laysFars [.ref q0, .int y1, .int y2, .int (0 : Int32)] S I J (fun vv SS II JJ => Go d i_X12_other 47 [.ref h0, v1] (vv.toList ++ []) SS II JJ Q)) : Go d i_X12_other 43 [.ref h0, v1] [.int y2, .int y1, .ref q0] S I J Q := by
  have h := (And.intro g1 kk)
  exact Go.n tb_X12_other 2 h
theorem b_X12_other_47 {d : Nat} {S : zS} {I : zI} {J : zJ} {Q : zQ} {h0 : Nat} {v1 : Value} (kk : Go d i_X12_other 49 [.ref h0, .int (0 : Int32)] [] S I J Q) : Go d i_X12_other 47 [.ref h0, v1] [] S I J Q := by
  have h := kk
  exact Go.n tb_X12_other 2 h
theorem b_X12_other_49 {d : Nat} {S : zS} {I : zI} {J : zJ} {Q : zQ} {h0 : Nat} {x1 : Int32} (g1 : z_kd S h0 = 13) (kk : z_wp d i_X12_many [.ref h0, .int (1 : Int32)] S I J (fun vv SS II JJ => Go d i_X12_other 56 [.ref h0, .int x1] (vv.toList ++ [.int (1 : Int32), .int x1]) SS II JJ Q)) : Go d i_X12_other 49 [.ref h0, .int x1] [] S I J Q := by
  have h := (And.intro g1 kk)
  exact Go.n tb_X12_other 5 h
theorem b_X12_other_56 {d : Nat} {S : zS} {I : zI} {J : zJ} {Q : zQ} {h0 : Nat} {x1 : Int32} {y0 : Int32} {y1 : Int32} {y2 : Int32} (kt : (y1 <<< (y2 &&& 31)) ≤ y0 → Go d i_X12_other 91 [.ref h0, .int x1] [] S I J Q) (kf : ¬ (y1 <<< (y2 &&& 31)) ≤ y0 → Go d i_X12_other 60 [.ref h0, .int x1] [] S I J Q) : Go d i_X12_other 56 [.ref h0, .int x1] [.int y2, .int y1, .int y0] S I J Q := by
  have h := (Go.ite kt kf)
  exact Go.n tb_X12_other 2 h
theorem b_X12_other_60 {d : Nat} {S : zS} {I : zI} {J : zJ} {Q : zQ} {h0 : Nat} {x1 : Int32} (kk : z_wp d i_X12_bits [.int x1] S I J (fun vv SS II JJ => Go d i_X12_other 64 [.ref h0, .int x1] (vv.toList ++ []) SS II JJ Q)) : Go d i_X12_other 60 [.ref h0, .int x1] [] S I J Q := by
  have h := (And.intro trivial kk)
  exact Go.n tb_X12_other 2 h
theorem b_X12_other_64 {d : Nat} {S : zS} {I : zI} {J : zJ} {Q : zQ} {h0 : Nat} {x1 : Int32} {y0 : Int32} (g1 : z_kd S h0 = 13) (kk : z_wp d i_X12_steps [.ref h0, .int (0 : Int32)] S I J (fun vv SS II JJ => Go d i_X12_other 69 [.ref h0, .int x1] (vv.toList ++ [.int y0]) SS II JJ Q)) : Go d i_X12_other 64 [.ref h0, .int x1] [.int y0] S I J Q := by
  have h := (And.intro g1 kk)
  exact Go.n tb_X12_other 3 h
theorem b_X12_other_69 {d : Nat} {S : zS} {I : zI} {J : zJ} {Q : zQ} {h0 : Nat} {x1 : Int32} {y0 : Int32} {y1 : Int32} (kk : z_wp d i_X12_bits [.int y1] S I J (fun vv SS II JJ => Go d i_X12_other 72 [.ref h0, .int x1] (vv.toList ++ [.int y0]) SS II JJ Q)) : Go d i_X12_other 69 [.ref h0, .int x1] [.int y1, .int y0] S I J Q := by
  have h := (And.intro trivial kk)
  exact Go.n tb_X12_other 1 h
theorem b_X12_other_72 {d : Nat} {S : zS} {I : zI} {J : zJ} {Q : zQ} {h0 : Nat} {x1 : Int32} {y0 : Int32} {y1 : Int32} (kt : ¬ y0 = y1 → Go d i_X12_other 85 [.ref h0, .int x1] [] S I J Q) (kf : y0 = y1 → Go d i_X12_other 75 [.ref h0, .int x1] [] S I J Q) : Go d i_X12_other 72 [.ref h0, .int x1] [.int y1, .int y0] S I J Q := by
  have h := (Go.eti kt kf)
  exact Go.n tb_X12_other 1 h
theorem b_X12_other_75 {d : Nat} {S : zS} {I : zI} {J : zJ} {Q : zQ} {h0 : Nat} {x1 : Int32} (g1 : z_kd S h0 = 13) (kk : z_wp d i_X12_leads [.ref h0, .int x1] S I J (fun vv SS II JJ => Go d i_X12_other 80 [.ref h0, .int x1] (vv.toList ++ []) SS II JJ Q)) : Go d i_X12_other 75 [.ref h0, .int x1] [] S I J Q := by
  have h := (And.intro g1 kk)
  exact Go.n tb_X12_other 3 h
theorem b_X12_other_80 {d : Nat} {S : zS} {I : zI} {J : zJ} {Q : zQ} {h0 : Nat} {x1 : Int32} {y0 : Int32} (kt : y0 = (0 : Int32) → Go d i_X12_other 85 [.ref h0, .int x1] [] S I J Q) (kf : ¬ y0 = (0 : Int32) → Go d i_X12_other 83 [.ref h0, .int x1] [] S I J Q) : Go d i_X12_other 80 [.ref h0, .int x1] [.int y0] S I J Q := by
  have h := (Go.ite kt kf)
  exact Go.n tb_X12_other 1 h
theorem b_X12_other_83 {d : Nat} {S : zS} {I : zI} {J : zJ} {Q : zQ} {h0 : Nat} {x1 : Int32} (kk : Q (some (.int x1)) S I J) : Go d i_X12_other 83 [.ref h0, .int x1] [] S I J Q := by
  have h := (And.intro trivial kk)
  exact Go.n tb_X12_other 2 h
theorem b_X12_other_85 {d : Nat} {S : zS} {I : zI} {J : zJ} {Q : zQ} {h0 : Nat} {x1 : Int32} (kk : Go d i_X12_other 49 [.ref h0, .int (x1 + (2 : Int32))] [] S I J Q) : Go d i_X12_other 85 [.ref h0, .int x1] [] S I J Q := by
  have h := kk
  exact Go.n tb_X12_other 2 h
theorem b_X12_other_91 {d : Nat} {S : zS} {I : zI} {J : zJ} {Q : zQ} {h0 : Nat} {x1 : Int32} (kk : Q (some (.int (-1 : Int32))) S I J) : Go d i_X12_other 91 [.ref h0, .int x1] [] S I J Q := by
  have h := (And.intro trivial kk)
  exact Go.n tb_X12_other 2 h
theorem w_X12_digit {d : Nat} {S : zS} {I : zI} {J : zJ} {Q : zQ} {x0 : Int32} {x1 : Int32} (h : Go d i_X12_digit 0 [.int x0, .int x1] [] S I J Q) : z_wp (d + 1) i_X12_digit [.int x0, .int x1] S I J Q := Go.wp (Nat.le_of_ble_eq_true rfl) h
theorem e_X12_digit {d : Nat} {S S2 : zS} {I I2 : zI} {J J2 : zJ} {r : Option Value} {x0 : Int32} {x1 : Int32} (h : Go d i_X12_digit 0 [.int x0, .int x1] [] S I J (z_eq r S2 I2 J2)) : z_ev (d + 1) i_X12_digit [.int x0, .int x1] S I J r S2 I2 J2 := Go.ev (Nat.le_of_ble_eq_true rfl) h
theorem b_X12_digit_0 {d : Nat} {S : zS} {I : zI} {J : zJ} {Q : zQ} {x0 : Int32} {x1 : Int32} (kt : (10 : Int32) ≤ x0 → Go d i_X12_digit 13 [.int x0, .int x1] [] S I J Q) (kf : ¬ (10 : Int32) ≤ x0 → Go d i_X12_digit 6 [.int x0, .int x1] [] S I J Q) : Go d i_X12_digit 0 [.int x0, .int x1] [] S I J Q := by
  have h := (Go.ite kt kf)
  exact Go.n tb_X12_digit 3 h
theorem b_X12_digit_6 {d : Nat} {S : zS} {I : zI} {J : zJ} {Q : zQ} {x0 : Int32} {x1 : Int32} (kk : Q (some (.int ((48 : Int32) + x0))) S I J) : Go d i_X12_digit 6 [.int x0, .int x1] [] S I J Q := by
  have h := (And.intro trivial kk)
  exact Go.n tb_X12_digit 5 h
theorem b_X12_digit_13 {d : Nat} {S : zS} {I : zI} {J : zJ} {Q : zQ} {x0 : Int32} {x1 : Int32} (kt : ¬ x1 = (0 : Int32) → Go d i_X12_digit 27 [.int x0, .int x1] [] S I J Q) (kf : x1 = (0 : Int32) → Go d i_X12_digit 17 [.int x0, .int x1] [] S I J Q) : Go d i_X12_digit 13 [.int x0, .int x1] [] S I J Q := by
  have h := (Go.eti kt kf)
  exact Go.n tb_X12_digit 2 h
theorem b_X12_digit_17 {d : Nat} {S : zS} {I : zI} {J : zJ} {Q : zQ} {x0 : Int32} {x1 : Int32} (g1 : ¬ (10 : Int32) = 0) (kk : Q (some (.int ((48 : Int32) + (x0 / (10 : Int32))))) S I J) : Go d i_X12_digit 17 [.int x0, .int x1] [] S I J Q := by
  have h := (And.intro g1 (And.intro trivial kk))
  exact Go.n tb_X12_digit 7 h
theorem b_X12_digit_27 {d : Nat} {S : zS} {I : zI} {J : zJ} {Q : zQ} {x0 : Int32} {x1 : Int32} (g1 : ¬ (10 : Int32) = 0) (kk : Q (some (.int ((48 : Int32) + (x0 - x0 / (10 : Int32) * (10 : Int32))))) S I J) : Go d i_X12_digit 27 [.int x0, .int x1] [] S I J Q := by
  have h := (And.intro g1 (And.intro trivial kk))
  exact Go.n tb_X12_digit 6 h
theorem w_X12_nameAt {d : Nat} {S : zS} {I : zI} {J : zJ} {Q : zQ} {h0 : Nat} {x1 : Int32} {x2 : Int32} {x3 : Int32} (h : Go d i_X12_nameAt 0 [.ref h0, .int x1, .int x2, .int x3, .retAddr 0, .retAddr 0, .retAddr 0, .retAddr 0, .retAddr 0, .retAddr 0] [] S I J Q) : z_wp (d + 1) i_X12_nameAt [.ref h0, .int x1, .int x2, .int x3] S I J Q := Go.wp (Nat.le_of_ble_eq_true rfl) h
theorem e_X12_nameAt {d : Nat} {S S2 : zS} {I I2 : zI} {J J2 : zJ} {r : Option Value} {h0 : Nat} {x1 : Int32} {x2 : Int32} {x3 : Int32} (h : Go d i_X12_nameAt 0 [.ref h0, .int x1, .int x2, .int x3, .retAddr 0, .retAddr 0, .retAddr 0, .retAddr 0, .retAddr 0, .retAddr 0] [] S I J (z_eq r S2 I2 J2)) : z_ev (d + 1) i_X12_nameAt [.ref h0, .int x1, .int x2, .int x3] S I J r S2 I2 J2 := Go.ev (Nat.le_of_ble_eq_true rfl) h
theorem b_X12_nameAt_0 {d : Nat} {S : zS} {I : zI} {J : zJ} {Q : zQ} {h0 : Nat} {x1 : Int32} {x2 : Int32} {x3 : Int32} {v4 : Value} {v5 : Value} {v6 : Value} {v7 : Value} {v8 : Value} {v9 : Value} (g1 : z_kd S h0 = 13) (g2 : z_isI (z_kd S (z_rv S h0 0)) = true ∧ vp_in ((((665 : Int32) * x1) + (5 : Int32)) + x2) (z_ln S (z_rv S h0 0))) (g3 : z_kd S h0 = 13) (g4 : z_isI (z_kd S (z_rv S h0 0)) = true ∧ vp_in (((665 : Int32) * x1) + (2 : Int32)) (z_ln S (z_rv S h0 0))) (kt : ¬ (I (z_rv S h0 0) (Int32.toNatClampNeg (((665 : Int32) * x1) + (2 : Int32)))) = (1 : Int32) → Go d i_X12_nameAt 90 [.ref h0, .int x1, .int x2, .int x3, .int ((665 : Int32) * x1), .int x3, .int (I (z_rv S h0 0) (Int32.toNatClampNeg ((((665 : Int32) * x1) + (5 : Int32)) + x2))), v7, v8, v9] [] S I J Q) (kf : (I (z_rv S h0 0) (Int32.toNatClampNeg (((665 : Int32) * x1) + (2 : Int32)))) = (1 : Int32) → Go d i_X12_nameAt 36 [.ref h0, .int x1, .int x2, .int x3, .int ((665 : Int32) * x1), .int x3, .int (I (z_rv S h0 0) (Int32.toNatClampNeg ((((665 : Int32) * x1) + (5 : Int32)) + x2))), v7, v8, v9] [] S I J Q) : Go d i_X12_nameAt 0 [.ref h0, .int x1, .int x2, .int x3, v4, v5, v6, v7, v8, v9] [] S I J Q := by
  have h := (And.intro g1 (And.intro g2 (And.intro g3 (And.intro g4 (Go.eti kt kf)))))
  exact Go.n tb_X12_nameAt 23 h
theorem b_X12_nameAt_36 {d : Nat} {S : zS} {I : zI} {J : zJ} {Q : zQ} {h0 : Nat} {x1 : Int32} {x2 : Int32} {x3 : Int32} {x4 : Int32} {x5 : Int32} {x6 : Int32} {v7 : Value} {v8 : Value} {v9 : Value} (g1 : z_kd S h0 = 13) (g2 : z_isI (z_kd S (z_rv S h0 0)) = true ∧ vp_in (x4 + (3 : Int32)) (z_ln S (z_rv S h0 0))) (kt : (I (z_rv S h0 0) (Int32.toNatClampNeg (x4 + (3 : Int32)))) ≤ x5 → Go d i_X12_nameAt 73 [.ref h0, .int x1, .int x2, .int x3, .int x4, .int x5, .int x6, v7, v8, v9] [] S I J Q) (kf : ¬ (I (z_rv S h0 0) (Int32.toNatClampNeg (x4 + (3 : Int32)))) ≤ x5 → Go d i_X12_nameAt 50 [.ref h0, .int x1, .int x2, .int x3, .int x4, .int x5, .int x6, v7, v8, v9] [] S I J Q) : Go d i_X12_nameAt 36 [.ref h0, .int x1, .int x2, .int x3, .int x4, .int x5, .int x6, v7, v8, v9] [] S I J Q := by
  have h := (And.intro g1 (And.intro g2 (Go.ite kt kf)))
  exact Go.n tb_X12_nameAt 8 h
theorem b_X12_nameAt_50 {d : Nat} {S : zS} {I : zI} {J : zJ} {Q : zQ} {h0 : Nat} {x1 : Int32} {x2 : Int32} {x3 : Int32} {x4 : Int32} {x5 : Int32} {x6 : Int32} {v7 : Value} {v8 : Value} {v9 : Value} (g1 : z_kd S h0 = 13) (g2 : z_isI (z_kd S (z_rv S h0 0)) = true ∧ vp_in (((x4 + (105 : Int32)) + ((8 : Int32) * x6)) + x5) (z_ln S (z_rv S h0 0))) (kk : Q (some (.int ((48 : Int32) + (I (z_rv S h0 0) (Int32.toNatClampNeg (((x4 + (105 : Int32)) + ((8 : Int32) * x6)) + x5)))))) S I J) : Go d i_X12_nameAt 50 [.ref h0, .int x1, .int x2, .int x3, .int x4, .int x5, .int x6, v7, v8, v9] [] S I J Q := by
  have h := (And.intro g1 (And.intro g2 (And.intro trivial kk)))
  exact Go.n tb_X12_nameAt 15 h
theorem b_X12_nameAt_73 {d : Nat} {S : zS} {I : zI} {J : zJ} {Q : zQ} {h0 : Nat} {x1 : Int32} {x2 : Int32} {x3 : Int32} {x4 : Int32} {x5 : Int32} {x6 : Int32} {v7 : Value} {v8 : Value} {v9 : Value} (g1 : z_kd S h0 = 13) (g2 : z_isI (z_kd S (z_rv S h0 0)) = true ∧ vp_in (x4 + (3 : Int32)) (z_ln S (z_rv S h0 0))) (g3 : z_kd S h0 = 13) (g4 : z_isI (z_kd S (z_rv S h0 0)) = true ∧ vp_in (x4 + (4 : Int32)) (z_ln S (z_rv S h0 0))) (kt : (I (z_rv S h0 0) (Int32.toNatClampNeg (x4 + (4 : Int32)))) ≤ (x5 - (I (z_rv S h0 0) (Int32.toNatClampNeg (x4 + (3 : Int32))))) → Go d i_X12_nameAt 234 [.ref h0, .int x1, .int x2, .int x3, .int x4, .int (x5 - (I (z_rv S h0 0) (Int32.toNatClampNeg (x4 + (3 : Int32))))), .int x6, v7, v8, v9] [] S I J Q) (kf : ¬ (I (z_rv S h0 0) (Int32.toNatClampNeg (x4 + (4 : Int32)))) ≤ (x5 - (I (z_rv S h0 0) (Int32.toNatClampNeg (x4 + (3 : Int32))))) → Go d i_X12_nameAt 229 [.ref h0, .int x1, .int x2, .int x3, .int x4, .int (x5 - (I (z_rv S h0 0) (Int32.toNatClampNeg (x4 + (3 : Int32))))), .int x6, v7, v8, v9] [] S I J Q) : Go d i_X12_nameAt 73 [.ref h0, .int x1, .int x2, .int x3, .int x4, .int x5, .int x6, v7, v8, v9] [] S I J Q := by
  have h := (And.intro g1 (And.intro g2 (And.intro g3 (And.intro g4 (Go.ite kt kf)))))
  exact Go.n tb_X12_nameAt 18 h
theorem b_X12_nameAt_90 {d : Nat} {S : zS} {I : zI} {J : zJ} {Q : zQ} {h0 : Nat} {x1 : Int32} {x2 : Int32} {x3 : Int32} {x4 : Int32} {x5 : Int32} {x6 : Int32} {v7 : Value} {v8 : Value} {v9 : Value} (kk : Go d i_X12_nameAt 93 [.ref h0, .int x1, .int x2, .int x3, .int x4, .int x5, .int x6, .int (0 : Int32), v8, v9] [] S I J Q) : Go d i_X12_nameAt 90 [.ref h0, .int x1, .int x2, .int x3, .int x4, .int x5, .int x6, v7, v8, v9] [] S I J Q := by
  have h := kk
  exact Go.n tb_X12_nameAt 2 h
theorem b_X12_nameAt_93 {d : Nat} {S : zS} {I : zI} {J : zJ} {Q : zQ} {h0 : Nat} {x1 : Int32} {x2 : Int32} {x3 : Int32} {x4 : Int32} {x5 : Int32} {x6 : Int32} {x7 : Int32} {v8 : Value} {v9 : Value} (g1 : z_kd S h0 = 13) (g2 : z_isI (z_kd S (z_rv S h0 0)) = true ∧ vp_in (x4 + (3 : Int32)) (z_ln S (z_rv S h0 0))) (kt : (I (z_rv S h0 0) (Int32.toNatClampNeg (x4 + (3 : Int32)))) ≤ x7 → Go d i_X12_nameAt 215 [.ref h0, .int x1, .int x2, .int x3, .int x4, .int x5, .int x6, .int x7, v8, v9] [] S I J Q) (kf : ¬ (I (z_rv S h0 0) (Int32.toNatClampNeg (x4 + (3 : Int32)))) ≤ x7 → Go d i_X12_nameAt 107 [.ref h0, .int x1, .int x2, .int x3, .int x4, .int x5, .int x6, .int x7, v8, v9] [] S I J Q) : Go d i_X12_nameAt 93 [.ref h0, .int x1, .int x2, .int x3, .int x4, .int x5, .int x6, .int x7, v8, v9] [] S I J Q := by
  have h := (And.intro g1 (And.intro g2 (Go.ite kt kf)))
  exact Go.n tb_X12_nameAt 8 h
theorem b_X12_nameAt_107 {d : Nat} {S : zS} {I : zI} {J : zJ} {Q : zQ} {h0 : Nat} {x1 : Int32} {x2 : Int32} {x3 : Int32} {x4 : Int32} {x5 : Int32} {x6 : Int32} {x7 : Int32} {v8 : Value} {v9 : Value} (g1 : z_kd S h0 = 13) (g2 : z_isI (z_kd S (z_rv S h0 0)) = true ∧ vp_in ((x4 + (25 : Int32)) + x7) (z_ln S (z_rv S h0 0))) (g3 : ¬ (I (z_rv S h0 0) (Int32.toNatClampNeg ((x4 + (25 : Int32)) + x7))) = 0) (g4 : z_kd S h0 = 13) (g5 : z_isI (z_kd S (z_rv S h0 0)) = true ∧ vp_in ((x4 + (25 : Int32)) + x7) (z_ln S (z_rv S h0 0))) (g6 : ¬ (I (z_rv S h0 0) (Int32.toNatClampNeg ((x4 + (25 : Int32)) + x7))) = 0) (kt : (10 : Int32) ≤ (x6 - x6 / (I (z_rv S h0 0) (Int32.toNatClampNeg ((x4 + (25 : Int32)) + x7))) * (I (z_rv S h0 0) (Int32.toNatClampNeg ((x4 + (25 : Int32)) + x7)))) → Go d i_X12_nameAt 154 [.ref h0, .int x1, .int x2, .int x3, .int x4, .int x5, .int (x6 / (I (z_rv S h0 0) (Int32.toNatClampNeg ((x4 + (25 : Int32)) + x7)))), .int x7, .int (x6 - x6 / (I (z_rv S h0 0) (Int32.toNatClampNeg ((x4 + (25 : Int32)) + x7))) * (I (z_rv S h0 0) (Int32.toNatClampNeg ((x4 + (25 : Int32)) + x7)))), v9] [] S I J Q) (kf : ¬ (10 : Int32) ≤ (x6 - x6 / (I (z_rv S h0 0) (Int32.toNatClampNeg ((x4 + (25 : Int32)) + x7))) * (I (z_rv S h0 0) (Int32.toNatClampNeg ((x4 + (25 : Int32)) + x7)))) → Go d i_X12_nameAt 150 [.ref h0, .int x1, .int x2, .int x3, .int x4, .int x5, .int (x6 / (I (z_rv S h0 0) (Int32.toNatClampNeg ((x4 + (25 : Int32)) + x7)))), .int x7, .int (x6 - x6 / (I (z_rv S h0 0) (Int32.toNatClampNeg ((x4 + (25 : Int32)) + x7))) * (I (z_rv S h0 0) (Int32.toNatClampNeg ((x4 + (25 : Int32)) + x7)))), v9] [] S I J Q) : Go d i_X12_nameAt 107 [.ref h0, .int x1, .int x2, .int x3, .int x4, .int x5, .int x6, .int x7, v8, v9] [] S I J Q := by
  have h := (And.intro g1 (And.intro g2 (And.intro g3 (And.intro g4 (And.intro g5 (And.intro g6 (Go.ite kt kf)))))))
  exact Go.n tb_X12_nameAt 25 h
theorem b_X12_nameAt_150 {d : Nat} {S : zS} {I : zI} {J : zJ} {Q : zQ} {h0 : Nat} {x1 : Int32} {x2 : Int32} {x3 : Int32} {x4 : Int32} {x5 : Int32} {x6 : Int32} {x7 : Int32} {x8 : Int32} {v9 : Value} (kt : (1 : Int32) ≤ x5 → Go d i_X12_nameAt 172 [.ref h0, .int x1, .int x2, .int x3, .int x4, .int x5, .int x6, .int x7, .int x8, .int (1 : Int32)] [] S I J Q) (kf : ¬ (1 : Int32) ≤ x5 → Go d i_X12_nameAt 164 [.ref h0, .int x1, .int x2, .int x3, .int x4, .int x5, .int x6, .int x7, .int x8, .int (1 : Int32)] [] S I J Q) : Go d i_X12_nameAt 150 [.ref h0, .int x1, .int x2, .int x3, .int x4, .int x5, .int x6, .int x7, .int x8, v9] [] S I J Q := by
  have h := (Go.ite kt kf)
  exact Go.n tb_X12_nameAt 6 h
theorem b_X12_nameAt_154 {d : Nat} {S : zS} {I : zI} {J : zJ} {Q : zQ} {h0 : Nat} {x1 : Int32} {x2 : Int32} {x3 : Int32} {x4 : Int32} {x5 : Int32} {x6 : Int32} {x7 : Int32} {x8 : Int32} {v9 : Value} (kt : (2 : Int32) ≤ x5 → Go d i_X12_nameAt 172 [.ref h0, .int x1, .int x2, .int x3, .int x4, .int x5, .int x6, .int x7, .int x8, .int (2 : Int32)] [] S I J Q) (kf : ¬ (2 : Int32) ≤ x5 → Go d i_X12_nameAt 164 [.ref h0, .int x1, .int x2, .int x3, .int x4, .int x5, .int x6, .int x7, .int x8, .int (2 : Int32)] [] S I J Q) : Go d i_X12_nameAt 154 [.ref h0, .int x1, .int x2, .int x3, .int x4, .int x5, .int x6, .int x7, .int x8, v9] [] S I J Q := by
  have h := (Go.ite kt kf)
  exact Go.n tb_X12_nameAt 5 h
theorem b_X12_nameAt_164 {d : Nat} {S : zS} {I : zI} {J : zJ} {Q : zQ} {h0 : Nat} {x1 : Int32} {x2 : Int32} {x3 : Int32} {x4 : Int32} {x5 : Int32} {x6 : Int32} {x7 : Int32} {x8 : Int32} {x9 : Int32} (kk : z_wp d i_X12_digit [.int x8, .int x5] S I J (fun vv SS II JJ => Go d i_X12_nameAt 171 [.ref h0, .int x1, .int x2, .int x3, .int x4, .int x5, .int x6, .int x7, .int x8, .int x9] (vv.toList ++ []) SS II JJ Q)) : Go d i_X12_nameAt 164 [.ref h0, .int x1, .int x2, .int x3, .int x4, .int x5, .int x6, .int x7, .int x8, .int x9] [] S I J Q := by
  have h := (And.intro trivial kk)
  exact Go.n tb_X12_nameAt 3 h
theorem b_X12_nameAt_171 {d : Nat} {S : zS} {I : zI} {J : zJ} {Q : zQ} {h0 : Nat} {x1 : Int32} {x2 : Int32} {x3 : Int32} {x4 : Int32} {x5 : Int32} {x6 : Int32} {x7 : Int32} {x8 : Int32} {x9 : Int32} {y0 : Int32} (kk : Q (some (.int y0)) S I J) : Go d i_X12_nameAt 171 [.ref h0, .int x1, .int x2, .int x3, .int x4, .int x5, .int x6, .int x7, .int x8, .int x9] [.int y0] S I J Q := by
  have h := (And.intro trivial kk)
  exact Go.n tb_X12_nameAt 1 h
theorem b_X12_nameAt_172 {d : Nat} {S : zS} {I : zI} {J : zJ} {Q : zQ} {h0 : Nat} {x1 : Int32} {x2 : Int32} {x3 : Int32} {x4 : Int32} {x5 : Int32} {x6 : Int32} {x7 : Int32} {x8 : Int32} {x9 : Int32} (g1 : z_kd S h0 = 13) (g2 : z_isI (z_kd S (z_rv S h0 0)) = true ∧ vp_in (x4 + (3 : Int32)) (z_ln S (z_rv S h0 0))) (kt : ¬ (x7 + (1 : Int32)) = (I (z_rv S h0 0) (Int32.toNatClampNeg (x4 + (3 : Int32)))) → Go d i_X12_nameAt 198 [.ref h0, .int x1, .int x2, .int x3, .int x4, .int (x5 - x9), .int x6, .int x7, .int x8, .int x9] [] S I J Q) (kf : (x7 + (1 : Int32)) = (I (z_rv S h0 0) (Int32.toNatClampNeg (x4 + (3 : Int32)))) → Go d i_X12_nameAt 195 [.ref h0, .int x1, .int x2, .int x3, .int x4, .int (x5 - x9), .int x6, .int x7, .int x8, .int x9] [] S I J Q) : Go d i_X12_nameAt 172 [.ref h0, .int x1, .int x2, .int x3, .int x4, .int x5, .int x6, .int x7, .int x8, .int x9] [] S I J Q := by
  have h := (And.intro g1 (And.intro g2 (Go.eti kt kf)))
  exact Go.n tb_X12_nameAt 14 h
theorem b_X12_nameAt_195 {d : Nat} {S : zS} {I : zI} {J : zJ} {Q : zQ} {h0 : Nat} {x1 : Int32} {x2 : Int32} {x3 : Int32} {x4 : Int32} {x5 : Int32} {x6 : Int32} {x7 : Int32} {x8 : Int32} {x9 : Int32} (kk : Go d i_X12_nameAt 93 [.ref h0, .int x1, .int x2, .int x3, .int x4, .int x5, .int x6, .int (x7 + (1 : Int32)), .int x8, .int x9] [] S I J Q) : Go d i_X12_nameAt 195 [.ref h0, .int x1, .int x2, .int x3, .int x4, .int x5, .int x6, .int x7, .int x8, .int x9] [] S I J Q := by
  have h := kk
  exact Go.n tb_X12_nameAt 3 h
theorem b_X12_nameAt_198 {d : Nat} {S : zS} {I : zI} {J : zJ} {Q : zQ} {h0 : Nat} {x1 : Int32} {x2 : Int32} {x3 : Int32} {x4 : Int32} {x5 : Int32} {x6 : Int32} {x7 : Int32} {x8 : Int32} {x9 : Int32} (kt : ¬ x5 = (0 : Int32) → Go d i_X12_nameAt 206 [.ref h0, .int x1, .int x2, .int x3, .int x4, .int x5, .int x6, .int x7, .int x8, .int x9] [] S I J Q) (kf : x5 = (0 : Int32) → Go d i_X12_nameAt 203 [.ref h0, .int x1, .int x2, .int x3, .int x4, .int x5, .int x6, .int x7, .int x8, .int x9] [] S I J Q) : Go d i_X12_nameAt 198 [.ref h0, .int x1, .int x2, .int x3, .int x4, .int x5, .int x6, .int x7, .int x8, .int x9] [] S I J Q := by
  have h := (Go.eti kt kf)
  exact Go.n tb_X12_nameAt 2 h
theorem b_X12_nameAt_203 {d : Nat} {S : zS} {I : zI} {J : zJ} {Q : zQ} {h0 : Nat} {x1 : Int32} {x2 : Int32} {x3 : Int32} {x4 : Int32} {x5 : Int32} {x6 : Int32} {x7 : Int32} {x8 : Int32} {x9 : Int32} (kk : Q (some (.int (44 : Int32))) S I J) : Go d i_X12_nameAt 203 [.ref h0, .int x1, .int x2, .int x3, .int x4, .int x5, .int x6, .int x7, .int x8, .int x9] [] S I J Q := by
  have h := (And.intro trivial kk)
  exact Go.n tb_X12_nameAt 2 h
theorem b_X12_nameAt_206 {d : Nat} {S : zS} {I : zI} {J : zJ} {Q : zQ} {h0 : Nat} {x1 : Int32} {x2 : Int32} {x3 : Int32} {x4 : Int32} {x5 : Int32} {x6 : Int32} {x7 : Int32} {x8 : Int32} {x9 : Int32} (kk : Go d i_X12_nameAt 93 [.ref h0, .int x1, .int x2, .int x3, .int x4, .int (x5 + (-1 : Int32)), .int x6, .int (x7 + (1 : Int32)), .int x8, .int x9] [] S I J Q) : Go d i_X12_nameAt 206 [.ref h0, .int x1, .int x2, .int x3, .int x4, .int x5, .int x6, .int x7, .int x8, .int x9] [] S I J Q := by
  have h := kk
  exact Go.n tb_X12_nameAt 3 h
theorem b_X12_nameAt_215 {d : Nat} {S : zS} {I : zI} {J : zJ} {Q : zQ} {h0 : Nat} {x1 : Int32} {x2 : Int32} {x3 : Int32} {x4 : Int32} {x5 : Int32} {x6 : Int32} {v7 : Value} {v8 : Value} {v9 : Value} (g1 : z_kd S h0 = 13) (g2 : z_isI (z_kd S (z_rv S h0 0)) = true ∧ vp_in (x4 + (4 : Int32)) (z_ln S (z_rv S h0 0))) (kt : (I (z_rv S h0 0) (Int32.toNatClampNeg (x4 + (4 : Int32)))) ≤ x5 → Go d i_X12_nameAt 234 [.ref h0, .int x1, .int x2, .int x3, .int x4, .int x5, .int x6, v7, v8, v9] [] S I J Q) (kf : ¬ (I (z_rv S h0 0) (Int32.toNatClampNeg (x4 + (4 : Int32)))) ≤ x5 → Go d i_X12_nameAt 229 [.ref h0, .int x1, .int x2, .int x3, .int x4, .int x5, .int x6, v7, v8, v9] [] S I J Q) : Go d i_X12_nameAt 215 [.ref h0, .int x1, .int x2, .int x3, .int x4, .int x5, .int x6, v7, v8, v9] [] S I J Q := by
  have h := (And.intro g1 (And.intro g2 (Go.ite kt kf)))
  exact Go.n tb_X12_nameAt 8 h
theorem b_X12_nameAt_229 {d : Nat} {S : zS} {I : zI} {J : zJ} {Q : zQ} {h0 : Nat} {x1 : Int32} {x2 : Int32} {x3 : Int32} {x4 : Int32} {x5 : Int32} {x6 : Int32} {v7 : Value} {v8 : Value} {v9 : Value} (kk : Q (some (.int (39 : Int32))) S I J) : Go d i_X12_nameAt 229 [.ref h0, .int x1, .int x2, .int x3, .int x4, .int x5, .int x6, v7, v8, v9] [] S I J Q := by
  have h := (And.intro trivial kk)
  exact Go.n tb_X12_nameAt 3 h
theorem b_X12_nameAt_234 {d : Nat} {S : zS} {I : zI} {J : zJ} {Q : zQ} {h0 : Nat} {x1 : Int32} {x2 : Int32} {x3 : Int32} {x4 : Int32} {x5 : Int32} {x6 : Int32} {v7 : Value} {v8 : Value} {v9 : Value} (kk : Q (some (.int (-1 : Int32))) S I J) : Go d i_X12_nameAt 234 [.ref h0, .int x1, .int x2, .int x3, .int x4, .int x5, .int x6, v7, v8, v9] [] S I J Q := by
  have h := (And.intro trivial kk)
  exact Go.n tb_X12_nameAt 2 h
theorem w_X12_name {d : Nat} {S : zS} {I : zI} {J : zJ} {Q : zQ} {h0 : Nat} {x1 : Int32} {x2 : Int32} {x3 : Int32} (h : Go d i_X12_name 0 [.ref h0, .int x1, .int x2, .int x3] [] S I J Q) : z_wp (d + 1) i_X12_name [.ref h0, .int x1, .int x2, .int x3] S I J Q := Go.wp (Nat.le_of_ble_eq_true rfl) h
theorem e_X12_name {d : Nat} {S S2 : zS} {I I2 : zI} {J J2 : zJ} {r : Option Value} {h0 : Nat} {x1 : Int32} {x2 : Int32} {x3 : Int32} (h : Go d i_X12_name 0 [.ref h0, .int x1, .int x2, .int x3] [] S I J (z_eq r S2 I2 J2)) : z_ev (d + 1) i_X12_name [.ref h0, .int x1, .int x2, .int x3] S I J r S2 I2 J2 := Go.ev (Nat.le_of_ble_eq_true rfl) h
theorem b_X12_name_0 {d : Nat} {S : zS} {I : zI} {J : zJ} {Q : zQ} {h0 : Nat} {x1 : Int32} {x2 : Int32} {x3 : Int32} (g1 : z_kd S h0 = 13) (g2 : z_kd S h0 = 13) (kk : z_wp d i_X12_isElement [.ref h0, .int x1, .int x2] S (z_u2 I h0 1 (0 : Int32)) J (fun vv SS II JJ => Go d i_X12_name 11 [.ref h0, .int x1, .int x2, .int x3] (vv.toList ++ []) SS II JJ Q)) : Go d i_X12_name 0 [.ref h0, .int x1, .int x2, .int x3] [] S I J Q := by
  have h := (And.intro g1 (And.intro g2 kk))
  exact Go.n tb_X12_name 7 h
theorem b_X12_name_11 {d : Nat} {S : zS} {I : zI} {J : zJ} {Q : zQ} {h0 : Nat} {x1 : Int32} {x2 : Int32} {x3 : Int32} {y0 : Int32} (kt : ¬ y0 = (0 : Int32) → Go d i_X12_name 17 [.ref h0, .int x1, .int x2, .int x3] [] S I J Q) (kf : y0 = (0 : Int32) → Go d i_X12_name 14 [.ref h0, .int x1, .int x2, .int x3] [] S I J Q) : Go d i_X12_name 11 [.ref h0, .int x1, .int x2, .int x3] [.int y0] S I J Q := by
  have h := (Go.eti kt kf)
  exact Go.n tb_X12_name 1 h
theorem b_X12_name_14 {d : Nat} {S : zS} {I : zI} {J : zJ} {Q : zQ} {h0 : Nat} {x1 : Int32} {x2 : Int32} {x3 : Int32} (kk : Q (some (.int (-2 : Int32))) S I J) : Go d i_X12_name 14 [.ref h0, .int x1, .int x2, .int x3] [] S I J Q := by
  have h := (And.intro trivial kk)
  exact Go.n tb_X12_name 2 h
theorem b_X12_name_17 {d : Nat} {S : zS} {I : zI} {J : zJ} {Q : zQ} {h0 : Nat} {x1 : Int32} {x2 : Int32} {x3 : Int32} (kt : (0 : Int32) ≤ x3 → Go d i_X12_name 26 [.ref h0, .int x1, .int x2, .int x3] [] S I J Q) (kf : ¬ (0 : Int32) ≤ x3 → Go d i_X12_name 21 [.ref h0, .int x1, .int x2, .int x3] [] S I J Q) : Go d i_X12_name 17 [.ref h0, .int x1, .int x2, .int x3] [] S I J Q := by
  have h := (Go.ite kt kf)
  exact Go.n tb_X12_name 2 h
theorem b_X12_name_21 {d : Nat} {S : zS} {I : zI} {J : zJ} {Q : zQ} {h0 : Nat} {x1 : Int32} {x2 : Int32} {x3 : Int32} (kk : Q (some (.int (-3 : Int32))) S I J) : Go d i_X12_name 21 [.ref h0, .int x1, .int x2, .int x3] [] S I J Q := by
  have h := (And.intro trivial kk)
  exact Go.n tb_X12_name 3 h
theorem b_X12_name_26 {d : Nat} {S : zS} {I : zI} {J : zJ} {Q : zQ} {h0 : Nat} {x1 : Int32} {x2 : Int32} {x3 : Int32} (g1 : z_kd S h0 = 13) (kk : z_wp d i_X12_nameAt [.ref h0, .int x1, .int x2, .int x3] S I J (fun vv SS II JJ => Go d i_X12_name 33 [.ref h0, .int x1, .int x2, .int x3] (vv.toList ++ []) SS II JJ Q)) : Go d i_X12_name 26 [.ref h0, .int x1, .int x2, .int x3] [] S I J Q := by
  have h := (And.intro g1 kk)
  exact Go.n tb_X12_name 5 h
theorem b_X12_name_33 {d : Nat} {S : zS} {I : zI} {J : zJ} {Q : zQ} {h0 : Nat} {x1 : Int32} {x2 : Int32} {x3 : Int32} {y0 : Int32} (kk : Q (some (.int y0)) S I J) : Go d i_X12_name 33 [.ref h0, .int x1, .int x2, .int x3] [.int y0] S I J Q := by
  have h := (And.intro trivial kk)
  exact Go.n tb_X12_name 1 h
theorem w_X12_count {d : Nat} {S : zS} {I : zI} {J : zJ} {Q : zQ} {h0 : Nat} {x1 : Int32} (h : Go d i_X12_count 0 [.ref h0, .int x1] [] S I J Q) : z_wp (d + 1) i_X12_count [.ref h0, .int x1] S I J Q := Go.wp (Nat.le_of_ble_eq_true rfl) h
theorem e_X12_count {d : Nat} {S S2 : zS} {I I2 : zI} {J J2 : zJ} {r : Option Value} {h0 : Nat} {x1 : Int32} (h : Go d i_X12_count 0 [.ref h0, .int x1] [] S I J (z_eq r S2 I2 J2)) : z_ev (d + 1) i_X12_count [.ref h0, .int x1] S I J r S2 I2 J2 := Go.ev (Nat.le_of_ble_eq_true rfl) h
theorem b_X12_count_0 {d : Nat} {S : zS} {I : zI} {J : zJ} {Q : zQ} {h0 : Nat} {x1 : Int32} (g1 : z_kd S h0 = 13) (kt : ¬ x1 = (0 : Int32) → Go d i_X12_count 16 [.ref h0, .int x1] [] S (z_u2 I h0 1 (0 : Int32)) J Q) (kf : x1 = (0 : Int32) → Go d i_X12_count 9 [.ref h0, .int x1] [] S (z_u2 I h0 1 (0 : Int32)) J Q) : Go d i_X12_count 0 [.ref h0, .int x1] [] S I J Q := by
  have h := (And.intro g1 (Go.eti kt kf))
  exact Go.n tb_X12_count 5 h
theorem b_X12_count_9 {d : Nat} {S : zS} {I : zI} {J : zJ} {Q : zQ} {h0 : Nat} {x1 : Int32} (g1 : z_kd S h0 = 13) (kk : Q (some (.int (I h0 19))) S I J) : Go d i_X12_count 9 [.ref h0, .int x1] [] S I J Q := by
  have h := (And.intro g1 (And.intro trivial kk))
  exact Go.n tb_X12_count 4 h
theorem b_X12_count_16 {d : Nat} {S : zS} {I : zI} {J : zJ} {Q : zQ} {h0 : Nat} {x1 : Int32} (kt : ¬ x1 = (1 : Int32) → Go d i_X12_count 28 [.ref h0, .int x1] [] S I J Q) (kf : x1 = (1 : Int32) → Go d i_X12_count 21 [.ref h0, .int x1] [] S I J Q) : Go d i_X12_count 16 [.ref h0, .int x1] [] S I J Q := by
  have h := (Go.eti kt kf)
  exact Go.n tb_X12_count 3 h
theorem b_X12_count_21 {d : Nat} {S : zS} {I : zI} {J : zJ} {Q : zQ} {h0 : Nat} {x1 : Int32} (g1 : z_kd S h0 = 13) (kk : Q (some (.int (I h0 3))) S I J) : Go d i_X12_count 21 [.ref h0, .int x1] [] S I J Q := by
  have h := (And.intro g1 (And.intro trivial kk))
  exact Go.n tb_X12_count 4 h
theorem b_X12_count_28 {d : Nat} {S : zS} {I : zI} {J : zJ} {Q : zQ} {h0 : Nat} {x1 : Int32} (kk : Q (some (.int (-1 : Int32))) S I J) : Go d i_X12_count 28 [.ref h0, .int x1] [] S I J Q := by
  have h := (And.intro trivial kk)
  exact Go.n tb_X12_count 2 h

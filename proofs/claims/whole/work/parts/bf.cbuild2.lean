/-! THE CLASS: a group is built -/
section CB4
variable {d b rc len N : Nat} {t : Nat → Nat → Nat} {iv : Nat → Nat} {S S1 S2 : zS} {I I1 I2 : zI} {J J1 J2 : zJ}
def nsr (b rc : Nat) : Nat := if rc = 0 then b + 3 else b + 5
def nr0 (h rc : Nat) : Nat := if rc = 0 then h else 0
def nr1 (h rc : Nat) : Nat := if rc = 0 then 0 else h
def ndg (x : Int32) (rc : Nat) : Int32 := if rc = 0 then 0 else x
theorem c_names (hd : 1 < d) (hL : BL S b) (hb : b + 5 ≤ z_sz S) (h6 : I b 6 = nI rc) (hrc : rc < 2 ^ 31) (h3 : rc = 0 → I b 3 = nI len ∧ len ≤ 150) (h4 : rc ≠ 0 → I b 4 = nI len ∧ len ≤ 21) : ∃ S1 I1 J1, z_ev d i_X2_names [.ref b] S I J (some (.ref (z_sz S + 2))) S1 I1 J1 ∧ Old S I J S1 I1 J1 ∧ z_sz S1 = z_sz S + 2 ∧ z_ce S1 = z_ce S + 2 ∧ z_sl S1 = z_sl S + len + 3 ∧ (z_kd S1 (z_sz S + 1) = 100 ∧ z_ln S1 (z_sz S + 1) = len ∧ ∀ i, i < len → I1 (z_sz S + 1) i = I (nsr b rc) i) ∧ z_kd S1 (z_sz S + 2) = 7 ∧ z_rv S1 (z_sz S + 2) 0 = nr0 (z_sz S + 1) rc ∧ z_rv S1 (z_sz S + 2) 1 = nr1 (z_sz S + 1) rc ∧ I1 (z_sz S + 2) 2 = ndg (I b 7) rc := by
  obtain ⟨d, rfl⟩ := z_dep (d := d) (by omega)
  obtain ⟨l1, l2, l3, l4, l5, l6⟩ := hL
  have c0 : Int32.toNatClampNeg (0 : Int32) = 0 := by decide
  have ub : z_ur I (z_sz S + 1) (fun _ => (0 : Int32)) b = I b := z_ur_row (by omega)
  unfold nsr nr0 nr1 ndg
  by_cases e : rc = 0
  · obtain ⟨h3a, h3b⟩ := h3 e
    rw [if_pos e, if_pos e, if_pos e, if_pos e]
    have cl : Int32.toNatClampNeg (I b 3) = len := by rw [h3a, nI_clamp (by omega)]
    obtain ⟨S1, I1, J1, e1, e2, e3, e4, e5, e6, e7, e8, e9, e10, e11, e12⟩ := z_nmk (S := S) (I := I) (J := J) (src := b + 3) (len := len) (r0 := z_sz S + 1) (r1 := 0) (dg := 0) (by omega) l4.2.1
    refine ⟨S1, I1, J1, e_X2_names (b_X2_names_0 l1 (fun z => absurd (by rw [h6, e]; rfl) z) (fun _ => ?_)), e4, e5, e6, e7, e8, e9, e10, e11, e12⟩
    have hk1 : ∀ y, y ≤ z_sz S → z_kd (z_new S 100 len len) y = z_kd S y := fun y hy => z_kd_nev (by omega)
    have hr1 : ∀ y k, y ≤ z_sz S → z_rv (z_new S 100 len len) y k = z_rv S y k := fun y k hy => z_rv_nev (by omega)
    refine b_X2_names_7 (I1 := z_cp (z_ur I (z_sz S + 1) (fun _ => 0)) (b + 3) (z_sz S + 1) 0 0 len) l1 ?_ (by omega) ?_ ?_ ?_ ?_ (by omega) ?_
    · rw [cl, h3a]; exact ⟨nI_pos (by omega), by omega⟩
    · rw [cl, hk1 b (by omega)]; exact l1
    · rw [cl, hk1 b (by omega)]; exact l1
    · rw [cl, hr1 b 2 (by omega), l4.1, hk1 (b + 3) (by omega), c0, ub, cl, z_ln_nev (show b + 3 ≠ z_sz S + 1 by omega)]
      refine ⟨l4.2.1, z_kd_new, by omega, by decide, by decide, by rw [h3a]; exact nI_pos (by omega), ?_, ?_⟩
      · rw [l4.2.2]; omega
      · rw [z_ln_new]; omega
    · rw [cl, hr1 b 2 (by omega), l4.1, c0, ub, cl]
    · rw [cl]
      refine ⟨_, _, _, _, c_nminit (by omega) (show z_sz (z_new S 100 len len) + 1 ≠ 0 by omega) z_kd_new, b_X2_names_38 ⟨rfl, ?_, ?_, ?_⟩⟩
      · rw [e1]; rfl
      · rw [e2]; rfl
      · rw [e3]; rfl
  · obtain ⟨h4a, h4b⟩ := h4 e
    rw [if_neg e, if_neg e, if_neg e, if_neg e]
    have cl : Int32.toNatClampNeg (I b 4) = len := by rw [h4a, nI_clamp (by omega)]
    obtain ⟨S1, I1, J1, e1, e2, e3, e4, e5, e6, e7, e8, e9, e10, e11, e12⟩ := z_nmk (S := S) (I := I) (J := J) (src := b + 5) (len := len) (r0 := 0) (r1 := z_sz S + 1) (dg := I b 7) (by omega) l6.2.1
    refine ⟨S1, I1, J1, e_X2_names (b_X2_names_0 l1 (fun _ => ?_) (fun z => absurd ?_ e)), e4, e5, e6, e7, e8, e9, e10, e11, e12⟩
    · have hk1 : ∀ y, y ≤ z_sz S → z_kd (z_new S 100 len len) y = z_kd S y := fun y hy => z_kd_nev (by omega)
      have hr1 : ∀ y k, y ≤ z_sz S → z_rv (z_new S 100 len len) y k = z_rv S y k := fun y k hy => z_rv_nev (by omega)
      refine b_X2_names_39 (I1 := z_cp (z_ur I (z_sz S + 1) (fun _ => 0)) (b + 5) (z_sz S + 1) 0 0 len) l1 ?_ (by omega) ?_ ?_ ?_ ?_ ?_ (by omega) ?_
      · rw [cl, h4a]; exact ⟨nI_pos (by omega), by omega⟩
      · rw [cl, hk1 b (by omega)]; exact l1
      · rw [cl, hk1 b (by omega)]; exact l1
      · rw [cl, hr1 b 8 (by omega), l6.1, hk1 (b + 5) (by omega), c0, ub, cl, z_ln_nev (show b + 5 ≠ z_sz S + 1 by omega)]
        refine ⟨l6.2.1, z_kd_new, by omega, by decide, by decide, by rw [h4a]; exact nI_pos (by omega), ?_, ?_⟩
        · rw [l6.2.2]; omega
        · rw [z_ln_new]; omega
      · rw [cl, hr1 b 8 (by omega), l6.1, c0, ub, cl]
      · rw [cl, z_kd_nev (show b ≠ z_sz (z_new S 100 len len) + 1 by rw [z_sz_new]; omega), hk1 b (by omega)]; exact l1
      · rw [cl]
        have e7' : z_ur (z_cp (z_ur I (z_sz S + 1) (fun _ => 0)) (b + 5) (z_sz S + 1) 0 0 len) (z_sz (z_new S 100 len len) + 1) (fun _ => (0 : Int32)) b 7 = I b 7 := by
          rw [z_sz_new, z_ur_row (by omega)]
          show z_ur _ (z_sz S + 1) _ b 7 = _
          rw [z_ur_row (by omega), ub]
        rw [e7']
        refine ⟨_, _, _, _, c_nminit (by omega) (show z_sz (z_new S 100 len len) + 1 ≠ 0 by omega) z_kd_new, b_X2_names_73 ⟨rfl, ?_, ?_, ?_⟩⟩
        · rw [e1]; rfl
        · rw [e2]; rfl
        · rw [e3]; rfl
    · rw [h6, show (0 : Int32) = nI 0 from rfl, nI_eq hrc (by decide)] at z; exact z
/-- a built group, as it lies behind the old cells -/
def Blt (S : zS) (I : zI) (b rc N len : Nat) (t : Nat → Nat → Nat) (iv : Nat → Nat) (S' : zS) (I' : zI) : Prop := (CT S' I' (z_sz S + 3) N t ∧ CR S' I' (z_sz S + 3) 2 N iv ∧ CR S' I' (z_sz S + 3) 3 N (per t) ∧ CR S' I' (z_sz S + 3) 4 N (cls N t iv) ∧ CR S' I' (z_sz S + 3) 5 N (mrk N t iv)) ∧ (z_rv S' (z_sz S + 3) 1 = z_sz S + 1 ∧ z_rv S' (z_sz S + 3) 2 = z_sz S + 6 ∧ z_rv S' (z_sz S + 3) 3 = z_sz S + 7 ∧ z_rv S' (z_sz S + 3) 4 = z_sz S + 8 ∧ z_rv S' (z_sz S + 3) 5 = z_sz S + 9 ∧ z_rv S' (z_sz S + 3) 6 = z_sz S + 5 ∧ z_rv S' (z_sz S + 3) 7 = z_sz S + 2 ∧ z_rv S' (z_sz S + 3) 10 = 0) ∧ (I' (z_sz S + 3) 8 = 0 ∧ I' (z_sz S + 3) 9 = 0) ∧ (z_kd S' (z_sz S + 2) = 100 ∧ z_ln S' (z_sz S + 2) = N ∧ ∀ x, x < N → I' (z_sz S + 2) x = nI x) ∧ (z_kd S' (z_sz S + 4) = 100 ∧ z_ln S' (z_sz S + 4) = len ∧ ∀ i, i < len → I' (z_sz S + 4) i = I (nsr b rc) i) ∧ (z_kd S' (z_sz S + 5) = 7 ∧ z_rv S' (z_sz S + 5) 0 = nr0 (z_sz S + 4) rc ∧ z_rv S' (z_sz S + 5) 1 = nr1 (z_sz S + 4) rc ∧ I' (z_sz S + 5) 2 = ndg (I b 7) rc)
theorem c_build (hd : 5 < d) (hL : BL S b) (hb : b + 5 ≤ z_sz S) (h4 : I b 4 = nI N) (hg : Grp N t iv) (h6 : I b 6 = nI rc) (hrc : rc < 2 ^ 31) (hlen : if rc = 0 then I b 3 = nI len ∧ len ≤ 150 else len = N) (hprod : ∀ S' I' J', Old S I J S' I' J' → ∀ x y, x < N → y < N → z_ev (d - 1) (if rc = 0 then i_X2_factorsProduct else i_X2_rowProduct) [.ref b, .int (nI x), .int (nI y)] S' I' J' (some (.int (nI (t x y)))) S' I' J') : ∃ S' I' J', z_ev d i_X2_build [.ref b] S I J (some (.ref (z_sz S + 3))) S' I' J' ∧ Old S I J S' I' J' ∧ z_sz S' = z_sz S + 9 ∧ z_ce S' = z_ce S + 9 ∧ z_sl S' = z_sl S + N * N + N + 12 + len + 3 + 4 * N ∧ Blt S I b rc N len t iv S' I' := by
  obtain ⟨d, rfl⟩ := z_dep (d := d) (by omega)
  rw [Nat.add_sub_cancel] at hprod
  have hn := hg.le
  have hn2 := z_sq400 hn
  have l1 := hL.1
  have eNN : I b 4 * I b 4 = nI (N * N) := by rw [h4, pk_mul]
  have cNN : Int32.toNatClampNeg (I b 4 * I b 4) = N * N := by rw [eNN, nI_clamp (by omega)]
  have cN : Int32.toNatClampNeg (I b 4) = N := by rw [h4, nI_clamp (by omega)]
  obtain ⟨S1, E1, a1, a2, a3, a4, a5, a6⟩ := z_mk1 S 100 (N * N) (N * N)
  obtain ⟨S2, E2, b1, b2, b3, b4, b5, b6⟩ := z_mk1 S1 100 N N
  rw [a1] at b1 b4 b5 b6
  obtain ⟨I2, F2⟩ : ∃ I2, I2 = z_ur (z_ur I (z_sz S + 1) (fun _ => 0)) (z_sz S + 2) (fun _ => (0 : Int32)) := ⟨_, rfl⟩
  have old2 : ∀ I', (∀ y, y ≠ z_sz S + 1 → y ≠ z_sz S + 2 → I' y = I2 y) → Old S I J S2 I' J := fun I' hI => ⟨by omega, fun y hy => ⟨⟨⟨by rw [(b4 y (by omega)).1.1, (a4 y hy).1.1], by rw [(b4 y (by omega)).1.2, (a4 y hy).1.2]⟩, by rw [(b4 y (by omega)).2, (a4 y hy).2]⟩, by rw [hI y (by omega) (by omega), F2, z_ur_row (by omega), z_ur_row (by omega)], rfl⟩⟩
  have kt : z_kd S2 (z_sz S + 1) = 100 ∧ z_ln S2 (z_sz S + 1) = N * N := by rw [(b4 _ (by omega)).1.1, (b4 _ (by omega)).1.2]; exact a5
  have ko : z_kd S2 (z_sz S + 2) = 100 ∧ z_ln S2 (z_sz S + 2) = N := b5
  obtain ⟨Q, hQ⟩ : ∃ Q : zQ, Q = fun w S' I' J' => w = some (.ref (z_sz S + 3)) ∧ Old S I J S' I' J' ∧ z_sz S' = z_sz S + 9 ∧ z_ce S' = z_ce S + 9 ∧ z_sl S' = z_sl S + N * N + N + 12 + len + 3 + 4 * N ∧ Blt S I b rc N len t iv S' I' := ⟨_, rfl⟩
  suffices hw : z_wp (d + 1) i_X2_build [.ref b] S I J Q by
    rw [hQ] at hw
    obtain ⟨w, S', I', J', x1, rfl, x2⟩ := hw
    exact ⟨S', I', J', x1, x2⟩
  -- the end
  have fin : ∀ I3, (∀ y, y ≠ z_sz S + 1 → y ≠ z_sz S + 2 → I3 y = I2 y) → (∀ x, x < N → I3 (z_sz S + 2) x = nI x) → (∀ x y, x < N → y < N → I3 (z_sz S + 1) (x * N + y) = nI (t x y)) → ∀ x3 v4, Go d i_X2_build 92 [.ref b, .ref (z_sz S + 1), .ref (z_sz S + 2), .int x3, v4] [] S2 I3 J Q := fun I3 g1 g2 g3 x3 v4 => by
    have O2 := old2 I3 g1
    obtain ⟨S3, E3, c1, c2, c3, c4, c5, c6⟩ := z_mk1 S2 2 0 12
    have s2 : z_sz S2 = z_sz S + 2 := by omega
    rw [s2] at c1 c4 c5 c6
    have s3 : z_sz S3 = z_sz S + 3 := by omega
    have kb3 : z_kd (z_new S2 2 0 12) b = 3 := by rw [← E3, (c4 b (by omega)).1.1, ((old2 I3 g1).2 b (by omega)).1.1.1]; exact l1
    obtain ⟨I4, F4⟩ : ∃ I4, I4 = z_ur I3 (z_sz S + 3) (fun _ => (0 : Int32)) := ⟨_, rfl⟩
    obtain ⟨J4, G4⟩ : ∃ J4, J4 = z_ur J (z_sz S + 3) (fun _ => (0 : Int64)) := ⟨_, rfl⟩
    have O3 : Old S2 I3 J S3 I4 J4 := ⟨by omega, fun y hy => ⟨c4 y (by omega), by rw [F4, z_ur_row (by omega)], by rw [G4, z_ur_row (by omega)]⟩⟩
    have OS3 := O2.trans O3
    have hL3 := BL.old OS3 hL hb
    have ib : I4 b = I b := (OS3.2 b (by omega)).2.1
    obtain ⟨S5, I5, J5, d1, d2, d3, d4, d5, d6, d7, d8, d9, d10⟩ := c_names (d := d) (I := I4) (J := J4) (rc := rc) (len := len) (by omega) hL3 (by omega) (by rw [ib]; exact h6) hrc (fun e => by rw [if_pos e] at hlen; rw [ib]; exact hlen) (fun e => by rw [if_neg e] at hlen; rw [ib, hlen]; exact ⟨h4, by omega⟩)
    rw [s3] at d1 d3 d6 d7 d8 d9 d10
    rw [ib] at d10
    have tab5 : z_kd S5 (z_sz S + 1) = 100 ∧ z_ln S5 (z_sz S + 1) = N * N ∧ ∀ x, x < N → ∀ y, y < N → I5 (z_sz S + 1) (x * N + y) = nI (t x y) := by
      obtain ⟨⟨⟨q1, q2⟩, _⟩, q3, _⟩ := d2.2 (z_sz S + 1) (by omega)
      obtain ⟨⟨⟨r1, r2⟩, _⟩, r3, _⟩ := O3.2 (z_sz S + 1) (by omega)
      refine ⟨by rw [q1, r1]; exact kt.1, by rw [q2, r2]; exact kt.2, fun x hx y hy => ?_⟩
      rw [q3, r3]; exact g3 x y hx hy
    have g5k : z_kd S5 (z_sz S + 3) = 2 := by rw [(d2.2 (z_sz S + 3) (by omega)).1.1.1]; exact c5.1
    obtain ⟨S6, I6, f1, f2, f3, f4, f5, f6, f7, f8, f9, f10, f11, f12, f13, f14, f15, f16, f17, f18, f19, f20⟩ := c_init (d := d) (S := S5) (I := I5) (J := J5) (g := z_sz S + 3) (tab := z_sz S + 1) (nm := z_sz S + 5) (og := z_sz S + 2) (pr := 0) (by omega) hg (by omega) g5k (by omega) (by omega) tab5.1 tab5.2.1 tab5.2.2
    rw [d3] at f2 f12 f13 f14 f15
    have O6 : Old S I J S6 I6 J5 := by
      refine ⟨by omega, fun y hy => ?_⟩
      obtain ⟨⟨⟨q1, q2⟩, q4⟩, q3, q5⟩ := (OS3.trans d2).2 y hy
      have r1 := f5.2.1 y (by omega)
      have r2 := f5.2.2 y (by omega) (fun e => by omega)
      exact ⟨⟨⟨by rw [r1.1, q1], by rw [r1.2, q2]⟩, by rw [r2.1, q4]⟩, by rw [r2.2, q3], q5⟩
    have keep : ∀ y, y ≤ z_sz S + 5 → y ≠ z_sz S + 3 → (z_kd S6 y = z_kd S5 y ∧ z_ln S6 y = z_ln S5 y) ∧ z_rv S6 y = z_rv S5 y ∧ I6 y = I5 y := fun y hy hne => ⟨f5.2.1 y (by omega), f5.2.2 y (by omega) hne⟩
    refine b_X2_build_92 kb3 kb3 ?_
    rw [s2, ← E3]
    rw [show z_sz S + 2 + 1 = z_sz S + 3 from rfl, ← F4, ← G4, ib, h4]
    refine ⟨_, _, _, _, d1, b_X2_build_105 (by omega) ⟨_, _, _, _, f1, b_X2_build_110 ?_⟩⟩
    rw [hQ]
    refine ⟨rfl, O6, by omega, by omega, by omega, ⟨f6, f7, f8, f9, f10⟩, ⟨f11, f12, f13, f14, f15, f16, f17, ?_⟩, ⟨f18, ?_⟩, ?_, ?_, ?_⟩
    · rw [f20, (d2.2 (z_sz S + 3) (by omega)).1.2]; exact c6 10
    · rw [f19, (d2.2 (z_sz S + 3) (by omega)).2.1, F4, z_ur_same]
    · obtain ⟨q1, q2, q3⟩ := keep (z_sz S + 2) (by omega) (by omega)
      obtain ⟨⟨⟨r1, r2⟩, _⟩, r3, _⟩ := d2.2 (z_sz S + 2) (by omega)
      obtain ⟨⟨⟨s1, s2⟩, _⟩, s3, _⟩ := O3.2 (z_sz S + 2) (by omega)
      refine ⟨by rw [q1.1, r1, s1]; exact ko.1, by rw [q1.2, r2, s2]; exact ko.2, fun x hx => ?_⟩
      rw [q3, r3, s3]; exact g2 x hx
    · obtain ⟨q1, q2, q3⟩ := keep (z_sz S + 4) (by omega) (by omega)
      refine ⟨by rw [q1.1]; exact d6.1, by rw [q1.2]; exact d6.2.1, fun i hi => ?_⟩
      rw [q3, d6.2.2 i hi]
      have hsrc : nsr b rc ≤ z_sz S := by unfold nsr; split <;> omega
      rw [(OS3.2 _ hsrc).2.1]
    · obtain ⟨q1, q2, q3⟩ := keep (z_sz S + 5) (by omega) (by omega)
      refine ⟨by rw [q1.1]; exact d7, by rw [q2]; exact d8, by rw [q2]; exact d9, by rw [q3]; exact d10⟩
  refine w_X2_build (b_X2_build_0 (S1 := S2) (I2 := I2) l1 l1 ?_ (by omega) ?_ ?_ ?_ ?_ (by omega) ?_)
  · rw [cNN, eNN]; exact ⟨nI_pos (by omega), by omega⟩
  · rw [cNN, ← E1, (a4 b (by omega)).1.1]; exact l1
  · rw [z_ur_row (show b ≠ z_sz S + 1 by omega), cN, h4]; exact ⟨nI_pos (by omega), by omega⟩
  · rw [cNN, z_ur_row (show b ≠ z_sz S + 1 by omega), cN, ← E1, ← E2]
  · rw [cNN, ← E1, a1, F2]
  · rw [cNN, ← E1, a1]
    have kb : z_kd S2 b = 3 := by rw [((old2 I2 (fun _ _ _ => rfl)).2 b (by omega)).1.1.1]; exact l1
    have ib4 : ∀ I' : zI, (∀ y, y ≠ z_sz S + 1 → y ≠ z_sz S + 2 → I' y = I2 y) → I' b = I b := fun I' hI => ((old2 I' hI).2 b (by omega)).2.1
    suffices H : ∀ x, x ≤ N → ∀ I3 v4, (∀ y, y ≠ z_sz S + 1 → y ≠ z_sz S + 2 → I3 y = I2 y) → (∀ x', x' < x → I3 (z_sz S + 2) x' = nI x') → (∀ x' y, x' < x → y < N → I3 (z_sz S + 1) (x' * N + y) = nI (t x' y)) → Go d i_X2_build 21 [.ref b, .ref (z_sz S + 1), .ref (z_sz S + 2), .int (nI x), v4] [] S2 I3 J Q from H 0 (by omega) I2 _ (fun _ _ _ => rfl) (fun x' h => by omega) (fun x' y h => by omega)
    refine z_up_to N ?_ ?_
    · intro I3 v4 g1 g2 g3
      refine b_X2_build_21 kb (fun _ => fin I3 g1 g2 g3 _ _) (fun z => absurd ?_ z)
      rw [ib4 I3 g1, h4]; exact nI_le (Nat.le_refl _) (by omega)
    · intro x hx ih I3 v4 g1 g2 g3
      refine b_X2_build_21 kb (fun z => absurd z (by rw [ib4 I3 g1, h4]; exact nI_ge hx (by omega))) (fun _ => b_X2_build_29 ⟨ko.1, by rw [ko.2]; exact vp_in_nI hx (by omega)⟩ ?_)
      rw [nI_clamp (by omega)]
      suffices HI : ∀ y, y ≤ N → ∀ I4, (∀ y, y ≠ z_sz S + 1 → y ≠ z_sz S + 2 → I4 y = I2 y) → (∀ x', x' < x + 1 → I4 (z_sz S + 2) x' = nI x') → (∀ x' y', x' < x → y' < N → I4 (z_sz S + 1) (x' * N + y') = nI (t x' y')) → (∀ y', y' < y → I4 (z_sz S + 1) (x * N + y') = nI (t x y')) → Go d i_X2_build 36 [.ref b, .ref (z_sz S + 1), .ref (z_sz S + 2), .int (nI x), .int (nI y)] [] S2 I4 J Q from HI 0 (by omega) _ (fun y q1 q2 => by rw [z_u2_row q2]; exact g1 y q1 q2) (fun x' hx' => by
        by_cases e : x' = x
        · rw [e, z_u2_same]
        · rw [z_u2_nk e]; exact g2 x' (by omega)) (fun x' y' hx' hy' => by rw [z_u2_row (by omega)]; exact g3 x' y' hx' hy') (fun y' h => by omega)
      refine z_up_to N ?_ ?_
      · intro I4 q1 q2 q3 q4
        refine b_X2_build_36 kb (fun _ => b_X2_build_86 ?_) (fun z => absurd ?_ z)
        · rw [nI_1]
          refine ih I4 _ q1 q2 (fun x' y hx' hy => ?_)
          by_cases e : x' = x
          · rw [e]; exact q4 y hy
          · exact q3 x' y (by omega) hy
        · rw [ib4 I4 q1, h4]; exact nI_le (Nat.le_refl _) (by omega)
      · intro y hy ih2 I4 q1 q2 q3 q4
        have O4 := old2 I4 q1
        have hp := hprod S2 I4 J O4 x y hx hy
        have hxy : x * N + y < N * N := by
          have : (x + 1) * N ≤ N * N := Nat.mul_le_mul_right N hx
          rw [Nat.add_mul, Nat.one_mul] at this
          omega
        have ei : nI x * I4 b 4 + nI y = nI (x * N + y) := by rw [ib4 I4 q1, h4, pk_mul, nI_add]
        have next : Go d i_X2_build 36 [.ref b, .ref (z_sz S + 1), .ref (z_sz S + 2), .int (nI x), .int (nI y + 1)] [] S2 (z_u2 I4 (z_sz S + 1) (Int32.toNatClampNeg (nI (x * N + y))) (nI (t x y))) J Q := by
          rw [nI_1, nI_clamp (by omega)]
          refine ih2 _ (fun y a1 a2 => by rw [z_u2_row a1]; exact q1 y a1 a2) (fun x' hx' => by rw [z_u2_row (by omega)]; exact q2 x' hx') (fun x' y' hx' hy' => ?_) (fun y' hy' => ?_)
          · rw [z_u2_nk (fun e => ?_)]
            · exact q3 x' y' hx' hy'
            · have : (x' + 1) * N ≤ x * N := Nat.mul_le_mul_right N hx'
              rw [Nat.add_mul, Nat.one_mul] at this
              omega
          · by_cases e : y' = y
            · rw [e, z_u2_same]
            · rw [z_u2_nk (by omega)]; exact q4 y' (by omega)
        have wt : z_kd S2 (z_sz S + 1) = 100 ∧ vp_in (nI (x * N + y)) (z_ln S2 (z_sz S + 1)) := ⟨kt.1, by rw [kt.2]; exact vp_in_nI hxy (by omega)⟩
        refine b_X2_build_36 kb (fun z => absurd z (by rw [ib4 I4 q1, h4]; exact nI_ge hy (by omega))) (fun _ => b_X2_build_45 kb kb (fun z => ?_) (fun z => ?_))
        · rw [ei]
          have e0 : rc = 0 := by
            rw [ib4 I4 q1, h6, show (0 : Int32) = nI 0 from rfl, nI_leI hrc (by decide)] at z
            omega
          rw [if_pos e0] at hp
          exact b_X2_build_72 kb ⟨_, _, _, _, hp, b_X2_build_79 wt next⟩
        · rw [ei]
          have e0 : ¬ rc = 0 := by
            rw [ib4 I4 q1, h6, show (0 : Int32) = nI 0 from rfl, nI_leI hrc (by decide)] at z
            omega
          rw [if_neg e0] at hp
          exact b_X2_build_62 kb ⟨_, _, _, _, hp, b_X2_build_69 wt next⟩
end CB4

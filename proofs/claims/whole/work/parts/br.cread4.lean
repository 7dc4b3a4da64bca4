/-! THE CLASS: rows are read -/
section CR4
variable {d a n q : Nat} {B : Nat → Int32} {R : Nat → Nat → Nat} {S : zS} {I I0 I1 I2 : zI} {J : zJ}
theorem BRs.cg {b cnt dg : Nat} (h : BRs I b R cnt dg) (h0 : I1 b = I b) (h4 : I1 (b + 4) = I (b + 4)) : BRs I1 b R cnt dg := by
  unfold BRs
  rw [h0, h4]; exact h
theorem c_readRows {f place : Nat} (hd : 5 < d) (h : RS S I0 a B n q) (hB : BRs I0 (a + 3) (fun _ _ => 0) 0 0) (hf : n < f + q) : ∃ I' v, z_ev d i_X10_readRows [.ref (a + 2), .int (nI place)] S I0 J (some (.int v)) S I' J ∧ RFr I0 I' a ∧ (∀ k, 2 ≤ k → I' (a + 2) k = I0 (a + 2) k) ∧ (∀ c, permsP B n f place q = .inl c → v = 0 ∧ I' (a + 2) 0 = nI c.1 ∧ I' (a + 2) 1 = nI c.2) ∧ ∀ c, permsP B n f place q = .inr c → v = 1 ∧ I' (a + 2) = I0 (a + 2) ∧ RS S I' a B n c.2 ∧ ∃ R T D s, c.1 = grR D s ∧ clo D R T = some s ∧ (∀ t, t < T → Prm D (R t)) ∧ (0 < D ∧ D ≤ 8) ∧ (0 < T ∧ T ≤ 100) ∧ BRs I' (a + 3) R T D ∧ BEs I' (a + 3) D s := by
  obtain ⟨d, rfl⟩ := z_dep (d := d) (by omega)
  have hL' := h.1
  obtain ⟨l1, l2, l3, l4, l5⟩ := h.1
  have kl : z_kd S (z_rv S (a + 2) 5) = 6 := by rw [l2]; exact l5.1
  have kb : z_kd S (z_rv S (a + 2) 6) = 3 := by rw [l3]; exact l4.1
  have hn := h.2.1.2.2.1.2
  obtain ⟨Q, hQ⟩ : ∃ Q : zQ, Q = fun w S' I' J' => S' = S ∧ J' = J ∧ RFr I0 I' a ∧ (∀ k, 2 ≤ k → I' (a + 2) k = I0 (a + 2) k) ∧ (∀ c, permsP B n f place q = .inl c → w = some (.int 0) ∧ I' (a + 2) 0 = nI c.1 ∧ I' (a + 2) 1 = nI c.2) ∧ (∀ c, permsP B n f place q = .inr c → w = some (.int 1) ∧ I' (a + 2) = I0 (a + 2) ∧ RS S I' a B n c.2 ∧ ∃ R T D s, c.1 = grR D s ∧ clo D R T = some s ∧ (∀ t, t < T → Prm D (R t)) ∧ (0 < D ∧ D ≤ 8) ∧ (0 < T ∧ T ≤ 100) ∧ BRs I' (a + 3) R T D ∧ BEs I' (a + 3) D s) ∧ ∃ v, w = some (.int v) := ⟨_, rfl⟩
  suffices hw : z_wp (d + 1) i_X10_readRows [.ref (a + 2), .int (nI place)] S I0 J Q by
    rw [hQ] at hw
    obtain ⟨w, S', I', J', x1, rfl, rfl, x2, x3, x4, x5, v, rfl⟩ := hw
    refine ⟨I', v, x1, x2, x3, fun c hc => ?_, fun c hc => ?_⟩
    · obtain ⟨y1, y2⟩ := x4 c hc
      exact ⟨by injection y1 with y1; injection y1, y2⟩
    · obtain ⟨y1, y2⟩ := x5 c hc
      exact ⟨by injection y1 with y1; injection y1, y2⟩
  have bad : ∀ (I1 : zI) (c pl : Nat), RFr I0 I1 a → (∀ k, 2 ≤ k → I1 (a + 2) k = I0 (a + 2) k) → permsP B n f place q = .inl (c, pl) → Q (some (.int 0)) S (z_u2 (z_u2 I1 (a + 2) 0 (nI c)) (a + 2) 1 (nI pl)) J := fun I1 c pl g1 g2 e => by
    rw [hQ]
    refine ⟨rfl, rfl, fun y hy => by rw [z_u2_row (by omega), z_u2_row (by omega)]; exact g1 y hy, fun k hk => by rw [z_u2_nk (by omega), z_u2_nk (by omega)]; exact g2 k hk, fun c0 hc => ?_, fun c0 hc => (by rw [e] at hc; cases hc), 0, rfl⟩
    rw [e] at hc
    have hc := Sum.inl.inj hc
    rw [← hc]
    exact ⟨rfl, by rw [z_u2_nk (by decide), z_u2_same], z_u2_same⟩
  -- behind the rows
  have fin : ∀ (R : Nat → Nat → Nat) (T D q' : Nat) (I1 : zI) (x2 x3 : Int32) (v4 v5 v6 : Value), rowsP B n f (fun _ _ => 0) 0 0 q = .inr ((R, T, D), q') → RFr I0 I1 a → I1 (a + 2) = I0 (a + 2) → RS S I1 a B n q' → BRs I1 (a + 3) R T D → (0 < T ∧ T ≤ 100) → (0 < D ∧ D ≤ 8) → (∀ t, t < T → Prm D (R t)) → Go d i_X10_readRows 144 [.ref (a + 2), .int (nI place), .int x2, .int x3, v4, v5, v6] [] S I1 J Q := fun R T D q' I1 x2 x3 v4 v5 v6 eR g1 g2 g3 g4 hT hD hR => by
    obtain ⟨I2, v, r1, r2, r3, r4, r5⟩ := c_findElements (d := d) (J := J) (by omega) l4 hD g4 hT hR
    have i2 : I2 (a + 2) = I0 (a + 2) := by rw [r2 _ (by omega) (by omega)]; exact g2
    have rf2 : RFr I0 I2 a := fun y hy => by rw [r2 y (by omega) (by omega)]; exact g1 y hy
    refine b_X10_readRows_144 l1 kb ?_
    rw [l3]
    refine ⟨_, _, _, _, r1, ?_⟩
    rcases e : clo D R T with _ | s
    · have hv := r4 e
      subst hv
      have eP := permsP_n (place := place) eR e
      exact b_X10_readRows_151 (fun z => absurd rfl z) (fun _ => b_X10_readRows_154 l1 ⟨_, _, _, _, c_rfail 3 (nI place) (by omega) hL', b_X10_readRows_160 (fun _ => b_X10_readRows_167 z_fit0 (bad I2 3 place rf2 (fun k _ => by rw [i2]) eP)) (fun z => absurd rfl z)⟩)
    · obtain ⟨hv, hE⟩ := r5 s e
      subst hv
      have eP := permsP_s (place := place) eR e
      refine b_X10_readRows_151 (fun _ => b_X10_readRows_163 z_fit1 ?_) (fun z => by cases z)
      rw [hQ]
      refine ⟨rfl, rfl, rf2, fun k _ => by rw [i2], fun c0 hc => (by rw [eP] at hc; cases hc), fun c0 hc => ?_, 1, rfl⟩
      rw [eP] at hc
      have hc := Sum.inr.inj hc
      rw [← hc]
      refine ⟨rfl, i2, g3.of (r2 _ (by omega) (by omega)) (r2 _ (by omega) (by omega)), R, T, D, s, rfl, e, hR, hD, hT, ?_, hE⟩
      obtain ⟨b1, b2, b3⟩ := g4
      exact ⟨by rw [r3 6 (by decide)]; exact b1, fun w => by rw [r3 7 (by decide)]; exact b2 w, fun t ht => by rw [r2 _ (by omega) (by omega)]; exact b3 t ht⟩
  refine w_X10_readRows (b_X10_readRows_0 ?_)
  suffices H : ∀ f' q' i R cnt dg I1 v4 v5 v6, n < f' + q' → RS S I1 a B n q' → RFr I0 I1 a → I1 (a + 2) = I0 (a + 2) → BRs I1 (a + 3) R cnt dg → (0 < cnt → 0 < dg ∧ dg ≤ 8) → (∀ t, t < cnt → Prm dg (R t)) → i ≤ q' → 3 * cnt ≤ q' → rowsP B n f (fun _ _ => 0) 0 0 q = rowsP B n f' R cnt dg q' → Go d i_X10_readRows 4 [.ref (a + 2), .int (nI place), .int 1, .int (nI i), v4, v5, v6] [] S I1 J Q from H f q 0 (fun _ _ => 0) 0 0 I0 _ _ _ hf h RFr.refl rfl hB (fun h => by omega) (fun t h => by omega) (by omega) (by omega) rfl
  intro f'
  induction f' with
  | zero =>
    intro q' i R cnt dg I1 v4 v5 v6 hf' hr
    have := hr.2.2.1.1
    omega
  | succ f' ih =>
    intro q' i R cnt dg I1 v4 v5 v6 hf' hr g1 g2 hb hdg hR hiq h3 hres
    have hql := hr.2.2.1.1
    have hX := hr.2.1
    have hqq := hr.2.2
    have s4 : I1 (a + 9) 4 = nI (pts B n q') := hqq.2.2.2
    have hpl := pts_lt B n q'
    have c4 : I1 (z_rv S (a + 2) 5) 4 = 2 ↔ pts B n q' = 2 := by rw [l2, s4, z_lit 2, nI_eq (by omega) (by decide)]
    have hte := pte_le (B := B) hql
    refine b_X10_readRows_4 l1 kl (fun z => ?_) (fun _ => b_X10_readRows_15 (fun z => by cases z) (fun _ => b_X10_readRows_19 l1 kl l1 kl l1 kl (fun y => ?_) (fun y => ?_)))
    · rw [l2, hX.2.2.1.1, nI_ltI (by omega) (by omega)] at z; omega
    · have y' : ¬ pts B n q' = 2 := fun w => y (c4.mpr w)
      have en : rowP B n cnt dg q' = .inl (1, q') := zq_f (fun w => y' (pts_n.mpr w))
      rw [rowsP_l en] at hres
      have eP := permsP_l (place := place) hres
      exact b_X10_readRows_61 l1 kl (fun _ => b_X10_readRows_80 l1 ⟨_, _, _, _, c_take0 (by omega) hr, b_X10_readRows_84 (fun w => absurd rfl w) (fun _ => b_X10_readRows_87 z_fit0 (bad I1 1 q' g1 (fun k _ => by rw [g2]) eP))⟩) (fun w => absurd w y)
    · have y' : pts B n q' = 2 := c4.mp y
      have yd := pts_n.mp y'
      have hgt := pte_gt (B := B) yd.1
      have hrow := c_row (d := d) (J := J) (by omega) hX hqq y'
      obtain ⟨I2, t1, t2, t3⟩ := c_take1 (d := d) (J := J) (by omega) hr
      have g12 : RFr I0 I2 a := g1.trans t2.rf
      have i2 : I2 (a + 2) = I0 (a + 2) := by rw [t2.1 _ (by omega)]; exact g2
      have b2 : BRs I2 (a + 3) R cnt dg := hb.cg (t2.1 _ (by omega)) (t2.1 _ (by omega))
      have flt : ¬ (RwOk B q' (pte B n q') ∧ (cnt = 0 ∨ pte B n q' - q' = dg)) → ∀ (I3 : zI) (x5 x6 : Int32), RFr I0 I3 a → I3 (a + 2) = I0 (a + 2) → Go d i_X10_readRows 109 [.ref (a + 2), .int (nI place), .int 1, .int (nI i), .int (nI q'), .int x5, .int x6] [] S I3 J Q := fun hno I3 x5 x6 g3 i3 => by
        have en : rowP B n cnt dg q' = .inl (2, q') := by unfold rowP; rw [zq_t yd, zq_f hno]
        rw [rowsP_l en] at hres
        have eP := permsP_l (place := place) hres
        exact b_X10_readRows_109 l1 ⟨_, _, _, _, c_rfail 2 (nI q') (by omega) hL', b_X10_readRows_116 z_fit0 (bad I3 2 q' g3 (fun k _ => by rw [i3]) eP)⟩
      have esub : I1 (z_rv S (a + 2) 5) 3 - I1 (z_rv S (a + 2) 5) 2 = nI (pte B n q' - q') := by rw [l2, hqq.2.2.1, hqq.2.1, pk_sub (by omega)]
      rw [esub, l2, hqq.2.1]
      refine b_X10_readRows_51 l1 kl ?_
      rw [l2]
      refine ⟨_, _, _, _, hrow, b_X10_readRows_58 l1 kl (fun w => absurd y w) (fun _ => b_X10_readRows_76 l1 ⟨_, _, _, _, t1, b_X10_readRows_84 (fun _ => ?_) (fun w => by cases w)⟩)⟩
      rcases Classical.em (RwOk B q' (pte B n q')) with ok | ok
      · rw [zq_t ok]
        have hD8 : pte B n q' - q' ≤ 8 := by have := ok.1.2; omega
        have hD2 : 2 ≤ pte B n q' - q' := by have := ok.1.1; omega
        have p24 := pck_31 (r := fun i => dvl B (q' + i)) hD8 (fun i hi => Nat.lt_of_lt_of_le (ok.2.1 i hi) hD8)
        obtain ⟨I3, u1, u2, u3⟩ := c_addRow (d := d) (J := J) (r := fun i => dvl B (q' + i)) (D := pte B n q' - q') (by omega) l4 b2 (by omega) hD8 (fun w => (hdg w).2)
        have i3 : I3 (a + 2) = I0 (a + 2) := by rw [u2 _ (by omega) (by omega)]; exact i2
        have g3 : RFr I0 I3 a := fun y hy => by rw [u2 y (by omega) (by omega)]; exact g12 y hy
        have rs3 : RS S I3 a B n (pnx B n q') := t3.of (u2 _ (by omega) (by omega)) (u2 _ (by omega) (by omega))
        refine b_X10_readRows_89 (fun w => ?_) (fun _ => b_X10_readRows_95 l1 kb ?_)
        · exfalso
          have hpos := nI_pos (show pck (fun i => dvl B (q' + i)) (pte B n q' - q') < 2 ^ 31 by omega)
          rw [w] at hpos
          exact hpos (by decide)
        · rw [l3]
          refine ⟨_, _, _, _, u1, b_X10_readRows_106 (fun w => b_X10_readRows_117 l1 kl ?_) (fun w => flt (fun z => (zb_0.mp w) z.2) I3 _ _ g3 i3)⟩
          have hor := zb_1.mp w
          have b3 := u3 hor
          have en : rowP B n cnt dg q' = .inr ((pte B n q' - q', fun i => dvl B (q' + i)), pnx B n q') := by unfold rowP; rw [zq_t yd, zq_t ⟨ok, hor⟩]
          have hR' : ∀ t, t < cnt + 1 → Prm (pte B n q' - q') (rup R cnt (fun i => dvl B (q' + i)) t) := fun t ht => by
            unfold rup
            by_cases et : t = cnt
            · rw [if_pos et]; exact ok.2
            · rw [if_neg et]
              have : pte B n q' - q' = dg := by omega
              rw [this]; exact hR t (by omega)
          have hnx : pte B n q' ≤ pnx B n q' := psp_ge
          have hnl := pnx_le (B := B) hql
          rw [rowsP_r en] at hres
          have sg := c_isSign (d := d) (J := J) (x := 44) ⟨fun z => absurd z.1 (by decide), fun z => absurd z.1 (by decide)⟩ (by omega) rs3.2.1 rs3.2.2
          rw [l2]
          refine ⟨_, _, _, _, sg, b_X10_readRows_126 (fun z => ?_) (fun z => ?_)⟩
          · have z' := zb_0.mp z
            have hres : rowsP B n f (fun _ _ => 0) 0 0 q = .inr ((rup R cnt (fun i => dvl B (q' + i)), cnt + 1, pte B n q' - q'), pnx B n q') := by rw [hres]; exact zq_f z'
            rw [z]
            exact b_X10_readRows_138 (b_X10_readRows_4 l1 kl (fun _ => fin _ _ _ _ I3 _ _ _ _ _ hres g3 i3 rs3 b3 (by omega) (by omega) hR') (fun _ => b_X10_readRows_15 (fun _ => fin _ _ _ _ I3 _ _ _ _ _ hres g3 i3 rs3 b3 (by omega) (by omega) hR') (fun y => absurd rfl y)))
          · have z' := zb_1.mp z
            have hres : rowsP B n f (fun _ _ => 0) 0 0 q = rowsP B n f' (rup R cnt (fun i => dvl B (q' + i))) (cnt + 1) (pte B n q' - q') (pnx B n (pnx B n q')) := by rw [hres]; exact zq_t z'
            obtain ⟨I4, w1, w2, w3⟩ := c_adv (d := d) (J := J) (by omega) rs3.2.1 rs3.2.2
            have gt2 := pnx_gt (B := B) z'.1
            refine b_X10_readRows_131 l1 kl ?_
            rw [l2]
            refine ⟨_, _, _, _, w1, b_X10_readRows_138 ?_⟩
            rw [nI_1, zb_t z']
            exact ih (pnx B n (pnx B n q')) (i + 1) _ _ _ I4 _ _ _ (by omega) ⟨hL', rs3.2.1.fr w2, w3⟩ (g3.trans w2.rf) (by rw [w2.1 _ (by omega)]; exact i3) (b3.cg (w2.1 _ (by omega)) (w2.1 _ (by omega))) (fun _ => by omega) hR' (by omega) (by omega) hres
      · rw [zq_f ok]
        exact b_X10_readRows_89 (fun _ => flt (fun z => ok z.1) I2 _ _ g12 i2) (fun w => absurd rfl w)
end CR4

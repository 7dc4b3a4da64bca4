/-! THE MODEL: tell -/
section ML3
variable {d m n q s : Nat} {B : Nat → Int32} {X : Slt} {A : Wst} {laid : Bool} {S : zS} {I I0 I1 I2 : zI} {J : zJ}
theorem m_copies3 {u p r lu : Nat} (hd : 0 < d) (hu : z_kd S u = 100 ∧ z_ln S u = lu) (h1 : r + 665 ≤ p) (h2 : p + 665 ≤ lu) (h3 : lu < 2 ^ 20) : ∃ I', z_ev d i_X12_copies [.ref u, .int (nI p), .ref u, .int (nI r)] S I J none S I' J ∧ (∀ h, h ≠ u → I' h = I h) ∧ (∀ j, j < 665 → I' u (r + j) = I u (p + j)) ∧ ∀ j, j < r ∨ r + 665 ≤ j → I' u j = I u j := by
  obtain ⟨d, rfl⟩ := z_dep hd
  obtain ⟨Q, hQ⟩ : ∃ Q : zQ, Q = fun w S' I' J' => w = none ∧ S' = S ∧ J' = J ∧ (∀ h, h ≠ u → I' h = I h) ∧ (∀ j, j < 665 → I' u (r + j) = I u (p + j)) ∧ ∀ j, j < r ∨ r + 665 ≤ j → I' u j = I u j := ⟨_, rfl⟩
  suffices hw : z_wp (d + 1) i_X12_copies [.ref u, .int (nI p), .ref u, .int (nI r)] S I J Q by
    rw [hQ] at hw
    obtain ⟨w, S', I', J', x1, rfl, rfl, rfl, x2⟩ := hw
    exact ⟨I', x1, x2⟩
  refine w_X12_copies (b_X12_copies_0 ?_)
  suffices H : ∀ k, k ≤ 665 → ∀ I1 x4, (∀ h, h ≠ u → I1 h = I h) → (∀ j, j < k → I1 u (r + j) = I u (p + j)) → (∀ j, j < r ∨ r + k ≤ j → I1 u j = I u j) → x4 = nI k → Go d i_X12_copies 3 [.ref u, .int (nI p), .ref u, .int (nI r), .int x4] [] S I1 J Q from H 0 (by omega) I _ (fun _ _ => rfl) (fun j hj => by omega) (fun _ _ => rfl) rfl
  refine z_up_to 665 ?_ ?_
  · rintro I1 x4 a1 a2 a3 rfl
    refine b_X12_copies_3 (fun _ => b_X12_copies_29 ?_) (fun z => absurd (by decide) z)
    rw [hQ]; exact ⟨rfl, rfl, rfl, a1, a2, a3⟩
  · rintro k hk ih I1 x4 a1 a2 a3 rfl
    refine b_X12_copies_3 (fun z => absurd z (nI_ge hk (by decide))) (fun _ => b_X12_copies_11 ⟨by rw [hu.1]; rfl, by rw [nI_add, hu.2]; exact vp_in_nI (by omega) (by omega)⟩ ⟨hu.1, by rw [nI_add, hu.2]; exact vp_in_nI (by omega) (by omega)⟩ ?_)
    rw [nI_add, nI_add, nI_clamp (by omega), nI_clamp (by omega), a3 (p + k) (by omega)]
    refine ih _ _ (fun h hh => by rw [z_u2_row hh]; exact a1 h hh) (fun j hj => ?_) (fun j hj => ?_) (nI_1 k)
    · by_cases e : j = k
      · rw [e, z_u2_same]
      · rw [z_u2_nk (by omega)]; exact a2 j (by omega)
    · rw [z_u2_nk (by omega)]; exact a3 j (by omega)
noncomputable def txR (A : Wst) (s n : Nat) : (Nat × Nat) ⊕ Slt := textP A.tp n (n + 1) false (A.sl s) (psp A.tp n 0)
def wTl (A : Wst) (s : Nat) (r : (Nat × Nat) ⊕ Slt) : Wst := match r with
  | .inl c => (A.sl, A.kp, A.hi, 0, A.tp, nI c.1, nI c.2)
  | .inr X => ((fun i => if i = s then X else A.sl i), 0, A.hi, 0, A.tp, 0, -1)
def aTl (r : (Nat × Nat) ⊕ Slt) : Int32 := match r with
  | .inl c => -30 - nI c.1
  | .inr X => nI X.n
noncomputable def wTell (A : Wst) (x1 x2 : Int32) : Wst := zq (El 2 x1 ∧ El (A.tl + 1) x2) (wTl A (ix x1) (txR A (ix x1) (ix x2))) A
noncomputable def aTell (A : Wst) (x1 x2 : Int32) : Int32 := zq (El 2 x1) (zq (El (A.tl + 1) x2) (aTl (txR A (ix x1) (ix x2))) (-3)) (-2)
def TpOk (A : Wst) : Prop := ∀ j, j < A.tl → Byt (A.tp j)
theorem el_in {k : Nat} {x : Int32} (hk : k < 2 ^ 31 - 1) : ((0 : Int32) ≤ x ∧ x ≤ nI k) ↔ El (k + 1) x := by
  constructor
  · rintro ⟨h1, h2⟩
    obtain ⟨j, hj, rfl⟩ := nI_of (x := x) (fun z => (i32_nle.mpr z) h1)
    rw [nI_leI hj (by omega)] at h2
    exact ⟨j, by omega, rfl⟩
  · rintro ⟨j, hj, rfl⟩
    exact ⟨by rw [show (0 : Int32) = nI 0 from rfl, nI_leI (by decide) (by omega)]; omega, by rw [nI_leI (by omega) (by omega)]; omega⟩
theorem m_tell (x1 x2 : Int32) (hd : 12 < d) (h : MW S I0 m A) (hA : WOk A) (hB : TpOk A) (hK : KY S I0) (hE : EVm I0 m) : ∃ I', z_ev d i_X12_tell [.ref m, .int x1, .int x2] S I0 J (some (.int (aTell A x1 x2))) S I' J ∧ (∀ h, h < m ∨ m + 16 < h → I' h = I0 h) ∧ EVm I' m ∧ MW S I' m (wTell A x1 x2) ∧ WOk (wTell A x1 x2) := by
  obtain ⟨d, rfl⟩ := z_dep (d := d) (by omega)
  have h' := h
  obtain ⟨hL, h2, h3, h4, h5, h6, h7, h8⟩ := h
  have hk := hL.k
  have b0 := hL.a0
  have htl := hA.2.2.2
  obtain ⟨Ia, Ea⟩ : ∃ Ia, Ia = z_u2 I0 m 1 0 := ⟨_, rfl⟩
  have fa : ∀ y, y ≠ m → Ia y = I0 y := fun y hy => by rw [Ea, z_u2_row hy]
  have fk : ∀ k, k ≠ 1 → Ia m k = I0 m k := fun k hk => by rw [Ea, z_u2_nk hk]
  have ha : MW S Ia m A := h'.mq (by rw [Ea]; exact mq_th)
  have hEa : EVm Ia m := hE.fr (fk 11 (by decide)) (fa _ (by omega))
  obtain ⟨Q, hQ⟩ : ∃ Q : zQ, Q = fun w S' I' J' => w = some (.int (aTell A x1 x2)) ∧ S' = S ∧ J' = J ∧ (∀ h, h < m ∨ m + 16 < h → I' h = I0 h) ∧ EVm I' m ∧ MW S I' m (wTell A x1 x2) ∧ WOk (wTell A x1 x2) := ⟨_, rfl⟩
  suffices hw : z_wp (d + 1) i_X12_tell [.ref m, .int x1, .int x2] S I0 J Q by
    rw [hQ] at hw
    obtain ⟨w, S', I', J', y1, rfl, rfl, rfl, y2⟩ := hw
    exact ⟨I', y1, y2⟩
  refine w_X12_tell (b_X12_tell_0 hk ?_)
  rw [← Ea]
  refine ⟨_, _, _, _, m_isSlot x1 (by omega), b_X12_tell_9 (fun c => ?_) (fun c => b_X12_tell_12 ?_)⟩
  · have c := zb_1.mp c
    refine b_X12_tell_15 hk ⟨_, _, _, _, m_isIn (x := x2) (a := 0) (b := Ia m 3) (by omega) rfl rfl rfl, b_X12_tell_26 (fun c2 => ?_) (fun c2 => b_X12_tell_29 ?_)⟩
    · have c2 := zb_1.mp c2
      rw [ha.2.2.2.2.1, el_in (by omega)] at c2
      have eA : aTell A x1 x2 = aTl (txR A (ix x1) (ix x2)) := by unfold aTell; rw [zq_t c, zq_t c2]
      have eW : wTell A x1 x2 = wTl A (ix x1) (txR A (ix x1) (ix x2)) := by unfold wTell; rw [zq_t ⟨c, c2⟩]
      rw [eA, eW] at hQ
      obtain ⟨s, hs, rfl⟩ := c
      obtain ⟨n, hn, rfl⟩ := c2
      rw [ix_nI (by omega), ix_nI (by omega)] at hQ
      have e665 : (665 : Int32) * nI s = nI (665 * s) := by rw [z_lit 665, pk_mul]
      obtain ⟨I1, E1⟩ : ∃ I1, I1 = z_u2 (z_u2 (z_u2 (z_u2 (z_u2 (z_u2 Ia m 3 0) m 4 (nI n)) m 5 0) m 6 0) m 7 (-1)) m 17 0 := ⟨_, rfl⟩
      have f1 : ∀ y, y ≠ m → I1 y = I0 y := fun y hy => by rw [E1, z_u2_row hy, z_u2_row hy, z_u2_row hy, z_u2_row hy, z_u2_row hy, z_u2_row hy, fa y hy]
      have fm : ∀ k, k ≠ 3 → k ≠ 4 → k ≠ 5 → k ≠ 6 → k ≠ 7 → k ≠ 17 → k ≠ 1 → I1 m k = I0 m k := fun k k3 k4 k5 k6 k7 k17 k1 => by rw [E1, z_u2_nk k17, z_u2_nk k7, z_u2_nk k6, z_u2_nk k5, z_u2_nk k4, z_u2_nk k3, fk k k1]
      have v3 : I1 m 3 = 0 := by rw [E1, z_u2_nk (by decide), z_u2_nk (by decide), z_u2_nk (by decide), z_u2_nk (by decide), z_u2_nk (by decide), z_u2_same]
      have v4 : I1 m 4 = nI n := by rw [E1, z_u2_nk (by decide), z_u2_nk (by decide), z_u2_nk (by decide), z_u2_nk (by decide), z_u2_same]
      have v5 : I1 m 5 = 0 := by rw [E1, z_u2_nk (by decide), z_u2_nk (by decide), z_u2_nk (by decide), z_u2_same]
      have v6 : I1 m 6 = 0 := by rw [E1, z_u2_nk (by decide), z_u2_nk (by decide), z_u2_same]
      have v7 : I1 m 7 = -1 := by rw [E1, z_u2_nk (by decide), z_u2_same]
      have v17 : I1 m 17 = 0 := by rw [E1, z_u2_same]
      obtain ⟨I2, q1, q2, q3, q4⟩ := m_copies2 (d := d) (S := S) (I := I1) (J := J) (u := m + 1) (p := 665 * s) (r := 1330) (by omega) ⟨b0.2.1, b0.2.2⟩ (by omega) (by decide) (by decide)
      have i2m : I2 m = I1 m := q2 m (by omega)
      have sl : ∀ s', s' < 2 → MSl (fun j => I2 (m + 1) (665 * s' + j)) (A.sl s') := fun s' hs' => (h2 s' hs').cg (hA.1 s' hs') (fun j hj => by rw [q4 _ (by omega), f1 _ (by omega)])
      have wx : WX I2 m (A.sl s) := ⟨(h2 s hs).cg (hA.1 s hs) (fun j hj => by rw [q3 j hj, f1 _ (by omega)]), hA.1 s hs⟩
      have pm : PM S I2 m A.tp n (psp A.tp n 0) := ⟨hL, ⟨by rw [i2m]; exact v4, by omega, by rw [i2m]; exact v7⟩, ⟨0, by omega, by rw [i2m, v5]; rfl, rfl⟩, by rw [i2m]; exact v6, fun j hj => ⟨by rw [q2 (m + 2) (by omega), f1 _ (by omega)]; exact h6 j (by omega), hB j (by omega)⟩⟩
      have ev2 : EVm I2 m := hE.fr (by rw [i2m, fm 11 (by decide) (by decide) (by decide) (by decide) (by decide) (by decide) (by decide)]) (by rw [q2 _ (by omega), f1 _ (by omega)])
      -- the end
      have done : ∀ I3 : zI, PLn I2 I3 m → EVm I3 m → (∀ c, txR A s n = .inl c → (I3 m 6 = nI c.1 ∧ I3 m 7 = nI c.2) ∧ (c.1 = 1 ∨ c.1 = 2 ∨ c.1 = 3)) → (∀ X, txR A s n = .inr X → I3 m 6 = 0 ∧ I3 m 7 = -1 ∧ WX I3 m X) → Go d i_X12_tell 103 [.ref m, .int (nI s), .int (nI n)] [] S I3 J Q := fun I3 g3 ev3 r1 r2 => by
        have o3 : ∀ y, y < m ∨ m + 16 < y → I3 y = I0 y := fun y hy => by rw [g3.1 y (by omega) (by omega) (by omega) (by omega) (by omega) (by omega), q2 y (by omega), f1 y (by omega)]
        have sl3 : ∀ s', s' < 2 → MSl (fun j => I3 (m + 1) (665 * s' + j)) (A.sl s') := fun s' hs' => (sl s' hs').cg (hA.1 s' hs') (fun j hj => g3.2.1 _ (by omega))
        have t3 : I3 m 3 = 0 := by rw [g3.2.2 3 (by omega), i2m]; exact v3
        have a7 : I3 (m + 7) = I0 (m + 7) := by rw [g3.1 _ (by omega) (by omega) (by omega) (by omega) (by omega) (by omega), q2 _ (by omega), f1 _ (by omega)]
        have a19 : I3 m 19 = nI A.kp := by rw [g3.2.2 19 (by omega), i2m, fm 19 (by decide) (by decide) (by decide) (by decide) (by decide) (by decide) (by decide)]; exact h3
        rcases e : txR A s n with c | X
        · obtain ⟨⟨s1, s2⟩, s3⟩ := r1 c e
          have s6 : ¬ I3 m 6 = 0 := by rw [s1]; exact nI_ne0 (by omega) (by omega)
          refine b_X12_tell_103 hk (fun z => absurd z s6) (fun _ => b_X12_tell_110 hk ?_)
          rw [hQ, e]
          exact ⟨by rw [s1]; rfl, rfl, rfl, o3, ev3, ⟨hL, sl3, a19, by rw [a7]; exact h4, t3, fun j hj => absurd (show j < 0 from hj) (by omega), s1, s2⟩, ⟨hA.1, hA.2.1, hA.2.2.1, Nat.zero_le _⟩⟩
        · obtain ⟨s1, s2, s3⟩ := r2 X e
          obtain ⟨I4, u1, u2, u3, u4⟩ := m_copies3 (d := d) (S := S) (I := I3) (J := J) (u := m + 1) (p := 1330) (r := 665 * s) (by omega) ⟨b0.2.1, b0.2.2⟩ (by omega) (by decide) (by decide)
          refine b_X12_tell_103 hk (fun _ => b_X12_tell_118 hk hk ?_) (fun z => absurd s1 z)
          rw [b0.1, e665]
          have ez : ((665 : Int32) * nI s) + 0 = nI (665 * s) := by rw [e665]; show nI (665 * s) + nI 0 = _; rw [nI_add, Nat.add_zero]
          refine ⟨_, _, _, _, u1, b_X12_tell_137 hk hk (by rw [ez]; exact b0.rd (by omega) (by decide)) ?_⟩
          rw [ez, nI_clamp (by omega), b0.1, z_u2_row (show m + 1 ≠ m by omega)]
          have w0 : I4 (m + 1) (665 * s) = nI X.n := by rw [← Nat.add_zero (665 * s), u3 0 (by decide)]; exact s3.1.1
          rw [w0, hQ, e]
          have k4 : ∀ k, k ≠ 19 → z_u2 I4 m 19 0 m k = I3 m k := fun k hk => by rw [z_u2_nk hk, u2 m (by omega)]
          have r4 : ∀ y, y ≠ m → y ≠ m + 1 → z_u2 I4 m 19 0 y = I3 y := fun y y1 y2 => by rw [z_u2_row y1, u2 y y2]
          refine ⟨rfl, rfl, rfl, fun y hy => by rw [r4 y (by omega) (by omega)]; exact o3 y hy, ev3.fr (k4 11 (by decide)) (r4 _ (by omega) (by omega)), ⟨hL, fun s' hs' => ?_, by rw [z_u2_same]; rfl, fun k hk => absurd (show k < 0 from hk) (by omega), by rw [k4 3 (by decide)]; exact t3, fun j hj => absurd (show j < 0 from hj) (by omega), by rw [k4 6 (by decide)]; exact s1, by rw [k4 7 (by decide)]; exact s2⟩, ⟨fun s' hs' => ?_, Nat.zero_le _, fun k hk => absurd (show k < 0 from hk) (by omega), Nat.zero_le _⟩⟩
          · show MSl _ (if s' = s then X else A.sl s')
            rw [z_u2_row (show m + 1 ≠ m by omega)]
            by_cases es : s' = s
            · rw [if_pos es, es]
              exact s3.1.cg s3.2 (fun j hj => u3 j hj)
            · rw [if_neg es]
              exact (sl3 s' hs').cg (hA.1 s' hs') (fun j hj => u4 _ (by omega))
          · show SlOk (if s' = s then X else A.sl s')
            by_cases es : s' = s
            · rw [if_pos es]; exact s3.2
            · rw [if_neg es]; exact hA.1 s' hs'
      refine b_X12_tell_32 hk hk hk hk hk ⟨hk, Or.inl rfl⟩ E1 hk hk ?_
      rw [b0.1, e665]
      refine ⟨_, _, _, _, q1, ?_⟩
      -- line by line
      suffices H : ∀ f q laid X I3, n < f + q → PM S I3 m A.tp n q → PLn I2 I3 m → EVm I3 m → WX I3 m X → I3 m 17 = nI laid.toNat → txR A s n = textP A.tp n f laid X q → Go d i_X12_tell 81 [.ref m, .int (nI s), .int (nI n)] [] S I3 J Q from H (n + 1) (psp A.tp n 0) false (A.sl s) I2 (by omega) pm PLn.refl ev2 wx (by rw [i2m, v17]; rfl) rfl
      intro f
      induction f with
      | zero =>
        intro q laid X I3 hf hm
        have := hm.le
        omega
      | succ f ih =>
        intro q laid X I3 hf hm hg he hX h17 hres
        have hbt : ∀ j, j < n → Byt (A.tp j) := fun j hj => (hm.2.2.2.2 j hj).2
        obtain ⟨I4, t1, t2, t3, t4⟩ := m_peek (d := d) (J := J) (by omega) hm
        have g4 := hg.trans t2.gr.ln
        have ev4 : EVm I4 m := he.fr (t2.2 11 (by decide) (by decide) (by decide)) (t2.1 _ (by omega))
        have x4 : WX I4 m X := hX.fr (t2.1 _ (by omega))
        have f17 : I4 m 17 = nI laid.toNat := by rw [t2.2 17 (by decide) (by decide) (by decide)]; exact h17
        refine b_X12_tell_81 hk (fun z => absurd hm.2.2.2.1 z) (fun _ => b_X12_tell_88 hk ⟨_, _, _, _, t1, b_X12_tell_92 (fun z => ?_) (fun z => b_X12_tell_96 hk ?_)⟩)
        · have hq := (pkv_e hbt).mp z
          rw [textP_e hq] at hres
          refine done I4 g4 ev4 (fun c hc => by rw [hres] at hc; cases hc) (fun X' hc => ?_)
          rw [hres] at hc
          have hc := Sum.inr.inj hc
          rw [← hc]
          exact ⟨t3.2.2.2.1, t3.2.1.2.2, x4⟩
        · have hq : q < n := by
            rcases Classical.em (q < n) with y | y
            · exact y
            · exact absurd ((pkv_e hbt).mpr y) z
          have hKI2 : KY S I2 := by
            obtain ⟨y1, y2, y3, y4, y5, y6⟩ := hK
            have key : ∀ y, z_kd S y ≠ 13 → z_kd S y ≠ 100 → I2 y = I0 y := fun y n1 n2 => by rw [q2 y (fun e => n2 (by rw [e]; exact b0.2.1)), f1 y (fun e => n1 (by rw [e]; exact hk))]
            refine ⟨y1, by rw [key _ (by rw [y1]; decide) (by rw [y1]; decide)]; exact y2, y3, y4, fun i hi => ?_, y6⟩
            rw [key _ (fun e => by rw [e] at y3; cases y3) (fun e => by rw [e] at y3; cases y3)]; exact y5 i hi
          obtain ⟨I5, w1, w2, w3, w4, w5⟩ := m_lineRead (d := d) (J := J) (by omega) t3 (hKI2.ln hL g4) ev4 x4 f17
          have g5 := g4.trans w2
          refine ⟨_, _, _, _, w1, b_X12_tell_100 ?_⟩
          rcases e : linP A.tp n laid X q with c | c
          · rw [textP_l hq e] at hres
            obtain ⟨⟨s1, s2⟩, s3⟩ := w4 c e
            have s6 : ¬ I5 m 6 = 0 := by rw [s1]; exact nI_ne0 (by omega) (by omega)
            refine b_X12_tell_81 hk (fun _ => done I5 g5 w3 (fun c0 hc => ?_) (fun X' hc => by rw [hres] at hc; cases hc)) (fun z => absurd z s6)
            rw [hres] at hc
            have hc := Sum.inl.inj hc
            rw [← hc]; exact ⟨⟨s1, s2⟩, s3⟩
          · rw [textP_r hq e] at hres
            obtain ⟨s1, s2, s3⟩ := w5 c e
            refine ih c.2 true c.1 I5 ?_ s1 g5 w3 s2 s3 hres
            have := linP_gt e hm.le
            omega
    · have c2 := zb_0.mp c2
      rw [ha.2.2.2.2.1, el_in (by omega)] at c2
      rw [hQ]
      refine ⟨z_someI ?_, rfl, rfl, fun y hy => fa y (by omega), hEa, ?_, ?_⟩
      · unfold aTell; rw [zq_t c, zq_f c2]
      · unfold wTell; rw [zq_f (fun z => c2 z.2)]; exact ha
      · unfold wTell; rw [zq_f (fun z => c2 z.2)]; exact hA
  · have c := zb_0.mp c
    rw [hQ]
    refine ⟨z_someI ?_, rfl, rfl, fun y hy => fa y (by omega), hEa, ?_, ?_⟩
    · unfold aTell; rw [zq_f c]
    · unfold wTell; rw [zq_f (fun z => c z.1)]; exact ha
    · unfold wTell; rw [zq_f (fun z => c z.1)]; exact hA
end ML3

/-! THE MODEL: a group of rows is read -/
noncomputable def permsP (B : Nat → Int32) (n f place q : Nat) : (Nat × Nat) ⊕ (Slt × Nat) := match rowsP B n f (fun _ _ => 0) 0 0 q with
  | .inl c => .inl c
  | .inr c => match clo c.1.2.2 c.1.1 c.1.2.1 with
    | none => .inl (3, place)
    | some s => .inr (grR c.1.2.2 s, c.2)
theorem permsP_l {B : Nat → Int32} {n f place q : Nat} {c : Nat × Nat} (e : rowsP B n f (fun _ _ => 0) 0 0 q = .inl c) : permsP B n f place q = .inl c := by simp only [permsP, e]
theorem permsP_n {B : Nat → Int32} {n f place q : Nat} {c : ((Nat → Nat → Nat) × Nat × Nat) × Nat} (e : rowsP B n f (fun _ _ => 0) 0 0 q = .inr c) (h : clo c.1.2.2 c.1.1 c.1.2.1 = none) : permsP B n f place q = .inl (3, place) := by simp only [permsP, e, h]
theorem permsP_s {B : Nat → Int32} {n f place q : Nat} {c : ((Nat → Nat → Nat) × Nat × Nat) × Nat} {s : Nat × (Nat → Nat → Nat)} (e : rowsP B n f (fun _ _ => 0) 0 0 q = .inr c) (h : clo c.1.2.2 c.1.1 c.1.2.1 = some s) : permsP B n f place q = .inr (grR c.1.2.2 s, c.2) := by simp only [permsP, e, h]
theorem rowP_ok {B : Nat → Int32} {n cnt dg q : Nat} {c : (Nat × (Nat → Nat)) × Nat} (h : rowP B n cnt dg q = .inr c) (hq : q ≤ n) : (q < n ∧ q + 2 ≤ c.2 ∧ c.2 ≤ n) ∧ (2 ≤ c.1.1 ∧ c.1.1 ≤ 8) ∧ Prm c.1.1 c.1.2 ∧ (cnt = 0 ∨ c.1.1 = dg) := by
  unfold rowP at h
  rcases Classical.em (q < n ∧ Dgt (B q)) with a | a
  · rw [zq_t a] at h
    rcases Classical.em (RwOk B q (pte B n q) ∧ (cnt = 0 ∨ pte B n q - q = dg)) with b | b
    · rw [zq_t b] at h
      have h := Sum.inr.inj h
      rw [← h]
      obtain ⟨⟨⟨b1, b2⟩, b3⟩, b4⟩ := b
      have g : pte B n q ≤ pnx B n q := psp_ge
      have g2 := pnx_le (B := B) hq
      refine ⟨⟨a.1, ?_, g2⟩, ⟨?_, ?_⟩, b3, b4⟩
      · show q + 2 ≤ pnx B n q; omega
      · show 2 ≤ pte B n q - q; omega
      · show pte B n q - q ≤ 8; omega
    · rw [zq_f b] at h; cases h
  · rw [zq_f a] at h; cases h
section MPr
variable {d m n D T q x y : Nat} {B : Nat → Int32} {R : Nat → Nat → Nat} {s : Nat × (Nat → Nat → Nat)} {S : zS} {I I0 I1 I2 : zI} {J : zJ}
theorem m_rowTab {x1 x2 : Int32} {v3 v4 : Value} {Q : zQ} (hd : 2 < d) (hL : MLay S m) (hD : 0 < D ∧ D ≤ 8) (h15 : I0 m 15 = nI D) (hR : ∀ t, t < T → Prm D (R t)) (hc : clo D R T = some s) (hW : WR I0 m D s) (hQ : ∀ I' x2 v3 v4, (∀ h, h ≠ m + 1 → h ≠ m + 6 → I' h = I0 h) → (∀ j, j < 1595 → I' (m + 1) j = I0 (m + 1) j) → (∀ x y, x < s.1 → y < s.1 → I' (m + 1) (1595 + 20 * x + y) = nI (rtb D s x y)) → Go d i_X12_permsRead 401 [.ref m, .int x1, .int x2, v3, v4] [] S I' J Q) : Go d i_X12_permsRead 283 [.ref m, .int x1, .int x2, v3, v4] [] S I0 J Q := by
  have hk := hL.k
  have b0 := hL.a0
  have b6 := hL.2.2.2.2.2.2.1
  obtain ⟨⟨hs1, hs2, _⟩, _⟩ := clo_ok hR hc
  have c1330 : Int32.toNatClampNeg (1330 : Int32) = 1330 := by decide
  have rd30 := b0.rd (i := 1330) (by decide) (by decide)
  have hp8 : ∀ y i, y < s.1 → i < D → s.2 y i < 8 := fun y i hy hi => by have := (hs2 y hy).1 i hi; omega
  refine b_X12_permsRead_283 ?_
  suffices H : ∀ x, x ≤ s.1 → ∀ (I' : zI) (v3 v4 : Value), (∀ h, h ≠ m + 1 → h ≠ m + 6 → I' h = I0 h) → (∀ j, j < 1595 → I' (m + 1) j = I0 (m + 1) j) → (∀ x' y, x' < x → y < s.1 → I' (m + 1) (1595 + 20 * x' + y) = nI (rtb D s x' y)) → Go d i_X12_permsRead 285 [.ref m, .int x1, .int (nI x), v3, v4] [] S I' J Q from H 0 (by omega) I0 _ _ (fun _ _ _ => rfl) (fun _ _ => rfl) (fun x' y h => by omega)
  refine z_up_to s.1 ?_ ?_
  · intro I' v3 v4 g1 g2 g3
    refine b_X12_permsRead_285 hk rd30 (fun _ => hQ I' _ _ _ g1 g2 g3) (fun z => absurd ?_ z)
    rw [c1330, b0.1, g2 1330 (by decide), hW.1]; exact nI_le (Nat.le_refl _) (by omega)
  · intro x hx ih I' v3 v4 g1 g2 g3
    refine b_X12_permsRead_285 hk rd30 (fun z => absurd z (by rw [c1330, b0.1, g2 1330 (by decide), hW.1]; exact nI_ge hx (by omega))) (fun _ => b_X12_permsRead_297 ?_)
    suffices HI : ∀ y, y ≤ s.1 → ∀ (I' : zI) (v4 : Value), (∀ h, h ≠ m + 1 → h ≠ m + 6 → I' h = I0 h) → (∀ j, j < 1595 → I' (m + 1) j = I0 (m + 1) j) → (∀ x' y, x' < x → y < s.1 → I' (m + 1) (1595 + 20 * x' + y) = nI (rtb D s x' y)) → (∀ y', y' < y → I' (m + 1) (1595 + 20 * x + y') = nI (rtb D s x y')) → Go d i_X12_permsRead 299 [.ref m, .int x1, .int (nI x), .int (nI y), v4] [] S I' J Q from HI 0 (by omega) I' v4 g1 g2 g3 (fun y' h => by omega)
    refine z_up_to s.1 ?_ ?_
    · intro I' v4 g1 g2 g3 g4
      refine b_X12_permsRead_299 hk rd30 (fun _ => b_X12_permsRead_395 ?_) (fun z => absurd ?_ z)
      · rw [nI_1]
        refine ih I' _ _ g1 g2 (fun x' y hx' hy => ?_)
        by_cases q : x' = x
        · rw [q]; exact g4 y hy
        · exact g3 x' y (by omega) hy
      · rw [c1330, b0.1, g2 1330 (by decide), hW.1]; exact nI_le (Nat.le_refl _) (by omega)
    · intro y hy ih2 I' v4 g1 g2 g3 g4
      refine b_X12_permsRead_299 hk rd30 (fun z => absurd z (by rw [c1330, b0.1, g2 1330 (by decide), hW.1]; exact nI_ge hy (by omega))) (fun _ => b_X12_permsRead_311 ?_)
      have hw : ∀ I2 : zI, (∀ h, h ≠ m + 6 → I2 h = I' h) → WR I2 m D s := fun I2 hI => ⟨by rw [hI (m + 1) (by omega), g2 1330 (by decide)]; exact hW.1, fun y i hy hi => by rw [hI (m + 1) (by omega), g2 _ (by omega)]; exact hW.2 y i hy hi⟩
      have m15 : ∀ I2 : zI, (∀ h, h ≠ m + 6 → I2 h = I' h) → I2 m 15 = nI D := fun I2 hI => by rw [hI m (by omega), g1 m (by omega) (by omega)]; exact h15
      suffices HC : ∀ i, i ≤ D → ∀ I2 : zI, (∀ h, h ≠ m + 6 → I2 h = I' h) → (∀ i', i' < i → I2 (m + 6) i' = nI (s.2 y (s.2 x i'))) → Go d i_X12_permsRead 314 [.ref m, .int x1, .int (nI x), .int (nI y), .int (nI i)] [] S I2 J Q from HC 0 (by omega) I' (fun _ _ => rfl) (fun i' h => by omega)
      refine z_up_to D ?_ ?_
      · intro I2 a1 a2
        have hfr := m_findRow (d := d) (J := J) (r := fun i => s.2 y (s.2 x i)) (by omega) hL hD.2 (m15 I2 a1) (hw I2 a1) (by omega) hp8 (fun i hi => ⟨a2 i hi, hp8 _ _ hy ((hs2 x hx).1 i hi)⟩)
        have ef : fndR D s (fun i => s.2 y (s.2 x i)) = rtb D s x y := by unfold fndR; rw [zq_t (clo_mul hR hc hx hy)]; rfl
        rw [ef] at hfr
        have hlt := (rtb_ok hR hc hx hy).1
        refine b_X12_permsRead_314 hk (fun _ => b_X12_permsRead_366 hk hk hk ?_) (fun z => absurd ?_ z)
        · have ei : (1595 : Int32) + (20 : Int32) * nI x + nI y = nI (1595 + 20 * x + y) := by rw [z_lit 20, pk_mul, z_lit 1595, nI_add, nI_add]
          rw [b6.1, ei, b0.1]
          refine ⟨_, _, _, _, hfr, b_X12_permsRead_388 ⟨b0.2.1, by rw [b0.2.2]; exact vp_in_nI (by omega) (by decide)⟩ ?_⟩
          rw [nI_clamp (by omega), nI_1]
          refine ih2 _ _ (fun h b1 b2 => by rw [z_u2_row b1, a1 h b2]; exact g1 h b1 b2) (fun j hj => by rw [z_u2_nk (by omega), a1 (m + 1) (by omega)]; exact g2 j hj) (fun x' y' hx' hy' => by rw [z_u2_nk (by omega), a1 (m + 1) (by omega)]; exact g3 x' y' hx' hy') (fun y' hy' => ?_)
          by_cases q : y' = y
          · rw [q, z_u2_same]
          · rw [z_u2_nk (by omega), a1 (m + 1) (by omega)]; exact g4 y' (by omega)
        · rw [m15 I2 a1]; exact nI_le (Nat.le_refl _) (by omega)
      · intro i hi ih3 I2 a1 a2
        have hw2 := hw I2 a1
        have e1 : (1435 : Int32) + (8 : Int32) * nI x + nI i = nI (1435 + 8 * x + i) := by rw [z_lit 8, pk_mul, z_lit 1435, nI_add, nI_add]
        have hxi := (hs2 x hx).1 i hi
        have v1 : I2 (z_rv S m 0) (Int32.toNatClampNeg ((1435 : Int32) + (8 : Int32) * nI x + nI i)) = nI (s.2 x i) := by rw [e1, nI_clamp (by omega), b0.1]; exact hw2.2 x i hx hi
        have e2 : (1435 : Int32) + (8 : Int32) * nI y + nI (s.2 x i) = nI (1435 + 8 * y + s.2 x i) := by rw [z_lit 8, pk_mul, z_lit 1435, nI_add, nI_add]
        refine b_X12_permsRead_314 hk (fun z => absurd z (by rw [m15 I2 a1]; exact nI_ge hi (by omega))) (fun _ => b_X12_permsRead_323 hk hk hk (by rw [e1]; exact b0.rd (by omega) (by decide)) (by rw [v1, e2]; exact b0.rd (by omega) (by decide)) rfl (b6.wr (by omega) (by decide)) ?_)
        rw [v1, e2, nI_clamp (by omega), nI_clamp (by omega), b0.1, b6.1, hw2.2 y _ hy hxi, nI_1]
        refine ih3 _ (fun h hh => by rw [z_u2_row hh]; exact a1 h hh) (fun i' hi' => ?_)
        by_cases q : i' = i
        · rw [q, z_u2_same]
        · rw [z_u2_nk q]; exact a2 i' (by omega)
theorem m_permsRead {f place : Nat} (hd : 3 < d) (h : PM S I0 m B n q) (hE : EVm I0 m) (hf : n < f + q) (hpl : place < 2 ^ 31) : ∃ I', z_ev d i_X12_permsRead [.ref m, .int (nI place)] S I0 J none S I' J ∧ PGr I0 I' m ∧ EVm I' m ∧ (∀ c, permsP B n f place q = .inl c → (I' m 6 = nI c.1 ∧ I' m 7 = nI c.2) ∧ (c.1 = 1 ∨ c.1 = 2 ∨ c.1 = 3)) ∧ ∀ c, permsP B n f place q = .inr c → PM S I' m B n c.2 ∧ MSl (fun j => I' (m + 1) (1330 + j)) c.1 ∧ SlOk c.1 := by
  obtain ⟨d, rfl⟩ := z_dep (d := d) (by omega)
  have hL := h.1
  have hk := hL.k
  have b0 := hL.a0
  obtain ⟨I1, p1, p2, p3, p4, p5, p6⟩ := m_begins (d := d) (I0 := I0) (J := J) (c := 1) (by omega) hL
  obtain ⟨I2, E2⟩ : ∃ I2, I2 = z_u2 I1 m 14 0 := ⟨_, rfl⟩
  have i1 : I2 (m + 1) = I1 (m + 1) := by rw [E2, z_u2_row (by omega)]
  have g2 : PGr I0 I2 m := by
    rw [E2]
    refine PGr.w ⟨fun y a b _ _ _ _ => p2 y b, p3, fun k _ => by rw [p2 m (by omega)]⟩ (by omega)
  have m2 : PM S I2 m B n q := h.gr g2 (by rw [E2, z_u2_nk (by decide), p2 m (by omega)]) (by rw [E2, z_u2_nk (by decide), p2 m (by omega)]) (by rw [E2, z_u2_nk (by decide), p2 m (by omega)])
  have ev2 : EVm I2 m := hE.fr (by rw [E2, z_u2_nk (by decide), p2 m (by omega)]) (by rw [E2, z_u2_row (by omega), p2 _ (by omega)])
  obtain ⟨Q, hQ⟩ : ∃ Q : zQ, Q = fun w S' I' J' => w = none ∧ S' = S ∧ J' = J ∧ PGr I0 I' m ∧ EVm I' m ∧ (∀ c, permsP B n f place q = .inl c → (I' m 6 = nI c.1 ∧ I' m 7 = nI c.2) ∧ (c.1 = 1 ∨ c.1 = 2 ∨ c.1 = 3)) ∧ ∀ c, permsP B n f place q = .inr c → PM S I' m B n c.2 ∧ MSl (fun j => I' (m + 1) (1330 + j)) c.1 ∧ SlOk c.1 := ⟨_, rfl⟩
  suffices hw : z_wp (d + 1) i_X12_permsRead [.ref m, .int (nI place)] S I0 J Q by
    rw [hQ] at hw
    obtain ⟨w, S', I', J', x1, rfl, rfl, rfl, x2⟩ := hw
    exact ⟨I', x1, x2⟩
  -- behind the rows
  have fin : ∀ (R : Nat → Nat → Nat) (T D q' : Nat) (I3 : zI) (v2 v3 v4 : Value), rowsP B n f (fun _ _ => 0) 0 0 q = .inr ((R, T, D), q') → PGr I0 I3 m → EVm I3 m → PM S I3 m B n q' → I3 (m + 1) = I1 (m + 1) → TW I3 m R T D → 0 < T → T ≤ 100 → (0 < D ∧ D ≤ 8) → (∀ t, t < T → Prm D (R t)) → Go d i_X12_permsRead 47 [.ref m, .int (nI place), v2, v3, v4] [] S I3 J Q := fun R T D q' I3 v2 v3 v4 eR g3 ev3 m3 f1 hT hT0 hT100 hD hR => by
    have h15 : I3 m 15 = nI D := hT.2.1 hT0
    refine b_X12_permsRead_47 hk (fun _ => b_X12_permsRead_55 hk hk (b0.wr (i := 1333) (by decide) (by decide)) ?_) (fun z => absurd m3.2.2.2.1 z)
    rw [show Int32.toNatClampNeg (1333 : Int32) = 1333 by decide, b0.1, h15]
    suffices H : ∀ i, i ≤ D → ∀ I4 : zI, (∀ h, h ≠ m + 1 → I4 h = I3 h) → (∀ j, j ≠ 1333 → (j < 1435 ∨ 1443 ≤ j) → I4 (m + 1) j = I3 (m + 1) j) → I4 (m + 1) 1333 = nI D → (∀ i', i' < i → I4 (m + 1) (1435 + i') = nI i') → Go d i_X12_permsRead 69 [.ref m, .int (nI place), .int (nI i), v3, v4] [] S I4 J Q from H 0 (by omega) _ (fun y hy => by rw [z_u2_row hy]) (fun j hj _ => by rw [z_u2_nk hj]) z_u2_same (fun i' h => by omega)
    refine z_up_to D ?_ ?_
    · intro I4 a1 a2 a3 a4
      have v30 : I4 (m + 1) 1330 = 1 := by rw [a2 1330 (by decide) (by omega), f1]; exact p4
      have g4 : PGr I0 I4 m := g3.trans ⟨fun y _ b _ _ _ _ => a1 y b, fun j hj => a2 j (by omega) (by omega), fun k _ => by rw [a1 m (by omega)]⟩
      have m4 : PM S I4 m B n q' := m3.gr ⟨fun y _ b _ _ _ _ => a1 y b, fun j hj => a2 j (by omega) (by omega), fun k _ => by rw [a1 m (by omega)]⟩ (by rw [a1 m (by omega)]) (by rw [a1 m (by omega)]) (by rw [a1 m (by omega)])
      refine b_X12_permsRead_69 hk (fun _ => b_X12_permsRead_94 ?_) (fun z => absurd ?_ z)
      · refine m_closure (T := T) (R := R) (D := D) (by omega) hL hD (by rw [a1 m (by omega)]; exact h15) (by rw [a1 m (by omega)]; exact hT.1) hT100 (fun t i ht hi => by rw [a1 (m + 5) (by omega)]; exact hT.2.2 t i ht hi) hR ⟨v30, fun y i hy hi => ?_⟩ (fun hnone I5 x2 x3 x4 c1 c2 => ?_) (fun s hsome I5 x2 v3 v4 c1 c2 => ?_)
        · have hy : y < 1 := hy
          rw [show 1435 + 8 * y + i = 1435 + i by omega]; exact a4 i hi
        · have eP := permsP_n (place := place) eR hnone
          refine b_X12_permsRead_204 hk ⟨_, _, _, _, m_fails (by omega) hk (by rw [c1.1 m (by omega) (by omega)]; exact m4.2.2.2.1), b_X12_permsRead_210 ?_⟩
          rw [hQ]
          have g5 : PGr I0 I5 m := g4.trans ⟨fun y _ b _ _ _ c => c1.1 y b c, fun j hj => c1.2 j (by omega), fun k _ => by rw [c1.1 m (by omega) (by omega)]⟩
          refine ⟨rfl, rfl, rfl, (g5.w (by omega)).w (by omega), ((ev3.fr (by rw [a1 m (by omega)]) (a1 _ (by omega))).fr (by rw [c1.1 m (by omega) (by omega)]) (c1.1 _ (by omega) (by omega))).fr (by rw [z_u2_nk (by decide), z_u2_nk (by decide)]) (by rw [z_u2_row (by omega), z_u2_row (by omega)]), fun c0 hc => ?_, fun c0 hc => by rw [eP] at hc; cases hc⟩
          rw [eP] at hc
          have hc := Sum.inl.inj hc
          rw [← hc]
          exact ⟨⟨by rw [z_u2_nk (by decide), z_u2_same]; rfl, z_u2_same⟩, Or.inr (Or.inr rfl)⟩
        · have eP := permsP_s (place := place) eR hsome
          obtain ⟨⟨hs1, hs2, _⟩, _⟩ := clo_ok hR hsome
          refine m_rowTab (by omega) hL hD (by rw [c1.1 m (by omega) (by omega), a1 m (by omega)]; exact h15) hR hsome c2 (fun I6 x2 v3 v4 d1 d2 d3 => ?_)
          obtain ⟨I7, t1, t2, t3, t4⟩ := m_base (d := d) (J := J) (I0 := I6) (N := s.1) (by omega) hL (by rw [d2 1330 (by decide)]; exact c2.1) (by omega)
          refine b_X12_permsRead_401 hk ⟨_, _, _, _, t1, b_X12_permsRead_405 ?_⟩
          have k7 : ∀ h, h ≠ m + 1 → h ≠ m + 6 → I7 h = I4 h := fun h b1 b2 => by rw [t2 h b1, d1 h b1 b2, c1.1 h b1 b2]
          have lo : ∀ j, j < 1330 ∨ (1331 ≤ j ∧ j < 1335) → I7 (m + 1) j = I4 (m + 1) j := fun j hj => by rw [t3 j (by omega), d2 j (by omega), c1.2 j (by omega)]
          have g74 : PGr I4 I7 m := ⟨fun y _ b _ _ _ c => k7 y b c, fun j hj => lo j (by omega), fun k _ => by rw [k7 m (by omega) (by omega)]⟩
          rw [hQ]
          refine ⟨rfl, rfl, rfl, g4.trans g74, (ev3.fr (by rw [a1 m (by omega)]) (a1 _ (by omega))).fr (by rw [k7 m (by omega) (by omega)]) (k7 _ (by omega) (by omega)), fun c0 hc => (by rw [eP] at hc; cases hc), fun c0 hc => ?_⟩
          rw [eP] at hc
          have hc := Sum.inr.inj hc
          rw [← hc]
          refine ⟨m4.gr g74 (by rw [k7 m (by omega) (by omega)]) (by rw [k7 m (by omega) (by omega)]) (by rw [k7 m (by omega) (by omega)]), ?_, grR_ok hR hsome hD.2⟩
          refine ⟨?_, ?_, ?_, ?_, ?_, fun y hy => ?_, fun z => (by cases z), fun _ y i hy hi => ?_, fun x y hx hy => ?_⟩
          · show I7 (m + 1) (1330 + 0) = _
            rw [t3 _ (by omega), d2 _ (by omega)]; exact c2.1
          · show I7 (m + 1) (1330 + 1) = _
            rw [lo _ (by omega), a2 _ (by decide) (by omega), f1]; exact p6 1 (by decide) (by decide) (by decide)
          · show I7 (m + 1) (1330 + 2) = _
            rw [lo _ (by omega), a2 _ (by decide) (by omega), f1]; exact p5
          · show I7 (m + 1) (1330 + 3) = _
            rw [lo _ (by omega)]; exact a3
          · show I7 (m + 1) (1330 + 4) = _
            rw [lo _ (by omega), a2 _ (by decide) (by omega), f1]; exact p6 4 (by decide) (by decide) (by decide)
          · show I7 (m + 1) (1330 + (5 + y)) = _
            rw [show 1330 + (5 + y) = 1335 + y by omega]; exact t4 y hy
          · have hy : y < s.1 := hy
            have hi : i < D := hi
            show I7 (m + 1) (1330 + (105 + 8 * y + i)) = nI (if y < s.1 ∧ i < D then s.2 y i else 0)
            rw [if_pos ⟨hy, hi⟩, show 1330 + (105 + 8 * y + i) = 1435 + 8 * y + i by omega, t3 _ (by omega), d2 _ (by omega)]
            exact c2.2 y i hy hi
          · have hx : x < s.1 := hx
            have hy : y < s.1 := hy
            show I7 (m + 1) (1330 + (265 + 20 * x + y)) = nI (rtb D s x y)
            rw [show 1330 + (265 + 20 * x + y) = 1595 + 20 * x + y by omega, t3 _ (by omega)]; exact d3 x y hx hy
      · rw [a1 m (by omega), h15]; exact nI_le (Nat.le_refl _) (by omega)
    · intro i hi ih I4 a1 a2 a3 a4
      have e : (1435 : Int32) + nI i = nI (1435 + i) := by rw [z_lit 1435, nI_add]
      refine b_X12_permsRead_69 hk (fun z => absurd z (by rw [a1 m (by omega), h15]; exact nI_ge hi (by omega))) (fun _ => b_X12_permsRead_77 hk (by rw [e]; exact b0.wr (by omega) (by decide)) ?_)
      rw [e, nI_clamp (by omega), b0.1, nI_1]
      refine ih _ (fun y hy => by rw [z_u2_row hy]; exact a1 y hy) (fun j h1 h2 => by rw [z_u2_nk (by omega)]; exact a2 j h1 h2) (by rw [z_u2_nk (by omega)]; exact a3) (fun i' hi' => ?_)
      by_cases q0 : i' = i
      · rw [q0, z_u2_same]
      · rw [z_u2_nk (by omega)]; exact a4 i' (by omega)
  -- the rows
  suffices main : ∀ f' q' R cnt dg I3, n < f' + q' → PM S I3 m B n q' → PGr I0 I3 m → EVm I3 m → I3 (m + 1) = I1 (m + 1) → TW I3 m R cnt dg → (0 < cnt → 0 < dg ∧ dg ≤ 8) → 3 * cnt ≤ q' → (∀ t, t < cnt → Prm dg (R t)) → rowsP B n f (fun _ _ => 0) 0 0 q = rowsP B n f' R cnt dg q' → ∃ I4, z_ev d i_X12_rowRead [.ref m] S I3 J none S I4 J ∧ ∀ v2 v3 v4, Go d i_X12_permsRead 14 [.ref m, .int (nI place), v2, v3, v4] [] S I4 J Q by
    obtain ⟨I4, z1, z2⟩ := main f q (fun _ _ => 0) 0 0 I2 hf m2 g2 ev2 i1 ⟨by rw [E2, z_u2_same]; rfl, fun h => by omega, fun t i h => by omega⟩ (fun h => by omega) (by omega) (fun t h => by omega) rfl
    refine w_X12_permsRead (b_X12_permsRead_0 hk ⟨_, _, _, _, p1, b_X12_permsRead_5 hk hk ?_⟩)
    rw [← E2]
    exact ⟨_, _, _, _, z1, z2 _ _ _⟩
  intro f'
  induction f' with
  | zero =>
    intro q' R cnt dg I3 hf' hm
    have := hm.le
    omega
  | succ f' ih =>
    intro q' R cnt dg I3 hf' hm hg he hi1 hT hdg h3 hR hres
    have hn := hm.2.1.2
    have hql := hm.le
    obtain ⟨I4, r1, r2, ⟨r31, r32, r33⟩, r4, r5⟩ := m_rowRead (d := d) (J := J) (by omega) hm hT (by omega) (fun h => (hdg h).2)
    have hb : ∀ j, j < n → Byt (B j) := fun j hj => (hm.2.2.2.2 j hj).2
    refine ⟨I4, r1, fun v2 v3 v4 => ?_⟩
    have g4 := hg.trans r2
    have ev4 : EVm I4 m := he.fr r33 r32
    rcases e : rowP B n cnt dg q' with c | c
    · have eF := rowsP_l (f := f') (R := R) e
      rw [eF] at hres
      have eP := permsP_l (place := place) hres
      obtain ⟨⟨s1, s2⟩, s3⟩ := r4 c e
      have s6 : ¬ I4 m 6 = 0 := by rw [s1]; exact nI_ne0 (by omega) (by omega)
      refine b_X12_permsRead_14 hk (fun _ => b_X12_permsRead_47 hk (fun z => absurd z s6) (fun _ => b_X12_permsRead_54 ?_)) (fun z => absurd z s6)
      rw [hQ]
      refine ⟨rfl, rfl, rfl, g4, ev4, fun c0 hc => ?_, fun c0 hc => by rw [eP] at hc; cases hc⟩
      rw [eP] at hc
      have hc := Sum.inl.inj hc
      rw [← hc]
      exact ⟨⟨s1, s2⟩, by omega⟩
    · obtain ⟨s1, s2⟩ := r5 c e
      obtain ⟨⟨o1, o2, o3⟩, ⟨o4, o5⟩, o6, o7⟩ := rowP_ok e hql
      have eF := rowsP_r (f := f') (R := R) e
      have hR' : ∀ t, t < cnt + 1 → Prm c.1.1 (rup R cnt c.1.2 t) := fun t ht => by
        unfold rup
        by_cases et : t = cnt
        · rw [if_pos et]; exact o6
        · rw [if_neg et]
          have : c.1.1 = dg := by omega
          rw [this]; exact hR t (by omega)
      obtain ⟨I5, v1, v2', v3', v4'⟩ := m_peek (d := d) (J := J) (by omega) s1
      have s6 := s1.2.2.2.1
      have g5 := g4.trans v2'.gr
      have ev5 : EVm I5 m := ev4.fr (v2'.2 11 (by decide) (by decide) (by decide)) (v2'.1 _ (by omega))
      have T5 : TW I5 m (rup R cnt c.1.2) (cnt + 1) c.1.1 := by
        unfold TW at s2 ⊢
        rw [v2'.2 14 (by decide) (by decide) (by decide), v2'.2 15 (by decide) (by decide) (by decide), v2'.1 (m + 5) (by omega)]; exact s2
      have i5 : I5 (m + 1) = I1 (m + 1) := by rw [v2'.1 (m + 1) (by omega), r31, hi1]
      rcases Classical.em (c.2 < n ∧ B c.2 = 44) with x4 | x4
      · rw [zq_t x4] at eF
        rw [eF] at hres
        have e44 : ¬ Ltr (B c.2) ∧ ¬ Dgt (B c.2) := by rw [x4.2]; exact ⟨fun z => absurd z.1 (by decide), fun z => absurd z.1 (by decide)⟩
        have enx : pnx B n c.2 = psp B n (c.2 + 1) := by unfold pnx; rw [pte_s ⟨x4.1, e44.1, e44.2⟩]
        have gt := pnx_gt (B := B) x4.1
        obtain ⟨I6, E6⟩ : ∃ I6, I6 = z_u2 I5 m 5 (nI (c.2 + 1)) := ⟨_, rfl⟩
        have m6 : PM S I6 m B n (pnx B n c.2) := v3'.to (by rw [E6]; exact PFr.refl.w5) (by rw [E6, z_u2_same]) (by omega) enx.symm ⟨by rw [E6, z_u2_nk (by decide)]; exact v3'.2.2.2.1, by rw [E6, z_u2_nk (by decide)]⟩
        obtain ⟨I7, z1, z2⟩ := ih (pnx B n c.2) (rup R cnt c.1.2) (cnt + 1) c.1.1 I6 (by omega) m6 (by rw [E6]; exact g5.w (by omega)) (ev5.fr (by rw [E6, z_u2_nk (by decide)]) (by rw [E6, z_u2_row (by omega)])) (by rw [E6, z_u2_row (by omega)]; exact i5) (by unfold TW at T5 ⊢; rw [E6, z_u2_nk (by decide), z_u2_nk (by decide), z_u2_row (by omega)]; exact T5) (fun _ => by omega) (by omega) hR' hres
        refine b_X12_permsRead_14 hk (fun z => absurd s6 z) (fun _ => b_X12_permsRead_21 hk ⟨_, _, _, _, v1, b_X12_permsRead_25 (fun z => absurd ((pkv_44 hb).mpr x4) z) (fun _ => b_X12_permsRead_30 hk hk hk ?_)⟩)
        rw [v4', nI_1, ← E6]
        exact ⟨_, _, _, _, z1, b_X12_permsRead_44 (z2 _ _ _)⟩
      · rw [zq_f x4] at eF
        rw [eF] at hres
        refine b_X12_permsRead_14 hk (fun z => absurd s6 z) (fun _ => b_X12_permsRead_21 hk ⟨_, _, _, _, v1, b_X12_permsRead_25 (fun _ => fin _ _ _ _ I5 _ _ _ hres g5 ev5 v3' i5 T5 (by omega) (by omega) (by omega) hR') (fun z => absurd ((pkv_44 hb).mp z) x4)⟩)
end MPr

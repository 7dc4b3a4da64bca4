/-! QUOTIENT: the model, the rest -/
section M25
variable {d m s : Nat} {A : Wst} {S : zS} {I I0 I1 I' : zI} {J : zJ}
theorem m_quotient (x1 x2 : Int32) (hd : 5 < d) (h : MW S I0 m A) (hA : WOk A) : ∃ I', z_ev d i_X12_quotient [.ref m, .int x1, .int x2] S I0 J (some (.int (aQuot A x1 x2))) S I' J ∧ MFr I0 I' m ∧ MW S I' m (wQuot A x1 x2) := by
  obtain ⟨d, rfl⟩ := z_dep (d := d) (by omega)
  have hL := h.1
  have hk := hL.k
  have b0 := hL.a0
  have b20 := hL.a20
  have b21 := hL.a21
  have ha := h.mq mq_th
  refine aQ.ex (R := fun I' => MFr I0 I' m ∧ MW S I' m (wQuot A x1 x2)) (w_X12_quotient (b_X12_quotient_0 hk ⟨_, _, _, _, m_isSlot x1 (by omega), ?_⟩))
  refine b_X12_quotient_9 (fun c => ?_) (fun c => b_X12_quotient_12 ⟨z_someI (zq_f (zb_0.mp c)).symm, rfl, rfl, mq_th.mf, by rw [wQuot, zq_f (fun q => (zb_0.mp c) q.1)]; exact ha⟩)
  have c := zb_1.mp c
  have e1 : aQuot A x1 x2 = _ := zq_t c
  obtain ⟨s, hs, rfl⟩ := c
  have es : ix (nI s) = s := ix_nI (by omega)
  rw [es] at e1
  have ho := hA.1 s hs
  have hg := ho.1
  have hn := hg.le
  refine b_X12_quotient_15 hk ⟨_, _, _, _, m_isSet x2 (by omega) (ha.ms hA) hA.gs hs, ?_⟩
  refine b_X12_quotient_21 (fun c2 => ?_) (fun c2 => b_X12_quotient_24 ⟨z_someI ?_, rfl, rfl, mq_th.mf, ?_⟩)
  case refine_2 => rw [e1, zq_f (zb_0.mp c2)]
  case refine_3 => rw [wQuot, zq_f (fun q => (zb_0.mp c2) (by have := q.2.1; rw [es] at this; exact this))]; exact ha
  have c2 := zb_1.mp c2
  rw [zq_t c2] at e1
  obtain ⟨a, hal, rfl⟩ := c2
  have hal : a < 2 ^ (A.sl s).n := hal
  have ea : ix (nI a) = a := ix_nI (z_lt31 hn hal)
  rw [ea] at e1
  have msA : MS S (z_u2 I0 m 1 0) m s (A.sl s).n (A.sl s).t := ((ha.ms hA).2 s hs).1
  refine b_X12_quotient_27 hk ⟨_, _, _, _, m_kindOf (by omega) msA hg hal, ?_⟩
  have k3 : knd (A.sl s).n (A.sl s).t (A.sl s).iv a < 2 ^ 31 := by
    unfold knd
    rcases Classical.em (gen (A.sl s).n (A.sl s).t a = a) with q | q
    · rw [if_pos q]
      rcases Classical.em (∀ x, x < (A.sl s).n → a.testBit x = true → zd (cls (A.sl s).n (A.sl s).t (A.sl s).iv x) a = 0) with q2 | q2
      · rw [if_pos q2]; decide
      · rw [if_neg q2]; decide
    · rw [if_neg q]; decide
  refine b_X12_quotient_33 (fun c3 => ?_) (fun c3 => b_X12_quotient_37 ⟨z_someI ?_, rfl, rfl, mq_th.mf, ?_⟩)
  case refine_2 =>
    rw [z_lit 2, nI_eq k3 (by decide)] at c3
    rw [e1, zq_f c3]
  case refine_3 =>
    rw [z_lit 2, nI_eq k3 (by decide)] at c3
    rw [wQuot, zq_f (fun q => c3 (by have := q.2.2; rw [es, ea] at this; exact this))]; exact ha
  rw [z_lit 2, nI_eq k3 (by decide)] at c3
  have hN := knd_2 hg c3
  have e2 : wQuot A (nI s) (nI a) = (A.keep s).put s (quo (A.sl s) a) := by
    rw [wQuot, zq_t (show qOk A (nI s) (nI a) from ⟨⟨s, hs, rfl⟩, by rw [es]; exact ⟨a, hal, rfl⟩, by rw [es, ea]; exact c3⟩), es, ea]
  rw [zq_t c3] at e1
  rw [e1, e2]
  obtain ⟨I1, q1, q2, q3⟩ := m_keeps (d := d) (J := J) (by omega) ha hA hs
  have ms1 : MS S I1 m s (A.sl s).n (A.sl s).t := ((q3.ms (hA.keep hs)).2 s hs).1
  refine b_X12_quotient_40 hk ⟨_, _, _, _, q1, b_X12_quotient_45 (m_cosets (x := A.sl s) (by omega) hL hs ho hN ms1 rfl rfl ?_)⟩
  rintro I2 v4 v5 f2 ⟨r1, r2⟩
  obtain ⟨x, hx⟩ : ∃ x, x = A.sl s := ⟨_, rfl⟩
  rw [← hx] at ho hg hn hal hN r1 r2 ⊢
  have sl1 : MSl (fun j => I1 (m + 1) (665 * s + j)) x := by rw [hx]; exact q3.2.1 s hs
  have hq : qn x.n x.t x.iv a ≤ x.n := zcn_le _ _
  have e665 : (665 : Int32) * nI s = nI (665 * s) := by rw [z_lit 665, pk_mul]
  obtain ⟨I3, p1, p2, p3, p4⟩ := m_copies2 (d := d) (S := S) (I := I2) (J := J) (u := m + 1) (p := 665 * s) (r := 1330) (by omega) ⟨b0.2.1, b0.2.2⟩ (by omega) (by omega) (by decide)
  refine b_X12_quotient_161 hk hk ?_
  rw [b0.1, e665]
  refine ⟨_, _, _, _, p1, ?_⟩
  have c0 : nI (665 * s) + 0 = nI (665 * s) := Int32.add_zero _
  have c1 : nI (665 * s) + 1 = nI (665 * s + 1) := nI_1 _
  have c4 : nI (665 * s) + 4 = nI (665 * s + 4) := by rw [z_lit 4, nI_add]
  -- what the slot was
  have was : ∀ j, j < 665 → I3 (m + 1) (1330 + j) = I1 (m + 1) (665 * s + j) := fun j hj => by rw [p3 j hj, f2 (m + 1) (by omega) (by omega)]
  have far : ∀ p, p < 1330 → I3 (m + 1) p = I1 (m + 1) p := fun p hp => by rw [p4 p (by omega), f2 (m + 1) (by omega) (by omega)]
  obtain ⟨sl0, sl1', sl2, sl3, sl4, sl5, sl6, sl7, sl8⟩ := sl1
  refine b_X12_quotient_180 hk (by rw [e665, c0]; exact b0.wr (by omega) (by decide)) hk (by rw [e665, c1]; exact b0.wr (by omega) (by decide)) rfl hk (by rw [e665, c4]; exact b0.rd (by omega) (by decide)) (by rw [e665, c4]; exact b0.wr (by omega) (by decide)) rfl ?_
  rw [e665, c0, c1, c4, b0.1, nI_clamp (show 665 * s < 2 ^ 31 by omega), nI_clamp (show 665 * s + 1 < 2 ^ 31 by omega), nI_clamp (show 665 * s + 4 < 2 ^ 31 by omega), z_u2_nk (show 665 * s + 4 ≠ 665 * s + 1 by omega), z_u2_nk (show 665 * s + 4 ≠ 665 * s by omega), far _ (by omega), show I1 (m + 1) (665 * s + 4) = x.nm.pr from sl4]
  -- the end
  have last : ∀ i, i ≤ qn x.n x.t x.iv a → ∀ I x5 v6, (∀ h, h ≠ m + 1 → I h = I3 h) → (∀ p, p < 1995 → ¬ (665 * s ≤ p ∧ p < 665 * s + 665) → I (m + 1) p = I3 (m + 1) p) → (∀ p, p < 665 → p ≠ 0 → p ≠ 1 → p ≠ 4 → ¬ (5 ≤ p ∧ p < 25) → ¬ 265 ≤ p → I (m + 1) (665 * s + p) = I3 (m + 1) (665 * s + p)) → I (m + 1) (665 * s) = nI (qn x.n x.t x.iv a) → I (m + 1) (665 * s + 1) = nI (quS x a) → I (m + 1) (665 * s + 4) = x.nm.pr + 1 → (∀ k, k < i → I (m + 1) (665 * s + 5 + k) = nI (x.nm.og (lea x.t x.iv a k))) → (∀ k l, k < i → l < qn x.n x.t x.iv a → I (m + 1) (665 * s + 265 + 20 * k + l) = nI (qt x.t x.iv a k l)) → x5 = nI i → Go d i_X12_quotient 292 [.ref m, .int (nI s), .int (nI a), .int (nI (qn x.n x.t x.iv a)), .int (nI (665 * s)), .int x5, v6] [] S I J (aQ S J (nI (qn x.n x.t x.iv a)) (fun I' => MFr I0 I' m ∧ MW S I' m ((A.keep s).put s (quo x a)))) := by
    have f3 : ∀ h, h ≠ m + 1 → h ≠ m + 8 → h ≠ m + 9 → I3 h = I1 h := fun h g1 g2 g3 => by rw [p2 h g1]; exact f2 h g2 g3
    refine z_up_to _ ?_ ?_
    · rintro I x5 v6 g1 g2 g3 g4 g5 g6 g7 g8 rfl
      refine b_X12_quotient_292 (fun _ => b_X12_quotient_393 ⟨rfl, rfl, rfl, ⟨fun h hh => ?_, ?_⟩, hL, fun i hi => ?_, ?_, ?_, ?_, ?_, ?_, ?_⟩) (fun z => absurd (nI_le (Nat.le_refl _) (by omega)) z)
      · rw [g1 h (by omega), f3 h (by omega) (by omega) (by omega), q2.1 h hh]; exact mq_th.mf.1 h hh
      · rw [g1 m (by omega), f3 m (by omega) (by omega) (by omega), q2.2]; exact mq_th.mf.2
      · show MSl _ (if i = s then quo x a else A.sl i)
        by_cases e : i = s
        · rw [if_pos e, e]
          refine ⟨g4, g5, ?_, ?_, g6, fun y hy => ?_, fun w j hj => ?_, fun w y j hy hj => ?_, fun y z hy hz => ?_⟩
          · show I (m + 1) (665 * s + 2) = _
            rw [g3 2 (by omega) (by omega) (by omega) (by omega) (by omega) (by omega), far _ (by omega)]; exact sl2
          · show I (m + 1) (665 * s + 3) = _
            rw [g3 3 (by omega) (by omega) (by omega) (by omega) (by omega) (by omega), far _ (by omega)]; exact sl3
          · show I (m + 1) (665 * s + (5 + y)) = _
            rw [← Nat.add_assoc]; exact g7 y hy
          · have := (ho.2.2.2.2.2 w).1
            have hj : j < x.nm.ln := hj
            show I (m + 1) (665 * s + (25 + j)) = _
            rw [g3 (25 + j) (by omega) (by omega) (by omega) (by omega) (by omega) (by omega), far _ (by omega)]; exact sl6 w j hj
          · have hj : j < x.nm.ln := hj
            have := (ho.2.2.2.2.1 w).1
            have hly := (lea_spec hy).1
            have hoo := ho.2.2.2.1 _ hly
            show I (m + 1) (665 * s + (105 + 8 * x.nm.og (lea x.t x.iv a y) + j)) = nI (x.nm.ro (x.nm.og (lea x.t x.iv a y)) j)
            rw [g3 (105 + 8 * x.nm.og (lea x.t x.iv a y) + j) (by omega) (by omega) (by omega) (by omega) (by omega) (by omega), far _ (by omega)]; exact sl7 w _ j hly hj
          · have := g8 y z hy hz
            show I (m + 1) (665 * s + (265 + 20 * y + z)) = _
            rw [show 665 * s + (265 + 20 * y + z) = 665 * s + 265 + 20 * y + z by omega]; exact this
        · rw [if_neg e]
          refine (q3.2.1 i hi).cg (hA.1 i hi) (fun j hj => ?_)
          rw [g2 _ (by omega) (by omega), far _ (by omega)]
      · rw [g1 m (by omega), f3 m (by omega) (by omega) (by omega)]; exact q3.2.2.1
      · rw [g1 (m + 7) (by omega), f3 (m + 7) (by omega) (by omega) (by omega)]; exact q3.2.2.2.1
      · rw [g1 m (by omega), f3 m (by omega) (by omega) (by omega)]; exact q3.2.2.2.2.1
      · rw [g1 (m + 2) (by omega), f3 (m + 2) (by omega) (by omega) (by omega)]; exact q3.2.2.2.2.2.1
      · rw [g1 m (by omega), f3 m (by omega) (by omega) (by omega)]; exact q3.2.2.2.2.2.2.1
      · rw [g1 m (by omega), f3 m (by omega) (by omega) (by omega)]; exact q3.2.2.2.2.2.2.2
    · rintro i hi ih I x5 v6 g1 g2 g3 g4 g5 g6 g7 g8 rfl
      have hli := (lea_spec hi).1
      refine b_X12_quotient_292 (fun z => absurd z (nI_ge hi (by omega))) (fun _ => ?_)
      have e9 : ∀ {I : zI}, (∀ h, h ≠ m + 1 → I h = I3 h) → ∀ k, k < qn x.n x.t x.iv a → I (z_rv S m 21) (nI k).toNatClampNeg = nI (lea x.t x.iv a k) := fun hI k hk => by rw [b21.1, nI_clamp (by omega), hI (m + 9) (by omega), p2 (m + 9) (by omega)]; exact r2 k hk
      have ep : (1335 : Int32) + nI (lea x.t x.iv a i) = nI (1335 + lea x.t x.iv a i) := by rw [z_lit 1335, nI_add]
      have eq5 : (nI (665 * s) + 5) + nI i = nI (665 * s + 5 + i) := by rw [z_lit 5, nI_add, nI_add]
      refine b_X12_quotient_298 hk hk hk (b21.rd (by omega) (by decide)) (by rw [e9 g1 i hi, ep]; exact b0.rd (by omega) (by decide)) (by rw [eq5]; exact b0.wr (by omega) (by decide)) rfl ?_
      rw [e9 g1 i hi, ep, eq5, b0.1, nI_clamp (by omega), nI_clamp (by omega), g2 (1335 + lea x.t x.iv a i) (by omega) (by omega), show 1335 + lea x.t x.iv a i = 1330 + (5 + lea x.t x.iv a i) by omega, was _ (by omega), show I1 (m + 1) (665 * s + (5 + lea x.t x.iv a i)) = nI (x.nm.og (lea x.t x.iv a i)) from sl5 _ hli]
      suffices H : ∀ j, j ≤ qn x.n x.t x.iv a → ∀ I x6, (∀ h, h ≠ m + 1 → I h = I3 h) → (∀ p, p < 1995 → ¬ (665 * s ≤ p ∧ p < 665 * s + 665) → I (m + 1) p = I3 (m + 1) p) → (∀ p, p < 665 → p ≠ 0 → p ≠ 1 → p ≠ 4 → ¬ (5 ≤ p ∧ p < 25) → ¬ 265 ≤ p → I (m + 1) (665 * s + p) = I3 (m + 1) (665 * s + p)) → I (m + 1) (665 * s) = nI (qn x.n x.t x.iv a) → I (m + 1) (665 * s + 1) = nI (quS x a) → I (m + 1) (665 * s + 4) = x.nm.pr + 1 → (∀ k, k < i + 1 → I (m + 1) (665 * s + 5 + k) = nI (x.nm.og (lea x.t x.iv a k))) → (∀ k l, k < i → l < qn x.n x.t x.iv a → I (m + 1) (665 * s + 265 + 20 * k + l) = nI (qt x.t x.iv a k l)) → (∀ l, l < j → I (m + 1) (665 * s + 265 + 20 * i + l) = nI (qt x.t x.iv a i l)) → x6 = nI j → Go d i_X12_quotient 329 [.ref m, .int (nI s), .int (nI a), .int (nI (qn x.n x.t x.iv a)), .int (nI (665 * s)), .int (nI i), .int x6] [] S I J (aQ S J (nI (qn x.n x.t x.iv a)) (fun I' => MFr I0 I' m ∧ MW S I' m ((A.keep s).put s (quo x a)))) by
        refine H 0 (by omega) _ _ (fun h hh => by rw [z_u2_row hh]; exact g1 h hh) (fun p w1 w2 => by rw [z_u2_nk (by omega)]; exact g2 p w1 w2) (fun p w1 w2 w3 w4 w5 w6 => by rw [z_u2_nk (by omega)]; exact g3 p w1 w2 w3 w4 w5 w6) (by rw [z_u2_nk (by omega)]; exact g4) (by rw [z_u2_nk (by omega)]; exact g5) (by rw [z_u2_nk (by omega)]; exact g6) (fun k hk => ?_) (fun k l hk hl => by rw [z_u2_nk (by omega)]; exact g8 k l hk hl) (fun l hl => by omega) rfl
        by_cases e : k = i
        · rw [e, z_u2_same]
        · rw [z_u2_nk (by omega)]; exact g7 k (by omega)
      refine z_up_to _ ?_ ?_
      · rintro I x6 g1 g2 g3 g4 g5 g6 g7 g8 g9 rfl
        refine b_X12_quotient_329 (fun _ => b_X12_quotient_387 (ih I _ _ g1 g2 g3 g4 g5 g6 g7 (fun k l hk hl => ?_) (nI_1 i))) (fun z => absurd (nI_le (Nat.le_refl _) (by omega)) z)
        by_cases e : k = i
        · rw [e]; exact g9 l hl
        · exact g8 k l (by omega) hl
      · rintro j hj ih2 I x6 g1 g2 g3 g4 g5 g6 g7 g8 g9 rfl
        have hlj := (lea_spec hj).1
        have htl := hg.lt hli hlj
        refine b_X12_quotient_329 (fun z => absurd z (nI_ge hj (by omega))) (fun _ => ?_)
        refine b_X12_quotient_335 hk hk hk (b21.rd (by omega) (by decide)) hk (b21.rd (by omega) (by decide)) hk ?_
        rw [e9 g1 i hi, e9 g1 j hj]
        refine ⟨_, _, _, _, m_productAt (p := 1330) (by omega) hL.ma (by omega), ?_⟩
        have er : I (z_rv S m 0) (1330 + 265 + 20 * lea x.t x.iv a i + lea x.t x.iv a j) = nI (x.t (lea x.t x.iv a i) (lea x.t x.iv a j)) := by
          rw [b0.1, g2 _ (by omega) (by omega), show 1330 + 265 + 20 * lea x.t x.iv a i + lea x.t x.iv a j = 1330 + (265 + 20 * lea x.t x.iv a i + lea x.t x.iv a j) by omega, was _ (by omega)]
          exact sl8 _ _ hli hlj
        have ed : ((nI (665 * s) + 265) + (20 : Int32) * nI i) + nI j = nI (665 * s + 265 + 20 * i + j) := by rw [z_lit 265, z_lit 20, pk_mul, nI_add, nI_add, nI_add]
        rw [er, ed]
        refine b_X12_quotient_379 (b20.rd (by omega) (by decide)) (b0.wr (by omega) (by decide)) ?_
        rw [b0.1, b20.1, nI_clamp (by omega), nI_clamp (by omega), g1 (m + 8) (by omega), p2 (m + 8) (by omega), r1 _ htl]
        refine ih2 _ _ (fun h hh => by rw [z_u2_row hh]; exact g1 h hh) (fun p w1 w2 => by rw [z_u2_nk (by omega)]; exact g2 p w1 w2) (fun p w1 w2 w3 w4 w5 w6 => by rw [z_u2_nk (by omega)]; exact g3 p w1 w2 w3 w4 w5 w6) (by rw [z_u2_nk (by omega)]; exact g4) (by rw [z_u2_nk (by omega)]; exact g5) (by rw [z_u2_nk (by omega)]; exact g6) (fun k hk => by rw [z_u2_nk (by omega)]; exact g7 k hk) (fun k l hk hl => by rw [z_u2_nk (by omega)]; exact g8 k l hk hl) (fun l hl => ?_) (nI_1 j)
        by_cases e : l = j
        · rw [e, z_u2_same]; rfl
        · rw [z_u2_nk (by omega)]; exact g9 l (by omega)
  -- the steps
  suffices H : ∀ k, k ≤ x.n → ∀ I x5 v6, (∀ h, h ≠ m + 1 → I h = I3 h) → (∀ p, p < 1995 → ¬ (665 * s ≤ p ∧ p < 665 * s + 665) → I (m + 1) p = I3 (m + 1) p) → (∀ p, p < 665 → p ≠ 0 → p ≠ 1 → p ≠ 4 → I (m + 1) (665 * s + p) = I3 (m + 1) (665 * s + p)) → I (m + 1) (665 * s) = nI (qn x.n x.t x.iv a) → I (m + 1) (665 * s + 1) = nI (zim (fun i => x.st.testBit i && decide (0 < csn x.t x.iv a i)) (csn x.t x.iv a) k) → I (m + 1) (665 * s + 4) = x.nm.pr + 1 → x5 = nI k → Go d i_X12_quotient 223 [.ref m, .int (nI s), .int (nI a), .int (nI (qn x.n x.t x.iv a)), .int (nI (665 * s)), .int x5, v6] [] S I J (aQ S J (nI (qn x.n x.t x.iv a)) (fun I' => MFr I0 I' m ∧ MW S I' m ((A.keep s).put s (quo x a)))) by
    refine H 0 (by omega) _ _ _ (fun h hh => by rw [z_u2_row hh, z_u2_row hh, z_u2_row hh]) (fun p w1 w2 => by rw [z_u2_nk (by omega), z_u2_nk (by omega), z_u2_nk (by omega)]) (fun p w1 w2 w3 w4 => by rw [z_u2_nk (by omega), z_u2_nk (by omega), z_u2_nk (by omega)]) (by rw [z_u2_nk (by omega), z_u2_nk (by omega), z_u2_same]) (by rw [z_u2_nk (by omega), z_u2_same]; rfl) (by rw [z_u2_same]) rfl
  have st0 : ∀ {I : zI}, (∀ p, p < 1995 → ¬ (665 * s ≤ p ∧ p < 665 * s + 665) → I (m + 1) p = I3 (m + 1) p) → I (z_rv S m 0) (Int32.toNatClampNeg 1330) = nI x.n ∧ I (z_rv S m 0) (Int32.toNatClampNeg 1331) = nI x.st := fun hI => by
    rw [show Int32.toNatClampNeg 1330 = 1330 from rfl, show Int32.toNatClampNeg 1331 = 1331 from rfl, b0.1, hI 1330 (by omega) (by omega), hI 1331 (by omega) (by omega)]
    exact ⟨by rw [was 0 (by omega)]; exact sl0, by rw [was 1 (by omega)]; exact sl1'⟩
  refine z_up_to _ ?_ ?_
  · rintro I x5 v6 g1 g2 g3 g4 g5 g6 rfl
    refine b_X12_quotient_223 hk (b0.rd (i := 1330) (by omega) (by decide)) (fun _ => b_X12_quotient_289 (last 0 (by omega) I _ _ g1 g2 (fun p w1 w2 w3 w4 _ _ => g3 p w1 w2 w3 w4) g4 g5 g6 (fun k hk => by omega) (fun k l hk => by omega) rfl)) (fun z => absurd (by rw [(st0 g2).1]; exact nI_le (Nat.le_refl _) (by omega)) z)
  · rintro k hk' ih I x5 v6 g1 g2 g3 g4 g5 g6 rfl
    have h20 : 2 ^ x.n ≤ 2 ^ 20 := Nat.pow_le_pow_right (by decide) hn
    have hst := ho.2.1
    have hcs := csn_lt hg hN hk'
    have e8 : I (z_rv S m 20) (nI k).toNatClampNeg = nI (csn x.t x.iv a k) := by rw [b20.1, nI_clamp (by omega), g1 (m + 8) (by omega), p2 (m + 8) (by omega)]; exact r1 k hk'
    refine b_X12_quotient_223 hk (b0.rd (i := 1330) (by omega) (by decide)) (fun z => absurd z (by rw [(st0 g2).1]; exact nI_ge hk' (by omega))) (fun _ => ?_)
    refine b_X12_quotient_236 hk (b0.rd (i := 1331) (by omega) (by decide)) ?_
    rw [(st0 g2).2]
    refine ⟨_, _, _, _, m_has (by omega) (by omega) (by omega), ?_⟩
    have skip : (x.st.testBit k && decide (0 < csn x.t x.iv a k)) = false → Go d i_X12_quotient 283 [.ref m, .int (nI s), .int (nI a), .int (nI (qn x.n x.t x.iv a)), .int (nI (665 * s)), .int (nI k), v6] [] S I J (aQ S J (nI (qn x.n x.t x.iv a)) (fun I' => MFr I0 I' m ∧ MW S I' m ((A.keep s).put s (quo x a)))) := fun q => b_X12_quotient_283 (ih I _ _ g1 g2 g3 g4 (g5.trans (congrArg nI (if_neg (fun z => by have z : (x.st.testBit k && decide (0 < csn x.t x.iv a k)) = true := z; rw [q] at z; cases z)).symm)) g6 (nI_1 k))
    cases hb : x.st.testBit k with
    | false => exact b_X12_quotient_249 (fun _ => skip (by rw [hb]; rfl)) (fun z => absurd rfl z)
    | true =>
      refine b_X12_quotient_249 (fun z => absurd z (by decide)) (fun _ => b_X12_quotient_252 hk (b20.rd (by omega) (by decide)) (fun z => skip ?_) (fun z => ?_))
      · rw [e8, z_lit 0, nI_leI (by omega) (by decide)] at z
        rw [hb, decide_eq_false (by omega)]; rfl
      · rw [e8, z_lit 0, nI_leI (by omega) (by decide)] at z
        refine b_X12_quotient_262 hk (by rw [c1]; exact b0.rd (by omega) (by decide)) hk (b20.rd (by omega) (by decide)) (by rw [c1]; exact b0.wr (by omega) (by decide)) rfl ?_
        rw [e8, c1, b0.1, nI_clamp (by omega), g5, z_shl1 (by omega), z_or]
        refine ih _ _ _ (fun h hh => by rw [z_u2_row hh]; exact g1 h hh) (fun p w1 w2 => by rw [z_u2_nk (by omega)]; exact g2 p w1 w2) (fun p w1 w2 w3 w4 => by rw [z_u2_nk (by omega)]; exact g3 p w1 w2 w3 w4) (by rw [z_u2_nk (by omega)]; exact g4) ?_ (by rw [z_u2_nk (by omega)]; exact g6) (nI_1 k)
        rw [z_u2_same]
        have q : (x.st.testBit k && decide (0 < csn x.t x.iv a k)) = true := by rw [hb, decide_eq_true (by omega)]; rfl
        exact congrArg nI (if_pos q).symm
end M25

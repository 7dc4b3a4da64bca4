/-! THE CLASS: a Group by a subgroup is made -/
section C25
variable {d n a g u v : Nat} {t : Nat → Nat → Nat} {iv : Nat → Nat} {N : Nm} {S : zS} {I0 : zI} {J : zJ}
theorem CT.mv {S S' : zS} {I I' : zI} (h : CT S I g n t) (hk : ∀ x, x ≤ z_sz S → z_kd S' x = z_kd S x ∧ z_ln S' x = z_ln S x) (hr : z_rv S' g = z_rv S g) (h1 : g ≤ z_sz S) (h2 : z_rv S g 1 ≤ z_sz S) (h3 : I' g 0 = I g 0) (h4 : I' (z_rv S g 1) = I (z_rv S g 1)) : CT S' I' g n t := by
  obtain ⟨c1, c2, c3, c4, c5, c6⟩ := h
  rw [CT, hr, (hk g h1).1, (hk _ h2).1, (hk _ h2).2, h3, h4]
  exact ⟨c1, c2, c3, c4, c5, c6⟩
theorem c_dividedBy (hd : 3 < d) (hT : CT S I0 g n t) (hg : Grp n t iv) (hN : NS n t iv a) (hC : CNm S I0 g n N) (hu : z_kd S u = 100 ∧ z_ln S u = 20) (hv : z_kd S v = 100 ∧ z_ln S v = 20) (ru : ∀ y, y < n → I0 u y = nI (csn t iv a y)) (rv : ∀ i, i < qn n t iv a → I0 v i = nI (lea t iv a i)) (o1 : g ≤ z_sz S) (o2 : z_rv S g 1 ≤ z_sz S) (o3 : z_rv S g 7 ≤ z_sz S) (o4 : u ≤ z_sz S) (o5 : v ≤ z_sz S) : ∃ S' I', z_ev d i_X1_dividedBy [.ref g, .int (nI (qn n t iv a)), .ref u, .ref v] S I0 J (some (.ref (z_sz S + 3))) S' I' (z_ur J (z_sz S + 3) (fun _ => 0)) ∧ z_sz S' = z_sz S + 7 ∧ z_ce S' = z_ce S + 7 ∧ z_sl S' = z_sl S + qn n t iv a * qn n t iv a + qn n t iv a + 12 + 4 * qn n t iv a ∧ Ext (fun _ => False) S I0 S' I' ∧ CT S' I' (z_sz S + 3) (qn n t iv a) (qt t iv a) ∧ CR S' I' (z_sz S + 3) 2 (qn n t iv a) (qi t iv a) ∧ CR S' I' (z_sz S + 3) 3 (qn n t iv a) (per (qt t iv a)) ∧ CR S' I' (z_sz S + 3) 4 (qn n t iv a) (cls (qn n t iv a) (qt t iv a) (qi t iv a)) ∧ CR S' I' (z_sz S + 3) 5 (qn n t iv a) (mrk (qn n t iv a) (qt t iv a) (qi t iv a)) ∧ z_rv S' (z_sz S + 3) 1 = z_sz S + 1 ∧ (∀ k, 2 ≤ k → k ≤ 5 → z_rv S' (z_sz S + 3) k = z_sz S + 2 + k) ∧ z_rv S' (z_sz S + 3) 6 = z_rv S g 6 ∧ z_rv S' (z_sz S + 3) 7 = z_sz S + 2 ∧ I' (z_sz S + 3) 8 = N.pr + 1 ∧ I' (z_sz S + 3) 9 = 0 ∧ z_rv S' (z_sz S + 3) 10 = 0 ∧ (z_kd S' (z_sz S + 2) = 100 ∧ z_ln S' (z_sz S + 2) = qn n t iv a ∧ ∀ i, i < qn n t iv a → I' (z_sz S + 2) i = nI (N.og (lea t iv a i))) := by
  obtain ⟨d, rfl⟩ := z_dep (d := d) (by omega)
  have hn := hg.le
  obtain ⟨q, hq⟩ : ∃ q, q = qn n t iv a := ⟨_, rfl⟩
  have hqn : q ≤ n := by rw [hq]; exact zcn_le _ _
  have hgq : Grp q (qt t iv a) (qi t iv a) := by rw [hq]; exact q_grp hg hN
  have L : ∀ {i}, i < q → lea t iv a i < n := fun hi => (lea_spec (by rw [← hq]; exact hi)).1
  rw [← hq] at rv ⊢
  have hq2 := z_sq400 (show q ≤ 20 by omega)
  obtain ⟨z, hz⟩ : ∃ z, z = z_sz S := ⟨_, rfl⟩
  obtain ⟨Q, hQ⟩ : ∃ Q : zQ, Q = fun w S' I' J' => w = some (.ref (z + 3)) ∧ J' = z_ur J (z + 3) (fun _ => 0) ∧ z_sz S' = z + 7 ∧ z_ce S' = z_ce S + 7 ∧ z_sl S' = z_sl S + q * q + q + 12 + 4 * q ∧ Ext (fun _ => False) S I0 S' I' ∧ CT S' I' (z + 3) q (qt t iv a) ∧ CR S' I' (z + 3) 2 q (qi t iv a) ∧ CR S' I' (z + 3) 3 q (per (qt t iv a)) ∧ CR S' I' (z + 3) 4 q (cls q (qt t iv a) (qi t iv a)) ∧ CR S' I' (z + 3) 5 q (mrk q (qt t iv a) (qi t iv a)) ∧ z_rv S' (z + 3) 1 = z + 1 ∧ (∀ k, 2 ≤ k → k ≤ 5 → z_rv S' (z + 3) k = z + 2 + k) ∧ z_rv S' (z + 3) 6 = z_rv S g 6 ∧ z_rv S' (z + 3) 7 = z + 2 ∧ I' (z + 3) 8 = N.pr + 1 ∧ I' (z + 3) 9 = 0 ∧ z_rv S' (z + 3) 10 = 0 ∧ (z_kd S' (z + 2) = 100 ∧ z_ln S' (z + 2) = q ∧ ∀ i, i < q → I' (z + 2) i = nI (N.og (lea t iv a i))) := ⟨_, rfl⟩
  rw [← hz] at o1 o2 o3 o4 o5 ⊢
  suffices hw : z_wp (d + 1) i_X1_dividedBy [.ref g, .int (nI q), .ref u, .ref v] S I0 J Q by
    rw [hQ] at hw
    obtain ⟨w, S', I', J', x1, rfl, rfl, x2⟩ := hw
    exact ⟨S', I', x1, x2⟩
  obtain ⟨S1, hS1⟩ : ∃ S1, S1 = z_new (z_new S 100 (q * q) (q * q)) 100 q q := ⟨_, rfl⟩
  have ez1 : z_sz (z_new S 100 (q * q) (q * q)) = z + 1 := by rw [hz]; rfl
  have ez2 : z_sz S1 = z + 2 := by rw [hS1, hz]; rfl
  have kk1 : ∀ x, x ≤ z → z_kd S1 x = z_kd S x ∧ z_ln S1 x = z_ln S x := fun x hx => by
    rw [hS1, z_kd_nev (by rw [ez1]; omega), z_kd_nev (by omega), z_ln_nev (by rw [ez1]; omega), z_ln_nev (by omega)]; exact ⟨rfl, rfl⟩
  have rr1 : ∀ x, x ≤ z → z_rv S1 x = z_rv S x := fun x hx => by
    funext j
    rw [hS1, z_rv_nev (by rw [ez1]; omega), z_rv_nev (by omega)]
  have kp1 : z_kd S1 (z + 1) = 100 ∧ z_ln S1 (z + 1) = q * q := by
    rw [hS1, z_kd_nev (by rw [ez1]; omega), z_ln_nev (by rw [ez1]; omega), hz]
    exact ⟨z_kd_new, z_ln_new⟩
  have kp2 : z_kd S1 (z + 2) = 100 ∧ z_ln S1 (z + 2) = q := by
    rw [hS1, show z + 2 = z_sz (z_new S 100 (q * q) (q * q)) + 1 by rw [ez1]]
    exact ⟨z_kd_new, z_ln_new⟩
  have gk : z_kd S1 g = 2 := by rw [(kk1 g o1).1]; exact hT.1
  obtain ⟨_, _, ⟨n1, n2, n3, n4⟩, n5, _⟩ := hC
  -- the end
  have fin : ∀ I v7, (∀ h, h ≤ z → I h = I0 h) → (∀ i, i < q → I (z + 2) i = nI (N.og (lea t iv a i))) → (∀ i j, i < q → j < q → I (z + 1) (i * q + j) = nI (qt t iv a i j)) → Go d i_X1_dividedBy 80 [.ref g, .int (nI q), .ref u, .ref v, .ref (z + 1), .ref (z + 2), .int (nI q), v7] [] S1 I J Q := by
    intro I v7 f1 f2 f3
    obtain ⟨S2, hS2⟩ : ∃ S2, S2 = z_new S1 2 0 12 := ⟨_, rfl⟩
    obtain ⟨Ia, hIa⟩ : ∃ Ia, Ia = z_ur I (z + 3) (fun _ => 0) := ⟨_, rfl⟩
    have ez3 : z_sz S2 = z + 3 := by rw [hS2, show z + 3 = z_sz S1 + 1 by rw [ez2]]; rfl
    have k2 : ∀ x, x ≤ z + 2 → z_kd S2 x = z_kd S1 x ∧ z_ln S2 x = z_ln S1 x := fun x hx => by
      rw [hS2, z_kd_nev (by rw [ez2]; omega), z_ln_nev (by rw [ez2]; omega)]; exact ⟨rfl, rfl⟩
    have r2 : ∀ x, x ≤ z + 2 → z_rv S2 x = z_rv S1 x := fun x hx => by
      funext j
      rw [hS2, z_rv_nev (by rw [ez2]; omega)]
    have kg : z_kd S2 (z + 3) = 2 := by rw [hS2, show z + 3 = z_sz S1 + 1 by rw [ez2]]; exact z_kd_new
    have fa : ∀ h, h ≠ z + 3 → Ia h = I h := fun h hh => by rw [hIa, z_ur_row hh]
    obtain ⟨S', I', w1, w2, w3, w4, w5, w6, w7, w8, w9, w10, w11, w12, w13, w14, w15, w16, w17, w18, w19, w20⟩ := c_init (d := d) (S := S2) (I := Ia) (J := z_ur J (z + 3) (fun _ => 0)) (g := z + 3) (tab := z + 1) (nm := z_rv S g 6) (og := z + 2) (pr := N.pr + 1) (by omega) hgq (by omega) kg (by omega) (by omega) (by rw [(k2 _ (by omega)).1]; exact kp1.1) (by rw [(k2 _ (by omega)).2]; exact kp1.2) (fun x hx y hy => by rw [fa _ (by omega)]; exact f3 x y hx hy)
    refine b_X1_dividedBy_80 (by rw [← hS2, (k2 g (by omega)).1]; exact gk) (by rw [← hS2, (k2 g (by omega)).1]; exact gk) (by omega) ?_
    rw [ez2, ← hS2, show z + 2 + 1 = z + 3 from rfl, ← hIa, r2 g (by omega), rr1 g o1, fa g (by omega), f1 g o1, n5]
    refine ⟨_, _, _, _, w1, b_X1_dividedBy_102 ?_⟩
    rw [hQ]
    refine ⟨rfl, rfl, by rw [w2, ez3], ?_, ?_, ⟨by omega, fun h hh => ?_, fun h hh _ => ?_⟩, w6, w7, w8, w9, w10, w11, fun k g1 g2 => ?_, w16, w17, w18, by rw [w19, hIa, z_ur_same], by rw [w20, hS2, show z + 3 = z_sz S1 + 1 by rw [ez2]]; exact z_rv_new, ?_, ?_, fun i hi => ?_⟩
    · rw [w3, hS2, hS1]; rfl
    · rw [w4, hS2, hS1]
      show z_sl S + q * q + q + 12 + 4 * q = _
      rfl
    · rw [(w5.2.1 h (by omega)).1, (w5.2.1 h (by omega)).2, (k2 h (by omega)).1, (k2 h (by omega)).2]
      exact kk1 h (by omega)
    · rw [(w5.2.2 h (by omega) (by omega)).1, (w5.2.2 h (by omega) (by omega)).2, r2 h (by omega), rr1 h (by omega), fa h (by omega), f1 h (by omega)]
      exact ⟨rfl, rfl⟩
    · rcases (show k = 2 ∨ k = 3 ∨ k = 4 ∨ k = 5 by omega) with e | e | e | e
      · rw [e, w12, ez3]
      · rw [e, w13, ez3]
      · rw [e, w14, ez3]
      · rw [e, w15, ez3]
    · rw [(w5.2.1 (z + 2) (by omega)).1, (k2 _ (by omega)).1]; exact kp2.1
    · rw [(w5.2.1 (z + 2) (by omega)).2, (k2 _ (by omega)).2]; exact kp2.2
    · rw [(w5.2.2 (z + 2) (by omega) (by omega)).2, fa _ (by omega)]; exact f2 i hi
  have eqq : nI q * nI q = nI (q * q) := pk_mul q q
  have lq := z_lenok (n := q) (by omega)
  have lqq := z_lenok (n := q * q) (by omega)
  refine w_X1_dividedBy (b_X1_dividedBy_0 (by rw [eqq]; exact lqq) (by omega) lq rfl rfl (by omega) ?_)
  rw [eqq, nI_clamp (by omega), nI_clamp (by omega), ez1, ← hS1, ← hz]
  have fT : ∀ {I : zI}, (∀ h, h ≤ z → I h = I0 h) → CT S1 I g n t := fun hI => hT.mv (fun x hx => kk1 x (by omega)) (rr1 g o1) (by omega) (by omega) (by rw [hI g o1]) (hI _ o2)
  suffices H : ∀ i, i ≤ q → ∀ I x6 v7, (∀ h, h ≤ z → I h = I0 h) → (∀ k, k < i → I (z + 2) k = nI (N.og (lea t iv a k))) → (∀ k j, k < i → j < q → I (z + 1) (k * q + j) = nI (qt t iv a k j)) → x6 = nI i → Go d i_X1_dividedBy 15 [.ref g, .int (nI q), .ref u, .ref v, .ref (z + 1), .ref (z + 2), .int x6, v7] [] S1 I J Q from H 0 (by omega) _ _ _ (fun h hh => by rw [z_ur_row (by omega), z_ur_row (by omega)]) (fun k hk => by omega) (fun k j hk => by omega) rfl
  refine z_up_to q ?_ ?_
  · rintro I x6 v7 f1 f2 f3 rfl
    exact b_X1_dividedBy_15 (fun _ => fin I _ f1 f2 f3) (fun w => absurd (nI_le (Nat.le_refl _) (by omega)) w)
  · rintro i hi ih I x6 v7 f1 f2 f3 rfl
    have hli := L hi
    have ev : ∀ {I : zI}, (∀ h, h ≤ z → I h = I0 h) → ∀ k, k < q → I v (nI k).toNatClampNeg = nI (lea t iv a k) := fun hI k hk => by rw [nI_clamp (by omega), hI v o5]; exact rv k hk
    have rdv : ∀ k, k < q → z_isI (z_kd S1 v) = true ∧ vp_in (nI k) (z_ln S1 v) := fun k hk => ⟨by rw [(kk1 v o5).1, hv.1]; rfl, by rw [(kk1 v o5).2, hv.2]; exact vp_in_nI (by omega) (by decide)⟩
    refine b_X1_dividedBy_15 (fun w => absurd w (nI_ge hi (by omega))) (fun _ => ?_)
    refine b_X1_dividedBy_21 gk (rdv i hi) (by rw [ev f1 i hi, rr1 g o1, (kk1 _ o3).1, (kk1 _ o3).2, n1]; exact ⟨rfl, vp_in_nI (by omega) n3⟩) ⟨kp2.1, by rw [kp2.2]; exact vp_in_nI hi (by omega)⟩ ?_
    rw [ev f1 i hi, rr1 g o1, nI_clamp (by omega), nI_clamp (by omega), f1 _ o3, n4 _ hli]
    suffices H : ∀ j, j ≤ q → ∀ I x7, (∀ h, h ≤ z → I h = I0 h) → (∀ k, k < i + 1 → I (z + 2) k = nI (N.og (lea t iv a k))) → (∀ k j, k < i → j < q → I (z + 1) (k * q + j) = nI (qt t iv a k j)) → (∀ l, l < j → I (z + 1) (i * q + l) = nI (qt t iv a i l)) → x7 = nI j → Go d i_X1_dividedBy 38 [.ref g, .int (nI q), .ref u, .ref v, .ref (z + 1), .ref (z + 2), .int (nI i), .int x7] [] S1 I J Q by
      refine H 0 (by omega) _ _ (fun h hh => by rw [z_u2_row (by omega)]; exact f1 h hh) (fun k hk => ?_) (fun k j hk hj => by rw [z_u2_ne (by omega)]; exact f3 k j hk hj) (fun l hl => by omega) rfl
      by_cases e : k = i
      · rw [e, z_u2_same]
      · rw [z_u2_nk e]; exact f2 k (by omega)
    refine z_up_to q ?_ ?_
    · rintro I x7 f1 f2 f3 f4 rfl
      refine b_X1_dividedBy_38 (fun _ => b_X1_dividedBy_74 (ih I _ _ f1 f2 (fun k j hk hj => ?_) (nI_1 i))) (fun w => absurd (nI_le (Nat.le_refl _) (by omega)) w)
      by_cases e : k = i
      · rw [e]; exact f4 j hj
      · exact f3 k j (by omega) hj
    · rintro j hj ih2 I x7 f1 f2 f3 f4 rfl
      have hlj := L hj
      have htl := hg.lt hli hlj
      have hij : i * q + j < q * q := by
        have : i * q + q ≤ q * q := by rw [← Nat.succ_mul]; exact Nat.mul_le_mul_right q hi
        omega
      refine b_X1_dividedBy_38 (fun w => absurd w (nI_ge hj (by omega))) (fun _ => ?_)
      refine b_X1_dividedBy_44 (rdv i hi) (rdv j hj) gk ?_
      rw [ev f1 i hi, ev f1 j hj]
      refine ⟨_, _, _, _, c_times (by omega) (fT f1) hli hlj, ?_⟩
      rw [pk_mul, nI_add]
      refine b_X1_dividedBy_66 ⟨by rw [(kk1 u o4).1, hu.1]; rfl, by rw [(kk1 u o4).2, hu.2]; exact vp_in_nI (by omega) (by decide)⟩ ⟨kp1.1, by rw [kp1.2]; exact vp_in_nI hij (by omega)⟩ ?_
      rw [nI_clamp (by omega), nI_clamp (by omega), f1 u o4, ru _ htl]
      refine ih2 _ _ (fun h hh => by rw [z_u2_row (by omega)]; exact f1 h hh) (fun k hk => by rw [z_u2_ne (by omega)]; exact f2 k hk) (fun k l hk hl => ?_) (fun l hl => ?_) (nI_1 j)
      · rw [z_u2_nk (fun e => ?_)]
        · exact f3 k l hk hl
        · have : k * q + q ≤ i * q := by rw [← Nat.succ_mul]; exact Nat.mul_le_mul_right q hk
          omega
      · by_cases e : l = j
        · rw [e, z_u2_same]; rfl
        · rw [z_u2_nk (by omega)]; exact f4 l (by omega)
end C25

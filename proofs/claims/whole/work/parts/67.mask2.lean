/-! THE MODEL: far, sphere, way, ring -/
theorem i32_nlt {x y : Int32} : ¬ x < y ↔ y ≤ x := by
  rw [Int32.le_iff_toInt_le, Int32.lt_iff_toInt_lt]
  omega
theorem i32_nle {x y : Int32} : ¬ x ≤ y ↔ y < x := by
  rw [Int32.le_iff_toInt_le, Int32.lt_iff_toInt_lt]
  omega
section M9
variable {d m s n st : Nat} {t : Nat → Nat → Nat} {iv : Nat → Nat} {S : zS} {I I0 : zI} {J : zJ}
theorem m_farOf {to x y : Nat} {f : Nat → Int32} (hd : 2 < d) (hL : MLay S m) (hM : MS S I m s n t) (hg : Grp n t iv) (hto : to < 2) (hf : ∀ x, x < n → I (z_rv S m 29) (20 * to + x) = f x) (hx : x < n) (hy : y < n) : z_ev d i_X12_farOf [.ref m, .int (nI s), .int (nI x), .int (nI y), .int (nI to)] S I J (some (.int (f (t (iv x) y)))) S I J := by
  obtain ⟨d, rfl⟩ := z_dep (d := d) (by omega)
  have hn := hg.le
  have hz := hg.lt (hg.il hx) hy
  refine e_X12_farOf (b_X12_farOf_0 hL.k hL.k ⟨_, _, _, _, by rw [z_lit 665, pk_mul]; exact m_inverse (by omega) hM hg hx, ?_⟩)
  refine b_X12_farOf_21 hL.k ⟨_, _, _, _, m_times (by omega) hM (hg.il hx) hy, ?_⟩
  have e : (20 : Int32) * nI to + nI (t (iv x) y) = nI (20 * to + t (iv x) y) := by rw [z_lit 20, pk_mul, nI_add]
  refine b_X12_farOf_25 (by rw [e]; exact hL.a29.rd (by omega) (by decide)) ⟨?_, rfl, rfl, rfl⟩
  rw [e, nI_clamp (by omega), hf _ hz]
theorem m_back {b : Nat} (hd : 2 < d) (hL : MLay S m) (hM : MS S I0 m s n t) (hg : Grp n t iv) (hs : s < 2) (hst : I0 (z_rv S m 0) (665 * s + 1) = nI st) (ha : st < 2 ^ n) (hb : b < n) : ∃ I', z_ev d i_X12_back [.ref m, .int (nI s), .int (nI b)] S I0 J (some (.int (fr n (arc2 n t st b) b 0))) S I' J ∧ MF S I0 I' m 0 := by
  obtain ⟨d, rfl⟩ := z_dep (d := d) (by omega)
  have hK := hL.mk
  have hk := hM.1.1
  have hn := hg.le
  have hn0 := hg.pos
  have ha31 := z_lt31 hn ha
  have hne := hK.2.2.2.2.2.1
  refine aQ.ex (r := fr n (arc2 n t st b) b 0) (R := fun I' => MF S I0 I' m 0) (w_X12_back (b_X12_back_0 ?_))
  suffices H : ∀ k, k ≤ 20 → ∀ I x3 v4 v5 v6, MF S I0 I m 0 → (∀ x, x < k → I (z_rv S m 29) x = -1) → x3 = nI k → Go d i_X12_back 2 [.ref m, .int (nI s), .int (nI b), .int x3, v4, v5, v6] [] S I J (aQ S J (fr n (arc2 n t st b) b 0) (fun I' => MF S I0 I' m 0)) from H 0 (by omega) I0 _ _ _ _ MF.refl (fun x hx => by omega) rfl
  refine z_up_to 20 ?_ ?_
  · rintro I x3 v4 v5 v6 hF h1 rfl
    refine b_X12_back_2 (fun _ => ?_) (fun c => absurd (nI_le (Nat.le_refl 20) (by decide)) c)
    refine b_X12_back_21 hk (hL.a29.wr (by omega) (by decide)) hk (hL.a30.wr (i := 0) (by decide) (by decide)) ?_
    rw [nI_clamp (by omega), show Int32.toNatClampNeg 0 = 0 from rfl]
    suffices H2 : ∀ c, ∀ I N q F i, n - i < c → MF S I0 I m 0 → BQ n (arc2 n t st b) b N q F i → BI S I m 0 n N q F → ∀ x3 x4 v5 v6, x3 = nI N → x4 = nI i → Go d i_X12_back 40 [.ref m, .int (nI s), .int (nI b), .int x3, .int x4, v5, v6] [] S I J (aQ S J (fr n (arc2 n t st b) b 0) (fun I' => MF S I0 I' m 0)) by
      refine H2 (n + 1) _ 1 (fun _ => b) (fun _ => 0) 0 (by omega) ((hF.far (Nat.zero_le _) (by omega)).line hK) (BQ.start hb _ rfl) ⟨fun j hj => ?_, fun x hx ⟨j, hj, e⟩ => ?_, fun x hx hq => ?_⟩ _ _ _ _ rfl rfl
      · rw [show j = 0 by omega, z_u2_same]
      · rw [← e, z_u2_row hne, Nat.zero_add, z_u2_same]; rfl
      · have hx0 : x ≠ b := fun e => hq ⟨0, by decide, e.symm⟩
        rw [z_u2_row hne, Nat.zero_add, z_u2_nk hx0]; exact h1 x (by omega)
    intro c
    induction c with
    | zero => intro I N q F i hc; omega
    | succ c ih =>
      rintro I N q F i hc hF hB hI x3 x4 v5 v6 rfl rfl
      have hN := hB.len
      have hiN := hB.1.2.2.2.1
      refine b_X12_back_40 (fun c1 => ?_) (fun c1 => b_X12_back_46 ?_)
      · rw [nI_leI (by omega) (by omega)] at c1
        have e : i = N := by omega
        rw [e] at hB
        refine b_X12_back_162 hk (hL.a29.rd (i := 0) (by decide) (by decide)) ⟨z_someI ?_, rfl, rfl, hF⟩
        exact hI.fr hB hn0
      · rw [nI_leI (by omega) (by omega)] at c1
        have hi : i < N := by omega
        have hqi := hB.2.1 i hi
        suffices H3 : ∀ l, l ≤ n → 1 ≤ l → ∀ I N q F, i < N → q i < n → MF S I0 I m 0 → BQ n (arc2 n t st b) b N q F i → BI S I m 0 n N q F → (∀ s', s' < l → s' ≠ 0 → st.testBit s' = true → ¬ (t (q i) s' = 0 ∧ q i = b) → inq N q (t (q i) s')) → ∀ x5 v6, x5 = nI l → Go d i_X12_back 49 [.ref m, .int (nI s), .int (nI b), .int (nI N), .int (nI i), .int x5, v6] [] S I J (aQ S J (fr n (arc2 n t st b) b 0) (fun I' => MF S I0 I' m 0)) from H3 1 hn0 (Nat.le_refl _) I N q F hi hqi hF hB hI (fun s' h1 h2 => by omega) _ _ rfl
        refine z_up_to n ?_ ?_
        · rintro _ I N q F hi hqi hF hB hI hall x5 v6 rfl
          have hN := hB.len
          refine b_X12_back_49 hk ⟨_, _, _, _, m_many (by omega) (hF.ms hK hM), ?_⟩
          refine b_X12_back_56 (fun _ => b_X12_back_156 (ih I N q F (i + 1) (by omega) hF (hB.next hi ?_) hI _ _ _ _ rfl (nI_1 i))) (fun c => absurd (nI_le (Nat.le_refl _) (by omega)) c)
          rintro z hz ⟨⟨s', g1, g2, g3, rfl⟩, g5⟩
          exact hall s' g1 g2 g3 g5
        · rintro l hl ih3 hl1 I N q F hi hqi hF hB hI hall x5 v6 rfl
          have hN := hB.len
          have hM' := hF.ms hK hM
          have hst' : I (z_rv S m 0) (665 * s + 1) = nI st := by rw [hF.1 _ hK.2.2.2.2.2.2.1 hK.2.2.2.2.2.2.2]; exact hst
          refine b_X12_back_49 hk ⟨_, _, _, _, m_many (by omega) hM', ?_⟩
          refine b_X12_back_56 (fun c => absurd c (nI_ge hl (by omega))) (fun _ => ?_)
          have hz := hg.lt hqi hl
          refine b_X12_back_59 hk (hL.a30.rd (by omega) (by decide)) hk ⟨_, _, _, _, by rw [nI_clamp (by omega), hI.1 i hi]; exact m_times (by omega) hM' hqi hl, ?_⟩
          refine b_X12_back_73 hk ⟨_, _, _, _, m_steps (by omega) hL.ma (by omega), ?_⟩
          rw [hst']
          refine b_X12_back_80 ⟨_, _, _, _, m_has (by omega) ha31 (by omega), ?_⟩
          have skip : (∀ s', s' < l + 1 → s' ≠ 0 → st.testBit s' = true → ¬ (t (q i) s' = 0 ∧ q i = b) → inq N q (t (q i) s')) → ∀ x6, Go d i_X12_back 49 [.ref m, .int (nI s), .int (nI b), .int (nI N), .int (nI i), .int (nI l + 1), .int x6] [] S I J (aQ S J (fr n (arc2 n t st b) b 0) (fun I' => MF S I0 I' m 0)) := fun hh x6 => ih3 (by omega) I N q F hi hqi hF hB hI hh _ _ (nI_1 l)
          refine b_X12_back_85 (fun c2 => b_X12_back_150 (skip (fun s' h1 h2 h3 h4 => ?_) _)) (fun c2 => ?_)
          · rw [z_tn0] at c2
            by_cases e : s' = l
            · rw [e, c2] at h3; cases h3
            · exact hall s' (by omega) h2 h3 h4
          · rw [z_tn1] at c2
            refine b_X12_back_88 hk (hL.a29.rd (by omega) (by decide)) (fun c3 => b_X12_back_150 (skip (fun s' h1 h2 h3 h4 => ?_) _)) (fun c3 => ?_)
            · rw [nI_clamp (by omega)] at c3
              by_cases e : s' = l
              · rw [e]
                rcases Classical.em (inq N q (t (q i) l)) with w | w
                · exact w
                · have := hI.2.2 _ hz w
                  rw [Nat.zero_add] at this
                  exact absurd this c3
              · exact hall s' (by omega) h2 h3 h4
            · rw [nI_clamp (by omega)] at c3
              have hnq : ¬ inq N q (t (q i) l) := fun e => by
                have h5 := hI.2.1 _ hz e
                obtain ⟨j, g1, g2⟩ := e
                have hb : F (t (q i) l) < 2 ^ 31 := by
                  have := hB.1.2.2.2.2 j g1
                  rw [← g2]
                  omega
                rw [Nat.zero_add, c3] at h5
                exact nI_nm1 hb h5.symm
              have go : ¬ (t (q i) l = 0 ∧ q i = b) → Go d i_X12_back 118 [.ref m, .int (nI s), .int (nI b), .int (nI N), .int (nI i), .int (nI l), .int (nI (t (q i) l))] [] S I J (aQ S J (fr n (arc2 n t st b) b 0) (fun I' => MF S I0 I' m 0)) := by
                intro hno
                have hE : arc2 n t st b (q i) (t (q i) l) := ⟨⟨l, hl, by omega, c2, rfl⟩, hno⟩
                have hN' := (hB.add hi hz hE hnq).len
                have hv : I (z_rv S m 29) (Int32.toNatClampNeg (I (z_rv S m 30) (nI i).toNatClampNeg)) = nI (F (q i)) := by
                  rw [nI_clamp (by omega), hI.1 i hi, nI_clamp (by omega)]
                  have := hI.2.1 _ hqi ⟨i, hi, rfl⟩
                  rw [Nat.zero_add] at this
                  exact this
                refine b_X12_back_118 hk hk hk (hL.a30.rd (by omega) (by decide)) (by rw [nI_clamp (by omega), hI.1 i hi]; exact hL.a29.rd (by omega) (by decide)) (hL.a29.wr (by omega) (by decide)) rfl hk (hL.a30.wr (by omega) (by decide)) ?_
                rw [hv, nI_clamp (by omega), nI_clamp (by omega), nI_1, nI_1, nI_1]
                have hp : zput q N (t (q i) l) i = q i := zput_n (by omega)
                have hA := hI.add (i := i) (l := F (q i) + 1) hK hz hnq
                rw [Nat.zero_add] at hA
                refine ih3 (by omega) _ (N + 1) (zput q N (t (q i) l)) (zput F (t (q i) l) (F (q i) + 1)) (by omega) (by rw [hp]; exact hqi) ((hF.far (by omega) (by omega)).line hK) (hB.add hi hz hE hnq) hA (fun s' h1 h2 h3 h4 => ?_) _ _ rfl
                rw [hp] at h4 ⊢
                rw [inq_put]
                by_cases e : s' = l
                · rw [e]; exact Or.inr rfl
                · exact Or.inl (hall s' (by omega) h2 h3 h4)
              refine b_X12_back_99 (fun c4 => go (fun q => c4 (by rw [q.1]; rfl))) (fun c4 => ?_)
              rw [z_eq0 (by omega)] at c4
              refine b_X12_back_104 hk (hL.a30.rd (by omega) (by decide)) (fun c5 => go (fun q => c5 ?_)) (fun c5 => b_X12_back_115 (skip (fun s' h1 h2 h3 h4 => ?_) _))
              · rw [nI_clamp (by omega), hI.1 i hi, q.2]
              · rw [nI_clamp (by omega), hI.1 i hi, nI_eq (by omega) (by omega)] at c5
                by_cases e : s' = l
                · rw [e] at h4; exact absurd ⟨c4, c5⟩ h4
                · exact hall s' (by omega) h2 h3 h4
  · rintro k hk' ih I x3 v4 v5 v6 hF h1 rfl
    refine b_X12_back_2 (fun c => absurd c (nI_ge hk' (by decide))) (fun _ => ?_)
    refine b_X12_back_8 hk (hL.a29.wr (by omega) (by decide)) (ih _ _ _ _ _ (hF.far (Nat.zero_le _) ?_) (fun x hx => ?_) (nI_1 k))
    · rw [nI_clamp (by omega)]; omega
    · rw [nI_clamp (by omega)]
      by_cases e : x = k
      · rw [e, z_u2_same]
      · rw [z_u2_nk e]; exact h1 x (by omega)
end M9
section M10
variable {d m : Nat} {N : Nat → Nat} {T : Nat → Nat → Nat → Nat} {V : Nat → Nat → Nat} {P : Nat → Nat} {S : zS} {I I0 : zI} {J : zJ}
theorem m_lay {s to : Nat} (hd : 2 < d) (h : MSS S I m N T P) (hG : GS N T V P) (hs : s < 2) (hto : to < 2) : ∃ I', z_ev d i_X12_laysFar [.ref m, .int (nI s), .int (nI (P s)), .int (nI to)] S I J none S I' J ∧ MF S I I' m (20 * to) ∧ (∀ x, x < N s → I' (z_rv S m 29) (20 * to + x) = fr (N s) (arc (N s) (T s) (P s)) 0 x) ∧ MQy I I' m := by
  obtain ⟨I', a1, a2, a3⟩ := m_laysFar (J := J) (a := P s) hd h.1.mk (h.2 s hs).1 (hG s hs).1 (hG s hs).2.1 hto
  exact ⟨I', a1, a2, a3, a2.mq h.1⟩
theorem m_far (x1 x2 x3 : Int32) (hd : 3 < d) (h : MSS S I m N T P) (hG : GS N T V P) : ∃ I', z_ev d i_X12_far [.ref m, .int x1, .int x2, .int x3] S I J (some (.int (aFar N T V P x1 x2 x3))) S I' J ∧ MQy I I' m := by
  obtain ⟨d, rfl⟩ := z_dep (d := d) (by omega)
  refine aQ.ex (w_X12_far (b_X12_far_0 h.1.k h.1.k ⟨_, _, _, _, m_isEl x1 x2 (by omega) h.th hG, ?_⟩))
  refine b_X12_far_11 (fun c => b_X12_far_23 ⟨z_someI ?_, rfl, rfl, mq_th⟩) (fun c => b_X12_far_14 h.1.k ⟨_, _, _, _, m_isEl x1 x3 (by omega) h.th hG, b_X12_far_20 (fun c2 => ?_) (fun c2 => b_X12_far_23 ⟨z_someI ?_, rfl, rfl, mq_th⟩)⟩)
  · rw [zb_0] at c
    exact (zq_f (fun q => c q.1)).symm
  · rw [zb_1] at c c2
    have e : aFar N T V P x1 x2 x3 = _ := zq_t ⟨c, c2⟩
    obtain ⟨⟨s, hs, rfl⟩, c3⟩ := c
    have es : ix (nI s) = s := ix_nI (by omega)
    rw [es] at c3 c2 e
    obtain ⟨x, hx, rfl⟩ := c3
    obtain ⟨y, hy, rfl⟩ := c2.2
    have hn := (hG s hs).1.le
    rw [ix_nI (by omega), ix_nI (by omega)] at e
    rw [e]
    obtain ⟨I', a1, a2, a3, a4⟩ := m_lay (d := d) (J := J) (to := 0) (by omega) h.th hG hs (by decide)
    refine b_X12_far_26 h.1.k ⟨_, _, _, _, m_steps (by omega) h.1.ma (by omega), ?_⟩
    rw [(h.th.2 s hs).2]
    refine b_X12_far_33 h.1.k ⟨_, _, _, _, a1, ?_⟩
    exact b_X12_far_37 h.1.k ⟨_, _, _, _, m_farOf (to := 0) (by omega) h.1 ((h.th.fr a4).2 s hs).1 (hG s hs).1 (by decide) a3 hx hy, b_X12_far_45 ⟨rfl, rfl, rfl, mq_th.trans a4⟩⟩
  · rw [zb_0] at c2
    exact (zq_f (fun q => c2 q.2)).symm
theorem m_sphere (x1 x2 : Int32) (hd : 3 < d) (h : MSS S I m N T P) (hG : GS N T V P) : ∃ I', z_ev d i_X12_sphere [.ref m, .int x1, .int x2] S I J (some (.int (aSphere N T P x1 x2))) S I' J ∧ MQy I I' m := by
  obtain ⟨d, rfl⟩ := z_dep (d := d) (by omega)
  refine aQ.ex (w_X12_sphere (b_X12_sphere_0 h.1.k ⟨_, _, _, _, m_isSlot x1 (by omega), ?_⟩))
  refine b_X12_sphere_9 (fun c => ?_) (fun c => b_X12_sphere_12 ⟨z_someI ?_, rfl, rfl, mq_th⟩)
  · rw [zb_1] at c
    have e : aSphere N T P x1 x2 = _ := zq_t c
    obtain ⟨s, hs, rfl⟩ := c
    have es : ix (nI s) = s := ix_nI (by omega)
    rw [es] at e
    rw [e]
    have hg := (hG s hs).1
    have hn := hg.le
    refine b_X12_sphere_15 (fun c => ?_) (fun c => b_X12_sphere_20 ⟨z_someI ?_, rfl, rfl, mq_th⟩)
    · rw [zq_f (i32_nlt.mpr c)]
      obtain ⟨I', a1, a2, a3, a4⟩ := m_lay (d := d) (J := J) (to := 0) (by omega) h.th hG hs (by decide)
      refine b_X12_sphere_23 h.1.k ⟨_, _, _, _, m_steps (by omega) h.1.ma (by omega), ?_⟩
      rw [(h.th.2 s hs).2]
      refine b_X12_sphere_30 h.1.k ⟨_, _, _, _, a1, b_X12_sphere_34 ?_⟩
      obtain ⟨f, hf⟩ : ∃ f, f = fr (N s) (arc (N s) (T s) (P s)) 0 := ⟨_, rfl⟩
      rw [← hf] at a3 ⊢
      have a3' : ∀ x, x < N s → I' (z_rv S m 29) x = f x := fun x hx => by
        have := a3 x hx
        rw [Nat.mul_zero, Nat.zero_add] at this
        exact this
      have hm := ((h.th.fr a4).2 s hs).1
      suffices H : ∀ k, k ≤ N s → ∀ x3 x4 x5, x3 = nI (zcn (fun x => f x = x2) k) → x4 = mxf f k → x5 = nI k → Go d i_X12_sphere 42 [.ref m, .int (nI s), .int x2, .int x3, .int x4, .int x5] [] S I' J (aQ S J (zq (x2 = -1) (mxf f (N s)) (nI (zcn (fun x => f x = x2) (N s)))) (fun I' => MQy I I' m)) from H 0 (by omega) _ _ _ rfl rfl rfl
      refine z_up_to (N s) ?_ ?_
      · rintro x3 x4 x5 rfl rfl rfl
        refine b_X12_sphere_42 h.1.k ⟨_, _, _, _, m_many (by omega) hm, ?_⟩
        refine b_X12_sphere_49 (fun _ => ?_) (fun c => absurd (nI_le (Nat.le_refl _) (by omega)) c)
        refine b_X12_sphere_103 (fun c => b_X12_sphere_113 ⟨z_someI (zq_f c).symm, rfl, rfl, mq_th.trans a4⟩) (fun c => b_X12_sphere_108 ⟨z_someI (zq_t c).symm, rfl, rfl, mq_th.trans a4⟩)
      · rintro k hk ih x3 x4 x5 rfl rfl rfl
        refine b_X12_sphere_42 h.1.k ⟨_, _, _, _, m_many (by omega) hm, ?_⟩
        refine b_X12_sphere_49 (fun c => absurd c (nI_ge hk (by omega))) (fun _ => ?_)
        have er := h.1.a29.rd (i := k) (by omega) (by decide)
        have ev : I' (z_rv S m 29) (nI k).toNatClampNeg = f k := by rw [nI_clamp (by omega)]; exact a3' k hk
        have tail : ∀ x3, x3 = nI (zcn (fun x => f x = x2) (k + 1)) → (I' (z_rv S m 29) (nI k).toNatClampNeg ≤ mxf f k → Go d i_X12_sphere 93 [.ref m, .int (nI s), .int x2, .int x3, .int (mxf f k), .int (nI k)] [] S I' J (aQ S J (zq (x2 = -1) (mxf f (N s)) (nI (zcn (fun x => f x = x2) (N s)))) (fun I' => MQy I I' m))) ∧ (¬ I' (z_rv S m 29) (nI k).toNatClampNeg ≤ mxf f k → Go d i_X12_sphere 83 [.ref m, .int (nI s), .int x2, .int x3, .int (mxf f k), .int (nI k)] [] S I' J (aQ S J (zq (x2 = -1) (mxf f (N s)) (nI (zcn (fun x => f x = x2) (N s)))) (fun I' => MQy I I' m))) := by
          rintro x3 rfl
          refine ⟨fun c => b_X12_sphere_93 (ih _ _ _ rfl ?_ (nI_1 k)), fun c => b_X12_sphere_83 h.1.k er (ih _ _ _ rfl ?_ (nI_1 k))⟩
          · rw [ev] at c
            show _ = if f k ≤ mxf f k then mxf f k else f k
            rw [if_pos c]
          · rw [ev] at c ⊢
            show _ = if f k ≤ mxf f k then mxf f k else f k
            rw [if_neg c]
        refine b_X12_sphere_52 h.1.k er (fun c => ?_) (fun c => ?_)
        · have e1 : nI (zcn (fun x => f x = x2) k) + 0 = nI (zcn (fun x => f x = x2) (k + 1)) := by
            rw [ev] at c
            rw [z_lit 0, nI_add, zcn_f (p := fun x => f x = x2) c]; rfl
          exact b_X12_sphere_68 h.1.k er (tail _ e1).1 (tail _ e1).2
        · have e1 : nI (zcn (fun x => f x = x2) k) + 1 = nI (zcn (fun x => f x = x2) (k + 1)) := by
            rw [ev] at c
            rw [nI_1, zcn_t (p := fun x => f x = x2) c]
          exact b_X12_sphere_64 h.1.k er (tail _ e1).1 (tail _ e1).2
    · exact (zq_t (i32_nle.mp c)).symm
  · rw [zb_0] at c
    exact (zq_f c).symm
theorem m_way (x1 x2 x3 : Int32) (hd : 3 < d) (h : MSS S I m N T P) (hG : GS N T V P) : ∃ I', z_ev d i_X12_way [.ref m, .int x1, .int x2, .int x3] S I J (some (.int (aWay N T V P x1 x2 x3))) S I' J ∧ MQy I I' m := by
  obtain ⟨d, rfl⟩ := z_dep (d := d) (by omega)
  refine aQ.ex (w_X12_way (b_X12_way_0 h.1.k h.1.k ⟨_, _, _, _, m_isEl x1 x2 (by omega) h.th hG, ?_⟩))
  refine b_X12_way_11 (fun c => ?_) (fun c => b_X12_way_14 ⟨z_someI ?_, rfl, rfl, mq_th⟩)
  · rw [zb_1] at c
    have e : aWay N T V P x1 x2 x3 = _ := zq_t c
    obtain ⟨⟨s, hs, rfl⟩, c3⟩ := c
    have es : ix (nI s) = s := ix_nI (by omega)
    rw [es] at c3 e
    obtain ⟨y, hy, rfl⟩ := c3
    have hg := (hG s hs).1
    have hn := hg.le
    rw [ix_nI (by omega)] at e
    rw [e]
    refine b_X12_way_17 (fun c => ?_) (fun c => b_X12_way_21 ⟨z_someI (zq_t (i32_nle.mp c)).symm, rfl, rfl, mq_th⟩)
    rw [zq_f (i32_nlt.mpr c)]
    obtain ⟨I', a1, a2, a3, a4⟩ := m_lay (d := d) (J := J) (to := 0) (by omega) h.th hG hs (by decide)
    refine b_X12_way_24 h.1.k ⟨_, _, _, _, m_steps (by omega) h.1.ma (by omega), ?_⟩
    rw [(h.th.2 s hs).2]
    refine b_X12_way_31 h.1.k ⟨_, _, _, _, a1, ?_⟩
    have ev : I' (z_rv S m 29) (nI y).toNatClampNeg = fr (N s) (arc (N s) (T s) (P s)) 0 y := by
      rw [nI_clamp (by omega)]
      have := a3 y hy
      rw [Nat.mul_zero, Nat.zero_add] at this
      exact this
    refine b_X12_way_35 h.1.k (h.1.a29.rd (by omega) (by decide)) (fun c4 => ?_) (fun c4 => b_X12_way_49 ⟨z_someI ?_, rfl, rfl, mq_th.trans a4⟩)
    · rw [ev] at c4 ⊢
      unfold wyv
      rw [zq_t c4]
      obtain ⟨i, hi31, rfl⟩ := nI_of (i32_nlt.mpr c)
      rcases fr_ex (E := arc (N s) (T s) (P s)) hg.pos y with ⟨q1, _⟩ | ⟨L, q1, q2, _, _⟩
      · rw [q1, Int32.lt_iff_toInt_lt, nI_toInt hi31] at c4
        have : (-1 : Int32).toInt = -1 := by decide
        omega
      rw [q2, nI_ltI hi31 (by omega)] at c4
      rw [q2, ix_nI hi31]
      have hm2 := h.th.fr a4
      have hm := (hm2.2 s hs).1
      refine b_X12_way_51 ?_
      suffices H : ∀ k, k ≤ i + 1 → ∀ x4 x5 x6 x7 g, x4 = nI (L - k) → x5 = nI g → g < N s → T s (V s g) y = wz (N s) (T s) (V s) (P s) y k → (0 < k → x6 = nI (wnx (N s) (T s) (V s) (P s) (wz (N s) (T s) (V s) (P s) y (k - 1)))) → x7 = nI k → Go d i_X12_way 60 [.ref m, .int (nI s), .int (nI y), .int (nI i), .int x4, .int x5, .int x6, .int x7] [] S I' J (aQ S J (nI (wnx (N s) (T s) (V s) (P s) (wz (N s) (T s) (V s) (P s) y i))) (fun I' => MQy I I' m)) from H 0 (by omega) _ _ _ _ 0 rfl rfl hg.pos (by rw [hg.i0, hg.l0 hy]; rfl) (fun q => by omega) rfl
      refine z_up_to (i + 1) ?_ ?_
      · rintro x4 x5 x6 x7 g rfl rfl hg1 hg2 h6 rfl
        refine b_X12_way_60 (fun _ => b_X12_way_131 ⟨z_someI (h6 (by omega)), rfl, rfl, mq_th.trans a4⟩) (fun c => absurd (nI_lt (by omega) (by omega)) c)
      · rintro k hk ih x4 x5 x6 x7 g rfl rfl hg1 hg2 h6 rfl
        refine b_X12_way_60 (fun c => absurd c (nI_nlt (by omega) (by omega))) (fun _ => b_X12_way_66 ?_)
        obtain ⟨w1, w2⟩ := wz_spec hg hy q1 q2 k (by omega)
        obtain ⟨l, hl⟩ : ∃ l, L - k = l + 1 := ⟨L - k - 1, by omega⟩
        rw [hl] at w2 ⊢
        obtain ⟨v1, v2, v3⟩ := wnx_spec hg w1 (by omega) w2
        obtain ⟨w, hw⟩ : ∃ w, w = wnx (N s) (T s) (V s) (P s) (wz (N s) (T s) (V s) (P s) y k) := ⟨_, rfl⟩
        rw [← hw] at v1 v2 v3
        have fo : ∀ j, j < N s → T s (V s (T s g j)) y = T s (V s j) (wz (N s) (T s) (V s) (P s) y k) := fun j hj => by
          rw [hg.ip hg1 hj, hg.as (hg.il hj) (hg.il hg1) hy, hg2]
        have hpl := z_lt31 hn (hG s hs).2.1
        have hw0 := v1.1
        have hwn := v1.2.1
        suffices H2 : ∀ j, j ≤ w → 1 ≤ j → ∀ x6, x6 = nI j → Go d i_X12_way 69 [.ref m, .int (nI s), .int (nI y), .int (nI i), .int (nI (l + 1)), .int (nI g), .int x6, .int (nI k)] [] S I' J (aQ S J (nI (wnx (N s) (T s) (V s) (P s) (wz (N s) (T s) (V s) (P s) y i))) (fun I' => MQy I I' m)) from H2 1 (by omega) (Nat.le_refl _) _ rfl
        refine z_up_to w ?_ ?_
        · rintro _ x6 rfl
          refine b_X12_way_69 h.1.k ⟨_, _, _, _, m_steps (by omega) h.1.ma (by omega), ?_⟩
          rw [(hm2.2 s hs).2]
          refine b_X12_way_74 ⟨_, _, _, _, m_has (by omega) hpl (by omega), ?_⟩
          refine b_X12_way_79 (fun c => absurd (z_tn0.mp c) (by rw [v1.2.2.1]; decide)) (fun _ => ?_)
          refine b_X12_way_82 h.1.k ⟨_, _, _, _, m_times (by omega) hm hg1 hwn, ?_⟩
          refine b_X12_way_93 h.1.k ⟨_, _, _, _, m_farOf (to := 0) (by omega) h.1 hm hg (by decide) a3 (hg.lt hg1 hwn) hy, ?_⟩
          rw [fo w hwn, v3]
          refine b_X12_way_98 (fun _ => ?_) (fun c => absurd (nI_pred l).symm c)
          refine b_X12_way_111 h.1.k ⟨_, _, _, _, m_times (by omega) hm hg1 hwn, b_X12_way_120 (ih _ _ _ _ _ ?_ rfl (hg.lt hg1 hwn) ?_ (fun _ => ?_) (nI_1 k))⟩
          · rw [show L - (k + 1) = l by omega]; exact pk_m1 l
          · rw [fo w hwn, hw]; rfl
          · rw [hw]; rfl
        · rintro j hj ih2 hj1 x6 rfl
          refine b_X12_way_69 h.1.k ⟨_, _, _, _, m_steps (by omega) h.1.ma (by omega), ?_⟩
          rw [(hm2.2 s hs).2]
          refine b_X12_way_74 ⟨_, _, _, _, m_has (by omega) hpl (by omega), ?_⟩
          refine b_X12_way_79 (fun c => b_X12_way_105 (ih2 (by omega) _ (nI_1 j))) (fun c => ?_)
          rw [z_tn1] at c
          refine b_X12_way_82 h.1.k ⟨_, _, _, _, m_times (by omega) hm hg1 (by omega), ?_⟩
          refine b_X12_way_93 h.1.k ⟨_, _, _, _, m_farOf (to := 0) (by omega) h.1 hm hg (by decide) a3 (hg.lt hg1 (by omega)) hy, ?_⟩
          rw [fo j (by omega)]
          refine b_X12_way_98 (fun c5 => ?_) (fun _ => b_X12_way_105 (ih2 (by omega) _ (nI_1 j)))
          rw [nI_pred] at c5
          exact absurd ⟨by omega, by omega, c, l, by omega, w2, c5⟩ (v2 j hj)
    · rw [ev] at c4
      exact (zq_f c4).symm
  · rw [zb_0] at c
    exact (zq_f c).symm
theorem m_ring (x1 : Int32) (hd : 3 < d) (h : MSS S I m N T P) (hG : GS N T V P) : ∃ I', z_ev d i_X12_ring [.ref m, .int x1] S I J (some (.int (aRing N T P x1))) S I' J ∧ MQy I I' m := by
  obtain ⟨d, rfl⟩ := z_dep (d := d) (by omega)
  refine aQ.ex (w_X12_ring (b_X12_ring_0 h.1.k ⟨_, _, _, _, m_isSlot x1 (by omega), ?_⟩))
  refine b_X12_ring_9 (fun c => ?_) (fun c => b_X12_ring_12 ⟨z_someI ?_, rfl, rfl, mq_th⟩)
  · rw [zb_1] at c
    have e : aRing N T P x1 = _ := zq_t c
    obtain ⟨s, hs, rfl⟩ := c
    have es : ix (nI s) = s := ix_nI (by omega)
    rw [es] at e
    rw [e]
    have hg := (hG s hs).1
    have hn := hg.le
    have hpl := z_lt31 hn (hG s hs).2.1
    refine b_X12_ring_15 ?_
    suffices H : ∀ k, k ≤ N s → 1 ≤ k → ∀ I1 x2 x3 v4, MQy I I1 m → x2 = rgb (N s) (T s) (P s) k → x3 = nI k → Go d i_X12_ring 19 [.ref m, .int (nI s), .int x2, .int x3, v4] [] S I1 J (aQ S J (rgb (N s) (T s) (P s) (N s)) (fun I' => MQy I I' m)) from H 1 hg.pos (Nat.le_refl _) _ _ _ _ mq_th (zq_f (fun q => q.1.1 rfl)).symm rfl
    refine z_up_to (N s) ?_ ?_
    · rintro _ I1 x2 x3 v4 hq rfl rfl
      refine b_X12_ring_19 h.1.k ⟨_, _, _, _, m_many (by omega) ((h.fr hq).2 s hs).1, ?_⟩
      exact b_X12_ring_25 (fun _ => b_X12_ring_82 ⟨rfl, rfl, rfl, hq⟩) (fun c => absurd (nI_le (Nat.le_refl _) (by omega)) c)
    · rintro k hk ih hk1 I1 x2 x3 v4 hq rfl rfl
      have hh := h.fr hq
      refine b_X12_ring_19 h.1.k ⟨_, _, _, _, m_many (by omega) (hh.2 s hs).1, ?_⟩
      refine b_X12_ring_25 (fun c => absurd c (nI_ge hk (by omega))) (fun _ => ?_)
      refine b_X12_ring_28 h.1.k ⟨_, _, _, _, m_steps (by omega) h.1.ma (by omega), ?_⟩
      rw [(hh.2 s hs).2]
      refine b_X12_ring_33 ⟨_, _, _, _, m_has (by omega) hpl (by omega), ?_⟩
      refine b_X12_ring_37 (fun c => b_X12_ring_49 (fun _ => b_X12_ring_76 (ih (by omega) I1 _ _ _ hq ?_ (nI_1 k))) (fun c => absurd rfl c)) (fun c => ?_)
      · rw [z_tn0] at c
        exact (zq_f (fun q => by have := q.1.2.1; rw [c] at this; cases this)).symm
      · rw [z_tn1] at c
        obtain ⟨I2, b1, b2⟩ := m_back (d := d) (J := J) (b := k) (by omega) h.1 (hh.2 s hs).1 hg hs (hh.2 s hs).2 (hG s hs).2.1 hk
        have hq2 := hq.trans (b2.mq h.1)
        refine b_X12_ring_40 h.1.k ⟨_, _, _, _, b1, ?_⟩
        refine b_X12_ring_46 (fun c2 => b_X12_ring_76 (ih (by omega) I2 _ _ _ hq2 (zq_f (fun q => q.1.2.2 c2)).symm (nI_1 k))) (fun c2 => ?_)
        refine b_X12_ring_58 (fun c3 => b_X12_ring_71 (ih (by omega) I2 _ _ _ hq2 (zq_t ⟨⟨by omega, c, c2⟩, Or.inl c3⟩).symm (nI_1 k))) (fun c3 => ?_)
        refine b_X12_ring_63 (fun c4 => b_X12_ring_76 (ih (by omega) I2 _ _ _ hq2 (zq_f (fun q => ?_)).symm (nI_1 k))) (fun c4 => b_X12_ring_71 (ih (by omega) I2 _ _ _ hq2 (zq_t ⟨⟨by omega, c, c2⟩, Or.inr (i32_nle.mp c4)⟩).symm (nI_1 k)))
        rcases q.2 with w | w
        · exact c3 w
        · exact i32_nlt.mpr c4 w
  · rw [zb_0] at c
    exact (zq_f c).symm
end M10

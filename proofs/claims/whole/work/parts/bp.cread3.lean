/-! THE CLASS: steps are read -/
section CR3
variable {d a n q N g : Nat} {B : Nat → Int32} {S : zS} {I I0 I1 I2 : zI} {J : zJ}
theorem c_readSteps {f : Nat} (hd : 4 < d) (h : RS S I0 a B n q) (hg : z_rv S (a + 2) 2 = g) (hgk : z_kd S g = 2) (hgo : g < a + 2 ∨ a + 9 < g) (hN : I0 g 0 = nI N) (hN20 : 0 < N ∧ N ≤ 20) (hf : n < f + pnx B n q) : ∃ I' v, z_ev d i_X10_readSteps [.ref (a + 2)] S I0 J (some (.int v)) S I' J ∧ RFr I0 I' a ∧ (∀ c, stepsP B n N f 0 (pnx B n q) = .inl c → v = 0 ∧ I' (a + 2) 0 = nI c.1 ∧ I' (a + 2) 1 = nI c.2) ∧ ∀ c, stepsP B n N f 0 (pnx B n q) = .inr c → v = 1 ∧ (I' (a + 2) 0 = I0 (a + 2) 0 ∧ I' (a + 2) 1 = I0 (a + 2) 1 ∧ I' (a + 2) 3 = nI c.1 ∧ I' (a + 2) 4 = 0) ∧ RS S I' a B n c.2 := by
  obtain ⟨d, rfl⟩ := z_dep (d := d) (by omega)
  have hL' := h.1
  obtain ⟨l1, l2, l3, l4, l5⟩ := h.1
  have kl : z_kd S (z_rv S (a + 2) 5) = 6 := by rw [l2]; exact l5.1
  have hn := h.2.1.2.2.1.2
  have kg : z_kd S (z_rv S (a + 2) 2) = 2 := by rw [hg]; exact hgk
  obtain ⟨Q, hQ⟩ : ∃ Q : zQ, Q = fun w S' I' J' => S' = S ∧ J' = J ∧ RFr I0 I' a ∧ (∀ c, stepsP B n N f 0 (pnx B n q) = .inl c → w = some (.int 0) ∧ I' (a + 2) 0 = nI c.1 ∧ I' (a + 2) 1 = nI c.2) ∧ (∀ c, stepsP B n N f 0 (pnx B n q) = .inr c → w = some (.int 1) ∧ (I' (a + 2) 0 = I0 (a + 2) 0 ∧ I' (a + 2) 1 = I0 (a + 2) 1 ∧ I' (a + 2) 3 = nI c.1 ∧ I' (a + 2) 4 = 0) ∧ RS S I' a B n c.2) ∧ ∃ v, w = some (.int v) := ⟨_, rfl⟩
  suffices hw : z_wp (d + 1) i_X10_readSteps [.ref (a + 2)] S I0 J Q by
    rw [hQ] at hw
    obtain ⟨w, S', I', J', x1, rfl, rfl, x2, x4, x5, v, rfl⟩ := hw
    refine ⟨I', v, x1, x2, fun c hc => ?_, fun c hc => ?_⟩
    · obtain ⟨y1, y2⟩ := x4 c hc
      exact ⟨by injection y1 with y1; injection y1, y2⟩
    · obtain ⟨y1, y2⟩ := x5 c hc
      exact ⟨by injection y1 with y1; injection y1, y2⟩
  obtain ⟨Ia, Ea⟩ : ∃ Ia, Ia = z_u2 I0 (a + 2) 4 0 := ⟨_, rfl⟩
  have fa : ∀ y, y ≠ a + 2 → Ia y = I0 y := fun y hy => by rw [Ea, z_u2_row hy]
  have ha : RS S Ia a B n q := h.of (fa _ (by omega)) (fa _ (by omega))
  obtain ⟨I1, p1, p2, p3⟩ := c_adv (d := d) (J := J) (by omega) ha.2.1 ha.2.2
  have r1 : RS S I1 a B n (pnx B n q) := ⟨hL', ha.2.1.fr p2, p3⟩
  have rf1 : RFr I0 I1 a := fun y hy => by rw [p2.1 y (by omega), fa y (by omega)]
  have i1 : I1 (a + 2) = Ia (a + 2) := p2.1 _ (by omega)
  refine w_X10_readSteps (b_X10_readSteps_0 ⟨l1, Or.inl rfl⟩ l1 kl ?_)
  rw [l2, ← Ea]
  refine ⟨_, _, _, _, p1, b_X10_readSteps_12 ?_⟩
  -- the end
  have fin : ∀ (I2 : zI) (told q' : Nat) (x2 x3 : Int32) (v4 v5 : Value), stepsP B n N f 0 (pnx B n q) = .inr (told, q') → RFr I0 I2 a → I2 (a + 2) = Ia (a + 2) → RS S I2 a B n q' → Go d i_X10_readSteps 147 [.ref (a + 2), .int (nI told), .int x2, .int x3, v4, v5] [] S I2 J Q := fun I2 told q' x2 x3 v4 v5 e g1 g2 g3 => by
    refine b_X10_readSteps_147 l1 z_fit1 ?_
    rw [hQ]
    refine ⟨rfl, rfl, fun y hy => by rw [z_u2_row (by omega)]; exact g1 y hy, fun c0 hc => (by rw [e] at hc; cases hc), fun c0 hc => ?_, 1, rfl⟩
    rw [e] at hc
    have hc := Sum.inr.inj hc
    rw [← hc]
    refine ⟨rfl, ⟨?_, ?_, z_u2_same, ?_⟩, g3.of (z_u2_row (by omega)) (z_u2_row (by omega))⟩
    · rw [z_u2_nk (by decide), g2, Ea, z_u2_nk (by decide)]
    · rw [z_u2_nk (by decide), g2, Ea, z_u2_nk (by decide)]
    · rw [z_u2_nk (by decide), g2, Ea, z_u2_same]
  suffices H : ∀ f' q' i told I2 v4 v5, n < f' + q' → RS S I2 a B n q' → RFr I0 I2 a → I2 (a + 2) = Ia (a + 2) → i ≤ q' → told < 2 ^ N → stepsP B n N f 0 (pnx B n q) = stepsP B n N f' told q' → Go d i_X10_readSteps 18 [.ref (a + 2), .int (nI told), .int 1, .int (nI i), v4, v5] [] S I2 J Q from H f (pnx B n q) 0 0 I1 _ _ hf r1 rf1 i1 (by omega) (Nat.pow_pos (by decide)) rfl
  intro f'
  induction f' with
  | zero =>
    intro q' i told I2 v4 v5 hf' hr
    have := hr.2.2.1.1
    omega
  | succ f' ih =>
    intro q' i told I2 v4 v5 hf' hr g1 g2 hiq htl hres
    have hql := hr.2.2.1.1
    have hX := hr.2.1
    have hqq := hr.2.2
    have s4 : I2 (a + 9) 4 = nI (pts B n q') := hqq.2.2.2
    have hpl := pts_lt B n q'
    have c4 : I2 (z_rv S (a + 2) 5) 4 = 2 ↔ pts B n q' = 2 := by rw [l2, s4, z_lit 2, nI_eq (by omega) (by decide)]
    have bad : ∀ (I3 : zI) (c pl : Nat), RFr I0 I3 a → stepsP B n N f 0 (pnx B n q) = .inl (c, pl) → Q (some (.int 0)) S (z_u2 (z_u2 I3 (a + 2) 0 (nI c)) (a + 2) 1 (nI pl)) J := fun I3 c pl g1 e => by
      rw [hQ]
      refine ⟨rfl, rfl, fun y hy => by rw [z_u2_row (by omega), z_u2_row (by omega)]; exact g1 y hy, fun c0 hc => ?_, fun c0 hc => (by rw [e] at hc; cases hc), 0, rfl⟩
      rw [e] at hc
      have hc := Sum.inl.inj hc
      rw [← hc]
      exact ⟨rfl, by rw [z_u2_nk (by decide), z_u2_same], z_u2_same⟩
    refine b_X10_readSteps_18 l1 kl (fun z => ?_) (fun _ => b_X10_readSteps_29 (fun z => by cases z) (fun _ => b_X10_readSteps_33 l1 kl l1 kl (fun y => ?_) (fun y => ?_)))
    · rw [l2, hX.2.2.1.1, nI_ltI (by omega) (by omega)] at z; omega
    · have y' : ¬ pts B n q' = 2 := fun w => y (c4.mpr w)
      have en : numP B n 1 (N - 1) q' = .inl (1, q') := zq_f (fun w => y' (pts_n.mpr w))
      rw [stepsP_l en] at hres
      refine b_X10_readSteps_63 l1 kl (fun _ => b_X10_readSteps_82 l1 ⟨_, _, _, _, c_take0 (by omega) hr, b_X10_readSteps_86 (fun w => absurd rfl w) (fun _ => b_X10_readSteps_89 z_fit0 (bad I2 1 q' g1 hres))⟩) (fun w => absurd w y)
    · have y' : pts B n q' = 2 := c4.mp y
      have yd := pts_n.mp y'
      have hnum := c_number (d := d) (J := J) (by omega) hX hqq y'
      obtain ⟨I3, t1, t2, t3⟩ := c_take1 (d := d) (J := J) (by omega) hr
      have g3 : RFr I0 I3 a := g1.trans t2.rf
      have i3 : I3 (a + 2) = Ia (a + 2) := by rw [t2.1 _ (by omega)]; exact g2
      have n3 : I3 g 0 = nI N := by rw [g3 g hgo]; exact hN
      have hql' := pnx_le (B := B) hql
      have hgt := pnx_gt (B := B) yd.1
      have flt : ¬ (pte B n q' ≤ q' + 2 ∧ 1 ≤ nvl B q' (pte B n q') ∧ nvl B q' (pte B n q') ≤ N - 1) → ∀ x5 : Int32, Go d i_X10_readSteps 109 [.ref (a + 2), .int (nI told), .int 1, .int (nI i), .int (nI q'), .int x5] [] S I3 J Q := fun hno x5 => by
        have en : numP B n 1 (N - 1) q' = .inl (2, q') := by unfold numP; rw [zq_t yd, zq_f hno]
        rw [stepsP_l en] at hres
        exact b_X10_readSteps_109 l1 ⟨_, _, _, _, c_rfail 2 (nI q') (by omega) hL', b_X10_readSteps_116 z_fit0 (bad I3 2 q' g3 hres)⟩
      rw [l2, hqq.2.1]
      refine b_X10_readSteps_53 l1 kl ?_
      rw [l2]
      refine ⟨_, _, _, _, hnum, b_X10_readSteps_60 l1 kl (fun w => absurd y w) (fun _ => b_X10_readSteps_78 l1 ⟨_, _, _, _, t1, b_X10_readSteps_86 (fun _ => ?_) (fun w => by cases w)⟩)⟩
      by_cases e2 : pte B n q' ≤ q' + 2
      · rw [if_pos e2]
        have hv : nvl B q' (pte B n q') < 100 := by
          rw [← nvi_e (B := B) (pte_gt yd.1)]
          exact nvi_lt (fun j j1 j2 => (dvl_lt (prn_in (P := Dgt) (B := B) (n := n) (p := q') (j := q' + j) (by omega) (by rw [← pte_n yd]; omega)).2).1)
        refine b_X10_readSteps_91 (fun w => ?_) (fun w => b_X10_readSteps_97 l1 kg (fun w2 => ?_) (fun w2 => ?_))
        · rw [z_lit 1, nI_ltI (by omega) (by decide)] at w
          exact flt (by omega) _
        · rw [z_lit 1, nI_ltI (by omega) (by decide)] at w
          rw [hg, n3, nI_ltI (by omega) (by omega)] at w2
          have en : numP B n 1 (N - 1) q' = .inr (nvl B q' (pte B n q'), pnx B n q') := by unfold numP; rw [zq_t yd, zq_t ⟨e2, by omega, by omega⟩]
          rw [stepsP_r en] at hres
          have t4 : I3 (a + 9) 4 = nI (pts B n (pnx B n q')) := t3.2.2.2.2.2
          have hpl2 := pts_lt B n (pnx B n q')
          have c42 : I3 (z_rv S (a + 2) 5) 4 = 2 ↔ pts B n (pnx B n q') = 2 := by rw [l2, t4, z_lit 2, nI_eq (by omega) (by decide)]
          have htl2 : told ||| 2 ^ nvl B q' (pte B n q') < 2 ^ N := z_or_lt htl (Nat.pow_lt_pow_right (by decide) (by omega))
          refine b_X10_readSteps_117 l1 kl (fun u => b_X10_readSteps_139 ?_) (fun u => b_X10_readSteps_135 ?_)
          · have u' : ¬ (pnx B n q' < n ∧ Dgt (B (pnx B n q'))) := fun y => u (c42.mpr (pts_n.mpr y))
            have hres : stepsP B n N f 0 (pnx B n q) = .inr (told ||| 2 ^ nvl B q' (pte B n q'), pnx B n q') := by rw [hres]; exact zq_f u'
            rw [z_shl1 (by omega), z_or]
            exact b_X10_readSteps_18 l1 kl (fun _ => fin I3 _ _ _ _ _ _ hres g3 i3 t3) (fun _ => b_X10_readSteps_29 (fun _ => fin I3 _ _ _ _ _ _ hres g3 i3 t3) (fun y => absurd rfl y))
          · have u' : pnx B n q' < n ∧ Dgt (B (pnx B n q')) := pts_n.mp (c42.mp u)
            have hres : stepsP B n N f 0 (pnx B n q) = stepsP B n N f' (told ||| 2 ^ nvl B q' (pte B n q')) (pnx B n q') := by rw [hres]; exact zq_t u'
            rw [z_shl1 (by omega), z_or, nI_1]
            exact ih (pnx B n q') (i + 1) _ I3 _ _ (by omega) t3 g3 i3 (by omega) htl2 hres
        · rw [hg, n3, nI_ltI (by omega) (by omega)] at w2
          exact flt (by omega) _
      · rw [if_neg e2]
        exact b_X10_readSteps_91 (fun _ => flt (by omega) _) (fun w => absurd (by decide) w)
end CR3

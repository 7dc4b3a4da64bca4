/-! THE LAW: from its entry to its end, pure -/
section LW9
variable {d a h0 m y N : Nat} {A : Wst} {S S' : zS} {I I' : zI} {J J' : zJ}
theorem MLay.k2 (h : MLay S m) (h1 : m ≤ y) (h2 : y ≤ m + 16) : z_kd S y ≠ 2 := by
  obtain ⟨k0, b1, b2, b3, b4, b5, b6, b7, b8, b9, b10, b11, b12, b13, b14, b15, b16⟩ := h
  have : y = m ∨ y = m + 1 ∨ y = m + 2 ∨ y = m + 3 ∨ y = m + 4 ∨ y = m + 5 ∨ y = m + 6 ∨ y = m + 7 ∨ y = m + 8 ∨ y = m + 9 ∨ y = m + 10 ∨ y = m + 11 ∨ y = m + 12 ∨ y = m + 13 ∨ y = m + 14 ∨ y = m + 15 ∨ y = m + 16 := by omega
  intro e
  rcases this with rfl | rfl | rfl | rfl | rfl | rfl | rfl | rfl | rfl | rfl | rfl | rfl | rfl | rfl | rfl | rfl | rfl
  · rw [k0] at e; cases e
  · rw [b1.2.1] at e; cases e
  · rw [b2.2.1] at e; cases e
  · rw [b3.2.1] at e; cases e
  · rw [b4.2.1] at e; cases e
  · rw [b5.2.1] at e; cases e
  · rw [b6.2.1] at e; cases e
  · rw [b7.2.1] at e; cases e
  · rw [b8.2.1] at e; cases e
  · rw [b9.2.1] at e; cases e
  · rw [b10.2.1] at e; cases e
  · rw [b11.2.1] at e; cases e
  · rw [b12.2.1] at e; cases e
  · rw [b13.2.1] at e; cases e
  · rw [b14.2.1] at e; cases e
  · rw [b15.2.1] at e; cases e
  · rw [b16.2.1] at e; cases e
/-- the class's state stays while the model is made -/
theorem CW.grow (h : CW S I J a A) (hf : SF S) (hz : z_sz S = a + 71) (hM : MLay S' (a + 72)) (hz' : z_sz S' = a + 88) (hf' : SF S') (hk : ∀ y, y ≤ a + 71 → z_kd S' y = z_kd S y ∧ z_ln S' y = z_ln S y ∧ z_rv S' y = z_rv S y ∧ I' y = I y ∧ J' y = J y) : CW S' I' J' a A := by
  obtain ⟨γ, h⟩ := h
  have h : CWg S I J a A γ := h
  have hX : SH a S S' := ⟨by omega, fun y hy => ⟨(hk y (by omega)).1, (hk y (by omega)).2.1⟩, fun y k hy _ => by rw [(hk y (by omega)).2.2.1]⟩
  have hI : ∀ y, y ≤ a + 71 → I' y = I y := fun y hy => (hk y hy).2.2.2.1
  have hs : ∀ s, s < 2 → CSl S' I' J' a (a + 20 + 12 * s) γ (A.sl s) := fun s hs => by
    have c2 := h.slot hs rfl
    have hl := c2.1.2.1
    exact c2.mv hf hX (by rw [(hk _ (by omega)).2.2.1]) (fun y b1 b2 => hI y (by omega)) (by rw [hI _ (by omega)]) (fun y q1 _ _ => hI y (by omega)) rfl (by rw [(hk _ (by omega)).2.2.2.2])
  have hK : CKn I' a A := h.2.2.2.2.2.2.2.fr (by rw [hI a (by omega)]; exact ⟨rfl, rfl, rfl, rfl⟩) (hI _ (by omega)) (hI _ (by omega))
  refine ⟨γ, CWg.mk h hf hX (hk _ (by omega)).2.2.1 (fun y hy _ _ => hI y (by omega)) (fun y hy => Or.inl ⟨hI y (by have := hy.2.1; omega), by rw [(hk y (by have := hy.2.1; omega)).2.2.1]⟩) (fun y hy e => ?_) (hs 0 (by decide)) (hs 1 (by decide)) (fun y _ b2 => hI y (by omega)) hK (by rw [hI a (by omega)]; exact ⟨rfl, rfl, rfl⟩) (hI _ (by omega))⟩
  rcases Nat.lt_or_ge (z_sz S') y with q | q
  · rw [hf' y q] at e; cases e
  · exact hM.k2 (y := y) (by omega) (by omega) e
theorem CN0.fro (h : CN0 S I a) (hm : Mo S S') (hz : a ≤ z_sz S + 1) (hF : ∀ y, y < a → z_rv S' y = z_rv S y ∧ I' y = I y) : CN0 S' I' a := by
  obtain ⟨h0, h1, h2, h3, h4, h5⟩ := h
  have r0 := (hF 0 h0).1
  have str : ∀ j, j < 10 → ∀ len f, Str S I (z_rv S 0 j) len f → Str S' I' (z_rv S' 0 j) len f := fun j hj len f hs => by
    obtain ⟨y1, y2, y3, y4, y5, y6⟩ := hs
    obtain ⟨b1, b2⟩ := h4 j hj
    unfold Str
    rw [r0, (hF _ b1).1, (hF _ b1).2, (hF _ b2).2, (hm.2.1 _ (by omega)).1, (hm.2.1 _ (by omega)).1, (hm.2.1 _ (by omega)).2]
    exact ⟨y1, y2, y3, y4, y5, y6⟩
  refine ⟨h0, fun j hj => str j (by omega) _ _ (h1 j hj), str 9 (by decide) _ _ h2, ?_, fun j hj => ?_, by rw [r0]; exact h5⟩
  · obtain ⟨y1, y2, y3⟩ := h3
    unfold EO
    rw [r0, (hm.2.1 _ (by omega)).1, (hm.2.1 _ (by omega)).2, (hF _ h5).2]
    exact ⟨y1, y2, y3⟩
  · rw [r0, (hF _ (h4 j hj).1).1]; exact h4 j hj
theorem lw_start (hd : 100 < d) (hf : SF S) (hk : z_isI (z_kd S h0) = true) (hl : z_ln S h0 = N) (hN : N ≤ 3072) (hc : CN0 S I (z_sz S + 1)) : ∃ S' I' J', z_ev (d + 1) i_law [.ref h0] S I J (some (.int 1)) S' I' J' ∧ z_ce S' ≤ z_ce S + 600000 ∧ z_sl S' ≤ z_sl S + 7302250 := by
  have h0l := hf.isI hk
  obtain ⟨a, ha⟩ : ∃ a, a = z_sz S + 1 := ⟨_, rfl⟩
  obtain ⟨S1, I1, J1, e1, m1, w1⟩ := k_class (d := d) (a := a) (S := z_new S 12 0 16) (I := z_ur I a (fun _ => 0)) (J := z_ur J a (fun _ => 0)) (by omega) (by omega) (by rw [z_sz_new, ha]) (by rw [ha]; exact z_kd_new) (fun k => z_ur_same)
  have z1 : z_sz S1 = a + 71 := m1.1
  have M0 : Mo S (z_new S 12 0 16) := Mo.new
  have M1 : Mo S S1 := M0.trans e1.mo
  obtain ⟨S2, I2, J2, e2, m2, w2, v2⟩ := k_model (d := d) (m := a + 72) (S := z_new S1 13 0 36) (I := z_ur I1 (a + 72) (fun _ => 0)) (J := z_ur J1 (a + 72) (fun _ => 0)) (by omega) (by omega) (by rw [z_sz_new, z1]) (by rw [show a + 72 = z_sz S1 + 1 by omega]; exact z_kd_new) (fun k => z_ur_same)
  have z2 : z_sz S2 = a + 88 := m2.1
  have N1 : Mo S1 (z_new S1 13 0 36) := Mo.new
  have M2 : Mo S1 S2 := N1.trans e2.mo
  have f1 : SF S1 := M1.2.2 hf
  have f2 : SF S2 := M2.2.2 f1
  have K2 : ∀ y, y ≤ a + 71 → z_kd S2 y = z_kd S1 y ∧ z_ln S2 y = z_ln S1 y ∧ z_rv S2 y = z_rv S1 y ∧ I2 y = I1 y ∧ J2 y = J1 y := fun y hy => by
    obtain ⟨x1, x2, x3⟩ := m2.2.2.2.1 y (by omega)
    obtain ⟨x4, x5⟩ := m2.2.2.2.2 y (by omega)
    refine ⟨by rw [x1, z_kd_nev (by omega)], by rw [x2, z_ln_nev (by omega)], ?_, by rw [x5, z_ur_row (by omega)], by rw [x3, z_ur_row (by omega)]⟩
    rw [x4]; funext j; exact z_rv_nev (by omega)
  have K1 : ∀ y, y < a → z_rv S1 y = z_rv S y ∧ I1 y = I y := fun y hy => by
    obtain ⟨x4, x5⟩ := m1.2.2.2.2 y (by omega)
    refine ⟨?_, by rw [x5, z_ur_row (by omega)]⟩
    rw [x4]; funext j; exact z_rv_nev (by omega)
  have hc' : CN0 S I a := by rw [ha]; exact hc
  have c1 : CN0 S2 I2 a := by
    obtain ⟨b0, b1, b2, b3, b4, b5⟩ := hc'
    have hc1 : CN0 (z_new S 12 0 16) (z_ur I a (fun _ => 0)) a := by
      have r0 : ∀ y, y < a → z_rv (z_new S 12 0 16) y = z_rv S y ∧ z_ur I a (fun _ => 0) y = I y := fun y hy => ⟨by funext j; exact z_rv_nev (by omega), z_ur_row (by omega)⟩
      exact CN0.fro ⟨b0, b1, b2, b3, b4, b5⟩ M0 (by omega) r0
    exact (hc1.fr e1.mo (by rw [z_sz_new]; omega) (fun y hy => m1.2.2.2.2 y hy)).fr M2 (by omega) (fun y hy => ⟨(K2 y (by omega)).2.2.1, (K2 y (by omega)).2.2.2.1⟩)
  have iv : Inv S2 I2 J2 a Ws0 := ⟨w1.grow f1 z1 w2.1 z2 f2 K2, w2, Ws0_ok, Ws0_tp, Or.inl v2, c1, f2, by omega⟩
  have l1 := (M1.trans M2).2.1 h0 h0l
  have q1 : z_ce S1 = z_ce S + 1 + 71 := m1.2.1
  have q2 : z_sl S1 = z_sl S + 16 + 4531 := m1.2.2.1
  have q3 : z_ce S2 = z_ce S1 + 1 + 16 := m2.2.1
  have q4 : z_sl S2 = z_sl S1 + 36 + 10711 := m2.2.2.1
  have go := lw_loop (d := d) (a := a) (h0 := h0) (N := N) (C := z_ce S + 600000) (L := z_sl S + 7302250) hd (by omega) (by omega) 512 0 S2 I2 J2 Ws0 (by omega) (by omega) iv (by rw [l1.1]; exact hk) (by rw [l1.2]; exact hl) (by omega) (by omega)
  have e0 : z_wp (d + 1) i_law [.ref h0] S I J (fun v S' _ _ => v = some (.int 1) ∧ z_ce S' ≤ z_ce S + 600000 ∧ z_sl S' ≤ z_sl S + 7302250) := by
    refine w_law (b_law_0 (by omega) ?_)
    rw [← ha]
    refine z_ev.wp e1 (b_law_7 (by omega) (by omega) ?_)
    rw [show z_sz S1 + 1 = a + 72 by omega]
    exact z_ev.wp e2 (b_law_15 (by omega) go)
  obtain ⟨v, S', I', J', h1, h2, h3, h4⟩ := e0
  rw [h2] at h1
  exact ⟨S', I', J', h1, h3, h4⟩
end LW9

/-! THE CLASS: symmetries, alikeTo, regular -/
section C42
variable {d a g w n s st : Nat} {t : Nat → Nat → Nat} {iv : Nat → Nat} {A : Wst} {x : Slt} {γ γ' : Nat → Slt} {S S' S2 : zS} {I I' I2 : zI} {J J' J2 : zJ}
/-- a network is painted: the state is the same -/
theorem CWg.paint (hd : 3 < d) (h : CWg S I J a A γ) (hf : SF S) (hs : s < 2) (hw : w = a + 20 + 12 * s) : ∃ I', z_ev d i_X8_painted [.ref w] S I J (some (.ref (w + 4))) S I' J ∧ (∀ y, y ≠ w → Oc (w + 4) y → I' y = I y) ∧ (∀ k, k ≠ 9 → I' w k = I w k) ∧ Pnt S I' (w + 4) (A.sl s).n (A.sl s).t (A.sl s).iv (A.sl s).st ∧ CWg S I' J a A γ := by
  have cs := h.slot hs hw
  obtain ⟨k1, k2, k3, k4, k5⟩ := cs
  obtain ⟨I1, p1, p2, p3, p4, p5, p6⟩ := k3.paint (J := J) hd
  have fo : ∀ y, (y < w ∨ w + 11 < y) → I1 y = I y := fun y q => p2 y (by omega) (by unfold Oc; omega)
  have f1 : I1 (w + 1) = I (w + 1) := p2 _ (by omega) (by unfold Oc; omega)
  have cs' : CSl S I1 J a w γ (A.sl s) := ⟨k1, k2, p6, by rw [f1]; exact k4, by rw [p3 3 (by decide)]; exact k5⟩
  have ot : ∀ s', s' < 2 → CSl S I1 J a (a + 20 + 12 * s') γ (A.sl s') := fun s' hs' => by
    by_cases e : s' = s
    · rw [e, ← hw]; exact cs'
    · have c2 := h.slot hs' rfl
      exact c2.fr (fun y q1 q2 => fo y (by omega)) (fun y hy => fo y (by have := hy.out; omega))
  have ea : I1 a = I a := fo a (by omega)
  exact ⟨I1, p1, p2, p3, p5, h.scr hf SH.refl (fun _ _ _ => rfl) (fun _ => rfl) (fun y _ q => fo y (by omega)) (by rw [ea]; exact ⟨rfl, rfl, rfl⟩) (h.2.2.2.2.2.2.2.fr (by rw [ea]; exact ⟨rfl, rfl, rfl, rfl⟩) (fo _ (by omega)) (fo _ (by omega))) (ot 0 (by decide)) (ot 1 (by decide))⟩
theorem c_solved (hd : 72 < d) (h : CW S I J a A) (hf : SF S) (hs : s < 2) (hw : w = a + 20 + 12 * s) : ∃ S' I' J', z_ev d i_X11_solved [.ref a, .int (nI s)] S I J (some (.ref w)) S' I' J' ∧ CW S' I' J' a A ∧ FR a S I J S' I' J' ∧ Cst 0 0 S S' ∧ J' w 2 = lN (crdn (S0 (A.sl s).n (fd (A.sl s).n (A.sl s).t (A.sl s).iv (A.sl s).st))) ∧ ∀ y, y < (A.sl s).n → I' (w + 1) y = nI (orbt (A.sl s).n (fd (A.sl s).n (A.sl s).t (A.sl s).iv (A.sl s).st) y) := by
  obtain ⟨d, rfl⟩ := z_dep (d := d) (by omega)
  have hk := h.k
  obtain ⟨w', g1, g2, g3, g4, _, g6⟩ := h.net hs
  rw [← hw] at g2
  subst g2
  have h' := h
  obtain ⟨γ, h⟩ := h
  have h : CWg S I J a A γ := h
  have cs := h.slot hs hw
  have hg := g4.2.2.2.2.2.1
  have head : ∀ (S' : zS) (I' : zI) (J' : zJ), (¬ lg_cmp (J w' 2) 0 = 0 → Go d i_X11_solved 35 [.ref a, .int (nI s), .ref w'] [] S I J (z_eq (some (.ref w')) S' I' J')) → (lg_cmp (J w' 2) 0 = 0 → Go d i_X11_solved 16 [.ref a, .int (nI s), .ref w'] [] S I J (z_eq (some (.ref w')) S' I' J')) → z_ev (d + 1) i_X11_solved [.ref a, .int (nI s)] S I J (some (.ref w')) S' I' J' := fun S' I' J' q1 q2 => by
    refine e_X11_solved (b_X11_solved_0 hk g6 (by rw [g1]; omega) (by rw [g1]; exact g3) ?_ ?_)
    · rw [g1]; exact q1
    · rw [g1]; exact q2
  rcases Classical.em (J w' 2 = 0) with c | c
  · obtain ⟨I1, p1, p2, p3, p4, p5⟩ := h.paint (d := d) (by omega) hf hs hw
    have cs1 := p5.slot hs hw
    obtain ⟨k1, k2, k3, k4, k5⟩ := cs1
    have hM := h.1.2.2.2.2.2.2.2.1
    have l4 := k3.2.1.2.1.1
    obtain ⟨S1, I2, q1, q2, q3, q4⟩ := c_countStaying (d := d) (J := J) (by omega) hM.2 k3.1 k3.2.1 p4 hg k3.2.2.2.2.2.1
    have hX := q2.sh
    obtain ⟨J2, E2⟩ : ∃ J2, J2 = z_u2 J w' 2 (lN (crdn (S0 (A.sl s).n (fd (A.sl s).n (A.sl s).t (A.sl s).iv (A.sl s).st)))) := ⟨_, rfl⟩
    have hwk : z_kd S1 w' = 9 := by rw [(q2.1 _).1]; exact g3
    have hr : ∀ y, y ≠ a + 48 → y ≠ a + 53 → z_rv S1 y = z_rv S y := fun y _ e => q2.2.2.1 y e
    have fo : ∀ y, (y < a + 53 ∨ a + 56 < y) → y ≠ w' + 1 → I2 y = I1 y := q3
    have J2w : J2 w' 2 = lN (crdn (S0 (A.sl s).n (fd (A.sl s).n (A.sl s).t (A.sl s).iv (A.sl s).st))) := by rw [E2, z_u2_same]
    have r0 : z_rv S1 w' = z_rv S w' := hr w' (by omega) (by omega)
    have cs' : CSl S1 I2 J2 a w' γ (A.sl s) := by
      refine ⟨by rw [r0]; exact k1.sh hX, by rw [r0]; exact k2, NSt.fr1 (k3.sn q2) (fun y b1 b2 b3 => fo y (by omega) b3) (fun y hy => fo y (by have := hy.out; omega) (by have := hy.out; omega)), Or.inr ⟨J2w, q4⟩, ?_⟩
      rw [fo w' (by omega) (by omega)]; exact k5
    have ot : ∀ s', s' < 2 → CSl S1 I2 J2 a (a + 20 + 12 * s') γ (A.sl s') := fun s' hs' => by
      by_cases e : s' = s
      · rw [e, ← hw]; exact cs'
      · have c2 := p5.slot hs' rfl
        have go := c2.1.1.out
        exact c2.mv hf hX (by rw [hr _ (by omega) (by omega)]) (fun y b1 b2 => fo y (by omega) (by omega)) (by rw [fo _ (by omega) (by omega)]) (fun y _ hy _ => fo y (by have := hy.out; omega) (by have := hy.out; omega)) rfl (by rw [E2, z_u2_row (by omega)])
    have ea : I2 a = I1 a := fo a (by omega) (by omega)
    have hcw : CWg S1 I2 J2 a A γ := p5.scr hf hX hr (fun y => (q2.1 y).1) (fun y _ b => fo y (by omega) (by omega)) (by rw [ea]; exact ⟨rfl, rfl, rfl⟩) (p5.2.2.2.2.2.2.2.fr (by rw [ea]; exact ⟨rfl, rfl, rfl, rfl⟩) (fo _ (by omega) (by omega)) (fo _ (by omega) (by omega))) (ot 0 (by decide)) (ot 1 (by decide))
    refine ⟨S1, I2, J2, head S1 I2 J2 (fun z => absurd ((lg_cmp_eq _ _).mpr c) z) (fun _ => b_X11_solved_16 hk g3 ⟨_, _, _, _, p1, b_X11_solved_25 g3 (by rw [hM.1]; exact hM.2.1) ?_⟩), ⟨γ, hcw⟩, fun y hy => ⟨hr y (by omega) (by omega), by rw [fo y (by omega) (by omega), p2 y (by omega) (by unfold Oc; omega)], by rw [E2, z_u2_row (by omega)]⟩, ⟨by rw [q2.2.1.2.1]; omega, by rw [q2.2.1.2.2]; omega⟩, J2w, q4⟩
    rw [hM.1, l4]
    exact ⟨_, _, _, _, q1, b_X11_solved_32 hwk ⟨rfl, rfl, rfl, E2.symm⟩⟩
  · rcases cs.2.2.2.1 with q | ⟨q1, q2⟩
    · exact absurd q c
    · exact ⟨S, I, J, head S I J (fun _ => b_X11_solved_35 ⟨rfl, rfl, rfl, rfl⟩) (fun z => absurd ((lg_cmp_eq _ _).mp z) c), h', FR.refl, Cst.refl, q1, q2⟩
theorem c_ownCount (hd : 27 < d) (h : CW S I J a A) (hf : SF S) (hs : s < 2) : ∃ S' I', z_ev d i_X11_ownCount [.ref a, .int (nI s)] S I J (some (.int (nI (crdn (fun φ => GM (A.sl s).n (A.sl s).t (A.sl s).t φ ∧ Own (A.sl s).n (A.sl s).st (A.sl s).st φ))))) S' I' J ∧ CW S' I' J a A ∧ FR a S I J S' I' J ∧ Cst 0 0 S S' := by
  obtain ⟨d, rfl⟩ := z_dep (d := d) (by omega)
  have hk := h.k
  obtain ⟨w, g1, hw, g3, g4, _, g6⟩ := h.net hs
  have h' := h
  obtain ⟨γ, h⟩ := h
  have h : CWg S I J a A γ := h
  have cs := h.slot hs hw
  have hg := g4.2.2.2.2.2.1
  have hn := hg.le
  obtain ⟨v, Ev⟩ : ∃ v, v = nI (crdn (fun φ => GM (A.sl s).n (A.sl s).t (A.sl s).t φ ∧ Own (A.sl s).n (A.sl s).st (A.sl s).st φ)) := ⟨_, rfl⟩
  rw [← Ev]
  have head : ∀ (S' : zS) (I' : zI), (¬ I w 3 = 0 → Go d i_X11_ownCount 36 [.ref a, .int (nI s), .ref w] [] S I J (z_eq (some (.int v)) S' I' J)) → (I w 3 = 0 → Go d i_X11_ownCount 14 [.ref a, .int (nI s), .ref w] [] S I J (z_eq (some (.int v)) S' I' J)) → z_ev (d + 1) i_X11_ownCount [.ref a, .int (nI s)] S I J (some (.int v)) S' I' J := fun S' I' q1 q2 => by
    refine e_X11_ownCount (b_X11_ownCount_0 hk g6 (by rw [g1]; omega) (by rw [g1]; exact g3) ?_ ?_)
    · rw [g1]; exact q1
    · rw [g1]; exact q2
  rcases Classical.em (I w 3 = 0) with c | c
  · obtain ⟨I1, p1, p2, p3, p4, p5⟩ := h.paint (d := d) (by omega) hf hs hw
    have cs1 := p5.slot hs hw
    obtain ⟨k1, k2, k3, k4, k5⟩ := cs1
    have kl := k3.2.1.2.2.2.2.2
    obtain ⟨ld, cl, so, sp⟩ := p4
    obtain ⟨r1, r2, r3, r4, r5⟩ := p5.rd hs hw
    have hQ := h.1.2.2.2.2.2.2.1
    have cl20 : ∀ z, z < (A.sl s).n → cl z < 20 := fun z hz => by
      have q := (so.2.2.2.2.2 z hz).2.1
      have := ncs_le (A.sl s).n (HU (A.sl s).n (A.sl s).t (A.sl s).iv (A.sl s).st)
      omega
    have hrd : RD S I1 (a + 48) (w + 6) (A.sl s).n (fun z => nI (cl z)) := ⟨by rw [kl.2.2.1.2.1]; rfl, by rw [kl.2.2.1.2.2]; exact hn, by rw [kl.2.2.1.2.2]; decide, by unfold Off; omega, fun z hz => (so.2.2.2.2.2 z hz).1⟩
    obtain ⟨S1, I2, q1, q2, q3, _⟩ := c_countOwn (d := d) (J := J) (by omega) hQ.2 r1 r2 r3 r4 r5 hrd
    rw [own_fit hg k3.2.2.2.2.2.1 k3.2.2.2.2.1 (fun x y hx hy => ?_) (fun z hz => by have := cl20 z hz; omega), ← Ev] at q1
    · have hX := q2.sh
      obtain ⟨I3, E3⟩ : ∃ I3, I3 = z_u2 I2 w 3 v := ⟨_, rfl⟩
      have hwk : z_kd S1 w = 9 := by rw [(q2.1 _).1]; exact g3
      have hr : ∀ y, y ≠ a + 48 → y ≠ a + 53 → z_rv S1 y = z_rv S y := fun y e _ => q2.2.2.1 y e
      have fo : ∀ y, (y < a + 48 ∨ a + 52 < y) → y ≠ w → I3 y = I1 y := fun y b1 b2 => by rw [E3, z_u2_row b2, q3 y (by unfold Off; omega)]
      have fw : ∀ k, k ≠ 3 → I3 w k = I1 w k := fun k b => by rw [E3, z_u2_nk b, q3 w (by unfold Off; omega)]
      have f3 : I3 w 3 = v := by rw [E3, z_u2_same]
      have r0 : z_rv S1 w = z_rv S w := hr w (by omega) (by omega)
      have nst : NSt S1 I3 a w (A.sl s).n (A.sl s).t (A.sl s).iv (A.sl s).st := by
        obtain ⟨I4, E4⟩ : ∃ I4, I4 = z_u2 I3 w 3 (I1 w 3) := ⟨_, rfl⟩
        have e4 : ∀ y, y ≠ w → I4 y = I3 y := fun y b => by rw [E4, z_u2_row b]
        have e4w : I4 w = I1 w := by
          funext k
          by_cases e : k = 3
          · rw [e, E4, z_u2_same]
          · rw [E4, z_u2_nk e, fw k e]
        have n4 : NSt S1 I4 a w (A.sl s).n (A.sl s).t (A.sl s).iv (A.sl s).st := NSt.mv (x := A.sl s) k3 hf hX (by rw [r0]) (fun y b1 b2 => by
          by_cases e : y = w
          · rw [e]; exact e4w
          · rw [e4 y e, fo y (by omega) e]) (by have := k1.1.out; rw [e4 _ (by omega), fo _ (by omega) (by omega)]) (fun y _ hy _ => by have := hy.out; rw [e4 y (by omega), fo y (by omega) (by omega)])
        obtain ⟨n1, n2, n3, n4, n5, n6, n7, n8⟩ := n4
        have gd := n3.2.2.2.2.2.2.1.out
        have ew : ∀ k, k ≠ 3 → I3 w k = I4 w k := fun k e => by rw [E4, z_u2_nk e]
        have e5 := n2.2.2.1.1
        have e6 := n2.2.2.2.1.1
        refine ⟨n1, n2, n3.fr (by rw [e4 _ (by omega)]) (fun y hy _ => (e4 y (by have := hy.out; omega)).symm), by rw [ew 1 (by decide)]; exact n4, n5, n6, ?_, ?_⟩
        · rw [ew 8 (by decide)]
          rcases n7 with n7 | ⟨m1, m2, m3, m4⟩
          · exact Or.inl n7
          · right
            unfold Msd
            rw [e5] at m2
            rw [e6] at m3
            rw [ew 8 (by decide), e5, e6, ← e4 (w + 2) (by omega), ← e4 (w + 3) (by omega), ew 7 (by decide)]
            exact ⟨m1, m2, m3, m4⟩
        · rw [ew 9 (by decide)]
          rcases n8 with n8 | ⟨m1, m2⟩
          · exact Or.inl n8
          · exact Or.inr ⟨m1, Pnt.fr m2 (fun y b1 b2 => (e4 y (by omega)).symm)⟩
      have cs' : CSl S1 I3 J a w γ (A.sl s) := by
        refine ⟨by rw [r0]; exact k1.sh hX, by rw [r0]; exact k2, nst, ?_, Or.inr (by rw [f3]; exact Ev)⟩
        rw [fo (w + 1) (by omega) (by omega)]; exact k4
      have ot : ∀ s', s' < 2 → CSl S1 I3 J a (a + 20 + 12 * s') γ (A.sl s') := fun s' hs' => by
        by_cases e : s' = s
        · rw [e, ← hw]; exact cs'
        · have c2 := p5.slot hs' rfl
          have go := c2.1.1.out
          exact c2.mv hf hX (by rw [hr _ (by omega) (by omega)]) (fun y b1 b2 => fo y (by omega) (by omega)) (by rw [fo _ (by omega) (by omega)]) (fun y _ hy _ => fo y (by have := hy.out; omega) (by have := hy.out; omega)) rfl rfl
      have ea : I3 a = I1 a := fo a (by omega) (by omega)
      have hcw : CWg S1 I3 J a A γ := p5.scr hf hX hr (fun y => (q2.1 y).1) (fun y _ b => fo y (by omega) (by omega)) (by rw [ea]; exact ⟨rfl, rfl, rfl⟩) (p5.2.2.2.2.2.2.2.fr (by rw [ea]; exact ⟨rfl, rfl, rfl, rfl⟩) (fo _ (by omega) (by omega)) (fo _ (by omega) (by omega))) (ot 0 (by decide)) (ot 1 (by decide))
      refine ⟨S1, I3, head S1 I3 (fun z => absurd c z) (fun _ => b_X11_ownCount_14 hk g3 g3 ⟨_, _, _, _, p1, b_X11_ownCount_27 kl.1 (by rw [hQ.1]; exact hQ.2.1) ?_⟩), ⟨γ, hcw⟩, fun y hy => ⟨hr y (by omega) (by omega), by rw [fo y (by omega) (by omega), p2 y (by omega) (by unfold Oc; omega)], rfl⟩, ⟨by rw [q2.2.1.2.1]; omega, by rw [q2.2.1.2.2]; omega⟩⟩
      rw [hQ.1, show z_rv S (w + 4) 3 = w + 6 from kl.2.2.1.1]
      exact ⟨_, _, _, _, q1, b_X11_ownCount_33 hwk hwk ⟨z_someI (by rw [z_u2_same]), rfl, E3.symm, rfl⟩⟩
    · obtain ⟨u1, u2, u3⟩ := so.2.2.2.2.2 x hx
      obtain ⟨v1, v2, v3⟩ := so.2.2.2.2.2 y hy
      exact ⟨fun e => by rw [← u3, ← v3, e], fun e => so.2.2.2.2.1 _ _ u2 v2 (by rw [u3, v3]; exact e)⟩
  · rcases cs.2.2.2.2 with q | q
    · exact absurd q c
    · exact ⟨S, I, head S I (fun _ => b_X11_ownCount_36 g3 ⟨z_someI (by rw [q, Ev]), rfl, rfl, rfl⟩) (fun z => absurd z c), h', FR.refl, Cst.refl⟩
end C42

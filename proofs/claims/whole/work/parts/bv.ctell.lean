/-! THE CLASS: tell -/
/-- the constants that both sides read -/
def CN0 (S : zS) (I : zI) (a : Nat) : Prop := 0 < a ∧ STS S I ∧ KY S I ∧ EO S I ∧ (∀ j, j < 10 → z_rv S 0 j < a ∧ z_rv S (z_rv S 0 j) 0 < a) ∧ z_rv S 0 20 < a
section CTe
variable {d a n s : Nat} {A : Wst} {γ γ' : Nat → Slt} {S S' : zS} {I I' : zI} {J J' : zJ}
theorem CN0.fr (h : CN0 S I a) (hm : Mo S S') (hz : a ≤ z_sz S) (hF : ∀ y, y < a → z_rv S' y = z_rv S y ∧ I' y = I y) : CN0 S' I' a := by
  obtain ⟨h0, h1, h2, h3, h4, h5⟩ := h
  have r0 := (hF 0 h0).1
  have str : ∀ j, j < 10 → ∀ len f, Str S I (z_rv S 0 j) len f → Str S' I' (z_rv S' 0 j) len f := fun j hj len f hs => by
    obtain ⟨y1, y2, y3, y4, y5, y6⟩ := hs
    obtain ⟨b1, b2⟩ := h4 j hj
    unfold Str
    rw [r0, (hF _ b1).1, (hF _ b1).2, (hF _ b2).2, (hm.2.1 _ (by omega)).1, (hm.2.1 _ (by omega)).1, (hm.2.1 _ (by omega)).2]
    exact ⟨y1, y2, y3, y4, y5, y6⟩
  refine ⟨h0, fun j hj => str j (by omega) _ _ (h1 j hj), str 9 (by decide) _ _ h2, ?_, fun j hj => ?_, by rw [r0]; exact h5⟩
  · obtain ⟨y1, y2, y3⟩ := h3
    unfold EO
    rw [r0, (hm.2.1 _ (by omega)).1, (hm.2.1 _ (by omega)).2, (hF _ h5).2]
    exact ⟨y1, y2, y3⟩
  · rw [r0, (hF _ (h4 j hj).1).1]; exact h4 j hj
theorem CWg.text (h : CWg S I J a A γ) (hf : SF S) (hz : a + 88 ≤ z_sz S) (tr : TRn S I J γ S' I' J' γ' a) : CWg S' I' J' a A γ' := by
  obtain ⟨t1, hX, t3, t4, t5⟩ := tr
  have hRL := h.1.2.2.1.2
  have fI : ∀ y, y ≤ z_sz S → (y < a + 2 ∨ a + 9 < y) → I' y = I y := fun y hy ho => (t3 y hy).2.1 ho
  have fR : ∀ y, y ≤ z_sz S → y ≠ a + 2 → z_rv S' y = z_rv S y := fun y hy ho => (t3 y hy).1 ho
  have ot : ∀ s', s' < 2 → CSl S' I' J' a (a + 20 + 12 * s') γ' (A.sl s') := fun s' hs' => by
    have c2 := h.slot hs' rfl
    have go := c2.1.1.out
    exact c2.mv hf hX (by rw [fR _ (by omega) (by omega)]) (fun y b1 b2 => fI y (by omega) (by omega)) (by rw [fI _ c2.1.2.1 (by omega)]) (fun y q1 q2 _ => fI y q1 (by have := q2.out; omega)) (t4 _ c2.1.2.1) (by rw [(t3 _ (by omega)).2.2])
  obtain ⟨hL, hg, c0, c1, cH, ⟨ht, hp⟩, ⟨f1, f2⟩, hK⟩ := h
  have ea : I' a = I a := fI a (by omega) (by omega)
  refine ⟨hL.sh hX hf, fun y hy => ?_, ot 0 (by decide), ot 1 (by decide), cH.mv hX (fun y b1 b2 => fI y (by omega) (by omega)) (fR _ (by omega) (by omega)) t4, ⟨by rw [ea]; exact ht, by rw [fI (a + 1) (by omega) (by omega)]; exact hp⟩, ⟨by rw [ea]; exact f1, by rw [ea]; exact f2⟩, hK.fr (by rw [ea]; exact ⟨rfl, rfl, rfl, rfl⟩) (fI _ (by omega) (by omega)) (fI _ (by omega) (by omega))⟩
  rcases Nat.lt_or_ge (z_sz S) y with q | q
  · exact t5 y q hy
  · have hy' := hy.hs hX q
    have yo := hy'.1.out
    rw [t4 y q]
    exact (hg y hy').st hf hX (fI y q (by omega)) (fun u hu k1 _ => fI u hu (k1.nr hRL)) (by rw [fR y q (by omega)])
theorem c_tell (x1 x2 : Int32) (hd : 13 < d) (h : CW S I J a A) (hf : SF S) (hz : a + 88 ≤ z_sz S) (hC : CN0 S I a) (hA : WOk A) : ∃ S' I' J', z_ev d i_X11_tell [.ref a, .int x1, .int x2] S I J (some (.int (aTell A x1 x2))) S' I' J' ∧ CW S' I' J' a (wTell A x1 x2) ∧ FR a S I J S' I' J' ∧ Cst 9 700 S S' := by
  obtain ⟨d, rfl⟩ := z_dep (d := d) (by omega)
  have hk := h.k
  have htl := hA.2.2.2
  rcases Classical.em (El 2 x1) with c | c
  · have h' := h
    obtain ⟨γ, h⟩ := h
    have h : CWg S I J a A γ := h
    have i1 : I a 1 = nI A.tl := h.2.2.2.2.2.1.1
    rcases Classical.em (El (A.tl + 1) x2) with c2 | c2
    · have eA : aTell A x1 x2 = aTl (txR A (ix x1) (ix x2)) := by unfold aTell; rw [zq_t c, zq_t c2]
      have eW : wTell A x1 x2 = wTl A (ix x1) (txR A (ix x1) (ix x2)) := by unfold wTell; rw [zq_t ⟨c, c2⟩]
      rw [eA, eW]
      have cc := c
      obtain ⟨s, hs, rfl⟩ := c
      obtain ⟨n, hn, rfl⟩ := c2
      rw [ix_nI (by omega), ix_nI (by omega)]
      obtain ⟨w, g1, hw, g3, g4, _, g6⟩ := h'.net hs
      have cs := h.slot hs hw
      obtain ⟨k1, k2, k3, _⟩ := cs
      have hRL := h.1.2.2.1.2
      have r2 : z_rv S a 2 = a + 2 := h.1.2.2.1.1
      have hX := hA.1 s hs
      obtain ⟨n0, n1, n2, n3, n4, n5⟩ := hC
      have hxe : A.sl s = (γ (z_rv S w 0)).to (A.sl s).st := k2
      obtain ⟨S1, I1, J1, γ1, p1, p2, p3, p4, p5⟩ := c_readText (d := d) (B := A.tp) (X := A.sl s) (J := J) (by omega) hRL hf hz n1 n3 (by omega) n0 (fun j hj => ⟨by have := (n4 j (by omega)).1; omega, by have := (n4 j (by omega)).2; omega, by have := (n4 j (by omega)).1; omega⟩) (show n ≤ 300 by omega) (fun j hj => h.2.2.2.2.2.1.2 j (by omega)) k1 (h.2.1 _ k1) hxe hX
      have hcw := h.text hf hz p2
      have hf1 := p2.1
      have sh1 := p2.2.1
      have hL1 := hcw.1
      have r21 : z_rv S1 a 2 = a + 2 := hL1.2.2.1.1
      have kr1 : z_kd S1 (a + 2) = 11 := hL1.2.2.1.2.1
      have fr1 : FR a S I J S1 I1 J1 := fun y hy => ⟨(p2.2.2.1 y (by omega)).1 (by omega), (p2.2.2.1 y (by omega)).2.1 (by omega), (p2.2.2.1 y (by omega)).2.2⟩
      obtain ⟨I2, E2⟩ : ∃ I2, I2 = z_u2 (z_u2 (z_u2 I1 a 1 0) a 3 (I1 (a + 2) 0)) a 4 (I1 (a + 2) 1) := ⟨_, rfl⟩
      have f2 : ∀ y, y ≠ a → I2 y = I1 y := fun y hy => by rw [E2, z_u2_row hy, z_u2_row hy, z_u2_row hy]
      have fk : ∀ k, k ≠ 1 → k ≠ 3 → k ≠ 4 → I2 a k = I1 a k := fun k a1 a3 a4 => by rw [E2, z_u2_nk a4, z_u2_nk a3, z_u2_nk a1]
      have v1 : I2 a 1 = 0 := by rw [E2, z_u2_nk (by decide), z_u2_nk (by decide), z_u2_same]
      have v3 : I2 a 3 = I1 (a + 2) 0 := by rw [E2, z_u2_nk (by decide), z_u2_same]
      have v4 : I2 a 4 = I1 (a + 2) 1 := by rw [E2, z_u2_same]
      have fr2 : FR a S I J S1 I2 J1 := fun y hy => ⟨(fr1 y hy).1, by rw [f2 y (by omega)]; exact (fr1 y hy).2.1, (fr1 y hy).2.2⟩
      have ot : ∀ s', s' < 2 → CSl S1 I2 J1 a (a + 20 + 12 * s') γ1 (A.sl s') := fun s' hs' => (hcw.slot hs' rfl).fr (fun y b1 b2 => f2 y (by omega)) (fun y hy => f2 y (by have := hy.out; omega))
      have hgr : ∀ y, IsG S1 a y → GC S1 I2 a y (γ1 y) := fun y hy => (hcw.2.1 y hy).fr (fun u hu => f2 u (hu.far hL1).1)
      have hcH : CHi S1 I2 a γ1 A := hcw.2.2.2.2.1.fr (fun y b1 b2 => f2 y (by omega))
      have hcK : CKn I2 a A := hcw.2.2.2.2.2.2.2.fr ⟨fk 12 (by decide) (by decide) (by decide), fk 13 (by decide) (by decide) (by decide), fk 14 (by decide) (by decide) (by decide), fk 15 (by decide) (by decide) (by decide)⟩ (f2 _ (by omega)) (f2 _ (by omega))
      have e20 : z_u2 I1 a 1 0 (a + 2) 0 = I1 (a + 2) 0 := z_u2_ne (by omega)
      have e21 : z_u2 (z_u2 I1 a 1 0) a 3 (I1 (a + 2) 0) (a + 2) 1 = I1 (a + 2) 1 := by rw [z_u2_ne (by omega), z_u2_ne (by omega)]
      have eI : I2 = z_u2 (z_u2 (z_u2 I1 a 1 0) a 3 (z_u2 I1 a 1 0 (z_rv S1 a 2) 0)) a 4 (z_u2 (z_u2 I1 a 1 0) a 3 (z_u2 I1 a 1 0 (z_rv S1 a 2) 0) (z_rv S1 a 2) 1) := by rw [r21, e20, e21]; exact E2
      have head : ∀ (S' : zS) (I' : zI) (J' : zJ) (v : Int32), (I2 a 3 = 0 → Go d i_X11_tell 90 [.ref a, .int (nI s), .int (nI n), .ref w] [] S1 I2 J1 (z_eq (some (.int v)) S' I' J')) → (¬ I2 a 3 = 0 → Go d i_X11_tell 82 [.ref a, .int (nI s), .int (nI n), .ref w] [] S1 I2 J1 (z_eq (some (.int v)) S' I' J')) → z_ev (d + 1) i_X11_tell [.ref a, .int (nI s), .int (nI n)] S I J (some (.int v)) S' I' J' := fun S' I' J' v q1 q2 => by
        refine e_X11_tell (b_X11_tell_0 ⟨_, _, _, _, c_isSlot (nI s) (by omega), b_X11_tell_4 (fun _ => b_X11_tell_10 (fun z => absurd z (nI_pos (by omega))) (fun _ => b_X11_tell_14 hk (fun _ => b_X11_tell_25 hk g6 (by rw [g1]; omega) hk (by rw [g1]; exact g3) (by rw [g1]; exact g3) (by rw [r2]; exact hRL.1) ?_) (fun z => absurd ?_ z))) (fun z => absurd cc (zb_0.mp z))⟩)
        · rw [r2, g1, k3.2.2.2.1]
          exact ⟨_, _, _, _, p1, b_X11_tell_48 hL1.1 hL1.1 (by rw [r21]; exact kr1) hL1.1 hL1.1 (by rw [r21]; exact kr1) hL1.1 eI hL1.1 q1 q2⟩
        · rw [i1]; exact nI_le (by omega) (by omega)
      rcases e : txR A s n with c0 | X'
      · obtain ⟨s1, s2⟩ := p4 c0 e
        have hc := textP_c _ _ _ _ _ e
        have s3 : I2 a 3 = nI c0.1 := by rw [v3]; exact s1
        have n3' : ¬ I2 a 3 = 0 := by rw [s3]; exact nI_ne0 (by omega) (by omega)
        refine ⟨S1, I2, J1, head S1 I2 J1 _ (fun z => absurd z n3') (fun _ => b_X11_tell_82 hL1.1 ⟨by rw [s3]; rfl, rfl, rfl, rfl⟩), ⟨γ1, hL1, hgr, ot 0 (by decide), ot 1 (by decide), hcH, ⟨v1, fun j hj => absurd (show j < 0 from hj) (by omega)⟩, ⟨s3, by rw [v4]; exact s2⟩, hcK⟩, fr2, p3⟩
      · obtain ⟨s1, s2, s3, s4, s5, s6⟩ := p5 X' e
        have z3 : I2 a 3 = 0 := by rw [v3]; exact s1
        have hH1 := hL1.2.2.2.2.2.1
        obtain ⟨I3, E3⟩ : ∃ I3, I3 = z_u2 I2 (a + 44) 0 0 := ⟨_, rfl⟩
        have f3 : ∀ y, y ≠ a + 44 → I3 y = I2 y := fun y hy => by rw [E3, z_u2_row hy]
        obtain ⟨A2, EA⟩ : ∃ A2 : Wst, A2 = (A.sl, 0, A.hi, 0, A.tp, 0, -1) := ⟨_, rfl⟩
        have hcw2 : CWg S1 I3 J1 a A2 γ1 := by
          rw [EA]
          obtain ⟨nx, y1, y2, _, _⟩ := hcH
          refine ⟨hL1, fun y hy => (hgr y hy).fr (fun u hu => f3 u (by have := hu.out hL1; omega)), (ot 0 (by decide)).fr (fun y b1 b2 => f3 y (by omega)) (fun y hy => f3 y (by have := hy.out; omega)), (ot 1 (by decide)).fr (fun y b1 b2 => f3 y (by omega)) (fun y hy => f3 y (by have := hy.out; omega)), ⟨nx, y1, by rw [E3, z_u2_nk (by decide)]; exact y2, by rw [E3, z_u2_same]; rfl, fun k hk => absurd (show k < 0 from hk) (by omega)⟩, ⟨by rw [f3 _ (by omega)]; exact v1, fun j hj => absurd (show j < 0 from hj) (by omega)⟩, ⟨by rw [f3 _ (by omega)]; exact z3, by rw [f3 _ (by omega), v4]; exact s2⟩, CKn.fr (A := A) hcK (by rw [f3 _ (by omega)]; exact ⟨rfl, rfl, rfl, rfl⟩) (f3 _ (by omega)) (f3 _ (by omega))⟩
        have en : (γ1 (z_rv S1 (a + 2) 2)).n = X'.n := by rw [s5]; rfl
        obtain ⟨S4, I4, J4, q1, q2, q3, q4, q5, q6, q7, q8⟩ := hcw2.become (d := d) (by omega) hf1 hs hw s4 (st := X'.st) (by rw [en]; exact s6.2.1) s6.2.2.1
        rw [← s5] at q2
        have eW2 : A2.put s X' = wTl A s (.inr X') := by rw [EA]; rfl
        rw [eW2] at q2
        have cs4 := q2.slot hs hw
        have esl : (wTl A s (.inr X')).sl s = X' := if_pos rfl
        rw [esl] at cs4
        have go4 := cs4.2.2.1.2.2.1
        refine ⟨S4, I4, J4, head S4 I4 J4 _ (fun _ => b_X11_tell_90 hL1.1 (by rw [hH1.1]; exact hH1.2.1) ?_) (fun z => absurd z3 z), ⟨γ1, q2⟩, FR.trans (fun y hy => ⟨(fr2 y hy).1, by rw [f3 y (by omega)]; exact (fr2 y hy).2.1, (fr2 y hy).2.2⟩) q3, ⟨by have := p3.1; have := q4.1; omega, by have := p3.2; have := q4.2; omega⟩⟩
        rw [hH1.1]
        refine ⟨_, _, _, _, c_forget (by omega) hH1.2, ?_⟩
        rw [← E3]
        refine b_X11_tell_97 hL1.1 (by rw [r21]; exact kr1) hL1.1 (by rw [r21]; exact kr1) hL1.1 ?_
        rw [r21, show I3 (a + 2) 3 = nI X'.st by rw [f3 _ (by omega), f2 _ (by omega)]; exact s3]
        exact ⟨_, _, _, _, q1, b_X11_tell_116 q6 go4.1.1 ⟨z_someI go4.1.2.1, rfl, rfl, rfl⟩⟩
    · have eA : aTell A x1 x2 = -3 := by unfold aTell; rw [zq_t c, zq_f c2]
      have eW : wTell A x1 x2 = A := by unfold wTell; rw [zq_f (fun z => c2 z.2)]
      rw [eA, eW]
      have cc := c
      refine ⟨S, I, J, e_X11_tell (b_X11_tell_0 ⟨_, _, _, _, c_isSlot x1 (by omega), b_X11_tell_4 (fun _ => b_X11_tell_10 (fun _ => b_X11_tell_22 ⟨rfl, rfl, rfl, rfl⟩) (fun z => b_X11_tell_14 hk (fun z2 => absurd ?_ c2) (fun _ => b_X11_tell_22 ⟨rfl, rfl, rfl, rfl⟩))) (fun z => absurd cc (zb_0.mp z))⟩), h', FR.refl, Cst.refl⟩
      rw [i1] at z2
      exact (el_in (by omega)).mp ⟨Decidable.byContradiction (fun y => z (i32_nle.mp y)), z2⟩
  · have eA : aTell A x1 x2 = -2 := by unfold aTell; rw [zq_f c]
    have eW : wTell A x1 x2 = A := by unfold wTell; rw [zq_f (fun z => c z.1)]
    rw [eA, eW]
    exact ⟨S, I, J, e_X11_tell (b_X11_tell_0 ⟨_, _, _, _, c_isSlot x1 (by omega), b_X11_tell_4 (fun z => absurd (zb_1.mp z) c) (fun _ => b_X11_tell_7 ⟨rfl, rfl, rfl, rfl⟩)⟩), h, FR.refl, Cst.refl⟩
end CTe

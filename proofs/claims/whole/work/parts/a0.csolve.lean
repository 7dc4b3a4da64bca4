/-! THE CLASS: mapped; a network is solved -/
section C41
variable {d a g w n s st : Nat} {t : Nat → Nat → Nat} {iv : Nat → Nat} {A : Wst} {x : Slt} {γ γ' : Nat → Slt} {S S' S2 : zS} {I I' I2 : zI} {J J' J2 : zJ}
/-- only its own cells have changed, and no Group -/
theorem CWg.scr (h : CWg S I J a A γ) (hf : SF S) (hX : SH a S S') (hr : ∀ y, y ≠ a + 48 → y ≠ a + 53 → z_rv S' y = z_rv S y) (hk : ∀ y, z_kd S' y = z_kd S y) (hI : ∀ y, y ≠ a → (y < a + 20 ∨ (a + 44 ≤ y ∧ y ≤ a + 47) ∨ a + 71 < y) → I' y = I y) (ha : I' a 1 = I a 1 ∧ I' a 3 = I a 3 ∧ I' a 4 = I a 4) (hK : CKn I' a A) (c0 : CSl S' I' J' a (a + 20) γ (A.sl 0)) (c1 : CSl S' I' J' a (a + 32) γ (A.sl 1)) : CWg S' I' J' a A γ := by
  have hL := h.1
  refine h.mk hf hX (hr _ (by omega) (by omega)) (fun y hy q1 q2 => hI y ?_ ?_) (fun y hy => Or.inl ⟨hI y ?_ ?_, ?_⟩) (fun y hy => by rw [hk, hf y hy]; decide) c0 c1 (fun y g1 g2 => hI y (by omega) (by omega)) hK ha (hI _ (by omega) (by omega))
  · exact (q1.far hL).1
  · have := q1.out hL; omega
  · have := hy.1.out; omega
  · have := hy.1.out; omega
  · have := hy.1.out
    rw [hr y (by omega) (by omega)]
theorem CWg.scn (h : CWg S I J a A γ) (hf : SF S) (hX : SH a S S') (hr : ∀ y, y ≠ a + 48 → y ≠ a + 53 → z_rv S' y = z_rv S y) (hI : ∀ y, y ≠ a → (y < a + 48 ∨ a + 71 < y) → I' y = I y) (hs : s < 2) (hw : w = a + 20 + 12 * s) : CSl S' I' J a w γ (A.sl s) := by
  have cs := h.slot hs hw
  exact cs.mv hf hX (by rw [hr w (by omega) (by omega)]) (fun y q1 q2 => hI y (by omega) (by omega)) (by rw [hI _ (by have := cs.1.1.out; omega) (by have := cs.1.1.out; omega)]) (fun y _ q2 _ => hI y (by have := q2.out; omega) (by have := q2.out; omega)) rfl rfl
theorem c_mapped (x1 : Int32) (hd : 26 < d) (h : CW S I J a A) (hf : SF S) : ∃ S' I', z_ev d i_X11_mapped [.ref a, .int x1] S I J (some (.int (aMapped (fun s => (A.sl s).n) (fun s => (A.sl s).t) x1))) S' I' J ∧ CW S' I' J a A ∧ FR a S I J S' I' J ∧ Cst 0 0 S S' := by
  obtain ⟨d, rfl⟩ := z_dep (d := d) (by omega)
  have hk := h.k
  have e20 : El 2 (0 : Int32) := ⟨0, by decide, rfl⟩
  have e0 : A.sl (ix 0) = A.sl 0 := rfl
  rcases Classical.em (El (A.sl 0).n x1) with c | c
  · have e : aMapped (fun s => (A.sl s).n) (fun s => (A.sl s).t) x1 = _ := zq_t c
    rw [e]
    have hel := c_isElement (d := d) 0 x1 (by omega) h
    have cc := c
    obtain ⟨x, hx, rfl⟩ := c
    obtain ⟨w0, a1, a2, a3, a4, _, a6⟩ := h.net (s := 0) (by decide)
    obtain ⟨w1, b1, b2, b3, b4, _, b6⟩ := h.net (s := 1) (by decide)
    have a2 : w0 = a + 20 := a2
    have b2 : w1 = a + 32 := b2
    subst a2
    subst b2
    have hn := a4.2.2.2.2.2.1.le
    have h' := h
    obtain ⟨γ, h⟩ := h
    have h : CWg S I J a A γ := h
    have l10 := h.1.2.2.2.2.2.2.2.2.2.1
    have i70 : z_isI (z_kd S (z_rv S a 10)) = true ∧ vp_in (nI x) (z_ln S (z_rv S a 10)) := by rw [l10.kd, l10.ln]; exact ⟨rfl, vp_in_nI (by omega) (by decide)⟩
    rw [ix_nI (by omega)]
    have head : ∀ (S' : zS) (I' : zI) (v : Int32), (¬ I a 13 = 0 → Go d i_X11_mapped 53 [.ref a, .int (nI x)] [] S I J (z_eq (some (.int v)) S' I' J)) → (I a 13 = 0 → Go d i_X11_mapped 19 [.ref a, .int (nI x)] [] S I J (z_eq (some (.int v)) S' I' J)) → z_ev (d + 1) i_X11_mapped [.ref a, .int (nI x)] S I J (some (.int v)) S' I' J := fun S' I' v q1 q2 =>
      e_X11_mapped (b_X11_mapped_0 hk ⟨_, _, _, _, hel, b_X11_mapped_6 (fun _ => b_X11_mapped_12 hk q1 q2) (fun z => absurd ⟨e20, cc⟩ (zb_0.mp z))⟩)
    rcases h.2.2.2.2.2.2.2.1 with c0 | ⟨c0, c1⟩
    · obtain ⟨r1, r2, r3, r4, r5⟩ := h.rd (s := 0) (by decide) rfl
      obtain ⟨s1, s2, s3, s4, s5⟩ := h.rd (s := 1) (by decide) rfl
      have hQ := h.1.2.2.2.2.2.2.1
      have hne : a + 70 ≠ z_rv S (z_rv S (a + 20) 0) 1 := by have := (a4.2.2.2.2.2.2.2 1 (by decide) (by decide)).out; omega
      obtain ⟨S1, I1, p1, p2, p3, p4, p5⟩ := c_findFirst (d := d) (J := J) (by omega) hQ.2 r1 r2 r3 r4 s1 s2 s3 s4 r5 s5 l10.2.1 l10.2.2 (by unfold Off; omega) hne
      have hX := p2.sh
      obtain ⟨I2, E2⟩ : ∃ I2, I2 = z_u2 I1 a 13 1 := ⟨_, rfl⟩
      have fo : ∀ y, y ≠ a → Off (a + 48) y → y ≠ a + 70 → I2 y = I y := fun y q1 q2 q3 => by rw [E2, z_u2_row q1, p3 y q2 q3]
      have fa : ∀ k, k ≠ 13 → I2 a k = I a k := fun k q => by rw [E2, z_u2_nk q, p3 a (by unfold Off; omega) (by omega)]
      have f13 : I2 a 13 = 1 := by rw [E2, z_u2_same]
      have f70 : I2 (a + 70) = I1 (a + 70) := by rw [E2, z_u2_row (by omega)]
      have hk1 : z_kd S1 a = 12 := by rw [(p2.1 a).1]; exact hk
      have r10 : z_rv S1 a 10 = a + 70 := by rw [p2.2.2.1 a (by omega)]; exact l10.1
      have i70' : z_isI (z_kd S1 (z_rv S1 a 10)) = true ∧ vp_in (nI x) (z_ln S1 (z_rv S1 a 10)) := by rw [r10, (p2.1 _).1, (p2.1 _).2, l10.2.1, l10.2.2]; exact ⟨rfl, vp_in_nI (by omega) (by decide)⟩
      have hr : ∀ y, y ≠ a + 48 → y ≠ a + 53 → z_rv S1 y = z_rv S y := fun y q _ => p2.2.2.1 y q
      have hI : ∀ y, y ≠ a → (y < a + 48 ∨ a + 71 < y) → I2 y = I y := fun y q1 q2 => fo y q1 (by unfold Off; omega) (by omega)
      refine ⟨S1, I2, head S1 I2 _ (fun q => absurd c0 q) (fun _ => b_X11_mapped_19 hk hk a6 (by rw [show z_rv S (z_rv S a 5) (0 : Int32).toNatClampNeg = a + 20 from a1]; exact a3) hk b6 (by rw [show z_rv S (z_rv S a 5) (1 : Int32).toNatClampNeg = a + 32 from b1]; exact b3) hk (by rw [hQ.1]; exact hQ.2.1) ?_), ⟨γ, h.scr hf hX hr (fun y => (p2.1 y).1) (fun y q1 q2 => hI y q1 (by omega)) ⟨fa 1 (by decide), fa 3 (by decide), fa 4 (by decide)⟩ ⟨?_, ?_, ?_⟩ (h.scn hf hX hr hI (s := 0) (by decide) rfl) (h.scn hf hX hr hI (s := 1) (by decide) rfl)⟩, fun y hy => ⟨hr y (by omega) (by omega), hI y (by omega) (by omega), rfl⟩, ⟨by rw [p2.2.1.2.1]; omega, by rw [p2.2.1.2.2]; omega⟩⟩
      · rw [show z_rv S (z_rv S a 5) (0 : Int32).toNatClampNeg = a + 20 from a1, show z_rv S (z_rv S a 5) (1 : Int32).toNatClampNeg = a + 32 from b1, hQ.1, l10.1]
        refine ⟨_, _, _, _, p1, b_X11_mapped_48 ⟨hk1, Or.inr rfl⟩ hk1 i70' ⟨z_someI ?_, rfl, E2.symm, rfl⟩⟩
        rw [← E2, r10, nI_clamp (by omega), f70]
        exact p5 x hx
      · exact Or.inr ⟨f13, fun y hy => by rw [f70]; exact p5 y hy⟩
      · rw [fa 14 (by decide), fo (a + 71) (by omega) (by unfold Off; omega) (by omega)]; exact h.2.2.2.2.2.2.2.2.1
      · rw [fa 15 (by decide), fa 12 (by decide)]; exact h.2.2.2.2.2.2.2.2.2
    · refine ⟨S, I, head S I _ (fun _ => b_X11_mapped_53 hk i70 ⟨z_someI ?_, rfl, rfl, rfl⟩) (fun q => absurd (c0.symm.trans q) (by decide)), h', FR.refl, Cst.refl⟩
      rw [l10.1, nI_clamp (by omega)]
      exact c1 x hx
  · refine ⟨S, I, e_X11_mapped (b_X11_mapped_0 hk ⟨_, _, _, _, c_isElement 0 x1 (by omega) h, b_X11_mapped_6 (fun z => absurd (zb_1.mp z).2 c) (fun _ => b_X11_mapped_9 ⟨z_someI (zq_f c).symm, rfl, rfl, rfl⟩)⟩), h, FR.refl, Cst.refl⟩
theorem NSt.fr1 {I0 : zI} (h : NSt S I0 a w n t iv st) (h1 : ∀ x, w ≤ x → x ≤ w + 11 → x ≠ w + 1 → I x = I0 x) (h2 : ∀ x, Dyn a x → I x = I0 x) : NSt S I a w n t iv st := by
  obtain ⟨I3, E3⟩ : ∃ I3, I3 = z_ur I (w + 1) (I0 (w + 1)) := ⟨_, rfl⟩
  have e3 : ∀ y, y ≠ w + 1 → I3 y = I y := fun y hy => by rw [E3, z_ur_row hy]
  have h3 : NSt S I3 a w n t iv st := h.fr (fun y q1 q2 => by
    by_cases e : y = w + 1
    · rw [e, E3]; funext j; exact z_ur_same
    · rw [e3 y e]; exact h1 y q1 q2 e) (fun y hy => by rw [e3 y (by have := hy.out; have := h.1; omega)]; exact h2 y hy)
  obtain ⟨q1, q2, q3, q4, q5, q6, q7, q8⟩ := h3
  have e5 := q2.2.2.1.1
  have e6 := q2.2.2.2.1.1
  have gd := q3.2.2.2.2.2.2.1.out
  have ew := e3 w (by omega)
  refine ⟨q1, q2, q3.fr (by rw [e3 _ (by omega)]) (fun y hy _ => (e3 y (by have := hy.out; omega)).symm), by rw [← ew]; exact q4, q5, q6, ?_, ?_⟩
  · rw [← ew]
    rcases q7 with q7 | ⟨m1, m2, m3, m4⟩
    · exact Or.inl q7
    · right
      unfold Msd
      rw [← ew, e5, e6, ← e3 (w + 2) (by omega), ← e3 (w + 3) (by omega)]
      rw [e5] at m2
      rw [e6] at m3
      exact ⟨m1, m2, m3, m4⟩
  · rw [← ew]
    rcases q8 with q8 | ⟨p1, p2⟩
    · exact Or.inl q8
    · exact Or.inr ⟨p1, Pnt.fr p2 (fun y g1 g2 => (e3 y (by omega)).symm)⟩
end C41

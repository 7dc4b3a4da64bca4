/-! THE CLASS: alike, other -/
section C44
variable {d a g w n s st : Nat} {t t' : Nat → Nat → Nat} {iv iv' : Nat → Nat} {A : Wst} {x : Slt} {γ γ' : Nat → Slt} {S S' S2 : zS} {I I' I2 : zI} {J J' J2 : zJ}
theorem i01_nm {N : Nat → Nat} {T : Nat → Nat → Nat → Nat} {V : Nat → Nat → Nat} {P : Nat → Nat} (hg : Grp (N 0) (T 0) (V 0)) (hg' : Grp (N 0) (T 1) (V 1)) (b : Nat) : I01 N T V P b = NM0 (N 0) (arc (N 0) (T 0) (P 0)) (arc (N 0) (T 1) b) := by
  funext φ
  exact propext ⟨fun h => ⟨(is_nm hg hg').mp h.1, h.2⟩, fun h => ⟨(is_nm hg hg').mpr h.1, h.2⟩⟩
theorem oks_okn {N : Nat → Nat} {T : Nat → Nat → Nat → Nat} {V : Nat → Nat → Nat} {P : Nat → Nat} (hg : Grp (N 0) (T 0) (V 0)) (hg' : Grp (N 0) (T 1) (V 1)) : OkS N T V P = OkN (N 0) (T 0) (T 1) (P 0) := by
  funext b
  unfold OkS OkN
  rw [i01_nm hg hg' b]
theorem c_alike (x1 : Int32) (hd : 28 < d) (h : CW S I J a A) (hf : SF S) : ∃ S' I', z_ev d i_X11_alike [.ref a, .int x1] S I J (some (.int (aAlike (fun s => (A.sl s).n) (fun s => (A.sl s).t) (fun s => (A.sl s).iv) (fun s => (A.sl s).st) x1))) S' I' J ∧ CW S' I' J a A ∧ FR a S I J S' I' J ∧ Cst 0 0 S S' := by
  obtain ⟨d, rfl⟩ := z_dep (d := d) (by omega)
  have hk := h.k
  have e20 : El 2 (0 : Int32) := ⟨0, by decide, rfl⟩
  rcases Classical.em (El (A.sl 0).n x1) with c | c
  · have e : aAlike (fun s => (A.sl s).n) (fun s => (A.sl s).t) (fun s => (A.sl s).iv) (fun s => (A.sl s).st) x1 = _ := zq_t c
    rw [e]
    have hel := c_isElement (d := d) 0 x1 (by omega) h
    have cc := c
    obtain ⟨x, hx, rfl⟩ := c
    obtain ⟨w0, a1, a2, a3, a4, _, a6⟩ := h.net (s := 0) (by decide)
    obtain ⟨w1, b1, b2, b3, b4, _, b6⟩ := h.net (s := 1) (by decide)
    have a2 : w0 = a + 20 := a2
    have b2 : w1 = a + 32 := b2
    subst a2
    subst b2
    have hg := a4.2.2.2.2.2.1
    have hg' := b4.2.2.2.2.2.1
    have hn := hg.le
    have h' := h
    obtain ⟨γ, h⟩ := h
    have h : CWg S I J a A γ := h
    have l11 := h.1.2.2.2.2.2.2.2.2.2.2.1
    have i71 : z_isI (z_kd S (z_rv S a 11)) = true ∧ vp_in (nI x) (z_ln S (z_rv S a 11)) := by rw [l11.kd, l11.ln]; exact ⟨rfl, vp_in_nI (by omega) (by decide)⟩
    rw [ix_nI (by omega)]
    have ev : zq ((A.sl 0).n = (A.sl 1).n) (lxa (A.sl 0).n (I01 (fun s => (A.sl s).n) (fun s => (A.sl s).t) (fun s => (A.sl s).iv) (fun s => (A.sl s).st) (A.sl 1).st) x) (-1) = zq ((A.sl 0).n = (A.sl 1).n) (lxa (A.sl 0).n (NM0 (A.sl 0).n (arc (A.sl 0).n (A.sl 0).t (A.sl 0).st) (arc (A.sl 0).n (A.sl 1).t (A.sl 1).st)) x) (-1) := by
      rcases Classical.em ((A.sl 0).n = (A.sl 1).n) with q | q
      · rw [zq_t q, zq_t q]
        have hg2 : Grp (A.sl 0).n (A.sl 1).t (A.sl 1).iv := by rw [q]; exact hg'
        rw [i01_nm (N := fun s => (A.sl s).n) (T := fun s => (A.sl s).t) (V := fun s => (A.sl s).iv) (P := fun s => (A.sl s).st) hg hg2]
      · rw [zq_f q, zq_f q]
    have head : ∀ (S' : zS) (I' : zI) (v : Int32), (¬ I a 14 = 0 → Go d i_X11_alike 47 [.ref a, .int (nI x)] [] S I J (z_eq (some (.int v)) S' I' J)) → (I a 14 = 0 → Go d i_X11_alike 19 [.ref a, .int (nI x)] [] S I J (z_eq (some (.int v)) S' I' J)) → z_ev (d + 1) i_X11_alike [.ref a, .int (nI x)] S I J (some (.int v)) S' I' J := fun S' I' v q1 q2 =>
      e_X11_alike (b_X11_alike_0 hk ⟨_, _, _, _, hel, b_X11_alike_6 (fun _ => b_X11_alike_12 hk q1 q2) (fun z => absurd ⟨e20, cc⟩ (zb_0.mp z))⟩)
    have hlast : ∀ {S' : zS} {I' : zI}, I' (a + 71) x = zq ((A.sl 0).n = (A.sl 1).n) (lxa (A.sl 0).n (NM0 (A.sl 0).n (arc (A.sl 0).n (A.sl 0).t (A.sl 0).st) (arc (A.sl 0).n (A.sl 1).t (A.sl 1).st)) x) (-1) → I' (a + 71) x = zq ((A.sl 0).n = (A.sl 1).n) (lxa (A.sl 0).n (I01 (fun s => (A.sl s).n) (fun s => (A.sl s).t) (fun s => (A.sl s).iv) (fun s => (A.sl s).st) (A.sl 1).st) x) (-1) := fun q => by rw [q, ev]
    rcases h.2.2.2.2.2.2.2.2.1 with c0 | ⟨c0, c1⟩
    · have n0 := h.2.2.1
      have n1 := h.2.2.2.1
      have hM := h.1.2.2.2.2.2.2.2.1
      obtain ⟨S1, I1, p1, p2, p3, p4, p5, p6, p7, p8⟩ := c_nfindFirst (d := d) (J := J) (by omega) hM.2 n0.2.2.1 n1.2.2.1 l11.2.1 l11.2.2
      have hX := p2.sh
      obtain ⟨I2, E2⟩ : ∃ I2, I2 = z_u2 I1 a 14 1 := ⟨_, rfl⟩
      have fo1 : ∀ y, y ≠ a → I2 y = I1 y := fun y q1 => by rw [E2, z_u2_row q1]
      have fo : ∀ y, y ≠ a → (y < a + 20 ∨ (a + 44 ≤ y ∧ y ≤ a + 52) ∨ (a + 57 ≤ y ∧ y ≠ a + 71)) → I2 y = I y := fun y q1 q2 => by rw [fo1 y q1, p3 y (by omega) (by omega) (by omega)]
      have fa : ∀ k, k ≠ 14 → I2 a k = I a k := fun k q => by rw [E2, z_u2_nk q, p3 a (by omega) (by omega) (by omega)]
      have f14 : I2 a 14 = 1 := by rw [E2, z_u2_same]
      have hk1 : z_kd S1 a = 12 := by rw [(p2.1 a).1]; exact hk
      have r11 : z_rv S1 a 11 = a + 71 := by rw [p2.2.2.1 a (by omega)]; exact l11.1
      have i71' : z_isI (z_kd S1 (z_rv S1 a 11)) = true ∧ vp_in (nI x) (z_ln S1 (z_rv S1 a 11)) := by rw [r11, (p2.1 _).1, (p2.1 _).2, l11.2.1, l11.2.2]; exact ⟨rfl, vp_in_nI (by omega) (by decide)⟩
      have hr : ∀ y, y ≠ a + 48 → y ≠ a + 53 → z_rv S1 y = z_rv S y := fun y _ q => p2.2.2.1 y q
      have r20 := hr (a + 20) (by omega) (by omega)
      have r32 := hr (a + 32) (by omega) (by omega)
      have c0' : CSl S1 I2 J a (a + 20) γ (A.sl 0) := by
        obtain ⟨k1, k2, k3, k4, k5⟩ := n0
        refine ⟨by rw [r20]; exact k1.sh hX, by rw [r20]; exact k2, p6.fr (fun y q1 q2 => fo1 y (by omega)) (fun y hy => fo1 y (by have := hy.out; omega)), ?_, ?_⟩
        · rw [show a + 20 + 1 = a + 21 from rfl, fo1 (a + 21) (by omega), p5.1]; exact k4
        · rw [fo1 (a + 20) (by omega), (p4 3 (by decide)).1]; exact k5
      have c1' : CSl S1 I2 J a (a + 32) γ (A.sl 1) := by
        obtain ⟨k1, k2, k3, k4, k5⟩ := n1
        refine ⟨by rw [r32]; exact k1.sh hX, by rw [r32]; exact k2, p7.fr (fun y q1 q2 => fo1 y (by omega)) (fun y hy => fo1 y (by have := hy.out; omega)), ?_, ?_⟩
        · rw [show a + 32 + 1 = a + 33 from rfl, fo1 (a + 33) (by omega), p5.2]; exact k4
        · rw [fo1 (a + 32) (by omega), (p4 3 (by decide)).2]; exact k5
      refine ⟨S1, I2, head S1 I2 _ (fun q => absurd c0 q) (fun _ => b_X11_alike_19 hk hk a6 hk b6 hk (by rw [hM.1]; exact hM.2.1) ?_), ⟨γ, h.scr hf hX hr (fun y => (p2.1 y).1) (fun y q1 q2 => fo y q1 (by omega)) ⟨fa 1 (by decide), fa 3 (by decide), fa 4 (by decide)⟩ ⟨?_, ?_, ?_⟩ c0' c1'⟩, fun y hy => ⟨hr y (by omega) (by omega), fo y (by omega) (by omega), rfl⟩, ⟨by rw [p2.2.1.2.1]; omega, by rw [p2.2.1.2.2]; omega⟩⟩
      · rw [show z_rv S (z_rv S a 5) (0 : Int32).toNatClampNeg = a + 20 from a1, show z_rv S (z_rv S a 5) (1 : Int32).toNatClampNeg = a + 32 from b1, hM.1, l11.1]
        refine ⟨_, _, _, _, p1, b_X11_alike_42 ⟨hk1, Or.inr rfl⟩ hk1 i71' ⟨z_someI ?_, rfl, E2.symm, rfl⟩⟩
        rw [← E2, r11, nI_clamp (by omega)]
        refine hlast (S' := S1) ?_
        rw [fo1 (a + 71) (by omega)]
        exact p8 x hx
      · rw [fa 13 (by decide), fo (a + 70) (by omega) (by omega)]; exact h.2.2.2.2.2.2.2.1
      · exact Or.inr ⟨f14, fun y hy => by rw [fo1 (a + 71) (by omega)]; exact p8 y hy⟩
      · rw [fa 15 (by decide), fa 12 (by decide)]; exact h.2.2.2.2.2.2.2.2.2
    · refine ⟨S, I, head S I _ (fun _ => b_X11_alike_47 hk i71 ⟨z_someI ?_, rfl, rfl, rfl⟩) (fun q => absurd (c0.symm.trans q) (by decide)), h', FR.refl, Cst.refl⟩
      rw [l11.1, nI_clamp (by omega)]
      exact hlast (S' := S) (c1 x hx)
  · refine ⟨S, I, e_X11_alike (b_X11_alike_0 hk ⟨_, _, _, _, c_isElement 0 x1 (by omega) h, b_X11_alike_6 (fun z => absurd (zb_1.mp z).2 c) (fun _ => b_X11_alike_9 ⟨z_someI (zq_f c).symm, rfl, rfl, rfl⟩)⟩), h, FR.refl, Cst.refl⟩
theorem c_other (hd : 32 < d) (h : CW S I J a A) (hf : SF S) : ∃ S' I', z_ev d i_X11_other [.ref a] S I J (some (.int (aOther (fun s => (A.sl s).n) (fun s => (A.sl s).t) (fun s => (A.sl s).iv) (fun s => (A.sl s).st)))) S' I' J ∧ CW S' I' J a A ∧ FR a S I J S' I' J ∧ Cst 0 0 S S' := by
  obtain ⟨d, rfl⟩ := z_dep (d := d) (by omega)
  have hk := h.k
  obtain ⟨w0, a1, a2, a3, a4, _, a6⟩ := h.net (s := 0) (by decide)
  obtain ⟨w1, b1, b2, b3, b4, _, b6⟩ := h.net (s := 1) (by decide)
  obtain ⟨t1, t2, t3⟩ := h.st (s := 0) (by decide)
  have a2 : w0 = a + 20 := a2
  have b2 : w1 = a + 32 := b2
  subst a2
  subst b2
  have hg := a4.2.2.2.2.2.1
  have hg' := b4.2.2.2.2.2.1
  have hn := hg.le
  have hn' := hg'.le
  have a1' : z_rv S (z_rv S a 5) (0 : Int32).toNatClampNeg = a + 20 := a1
  have b1' : z_rv S (z_rv S a 5) (1 : Int32).toNatClampNeg = a + 32 := b1
  have head : ∀ (S' : zS) (I' : zI) (v : Int32), ((A.sl 0).n = (A.sl 1).n → Go d i_X11_other 30 [.ref a] [] S I J (z_eq (some (.int v)) S' I' J)) → (¬ (A.sl 0).n = (A.sl 1).n → Go d i_X11_other 27 [.ref a] [] S I J (z_eq (some (.int v)) S' I' J)) → z_ev (d + 1) i_X11_other [.ref a] S I J (some (.int v)) S' I' J := fun S' I' v q1 q2 => by
    refine e_X11_other (b_X11_other_0 hk a6 (by rw [a1']; exact a3) (by rw [a1']; exact a4.1.1) hk b6 (by rw [b1']; exact b3) (by rw [b1']; exact b4.1.1) (fun z => q1 ?_) (fun z => q2 (fun z2 => z ?_)))
    · rw [a1', b1', a4.1.2.1, b4.1.2.1, nI_eq (by omega) (by omega)] at z
      exact z
    · rw [a1', b1', a4.1.2.1, b4.1.2.1, z2]
  rcases Classical.em ((A.sl 0).n = (A.sl 1).n) with c | c
  · have e : aOther (fun s => (A.sl s).n) (fun s => (A.sl s).t) (fun s => (A.sl s).iv) (fun s => (A.sl s).st) = _ := zq_t c
    have hg2 : Grp (A.sl 0).n (A.sl 1).t (A.sl 1).iv := by rw [c]; exact hg'
    rw [e, oks_okn (N := fun s => (A.sl s).n) (T := fun s => (A.sl s).t) (V := fun s => (A.sl s).iv) (P := fun s => (A.sl s).st) hg hg2]
    have hbc : ∀ {Q : zQ}, ((zc (A.sl 0).n (A.sl 0).st ≤ 4) → Go d i_X11_other 49 [.ref a] [] S I J Q) → (¬ (zc (A.sl 0).n (A.sl 0).st ≤ 4) → Go d i_X11_other 46 [.ref a] [] S I J Q) → Go d i_X11_other 30 [.ref a] [] S I J Q := fun {Q} q1 q2 => by
      have hz := zc_le (A.sl 0).n (A.sl 0).st
      refine b_X11_other_30 hk a6 (by rw [a1']; exact a3) ?_
      rw [a1', show I (a + 20) 1 = nI (A.sl 0).st from t1]
      refine ⟨_, _, _, _, ev_bitCount (by omega) (z_lt24 hn t2), ?_⟩
      rw [zc24 hn t2]
      refine b_X11_other_42 (fun z => q1 ?_) (fun z => q2 (fun z2 => z (nI_le z2 (by decide))))
      rw [z_lit 4, nI_leI (by omega) (by decide)] at z
      exact z
    rcases Classical.em (zc (A.sl 0).n (A.sl 0).st ≤ 4) with c2 | c2
    · rw [zq_t c2]
      have h' := h
      obtain ⟨γ, h⟩ := h
      have h : CWg S I J a A γ := h
      rcases h.2.2.2.2.2.2.2.2.2 with c0 | ⟨c0, c1⟩
      · have n0 := h.2.2.1
        have hM := h.1.2.2.2.2.2.2.2.1
        have hO := h.1.2.2.2.2.2.2.2.2.1
        have b5 : GO S I a (z_rv S (a + 32) 0) (A.sl 0).n (A.sl 1).t (A.sl 1).iv := by rw [c]; exact b4
        obtain ⟨S1, I1, p1, p2, p3, p4, p5⟩ := c_leastSet (d := d) (J := J) (by omega) rfl hO.2 hM.2 n0.2.2.1 b5 c2
        have hX := p2.sh
        obtain ⟨v, Ev⟩ : ∃ v, v = zq (∃ B, OkN (A.sl 0).n (A.sl 0).t (A.sl 1).t (A.sl 0).st B) (nI (zleast (OkN (A.sl 0).n (A.sl 0).t (A.sl 1).t (A.sl 0).st))) (-1) := ⟨_, rfl⟩
        rw [← Ev] at p1
        show ∃ S' I', z_ev (d + 1) i_X11_other [.ref a] S I J (some (.int (zq (∃ B, OkN (A.sl 0).n (A.sl 0).t (A.sl 1).t (A.sl 0).st B) (nI (zleast (OkN (A.sl 0).n (A.sl 0).t (A.sl 1).t (A.sl 0).st))) (-1)))) S' I' J ∧ _
        rw [← Ev]
        obtain ⟨I2, E2⟩ : ∃ I2, I2 = z_u2 (z_u2 I1 a 12 v) a 15 1 := ⟨_, rfl⟩
        have fo1 : ∀ y, y ≠ a → I2 y = I1 y := fun y q1 => by rw [E2, z_u2_row q1, z_u2_row q1]
        have fo : ∀ y, y ≠ a → (y < a + 20 ∨ (a + 32 ≤ y ∧ y ≤ a + 52) ∨ a + 70 ≤ y ∨ y = a + 21) → I2 y = I y := fun y q1 q2 => by rw [fo1 y q1, p3 y (by omega) (by unfold Oc; omega) (by omega)]
        have fa : ∀ k, k ≠ 12 → k ≠ 15 → I2 a k = I a k := fun k q q' => by rw [E2, z_u2_nk q', z_u2_nk q, p3 a (by omega) (by unfold Oc; omega) (by omega)]
        have f15 : I2 a 15 = 1 := by rw [E2, z_u2_same]
        have f12 : I2 a 12 = v := by rw [E2, z_u2_nk (by decide), z_u2_same]
        have hk1 : z_kd S1 a = 12 := by rw [(p2.1 a).1]; exact hk
        have hr : ∀ y, y ≠ a + 48 → y ≠ a + 53 → z_rv S1 y = z_rv S y := fun y _ q => p2.2.2.1 y q
        have r20 := hr (a + 20) (by omega) (by omega)
        have r32 := hr (a + 32) (by omega) (by omega)
        have c0' : CSl S1 I2 J a (a + 20) γ (A.sl 0) := by
          obtain ⟨k1, k2, k3, k4, k5⟩ := n0
          refine ⟨by rw [r20]; exact k1.sh hX, by rw [r20]; exact k2, p5.fr (fun y q1 q2 => fo1 y (by omega)) (fun y hy => fo1 y (by have := hy.out; omega)), ?_, ?_⟩
          · rw [show a + 20 + 1 = a + 21 from rfl, fo (a + 21) (by omega) (by omega)]; exact k4
          · rw [fo1 (a + 20) (by omega), p4 3 (by decide)]; exact k5
        have c1' : CSl S1 I2 J a (a + 32) γ (A.sl 1) := by
          have n1 := h.2.2.2.1
          have go := n1.1.1.out
          exact n1.mv hf hX (by rw [r32]) (fun y q1 q2 => fo y (by omega) (by omega)) (by rw [fo _ (by omega) (by omega)]) (fun y _ hy _ => fo y (by have := hy.out; omega) (by have := hy.out; omega)) rfl rfl
        refine ⟨S1, I2, head S1 I2 _ (fun _ => hbc (fun _ => b_X11_other_49 hk (fun q => absurd c0 q) (fun _ => b_X11_other_56 hk hk a6 hk b6 (by rw [b1']; exact b3) hk (by rw [hO.1]; exact hO.2.1) ?_)) (fun q => absurd c2 q)) (fun q => absurd c q), ⟨γ, h.scr hf hX hr (fun y => (p2.1 y).1) (fun y q1 q2 => fo y q1 (by omega)) ⟨fa 1 (by decide) (by decide), fa 3 (by decide) (by decide), fa 4 (by decide) (by decide)⟩ ⟨?_, ?_, ?_⟩ c0' c1'⟩, fun y hy => ⟨hr y (by omega) (by omega), fo y (by omega) (by omega), rfl⟩, ⟨by rw [p2.2.1.2.1]; omega, by rw [p2.2.1.2.2]; omega⟩⟩
        · rw [a1', b1', hO.1, hM.1]
          refine ⟨_, _, _, _, p1, b_X11_other_83 hk1 ⟨hk1, Or.inr rfl⟩ hk1 ⟨z_someI ?_, rfl, E2.symm, rfl⟩⟩
          rw [← E2]; exact f12
        · rw [fa 13 (by decide) (by decide), fo (a + 70) (by omega) (by omega)]; exact h.2.2.2.2.2.2.2.1
        · rw [fa 14 (by decide) (by decide), fo (a + 71) (by omega) (by omega)]; exact h.2.2.2.2.2.2.2.2.1
        · exact Or.inr ⟨f15, by rw [f12]; exact Ev⟩
      · refine ⟨S, I, head S I _ (fun _ => hbc (fun _ => b_X11_other_49 hk (fun _ => b_X11_other_91 hk ⟨z_someI c1, rfl, rfl, rfl⟩) (fun q => absurd (c0.symm.trans q) (by decide))) (fun q => absurd c2 q)) (fun q => absurd c q), h', FR.refl, Cst.refl⟩
    · rw [zq_f c2]
      exact ⟨S, I, head S I _ (fun _ => hbc (fun q => absurd q c2) (fun _ => b_X11_other_46 ⟨rfl, rfl, rfl, rfl⟩)) (fun q => absurd c q), h, FR.refl, Cst.refl⟩
  · have e : aOther (fun s => (A.sl s).n) (fun s => (A.sl s).t) (fun s => (A.sl s).iv) (fun s => (A.sl s).st) = _ := zq_f c
    rw [e]
    exact ⟨S, I, head S I _ (fun q => absurd q c) (fun _ => b_X11_other_27 ⟨rfl, rfl, rfl, rfl⟩), h, FR.refl, Cst.refl⟩
end C44

/-! THE CLASS: its invariant where the shape changes -/
/-- references that calls may change -/
def Lse (S : zS) (a h k : Nat) : Prop := (h = a + 2 ∧ k = 2) ∨ h = a + 46 ∨ (h = a + 20 ∧ k = 0) ∨ (h = a + 32 ∧ k = 0) ∨ (h = a + 48 ∧ k < 4) ∨ (h = a + 53 ∧ k < 2) ∨ (z_kd S h = 2 ∧ k = 10)
def SH (a : Nat) (S S' : zS) : Prop := z_sz S ≤ z_sz S' ∧ (∀ h, h ≤ z_sz S → z_kd S' h = z_kd S h ∧ z_ln S' h = z_ln S h) ∧ ∀ h k, h ≤ z_sz S → ¬ Lse S a h k → z_rv S' h k = z_rv S h k
def CWg (S : zS) (I : zI) (J : zJ) (a : Nat) (A : Wst) (γ : Nat → Slt) : Prop := CLay S a ∧ (∀ h, IsG S a h → GC S I a h (γ h)) ∧ CSl S I J a (a + 20) γ (A.sl 0) ∧ CSl S I J a (a + 32) γ (A.sl 1) ∧ CHi S I a γ A ∧ (I a 1 = nI A.tl ∧ ∀ j, j < A.tl → I (a + 1) j = A.tp j) ∧ (I a 3 = A.fa ∧ I a 4 = A.pl) ∧ CKn I a A
section C37
variable {d a g w n : Nat} {A : Wst} {x : Slt} {N : Nm} {γ γ' : Nat → Slt} {S S' S2 : zS} {I I' : zI} {J J' : zJ}
theorem SF.le (hf : SF S) {h k : Nat} (hk : z_kd S h = k) (h0 : k ≠ 0) : h ≤ z_sz S := by
  rcases Nat.lt_or_ge (z_sz S) h with q | q
  · rw [hf h q] at hk; exact absurd hk.symm h0
  · exact q
theorem SF.isI (hf : SF S) {h : Nat} (hk : z_isI (z_kd S h) = true) : h ≤ z_sz S := by
  rcases Nat.lt_or_ge (z_sz S) h with q | q
  · rw [hf h q] at hk; cases hk
  · exact q
theorem SH.refl : SH a S S := ⟨Nat.le_refl _, fun _ _ => ⟨rfl, rfl⟩, fun _ _ _ _ => rfl⟩
theorem SH.trans (h : SH a S S') (h' : SH a S' S2) : SH a S S2 := by
  refine ⟨Nat.le_trans h.1 h'.1, fun y hy => ?_, fun y k hy hl => ?_⟩
  · have q := h'.2.1 y (Nat.le_trans hy h.1)
    exact ⟨by rw [q.1, (h.2.1 y hy).1], by rw [q.2, (h.2.1 y hy).2]⟩
  · rw [h'.2.2 y k (Nat.le_trans hy h.1) (by unfold Lse; rw [(h.2.1 y hy).1]; exact hl), h.2.2 y k hy hl]
theorem SN.sh (h : SN S S' (a + 53)) : SH a S S' := by
  refine ⟨by rw [h.2.1.1]; exact Nat.le_refl _, fun y _ => h.1 y, fun y k _ hl => ?_⟩
  by_cases e : y = a + 53
  · rw [e]; exact h.2.2.2 k (by unfold Lse at hl; omega)
  · rw [h.2.2.1 y e]
theorem SQ.sh (h : SQ S S' (a + 48)) : SH a S S' := by
  refine ⟨by rw [h.2.1.1]; exact Nat.le_refl _, fun y _ => h.1 y, fun y k _ hl => ?_⟩
  by_cases e : y = a + 48
  · rw [e]; exact h.2.2.2 k (by unfold Lse at hl; omega)
  · rw [h.2.2.1 y e]
theorem SH.kd (h : SH a S S') (hf : SF S) {y k : Nat} (hk : z_kd S y = k) (h0 : k ≠ 0) : z_kd S' y = k := by
  rw [(h.2.1 y (hf.le hk h0)).1]; exact hk
theorem SH.ar (h : SH a S S') (hf : SF S) {y k b kd ln kk : Nat} (hy : z_kd S y = kk) (h1 : kk ≠ 0) (hl : ¬ Lse S a y k) (h0 : kd ≠ 0) (q : Ar S y k b kd ln) : Ar S' y k b kd ln := by
  obtain ⟨q1, q2, q3⟩ := q
  refine ⟨by rw [h.2.2 y k (hf.le hy h1) hl]; exact q1, h.kd hf q2 h0, ?_⟩
  rw [(h.2.1 b (hf.le q2 h0)).2]; exact q3
theorem SH.rv (h : SH a S S') (hf : SF S) {y k b kk : Nat} (hy : z_kd S y = kk) (h1 : kk ≠ 0) (hl : ¬ Lse S a y k) (q : z_rv S y k = b) : z_rv S' y k = b := by
  rw [h.2.2 y k (hf.le hy h1) hl]; exact q
theorem nLse (h1 : ¬ (g = a + 2 ∧ n = 2)) (h2 : ¬ g = a + 46) (h3 : ¬ ((g = a + 20 ∨ g = a + 32) ∧ n = 0)) (h4 : ¬ (g = a + 48 ∧ n < 4)) (h5 : ¬ (g = a + 53 ∧ n < 2)) (h6 : ¬ (z_kd S g = 2 ∧ n = 10)) : ¬ Lse S a g n := by
  unfold Lse
  omega
theorem KL.sh (h : KL S w) (hX : SH a S S') (hf : SF S) (hw : (a + 20 ≤ w ∧ w ≤ a + 45) ∨ (a + 57 ≤ w ∧ w ≤ a + 70)) (hw0 : w ≠ a + 20 ∧ w ≠ a + 32) : KL S' w := by
  obtain ⟨l1, l2, l3, l4, l5, l6, l7, l8⟩ := h
  have nl : ∀ k, ¬ Lse S a w k := fun k => by unfold Lse; rw [l1]; omega
  exact ⟨hX.kd hf l1 (by decide), hX.ar hf l1 (by decide) (nl _) (by decide) l2, hX.ar hf l1 (by decide) (nl _) (by decide) l3, hX.ar hf l1 (by decide) (nl _) (by decide) l4, hX.ar hf l1 (by decide) (nl _) (by decide) l5, hX.ar hf l1 (by decide) (nl _) (by decide) l6, hX.ar hf l1 (by decide) (nl _) (by decide) l7, hX.ar hf l1 (by decide) (nl _) (by decide) l8⟩
theorem NLay.sh (h : NLay S w) (hX : SH a S S') (hf : SF S) (hw : w = a + 20 ∨ w = a + 32) : NLay S' w := by
  obtain ⟨l1, l2, l3, l4, l5, l6⟩ := h
  have nl : ∀ k, k ≠ 0 → ¬ Lse S a w k := fun k hk => by unfold Lse; rw [l1]; omega
  exact ⟨hX.kd hf l1 (by decide), hX.ar hf l1 (by decide) (nl _ (by decide)) (by decide) l2, hX.ar hf l1 (by decide) (nl _ (by decide)) (by decide) l3, hX.ar hf l1 (by decide) (nl _ (by decide)) (by decide) l4, hX.rv hf l1 (by decide) (nl _ (by decide)) l5, l6.sh hX hf (by omega) (by omega)⟩
theorem RLay.sh (h : RLay S a) (hX : SH a S S') (hf : SF S) : RLay S' a := by
  obtain ⟨l1, l2, l3, ⟨b1, b2, b3, b4, b5, b6⟩, l5, l6, l7, l8⟩ := h
  have n2 : ∀ k, k ≠ 2 → ¬ Lse S a (a + 2) k := fun k hk => by unfold Lse; rw [l1]; omega
  have n3 : ∀ k, ¬ Lse S a (a + 3) k := fun k => by unfold Lse; rw [b1]; omega
  have n9 : ∀ k, ¬ Lse S a (a + 9) k := fun k => by unfold Lse; rw [l5]; omega
  refine ⟨hX.kd hf l1 (by decide), hX.rv hf l1 (by decide) (n2 _ (by decide)) l2, hX.rv hf l1 (by decide) (n2 _ (by decide)) l3, ⟨hX.kd hf b1 (by decide), hX.ar hf b1 (by decide) (n3 _) (by decide) b2, hX.ar hf b1 (by decide) (n3 _) (by decide) b3, hX.ar hf b1 (by decide) (n3 _) (by decide) b4, hX.ar hf b1 (by decide) (n3 _) (by decide) b5, hX.ar hf b1 (by decide) (n3 _) (by decide) b6⟩, hX.kd hf l5 (by decide), hX.rv hf l5 (by decide) (n9 _) l6, hX.kd hf l7 (by decide), ?_⟩
  rw [(hX.2.1 _ (hf.le l7 (by decide))).2]; exact l8
theorem CLay.sh (h : CLay S a) (hX : SH a S S') (hf : SF S) : CLay S' a := by
  obtain ⟨l1, l2, l3, l4, ⟨l5, l6⟩, ⟨l7, l8⟩, ⟨l9, l10⟩, ⟨l11, l12⟩, ⟨l13, l14⟩, l15, l16, l17, l18⟩ := h
  have na : ∀ k, ¬ Lse S a a k := fun k => by unfold Lse; rw [l1]; omega
  have k5 := l4.2.1
  have nk : ∀ k, ¬ Lse S a (a + 19) k := fun k => by unfold Lse; rw [k5]; omega
  obtain ⟨p1, p2, p3, p4⟩ := l8
  have n44 : ∀ k, ¬ Lse S a (a + 44) k := fun k => by unfold Lse; rw [p1]; omega
  obtain ⟨q1, q2, q3, q4, q5⟩ := l10
  have n48 : ∀ k, 4 ≤ k → ¬ Lse S a (a + 48) k := fun k hk => by unfold Lse; rw [q1]; omega
  obtain ⟨r1, r2, r3, r4⟩ := l12
  have n53 : ∀ k, 2 ≤ k → ¬ Lse S a (a + 53) k := fun k hk => by unfold Lse; rw [r1]; omega
  obtain ⟨o1, o2, o3, o4, o5, o6, o7⟩ := l14
  have n57 : ∀ k, ¬ Lse S a (a + 57) k := fun k => by unfold Lse; rw [o1]; omega
  have ra : ∀ {k b : Nat}, z_rv S a k = b → z_rv S' a k = b := fun q => hX.rv hf l1 (by decide) (na _) q
  refine ⟨hX.kd hf l1 (by decide), hX.ar hf l1 (by decide) (na _) (by decide) l2, ⟨ra l3.1, l3.2.sh hX hf⟩, hX.ar hf l1 (by decide) (na _) (by decide) l4, ⟨hX.rv hf k5 (by decide) (nk _) l5, hX.rv hf k5 (by decide) (nk _) l6⟩, ⟨ra l7, hX.kd hf p1 (by decide), hX.ar hf p1 (by decide) (n44 _) (by decide) p2, hX.ar hf p1 (by decide) (n44 _) (by decide) p3, hX.ar hf p1 (by decide) (n44 _) (by decide) p4⟩, ⟨ra l9, hX.kd hf q1 (by decide), hX.ar hf q1 (by decide) (n48 _ (by decide)) (by decide) q2, hX.ar hf q1 (by decide) (n48 _ (by decide)) (by decide) q3, hX.ar hf q1 (by decide) (n48 _ (by decide)) (by decide) q4, hX.ar hf q1 (by decide) (n48 _ (by decide)) (by decide) q5⟩, ⟨ra l11, hX.kd hf r1 (by decide), hX.ar hf r1 (by decide) (n53 _ (by decide)) (by decide) r2, hX.ar hf r1 (by decide) (n53 _ (by decide)) (by decide) r3, hX.ar hf r1 (by decide) (n53 _ (by decide)) (by decide) r4⟩, ⟨ra l13, hX.kd hf o1 (by decide), hX.ar hf o1 (by decide) (n57 _) (by decide) o2, hX.ar hf o1 (by decide) (n57 _) (by decide) o3, hX.ar hf o1 (by decide) (n57 _) (by decide) o4, hX.ar hf o1 (by decide) (n57 _) (by decide) o5, hX.rv hf o1 (by decide) (n57 _) o6, o7.sh hX hf (by omega) (by omega)⟩, hX.ar hf l1 (by decide) (na _) (by decide) l15, hX.ar hf l1 (by decide) (na _) (by decide) l16, l17.sh hX hf (by omega), l18.sh hX hf (by omega)⟩
theorem IsG.sh (h : IsG S a g) (hX : SH a S S') : IsG S' a g := ⟨h.1, Nat.le_trans h.2.1 hX.1, by rw [(hX.2.1 g h.2.1).1]; exact h.2.2⟩
theorem IsG.hs (h : IsG S' a g) (hX : SH a S S') (hg : g ≤ z_sz S) : IsG S a g := ⟨h.1, hg, by rw [← (hX.2.1 g hg).1]; exact h.2.2⟩
/-- a Group keeps what it is -/
theorem GO.mv (h : GO S I a g n x.t x.iv) (hf : SF S) (hX : SH a S S') (h0 : I' g 0 = I g 0) (hF : ∀ y, y ≤ z_sz S → Dyn a y → z_kd S y ≠ 2 → I' y = I y) : GO S' I' a g n x.t x.iv := by
  obtain ⟨⟨c1, c2, c3, c4, c5, c6⟩, h2, h3, h4, h5, h6, h7, h8⟩ := h
  have nl : ∀ k, k ≠ 10 → ¬ Lse S a g k := fun k hk => by unfold Lse; unfold Dyn at h7; omega
  have hr : ∀ k, k ≠ 10 → z_rv S' g k = z_rv S g k := fun k hk => hX.2.2 g k (hf.le c1 (by decide)) (nl k hk)
  have rw1 : ∀ {y : Nat}, Dyn a y → z_kd S y = 100 → I' y = I y := fun hy hk => hF _ (hf.le hk (by decide)) hy (by omega)
  have cr : ∀ {k : Nat} {f : Nat → Nat}, k ≠ 10 → 1 ≤ k → k ≤ 5 → CR S I g k n f → CR S' I' g k n f := fun {k f} e e1 e2 q => by
    obtain ⟨q1, q2, q3⟩ := q
    have hl := hf.le q1 (by decide)
    refine ⟨by rw [hr k e]; exact hX.kd hf q1 (by decide), by rw [hr k e, (hX.2.1 _ hl).2]; exact q2, fun y hy => ?_⟩
    rw [hr k e, rw1 (h8 k e1 e2) q1]; exact q3 y hy
  refine ⟨⟨hX.kd hf c1 (by decide), by rw [h0]; exact c2, c3, by rw [hr 1 (by decide)]; exact hX.kd hf c4 (by decide), ?_, fun u hu v hv => ?_⟩, cr (by decide) (by decide) (by decide) h2, cr (by decide) (by decide) (by decide) h3, cr (by decide) (by decide) (by decide) h4, cr (by decide) (by decide) (by decide) h5, h6, h7, fun k k1 k2 => by rw [hr k (by omega)]; exact h8 k k1 k2⟩
  · rw [hr 1 (by decide), (hX.2.1 _ (hf.le c4 (by decide))).2]; exact c5
  · rw [hr 1 (by decide), rw1 (h8 1 (by decide) (by decide)) c4]; exact c6 u hu v hv
theorem GC.mv (h : GC S I a g x) (hf : SF S) (hX : SH a S S') (h0 : ∀ k, k ≠ 9 → k ≠ 10 → k ≠ 11 → I' g k = I g k) (hF : ∀ y, y ≤ z_sz S → Kpt S a y → z_kd S y ≠ 2 → I' y = I y) (h9 : I' g 9 = 0 ∨ I' g 9 = nI (crdn (GM x.n x.t x.t))) (h10 : z_rv S' g 10 = 0 ∨ (SubOk S' I' g x.n x.t ∧ Dyn a (z_rv S' g 10))) : GC S' I' a g x := by
  obtain ⟨hgo, hc, ⟨k6, k7, k1, k0⟩, _, _⟩ := h
  have gk := hgo.1.1
  have gd := hgo.2.2.2.2.2.2.1
  have nl : ∀ k, k ≠ 10 → ¬ Lse S a g k := fun k hk => by unfold Lse; unfold Dyn at gd; omega
  have hr : ∀ k, k ≠ 10 → z_rv S' g k = z_rv S g k := fun k hk => hX.2.2 g k (hf.le gk (by decide)) (nl k hk)
  obtain ⟨c1, c2, ⟨c3, c4, c5, c6⟩, c7, c8, c9⟩ := hc
  have n6 : ∀ k, ¬ Lse S a (z_rv S g 6) k := fun k => by unfold Lse; rw [c2]; unfold Dyn at k6; omega
  have r6 : ∀ k, z_rv S' (z_rv S g 6) k = z_rv S (z_rv S g 6) k := fun k => hX.2.2 _ k (hf.le c2 (by decide)) (n6 k)
  have i6 : I' (z_rv S g 6) = I (z_rv S g 6) := hF _ (hf.le c2 (by decide)) (Or.inl k6) (by omega)
  have i7 : I' (z_rv S g 7) = I (z_rv S g 7) := hF _ (hf.le c3 (by decide)) (Or.inl k7) (by omega)
  have l7 := hX.2.1 _ (hf.le c3 (by decide))
  have kp : ∀ {y : Nat}, z_isI (z_kd S y) = true → Kpt S a y → Kpt S' a y ∧ z_kd S' y = z_kd S y ∧ z_ln S' y = z_ln S y ∧ I' y = I y := fun {y} q1 q2 => by
    have hl := hf.isI q1
    have q3 := hX.2.1 y hl
    refine ⟨?_, q3.1, q3.2, hF y hl q2 (fun e => by rw [e] at q1; cases q1)⟩
    rcases q2 with q2 | q2
    · exact Or.inl q2
    · right; rw [q3.1]; exact q2
  refine ⟨GO.mv (x := x) hgo hf hX (h0 0 (by decide) (by decide) (by decide)) (fun y hy hd hk => hF y hy (Or.inl hd) hk), ?_, ?_, h9, h10⟩
  · unfold CNm
    rw [hr 6 (by decide), hr 7 (by decide), r6 1, r6 0, i6, i7, l7.1, l7.2, h0 8 (by decide) (by decide) (by decide), hX.kd hf c2 (by decide)]
    refine ⟨c1, rfl, ⟨c3, c4, c5, c6⟩, c7, fun q => ?_, fun q => ?_⟩
    · have b := c8 q
      obtain ⟨_, w1, w2, w3⟩ := kp b.2.1 (k1 q)
      rw [w1, w2, w3]; exact b
    · have b := c9 q
      obtain ⟨_, w1, w2, w3⟩ := kp b.2.1 (k0 q)
      rw [w1, w2, w3]; exact b
  · rw [hr 6 (by decide), hr 7 (by decide), r6 1, r6 0]
    exact ⟨k6, k7, fun q => (kp (c8 q).2.1 (k1 q)).1, fun q => (kp (c9 q).2.1 (k0 q)).1⟩
/-- a Group that nobody touched -/
theorem GC.st (h : GC S I a g x) (hf : SF S) (hX : SH a S S') (h0 : I' g = I g) (hF : ∀ y, y ≤ z_sz S → Kpt S a y → z_kd S y ≠ 2 → I' y = I y) (h10 : z_rv S' g 10 = z_rv S g 10) : GC S' I' a g x := by
  refine h.mv hf hX (fun k _ _ _ => by rw [h0]) hF (by rw [h0]; exact h.2.2.2.1) ?_
  rcases h.2.2.2.2 with q | ⟨⟨s1, s2, s3, s4⟩, s5⟩
  · exact Or.inl (by rw [h10]; exact q)
  · right
    have hl := hf.le s1 (by decide)
    refine ⟨⟨by rw [h10]; exact hX.kd hf s1 (by decide), by rw [h10, (hX.2.1 _ hl).2]; exact s2, by rw [h0]; exact s3, fun k hk => ?_⟩, by rw [h10]; exact s5⟩
    rw [h10, hF _ hl (Or.inl s5) (by omega)]; exact s4 k hk
theorem NSt.mv {st : Nat} (h : NSt S I a w n x.t x.iv st) (hf : SF S) (hX : SH a S S') (h0 : z_rv S' w 0 = z_rv S w 0) (hw : ∀ y, w ≤ y → y ≤ w + 11 → I' y = I y) (hg0 : I' (z_rv S w 0) 0 = I (z_rv S w 0) 0) (hF : ∀ y, y ≤ z_sz S → Dyn a y → z_kd S y ≠ 2 → I' y = I y) : NSt S' I' a w n x.t x.iv st := by
  obtain ⟨q1, q2, q3, q4, q5, q6, q7, q8⟩ := h
  have e5 := q2.2.2.1.1
  have e6 := q2.2.2.2.1.1
  have L' := q2.sh hX hf q1
  have e5' := L'.2.2.1.1
  have e6' := L'.2.2.2.1.1
  refine ⟨q1, L', by rw [h0]; exact GO.mv (x := x) q3 hf hX hg0 hF, by rw [hw w (by omega) (by omega)]; exact q4, q5, q6, ?_, ?_⟩
  · rw [hw w (by omega) (by omega)]
    rcases q7 with q7 | ⟨m1, m2, m3, m4⟩
    · exact Or.inl q7
    · right
      rw [e5] at m2
      rw [e6] at m3
      refine ⟨by rw [hw w (by omega) (by omega)]; exact m1, fun y hy => by rw [e5', hw _ (by omega) (by omega)]; exact m2 y hy, fun y hy => by rw [e6', hw _ (by omega) (by omega)]; exact m3 y hy, ?_⟩
      rw [hw w (by omega) (by omega)]; exact m4
  · rw [hw w (by omega) (by omega)]
    rcases q8 with q8 | ⟨p1, p2⟩
    · exact Or.inl q8
    · exact Or.inr ⟨p1, Pnt.fr p2 (fun y g1 g2 => hw y (by omega) (by omega))⟩
theorem CSl.mv (h : CSl S I J a w γ x) (hf : SF S) (hX : SH a S S') (h0 : z_rv S' w 0 = z_rv S w 0) (hw : ∀ y, w ≤ y → y ≤ w + 11 → I' y = I y) (hg0 : I' (z_rv S w 0) 0 = I (z_rv S w 0) 0) (hF : ∀ y, y ≤ z_sz S → Dyn a y → z_kd S y ≠ 2 → I' y = I y) (hγ : γ' (z_rv S w 0) = γ (z_rv S w 0)) (hJ : J' w 2 = J w 2) : CSl S' I' J' a w γ' x := by
  obtain ⟨c1, c2, c3, c4, c5⟩ := h
  refine ⟨by rw [h0]; exact c1.sh hX, by rw [h0, hγ]; exact c2, NSt.mv (x := x) c3 hf hX h0 hw hg0 hF, ?_, ?_⟩
  · rw [hJ, hw (w + 1) (by omega) (by omega)]; exact c4
  · rw [hw w (by omega) (by omega)]; exact c5
theorem CHi.mv (h : CHi S I a γ A) (hX : SH a S S') (hI : ∀ y, a + 44 ≤ y → y ≤ a + 47 → I' y = I y) (h46 : z_rv S' (a + 46) = z_rv S (a + 46)) (hγ : ∀ y, y ≤ z_sz S → γ' y = γ y) : CHi S' I' a γ' A := by
  obtain ⟨nx, h1, h2, h3, h4⟩ := h
  refine ⟨nx, h1, by rw [hI _ (by omega) (by omega)]; exact h2, by rw [hI _ (by omega) (by omega)]; exact h3, fun k hk => ?_⟩
  obtain ⟨p1, p2, p3, p4⟩ := h4 k hk
  rw [hI (a + 45) (by omega) (by omega), hI (a + 47) (by omega) (by omega), h46]
  exact ⟨p1, p2.sh hX, by rw [hγ _ p2.2.1]; exact p3, p4⟩
end C37

/-! THE CLASS: size, subgroup -/
/-- outside the class's cells nothing changes -/
def FR (a : Nat) (S : zS) (I : zI) (J : zJ) (S' : zS) (I' : zI) (J' : zJ) : Prop := ∀ y, y < a ∨ (a + 72 ≤ y ∧ y ≤ a + 88) → z_rv S' y = z_rv S y ∧ I' y = I y ∧ J' y = J y
/-- what is made at most -/
def Cst (c l : Nat) (S S' : zS) : Prop := z_ce S' ≤ z_ce S + c ∧ z_sl S' ≤ z_sl S + l
section C38
variable {d a g w n s : Nat} {A : Wst} {x : Slt} {γ γ' : Nat → Slt} {S S' S2 : zS} {I I' I2 : zI} {J J' J2 : zJ}
theorem FR.refl : FR a S I J S I J := fun _ _ => ⟨rfl, rfl, rfl⟩
theorem FR.trans (h : FR a S I J S' I' J') (h' : FR a S' I' J' S2 I2 J2) : FR a S I J S2 I2 J2 := fun y hy => ⟨by rw [(h' y hy).1, (h y hy).1], by rw [(h' y hy).2.1, (h y hy).2.1], by rw [(h' y hy).2.2, (h y hy).2.2]⟩
theorem Cst.refl {c l : Nat} : Cst c l S S := ⟨by omega, by omega⟩
theorem CWg.slot (h : CWg S I J a A γ) (hs : s < 2) (hw : w = a + 20 + 12 * s) : CSl S I J a w γ (A.sl s) := by
  rcases (show s = 0 ∨ s = 1 by omega) with e | e
  · rw [hw, e]; exact h.2.2.1
  · rw [hw, e]; exact h.2.2.2.1
theorem CSl.eqs (h : CSl S I J a w γ x) : (γ (z_rv S w 0)).n = x.n ∧ (γ (z_rv S w 0)).t = x.t ∧ (γ (z_rv S w 0)).iv = x.iv ∧ (γ (z_rv S w 0)).nm = x.nm := by
  have e := h.2.1
  exact ⟨by rw [e]; rfl, by rw [e]; rfl, by rw [e]; rfl, by rw [e]; rfl⟩
/-- how the invariant is made anew -/
theorem CWg.mk (h : CWg S I J a A γ) (hf : SF S) (hX : SH a S S') (hR : z_rv S' (a + 46) = z_rv S (a + 46)) (hF : ∀ y, y ≤ z_sz S → Kpt S a y → z_kd S y ≠ 2 → I' y = I y) (hG : ∀ y, IsG S a y → (I' y = I y ∧ z_rv S' y 10 = z_rv S y 10) ∨ GC S' I' a y (γ y)) (hN : ∀ y, z_sz S < y → z_kd S' y ≠ 2) (c0 : CSl S' I' J' a (a + 20) γ (A.sl 0)) (c1 : CSl S' I' J' a (a + 32) γ (A.sl 1)) (hH : ∀ y, a + 44 ≤ y → y ≤ a + 47 → I' y = I y) (hK : CKn I' a A) (ha : I' a 1 = I a 1 ∧ I' a 3 = I a 3 ∧ I' a 4 = I a 4) (hT : I' (a + 1) = I (a + 1)) : CWg S' I' J' a A γ := by
  obtain ⟨hL, hg, _, _, cH, ⟨ht, hp⟩, ⟨f1, f2⟩, _⟩ := h
  refine ⟨hL.sh hX hf, fun y hy => ?_, c0, c1, cH.mv hX hH hR (fun _ _ => rfl), ⟨by rw [ha.1]; exact ht, by rw [hT]; exact hp⟩, ⟨by rw [ha.2.1]; exact f1, by rw [ha.2.2]; exact f2⟩, hK⟩
  rcases Nat.lt_or_ge (z_sz S) y with q | q
  · exact absurd hy.2.2 (hN y q)
  · have hy' := hy.hs hX q
    rcases hG y hy' with ⟨e1, e2⟩ | e
    · exact (hg y hy').st hf hX e1 hF e2
    · exact e
theorem Kpt.no (hL : CLay S a) {y : Nat} (h : Kpt S a y) : y < a ∨ (a + 10 ≤ y ∧ y < a + 19) ∨ a + 89 ≤ y ∨ (a ≤ y ∧ z_kd S y = 120) := by
  rcases h with h | h
  · unfold Dyn at h; omega
  · omega
theorem c_countSubgroups (hd : 6 < d) (hG : GC S I a g x) (hf : SF S) (hz : a + 88 ≤ z_sz S) : ∃ S' I', z_ev d i_X1_countSubgroups [.ref g] S I J (some (.int (nI (nsub x.n x.t)))) S' I' J ∧ SH a S S' ∧ (∀ y, y ≤ z_sz S → y ≠ g → I' y = I y ∧ z_rv S' y = z_rv S y) ∧ (∀ k, k ≠ 11 → I' g k = I g k) ∧ SubOk S' I' g x.n x.t ∧ Dyn a (z_rv S' g 10) ∧ Cst 1 80 S S' ∧ (∀ y, z_sz S < y → z_kd S' y ≠ 2) ∧ ∀ k, k ≠ 10 → z_rv S' g k = z_rv S g k := by
  obtain ⟨d, rfl⟩ := z_dep (d := d) (by omega)
  have hC := hG.1.1
  have hgs := hf.le hC.1 (by decide)
  rcases hG.2.2.2.2 with c | ⟨c, cd⟩
  · obtain ⟨S1, I1, p1, p2, p3, p4, p5, p6, p7, p8, p9⟩ := c_findSubgroups (d := d) (J := J) (by omega) hC hG.1.2.2.2.2.2.1 hgs (hf.le hC.2.2.2.1 (by decide))
    have hk : z_kd S1 g = 2 := by rw [(p5.2.1 g hgs).1]; exact hC.1
    have hm := p1.mo
    refine ⟨S1, I1, e_X1_countSubgroups (b_X1_countSubgroups_0 hC.1 (fun z => absurd c z) (fun _ => b_X1_countSubgroups_7 hC.1 ⟨_, _, _, _, p1, b_X1_countSubgroups_11 hk ⟨z_someI p9.2.2.1, rfl, rfl, rfl⟩⟩)), ⟨p5.1, p5.2.1, fun y k hy hl => ?_⟩, fun y hy e => ⟨(p5.2.2 y hy e).2, (p5.2.2 y hy e).1⟩, p7, p9, by rw [p8]; unfold Dyn; omega, ⟨by omega, by have := subL_le x.n; omega⟩, fun y hy e => ?_, p6⟩
    · by_cases e : y = g
      · rw [e]; exact p6 k (fun e2 => hl (by unfold Lse; rw [e, hC.1]; omega))
      · rw [(p5.2.2 y hy e).1]
    · rcases (show y = z_sz S + 1 ∨ z_sz S1 < y by omega) with q | q
      · have := p9.1
        rw [p8, ← q] at this
        omega
      · have := hm.2.2 hf y q
        omega
  · have h0 : ¬ z_rv S g 10 = 0 := by unfold Dyn at cd; omega
    exact ⟨S, I, e_X1_countSubgroups (b_X1_countSubgroups_0 hC.1 (fun _ => b_X1_countSubgroups_11 hC.1 ⟨z_someI c.2.2.1, rfl, rfl, rfl⟩) (fun z => absurd z h0)), SH.refl, fun _ _ _ => ⟨rfl, rfl⟩, fun _ _ => rfl, c, cd, Cst.refl, fun y hy => by rw [hf y hy]; decide, fun _ _ => rfl⟩
/-- the subgroups of a slot's group are found: the state is the same -/
theorem CW.subs (hd : 6 < d) (h : CW S I J a A) (hf : SF S) (hz : a + 88 ≤ z_sz S) (hs : s < 2) (hw : w = a + 20 + 12 * s) : ∃ S' I', z_ev d i_X1_countSubgroups [.ref (z_rv S w 0)] S I J (some (.int (nI (nsub (A.sl s).n (A.sl s).t)))) S' I' J ∧ CW S' I' J a A ∧ FR a S I J S' I' J ∧ Cst 1 80 S S' ∧ SubOk S' I' (z_rv S w 0) (A.sl s).n (A.sl s).t ∧ z_kd S' (z_rv S w 0) = 2 := by
  obtain ⟨γ, h⟩ := h
  have h : CWg S I J a A γ := h
  have cs := h.slot hs hw
  obtain ⟨e1, e2, e3, e4⟩ := cs.eqs
  have hG := h.2.1 _ cs.1
  have gd := cs.1.1
  obtain ⟨S1, I1, p1, p2, p3, p4, p5, p6, p7, p8, p9⟩ := c_countSubgroups (d := d) (J := J) hd hG hf hz
  rw [e1, e2] at p1 p5
  obtain ⟨hL, hg, c0, c1, cH, hT, hFa, hK⟩ := h
  have hm : ∀ y, y ≤ z_sz S → z_kd S y ≠ 2 → I1 y = I y := fun y hy hk => (p3 y hy (fun e => hk (by rw [e]; exact cs.1.2.2))).1
  have fw : ∀ y, y ≤ a + 88 → ¬ Dyn a y → I1 y = I y := fun y hy hn => (p3 y (by omega) (fun e => hn (by rw [e]; exact gd))).1
  have rw' : ∀ y, y ≤ a + 88 → ¬ Dyn a y → z_rv S1 y = z_rv S y := fun y hy hn => (p3 y (by omega) (fun e => hn (by rw [e]; exact gd))).2
  have f0 : ∀ y, y ≤ z_sz S → I1 y 0 = I y 0 := fun y hy => by
    by_cases e : y = z_rv S w 0
    · rw [e]; exact p4 0 (by decide)
    · rw [(p3 y hy e).1]
  have c0' : CSl S1 I1 J a (a + 20) γ (A.sl 0) := c0.mv hf p2 (by rw [rw' _ (by omega) (by unfold Dyn; omega)]) (fun y g1 g2 => fw y (by omega) (by unfold Dyn; omega)) (f0 _ c0.1.2.1) (fun y hy _ hk => hm y hy hk) rfl rfl
  have c1' : CSl S1 I1 J a (a + 32) γ (A.sl 1) := c1.mv hf p2 (by rw [rw' _ (by omega) (by unfold Dyn; omega)]) (fun y g1 g2 => fw y (by omega) (by unfold Dyn; omega)) (f0 _ c1.1.2.1) (fun y hy _ hk => hm y hy hk) rfl rfl
  have ea := fw a (by omega) (by unfold Dyn; omega)
  refine ⟨S1, I1, p1, ⟨γ, CWg.mk ⟨hL, hg, c0, c1, cH, hT, hFa, hK⟩ hf p2 (rw' _ (by omega) (by unfold Dyn; omega)) (fun y hy _ hk => hm y hy hk) (fun y hy => ?_) p8 c0' c1' (fun y g1 g2 => fw y (by omega) (by unfold Dyn; omega)) (hK.fr (by rw [ea]; exact ⟨rfl, rfl, rfl, rfl⟩) (fw _ (by omega) (by unfold Dyn; omega)) (fw _ (by omega) (by unfold Dyn; omega))) (by rw [ea]; exact ⟨rfl, rfl, rfl⟩) (fw _ (by omega) (by unfold Dyn; omega))⟩, fun y hy => ⟨rw' y (by omega) (by unfold Dyn; omega), fw y (by omega) (by unfold Dyn; omega), rfl⟩, p7, p5, ?_⟩
  · by_cases e : y = z_rv S w 0
    · right
      rw [e]
      refine hG.mv hf p2 (fun k _ _ k11 => p4 k k11) (fun y hy _ hk => hm y hy hk) (by rw [p4 9 (by decide)]; exact hG.2.2.2.1) (Or.inr ⟨by rw [e1, e2]; exact p5, p6⟩)
    · left
      exact ⟨(p3 y hy.2.1 e).1, by rw [(p3 y hy.2.1 e).2]⟩
  · rw [(p2.2.1 _ cs.1.2.1).1]; exact cs.1.2.2
end C38

/-! THE CLASS: calls that ask of groups -/
section C29
variable {d a : Nat} {A : Wst} {S : zS} {I : zI} {J : zJ}
theorem CW.net (h : CW S I J a A) {s : Nat} (hs : s < 2) : ∃ w, z_rv S (z_rv S a 5) (nI s).toNatClampNeg = w ∧ w = a + 20 + 12 * s ∧ z_kd S w = 9 ∧ GO S I a (z_rv S w 0) (A.sl s).n (A.sl s).t (A.sl s).iv ∧ CNm S I (z_rv S w 0) (A.sl s).n (A.sl s).nm ∧ (z_isR (z_kd S (z_rv S a 5)) = true ∧ vp_in (nI s) (z_ln S (z_rv S a 5))) := by
  obtain ⟨γ, hL, hG, c0, c1, _⟩ := h
  have h5 := hL.2.2.2.1
  obtain ⟨n0, n1⟩ := hL.2.2.2.2.1
  have hr : z_isR (z_kd S (z_rv S a 5)) = true ∧ vp_in (nI s) (z_ln S (z_rv S a 5)) := ⟨by rw [h5.kd]; rfl, by rw [h5.ln]; exact vp_in_nI hs (by decide)⟩
  have key : ∀ w x, CSl S I J a w γ x → z_kd S w = 9 ∧ GO S I a (z_rv S w 0) x.n x.t x.iv ∧ CNm S I (z_rv S w 0) x.n x.nm := fun w x hc => by
    obtain ⟨g1, g2, g3, _⟩ := hc
    have hc := (hG _ g1).2.1
    have e1 : x.n = (γ (z_rv S w 0)).n := by rw [g2]; rfl
    have e2 : x.nm = (γ (z_rv S w 0)).nm := by rw [g2]; rfl
    exact ⟨g3.2.1.1, g3.2.2.1, by rw [e1, e2]; exact hc⟩
  rcases (show s = 0 ∨ s = 1 by omega) with e | e
  · subst e
    obtain ⟨k1, k2, k3⟩ := key _ _ c0
    exact ⟨a + 20, by rw [h5.1]; exact n0, rfl, k1, k2, k3, hr⟩
  · subst e
    obtain ⟨k1, k2, k3⟩ := key _ _ c1
    exact ⟨a + 32, by rw [h5.1]; exact n1, rfl, k1, k2, k3, hr⟩
theorem CW.k (h : CW S I J a A) : z_kd S a = 12 := by
  obtain ⟨γ, hL, _⟩ := h
  exact hL.1
theorem c_isSlot (x : Int32) (hd : 0 < d) : z_ev d i_X11_isSlot [.int x] S I J (some (.int (nI (zb (El 2 x))))) S I J := by
  obtain ⟨d, rfl⟩ := z_dep hd
  refine e_X11_isSlot (b_X11_isSlot_0 (fun c => b_X11_isSlot_9 z_fit1 ⟨?_, rfl, rfl, rfl⟩) (fun c => b_X11_isSlot_4 (fun c2 => b_X11_isSlot_13 z_fit0 ⟨?_, rfl, rfl, rfl⟩) (fun c2 => b_X11_isSlot_9 z_fit1 ⟨?_, rfl, rfl, rfl⟩)))
  · rw [zb_t (show El 2 x from ⟨0, by decide, c⟩)]; rfl
  · rw [zb_f]
    · rfl
    · rintro ⟨k, hk, e⟩
      rcases (show k = 0 ∨ k = 1 by omega) with q | q
      · rw [q] at e; exact c e
      · rw [q] at e; exact c2 e
  · rw [zb_t (show El 2 x from ⟨1, by decide, c2⟩)]; rfl
theorem c_isElement (x1 x2 : Int32) (hd : 1 < d) (h : CW S I J a A) : z_ev d i_X11_isElement [.ref a, .int x1, .int x2] S I J (some (.int (nI (zb (El 2 x1 ∧ El (A.sl (ix x1)).n x2))))) S I J := by
  obtain ⟨d, rfl⟩ := z_dep (d := d) (by omega)
  refine e_X11_isElement (b_X11_isElement_0 ⟨_, _, _, _, c_isSlot x1 (by omega), b_X11_isElement_4 (fun c => b_X11_isElement_31 z_fit0 ⟨?_, rfl, rfl, rfl⟩) (fun c => b_X11_isElement_7 (fun c2 => b_X11_isElement_31 z_fit0 ⟨?_, rfl, rfl, rfl⟩) (fun c2 => ?_))⟩)
  · rw [zb_f (fun q => (zb_0.mp c) q.1)]; rfl
  · rw [zb_f]
    · rfl
    · rintro ⟨⟨s, hs, rfl⟩, k, hk, rfl⟩
      have c := zb_1.mp c
      rw [ix_nI (by omega)] at hk
      obtain ⟨w, _, _, _, g4, _⟩ := h.net hs
      have := g4.2.2.2.2.2.1.le
      exact nI_pos (show k < 2 ^ 31 by omega) c2
  · obtain ⟨s, hs, rfl⟩ := zb_1.mp c
    obtain ⟨w, g1, g2, g3, g4, _, g6⟩ := h.net hs
    have hn := g4.2.2.2.2.2.1.le
    obtain ⟨k, hk, rfl⟩ := nI_of c2
    have en : I (z_rv S w 0) 0 = nI (A.sl s).n := g4.1.2.1
    refine b_X11_isElement_11 h.k g6 (by rw [g1]; exact g3) (by rw [g1]; exact g4.1.1) (fun z => b_X11_isElement_31 z_fit0 ⟨?_, rfl, rfl, rfl⟩) (fun z => b_X11_isElement_27 z_fit1 ⟨?_, rfl, rfl, rfl⟩)
    · rw [g1, en, nI_leI (by omega) hk] at z
      rw [ix_nI (by omega), zb_f]
      · rfl
      · rintro ⟨_, j, hj, e⟩
        rw [nI_eq hk (by omega)] at e; omega
    · rw [g1, en, nI_leI (by omega) hk] at z
      rw [ix_nI (by omega), zb_t ⟨⟨s, hs, rfl⟩, k, by omega, rfl⟩]; rfl
theorem c_product (x1 x2 x3 : Int32) (hd : 2 < d) (h : CW S I J a A) : z_ev d i_X11_product [.ref a, .int x1, .int x2, .int x3] S I J (some (.int (aProduct (fun s => (A.sl s).n) (fun s => (A.sl s).t) x1 x2 x3))) S I J := by
  obtain ⟨d, rfl⟩ := z_dep (d := d) (by omega)
  refine e_X11_product (b_X11_product_0 h.k ⟨_, _, _, _, c_isElement x1 x2 (by omega) h, b_X11_product_6 (fun c => b_X11_product_18 ⟨z_someI (zq_f (fun q => (zb_0.mp c) q.1)).symm, rfl, rfl, rfl⟩) (fun c => b_X11_product_9 h.k ⟨_, _, _, _, c_isElement x1 x3 (by omega) h, b_X11_product_15 (fun c2 => ?_) (fun c2 => b_X11_product_18 ⟨z_someI (zq_f (fun q => (zb_0.mp c2) q.2)).symm, rfl, rfl, rfl⟩)⟩)⟩)
  have c := zb_1.mp c
  have c2 := zb_1.mp c2
  have e : aProduct (fun s => (A.sl s).n) (fun s => (A.sl s).t) x1 x2 x3 = _ := zq_t ⟨c, c2⟩
  obtain ⟨⟨s, hs, rfl⟩, c3⟩ := c
  have c4 := c2.2
  rw [ix_nI (by omega)] at c3 c4 e
  obtain ⟨x, hx, rfl⟩ := c3
  obtain ⟨y, hy, rfl⟩ := c4
  obtain ⟨w, g1, g2, g3, g4, _, g6⟩ := h.net hs
  have hn := g4.2.2.2.2.2.1.le
  rw [ix_nI (by omega), ix_nI (by omega)] at e
  rw [e]
  refine b_X11_product_21 h.k g6 (by rw [g1]; exact g3) (by rw [g1]; exact g4.1.1) ?_
  rw [g1]
  exact ⟨_, _, _, _, c_times (by omega) g4.1 hx hy, b_X11_product_35 ⟨rfl, rfl, rfl, rfl⟩⟩
theorem c_name (x1 x2 x3 : Int32) (hd : 4 < d) (h : CW S I J a A) : z_ev d i_X11_name [.ref a, .int x1, .int x2, .int x3] S I J (some (.int (aName (fun s => (A.sl s).n) (fun s => (A.sl s).nm) x1 x2 x3))) S I J := by
  obtain ⟨d, rfl⟩ := z_dep (d := d) (by omega)
  refine e_X11_name (b_X11_name_0 h.k ⟨_, _, _, _, c_isElement x1 x2 (by omega) h, b_X11_name_6 (fun c => b_X11_name_12 (fun c3 => ?_) (fun c3 => b_X11_name_16 ⟨z_someI ?_, rfl, rfl, rfl⟩)) (fun c => b_X11_name_9 ⟨z_someI (zq_f (zb_0.mp c)).symm, rfl, rfl, rfl⟩)⟩)
  · have c := zb_1.mp c
    have e : aName (fun s => (A.sl s).n) (fun s => (A.sl s).nm) x1 x2 x3 = _ := zq_t c
    rw [zq_t c3] at e
    obtain ⟨⟨s, hs, rfl⟩, c2⟩ := c
    rw [ix_nI (by omega)] at c2 e
    obtain ⟨x, hx, rfl⟩ := c2
    obtain ⟨w, g1, g2, g3, g4, g5, g6⟩ := h.net hs
    have hn := g4.2.2.2.2.2.1.le
    obtain ⟨K, hK, rfl⟩ := nI_of (x := x3) (fun z => absurd c3 (by
      rw [Int32.le_iff_toInt_le]
      rw [Int32.lt_iff_toInt_lt] at z
      omega))
    rw [ix_nI (by omega), ix_nI hK] at e
    rw [e]
    refine b_X11_name_19 h.k g6 (by rw [g1]; exact g3) (by rw [g1]; exact g4.1.1) ?_
    rw [g1]
    exact ⟨_, _, _, _, c_nameByte (by omega) g4.1.1 g5 hx hn hK, b_X11_name_33 ⟨rfl, rfl, rfl, rfl⟩⟩
  · have e : aName (fun s => (A.sl s).n) (fun s => (A.sl s).nm) x1 x2 x3 = _ := zq_t (zb_1.mp c)
    rw [e, zq_f c3]
end C29

/-! THE CLASS: element -/
section C31
variable {d a : Nat} {A : Wst} {S : zS} {I : zI} {J : zJ}
theorem CW.st (h : CW S I J a A) {s : Nat} (hs : s < 2) : I (a + 20 + 12 * s) 1 = nI (A.sl s).st ∧ (A.sl s).st < 2 ^ (A.sl s).n ∧ (A.sl s).st.testBit 0 = false := by
  obtain ⟨γ, hL, hG, c0, c1, _⟩ := h
  rcases (show s = 0 ∨ s = 1 by omega) with e | e
  · subst e
    obtain ⟨_, _, q⟩ := c0
    exact ⟨q.1.2.2.2.1, q.1.2.2.2.2.1, q.1.2.2.2.2.2.1⟩
  · subst e
    obtain ⟨_, _, q⟩ := c1
    exact ⟨q.1.2.2.2.1, q.1.2.2.2.2.1, q.1.2.2.2.2.2.1⟩
theorem c_element (x1 x2 x3 : Int32) (hd : 2 < d) (h : CW S I J a A) : z_ev d i_X11_element [.ref a, .int x1, .int x2, .int x3] S I J (some (.int (aElement (fun s => (A.sl s).n) (fun s => (A.sl s).t) (fun s => (A.sl s).iv) (fun s => (A.sl s).st) x1 x2 x3))) S I J := by
  obtain ⟨d, rfl⟩ := z_dep (d := d) (by omega)
  refine e_X11_element (b_X11_element_0 h.k ⟨_, _, _, _, c_isElement x1 x2 (by omega) h, b_X11_element_6 (fun c => ?_) (fun c => b_X11_element_9 ⟨z_someI (zq_f (zb_0.mp c)).symm, rfl, rfl, rfl⟩)⟩)
  have c := zb_1.mp c
  have e : aElement (fun s => (A.sl s).n) (fun s => (A.sl s).t) (fun s => (A.sl s).iv) (fun s => (A.sl s).st) x1 x2 x3 = _ := zq_t c
  obtain ⟨⟨s, hs, rfl⟩, c3⟩ := c
  rw [ix_nI (by omega)] at c3 e
  obtain ⟨x, hx, rfl⟩ := c3
  obtain ⟨w, g1, g2, g3, g4, _, g6⟩ := h.net hs
  obtain ⟨t1, t2, t3⟩ := h.st hs
  rw [← g2] at t1
  have hn := g4.2.2.2.2.2.1.le
  have h20 : 2 ^ (A.sl s).n ≤ 2 ^ 20 := Nat.pow_le_pow_right (by decide) hn
  have gd := g4.2.2.2.2.2.2.1
  rw [ix_nI (by omega)] at e
  rw [e]
  have cl : (nI x).toNatClampNeg = x := nI_clamp (by omega)
  have rd : ∀ {k : Nat} {f : Nat → Nat}, CR S I (z_rv S w 0) k (A.sl s).n f → z_isI (z_kd S (z_rv S (z_rv S w 0) k)) = true ∧ vp_in (nI x) (z_ln S (z_rv S (z_rv S w 0) k)) := fun hc => by rw [hc.1, hc.2.1]; exact ⟨rfl, vp_in_nI hx (by omega)⟩
  refine b_X11_element_12 h.k g6 (by rw [g1]; exact g3) (by rw [g1]; unfold Dyn at gd; omega) ?_
  rw [g1]
  show Go d i_X11_element (if x3 = 0 then 56 else if x3 = 1 then 64 else if x3 = 2 then 72 else if x3 = 3 then 86 else 97) _ _ S I J _
  unfold elv
  by_cases e0 : x3 = 0
  · rw [if_pos e0, if_pos e0]
    refine b_X11_element_56 g4.1.1 (rd g4.2.1) ⟨z_someI ?_, rfl, rfl, rfl⟩
    rw [cl]; exact g4.2.1.2.2 x hx
  · rw [if_neg e0, if_neg e0]
    by_cases e1 : x3 = 1
    · rw [if_pos e1, if_pos e1]
      refine b_X11_element_64 g4.1.1 (rd g4.2.2.1) ⟨z_someI ?_, rfl, rfl, rfl⟩
      rw [cl]; exact g4.2.2.1.2.2 x hx
    · rw [if_neg e1, if_neg e1]
      by_cases e2 : x3 = 2
      · rw [if_pos e2, if_pos e2]
        refine b_X11_element_72 h.k g6 (by rw [g1]; exact g3) ⟨z_someI ?_, rfl, rfl, rfl⟩
        rw [g1, t1, z_bit (by omega) (by omega)]
      · rw [if_neg e2, if_neg e2]
        by_cases e3 : x3 = 3
        · rw [if_pos e3, if_pos e3]
          have hc : cls (A.sl s).n (A.sl s).t (A.sl s).iv x < 2 ^ (A.sl s).n := Nat.lt_pow_two_of_testBit _ (fun b hb => by
            cases q : (cls (A.sl s).n (A.sl s).t (A.sl s).iv x).testBit b with
            | false => rfl
            | true =>
              obtain ⟨u, u1, u2⟩ := cls_bit.mp q
              have hg := g4.2.2.2.2.2.1
              have := hg.lt (hg.lt (hg.il u1) hx) u1
              omega)
          refine b_X11_element_86 g4.1.1 (rd g4.2.2.2.1) ?_
          rw [cl, g4.2.2.2.1.2.2 x hx]
          refine ⟨_, _, _, _, ev_bitCount (by omega) (z_lt24 hn hc), b_X11_element_96 ⟨z_someI ?_, rfl, rfl, rfl⟩⟩
          rw [zc24 hn hc]
        · rw [if_neg e3, if_neg e3]
          exact b_X11_element_97 ⟨rfl, rfl, rfl, rfl⟩
end C31

/-! THE CLASS: step, both, undo -/
section C45
variable {d a g w n s st : Nat} {A : Wst} {x : Slt} {γ γ' : Nat → Slt} {S S' S2 : zS} {I I' I2 : zI} {J J' J2 : zJ}
theorem setR_ne {h k v y : Nat} (hy : y ≠ h) : z_rv (z_setR S h k v) y = z_rv S y := by
  funext j; exact z_u2_ne hy
theorem setR_at {h k v : Nat} : z_rv (z_setR S h k v) h k = v := z_u2_same
theorem setR_nk {h k v y j : Nat} (hj : j ≠ k) : z_rv (z_setR S h k v) y j = z_rv S y j := z_u2_nk hj
theorem SH.set46 {k v : Nat} : SH a S (z_setR S (a + 46) k v) := ⟨Nat.le_refl _, fun _ _ => ⟨rfl, rfl⟩, fun y j _ hl => by rw [setR_ne (fun e => hl (by unfold Lse; omega))]⟩
theorem SH.setw {v : Nat} (hw : w = a + 20 ∨ w = a + 32) : SH a S (z_setR S w 0 v) := ⟨Nat.le_refl _, fun _ _ => ⟨rfl, rfl⟩, fun y j _ hl => by
  by_cases e : y = w
  · rw [setR_nk (fun e2 => hl (by unfold Lse; omega))]
  · rw [setR_ne e]⟩
/-- an act is kept -/
theorem CWg.keep (hd : 1 < d) (h : CWg S I J a A γ) (hf : SF S) (hA : WOk A) (hs : s < 2) (hw : w = a + 20 + 12 * s) : ∃ S' I', z_ev d i_X4_keep [.ref (a + 44), .int (nI s), .ref w] S I J none S' I' J ∧ CWg S' I' J a (A.keep s) γ ∧ (∀ y, y < a + 44 ∨ a + 47 < y → I' y = I y) ∧ (∀ y, y ≠ a + 46 → z_rv S' y = z_rv S y) ∧ Cst 0 0 S S' ∧ (∀ y, z_kd S' y = z_kd S y ∧ z_ln S' y = z_ln S y) ∧ z_sz S' = z_sz S := by
  have cs := h.slot hs hw
  obtain ⟨nx, n1, n2, n3, n4⟩ := h.2.2.2.2.1
  have hkp := hA.2.1
  have hH := h.1.2.2.2.2.2.1
  obtain ⟨I1, p1, p2, p3, p4, ⟨p5, p6⟩, p7, p8⟩ := c_hkeep (d := d) (J := J) (w := w) (nI s) hd hH.2 n2 n1 n3 hkp cs.2.2.1.2.1.1 cs.1.2.2 (by omega)
  have hX : SH a S (z_setR S (a + 46) nx (z_rv S w 0)) := SH.set46
  have hr : ∀ y, y ≠ a + 46 → z_rv (z_setR S (a + 46) nx (z_rv S w 0)) y = z_rv S y := fun y hy => setR_ne hy
  have hI : ∀ y, y < a + 44 ∨ a + 47 < y → I1 y = I y := p2
  have ot : ∀ s', s' < 2 → CSl (z_setR S (a + 46) nx (z_rv S w 0)) I1 J a (a + 20 + 12 * s') γ (A.sl s') := fun s' hs' => by
    have c2 := h.slot hs' rfl
    have go := c2.1.1.out
    exact c2.mv hf hX (by rw [hr _ (by omega)]) (fun y b1 b2 => hI y (by omega)) (by rw [hI _ (by omega)]) (fun y _ hy _ => hI y (by have := hy.out; omega)) rfl rfl
  have ea : I1 a = I a := hI a (by omega)
  obtain ⟨hL, hg, c0, c1, cH, ⟨ht, hp⟩, ⟨f1, f2⟩, hK⟩ := h
  refine ⟨_, I1, p1, ⟨hL.sh hX hf, fun y hy => ?_, ot 0 (by decide), ot 1 (by decide), ⟨(nx + 1) % 8, Nat.mod_lt _ (by decide), p3, ?_, fun k hk => ?_⟩, ⟨by rw [ea]; exact ht, by rw [hI (a + 1) (by omega)]; exact hp⟩, ⟨by rw [ea]; exact f1, by rw [ea]; exact f2⟩, CKn.fr (A := A) hK (by rw [ea]; exact ⟨rfl, rfl, rfl, rfl⟩) (hI _ (by omega)) (hI _ (by omega))⟩, hI, hr, Cst.refl, fun _ => ⟨rfl, rfl⟩, rfl⟩
  · have hy' : IsG S a y := hy
    have yo := hy'.1.out
    exact (hg y hy').st hf hX (hI y (by omega)) (fun u hu q1 q2 => hI u (by have := q1.out hL; omega)) (by rw [hr y (by omega)])
  · rw [p4]
    show _ = nI (if A.kp = 8 then 8 else A.kp + 1)
    by_cases e : A.kp = 8
    · rw [if_pos e, e]; rfl
    · rw [if_neg e, show min 8 (A.kp + 1) = A.kp + 1 by omega]
  · have hk : k < (if A.kp = 8 then 8 else A.kp + 1) := hk
    show I1 (a + 45) (((nx + 1) % 8 + 8 - (if A.kp = 8 then 8 else A.kp + 1) + k) % 8) = nI ((if A.kp = 8 then (if k = 7 then (s, A.sl s) else A.hi (k + 1)) else (if k = A.kp then (s, A.sl s) else A.hi k)) : Nat × Slt).1 ∧ IsG _ a (z_rv _ (a + 46) (((nx + 1) % 8 + 8 - (if A.kp = 8 then 8 else A.kp + 1) + k) % 8)) ∧ ((if A.kp = 8 then (if k = 7 then (s, A.sl s) else A.hi (k + 1)) else (if k = A.kp then (s, A.sl s) else A.hi k)) : Nat × Slt).2 = (γ (z_rv _ (a + 46) (((nx + 1) % 8 + 8 - (if A.kp = 8 then 8 else A.kp + 1) + k) % 8))).to ((if A.kp = 8 then (if k = 7 then (s, A.sl s) else A.hi (k + 1)) else (if k = A.kp then (s, A.sl s) else A.hi k)) : Nat × Slt).2.st ∧ I1 (a + 47) (((nx + 1) % 8 + 8 - (if A.kp = 8 then 8 else A.kp + 1) + k) % 8) = nI ((if A.kp = 8 then (if k = 7 then (s, A.sl s) else A.hi (k + 1)) else (if k = A.kp then (s, A.sl s) else A.hi k)) : Nat × Slt).2.st
    have new : ∀ i, i = nx → I1 (a + 45) i = nI s ∧ IsG (z_setR S (a + 46) nx (z_rv S w 0)) a (z_rv (z_setR S (a + 46) nx (z_rv S w 0)) (a + 46) i) ∧ A.sl s = (γ (z_rv (z_setR S (a + 46) nx (z_rv S w 0)) (a + 46) i)).to (A.sl s).st ∧ I1 (a + 47) i = nI (A.sl s).st := fun i e => by
      rw [e, setR_at]
      exact ⟨p5, cs.1, cs.2.1, by rw [p7]; exact cs.2.2.1.2.2.2.1⟩
    have old : ∀ i j, i ≠ nx → j < A.kp → i = (nx + 8 - A.kp + j) % 8 → I1 (a + 45) i = nI (A.hi j).1 ∧ IsG (z_setR S (a + 46) nx (z_rv S w 0)) a (z_rv (z_setR S (a + 46) nx (z_rv S w 0)) (a + 46) i) ∧ (A.hi j).2 = (γ (z_rv (z_setR S (a + 46) nx (z_rv S w 0)) (a + 46) i)).to (A.hi j).2.st ∧ I1 (a + 47) i = nI (A.hi j).2.st := fun i j e hj ei => by
      obtain ⟨m1, m2, m3, m4⟩ := n4 j hj
      rw [← ei] at m1 m2 m3 m4
      rw [setR_nk e, p6 i e, p8 i e]
      exact ⟨m1, m2, m3, m4⟩
    by_cases e : A.kp = 8
    · rw [if_pos e] at hk
      simp only [if_pos e]
      by_cases e7 : k = 7
      · simp only [if_pos e7]
        exact new _ (by omega)
      · simp only [if_neg e7]
        exact old _ (k + 1) (by omega) (by omega) (by omega)
    · rw [if_neg e] at hk
      simp only [if_neg e]
      by_cases e7 : k = A.kp
      · simp only [if_pos e7]
        exact new _ (by omega)
      · simp only [if_neg e7]
        exact old _ k (by omega) (by omega) (by omega)
/-- a slot becomes another network -/
theorem CWg.become (hd : 1 < d) (h : CWg S I J a A γ) (hf : SF S) (hs : s < 2) (hw : w = a + 20 + 12 * s) (hg : IsG S a g) (hst : st < 2 ^ (γ g).n) (h0 : st.testBit 0 = false) : ∃ S' I' J', z_ev d i_X11_become [.ref a, .int (nI s), .ref g, .int (nI st)] S I J none S' I' J' ∧ CWg S' I' J' a (A.put s ((γ g).to st)) γ ∧ FR a S I J S' I' J' ∧ Cst 0 0 S S' ∧ I' w 1 = nI st ∧ z_kd S' w = 9 ∧ (∀ y, y ≠ a → y ≠ w → I' y = I y) ∧ (∀ y, y ≠ w → z_rv S' y = z_rv S y) := by
  have cs := h.slot hs hw
  have hk := h.1.1
  have wl := cs.2.2.1.2.1
  have ww := cs.2.2.1.1
  have h19 : z_rv S (a + 19) s = w := by
    rcases (show s = 0 ∨ s = 1 by omega) with e | e
    · rw [e, hw, e]; exact h.1.2.2.2.2.1.1
    · rw [e, hw, e]; exact h.1.2.2.2.2.1.2
  have ev := c_become (d := d) (I := I) (J := J) (g := g) (nI st) hd hk h.1.2.2.2.1 hs h19 wl.1
  obtain ⟨I1, E1⟩ : ∃ I1, I1 = z_u2 (z_u2 (z_u2 (z_u2 (z_u2 (z_u2 (z_u2 I w 1 (nI st)) w 3 0) w 8 0) w 9 0) a 13 0) a 14 0) a 15 0 := ⟨_, rfl⟩
  obtain ⟨J1, F1⟩ : ∃ J1, J1 = z_u2 J w 2 0 := ⟨_, rfl⟩
  rw [← E1, ← F1] at ev
  have hX : SH a S (z_setR S w 0 g) := SH.setw ww
  have hr : ∀ y, y ≠ w → z_rv (z_setR S w 0 g) y = z_rv S y := fun y hy => setR_ne hy
  have fo : ∀ y, y ≠ a → y ≠ w → I1 y = I y := fun y q1 q2 => by rw [E1, z_u2_row q1, z_u2_row q1, z_u2_row q1, z_u2_row q2, z_u2_row q2, z_u2_row q2, z_u2_row q2]
  have aw : a ≠ w := by omega
  have fw : ∀ k, I1 w k = z_u2 (z_u2 (z_u2 (z_u2 I w 1 (nI st)) w 3 0) w 8 0) w 9 0 w k := fun k => by rw [E1, z_u2_row aw.symm, z_u2_row aw.symm, z_u2_row aw.symm]
  have w1 : I1 w 1 = nI st := by rw [fw, z_u2_nk (by decide), z_u2_nk (by decide), z_u2_nk (by decide), z_u2_same]
  have w3 : I1 w 3 = 0 := by rw [fw, z_u2_nk (by decide), z_u2_nk (by decide), z_u2_same]
  have w8 : I1 w 8 = 0 := by rw [fw, z_u2_nk (by decide), z_u2_same]
  have w9 : I1 w 9 = 0 := by rw [fw, z_u2_same]
  have fa : ∀ k, k ≠ 13 → k ≠ 14 → k ≠ 15 → I1 a k = I a k := fun k k1 k2 k3 => by rw [E1, z_u2_nk k3, z_u2_nk k2, z_u2_nk k1, z_u2_row aw, z_u2_row aw, z_u2_row aw, z_u2_row aw]
  have a15 : I1 a 15 = 0 := by rw [E1, z_u2_same]
  have a14 : I1 a 14 = 0 := by rw [E1, z_u2_nk (by decide), z_u2_same]
  have a13 : I1 a 13 = 0 := by rw [E1, z_u2_nk (by decide), z_u2_nk (by decide), z_u2_same]
  obtain ⟨hL, hgs, c0, c1, cH, ⟨ht, hp⟩, ⟨f1, f2⟩, hK⟩ := h
  have ggo := (hgs g hg).1
  have gg := hg.1.out
  have cs' : CSl (z_setR S w 0 g) I1 J1 a w γ ((γ g).to st) := by
    refine ⟨by rw [setR_at]; exact hg.sh hX, by rw [setR_at]; rfl, ⟨ww, wl.sh hX hf ww, ?_, w1, hst, h0, Or.inl w8, Or.inl w9⟩, Or.inl (by rw [F1, z_u2_same]), Or.inl w3⟩
    rw [setR_at]
    exact GO.mv (x := γ g) ggo hf hX (by rw [fo g (by omega) (by omega)]) (fun y _ hy _ => fo y (by have := hy.out; omega) (by have := hy.out; omega))
  have ot : ∀ s', s' < 2 → CSl (z_setR S w 0 g) I1 J1 a (a + 20 + 12 * s') γ ((A.put s ((γ g).to st)).sl s') := fun s' hs' => by
    show CSl _ I1 J1 a (a + 20 + 12 * s') γ (if s' = s then (γ g).to st else A.sl s')
    by_cases e : s' = s
    · rw [if_pos e, e, ← hw]; exact cs'
    · rw [if_neg e]
      have c2 : CSl S I J a (a + 20 + 12 * s') γ (A.sl s') := CWg.slot (γ := γ) ⟨hL, hgs, c0, c1, cH, ⟨ht, hp⟩, ⟨f1, f2⟩, hK⟩ hs' rfl
      have go := c2.1.1.out
      exact c2.mv hf hX (by rw [hr _ (by omega)]) (fun y b1 b2 => fo y (by omega) (by omega)) (by rw [fo _ (by omega) (by omega)]) (fun y _ hy _ => fo y (by have := hy.out; omega) (by have := hy.out; omega)) rfl (by rw [F1, z_u2_row (by omega)])
  refine ⟨_, I1, J1, ev, ⟨hL.sh hX hf, fun y hy => ?_, ot 0 (by decide), ot 1 (by decide), CHi.mv (A := A) cH hX (fun y b1 b2 => fo y (by omega) (by omega)) (hr _ (by omega)) (fun _ _ => rfl), ⟨by rw [fa 1 (by decide) (by decide) (by decide)]; exact ht, by rw [fo (a + 1) (by omega) (by omega)]; exact hp⟩, ⟨by rw [fa 3 (by decide) (by decide) (by decide)]; exact f1, by rw [fa 4 (by decide) (by decide) (by decide)]; exact f2⟩, Or.inl a13, Or.inl a14, Or.inl a15⟩, fun y hy => ⟨hr y (by omega), fo y (by omega) (by omega), by rw [F1, z_u2_row (by omega)]⟩, Cst.refl, w1, wl.1, fo, hr⟩
  have hy' : IsG S a y := hy
  have yo := hy'.1.out
  exact (hgs y hy').st hf hX (fo y (by omega) (by omega)) (fun u _ q1 _ => fo u (q1.far hL).1 (by have := q1.out hL; omega)) (by rw [hr y (by omega)])
end C45

/-! THE CLASS: what keeps its invariant; feed -/
section C28
variable {d a g w n : Nat} {A : Wst} {x : Slt} {N : Nm} {γ : Nat → Slt} {S : zS} {I I' I0 : zI} {J : zJ}
theorem CNm.fr (h : CNm S I g n N) (h1 : I' g = I g) (h6 : I' (z_rv S g 6) = I (z_rv S g 6)) (h7 : I' (z_rv S g 7) = I (z_rv S g 7)) (ht : N.ki = true → I' (z_rv S (z_rv S g 6) 1) = I (z_rv S (z_rv S g 6) 1)) (hf : N.ki = false → I' (z_rv S (z_rv S g 6) 0) = I (z_rv S (z_rv S g 6) 0)) : CNm S I' g n N := by
  obtain ⟨c1, c2, c3, c4, c5, c6⟩ := h
  refine ⟨c1, c2, by rw [h7]; exact c3, by rw [h1]; exact c4, fun q => ?_, fun q => ?_⟩
  · rw [h6, ht q]; exact c5 q
  · rw [hf q]; exact c6 q
theorem GC.fr (h : GC S I a g x) (hF : ∀ y, Kpt S a y → I' y = I y) : GC S I' a g x := by
  obtain ⟨h1, h2, ⟨k6, k7, k1, k0⟩, h4, h5⟩ := h
  have gd := h1.2.2.2.2.2.2.1
  have eg : I' g = I g := hF g (Or.inl gd)
  refine ⟨h1.fr (by rw [eg]) (fun y hy _ => hF y (Or.inl hy)), h2.fr eg (hF _ (Or.inl k6)) (hF _ (Or.inl k7)) (fun q => hF _ (k1 q)) (fun q => hF _ (k0 q)), ⟨k6, k7, k1, k0⟩, by rw [eg]; exact h4, ?_⟩
  rcases h5 with h5 | ⟨⟨s1, s2, s3, s4⟩, s5⟩
  · exact Or.inl h5
  · right
    refine ⟨⟨s1, s2, by rw [eg]; exact s3, fun k hk => ?_⟩, s5⟩
    rw [hF _ (Or.inl s5)]; exact s4 k hk
theorem CSl.fr (h : CSl S I J a w γ x) (h1 : ∀ y, w ≤ y → y ≤ w + 11 → I' y = I y) (h2 : ∀ y, Dyn a y → I' y = I y) : CSl S I' J a w γ x := by
  obtain ⟨c1, c2, c3, c4, c5⟩ := h
  refine ⟨c1, c2, c3.fr h1 h2, ?_, by rw [h1 w (by omega) (by omega)]; exact c5⟩
  rw [h1 (w + 1) (by omega) (by omega)]; exact c4
theorem CHi.fr (h : CHi S I a γ A) (h1 : ∀ y, a + 44 ≤ y → y ≤ a + 47 → I' y = I y) : CHi S I' a γ A := by
  unfold CHi
  rw [h1 (a + 44) (by omega) (by omega), h1 (a + 45) (by omega) (by omega), h1 (a + 47) (by omega) (by omega)]
  exact h
theorem CKn.fr (h : CKn I a A) (h1 : I' a 12 = I a 12 ∧ I' a 13 = I a 13 ∧ I' a 14 = I a 14 ∧ I' a 15 = I a 15) (h2 : I' (a + 70) = I (a + 70)) (h3 : I' (a + 71) = I (a + 71)) : CKn I' a A := by
  unfold CKn
  rw [h1.1, h1.2.1, h1.2.2.1, h1.2.2.2, h2, h3]; exact h
/-- a constant lies elsewhere -/
theorem Kpt.far (hL : CLay S a) {y : Nat} (h : Kpt S a y) : y ≠ a ∧ y ≠ a + 1 := by
  rcases h with h | h
  · unfold Dyn at h; omega
  · refine ⟨fun e => ?_, fun e => ?_⟩
    · rw [e, hL.1] at h; cases h
    · rw [e, hL.2.1.2.1] at h; cases h
theorem c_feed (x1 x2 x3 x4 x5 : Int32) (hd : 1 < d) (h : CW S I0 J a A) (hA : WOk A) : ∃ I', z_ev d i_X11_feed [.ref a, .int x1, .int x2, .int x3, .int x4, .int x5] S I0 J (some (.int (aFeed A))) S I' J ∧ (∀ y, y ≠ a → y ≠ a + 1 → I' y = I0 y) ∧ CW S I' J a (wFeed A x1 x2 x3 x4 x5) := by
  obtain ⟨d, rfl⟩ := z_dep (d := d) (by omega)
  have h' := h
  obtain ⟨γ, hL, hG, c0, c1, cH, ⟨ht, hp⟩, hF, hK⟩ := h
  have hk := hL.1
  have b0 := hL.2.1
  have htl := hA.2.2.2
  have e20 : I0 a 1 + 20 = nI (A.tl + 20) := by rw [ht, z_lit 20, nI_add]
  by_cases c : A.tl + 20 ≤ 300
  · obtain ⟨I1, p1, p2, p3, p4, p5, p6⟩ := c_putOnTape (d := d) (S := S) (J := J) x1 (by omega) hk b0 ht (by omega)
    obtain ⟨I2, q1, q2, q3, q4, q5, q6⟩ := c_putOnTape (d := d) (S := S) (J := J) x2 (by omega) hk b0 p4 (by omega)
    obtain ⟨I3, r1, r2, r3, r4, r5, r6⟩ := c_putOnTape (d := d) (S := S) (J := J) x3 (by omega) hk b0 q4 (by omega)
    obtain ⟨I4, s1, s2, s3, s4, s5, s6⟩ := c_putOnTape (d := d) (S := S) (J := J) x4 (by omega) hk b0 r4 (by omega)
    obtain ⟨I5, t1, t2, t3, t4, t5, t6⟩ := c_putOnTape (d := d) (S := S) (J := J) x5 (by omega) hk b0 s4 (by omega)
    have fr : ∀ y, y ≠ a → y ≠ a + 1 → I5 y = I0 y := fun y g1 g2 => by rw [t2 y g1 g2, s2 y g1 g2, r2 y g1 g2, q2 y g1 g2, p2 y g1 g2]
    have ff : ∀ k, k ≠ 1 → I5 a k = I0 a k := fun k hk => by rw [t3 k hk, s3 k hk, r3 k hk, q3 k hk, p3 k hk]
    refine ⟨I5, e_X11_feed (b_X11_feed_0 hk (fun _ => b_X11_feed_16 hk ⟨_, _, _, _, p1, b_X11_feed_21 hk ⟨_, _, _, _, q1, b_X11_feed_26 hk ⟨_, _, _, _, r1, b_X11_feed_31 hk ⟨_, _, _, _, s1, b_X11_feed_37 hk ⟨_, _, _, _, t1, b_X11_feed_43 hk ⟨?_, rfl, rfl, rfl⟩⟩⟩⟩⟩⟩) (fun z => absurd (by rw [e20]; exact nI_le c (by decide)) z)), fr, γ, hL, fun y hy => (hG y hy).fr (fun u hu => fr u (hu.far hL).1 (hu.far hL).2), ?_, ?_, ?_, ⟨?_, fun j hj => ?_⟩, ?_, ?_⟩
    · rw [t4, aFeed, if_pos c]
    · rw [wFeed, if_pos c]
      exact c0.fr (fun y g1 g2 => fr y (by omega) (by omega)) (fun y hy => fr y (by unfold Dyn at hy; omega) (by unfold Dyn at hy; omega))
    · rw [wFeed, if_pos c]
      exact c1.fr (fun y g1 g2 => fr y (by omega) (by omega)) (fun y hy => fr y (by unfold Dyn at hy; omega) (by unfold Dyn at hy; omega))
    · rw [wFeed, if_pos c]
      exact CHi.fr (A := A) cH (fun y g1 g2 => fr y (by omega) (by omega))
    · rw [t4, wFeed, if_pos c]; rfl
    · rw [wFeed, if_pos c] at hj ⊢
      have hj : j < A.tl + 20 := hj
      show I5 (a + 1) j = if j < A.tl then A.tp j else fdb x1 x2 x3 x4 x5 (j - A.tl)
      by_cases e : j < A.tl
      · rw [if_pos e, t5 j (by omega), s5 j (by omega), r5 j (by omega), q5 j (by omega), p5 j e]; exact hp j e
      · rw [if_neg e]
        obtain ⟨i, rfl⟩ : ∃ i, j = A.tl + i := ⟨j - A.tl, by omega⟩
        rw [show A.tl + i - A.tl = i by omega]
        unfold fdb fdx
        by_cases e1 : i < 4
        · rw [if_pos e1, t5 _ (by omega), s5 _ (by omega), r5 _ (by omega), q5 _ (by omega), p6 i e1, show i % 4 = i by omega]
        · rw [if_neg e1]
          by_cases e2 : i < 8
          · rw [if_pos e2, t5 _ (by omega), s5 _ (by omega), r5 _ (by omega), show A.tl + i = A.tl + 4 + (i - 4) by omega, q6 (i - 4) (by omega), show i % 4 = i - 4 by omega]
          · rw [if_neg e2]
            by_cases e3 : i < 12
            · rw [if_pos e3, t5 _ (by omega), s5 _ (by omega), show A.tl + i = A.tl + 4 + 4 + (i - 8) by omega, r6 (i - 8) (by omega), show i % 4 = i - 8 by omega]
            · rw [if_neg e3]
              by_cases e4 : i < 16
              · rw [if_pos e4, t5 _ (by omega), show A.tl + i = A.tl + 4 + 4 + 4 + (i - 12) by omega, s6 (i - 12) (by omega), show i % 4 = i - 12 by omega]
              · rw [if_neg e4, show A.tl + i = A.tl + 4 + 4 + 4 + 4 + (i - 16) by omega, t6 (i - 16) (by omega), show i % 4 = i - 16 by omega]
    · rw [wFeed, if_pos c, ff 3 (by decide), ff 4 (by decide)]; exact hF
    · rw [wFeed, if_pos c]
      exact CKn.fr (A := A) hK ⟨ff 12 (by decide), ff 13 (by decide), ff 14 (by decide), ff 15 (by decide)⟩ (fr _ (by omega) (by omega)) (fr _ (by omega) (by omega))
  · refine ⟨I0, e_X11_feed (b_X11_feed_0 hk (fun z => absurd z (by rw [e20, z_lit 300, nI_leI (by omega) (by decide)]; exact c)) (fun _ => b_X11_feed_13 ⟨?_, rfl, rfl, rfl⟩)), fun _ _ _ => rfl, ?_⟩
    · rw [aFeed, if_neg c]
    · rw [wFeed, if_neg c]; exact h'
end C28

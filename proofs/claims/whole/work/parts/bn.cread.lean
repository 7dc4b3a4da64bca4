/-! THE CLASS: its reader -/
def skx : Nat → Nat
  | 0 => 2 | 1 => 3 | 2 => 0 | 3 => 1 | 4 => 4 | 5 => 5 | 6 => 6 | 7 => 7 | 8 => 8 | _ => 9
/-- the class's words -/
def STS (S : zS) (I : zI) : Prop := ∀ j, j < 9 → Str S I (z_rv S 0 j) (kln (skx j)) (kch (skx j))
/-- it stands at q -/
def RS (S : zS) (I : zI) (a : Nat) (B : Nat → Int32) (n q : Nat) : Prop := RLay S a ∧ LXs S I (a + 9) (a + 1) B n ∧ LXq I (a + 9) B n q
/-- what the reader changes -/
def RFr (I I' : zI) (a : Nat) : Prop := ∀ h, h < a + 2 ∨ a + 9 < h → I' h = I h
section CR1
variable {d a n q x y : Nat} {B : Nat → Int32} {S : zS} {I I0 I1 I2 : zI} {J : zJ}
theorem RFr.refl : RFr I I a := fun _ _ => rfl
theorem RFr.trans (h : RFr I I1 a) (h' : RFr I1 I2 a) : RFr I I2 a := fun y hy => by rw [h' y hy, h y hy]
theorem LFr.rf (h : LFr I I1 (a + 9)) : RFr I I1 a := fun y hy => h.1 y (by omega)
theorem STS.fr (h : STS S I) (hL : RLay S a) (hF : ∀ y, z_kd S y ≠ 11 → z_kd S y ≠ 3 → z_kd S y ≠ 100 → z_kd S y ≠ 6 → I1 y = I y) : STS S I1 := fun j hj => by
  obtain ⟨h1, h2, h3, h4, h5, h6⟩ := h j hj
  refine ⟨h1, by rw [hF _ (by rw [h1]; decide) (by rw [h1]; decide) (by rw [h1]; decide) (by rw [h1]; decide)]; exact h2, h3, h4, fun i hi => ?_, h6⟩
  rw [hF _ (fun e => by rw [e] at h3; cases h3) (fun e => by rw [e] at h3; cases h3) (fun e => by rw [e] at h3; cases h3) (fun e => by rw [e] at h3; cases h3)]; exact h5 i hi
theorem RLay.k9 (hL : RLay S a) {y : Nat} (h1 : a + 2 ≤ y) (h2 : y ≤ a + 9) : z_kd S y = 11 ∨ z_kd S y = 3 ∨ z_kd S y = 100 ∨ z_kd S y = 6 := by
  obtain ⟨l1, _, _, ⟨b1, b2, b3, b4, b5, b6⟩, l5, _⟩ := hL
  rcases (show y = a + 2 ∨ y = a + 3 ∨ y = a + 3 + 1 ∨ y = a + 3 + 2 ∨ y = a + 3 + 3 ∨ y = a + 3 + 4 ∨ y = a + 3 + 5 ∨ y = a + 9 by omega) with e | e | e | e | e | e | e | e
  · rw [e]; exact Or.inl l1
  · rw [e]; exact Or.inr (Or.inl b1)
  · rw [e]; exact Or.inr (Or.inr (Or.inl b2.2.1))
  · rw [e]; exact Or.inr (Or.inr (Or.inl b3.2.1))
  · rw [e]; exact Or.inr (Or.inr (Or.inl b4.2.1))
  · rw [e]; exact Or.inr (Or.inr (Or.inl b5.2.1))
  · rw [e]; exact Or.inr (Or.inr (Or.inl b6.2.1))
  · rw [e]; exact Or.inr (Or.inr (Or.inr l5))
theorem STS.rf (h : STS S I) (hL : RLay S a) (hF : RFr I I1 a) : STS S I1 := h.fr hL (fun y n1 n2 n3 n4 => by
  by_cases c : a + 2 ≤ y ∧ y ≤ a + 9
  · rcases hL.k9 c.1 c.2 with q | q | q | q
    · exact absurd q n1
    · exact absurd q n2
    · exact absurd q n3
    · exact absurd q n4
  · exact hF y (by omega))
theorem EO.rf (h : EO S I) (hL : RLay S a) (hF : RFr I I1 a) : EO S I1 := by
  obtain ⟨h1, h2, h3⟩ := h
  refine ⟨h1, h2, fun k hk => ?_⟩
  rw [hF]
  · exact h3 k hk
  · by_cases c : a + 2 ≤ z_rv S 0 20 ∧ z_rv S 0 20 ≤ a + 9
    · rcases hL.k9 c.1 c.2 with q | q | q | q <;> rw [h1] at q <;> cases q
    · omega
/-- reading what the Lexer does not touch -/
theorem RS.of (h : RS S I a B n q) (h9 : I1 (a + 9) = I (a + 9)) (h1 : I1 (a + 1) = I (a + 1)) : RS S I1 a B n q := by
  obtain ⟨a1, ⟨b1, b2, b3, b4⟩, c⟩ := h
  refine ⟨a1, ⟨b1, b2, by rw [h9]; exact b3, fun j hj => by rw [h1]; exact b4 j hj⟩, ?_⟩
  unfold LXq
  rw [h9]; exact c
theorem c_rfail (c pl : Int32) (hd : 0 < d) (hL : RLay S a) : z_ev d i_X10_fail [.ref (a + 2), .int c, .int pl] S I J (some (.int 0)) S (z_u2 (z_u2 I (a + 2) 0 c) (a + 2) 1 pl) J := by
  obtain ⟨d, rfl⟩ := z_dep hd
  exact e_X10_fail (b_X10_fail_0 hL.1 hL.1 z_fit0 ⟨rfl, rfl, rfl, rfl⟩)
theorem c_take0 (hd : 1 < d) (h : RS S I a B n q) : z_ev d i_X10_take [.ref (a + 2), .int 0] S I J (some (.int 0)) S (z_u2 (z_u2 I (a + 2) 0 1) (a + 2) 1 (nI q)) J := by
  obtain ⟨d, rfl⟩ := z_dep (d := d) (by omega)
  obtain ⟨hL, hX, hq⟩ := h
  obtain ⟨l1, l2, l3, l4, l5⟩ := hL
  refine e_X10_take (b_X10_take_0 (fun z => absurd rfl z) (fun _ => b_X10_take_4 l1 (by rw [l2]; exact l5.1) l1 ?_))
  rw [l2, hq.2.1]
  exact ⟨_, _, _, _, c_rfail 1 (nI q) (by omega) ⟨l1, l2, l3, l4, l5⟩, b_X10_take_16 z_fit0 ⟨rfl, rfl, rfl, rfl⟩⟩
theorem c_take1 (hd : 2 < d) (h : RS S I0 a B n q) : ∃ I', z_ev d i_X10_take [.ref (a + 2), .int 1] S I0 J (some (.int 1)) S I' J ∧ LFr I0 I' (a + 9) ∧ RS S I' a B n (pnx B n q) := by
  obtain ⟨d, rfl⟩ := z_dep (d := d) (by omega)
  obtain ⟨hL, hX, hq⟩ := h
  obtain ⟨l1, l2, l3, l4, l5⟩ := hL
  obtain ⟨I1, p1, p2, p3⟩ := c_adv (d := d) (J := J) (by omega) hX hq
  refine ⟨I1, e_X10_take (b_X10_take_0 (fun _ => b_X10_take_17 l1 (by rw [l2]; exact l5.1) ?_) (fun z => by cases z)), p2, ⟨l1, l2, l3, l4, l5⟩, hX.fr p2, p3⟩
  rw [l2]
  exact ⟨_, _, _, _, p1, b_X10_take_24 z_fit1 ⟨rfl, rfl, rfl, rfl⟩⟩
theorem c_word {j k : Nat} (hj : j < 9) (hk : skx j = k) (hd : 4 < d) (h : RS S I a B n q) (hs : STS S I) : z_ev d i_X5_isWord [.ref (a + 9), .ref (z_rv S 0 j)] S I J (some (.int (nI (zb (pkw B n q = k))))) S I J := by
  have := hs j hj
  rw [hk] at this
  refine c_isWord (k := k) ?_ hd h.2.1 h.2.2 this
  rw [← hk]
  have : ∀ j, j < 9 → skx j < 9 := by decide
  exact this j hj
/-- the letter of a factor -/
theorem c_letter (hd : 5 < d) (h : RS S I a B n q) (hs : STS S I) : z_ev d i_X10_factorLetter [.ref (a + 2)] S I J (some (.int (if 5 ≤ pkw B n q ∧ pkw B n q ≤ 8 then nI (ltc (pkw B n q)) else 0))) S I J := by
  obtain ⟨d, rfl⟩ := z_dep (d := d) (by omega)
  obtain ⟨l1, l2, l3, l4, l5⟩ := h.1
  have kl : z_kd S (z_rv S (a + 2) 5) = 6 := by rw [l2]; exact l5.1
  have hkl := pkw_le (B := B) (n := n) (q := q)
  have w := fun {j k} (hj : j < 9) (hk : skx j = k) => c_word (d := d) (J := J) (k := k) hj hk (by omega) h hs
  unfold ltc
  refine e_X10_factorLetter (b_X10_factorLetter_0 l1 kl ?_)
  rw [l2]
  refine ⟨_, _, _, _, w (j := 5) (k := 5) (by decide) rfl, b_X10_factorLetter_9 (fun z => b_X10_factorLetter_15 l1 kl ?_) (fun z => b_X10_factorLetter_12 ⟨z_someI ?_, rfl, rfl, rfl⟩)⟩
  · have z := zb_0.mp z
    rw [l2]
    refine ⟨_, _, _, _, w (j := 6) (k := 6) (by decide) rfl, b_X10_factorLetter_24 (fun z2 => b_X10_factorLetter_30 l1 kl ?_) (fun z2 => b_X10_factorLetter_27 ⟨z_someI ?_, rfl, rfl, rfl⟩)⟩
    · have z2 := zb_0.mp z2
      rw [l2]
      refine ⟨_, _, _, _, w (j := 7) (k := 7) (by decide) rfl, b_X10_factorLetter_39 (fun z3 => b_X10_factorLetter_45 l1 kl ?_) (fun z3 => b_X10_factorLetter_42 ⟨z_someI ?_, rfl, rfl, rfl⟩)⟩
      · have z3 := zb_0.mp z3
        rw [l2]
        refine ⟨_, _, _, _, w (j := 8) (k := 8) (by decide) rfl, b_X10_factorLetter_54 (fun z4 => b_X10_factorLetter_62 ⟨z_someI ?_, rfl, rfl, rfl⟩) (fun z4 => b_X10_factorLetter_57 ⟨z_someI ?_, rfl, rfl, rfl⟩)⟩
        · have z4 := zb_0.mp z4
          rw [if_neg (by omega)]
        · have z4 := zb_1.mp z4
          rw [if_pos (by omega), if_neg (by omega), if_neg (by omega), if_neg (by omega)]; rfl
      · have z3 := zb_1.mp z3
        rw [if_pos (by omega), if_neg (by omega), if_neg (by omega), if_pos z3]; rfl
    · have z2 := zb_1.mp z2
      rw [if_pos (by omega), if_neg (by omega), if_pos z2]; rfl
  · have z := zb_1.mp z
    rw [if_pos (by omega), if_pos z]; rfl
theorem c_leastOf {k : Nat} (hd : 0 < d) (hk : 5 ≤ k ∧ k ≤ 8) : z_ev d i_X10_leastOf [.int (nI (ltc k))] S I J (some (.int (nI (floW k)))) S I J := by
  obtain ⟨d, rfl⟩ := z_dep hd
  unfold floW ltc
  rcases (show k = 5 ∨ k = 6 ∨ k = 7 ∨ k = 8 by omega) with e | e | e | e <;> subst e
  · exact e_X10_leastOf (b_X10_leastOf_0 (fun _ => b_X10_leastOf_10 ⟨rfl, rfl, rfl, rfl⟩) (fun z => absurd z (by decide)))
  · exact e_X10_leastOf (b_X10_leastOf_0 (fun _ => b_X10_leastOf_10 ⟨rfl, rfl, rfl, rfl⟩) (fun z => absurd z (by decide)))
  · exact e_X10_leastOf (b_X10_leastOf_0 (fun z => absurd (by decide) z) (fun _ => b_X10_leastOf_6 ⟨rfl, rfl, rfl, rfl⟩))
  · exact e_X10_leastOf (b_X10_leastOf_0 (fun _ => b_X10_leastOf_10 ⟨rfl, rfl, rfl, rfl⟩) (fun z => absurd z (by decide)))
theorem c_mostOf {k : Nat} (hd : 0 < d) (hk : 5 ≤ k ∧ k ≤ 8) : z_ev d i_X10_mostOf [.int (nI (ltc k))] S I J (some (.int (nI (fhiW k)))) S I J := by
  obtain ⟨d, rfl⟩ := z_dep hd
  unfold fhiW ltc
  rcases (show k = 5 ∨ k = 6 ∨ k = 7 ∨ k = 8 by omega) with e | e | e | e <;> subst e
  · exact e_X10_mostOf (b_X10_mostOf_0 (fun z => absurd (by decide) z) (fun _ => b_X10_mostOf_6 ⟨rfl, rfl, rfl, rfl⟩))
  · exact e_X10_mostOf (b_X10_mostOf_0 (fun _ => b_X10_mostOf_9 (fun z => absurd (by decide) z) (fun _ => b_X10_mostOf_15 ⟨rfl, rfl, rfl, rfl⟩)) (fun z => absurd z (by decide)))
  · exact e_X10_mostOf (b_X10_mostOf_0 (fun _ => b_X10_mostOf_9 (fun _ => b_X10_mostOf_20 ⟨rfl, rfl, rfl, rfl⟩) (fun z => absurd z (by decide))) (fun z => absurd z (by decide)))
  · exact e_X10_mostOf (b_X10_mostOf_0 (fun _ => b_X10_mostOf_9 (fun _ => b_X10_mostOf_20 ⟨rfl, rfl, rfl, rfl⟩) (fun z => absurd z (by decide))) (fun z => absurd z (by decide)))
end CR1

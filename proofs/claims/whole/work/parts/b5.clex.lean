/-! THE CLASS: the parts of a text -/
/-- what a Lexer at L holds all the time -/
def LXs (S : zS) (I : zI) (L tp : Nat) (B : Nat → Int32) (n : Nat) : Prop := z_kd S L = 6 ∧ (z_rv S L 0 = tp ∧ z_kd S tp = 101 ∧ z_ln S tp = 300) ∧ (I L 1 = nI n ∧ n ≤ 300) ∧ ∀ j, j < n → I tp j = B j
/-- it stands at q -/
def LXq (I : zI) (L : Nat) (B : Nat → Int32) (n q : Nat) : Prop := (q ≤ n ∧ psp B n q = q) ∧ I L 2 = nI q ∧ I L 3 = nI (pte B n q) ∧ I L 4 = nI (pts B n q)
/-- what a Lexer changes -/
def LFr (I I' : zI) (L : Nat) : Prop := (∀ h, h ≠ L → I' h = I h) ∧ ∀ k, k ≠ 2 → k ≠ 3 → k ≠ 4 → I' L k = I L k
section CX
variable {d L tp n q p : Nat} {B : Nat → Int32} {S : zS} {I I0 I1 I2 : zI} {J : zJ}
theorem LFr.refl : LFr I I L := ⟨fun _ _ => rfl, fun _ _ _ _ => rfl⟩
theorem LFr.trans (h : LFr I I1 L) (h' : LFr I1 I2 L) : LFr I I2 L := ⟨fun y hy => by rw [h'.1 y hy, h.1 y hy], fun k a b c => by rw [h'.2 k a b c, h.2 k a b c]⟩
theorem LFr.w {k : Nat} {v : Int32} (h : LFr I I1 L) (hk : k = 2 ∨ k = 3 ∨ k = 4) : LFr I (z_u2 I1 L k v) L := ⟨fun y hy => by rw [z_u2_row hy, h.1 y hy], fun j a b c => by rw [z_u2_nk (by omega), h.2 j a b c]⟩
theorem LXs.ne (h : LXs S I L tp B n) : tp ≠ L := fun e => by
  have h1 := h.1
  have h2 := h.2.1.2.1
  rw [e, h1] at h2; cases h2
theorem LXs.fr (h : LXs S I L tp B n) (hF : LFr I I1 L) : LXs S I1 L tp B n := ⟨h.1, h.2.1, ⟨by rw [hF.2 1 (by decide) (by decide) (by decide)]; exact h.2.2.1.1, h.2.2.1.2⟩, fun j hj => by rw [hF.1 tp h.ne]; exact h.2.2.2 j hj⟩
theorem LXs.rd (h : LXs S I L tp B n) {v : Int32} {j : Nat} (hv : v = nI j) (hj : j < n) : (z_isB (z_kd S (z_rv S L 0)) = true ∧ vp_in v (z_ln S (z_rv S L 0))) ∧ I (z_rv S L 0) (Int32.toNatClampNeg v) = B j := by
  obtain ⟨_, ⟨e, k, l⟩, ⟨_, hn⟩, hb⟩ := h
  rw [e, k, l, hv, nI_clamp (by omega)]
  exact ⟨⟨rfl, vp_in_nI (by omega) (by decide)⟩, hb j hj⟩
theorem c_goesOn {P : Int32 → Prop} {lo hi : Int32} (hP : ∀ x, P x ↔ (lo ≤ x ∧ x ≤ hi)) (hd : 0 < d) (h : LXs S I0 L tp B n) (h2 : I0 L 2 = nI q) (hq : q ≤ n) : ∃ I', z_ev d i_X5_goesOn [.ref L, .int lo, .int hi] S I0 J (some (.int (nI (zb (q < prn P B n q))))) S I' J ∧ LFr I0 I' L ∧ I' L 2 = nI q ∧ I' L 3 = nI (prn P B n q) ∧ I' L 4 = I0 L 4 := by
  obtain ⟨d, rfl⟩ := z_dep hd
  have hk := h.1
  have hn := h.2.2.1.2
  obtain ⟨Q, hQ⟩ : ∃ Q : zQ, Q = fun w S' I' J' => w = some (.int (nI (zb (q < prn P B n q)))) ∧ S' = S ∧ J' = J ∧ LFr I0 I' L ∧ I' L 2 = nI q ∧ I' L 3 = nI (prn P B n q) ∧ I' L 4 = I0 L 4 := ⟨_, rfl⟩
  suffices hw : z_wp (d + 1) i_X5_goesOn [.ref L, .int lo, .int hi] S I0 J Q by
    rw [hQ] at hw
    obtain ⟨w, S', I', J', x1, rfl, rfl, rfl, x2⟩ := hw
    exact ⟨I', x1, x2⟩
  refine w_X5_goesOn (b_X5_goesOn_0 hk hk ?_)
  have hle := prn_le (P := P) (B := B) hq
  suffices H : ∀ k p I1, n ≤ p + k → p ≤ n → prn P B n p = prn P B n q → I1 L 3 = nI p → LFr I0 I1 L → I1 L 2 = nI q → I1 L 4 = I0 L 4 → Go d i_X5_goesOn 8 [.ref L, .int lo, .int hi] [] S I1 J Q from H n q _ (by omega) hq rfl (by rw [z_u2_same, h2]) (LFr.refl.w (by omega)) (by rw [z_u2_nk (by decide)]; exact h2) (by rw [z_u2_nk (by decide)])
  have ends : ∀ p I1, p = prn P B n q → I1 L 3 = nI p → LFr I0 I1 L → I1 L 2 = nI q → I1 L 4 = I0 L 4 → Go d i_X5_goesOn 58 [.ref L, .int lo, .int hi] [] S I1 J Q := fun p I1 e g3 gF g2 g4 => by
    have hp : p ≤ n := by rw [e]; exact hle
    refine b_X5_goesOn_58 hk hk (fun z => b_X5_goesOn_73 z_fit0 ?_) (fun z => b_X5_goesOn_69 z_fit1 ?_)
    · rw [g3, g2, nI_leI (by omega) (by omega)] at z
      rw [hQ]
      exact ⟨by rw [zb_f (show ¬ q < prn P B n q by omega)]; rfl, rfl, rfl, gF, g2, by rw [g3, e], g4⟩
    · rw [g3, g2, nI_leI (by omega) (by omega)] at z
      rw [hQ]
      exact ⟨by rw [zb_t (show q < prn P B n q by omega)]; rfl, rfl, rfl, gF, g2, by rw [g3, e], g4⟩
  intro k
  induction k with
  | zero =>
    intro p I1 hk0 hp hpq g3 gF g2 g4
    have hs := h.fr gF
    refine b_X5_goesOn_8 hk hk (fun _ => ends p I1 (by rw [← hpq]; exact (prn_stop (fun z => by omega)).symm) g3 gF g2 g4) (fun c => absurd ?_ c)
    rw [hs.2.2.1.1, g3]; exact nI_le (by omega) (by omega)
  | succ k ih =>
    intro p I1 hk0 hp hpq g3 gF g2 g4
    have hs := h.fr gF
    refine b_X5_goesOn_8 hk hk (fun c => ?_) (fun c => ?_)
    · rw [hs.2.2.1.1, g3, nI_leI (by omega) (by omega)] at c
      exact ends p I1 (by rw [← hpq]; exact (prn_stop (fun z => by omega)).symm) g3 gF g2 g4
    · rw [hs.2.2.1.1, g3, nI_leI (by omega) (by omega)] at c
      obtain ⟨r1, r2⟩ := hs.rd g3 (show p < n by omega)
      refine b_X5_goesOn_19 hk hk r1 (fun z => ?_) (fun z => b_X5_goesOn_32 hk hk r1 (fun z2 => ?_) (fun z2 => b_X5_goesOn_45 hk hk ?_))
      · rw [r2] at z
        exact ends p I1 (by rw [← hpq]; exact (prn_stop (fun y => (i32_nle.mpr z) ((hP _).mp y.2).1)).symm) g3 gF g2 g4
      · rw [r2] at z2
        exact ends p I1 (by rw [← hpq]; exact (prn_stop (fun y => (i32_nle.mpr z2) ((hP _).mp y.2).2)).symm) g3 gF g2 g4
      · rw [r2] at z z2
        refine ih (p + 1) _ (by omega) (by omega) ?_ (by rw [z_u2_same, g3, nI_1]) (gF.w (by omega)) (by rw [z_u2_nk (by decide)]; exact g2) (by rw [z_u2_nk (by decide)]; exact g4)
        rw [← hpq]
        refine (prn_step ⟨by omega, (hP _).mpr ⟨?_, ?_⟩⟩).symm
        · exact Decidable.byContradiction (fun y => z (i32_nle.mp y))
        · exact Decidable.byContradiction (fun y => z2 (i32_nle.mp y))
theorem c_advance (hd : 1 < d) (h : LXs S I0 L tp B n) (h3 : I0 L 3 = nI p) (hp : p ≤ n) : ∃ I', z_ev d i_X5_advance [.ref L] S I0 J none S I' J ∧ LFr I0 I' L ∧ LXq I' L B n (psp B n p) := by
  obtain ⟨d, rfl⟩ := z_dep (d := d) (by omega)
  have hk := h.1
  have hn := h.2.2.1.2
  obtain ⟨q, hq⟩ : ∃ q, q = psp B n p := ⟨_, rfl⟩
  have hql : q ≤ n := by rw [hq]; exact psp_le hp
  have hqs : psp B n q = q := by rw [hq]; exact psp_idem
  obtain ⟨Q, hQ⟩ : ∃ Q : zQ, Q = fun w S' I' J' => w = none ∧ S' = S ∧ J' = J ∧ LFr I0 I' L ∧ LXq I' L B n q := ⟨_, rfl⟩
  suffices hw : z_wp (d + 1) i_X5_advance [.ref L] S I0 J Q by
    rw [hQ] at hw
    obtain ⟨w, S', I', J', x1, rfl, rfl, rfl, x2⟩ := hw
    rw [← hq]
    exact ⟨I', x1, x2⟩
  refine w_X5_advance (b_X5_advance_0 hk hk ?_)
  have fin : ∀ I1, LFr I0 I1 L → I1 L 2 = nI q → Go d i_X5_advance 46 [.ref L] [] S I1 J Q := fun I1 gF g2 => by
    have hs := h.fr gF
    refine b_X5_advance_46 hk hk (fun c => b_X5_advance_79 hk ?_) (fun c => b_X5_advance_57 hk hk hk hk hk ?_)
    · rw [hs.2.2.1.1, g2, nI_ltI (by omega) (by omega)] at c
      obtain ⟨I2, p1, p2, p3, p4, p5⟩ := c_goesOn (d := d) (J := J) (P := Ltr) (fun x => Iff.rfl) (by omega) hs g2 hql
      refine ⟨_, _, _, _, p1, b_X5_advance_87 (fun z => ?_) (fun z => b_X5_advance_90 hk ?_)⟩
      · have z := zb_0.mp z
        have nl : ¬ Ltr (B q) := fun y => z (prn_lt ⟨c, y⟩)
        have hs2 := hs.fr p2
        obtain ⟨I3, q1, q2, q3, q4, q5⟩ := c_goesOn (d := d) (J := J) (P := Dgt) (fun x => Iff.rfl) (by omega) hs2 p3 hql
        refine b_X5_advance_98 hk ⟨_, _, _, _, q1, b_X5_advance_106 (fun z2 => b_X5_advance_117 hk hk hk ?_) (fun z2 => b_X5_advance_109 hk ?_)⟩
        · have z2 := zb_0.mp z2
          have nd : ¬ Dgt (B q) := fun y => z2 (prn_lt ⟨c, y⟩)
          rw [hQ]
          refine ⟨rfl, rfl, rfl, (((gF.trans p2).trans q2).w (by omega)).w (by omega), ⟨hql, hqs⟩, ?_, ?_, ?_⟩
          · rw [z_u2_nk (by decide), z_u2_nk (by decide)]; exact q3
          · rw [z_u2_same, z_u2_nk (by decide), q3, nI_1, pte_s ⟨c, nl, nd⟩]
          · rw [z_u2_nk (by decide), z_u2_same, pts_s.mpr ⟨c, nl, nd⟩]; rfl
        · have z2 := zb_1.mp z2
          have yd : Dgt (B q) := by
            rcases Classical.em (Dgt (B q)) with y | y
            · exact y
            · rw [prn_stop (P := Dgt) (fun w => y w.2)] at z2; omega
          rw [hQ]
          refine ⟨rfl, rfl, rfl, (((gF.trans p2).trans q2).w (by omega)), ⟨hql, hqs⟩, ?_, ?_, ?_⟩
          · rw [z_u2_nk (by decide)]; exact q3
          · rw [z_u2_nk (by decide), q4, pte_n ⟨c, yd⟩]
          · rw [z_u2_same, pts_n.mpr ⟨c, yd⟩]; rfl
      · have z := zb_1.mp z
        have yl : Ltr (B q) := by
          rcases Classical.em (Ltr (B q)) with y | y
          · exact y
          · rw [prn_stop (P := Ltr) (fun w => y w.2)] at z; omega
        rw [hQ]
        refine ⟨rfl, rfl, rfl, ((gF.trans p2).w (by omega)), ⟨hql, hqs⟩, ?_, ?_, ?_⟩
        · rw [z_u2_nk (by decide)]; exact p3
        · rw [z_u2_nk (by decide), p4, pte_w ⟨c, yl⟩]
        · rw [z_u2_same, pts_w.mpr ⟨c, yl⟩]; rfl
    · rw [hs.2.2.1.1, g2, nI_ltI (by omega) (by omega)] at c
      have eq : q = n := by omega
      rw [hQ]
      refine ⟨rfl, rfl, rfl, ((gF.w (by omega)).w (by omega)).w (by omega), ⟨hql, hqs⟩, ?_, ?_, ?_⟩
      · rw [z_u2_nk (by decide), z_u2_nk (by decide), z_u2_same, hs.2.2.1.1, eq]
      · rw [z_u2_nk (by decide), z_u2_same, z_u2_nk (by decide), hs.2.2.1.1, pte_e c]
      · rw [z_u2_same, pts_e.mpr c]; rfl
  suffices H : ∀ k p I1, n ≤ p + k → p ≤ n → psp B n p = q → I1 L 2 = nI p → LFr I0 I1 L → Go d i_X5_advance 8 [.ref L] [] S I1 J Q from H n p _ (by omega) hp hq.symm (by rw [z_u2_same, h3]) (LFr.refl.w (by omega))
  intro k
  induction k with
  | zero =>
    intro p I1 hk0 hp hpq g2 gF
    have hs := h.fr gF
    have e : psp B n p = p := prn_stop (fun z => by omega)
    refine b_X5_advance_8 hk hk (fun _ => fin I1 gF (by rw [g2, ← hpq, e])) (fun c => absurd ?_ c)
    rw [hs.2.2.1.1, g2]; exact nI_le (by omega) (by omega)
  | succ k ih =>
    intro p I1 hk0 hp hpq g2 gF
    have hs := h.fr gF
    refine b_X5_advance_8 hk hk (fun c => ?_) (fun c => ?_)
    · rw [hs.2.2.1.1, g2, nI_leI (by omega) (by omega)] at c
      have e : psp B n p = p := prn_stop (fun z => by omega)
      exact fin I1 gF (by rw [g2, ← hpq, e])
    · rw [hs.2.2.1.1, g2, nI_leI (by omega) (by omega)] at c
      obtain ⟨r1, r2⟩ := hs.rd g2 (show p < n by omega)
      refine b_X5_advance_19 hk hk r1 (fun z => ?_) (fun z => b_X5_advance_33 hk hk ?_)
      · rw [r2] at z
        have e : psp B n p = p := prn_stop (P := Spc) (fun y => z y.2)
        exact fin I1 gF (by rw [g2, ← hpq, e])
      · rw [r2] at z
        refine ih (p + 1) _ (by omega) (by omega) ?_ (by rw [z_u2_same, g2, nI_1]) (gF.w (by omega))
        rw [← hpq]
        exact (prn_step (P := Spc) ⟨by omega, z⟩).symm
/-- from one part to the next -/
theorem c_adv (hd : 1 < d) (h : LXs S I0 L tp B n) (hq : LXq I0 L B n q) : ∃ I', z_ev d i_X5_advance [.ref L] S I0 J none S I' J ∧ LFr I0 I' L ∧ LXq I' L B n (pnx B n q) := c_advance hd h hq.2.2.1 (pte_le hq.1.1)
theorem c_isSign {x : Int32} (hx : ¬ Ltr x ∧ ¬ Dgt x) (hd : 0 < d) (h : LXs S I L tp B n) (hq : LXq I L B n q) : z_ev d i_X5_isSign [.ref L, .int x] S I J (some (.int (nI (zb (q < n ∧ B q = x))))) S I J := by
  obtain ⟨d, rfl⟩ := z_dep hd
  have hk := h.1
  have h4 := hq.2.2.2
  have hl := pts_lt B n q
  rcases Classical.em (pts B n q = 3) with c | c
  · obtain ⟨c1, c2, c3⟩ := pts_s.mp c
    obtain ⟨r1, r2⟩ := h.rd hq.2.1 c1
    refine e_X5_isSign (b_X5_isSign_0 hk (fun z => absurd (by rw [h4, c]; rfl) z) (fun _ => b_X5_isSign_8 hk hk r1 (fun z => b_X5_isSign_25 z_fit0 ⟨?_, rfl, rfl, rfl⟩) (fun z => b_X5_isSign_21 z_fit1 ⟨?_, rfl, rfl, rfl⟩)))
    · rw [r2] at z
      rw [zb_f (fun y => z y.2)]; rfl
    · rw [r2] at z
      rw [zb_t ⟨c1, z⟩]; rfl
  · refine e_X5_isSign (b_X5_isSign_0 hk (fun _ => b_X5_isSign_25 z_fit0 ⟨?_, rfl, rfl, rfl⟩) (fun z => absurd ?_ c))
    · rw [zb_f]
      · rfl
      · rintro ⟨y1, y2⟩
        exact c (pts_s.mpr ⟨y1, by rw [y2]; exact hx.1, by rw [y2]; exact hx.2⟩)
    · rw [h4, z_lit 3, nI_eq (by omega) (by decide)] at z
      exact z
theorem c_isWord {h k : Nat} (hk9 : k < 9) (hd : 4 < d) (hX : LXs S I L tp B n) (hq : LXq I L B n q) (hs : Str S I h (kln k) (kch k)) : z_ev d i_X5_isWord [.ref L, .ref h] S I J (some (.int (nI (zb (pkw B n q = k))))) S I J := by
  obtain ⟨d, rfl⟩ := z_dep (d := d) (by omega)
  have hk := hX.1
  have hn := hX.2.2.1.2
  have h4 := hq.2.2.2
  have hl := pts_lt B n q
  have hkl : kln k ≤ 5 := by
    have : ∀ k, k < 9 → kln k ≤ 5 := by decide
    exact this k hk9
  rcases Classical.em (pts B n q = 1) with c | c
  · have c1 := pts_w.mp c
    have ete := pte_w c1
    have hge := prn_ge (P := Ltr) (B := B) (n := n) (p := q)
    have hle := prn_le (P := Ltr) (B := B) (n := n) (p := q) hq.1.1
    have esub : I L 3 - I L 2 = nI (prn Ltr B n q - q) := by rw [hq.2.2.1, hq.2.1, ete, pk_sub hge]
    refine e_X5_isWord (b_X5_isWord_0 hk (fun z => absurd (by rw [h4, c]; rfl) z) (fun _ => b_X5_isWord_8 hs.1 ⟨_, _, _, _, j_length (by omega) hs, b_X5_isWord_12 hk hk (fun z => b_X5_isWord_26 ?_) (fun z => b_X5_isWord_24 z_fit0 ⟨?_, rfl, rfl, rfl⟩)⟩))
    · rw [esub, nI_eq (by omega) (by omega)] at z
      have el : prn Ltr B n q = q + kln k := by omega
      suffices H : ∀ i, i ≤ kln k → (∀ j, j < i → B (q + j) = nI (kch k j)) → Go d i_X5_isWord 28 [.ref L, .ref h, .int (nI i)] [] S I J (z_eq (some (.int (nI (zb (pkw B n q = k))))) S I J) from H 0 (by omega) (fun j hj => by omega)
      refine z_up_to (kln k) ?_ ?_
      · intro hall
        refine b_X5_isWord_28 hs.1 ⟨_, _, _, _, j_length (by omega) hs, b_X5_isWord_33 (fun _ => b_X5_isWord_63 z_fit1 ⟨?_, rfl, rfl, rfl⟩) (fun z => absurd (nI_le (Nat.le_refl _) (by omega)) z)⟩
        rw [zb_t ((pkw_is hk9).mp ⟨hk9, c1, el, hall⟩)]; rfl
      · intro i hi ih hall
        obtain ⟨r1, r2⟩ := hX.rd (v := I L 2 + nI i) (j := q + i) (by rw [hq.2.1, nI_add]) (by omega)
        refine b_X5_isWord_28 hs.1 ⟨_, _, _, _, j_length (by omega) hs, b_X5_isWord_33 (fun z => absurd z (nI_ge hi (by omega))) (fun _ => b_X5_isWord_36 hk hk r1 hs.1 ⟨_, _, _, _, j_charAt (by omega) hs hi, b_X5_isWord_52 (fun z => ?_) (fun z => b_X5_isWord_55 z_fit0 ⟨?_, rfl, rfl, rfl⟩)⟩)⟩
        · rw [r2] at z
          refine b_X5_isWord_57 ?_
          rw [nI_1]
          exact ih (fun j hj => by
            rcases (show j < i ∨ j = i by omega) with e | e
            · exact hall j e
            · rw [e]; exact z)
        · rw [r2] at z
          rw [zb_f (fun y => z (((pkw_is hk9).mpr y).2.2.2 i hi))]; rfl
    · rw [esub, nI_eq (by omega) (by omega)] at z
      rw [zb_f (fun y => z (by have := ((pkw_is hk9).mpr y).2.2.1; omega))]; rfl
  · refine e_X5_isWord (b_X5_isWord_0 hk (fun _ => b_X5_isWord_24 z_fit0 ⟨?_, rfl, rfl, rfl⟩) (fun z => absurd ?_ c))
    · rw [zb_f (fun y => c (pts_w.mpr (pkw_ne (by omega))))]; rfl
    · rw [h4, z_lit 1, nI_eq (by omega) (by decide)] at z
      exact z
theorem c_number (hd : 0 < d) (h : LXs S I L tp B n) (hq : LXq I L B n q) (hn2 : pts B n q = 2) : z_ev d i_X5_number [.ref L] S I J (some (.int (if pte B n q ≤ q + 2 then nI (nvl B q (pte B n q)) else -1))) S I J := by
  obtain ⟨d, rfl⟩ := z_dep hd
  have hk := h.1
  have hn := h.2.2.1.2
  have c := pts_n.mp hn2
  have hgt := pte_gt (B := B) c.1
  have hle := pte_le (B := B) hq.1.1
  have hdg : ∀ j, q ≤ j → j < pte B n q → j < n ∧ Dgt (B j) := fun j h1 h2 => prn_in h1 (by rw [← pte_n c]; exact h2)
  have esub : I L 3 - I L 2 = nI (pte B n q - q) := by rw [hq.2.2.1, hq.2.1, pk_sub (by omega)]
  refine e_X5_number (b_X5_number_0 hk hk (fun z => b_X5_number_15 hk ?_) (fun z => b_X5_number_13 ⟨z_someI ?_, rfl, rfl, rfl⟩))
  · rw [esub, z_lit 2, nI_leI (by omega) (by decide)] at z
    rw [if_pos (show pte B n q ≤ q + 2 by omega), hq.2.1]
    have env := nvi_e (B := B) hgt
    have hv100 : ∀ i, i ≤ pte B n q - q → nvi B q i < 100 := fun i hi => nvi_lt (fun j h1 h2 => (dvl_lt (hdg (q + j) (by omega) (by omega)).2).1)
    suffices H : ∀ i, i ≤ pte B n q - q → Go d i_X5_number 22 [.ref L, .int (nI (nvi B q i)), .int (nI (q + i))] [] S I J (z_eq (some (.int (nI (nvl B q (pte B n q))))) S I J) from H 0 (by omega)
    refine z_up_to (pte B n q - q) ?_ ?_
    · refine b_X5_number_22 hk (fun _ => b_X5_number_51 ⟨by rw [env], rfl, rfl, rfl⟩) (fun z2 => absurd ?_ z2)
      rw [hq.2.2.1]; exact nI_le (by omega) (by omega)
    · intro i hi ih
      obtain ⟨s1, s2⟩ := hdg (q + i) (by omega) (by omega)
      obtain ⟨s3, s4⟩ := dvl_lt s2
      obtain ⟨r1, r2⟩ := h.rd (v := nI (q + i)) rfl s1
      have hv := hv100 i (by omega)
      refine b_X5_number_22 hk (fun z2 => ?_) (fun _ => b_X5_number_30 hk r1 ?_)
      · rw [hq.2.2.1, nI_leI (by omega) (by omega)] at z2; omega
      · rw [r2, s4, z_lit 10, pk_mul, nI_add, z_lit 48, pk_sub (by omega), nI_1]
        have ev : 10 * nvi B q i + (48 + dvl B (q + i)) - 48 = nvi B q (i + 1) := by
          unfold nvi
          rcases (show i = 0 ∨ i = 1 by omega) with e0 | e0
          · rw [if_pos e0, if_neg (by omega), if_pos (by omega), e0]; simp only [Nat.add_zero]; omega
          · rw [if_neg (by omega), if_pos e0, if_neg (by omega), if_neg (by omega), e0]; omega
        rw [ev]
        exact ih
  · rw [esub, z_lit 2, nI_leI (by omega) (by decide)] at z
    rw [if_neg (by omega)]
end CX

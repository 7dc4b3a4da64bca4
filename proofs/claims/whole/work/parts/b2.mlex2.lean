/-! THE MODEL: it reads -/
/-- the model stands at a place (behind spaces: q), and nothing is wrong yet -/
def PM (S : zS) (I : zI) (m : Nat) (B : Nat → Int32) (n q : Nat) : Prop := MLay S m ∧ (I m 4 = nI n ∧ n ≤ 300 ∧ I m 7 = -1) ∧ (∃ p, p ≤ n ∧ I m 5 = nI p ∧ psp B n p = q) ∧ I m 6 = 0 ∧ ∀ j, j < n → I (m + 2) j = B j ∧ Byt (B j)
/-- what reading changes -/
def PFr (I I' : zI) (m : Nat) : Prop := (∀ h, h ≠ m → I' h = I h) ∧ ∀ k, k ≠ 5 → k ≠ 6 → k ≠ 7 → I' m k = I m k
noncomputable def pkv (B : Nat → Int32) (n q : Nat) : Int32 := zq (q < n) (B q &&& 255) (-1)
def kwv (k : Nat) : Int32 := if k = 9 then -1 else nI k
def kst : Nat → Nat
  | 0 => 1 | 1 => 7 | 2 => 13 | 3 => 19 | 4 => 24 | 5 => 26 | 6 => 28 | 7 => 30 | 8 => 32 | _ => 34
def kys : List Nat := [32, 103, 114, 111, 117, 112, 32, 112, 101, 114, 109, 115, 32, 115, 116, 101, 112, 115, 32, 98, 111, 116, 104, 32, 120, 32, 99, 32, 100, 32, 113, 32, 97, 32]
def kyc (i : Nat) : Nat := kys.getD i 0
theorem kyc_in : ∀ k, k < 9 → ∀ i, i < kln k → kyc (kst k + i) = kch k i ∧ kch k i ≠ 32 := by decide
theorem kyc_at : ∀ k, k < 9 → kyc (kst k + kln k) = 32 ∧ kst k + kln k + 1 = kst (k + 1) ∧ kst k + kln k < 34 := by decide
/-- the model's words -/
def KY (S : zS) (I : zI) : Prop := Str S I (z_rv S 0 9) 34 kyc
section MX
variable {d m n q p : Nat} {B : Nat → Int32} {S : zS} {I I0 I1 I2 : zI} {J : zJ}
theorem PFr.refl : PFr I I m := ⟨fun _ _ => rfl, fun _ _ _ _ => rfl⟩
theorem PFr.trans (h : PFr I I1 m) (h' : PFr I1 I2 m) : PFr I I2 m := ⟨fun y hy => by rw [h'.1 y hy, h.1 y hy], fun k a b c => by rw [h'.2 k a b c, h.2 k a b c]⟩
theorem PFr.w5 {v : Int32} (h : PFr I I1 m) : PFr I (z_u2 I1 m 5 v) m := ⟨fun y hy => by rw [z_u2_row hy, h.1 y hy], fun k a b c => by rw [z_u2_nk a, h.2 k a b c]⟩
theorem PFr.w67 {v w : Int32} (h : PFr I I1 m) : PFr I (z_u2 (z_u2 I1 m 6 v) m 7 w) m := ⟨fun y hy => by rw [z_u2_row hy, z_u2_row hy, h.1 y hy], fun k a b c => by rw [z_u2_nk c, z_u2_nk b, h.2 k a b c]⟩
theorem PM.le (h : PM S I m B n q) : q ≤ n := by
  obtain ⟨_, _, ⟨p, h1, _, h2⟩, _⟩ := h
  rw [← h2]; exact psp_le h1
theorem PM.sp (h : PM S I m B n q) : psp B n q = q := by
  obtain ⟨_, _, ⟨p, h1, _, h2⟩, _⟩ := h
  exact psp_of h2
theorem PM.to (h : PM S I m B n q) {q' p' : Nat} (hF : PFr I I1 m) (h5 : I1 m 5 = nI p') (hp : p' ≤ n) (hq : psp B n p' = q') (h6 : I1 m 6 = 0 ∧ I1 m 7 = I m 7) : PM S I1 m B n q' := by
  obtain ⟨a1, ⟨a2, a3⟩, _, _, a5⟩ := h
  exact ⟨a1, ⟨by rw [hF.2 4 (by decide) (by decide) (by decide)]; exact a2, a3.1, by rw [h6.2]; exact a3.2⟩, ⟨p', hp, h5, hq⟩, h6.1, fun j hj => by rw [hF.1 (m + 2) (by omega)]; exact a5 j hj⟩
theorem KY.fr (h : KY S I) (hm : z_kd S m = 13) (hk : ∀ y, y ≠ m → I1 y = I y) : KY S I1 := by
  obtain ⟨h1, h2, h3, h4, h5, h6⟩ := h
  refine ⟨h1, by rw [hk _ (fun e => by rw [e, hm] at h1; cases h1)]; exact h2, h3, h4, fun i hi => ?_, h6⟩
  rw [hk _ (fun e => by rw [e, hm] at h3; cases h3)]; exact h5 i hi
theorem m_isLtr {x : Int32} (hd : 1 < d) : z_ev d i_X12_isLetter [.int x] S I J (some (.int (nI (zb (Ltr x))))) S I J := by
  obtain ⟨d, rfl⟩ := z_dep (d := d) (by omega)
  exact e_X12_isLetter (b_X12_isLetter_0 ⟨_, _, _, _, m_isIn (by omega) rfl rfl rfl, b_X12_isLetter_11 (z_fitz _) ⟨rfl, rfl, rfl, rfl⟩⟩)
theorem m_isDgt {x : Int32} (hd : 1 < d) : z_ev d i_X12_isDigit [.int x] S I J (some (.int (nI (zb (Dgt x))))) S I J := by
  obtain ⟨d, rfl⟩ := z_dep (d := d) (by omega)
  exact e_X12_isDigit (b_X12_isDigit_0 ⟨_, _, _, _, m_isIn (by omega) rfl rfl rfl, b_X12_isDigit_11 (z_fitz _) ⟨rfl, rfl, rfl, rfl⟩⟩)
theorem pkv_l (hb : ∀ j, j < n → Byt (B j)) : Ltr (pkv B n q) ↔ q < n ∧ Ltr (B q) := by
  unfold pkv
  rcases Classical.em (q < n) with h | h
  · rw [zq_t h, byt_l (hb q h)]; exact ⟨fun z => ⟨h, z⟩, fun z => z.2⟩
  · rw [zq_f h]; exact ⟨fun z => absurd z.1 (by decide), fun z => absurd z.1 h⟩
theorem pkv_d (hb : ∀ j, j < n → Byt (B j)) : Dgt (pkv B n q) ↔ q < n ∧ Dgt (B q) := by
  unfold pkv
  rcases Classical.em (q < n) with h | h
  · rw [zq_t h, (byt_d (hb q h)).1]; exact ⟨fun z => ⟨h, z⟩, fun z => z.2⟩
  · rw [zq_f h]; exact ⟨fun z => absurd z.1 (by decide), fun z => absurd z.1 h⟩
theorem pkv_59 (hb : ∀ j, j < n → Byt (B j)) : pkv B n q = 59 ↔ q < n ∧ B q = 59 := by
  unfold pkv
  rcases Classical.em (q < n) with h | h
  · rw [zq_t h, (byt_d (hb q h)).2.1]; exact ⟨fun z => ⟨h, z⟩, fun z => z.2⟩
  · rw [zq_f h]; exact ⟨fun z => absurd z (by decide), fun z => absurd z.1 h⟩
theorem pkv_44 (hb : ∀ j, j < n → Byt (B j)) : pkv B n q = 44 ↔ q < n ∧ B q = 44 := by
  unfold pkv
  rcases Classical.em (q < n) with h | h
  · rw [zq_t h, (byt_d (hb q h)).2.2.1]; exact ⟨fun z => ⟨h, z⟩, fun z => z.2⟩
  · rw [zq_f h]; exact ⟨fun z => absurd z (by decide), fun z => absurd z.1 h⟩
theorem pkv_e (hb : ∀ j, j < n → Byt (B j)) : pkv B n q = -1 ↔ ¬ q < n := by
  unfold pkv
  rcases Classical.em (q < n) with h | h
  · rw [zq_t h]; exact ⟨fun z => absurd z (byt_d (hb q h)).2.2.2, fun z => absurd h z⟩
  · rw [zq_f h]; exact ⟨fun _ => h, fun _ => rfl⟩
theorem m_peek (hd : 0 < d) (h : PM S I0 m B n q) : ∃ I', z_ev d i_X12_peek [.ref m] S I0 J (some (.int (pkv B n q))) S I' J ∧ PFr I0 I' m ∧ PM S I' m B n q ∧ I' m 5 = nI q := by
  obtain ⟨d, rfl⟩ := z_dep hd
  have h' := h
  obtain ⟨hL, ⟨h4, hn⟩, ⟨p, hp, h5, hq⟩, h6, hB⟩ := h
  have hk := hL.k
  have b2 := hL.2.2.1
  obtain ⟨Q, hQ⟩ : ∃ Q : zQ, Q = fun w S' I' J' => w = some (.int (pkv B n q)) ∧ S' = S ∧ J' = J ∧ PFr I0 I' m ∧ I' m 5 = nI q ∧ (I' m 6 = 0 ∧ I' m 7 = I0 m 7) := ⟨_, rfl⟩
  suffices hw : z_wp (d + 1) i_X12_peek [.ref m] S I0 J Q by
    rw [hQ] at hw
    obtain ⟨w, S', I', J', x1, rfl, rfl, rfl, x2, x3, x4⟩ := hw
    exact ⟨I', x1, x2, h'.to x2 x3 h'.le h'.sp x4, x3⟩
  refine w_X12_peek ?_
  suffices H : ∀ k p I1, n ≤ p + k → p ≤ n → psp B n p = q → I1 m 5 = nI p → PFr I0 I1 m → (I1 m 6 = 0 ∧ I1 m 7 = I0 m 7) → Go d i_X12_peek 0 [.ref m] [] S I1 J Q from H n p I0 (by omega) hp hq h5 PFr.refl ⟨h6, rfl⟩
  intro k
  have ends : ∀ p I1, p ≤ n → p = q → I1 m 5 = nI p → PFr I0 I1 m → (I1 m 6 = 0 ∧ I1 m 7 = I0 m 7) → Go d i_X12_peek 38 [.ref m] [] S I1 J Q := fun p I1 hp e g5 gF g6 => by
    have g4 : I1 m 4 = nI n := by rw [gF.2 4 (by decide) (by decide) (by decide)]; exact h4
    refine b_X12_peek_38 hk hk (fun c => b_X12_peek_65 ?_) (fun c => ?_)
    · rw [g4, g5, nI_leI (by omega) (by omega)] at c
      rw [hQ]
      exact ⟨by rw [show pkv B n q = -1 from zq_f (by omega)], rfl, rfl, gF, by rw [g5, e], g6⟩
    · rw [g4, g5, nI_leI (by omega) (by omega)] at c
      refine b_X12_peek_49 hk hk ⟨by rw [b2.kd]; rfl, by rw [g5, b2.ln]; exact vp_in_nI (by omega) (by decide)⟩ ?_
      rw [hQ]
      refine ⟨?_, rfl, rfl, gF, by rw [g5, e], g6⟩
      rw [g5, nI_clamp (by omega), b2.1, gF.1 (m + 2) (by omega), (hB p (by omega)).1, e]
      exact congrArg (fun v => some (Value.int v)) (show B q &&& 255 = pkv B n q from (zq_t (by omega)).symm)
  induction k with
  | zero =>
    intro p I1 hk0 hp hq g5 gF g6
    have g4 : I1 m 4 = nI n := by rw [gF.2 4 (by decide) (by decide) (by decide)]; exact h4
    refine b_X12_peek_0 hk hk (fun c => ends p I1 hp (by rw [← hq]; exact (prn_stop (fun z => by omega)).symm) g5 gF g6) (fun c => absurd ?_ c)
    rw [g4, g5]; exact nI_le (by omega) (by omega)
  | succ k ih =>
    intro p I1 hk0 hp hq g5 gF g6
    have g4 : I1 m 4 = nI n := by rw [gF.2 4 (by decide) (by decide) (by decide)]; exact h4
    refine b_X12_peek_0 hk hk (fun c => ?_) (fun c => ?_)
    · rw [g4, g5, nI_leI (by omega) (by omega)] at c
      exact ends p I1 hp (by rw [← hq]; exact (prn_stop (fun z => by omega)).symm) g5 gF g6
    · rw [g4, g5, nI_leI (by omega) (by omega)] at c
      have eb : I1 (z_rv S m 2) (Int32.toNatClampNeg (I1 m 5)) = B p := by rw [g5, nI_clamp (by omega), b2.1, gF.1 (m + 2) (by omega), (hB p (by omega)).1]
      refine b_X12_peek_11 hk hk ⟨by rw [b2.kd]; rfl, by rw [g5, b2.ln]; exact vp_in_nI (by omega) (by decide)⟩ (fun c2 => ?_) (fun c2 => b_X12_peek_25 hk hk ?_)
      · rw [eb] at c2
        exact ends p I1 hp (by rw [← hq]; exact (prn_stop (P := Spc) (fun z => c2 z.2)).symm) g5 gF g6
      · rw [eb] at c2
        refine ih (p + 1) _ (by omega) (by omega) ?_ ?_ gF.w5 (by rw [z_u2_nk (by decide), z_u2_nk (by decide)]; exact g6)
        · rw [← hq]; exact (prn_step (P := Spc) ⟨by omega, c2⟩).symm
        · rw [z_u2_same, g5, nI_1]
theorem m_fails {c pl : Int32} (hd : 0 < d) (hk : z_kd S m = 13) (h6 : I m 6 = 0) : z_ev d i_X12_fails [.ref m, .int c, .int pl] S I J none S (z_u2 (z_u2 I m 6 c) m 7 pl) J := by
  obtain ⟨d, rfl⟩ := z_dep hd
  exact e_X12_fails (b_X12_fails_0 hk (fun _ => b_X12_fails_8 hk hk ⟨rfl, rfl, rfl, rfl⟩) (fun z => absurd h6 z))
theorem m_passes (hd : 2 < d) (h : PM S I0 m B n q) (hp5 : I0 m 5 = nI q) : ∃ I', z_ev d i_X12_passesWord [.ref m] S I0 J none S I' J ∧ PFr I0 I' m ∧ PM S I' m B n (psp B n (prn Ltr B n q)) := by
  obtain ⟨d, rfl⟩ := z_dep (d := d) (by omega)
  have h' := h
  obtain ⟨hL, ⟨h4, hn⟩, _, h6, hB⟩ := h
  have hql := h'.le
  have hk := hL.k
  have b2 := hL.2.2.1
  obtain ⟨Q, hQ⟩ : ∃ Q : zQ, Q = fun w S' I' J' => w = none ∧ S' = S ∧ J' = J ∧ PFr I0 I' m ∧ I' m 5 = nI (prn Ltr B n q) ∧ (I' m 6 = 0 ∧ I' m 7 = I0 m 7) := ⟨_, rfl⟩
  suffices hw : z_wp (d + 1) i_X12_passesWord [.ref m] S I0 J Q by
    rw [hQ] at hw
    obtain ⟨w, S', I', J', x1, rfl, rfl, rfl, x2, x3, x4⟩ := hw
    exact ⟨I', x1, x2, h'.to x2 x3 (prn_le hql) rfl x4⟩
  refine w_X12_passesWord ?_
  suffices H : ∀ k p I1, n ≤ p + k → p ≤ n → prn Ltr B n p = prn Ltr B n q → I1 m 5 = nI p → PFr I0 I1 m → (I1 m 6 = 0 ∧ I1 m 7 = I0 m 7) → Go d i_X12_passesWord 0 [.ref m] [] S I1 J Q from H n q I0 (by omega) hql rfl hp5 PFr.refl ⟨h6, rfl⟩
  intro k
  have ends : ∀ p I1, p = prn Ltr B n q → I1 m 5 = nI p → PFr I0 I1 m → (I1 m 6 = 0 ∧ I1 m 7 = I0 m 7) → Go d i_X12_passesWord 39 [.ref m] [] S I1 J Q := fun p I1 e g5 gF g6 => by
    refine b_X12_passesWord_39 ?_
    rw [hQ]
    exact ⟨rfl, rfl, rfl, gF, by rw [g5, e], g6⟩
  induction k with
  | zero =>
    intro p I1 hk0 hp hq g5 gF g6
    have g4 : I1 m 4 = nI n := by rw [gF.2 4 (by decide) (by decide) (by decide)]; exact h4
    refine b_X12_passesWord_0 hk hk (fun c => ends p I1 (by rw [← hq]; exact (prn_stop (fun z => by omega)).symm) g5 gF g6) (fun c => absurd ?_ c)
    rw [g4, g5]; exact nI_le (by omega) (by omega)
  | succ k ih =>
    intro p I1 hk0 hp hq g5 gF g6
    have g4 : I1 m 4 = nI n := by rw [gF.2 4 (by decide) (by decide) (by decide)]; exact h4
    refine b_X12_passesWord_0 hk hk (fun c => ?_) (fun c => ?_)
    · rw [g4, g5, nI_leI (by omega) (by omega)] at c
      exact ends p I1 (by rw [← hq]; exact (prn_stop (fun z => by omega)).symm) g5 gF g6
    · rw [g4, g5, nI_leI (by omega) (by omega)] at c
      have eb : I1 (z_rv S m 2) (Int32.toNatClampNeg (I1 m 5)) = B p := by rw [g5, nI_clamp (by omega), b2.1, gF.1 (m + 2) (by omega), (hB p (by omega)).1]
      refine b_X12_passesWord_11 hk hk ⟨by rw [b2.kd]; rfl, by rw [g5, b2.ln]; exact vp_in_nI (by omega) (by decide)⟩ ?_
      rw [eb]
      refine ⟨_, _, _, _, m_isLtr (by omega), b_X12_passesWord_23 (fun c2 => ?_) (fun c2 => b_X12_passesWord_26 hk hk ?_)⟩
      · exact ends p I1 (by rw [← hq]; exact (prn_stop (P := Ltr) (fun z => (zb_0.mp c2) z.2)).symm) g5 gF g6
      · refine ih (p + 1) _ (by omega) (by omega) ?_ ?_ gF.w5 (by rw [z_u2_nk (by decide), z_u2_nk (by decide)]; exact g6)
        · rw [← hq]; exact (prn_step (P := Ltr) ⟨by omega, zb_1.mp c2⟩).symm
        · rw [z_u2_same, g5, nI_1]
theorem m_must (hd : 1 < d) (h : PM S I0 m B n q) : ∃ I', z_ev d i_X12_must [.ref m, .int 59] S I0 J none S I' J ∧ PFr I0 I' m ∧ ((q < n ∧ B q = 59) → PM S I' m B n (psp B n (q + 1))) ∧ (¬ (q < n ∧ B q = 59) → I' m 6 = 1 ∧ I' m 7 = nI q) := by
  obtain ⟨d, rfl⟩ := z_dep (d := d) (by omega)
  have hk := h.1.k
  have h6 := h.2.2.2.1
  obtain ⟨I1, p1, p2, p3, p4⟩ := m_peek (d := d) (J := J) (by omega) h
  have hb : ∀ j, j < n → Byt (B j) := fun j hj => (h.2.2.2.2 j hj).2
  have p6 := p3.2.2.2.1
  rcases Classical.em (q < n ∧ B q = 59) with c | c
  · refine ⟨_, e_X12_must (b_X12_must_0 hk (fun z => absurd h6 z) (fun _ => b_X12_must_7 hk ⟨_, _, _, _, p1, b_X12_must_11 (fun _ => b_X12_must_24 hk hk ⟨rfl, rfl, rfl, rfl⟩) (fun z => absurd ((pkv_59 hb).mpr c) z)⟩)), p2.w5, fun _ => ?_, fun z => absurd c z⟩
    exact p3.to PFr.refl.w5 (by rw [z_u2_same, p4, nI_1]) (by omega) rfl ⟨by rw [z_u2_nk (by decide)]; exact p6, by rw [z_u2_nk (by decide)]⟩
  · refine ⟨_, e_X12_must (b_X12_must_0 hk (fun z => absurd h6 z) (fun _ => b_X12_must_7 hk ⟨_, _, _, _, p1, b_X12_must_11 (fun z => absurd ((pkv_59 hb).mp z) c) (fun _ => b_X12_must_15 hk hk ⟨_, _, _, _, m_fails (by omega) hk p6, b_X12_must_24 hk hk ⟨rfl, rfl, rfl, rfl⟩⟩)⟩)), (p2.w67).w5, fun z => absurd z c, fun _ => ⟨?_, ?_⟩⟩
    · rw [z_u2_nk (by decide), z_u2_nk (by decide), z_u2_same]
    · rw [z_u2_nk (by decide), z_u2_same, p4]
end MX

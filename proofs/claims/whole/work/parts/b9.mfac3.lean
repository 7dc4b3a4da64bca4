/-! THE MODEL: a factor is read, a group is read -/
/-- what reading a group changes -/
def PGr (I I' : zI) (m : Nat) : Prop := (∀ h, h ≠ m → h ≠ m + 1 → h ≠ m + 3 → h ≠ m + 4 → h ≠ m + 5 → h ≠ m + 6 → I' h = I h) ∧ (∀ j, j < 1330 → I' (m + 1) j = I (m + 1) j) ∧ ∀ k, k ≤ 4 ∨ 17 ≤ k → I' m k = I m k
/-- the work slot holds the product of the first ln factors -/
def WKF (I : zI) (m : Nat) (F : Nat → Nat × Nat) (ln : Nat) : Prop := I (m + 1) 1330 = nI (nP F ln) ∧ I (m + 1) 1331 = 0 ∧ I (m + 1) 1332 = 0 ∧ I (m + 1) 1333 = nI ln ∧ I (m + 1) 1334 = 0 ∧ (∀ i, i < ln → I (m + 1) (1355 + i) = nI (fsz (F i).1 (F i).2)) ∧ ∀ x y, x < nP F ln → y < nP F ln → I (m + 1) (1595 + 20 * x + y) = nI (tP F ln x y)
def floW (k : Nat) : Nat := if k = 7 then 2 else 1
def fhiW (k : Nat) : Nat := if k = 5 then 20 else if k = 6 then 10 else 5
noncomputable def facN (B : Nat → Int32) (n k q : Nat) : (Nat × Nat) ⊕ (Nat × Nat) := if k = 8 then .inr (0, pnx B n q) else numP B n (floW k) (fhiW k) (pnx B n q)
noncomputable def facP (B : Nat → Int32) (n : Nat) (F : Nat → Nat × Nat) (ln q : Nat) : (Nat × Nat) ⊕ ((Nat × Nat) × Nat) := zq (5 ≤ pkw B n q ∧ pkw B n q ≤ 8) (match facN B n (pkw B n q) q with
  | .inl c => .inl c
  | .inr c => zq (nP F ln * fsz (pkw B n q) c.1 ≤ 20) (.inr ((pkw B n q, c.1), c.2)) (.inl (3, q))) (.inl (1, q))
theorem facN_ok {B : Nat → Int32} {n k q : Nat} (hk : 5 ≤ k ∧ k ≤ 8) {c : Nat × Nat} (h : facN B n k q = .inr c) : FOk k c.1 := by
  unfold facN at h
  by_cases e : k = 8
  · rw [if_pos e] at h
    have h := Sum.inr.inj h
    rw [← h]
    exact Or.inr (Or.inr (Or.inr ⟨e, rfl⟩))
  · rw [if_neg e] at h
    unfold numP at h
    rcases Classical.em (pnx B n q < n ∧ Dgt (B (pnx B n q))) with a | a
    · rw [zq_t a] at h
      rcases Classical.em (pte B n (pnx B n q) ≤ pnx B n q + 2 ∧ floW k ≤ nvl B (pnx B n q) (pte B n (pnx B n q)) ∧ nvl B (pnx B n q) (pte B n (pnx B n q)) ≤ fhiW k) with b | b
      · rw [zq_t b] at h
        have h := Sum.inr.inj h
        rw [← h]
        obtain ⟨_, b1, b2⟩ := b
        unfold floW at b1
        unfold fhiW at b2
        show FOk k (nvl B (pnx B n q) (pte B n (pnx B n q)))
        unfold FOk
        rcases (show k = 5 ∨ k = 6 ∨ k = 7 by omega) with e5 | e5 | e5
        · rw [if_neg (by omega)] at b1
          rw [if_pos e5] at b2
          omega
        · rw [if_neg (by omega)] at b1
          rw [if_neg (by omega), if_pos e5] at b2
          omega
        · rw [if_pos e5] at b1
          rw [if_neg (by omega), if_neg (by omega)] at b2
          omega
      · rw [zq_f b] at h; cases h
    · rw [zq_f a] at h; cases h
section MF3
variable {d m n q k b i j ln : Nat} {B : Nat → Int32} {F : Nat → Nat × Nat} {S : zS} {I I0 I1 I2 I3 : zI} {J : zJ}
theorem PGr.refl : PGr I I m := ⟨fun _ _ _ _ _ _ _ => rfl, fun _ _ => rfl, fun _ _ => rfl⟩
theorem PGr.trans (h : PGr I I1 m) (h' : PGr I1 I2 m) : PGr I I2 m := ⟨fun y a b c e f g => by rw [h'.1 y a b c e f g, h.1 y a b c e f g], fun j hj => by rw [h'.2.1 j hj, h.2.1 j hj], fun k hk => by rw [h'.2.2 k hk, h.2.2 k hk]⟩
theorem PFr.gr (h : PFr I I1 m) : PGr I I1 m := ⟨fun y a _ _ _ _ _ => h.1 y a, fun j _ => by rw [h.1 (m + 1) (by omega)], fun k hk => h.2 k (by omega) (by omega) (by omega)⟩
theorem PGr.w {a k : Nat} {v : Int32} (h : PGr I I1 m) (hc : (a = m + 1 ∧ 1330 ≤ k) ∨ (a = m ∧ 5 ≤ k ∧ k ≤ 16) ∨ a = m + 3 ∨ a = m + 4 ∨ a = m + 5 ∨ a = m + 6) : PGr I (z_u2 I1 a k v) m := by
  refine ⟨fun y b1 b2 b3 b4 b5 b6 => by rw [z_u2_row (by omega)]; exact h.1 y b1 b2 b3 b4 b5 b6, fun j hj => ?_, fun k' hk => ?_⟩
  · by_cases e : a = m + 1
    · rw [z_u2_nk (by omega)]; exact h.2.1 j hj
    · rw [z_u2_row (by omega)]; exact h.2.1 j hj
  · by_cases e : a = m
    · rw [z_u2_nk (by omega)]; exact h.2.2 k' hk
    · rw [z_u2_row (by omega)]; exact h.2.2 k' hk
theorem KY.gr (h : KY S I) (hL : MLay S m) (hF : PGr I I1 m) : KY S I1 := by
  obtain ⟨h1, h2, h3, h4, h5, h6⟩ := h
  have key : ∀ y, z_kd S y ≠ 13 → z_kd S y ≠ 100 → I1 y = I y := fun y n1 n2 => hF.1 y (fun e => n1 (by rw [e]; exact hL.1)) (fun e => n2 (by rw [e]; exact hL.2.1.2.1)) (fun e => n2 (by rw [e]; exact hL.2.2.2.1.2.1)) (fun e => n2 (by rw [e]; exact hL.2.2.2.2.1.2.1)) (fun e => n2 (by rw [e]; exact hL.2.2.2.2.2.1.2.1)) (fun e => n2 (by rw [e]; exact hL.2.2.2.2.2.2.1.2.1))
  refine ⟨h1, by rw [key _ (by rw [h1]; decide) (by rw [h1]; decide)]; exact h2, h3, h4, fun i hi => ?_, h6⟩
  rw [key _ (fun e => by rw [e] at h3; cases h3) (fun e => by rw [e] at h3; cases h3)]; exact h5 i hi
theorem PM.gr (h : PM S I m B n q) (hF : PGr I I1 m) (h5 : I1 m 5 = I m 5) (h6 : I1 m 6 = I m 6) (h7 : I1 m 7 = I m 7) : PM S I1 m B n q := by
  obtain ⟨a1, ⟨a2, a3⟩, ⟨p, p1, p2, p3⟩, a4, a5⟩ := h
  exact ⟨a1, ⟨by rw [hF.2.2 4 (by omega)]; exact a2, a3.1, by rw [h7]; exact a3.2⟩, ⟨p, p1, by rw [h5]; exact p2, p3⟩, by rw [h6]; exact a4, fun j hj => by rw [hF.1 (m + 2) (by omega) (by omega) (by omega) (by omega) (by omega) (by omega)]; exact a5 j hj⟩
theorem EVm.fr (h : EVm I m) (h1 : I1 m 11 = I m 11) (h3 : I1 (m + 3) = I (m + 3)) : EVm I1 m := by
  unfold EVm; rw [h1, h3]; exact h
/-- the table grows -/
theorem m_facTab {x1 x2 : Int32} {v5 v6 : Value} {Q : zQ} (hL : MLay S m) (hE : ∀ k, k < 12 → I0 (m + 3) k = nI (evc k)) (h8 : I0 m 8 = nI k) (h9 : I0 m 9 = nI b) (hF : FOk k b) (hW : WKF I0 m F ln) (hH : 0 < nP F ln) (hN : nP F ln * fsz k b ≤ 20) (hln : ln < 80) (hd : 2 < d) (hQ : ∀ I', (∀ h, h ≠ m + 1 → h ≠ m + 4 → I' h = I0 h) → (∀ j, j < 1330 → I' (m + 1) j = I0 (m + 1) j) → WKF I' m (fup F ln (k, b)) (ln + 1) → Q none S I' J) : Go d i_X12_factorRead 145 [.ref m, .int x1, .int x2, .int (nI (nP F ln)), .int (nI (fsz k b)), v5, v6] [] S I0 J Q := by
  have hk := hL.k
  have b0 := hL.a0
  have b4 := hL.2.2.2.2.1
  obtain ⟨H, hHe⟩ : ∃ H, H = nP F ln := ⟨_, rfl⟩
  obtain ⟨G, hGe⟩ : ∃ G, G = fsz k b := ⟨_, rfl⟩
  have hG0 : 0 < G := by rw [hGe]; exact fsz_pos hF
  rw [← hHe] at hH hN ⊢
  rw [← hGe] at hN ⊢
  have hHl : H ≤ 20 := Nat.le_trans (Nat.le_mul_of_pos_right H hG0) hN
  have hGl : G ≤ 20 := Nat.le_trans (Nat.le_mul_of_pos_left G hH) hN
  obtain ⟨w1, w2, w3, w4, w5, w6, w7⟩ := hW
  rw [← hHe] at w1 w7
  have eN : nI H * nI G = nI (H * G) := pk_mul _ _
  have T : ∀ x y, tP (fup F ln (k, b)) (ln + 1) x y = tP F ln (x % H) (y % H) + H * fpr k b (x / H) (y / H) := fun x y => by
    have e1 : nP (fup F ln (k, b)) ln = nP F ln := nP_cg (fun j hj => if_neg (by omega))
    have e2 : tP (fup F ln (k, b)) ln = tP F ln := tP_cg (fun j hj => if_neg (by omega))
    have e3 : fup F ln (k, b) ln = (k, b) := if_pos rfl
    show pdt (nP (fup F ln (k, b)) ln) (tP (fup F ln (k, b)) ln) (fpr (fup F ln (k, b) ln).1 (fup F ln (k, b) ln).2) x y = _
    rw [e1, e2, e3, ← hHe]; rfl
  have NN : nP (fup F ln (k, b)) (ln + 1) = H * G := by
    show nP (fup F ln (k, b)) ln * fsz (fup F ln (k, b) ln).1 (fup F ln (k, b) ln).2 = _
    have e1 : nP (fup F ln (k, b)) ln = nP F ln := nP_cg (fun j hj => if_neg (by omega))
    rw [e1, show fup F ln (k, b) ln = (k, b) from if_pos rfl, ← hHe, ← hGe]
  obtain ⟨N, hNe⟩ : ∃ N, N = H * G := ⟨_, rfl⟩
  rw [← hNe] at hN eN NN
  have hN0 : 0 < N := by rw [hNe]; exact Nat.mul_pos hH hG0
  -- the copy
  have copy : ∀ I1, (∀ h, h ≠ m + 4 → I1 h = I0 h) → (∀ x y, x < N → y < N → I1 (m + 4) (20 * x + y) = nI (tP (fup F ln (k, b)) (ln + 1) x y)) → ∀ (v5 : Int32) (v6 : Value), Go d i_X12_factorRead 232 [.ref m, .int x1, .int x2, .int (nI H), .int (nI G), .int v5, v6] [] S I1 J Q := fun I1 f1 f2 v5 v6 => by
    refine b_X12_factorRead_232 ?_
    suffices HH : ∀ x, x ≤ N → ∀ I2 v6, (∀ h, h ≠ m + 1 → I2 h = I1 h) → (∀ j, j < 1595 → I2 (m + 1) j = I1 (m + 1) j) → (∀ x' y, x' < x → y < N → I2 (m + 1) (1595 + 20 * x' + y) = nI (tP (fup F ln (k, b)) (ln + 1) x' y)) → Go d i_X12_factorRead 235 [.ref m, .int x1, .int x2, .int (nI H), .int (nI G), .int (nI x), v6] [] S I2 J Q from HH 0 (by omega) I1 _ (fun _ _ => rfl) (fun _ _ => rfl) (fun x' y h => by omega)
    refine z_up_to N ?_ ?_
    · intro I2 v6 g1 g2 g3
      refine b_X12_factorRead_235 (fun _ => ?_) (fun z => absurd (by rw [eN]; exact nI_le (Nat.le_refl _) (by omega)) z)
      have r1333 : I2 (m + 1) 1333 = nI ln := by rw [g2 _ (by decide), f1 _ (by omega)]; exact w4
      have c1330 : Int32.toNatClampNeg (1330 : Int32) = 1330 := by decide
      have c1333 : Int32.toNatClampNeg (1333 : Int32) = 1333 := by decide
      have rd : ∀ {v : Int32} {j : Nat}, v = nI j → j < 1995 → z_isI (z_kd S (z_rv S m 0)) = true ∧ vp_in v (z_ln S (z_rv S m 0)) := fun e hj => by rw [e]; exact b0.rd hj (by decide)
      have wr : ∀ {v : Int32} {j : Nat}, v = nI j → j < 1995 → z_kd S (z_rv S m 0) = 100 ∧ vp_in v (z_ln S (z_rv S m 0)) := fun e hj => by rw [e]; exact b0.wr hj (by decide)
      have e1 : (1355 : Int32) + (z_u2 I2 (z_rv S m 0) (Int32.toNatClampNeg (1330 : Int32)) (nI H * nI G)) (z_rv S m 0) (Int32.toNatClampNeg (1333 : Int32)) = nI (1355 + ln) := by rw [c1330, c1333, z_u2_nk (by decide), b0.1, r1333, z_lit 1355, nI_add]
      refine b_X12_factorRead_298 hk (wr (j := 1330) rfl (by decide)) hk hk (rd (j := 1333) rfl (by decide)) (wr e1 (by omega)) rfl hk (rd (j := 1333) rfl (by decide)) (wr (j := 1333) rfl (by decide)) rfl ?_
      rw [e1, nI_clamp (by omega), c1330, c1333, b0.1, z_u2_nk (show 1333 ≠ 1355 + ln by omega), z_u2_nk (show (1333 : Nat) ≠ 1330 by decide), r1333, nI_1, eN]
      refine hQ _ (fun h h1 h4 => ?_) (fun j hj => ?_) ⟨?_, ?_, ?_, ?_, ?_, fun i hi => ?_, fun x y hx hy => ?_⟩
      · rw [z_u2_row h1, z_u2_row h1, z_u2_row h1, g1 h h1, f1 h h4]
      · rw [z_u2_nk (by omega), z_u2_nk (by omega), z_u2_nk (by omega), g2 j (by omega), f1 _ (by omega)]
      · rw [z_u2_nk (by decide), z_u2_nk (by omega), z_u2_same, NN]
      · rw [z_u2_nk (by decide), z_u2_nk (by omega), z_u2_nk (by decide), g2 _ (by decide), f1 _ (by omega)]; exact w2
      · rw [z_u2_nk (by decide), z_u2_nk (by omega), z_u2_nk (by decide), g2 _ (by decide), f1 _ (by omega)]; exact w3
      · rw [z_u2_same]
      · rw [z_u2_nk (by decide), z_u2_nk (by omega), z_u2_nk (by decide), g2 _ (by decide), f1 _ (by omega)]; exact w5
      · rw [z_u2_nk (by omega)]
        by_cases e : i = ln
        · rw [e, z_u2_same, show fup F ln (k, b) ln = (k, b) from if_pos rfl, hGe]
        · rw [z_u2_nk (by omega), z_u2_nk (by omega), g2 _ (by omega), f1 _ (by omega), show fup F ln (k, b) i = F i from if_neg e]
          exact w6 i (by omega)
      · rw [NN] at hx hy
        rw [z_u2_nk (by omega), z_u2_nk (by omega), z_u2_nk (by omega)]
        exact g3 x y hx hy
    · intro x hx ih I2 v6 g1 g2 g3
      refine b_X12_factorRead_235 (fun z => absurd z (by rw [eN]; exact nI_ge hx (by omega))) (fun _ => b_X12_factorRead_244 ?_)
      suffices HI : ∀ y, y ≤ N → ∀ I3, (∀ h, h ≠ m + 1 → I3 h = I1 h) → (∀ j, j < 1595 → I3 (m + 1) j = I1 (m + 1) j) → (∀ x' y', x' < x → y' < N → I3 (m + 1) (1595 + 20 * x' + y') = nI (tP (fup F ln (k, b)) (ln + 1) x' y')) → (∀ y', y' < y → I3 (m + 1) (1595 + 20 * x + y') = nI (tP (fup F ln (k, b)) (ln + 1) x y')) → Go d i_X12_factorRead 247 [.ref m, .int x1, .int x2, .int (nI H), .int (nI G), .int (nI x), .int (nI y)] [] S I3 J Q from HI 0 (by omega) I2 g1 g2 g3 (fun y' h => by omega)
      refine z_up_to N ?_ ?_
      · intro I3 q1 q2 q3 q4
        refine b_X12_factorRead_247 (fun _ => b_X12_factorRead_292 ?_) (fun z => absurd (by rw [eN]; exact nI_le (Nat.le_refl _) (by omega)) z)
        rw [nI_1]
        refine ih I3 _ q1 q2 (fun x' y hx' hy => ?_)
        by_cases e : x' = x
        · rw [e]; exact q4 y hy
        · exact q3 x' y (by omega) hy
      · intro y hy ih2 I3 q1 q2 q3 q4
        have e1 : (20 : Int32) * nI x + nI y = nI (20 * x + y) := by rw [z_lit 20, pk_mul, nI_add]
        have e2 : (1595 : Int32) + (20 : Int32) * nI x + nI y = nI (1595 + 20 * x + y) := by rw [z_lit 20, pk_mul, z_lit 1595, nI_add, nI_add]
        refine b_X12_factorRead_247 (fun z => absurd z (by rw [eN]; exact nI_ge hy (by omega))) (fun _ => b_X12_factorRead_256 hk hk (by rw [e1]; exact b4.rd (by omega) (by decide)) (by rw [e2]; exact b0.wr (by omega) (by decide)) rfl ?_)
        rw [e1, e2, nI_clamp (by omega), nI_clamp (by omega), b0.1, b4.1, nI_1]
        refine ih2 _ (fun h h1 => by rw [z_u2_row h1, q1 h h1]) (fun j hj => by rw [z_u2_nk (by omega), q2 j hj]) (fun x' y' hx' hy' => by rw [z_u2_nk (by omega)]; exact q3 x' y' hx' hy') (fun y' hy' => ?_)
        by_cases e : y' = y
        · rw [e, z_u2_same, q1 (m + 4) (by omega)]; exact f2 x y hx hy
        · rw [z_u2_nk (by omega)]; exact q4 y' (by omega)
  -- the new table, from the end
  refine b_X12_factorRead_145 ?_
  rw [eN]
  have H0 : ¬ nI H = 0 := nI_ne0 hH (by omega)
  have hwf : ∀ c : Nat, c ≤ N → (c = 0 → nI c - 1 < 0) ∧ (0 < c → nI c - 1 = nI (c - 1)) := fun c hc => ⟨fun e => by rw [e]; decide, fun e => by rw [z_lit 1, pk_sub e]⟩
  suffices HH : ∀ c, c ≤ N → ∀ I1 v6, (∀ h, h ≠ m + 4 → I1 h = I0 h) → (∀ x y, c ≤ x → x < N → y < N → I1 (m + 4) (20 * x + y) = nI (tP (fup F ln (k, b)) (ln + 1) x y)) → Go d i_X12_factorRead 153 [.ref m, .int x1, .int x2, .int (nI H), .int (nI G), .int (nI c - 1), v6] [] S I1 J Q from HH N (Nat.le_refl _) I0 _ (fun _ _ => rfl) (fun x y a b => by omega)
  intro c
  induction c with
  | zero =>
    intro hc I1 v6 f1 f2
    refine b_X12_factorRead_153 (fun _ => ?_) (fun z => absurd ((hwf 0 (by omega)).1 rfl) z)
    exact copy I1 f1 (fun x y hx hy => f2 x y (by omega) hx hy) _ _
  | succ c ih =>
    intro hc I1 v6 f1 f2
    rw [(hwf (c + 1) hc).2 (by omega), show c + 1 - 1 = c by omega]
    refine b_X12_factorRead_153 (fun z => absurd z (nI_pos (by omega))) (fun _ => b_X12_factorRead_158 ?_)
    rw [eN]
    suffices HI : ∀ e, e ≤ N → ∀ I2, (∀ h, h ≠ m + 4 → I2 h = I0 h) → (∀ x y, c + 1 ≤ x → x < N → y < N → I2 (m + 4) (20 * x + y) = nI (tP (fup F ln (k, b)) (ln + 1) x y)) → (∀ y, e ≤ y → y < N → I2 (m + 4) (20 * c + y) = nI (tP (fup F ln (k, b)) (ln + 1) c y)) → Go d i_X12_factorRead 166 [.ref m, .int x1, .int x2, .int (nI H), .int (nI G), .int (nI c), .int (nI e - 1)] [] S I2 J Q from HI N (Nat.le_refl _) I1 f1 f2 (fun y a b => by omega)
    intro e
    induction e with
    | zero =>
      intro he I2 q1 q2 q3
      refine b_X12_factorRead_166 (fun _ => b_X12_factorRead_226 ?_) (fun z => absurd ((hwf 0 (by omega)).1 rfl) z)
      have := ih (by omega) I2 (.int (nI 0 - 1)) q1 (fun x y hx hx2 hy => by
        by_cases e : x = c
        · rw [e]; exact q3 y (by omega) hy
        · exact q2 x y (by omega) hx2 hy)
      rw [Int32.sub_eq_add_neg] at this
      exact this
    | succ e ih2 =>
      intro he I2 q1 q2 q3
      rw [(hwf (e + 1) he).2 (by omega), show e + 1 - 1 = e by omega]
      have hcG : c / H < G := (Nat.div_lt_iff_lt_mul hH).mpr (by rw [Nat.mul_comm, ← hNe]; omega)
      have heG : e / H < G := (Nat.div_lt_iff_lt_mul hH).mpr (by rw [Nat.mul_comm, ← hNe]; omega)
      have hcm := Nat.mod_lt c hH
      have hem := Nat.mod_lt e hH
      have ei : (1595 : Int32) + (20 : Int32) * (nI c - nI c / nI H * nI H) + (nI e - nI e / nI H * nI H) = nI (1595 + 20 * (c % H) + e % H) := by rw [pk_rem (by omega) hH (by omega), pk_rem (by omega) hH (by omega), z_lit 20, pk_mul, z_lit 1595, nI_add, nI_add]
      have ew : (20 : Int32) * nI c + nI e = nI (20 * c + e) := by rw [z_lit 20, pk_mul, nI_add]
      have fp : z_ev d i_X12_factorProduct [.ref m, .int (nI (c / H)), .int (nI (e / H))] S I2 J (some (.int (nI (fpr k b (c / H) (e / H))))) S I2 J := m_fprod hd hL (fun i hi => by rw [q1 (m + 3) (by omega)]; exact hE i hi) (by rw [q1 m (by omega)]; exact h8) (by rw [q1 m (by omega)]; exact h9) hF (by rw [← hGe]; exact hcG) (by rw [← hGe]; exact heG)
      refine b_X12_factorRead_166 (fun z => absurd z (nI_pos (by omega))) (fun _ => b_X12_factorRead_171 hk hk H0 H0 (by rw [ei]; exact b0.rd (by omega) (by decide)) H0 H0 hk ?_)
      rw [ei, ew, pk_div (by omega) hH (by omega), pk_div (by omega) hH (by omega), nI_clamp (by omega), b0.1, b4.1, q1 (m + 1) (by omega), w7 _ _ hcm hem]
      refine ⟨_, _, _, _, fp, b_X12_factorRead_217 ⟨b4.2.1, by rw [b4.2.2]; exact vp_in_nI (by omega) (by decide)⟩ ?_⟩
      rw [nI_clamp (by omega), pk_mul, nI_add, ← T c e, ← Int32.sub_eq_add_neg]
      refine ih2 (by omega) _ (fun h hh => by rw [z_u2_row hh]; exact q1 h hh) (fun x y hx hx2 hy => by rw [z_u2_nk (by omega)]; exact q2 x y hx hx2 hy) (fun y hy hy2 => ?_)
      by_cases e0 : y = e
      · rw [e0, z_u2_same]
      · rw [z_u2_nk (by omega)]; exact q3 y (by omega) hy2
end MF3

/-! PURE: what faults there are; THE CLASS: a text is read -/
section FC
variable {n q : Nat} {B : Nat → Int32}
theorem facP_c {F : Nat → Nat × Nat} {ln : Nat} {c : Nat × Nat} (h : facP B n F ln q = .inl c) : c.1 = 1 ∨ c.1 = 2 ∨ c.1 = 3 := by
  unfold facP at h
  rcases Classical.em (5 ≤ pkw B n q ∧ pkw B n q ≤ 8) with a | a
  · rw [zq_t a] at h
    rcases e : facN B n (pkw B n q) q with c0 | c0
    · rw [e] at h
      have h := Sum.inl.inj h
      rw [← h]
      unfold facN at e
      by_cases e8 : pkw B n q = 8
      · rw [if_pos e8] at e; cases e
      · rw [if_neg e8] at e
        have := (numP_c e).1
        omega
    · rw [e] at h
      have h : zq (nP F ln * fsz (pkw B n q) c0.1 ≤ 20) (.inr ((pkw B n q, c0.1), c0.2)) (.inl (3, q)) = (Sum.inl c : (Nat × Nat) ⊕ ((Nat × Nat) × Nat)) := h
      rcases Classical.em (nP F ln * fsz (pkw B n q) c0.1 ≤ 20) with b | b
      · rw [zq_t b] at h; cases h
      · rw [zq_f b] at h
        have h := Sum.inl.inj h
        rw [← h]; exact Or.inr (Or.inr rfl)
  · rw [zq_f a] at h
    have h := Sum.inl.inj h
    rw [← h]; exact Or.inl rfl
theorem facsP_c : ∀ f F ln q c, facsP B n f F ln q = .inl c → c.1 = 1 ∨ c.1 = 2 ∨ c.1 = 3 := by
  intro f
  induction f with
  | zero =>
    intro F ln q c h
    have h := Sum.inl.inj h
    rw [← h]; exact Or.inl rfl
  | succ f ih =>
    intro F ln q c h
    rcases e : facP B n F ln q with c0 | c0
    · rw [facsP_l e] at h
      have h := Sum.inl.inj h
      rw [← h]; exact facP_c e
    · rw [facsP_r e] at h
      rcases Classical.em (pkw B n c0.2 = 4) with y | y
      · rw [zq_t y] at h; exact ih _ _ _ _ h
      · rw [zq_f y] at h; cases h
theorem rowsP_c : ∀ f R cnt dg q c, rowsP B n f R cnt dg q = .inl c → c.1 = 1 ∨ c.1 = 2 ∨ c.1 = 3 := by
  intro f
  induction f with
  | zero =>
    intro R cnt dg q c h
    have h := Sum.inl.inj h
    rw [← h]; exact Or.inl rfl
  | succ f ih =>
    intro R cnt dg q c h
    rcases e : rowP B n cnt dg q with c0 | c0
    · rw [rowsP_l e] at h
      have h := Sum.inl.inj h
      rw [← h]
      unfold rowP at e
      rcases Classical.em (q < n ∧ Dgt (B q)) with a | a
      · rw [zq_t a] at e
        rcases Classical.em (RwOk B q (pte B n q) ∧ (cnt = 0 ∨ pte B n q - q = dg)) with b | b
        · rw [zq_t b] at e; cases e
        · rw [zq_f b] at e
          have e := Sum.inl.inj e
          rw [← e]; exact Or.inr (Or.inl rfl)
      · rw [zq_f a] at e
        have e := Sum.inl.inj e
        rw [← e]; exact Or.inl rfl
    · rw [rowsP_r e] at h
      rcases Classical.em (c0.2 < n ∧ B c0.2 = 44) with y | y
      · rw [zq_t y] at h; exact ih _ _ _ _ _ h
      · rw [zq_f y] at h; cases h
theorem permsP_c {f place : Nat} {c : Nat × Nat} (h : permsP B n f place q = .inl c) : c.1 = 1 ∨ c.1 = 2 ∨ c.1 = 3 := by
  rcases e : rowsP B n f (fun _ _ => 0) 0 0 q with c0 | c0
  · rw [permsP_l e] at h
    have h := Sum.inl.inj h
    rw [← h]; exact rowsP_c _ _ _ _ _ _ e
  · rcases e2 : clo c0.1.2.2 c0.1.1 c0.1.2.1 with _ | s
    · rw [permsP_n e e2] at h
      have h := Sum.inl.inj h
      rw [← h]; exact Or.inr (Or.inr rfl)
    · rw [permsP_s e e2] at h; cases h
theorem stepsP_c {ord : Nat} : ∀ f told q c, stepsP B n ord f told q = .inl c → c.1 = 1 ∨ c.1 = 2 ∨ c.1 = 3 := by
  intro f
  induction f with
  | zero =>
    intro told q c h
    have h := Sum.inl.inj h
    rw [← h]; exact Or.inl rfl
  | succ f ih =>
    intro told q c h
    rcases e : numP B n 1 (ord - 1) q with c0 | c0
    · rw [stepsP_l e] at h
      have h := Sum.inl.inj h
      have := (numP_c e).1
      rw [← h]; omega
    · rw [stepsP_r e] at h
      rcases Classical.em (c0.2 < n ∧ Dgt (B c0.2)) with y | y
      · rw [zq_t y] at h; exact ih _ _ _ h
      · rw [zq_f y] at h; cases h
theorem lineP_c {laid : Bool} {X : Slt} {c : Nat × Nat} (h : lineP B n laid X q = .inl c) : c.1 = 1 ∨ c.1 = 2 ∨ c.1 = 3 := by
  unfold lineP at h
  rcases Classical.em (pkw B n q = 2) with c2 | c2
  · rw [zq_t c2] at h
    rcases e : stepsP B n X.n (n + 1) 0 (pnx B n q) with c0 | c0
    · rw [e] at h
      have h := Sum.inl.inj h
      rw [← h]; exact stepsP_c _ _ _ _ e
    · rw [e] at h; cases h
  · rw [zq_f c2] at h
    rcases Classical.em (pkw B n q = 3) with c3 | c3
    · rw [zq_t c3] at h; cases h
    · rw [zq_f c3] at h
      rcases Classical.em (pkw B n q = 0 ∧ laid = false) with c0 | c0
      · rw [zq_t c0] at h
        rcases e : facsP B n (n + 1) (fun _ => (0, 0)) 0 (pnx B n q) with c1 | c1
        · rw [e] at h
          have h := Sum.inl.inj h
          rw [← h]; exact facsP_c _ _ _ _ _ e
        · rw [e] at h; cases h
      · rw [zq_f c0] at h
        rcases Classical.em (pkw B n q = 1 ∧ laid = false) with c1 | c1
        · rw [zq_t c1] at h; exact permsP_c h
        · rw [zq_f c1] at h
          have h := Sum.inl.inj h
          rw [← h]; exact Or.inl rfl
theorem linP_c {laid : Bool} {X : Slt} {c : Nat × Nat} (h : linP B n laid X q = .inl c) : c.1 = 1 ∨ c.1 = 2 ∨ c.1 = 3 := by
  rcases e : lineP B n laid X q with c0 | c0
  · rw [linP_l e] at h
    have h := Sum.inl.inj h
    rw [← h]; exact lineP_c e
  · rw [linP_r e] at h
    rcases Classical.em (c0.2 < n ∧ B c0.2 = 59) with y | y
    · rw [zq_t y] at h; cases h
    · rw [zq_f y] at h
      have h := Sum.inl.inj h
      rw [← h]; exact Or.inl rfl
theorem textP_c : ∀ f (laid : Bool) (X : Slt) q c, textP B n f laid X q = .inl c → c.1 = 1 ∨ c.1 = 2 ∨ c.1 = 3 := by
  intro f
  induction f with
  | zero =>
    intro laid X q c h
    have h := Sum.inl.inj h
    rw [← h]; exact Or.inl rfl
  | succ f ih =>
    intro laid X q c h
    rcases Classical.em (q < n) with hq | hq
    · rcases e : linP B n laid X q with c0 | c0
      · rw [textP_l hq e] at h
        have h := Sum.inl.inj h
        rw [← h]; exact linP_c e
      · rw [textP_r hq e] at h; exact ih _ _ _ _ h
    · rw [textP_e hq] at h; cases h
end FC
section CT1
variable {d a n q g : Nat} {B : Nat → Int32} {X : Slt} {γ : Nat → Slt} {laid : Bool} {S S1 : zS} {I I0 I1 : zI} {J J1 : zJ}
theorem j_min {x y : Nat} (hd : 0 < d) (ha : x < 2 ^ 31) (hb : y < 2 ^ 31) (h : x ≤ y) : z_ev d i_J9_min_7cf53 [.int (nI x), .int (nI y)] S I J (some (.int (nI x))) S I J := by
  obtain ⟨d, rfl⟩ := z_dep hd
  refine e_J9_min_7cf53 (b_J9_min_7cf53_0 (fun z => ?_) (fun _ => b_J9_min_7cf53_5 ⟨rfl, rfl, rfl, rfl⟩))
  rw [nI_ltI hb ha] at z; omega
theorem c_begins (hd : 2 < d) (hL : RLay S a) (hn : n ≤ 300) (hb : ∀ j, j < n → I0 (a + 1) j = B j) : ∃ I', z_ev d i_X5_begin [.ref (a + 9), .int (nI n)] S I0 J none S I' J ∧ (∀ y, y ≠ a + 9 → I' y = I0 y) ∧ RS S I' a B n (psp B n 0) := by
  obtain ⟨d, rfl⟩ := z_dep (d := d) (by omega)
  have hL' := hL
  obtain ⟨l1, l2, l3, l4, l5, l6, l7, l8⟩ := hL
  obtain ⟨I1, E1⟩ : ∃ I1, I1 = z_u2 (z_u2 I0 (a + 9) 1 (nI n)) (a + 9) 3 0 := ⟨_, rfl⟩
  have f1 : ∀ y, y ≠ a + 9 → I1 y = I0 y := fun y hy => by rw [E1, z_u2_row hy, z_u2_row hy]
  have hX : LXs S I1 (a + 9) (a + 1) B n := ⟨l5, ⟨l6, l7, l8⟩, ⟨by rw [E1, z_u2_nk (by decide), z_u2_same], hn⟩, fun j hj => by rw [f1 _ (by omega)]; exact hb j hj⟩
  obtain ⟨I2, p1, p2, p3⟩ := c_advance (d := d) (J := J) (p := 0) (by omega) hX (by rw [E1, z_u2_same]; rfl) (by omega)
  refine ⟨I2, e_X5_begin (b_X5_begin_0 l5 (by rw [l6, l7]; rfl) ?_), fun y hy => by rw [p2.1 y hy, f1 y hy], hL', hX.fr p2, p3⟩
  rw [l6, l8]
  refine ⟨_, _, _, _, j_min (by omega) (by omega) (by decide) hn, b_X5_begin_10 l5 l5 l5 ?_⟩
  rw [← E1]
  exact ⟨_, _, _, _, p1, b_X5_begin_22 ⟨rfl, rfl, rfl, rfl⟩⟩
theorem c_readText (hd : 12 < d) (hL : RLay S a) (hf : SF S) (hz : a + 88 ≤ z_sz S) (hs : STS S I) (hE : EO S I) (hE0 : z_rv S 0 20 ≤ z_sz S) (h0lt : 0 < a) (hsr : ∀ j, j < 9 → z_rv S 0 j ≤ z_sz S ∧ z_rv S (z_rv S 0 j) 0 ≤ z_sz S ∧ z_rv S 0 j ≠ a + 2) (hn : n ≤ 300) (hb : ∀ j, j < n → I (a + 1) j = B j) (hG : IsG S a g) (hGC : GC S I a g (γ g)) (hXe : X = (γ g).to X.st) (hok : SlOk X) : ∃ S' I' J' γ', z_ev d i_X10_readText [.ref (a + 2), .int (nI n), .ref g, .int (nI X.st)] S I J none S' I' J' ∧ TRn S I J γ S' I' J' γ' a ∧ Cst 9 700 S S' ∧ (∀ c, textP B n (n + 1) false X (psp B n 0) = .inl c → I' (a + 2) 0 = nI c.1 ∧ I' (a + 2) 1 = nI c.2) ∧ ∀ X', textP B n (n + 1) false X (psp B n 0) = .inr X' → I' (a + 2) 0 = 0 ∧ I' (a + 2) 1 = -1 ∧ I' (a + 2) 3 = nI X'.st ∧ IsG S' a (z_rv S' (a + 2) 2) ∧ X' = (γ' (z_rv S' (a + 2) 2)).to X'.st ∧ SlOk X' := by
  obtain ⟨d, rfl⟩ := z_dep (d := d) (by omega)
  have hL' := hL
  obtain ⟨l1, l2, l3, l4, l5⟩ := hL
  obtain ⟨Q, hQ⟩ : ∃ Q : zQ, Q = fun w S' I' J' => w = none ∧ ∃ γ', TRn S I J γ S' I' J' γ' a ∧ Cst 9 700 S S' ∧ (∀ c, textP B n (n + 1) false X (psp B n 0) = .inl c → I' (a + 2) 0 = nI c.1 ∧ I' (a + 2) 1 = nI c.2) ∧ ∀ X', textP B n (n + 1) false X (psp B n 0) = .inr X' → I' (a + 2) 0 = 0 ∧ I' (a + 2) 1 = -1 ∧ I' (a + 2) 3 = nI X'.st ∧ IsG S' a (z_rv S' (a + 2) 2) ∧ X' = (γ' (z_rv S' (a + 2) 2)).to X'.st ∧ SlOk X' := ⟨_, rfl⟩
  suffices hw : z_wp (d + 1) i_X10_readText [.ref (a + 2), .int (nI n), .ref g, .int (nI X.st)] S I J Q by
    rw [hQ] at hw
    obtain ⟨w, S', I', J', x1, rfl, γ', x2⟩ := hw
    exact ⟨S', I', J', γ', x1, x2⟩
  obtain ⟨S1, E1⟩ : ∃ S1, S1 = z_setR S (a + 2) 2 g := ⟨_, rfl⟩
  obtain ⟨Ia, Ea⟩ : ∃ Ia, Ia = z_u2 (z_u2 (z_u2 (z_u2 I (a + 2) 0 0) (a + 2) 1 (-1)) (a + 2) 3 (nI X.st)) (a + 2) 4 1 := ⟨_, rfl⟩
  have sh1 : SH a S S1 := by rw [E1]; exact SH.set2
  have hf1 : SF S1 := by rw [E1]; exact hf
  have hL1 : RLay S1 a := hL'.sh sh1 hf
  have sz1 : z_sz S1 = z_sz S := by rw [E1]; rfl
  have rv1 : ∀ y, y ≠ a + 2 → z_rv S1 y = z_rv S y := fun y hy => by rw [E1, setR_ne hy]
  have fa : ∀ y, y ≠ a + 2 → Ia y = I y := fun y hy => by rw [Ea, z_u2_row hy, z_u2_row hy, z_u2_row hy, z_u2_row hy]
  obtain ⟨I2, p1, p2, p3⟩ := c_begins (d := d) (J := J) (I0 := Ia) (B := B) (by omega) hL1 hn (fun j hj => by rw [fa _ (by omega)]; exact hb j hj)
  have rf2 : RFr I I2 a := fun y hy => by rw [p2 y (by omega), fa y (by omega)]
  have gd := hG.1.out
  have tr1 : TRn S I J γ S1 I2 J γ a := ⟨hf1, sh1, fun y hy => ⟨fun h => rv1 y h, fun h => rf2 y h, rfl⟩, fun _ _ => rfl, fun y hy hG1 => absurd hG1.2.1 (by omega)⟩
  have gc1 : GC S1 I2 a g (γ g) := hGC.st hf sh1 (rf2 g (by omega)) (fun y _ k1 _ => rf2 y (k1.nr hL')) (by rw [rv1 _ (by omega)])
  have i2 : ∀ k, I2 (a + 2) k = Ia (a + 2) k := fun k => by rw [p2 _ (by omega)]
  have rds1 : RDS S1 I2 a γ false X B n (psp B n 0) := by
    refine ⟨p3, by rw [i2, Ea, z_u2_same]; rfl, by rw [i2, Ea, z_u2_nk (by decide), z_u2_same], ⟨?_, ?_, ?_⟩, hok, ?_, ?_⟩
    · rw [E1, setR_at, ← E1]; exact hG.sh sh1
    · rw [E1, setR_at]; exact hXe
    · have e2 : z_rv S1 (a + 2) 2 = g := by rw [E1, setR_at]
      rw [e2]; exact gc1
    · rw [i2, Ea, z_u2_nk (by decide), z_u2_nk (by decide), z_u2_nk (by decide), z_u2_same]
    · rw [i2, Ea, z_u2_nk (by decide), z_u2_nk (by decide), z_u2_same]
  -- words and even orders stay
  have sts : ∀ (S3 : zS) (I3 : zI) (J3 : zJ) (γ3 : Nat → Slt), TRn S I J γ S3 I3 J3 γ3 a → STS S3 I3 ∧ EO S3 I3 ∧ z_rv S3 0 20 ≤ z_sz S3 := fun S3 I3 J3 γ3 tr => by
    obtain ⟨t1, t2, t3, _⟩ := tr
    have r0 := (t3 0 (by omega)).1 (by omega)
    refine ⟨fun j hj => ?_, ?_, ?_⟩
    · obtain ⟨y1, y2, y3, y4, y5, y6⟩ := hs j hj
      obtain ⟨b1, b2, b3⟩ := hsr j hj
      have nr : ∀ y, y ≤ z_sz S → z_kd S y ≠ 11 → z_kd S y ≠ 3 → z_kd S y ≠ 100 → z_kd S y ≠ 6 → I3 y = I y := fun y hy n1 n2 n3 n4 => (t3 y hy).2.1 (by
        by_cases c : a + 2 ≤ y ∧ y ≤ a + 9
        · rcases hL'.k9 c.1 c.2 with q | q | q | q
          · exact absurd q n1
          · exact absurd q n2
          · exact absurd q n3
          · exact absurd q n4
        · omega)
      unfold Str
      rw [r0, (t3 _ b1).1 b3, (t2.2.1 _ b1).1, (t2.2.1 _ b2).1, (t2.2.1 _ b2).2, nr _ b1 (by rw [y1]; decide) (by rw [y1]; decide) (by rw [y1]; decide) (by rw [y1]; decide), nr _ b2 (fun e => by rw [e] at y3; cases y3) (fun e => by rw [e] at y3; cases y3) (fun e => by rw [e] at y3; cases y3) (fun e => by rw [e] at y3; cases y3)]
      exact ⟨y1, y2, y3, y4, y5, y6⟩
    · obtain ⟨y1, y2, y3⟩ := hE
      unfold EO
      rw [r0, (t2.2.1 _ hE0).1, (t2.2.1 _ hE0).2, (t3 _ hE0).2.1 (Kpt.nr hL' (Or.inr y1))]
      exact ⟨y1, y2, y3⟩
    · rw [r0]; exact Nat.le_trans hE0 t2.1
  have k11 : z_kd S (a + 2) = 11 := l1
  have k11' : z_kd (z_setR S (a + 2) 2 g) (a + 2) = 11 := l1
  refine w_X10_readText (b_X10_readText_0 l1 l1 l1 k11' ⟨k11', Or.inr rfl⟩ k11' (by rw [← E1, hL1.2.1]; exact hL1.2.2.2.2.1) ?_)
  rw [← E1, ← Ea, hL1.2.1]
  refine ⟨_, _, _, _, p1, b_X10_readText_33 ?_⟩
  suffices H : ∀ f q i laid X' S3 I3 J3 γ3, n < f + q → i ≤ q → TRn S I J γ S3 I3 J3 γ3 a → Cst (if laid then 9 else 0) (if laid then 700 else 0) S S3 → RDS S3 I3 a γ3 laid X' B n q → textP B n (n + 1) false X (psp B n 0) = textP B n f laid X' q → Go d i_X10_readText 36 [.ref (a + 2), .int (nI n), .ref g, .int (nI X.st), .int (nI i)] [] S3 I3 J3 Q from H (n + 1) (psp B n 0) 0 false X S1 I2 J γ (by omega) (by omega) tr1 (by rw [E1]; exact ⟨Nat.le_refl _, Nat.le_refl _⟩) rds1 rfl
  intro f
  induction f with
  | zero =>
    intro q i laid X' S3 I3 J3 γ3 hf' _ _ _ hr
    have := hr.1.2.2.1.1
    omega
  | succ f ih =>
    intro q i laid X' S3 I3 J3 γ3 hf' hiq tr cst hr hres
    have hr' := hr
    obtain ⟨hR, h4, h3, ⟨hG3, hX3, hGC3⟩, hok3, h0, h1⟩ := hr
    have hL3' := hR.1
    obtain ⟨m1, m2, m3, m4, m5⟩ := hR.1
    have hql := hR.2.2.1.1
    have s4 : I3 (a + 9) 4 = nI (pts B n q) := hR.2.2.2.2.2
    have hpl := pts_lt B n q
    have hc9 : Cst 9 700 S S3 := by
      cases laid with
      | true => exact cst
      | false => exact ⟨by have := cst.1; simp at this; omega, by have := cst.2; simp at this; omega⟩
    refine b_X10_readText_36 (fun z => ?_) (fun _ => b_X10_readText_42 m1 (by rw [m2]; exact m5.1) (fun z => b_X10_readText_82 ?_) (fun z => b_X10_readText_52 m1 ?_))
    · rw [nI_ltI (by omega) (by omega)] at z; omega
    · rw [m2, s4, show (0 : Int32) = nI 0 from rfl, nI_eq (by omega) (by decide)] at z
      have hq := pts_e.mp z
      rw [textP_e hq] at hres
      rw [hQ]
      refine ⟨rfl, γ3, tr, hc9, fun c hc => (by rw [hres] at hc; cases hc), fun X'' hc => ?_⟩
      rw [hres] at hc
      have hc := Sum.inr.inj hc
      rw [← hc]
      exact ⟨h0, h1, h3, hG3, hX3, hok3⟩
    · rw [m2, s4, show (0 : Int32) = nI 0 from rfl, nI_eq (by omega) (by decide)] at z
      have hq : q < n := by
        rcases Classical.em (q < n) with y | y
        · exact y
        · exact absurd (pts_e.mpr y) z
      obtain ⟨s1, s2, s3⟩ := sts S3 I3 J3 γ3 tr
      have hz3 : a + 88 ≤ z_sz S3 := Nat.le_trans hz tr.2.1.1
      obtain ⟨S4, I4, J4, v, γ4, r1, r2, r3, r4, r5⟩ := c_readLine (d := d) (J := J3) (by omega) hr' tr.1 hz3 s1 s2 s3
      have tr4 := TRn.trans hL' hz hf tr r2
      have c4 : Cst 9 700 S S4 := by
        cases laid with
        | true => exact ⟨by have a1 := cst.1; have a2 := r3.1; simp at a1 a2; omega, by have a1 := cst.2; have a2 := r3.2; simp at a1 a2; omega⟩
        | false => exact ⟨by have a1 := cst.1; have a2 := r3.1; simp at a1 a2; omega, by have a1 := cst.2; have a2 := r3.2; simp at a1 a2; omega⟩
      refine ⟨_, _, _, _, r1, ?_⟩
      rcases e : lineP B n laid X' q with c | c
      · obtain ⟨u1, u2, u3⟩ := r4 c e
        subst u1
        rw [textP_l hq (linP_l e)] at hres
        refine b_X10_readText_56 (fun _ => b_X10_readText_75 ?_) (fun y => absurd rfl y)
        rw [hQ]
        refine ⟨rfl, γ4, tr4, c4, fun c0 hc => ?_, fun c0 hc => (by rw [hres] at hc; cases hc)⟩
        rw [hres] at hc
        have hc := Sum.inl.inj hc
        rw [← hc]; exact ⟨u2, u3⟩
      · obtain ⟨u1, u2⟩ := r5 c e
        subst u1
        obtain ⟨o1, o2⟩ := lineP_ge hql e
        have u2' := u2
        obtain ⟨w1, w4, w3, w5, w6, w7, w8⟩ := u2
        obtain ⟨x1, x2, x3, x4, x5⟩ := w1.1
        have sg := c_isSign (d := d) (J := J4) (x := 59) ⟨fun z => absurd z.1 (by decide), fun z => absurd z.2 (by decide)⟩ (by omega) w1.2.1 w1.2.2
        have er := linP_r e
        refine b_X10_readText_56 (fun y => by cases y) (fun _ => b_X10_readText_59 x1 (by rw [x2]; exact x5.1) ?_)
        rw [x2]
        refine ⟨_, _, _, _, sg, b_X10_readText_69 x1 ?_⟩
        rcases Classical.em (c.2 < n ∧ B c.2 = 59) with y | y
        · rw [zb_t y]
          rw [zq_t y] at er
          rw [textP_r hq er] at hres
          obtain ⟨I5, t1, t2, t3⟩ := c_take1 (d := d) (J := J4) (by omega) w1
          have gt := pnx_gt (B := B) y.1
          have i5 : I5 (a + 2) = I4 (a + 2) := t2.1 _ (by omega)
          refine ⟨_, _, _, _, t1, b_X10_readText_72 (fun _ => b_X10_readText_76 ?_) (fun z => by cases z)⟩
          rw [nI_1]
          have tr5 : TRn S4 I4 J4 γ4 S4 I5 J4 γ4 a := TRn.same tr4.1 t2.rf
          refine ih (pnx B n c.2) (i + 1) true c.1 S4 I5 J4 γ4 (by omega) (by omega) (TRn.trans hL' hz hf tr4 tr5) c4 ⟨t3, by rw [i5]; exact w4, by rw [i5]; exact w3, ⟨w5.1, w5.2.1, w5.2.2.rd tr4.1 w1.1 t2.rf⟩, w6, by rw [i5]; exact w7, by rw [i5]; exact w8⟩ hres
        · rw [zb_f y]
          rw [zq_f y] at er
          rw [textP_l hq er] at hres
          refine ⟨_, _, _, _, c_take0 (by omega) w1, b_X10_readText_72 (fun z => absurd rfl z) (fun _ => b_X10_readText_75 ?_)⟩
          rw [hQ]
          have tr5 : TRn S4 I4 J4 γ4 S4 (z_u2 (z_u2 I4 (a + 2) 0 1) (a + 2) 1 (nI c.2)) J4 γ4 a := TRn.same tr4.1 (fun y hy => by rw [z_u2_row (by omega), z_u2_row (by omega)])
          refine ⟨rfl, γ4, TRn.trans hL' hz hf tr4 tr5, c4, fun c0 hc => ?_, fun c0 hc => (by rw [hres] at hc; cases hc)⟩
          rw [hres] at hc
          have hc := Sum.inl.inj hc
          rw [← hc]
          exact ⟨by rw [z_u2_nk (by decide), z_u2_same]; rfl, z_u2_same⟩
end CT1

/-! PURE: lines of a text; THE MODEL: lines -/
noncomputable def stepsP (B : Nat → Int32) (n ord : Nat) : Nat → Nat → Nat → (Nat × Nat) ⊕ (Nat × Nat)
  | 0, _, _ => .inl (1, 0)
  | f + 1, told, q => match numP B n 1 (ord - 1) q with
    | .inl c => .inl c
    | .inr c => zq (c.2 < n ∧ Dgt (B c.2)) (stepsP B n ord f (told ||| 2 ^ c.1) c.2) (.inr (told ||| 2 ^ c.1, c.2))
theorem stepsP_l {B : Nat → Int32} {n ord f told q : Nat} {c : Nat × Nat} (e : numP B n 1 (ord - 1) q = .inl c) : stepsP B n ord (f + 1) told q = .inl c := by simp only [stepsP, e]
theorem stepsP_r {B : Nat → Int32} {n ord f told q : Nat} {c : Nat × Nat} (e : numP B n 1 (ord - 1) q = .inr c) : stepsP B n ord (f + 1) told q = zq (c.2 < n ∧ Dgt (B c.2)) (stepsP B n ord f (told ||| 2 ^ c.1) c.2) (.inr (told ||| 2 ^ c.1, c.2)) := by simp only [stepsP, e]
theorem numP_ok {B : Nat → Int32} {n lo hi q : Nat} {c : Nat × Nat} (h : numP B n lo hi q = .inr c) (hq : q ≤ n) : lo ≤ c.1 ∧ c.1 ≤ hi ∧ q < n ∧ q < c.2 ∧ c.2 ≤ n ∧ c.2 = pnx B n q ∧ psp B n c.2 = c.2 := by
  unfold numP at h
  rcases Classical.em (q < n ∧ Dgt (B q)) with a | a
  · rw [zq_t a] at h
    rcases Classical.em (pte B n q ≤ q + 2 ∧ lo ≤ nvl B q (pte B n q) ∧ nvl B q (pte B n q) ≤ hi) with b | b
    · rw [zq_t b] at h
      have h := Sum.inr.inj h
      rw [← h]
      exact ⟨b.2.1, b.2.2, a.1, pnx_gt a.1, pnx_le hq, rfl, pnx_sp⟩
    · rw [zq_f b] at h; cases h
  · rw [zq_f a] at h; cases h
theorem numP_c {B : Nat → Int32} {n lo hi q : Nat} {c : Nat × Nat} (h : numP B n lo hi q = .inl c) : (c.1 = 1 ∨ c.1 = 2) ∧ c.2 = q := by
  unfold numP at h
  rcases Classical.em (q < n ∧ Dgt (B q)) with a | a
  · rw [zq_t a] at h
    rcases Classical.em (pte B n q ≤ q + 2 ∧ lo ≤ nvl B q (pte B n q) ∧ nvl B q (pte B n q) ≤ hi) with b | b
    · rw [zq_t b] at h; cases h
    · rw [zq_f b] at h
      have := Sum.inl.inj h
      rw [← this]; exact ⟨Or.inr rfl, rfl⟩
  · rw [zq_f a] at h
    have := Sum.inl.inj h
    rw [← this]; exact ⟨Or.inl rfl, rfl⟩
noncomputable def lineP (B : Nat → Int32) (n : Nat) (laid : Bool) (X : Slt) (q : Nat) : (Nat × Nat) ⊕ (Slt × Nat) := zq (pkw B n q = 2) (match stepsP B n X.n (n + 1) 0 (pnx B n q) with
  | .inl c => .inl c
  | .inr c => .inr (X.to c.1, c.2)) (zq (pkw B n q = 3) (.inr (X.to (bth X), pnx B n q)) (zq (pkw B n q = 0 ∧ laid = false) (match facsP B n (n + 1) (fun _ => (0, 0)) 0 (pnx B n q) with
  | .inl c => .inl c
  | .inr c => .inr (grF c.1.1 c.1.2, c.2)) (zq (pkw B n q = 1 ∧ laid = false) (permsP B n (n + 1) q (pnx B n q)) (.inl (1, q)))))
noncomputable def linP (B : Nat → Int32) (n : Nat) (laid : Bool) (X : Slt) (q : Nat) : (Nat × Nat) ⊕ (Slt × Nat) := match lineP B n laid X q with
  | .inl c => .inl c
  | .inr c => zq (c.2 < n ∧ B c.2 = 59) (.inr (c.1, pnx B n c.2)) (.inl (1, c.2))
theorem linP_l {B : Nat → Int32} {n q : Nat} {laid : Bool} {X : Slt} {c : Nat × Nat} (e : lineP B n laid X q = .inl c) : linP B n laid X q = .inl c := by simp only [linP, e]
theorem linP_r {B : Nat → Int32} {n q : Nat} {laid : Bool} {X : Slt} {c : Slt × Nat} (e : lineP B n laid X q = .inr c) : linP B n laid X q = zq (c.2 < n ∧ B c.2 = 59) (.inr (c.1, pnx B n c.2)) (.inl (1, c.2)) := by simp only [linP, e]
noncomputable def textP (B : Nat → Int32) (n : Nat) : Nat → Bool → Slt → Nat → (Nat × Nat) ⊕ Slt
  | 0, _, _, _ => .inl (1, 0)
  | f + 1, laid, X, q => zq (q < n) (match linP B n laid X q with
    | .inl c => .inl c
    | .inr c => textP B n f true c.1 c.2) (.inr X)
theorem textP_e {B : Nat → Int32} {n f q : Nat} {laid : Bool} {X : Slt} (h : ¬ q < n) : textP B n (f + 1) laid X q = .inr X := by simp only [textP, zq_f h]
theorem textP_l {B : Nat → Int32} {n f q : Nat} {laid : Bool} {X : Slt} {c : Nat × Nat} (h : q < n) (e : linP B n laid X q = .inl c) : textP B n (f + 1) laid X q = .inl c := by simp only [textP, zq_t h, e]
theorem textP_r {B : Nat → Int32} {n f q : Nat} {laid : Bool} {X : Slt} {c : Slt × Nat} (h : q < n) (e : linP B n laid X q = .inr c) : textP B n (f + 1) laid X q = textP B n f true c.1 c.2 := by simp only [textP, zq_t h, e]
/-- what reading a line changes -/
def PLn (I I' : zI) (m : Nat) : Prop := (∀ h, h ≠ m → h ≠ m + 1 → h ≠ m + 3 → h ≠ m + 4 → h ≠ m + 5 → h ≠ m + 6 → I' h = I h) ∧ (∀ j, j < 1330 → I' (m + 1) j = I (m + 1) j) ∧ ∀ k, k ≤ 4 ∨ 18 ≤ k → I' m k = I m k
section ML
variable {d m n q ord : Nat} {B : Nat → Int32} {X : Slt} {S : zS} {I I0 I1 I2 : zI} {J : zJ}
theorem PGr.ln (h : PGr I I1 m) : PLn I I1 m := ⟨h.1, h.2.1, fun k hk => h.2.2 k (by omega)⟩
theorem PLn.refl : PLn I I m := ⟨fun _ _ _ _ _ _ _ => rfl, fun _ _ => rfl, fun _ _ => rfl⟩
theorem PLn.trans (h : PLn I I1 m) (h' : PLn I1 I2 m) : PLn I I2 m := ⟨fun y a b c e f g => by rw [h'.1 y a b c e f g, h.1 y a b c e f g], fun j hj => by rw [h'.2.1 j hj, h.2.1 j hj], fun k hk => by rw [h'.2.2 k hk, h.2.2 k hk]⟩
theorem KY.ln (h : KY S I) (hL : MLay S m) (hF : PLn I I1 m) : KY S I1 := by
  obtain ⟨h1, h2, h3, h4, h5, h6⟩ := h
  have key : ∀ y, z_kd S y ≠ 13 → z_kd S y ≠ 100 → I1 y = I y := fun y n1 n2 => hF.1 y (fun e => n1 (by rw [e]; exact hL.1)) (fun e => n2 (by rw [e]; exact hL.2.1.2.1)) (fun e => n2 (by rw [e]; exact hL.2.2.2.1.2.1)) (fun e => n2 (by rw [e]; exact hL.2.2.2.2.1.2.1)) (fun e => n2 (by rw [e]; exact hL.2.2.2.2.2.1.2.1)) (fun e => n2 (by rw [e]; exact hL.2.2.2.2.2.2.1.2.1))
  refine ⟨h1, by rw [key _ (by rw [h1]; decide) (by rw [h1]; decide)]; exact h2, h3, h4, fun i hi => ?_, h6⟩
  rw [key _ (fun e => by rw [e] at h3; cases h3) (fun e => by rw [e] at h3; cases h3)]; exact h5 i hi
/-- the work slot holds X -/
def WX (I : zI) (m : Nat) (X : Slt) : Prop := MSl (fun j => I (m + 1) (1330 + j)) X ∧ SlOk X
theorem WX.fr (h : WX I m X) (e : I1 (m + 1) = I (m + 1)) : WX I1 m X := by
  unfold WX; rw [e]; exact h
theorem m_stepsRead {f : Nat} (hd : 3 < d) (h : PM S I0 m B n q) (hX : WX I0 m X) (hf : n < f + q) : ∃ I', z_ev d i_X12_stepsRead [.ref m] S I0 J none S I' J ∧ PGr I0 I' m ∧ (I' m 11 = I0 m 11 ∧ I' (m + 3) = I0 (m + 3)) ∧ (∀ c, stepsP B n X.n f 0 q = .inl c → (I' m 6 = nI c.1 ∧ I' m 7 = nI c.2) ∧ (c.1 = 1 ∨ c.1 = 2 ∨ c.1 = 3)) ∧ ∀ c, stepsP B n X.n f 0 q = .inr c → PM S I' m B n c.2 ∧ WX I' m (X.to c.1) := by
  obtain ⟨d, rfl⟩ := z_dep (d := d) (by omega)
  have hL := h.1
  have hk := hL.k
  have b0 := hL.a0
  have hg := hX.2.1
  have hn20 := hg.le
  have hn0 := hg.pos
  have c30 : Int32.toNatClampNeg (1330 : Int32) = 1330 := by decide
  have c31 : Int32.toNatClampNeg (1331 : Int32) = 1331 := by decide
  obtain ⟨Q, hQ⟩ : ∃ Q : zQ, Q = fun w S' I' J' => w = none ∧ S' = S ∧ J' = J ∧ PGr I0 I' m ∧ (I' m 11 = I0 m 11 ∧ I' (m + 3) = I0 (m + 3)) ∧ (∀ c, stepsP B n X.n f 0 q = .inl c → (I' m 6 = nI c.1 ∧ I' m 7 = nI c.2) ∧ (c.1 = 1 ∨ c.1 = 2 ∨ c.1 = 3)) ∧ ∀ c, stepsP B n X.n f 0 q = .inr c → PM S I' m B n c.2 ∧ WX I' m (X.to c.1) := ⟨_, rfl⟩
  suffices hw : z_wp (d + 1) i_X12_stepsRead [.ref m] S I0 J Q by
    rw [hQ] at hw
    obtain ⟨w, S', I', J', x1, rfl, rfl, rfl, x2⟩ := hw
    exact ⟨I', x1, x2⟩
  refine w_X12_stepsRead (b_X12_stepsRead_0 hk (b0.wr (i := 1331) (by decide) (by decide)) ?_)
  rw [c31, b0.1]
  suffices H : ∀ f' q' told I1 v1, n < f' + q' → PM S I1 m B n q' → PGr I0 I1 m → (I1 m 11 = I0 m 11 ∧ I1 (m + 3) = I0 (m + 3)) → (∀ j, j ≠ 1331 → I1 (m + 1) j = I0 (m + 1) j) → I1 (m + 1) 1331 = nI told → told < 2 ^ X.n → told.testBit 0 = false → stepsP B n X.n f 0 q = stepsP B n X.n f' told q' → Go d i_X12_stepsRead 9 [.ref m, v1] [] S I1 J Q from H f q 0 _ _ hf (h.gr (PGr.refl.w (by omega)) (by rw [z_u2_row (by omega)]) (by rw [z_u2_row (by omega)]) (by rw [z_u2_row (by omega)])) (PGr.refl.w (by omega)) ⟨by rw [z_u2_row (by omega)], by rw [z_u2_row (by omega)]⟩ (fun j hj => by rw [z_u2_nk hj]) z_u2_same (Nat.pow_pos (by decide)) (Nat.zero_testBit 0) rfl
  intro f'
  induction f' with
  | zero =>
    intro q' told I1 v1 hf' hm
    have := hm.le
    omega
  | succ f' ih =>
    intro q' told I1 v1 hf' hm hg1 hev h1 h31 hlt hb0 hres
    have hql := hm.le
    have hbt : ∀ j, j < n → Byt (B j) := fun j hj => (hm.2.2.2.2 j hj).2
    have v30 : I1 (m + 1) 1330 = nI X.n := by rw [h1 1330 (by decide)]; exact hX.1.1
    obtain ⟨I2, v, r1, r2, r3, r4⟩ := m_numeral (d := d) (J := J) (lo := 1) (hi := X.n - 1) (by omega) hm (by decide) (by omega)
    refine b_X12_stepsRead_9 hk (b0.rd (i := 1330) (by decide) (by decide)) hk ?_
    rw [c30, b0.1, v30, show nI X.n - 1 = nI (X.n - 1) by rw [z_lit 1, pk_sub hn0]]
    have g2 := hg1.trans r2.gr
    have ev2 : I2 m 11 = I0 m 11 ∧ I2 (m + 3) = I0 (m + 3) := ⟨by rw [r2.2 11 (by decide) (by decide) (by decide)]; exact hev.1, by rw [r2.1 _ (by omega)]; exact hev.2⟩
    have i2 : I2 (m + 1) = I1 (m + 1) := r2.1 _ (by omega)
    rcases e : numP B n 1 (X.n - 1) q' with c | c
    · obtain ⟨s1, s2⟩ := r3 c e
      have hc := (numP_c e).1
      rw [stepsP_l e] at hres
      have s6 : ¬ I2 m 6 = 0 := by rw [s1]; exact nI_ne0 (by omega) (by omega)
      refine ⟨_, _, _, _, r1, b_X12_stepsRead_24 hk (fun _ => b_X12_stepsRead_46 hk (fun _ => b_X12_stepsRead_63 ?_) (fun z => absurd z s6)) (fun z => absurd z s6)⟩
      rw [hQ]
      refine ⟨rfl, rfl, rfl, g2, ev2, fun c0 hc0 => ?_, fun c0 hc0 => by rw [hres] at hc0; cases hc0⟩
      rw [hres] at hc0
      have hc0 := Sum.inl.inj hc0
      rw [← hc0]
      exact ⟨⟨s1, s2⟩, by omega⟩
    · obtain ⟨s1, s2⟩ := r4 c e
      obtain ⟨o1, o2, o3, o4, o5, _, _⟩ := numP_ok e hql
      rw [stepsP_r e] at hres
      have s6 := s2.2.2.2.1
      obtain ⟨I3, E3⟩ : ∃ I3, I3 = z_u2 I2 (m + 1) 1331 (nI (told ||| 2 ^ c.1)) := ⟨_, rfl⟩
      have m3 : PM S I3 m B n c.2 := s2.gr (by rw [E3]; exact PGr.refl.w (by omega)) (by rw [E3, z_u2_row (by omega)]) (by rw [E3, z_u2_row (by omega)]) (by rw [E3, z_u2_row (by omega)])
      have g3 : PGr I0 I3 m := by rw [E3]; exact g2.w (by omega)
      have ev3 : I3 m 11 = I0 m 11 ∧ I3 (m + 3) = I0 (m + 3) := by rw [E3, z_u2_row (by omega), z_u2_row (by omega)]; exact ev2
      have j3 : ∀ j, j ≠ 1331 → I3 (m + 1) j = I0 (m + 1) j := fun j hj => by rw [E3, z_u2_nk hj, i2]; exact h1 j hj
      have k3 : I3 (m + 1) 1331 = nI (told ||| 2 ^ c.1) := by rw [E3, z_u2_same]
      have hlt2 : told ||| 2 ^ c.1 < 2 ^ X.n := z_or_lt hlt (Nat.pow_lt_pow_right (by decide) (by omega))
      have hb2 : (told ||| 2 ^ c.1).testBit 0 = false := by
        rw [Nat.testBit_or, hb0, Bool.false_or]
        cases q0 : (2 ^ c.1).testBit 0 with
        | false => rfl
        | true => rw [b_pow] at q0; omega
      obtain ⟨I4, t1, t2, t3, t4⟩ := m_peek (d := d) (J := J) (by omega) m3
      have g4 := g3.trans t2.gr
      have ev4 : I4 m 11 = I0 m 11 ∧ I4 (m + 3) = I0 (m + 3) := ⟨by rw [t2.2 11 (by decide) (by decide) (by decide)]; exact ev3.1, by rw [t2.1 _ (by omega)]; exact ev3.2⟩
      have i4 : I4 (m + 1) = I3 (m + 1) := t2.1 _ (by omega)
      have m6 : I3 m 6 = 0 := m3.2.2.2.1
      refine ⟨_, _, _, _, r1, b_X12_stepsRead_24 hk (fun z => absurd s6 z) (fun _ => b_X12_stepsRead_32 hk (b0.rd (i := 1331) (by decide) (by decide)) (b0.wr (i := 1331) (by decide) (by decide)) rfl hk (fun z => ?_) (fun z => ?_))⟩
      · rw [c31, b0.1, s1, i2, h31, z_shl1 (by omega), z_or, ← E3] at z
        exact absurd m6 z
      · rw [c31, b0.1, s1, i2, h31, z_shl1 (by omega), z_or, ← E3]
        refine b_X12_stepsRead_53 hk ⟨_, _, _, _, t1, b_X12_stepsRead_57 ⟨_, _, _, _, m_isDgt (by omega), b_X12_stepsRead_60 (fun z2 => ?_) (fun z2 => b_X12_stepsRead_63 ?_)⟩⟩
        · have z2 := (pkv_d hbt).mp (zb_1.mp z2)
          rw [zq_t z2] at hres
          exact ih c.2 (told ||| 2 ^ c.1) I4 _ (by omega) t3 g4 ev4 (fun j hj => by rw [i4]; exact j3 j hj) (by rw [i4]; exact k3) hlt2 hb2 hres
        · have z2 : ¬ (c.2 < n ∧ Dgt (B c.2)) := fun y => (zb_0.mp z2) ((pkv_d hbt).mpr y)
          rw [zq_f z2] at hres
          rw [hQ]
          refine ⟨rfl, rfl, rfl, g4, ev4, fun c0 hc0 => (by rw [hres] at hc0; cases hc0), fun c0 hc0 => ?_⟩
          rw [hres] at hc0
          have hc0 := Sum.inr.inj hc0
          rw [← hc0]
          refine ⟨t3, MSl.to hX.1 hX.2 ?_ (fun j hj h1' => ?_), hX.2.1, hlt2, hb2, hX.2.2.2.2⟩
          · show I4 (m + 1) (1330 + 1) = _
            rw [i4]; exact k3
          · show I4 (m + 1) (1330 + j) = _
            rw [i4, j3 _ (by omega)]
end ML

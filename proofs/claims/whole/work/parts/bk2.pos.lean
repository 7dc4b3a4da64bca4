/-! PURE: reading goes on -/
section PO
variable {n q : Nat} {B : Nat → Int32}
theorem stepsP_ge {ord : Nat} : ∀ f told q c, q ≤ n → stepsP B n ord f told q = .inr c → q < c.2 ∧ c.2 ≤ n := by
  intro f
  induction f with
  | zero => intro told q c _ h; cases h
  | succ f ih =>
    intro told q c hq h
    rcases e : numP B n 1 (ord - 1) q with c0 | c0
    · rw [stepsP_l e] at h; cases h
    · rw [stepsP_r e] at h
      obtain ⟨_, _, _, o4, o5, _, _⟩ := numP_ok e hq
      rcases Classical.em (c0.2 < n ∧ Dgt (B c0.2)) with y | y
      · rw [zq_t y] at h
        have := ih _ _ _ o5 h
        omega
      · rw [zq_f y] at h
        have h := Sum.inr.inj h
        rw [← h]; exact ⟨o4, o5⟩
theorem facP_pos {F : Nat → Nat × Nat} {ln : Nat} {c : (Nat × Nat) × Nat} (h : facP B n F ln q = .inr c) (hq : q ≤ n) : q < c.2 ∧ c.2 ≤ n := by
  obtain ⟨_, _, k1, k2, _⟩ := facP_ok h
  have hl := pkw_ne (B := B) (n := n) (q := q) (by omega)
  have hx := pnx_gt (B := B) hl.1
  unfold facN at k2
  by_cases e : pkw B n q = 8
  · rw [if_pos e] at k2
    have := Sum.inr.inj k2
    have e2 : pnx B n q = c.2 := congrArg Prod.snd this
    rw [← e2]
    exact ⟨hx, pnx_le hq⟩
  · rw [if_neg e] at k2
    obtain ⟨_, _, _, o4, o5, _, _⟩ := numP_ok k2 (pnx_le hq)
    have o4 : pnx B n q < c.2 := o4
    exact ⟨by omega, o5⟩
theorem facsP_ge : ∀ f F ln q c, q ≤ n → facsP B n f F ln q = .inr c → q < c.2 ∧ c.2 ≤ n := by
  intro f
  induction f with
  | zero => intro F ln q c _ h; cases h
  | succ f ih =>
    intro F ln q c hq h
    rcases e : facP B n F ln q with c0 | c0
    · rw [facsP_l e] at h; cases h
    · rw [facsP_r e] at h
      obtain ⟨o4, o5⟩ := facP_pos e hq
      rcases Classical.em (pkw B n c0.2 = 4) with y | y
      · rw [zq_t y] at h
        have hl2 := pkw_ne (B := B) (n := n) (q := c0.2) (by omega)
        have g2 := pnx_gt (B := B) hl2.1
        have := ih _ _ _ _ (pnx_le o5) h
        omega
      · rw [zq_f y] at h
        have h := Sum.inr.inj h
        rw [← h]; exact ⟨o4, o5⟩
theorem rowsP_ge : ∀ f R cnt dg q c, q ≤ n → rowsP B n f R cnt dg q = .inr c → q < c.2 ∧ c.2 ≤ n := by
  intro f
  induction f with
  | zero => intro R cnt dg q c _ h; cases h
  | succ f ih =>
    intro R cnt dg q c hq h
    rcases e : rowP B n cnt dg q with c0 | c0
    · rw [rowsP_l e] at h; cases h
    · rw [rowsP_r e] at h
      obtain ⟨⟨_, o2, o3⟩, _⟩ := rowP_ok e hq
      rcases Classical.em (c0.2 < n ∧ B c0.2 = 44) with y | y
      · rw [zq_t y] at h
        have g2 := pnx_gt (B := B) y.1
        have := ih _ _ _ _ _ (pnx_le o3) h
        omega
      · rw [zq_f y] at h
        have h := Sum.inr.inj h
        rw [← h]; exact ⟨by show q < c0.2; omega, o3⟩
theorem permsP_ge {f place : Nat} {c : Slt × Nat} (hq : q ≤ n) (h : permsP B n f place q = .inr c) : q < c.2 ∧ c.2 ≤ n := by
  rcases e : rowsP B n f (fun _ _ => 0) 0 0 q with c0 | c0
  · rw [permsP_l e] at h; cases h
  · rcases e2 : clo c0.1.2.2 c0.1.1 c0.1.2.1 with _ | s
    · rw [permsP_n e e2] at h; cases h
    · rw [permsP_s e e2] at h
      have h := Sum.inr.inj h
      rw [← h]
      exact rowsP_ge _ _ _ _ _ _ hq e
theorem lineP_ge {laid : Bool} {X : Slt} {c : Slt × Nat} (hq : q ≤ n) (h : lineP B n laid X q = .inr c) : q < c.2 ∧ c.2 ≤ n := by
  have base : pkw B n q ≠ 9 → q < pnx B n q ∧ pnx B n q ≤ n := fun h9 => ⟨pnx_gt (pkw_ne h9).1, pnx_le hq⟩
  unfold lineP at h
  rcases Classical.em (pkw B n q = 2) with c2 | c2
  · rw [zq_t c2] at h
    obtain ⟨b1, b2⟩ := base (by omega)
    rcases e : stepsP B n X.n (n + 1) 0 (pnx B n q) with c0 | c0
    · rw [e] at h; cases h
    · rw [e] at h
      have h := Sum.inr.inj h
      have := stepsP_ge _ _ _ _ b2 e
      rw [← h]
      exact ⟨by show q < c0.2; omega, this.2⟩
  · rw [zq_f c2] at h
    rcases Classical.em (pkw B n q = 3) with c3 | c3
    · rw [zq_t c3] at h
      have h := Sum.inr.inj h
      rw [← h]
      exact base (by omega)
    · rw [zq_f c3] at h
      rcases Classical.em (pkw B n q = 0 ∧ laid = false) with c0 | c0
      · rw [zq_t c0] at h
        obtain ⟨b1, b2⟩ := base (by omega)
        rcases e : facsP B n (n + 1) (fun _ => (0, 0)) 0 (pnx B n q) with c1 | c1
        · rw [e] at h; cases h
        · rw [e] at h
          have h := Sum.inr.inj h
          have := facsP_ge _ _ _ _ _ b2 e
          rw [← h]
          exact ⟨by show q < c1.2; omega, this.2⟩
      · rw [zq_f c0] at h
        rcases Classical.em (pkw B n q = 1 ∧ laid = false) with c1 | c1
        · rw [zq_t c1] at h
          obtain ⟨b1, b2⟩ := base (by omega)
          have := permsP_ge b2 h
          omega
        · rw [zq_f c1] at h; cases h
theorem linP_gt {laid : Bool} {X : Slt} {c : Slt × Nat} (h : linP B n laid X q = .inr c) (hq : q ≤ n) : q < c.2 := by
  rcases e : lineP B n laid X q with c0 | c0
  · rw [linP_l e] at h; cases h
  · rw [linP_r e] at h
    obtain ⟨o1, o2⟩ := lineP_ge hq e
    rcases Classical.em (c0.2 < n ∧ B c0.2 = 59) with y | y
    · rw [zq_t y] at h
      have h := Sum.inr.inj h
      have g := pnx_gt (B := B) y.1
      rw [← h]
      show q < pnx B n c0.2
      omega
    · rw [zq_f y] at h; cases h
end PO

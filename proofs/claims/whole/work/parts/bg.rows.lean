/-! PURE: groups of rows of places -/
def Prm (D : Nat) (r : Nat → Nat) : Prop := (∀ i, i < D → r i < D) ∧ ∀ i j, i < D → j < D → r i = r j → i = j
def rup (E : Nat → Nat → Nat) (c : Nat) (r : Nat → Nat) (y : Nat) : Nat → Nat := if y = c then r else E y
noncomputable def cst (D : Nat) (R : Nat → Nat → Nat) (s : Nat × (Nat → Nat → Nat)) (x t : Nat) : Option (Nat × (Nat → Nat → Nat)) := zq (∃ y, y < s.1 ∧ ∀ i, i < D → s.2 y i = R t (s.2 x i)) (some s) (zq (s.1 < 20) (some (s.1 + 1, rup s.2 s.1 (fun i => R t (s.2 x i)))) none)
noncomputable def cin (D : Nat) (R : Nat → Nat → Nat) : Nat → Nat × (Nat → Nat → Nat) → Nat → Nat → Option (Nat × (Nat → Nat → Nat))
  | 0, s, _, _ => some s
  | k + 1, s, x, t => match cst D R s x t with
    | none => none
    | some s' => cin D R k s' x (t + 1)
noncomputable def cou (D : Nat) (R : Nat → Nat → Nat) (T : Nat) : Nat → Nat × (Nat → Nat → Nat) → Nat → Option (Nat × (Nat → Nat → Nat))
  | 0, _, _ => none
  | f + 1, s, x => if x < s.1 then (match cin D R T s x 0 with
    | none => none
    | some s' => cou D R T f s' (x + 1)) else some s
noncomputable def clo (D : Nat) (R : Nat → Nat → Nat) (T : Nat) : Option (Nat × (Nat → Nat → Nat)) := cou D R T 21 (1, fun _ i => i) 0
noncomputable def rtb (D : Nat) (s : Nat × (Nat → Nat → Nat)) (x y : Nat) : Nat := zleast (fun z => z < s.1 ∧ ∀ i, i < D → s.2 z i = s.2 y (s.2 x i))
/-- what holds of the elements that are found -/
def CI (D : Nat) (R : Nat → Nat → Nat) (T : Nat) (s : Nat × (Nat → Nat → Nat)) : Prop := (1 ≤ s.1 ∧ s.1 ≤ 20) ∧ (∀ y, y < s.1 → Prm D (s.2 y)) ∧ (∀ i, i < D → s.2 0 i = i) ∧ (∀ y z, y < s.1 → z < s.1 → (∀ i, i < D → s.2 y i = s.2 z i) → y = z) ∧ ∀ y, y < s.1 → y ≠ 0 → ∃ y' t, y' < y ∧ t < T ∧ ∀ i, i < D → s.2 y i = R t (s.2 y' i)
/-- all of x by the rows before t are there -/
def CD (D : Nat) (R : Nat → Nat → Nat) (s : Nat × (Nat → Nat → Nat)) (x t : Nat) : Prop := ∀ t', t' < t → ∃ y, y < s.1 ∧ ∀ i, i < D → s.2 y i = R t' (s.2 x i)
section RW
variable {D T x t : Nat} {R : Nat → Nat → Nat} {s s' : Nat × (Nat → Nat → Nat)}
/-- one goes on from the other -/
def Ext2 (D : Nat) (s s' : Nat × (Nat → Nat → Nat)) : Prop := s.1 ≤ s'.1 ∧ ∀ y, y < s.1 → s'.2 y = s.2 y
theorem Ext2.refl : Ext2 D s s := ⟨Nat.le_refl _, fun _ _ => rfl⟩
theorem Ext2.trans {s2 : Nat × (Nat → Nat → Nat)} (h : Ext2 D s s') (h' : Ext2 D s' s2) : Ext2 D s s2 := ⟨Nat.le_trans h.1 h'.1, fun y hy => by rw [h'.2 y (Nat.lt_of_lt_of_le hy h.1), h.2 y hy]⟩
theorem CD.ext {y : Nat} (h : CD D R s y t) (hy : y < s.1) (he : Ext2 D s s') : CD D R s' y t := fun t' ht => by
  obtain ⟨z, hz, e⟩ := h t' ht
  exact ⟨z, Nat.lt_of_lt_of_le hz he.1, fun i hi => by rw [he.2 z hz, he.2 y hy]; exact e i hi⟩
theorem cst_ok (hR : ∀ t, t < T → Prm D (R t)) (h : CI D R T s) (hx : x < s.1) (ht : t < T) (e : cst D R s x t = some s') (hd : CD D R s x t) : CI D R T s' ∧ Ext2 D s s' ∧ CD D R s' x (t + 1) := by
  unfold cst at e
  rcases Classical.em (∃ y, y < s.1 ∧ ∀ i, i < D → s.2 y i = R t (s.2 x i)) with c | c
  · rw [zq_t c] at e
    have e := Option.some.inj e
    rw [← e]
    refine ⟨h, Ext2.refl, fun t' ht' => ?_⟩
    by_cases q : t' = t
    · rw [q]; exact c
    · exact hd t' (by omega)
  · rw [zq_f c] at e
    rcases Classical.em (s.1 < 20) with c2 | c2
    · rw [zq_t c2] at e
      have e := Option.some.inj e
      have ee : Ext2 D s s' := by
        rw [← e]
        exact ⟨Nat.le_succ _, fun y hy => if_neg (by omega)⟩
      have e1 : s'.1 = s.1 + 1 := by rw [← e]
      have e2 : s'.2 s.1 = fun i => R t (s.2 x i) := by rw [← e]; exact if_pos rfl
      obtain ⟨h1, h2, h3, h4, h5⟩ := h
      have hp : Prm D (fun i => R t (s.2 x i)) := ⟨fun i hi => (hR t ht).1 _ ((h2 x hx).1 i hi), fun i j hi hj q => (h2 x hx).2 i j hi hj ((hR t ht).2 _ _ ((h2 x hx).1 i hi) ((h2 x hx).1 j hj) q)⟩
      refine ⟨⟨by omega, fun y hy => ?_, fun i hi => by rw [ee.2 0 (by omega)]; exact h3 i hi, fun y z hy hz q => ?_, fun y hy h0 => ?_⟩, ee, fun t' ht' => ?_⟩
      · by_cases q : y = s.1
        · rw [q, e2]; exact hp
        · rw [ee.2 y (by omega)]; exact h2 y (by omega)
      · by_cases q1 : y = s.1
        · by_cases q2 : z = s.1
          · omega
          · exfalso
            rw [q1, e2, ee.2 z (by omega)] at q
            exact c ⟨z, by omega, fun i hi => (q i hi).symm⟩
        · by_cases q2 : z = s.1
          · exfalso
            rw [q2, e2, ee.2 y (by omega)] at q
            exact c ⟨y, by omega, fun i hi => q i hi⟩
          · rw [ee.2 y (by omega), ee.2 z (by omega)] at q
            exact h4 y z (by omega) (by omega) q
      · by_cases q : y = s.1
        · exact ⟨x, t, by omega, ht, fun i hi => by rw [q, e2, ee.2 x hx]⟩
        · obtain ⟨y', t', a1, a2, a3⟩ := h5 y (by omega) h0
          exact ⟨y', t', a1, a2, fun i hi => by rw [ee.2 y (by omega), ee.2 y' (by omega)]; exact a3 i hi⟩
      · by_cases q : t' = t
        · exact ⟨s.1, by omega, fun i hi => by rw [q, e2, ee.2 x hx]⟩
        · exact hd.ext hx ee t' (by omega)
    · rw [zq_f c2] at e; cases e
theorem cin_ok (hR : ∀ t, t < T → Prm D (R t)) : ∀ k s t, CI D R T s → x < s.1 → t + k = T → CD D R s x t → ∀ s', cin D R k s x t = some s' → CI D R T s' ∧ Ext2 D s s' ∧ CD D R s' x T := by
  intro k
  induction k with
  | zero =>
    intro s t h hx ht hd s' e
    have e := Option.some.inj (show some s = some s' from e)
    rw [← e, show T = t by omega]
    exact ⟨by rw [show t = T by omega]; exact h, Ext2.refl, hd⟩
  | succ k ih =>
    intro s t h hx ht hd s' e
    rcases q : cst D R s x t with _ | s1
    · simp only [cin, q] at e; cases e
    · simp only [cin, q] at e
      obtain ⟨a1, a2, a3⟩ := cst_ok hR h hx (by omega) q hd
      obtain ⟨b1, b2, b3⟩ := ih s1 (t + 1) a1 (Nat.lt_of_lt_of_le hx a2.1) (by omega) a3 s' e
      exact ⟨b1, a2.trans b2, b3⟩
theorem cou_ok (hR : ∀ t, t < T → Prm D (R t)) : ∀ f s x, CI D R T s → x ≤ s.1 → (∀ y, y < x → CD D R s y T) → ∀ s', cou D R T f s x = some s' → CI D R T s' ∧ ∀ y, y < s'.1 → CD D R s' y T := by
  intro f
  induction f with
  | zero => intro s x _ _ _ s' e; cases e
  | succ f ih =>
    intro s x h hx hd s' e
    by_cases c : x < s.1
    · rcases q : cin D R T s x 0 with _ | s1
      · simp only [cou, if_pos c, q] at e; cases e
      · simp only [cou, if_pos c, q] at e
        obtain ⟨a1, a2, a3⟩ := cin_ok hR T s 0 h c (by omega) (fun t' ht => by omega) s1 q
        refine ih s1 (x + 1) a1 (by have := a2.1; omega) (fun y hy => ?_) s' e
        by_cases q2 : y = x
        · rw [q2]; exact a3
        · exact (hd y (by omega)).ext (by omega) a2
    · simp only [cou, if_neg c] at e
      have e := Option.some.inj e
      rw [← e]
      exact ⟨h, fun y hy => hd y (by omega)⟩
theorem clo_ok (hR : ∀ t, t < T → Prm D (R t)) (h : clo D R T = some s) : CI D R T s ∧ ∀ y, y < s.1 → CD D R s y T := by
  refine cou_ok hR 21 _ 0 ⟨⟨Nat.le_refl _, by decide⟩, fun y hy => ⟨fun i hi => hi, fun i j _ _ q => q⟩, fun i hi => rfl, fun y z hy hz _ => ?_, fun y hy h0 => ?_⟩ (by omega) (fun y hy => by omega) s h
  · have hy : y < 1 := hy
    have hz : z < 1 := hz
    omega
  · have hy : y < 1 := hy
    omega
theorem clo_mul (hR : ∀ t, t < T → Prm D (R t)) (h : clo D R T = some s) {a b : Nat} (ha : a < s.1) (hb : b < s.1) : ∃ z, z < s.1 ∧ ∀ i, i < D → s.2 z i = s.2 b (s.2 a i) := by
  obtain ⟨⟨h1, h2, h3, h4, h5⟩, h6⟩ := clo_ok hR h
  induction b using Nat.strongRecOn with
  | _ b ih =>
    by_cases e : b = 0
    · exact ⟨a, ha, fun i hi => by rw [e, h3 _ ((h2 a ha).1 i hi)]⟩
    · obtain ⟨y', t, a1, a2, a3⟩ := h5 b hb e
      obtain ⟨z', z1, z2⟩ := ih y' a1 (by omega)
      obtain ⟨z, w1, w2⟩ := h6 z' z1 t a2
      exact ⟨z, w1, fun i hi => by rw [w2 i hi, z2 i hi, a3 _ ((h2 a ha).1 i hi)]⟩
theorem rtb_ok (hR : ∀ t, t < T → Prm D (R t)) (h : clo D R T = some s) {a b : Nat} (ha : a < s.1) (hb : b < s.1) : rtb D s a b < s.1 ∧ ∀ i, i < D → s.2 (rtb D s a b) i = s.2 b (s.2 a i) := (zleast_spec (clo_mul hR h ha hb)).1
theorem rtb_gr (hR : ∀ t, t < T → Prm D (R t)) (h : clo D R T = some s) : Gr0 s.1 (rtb D s) := by
  obtain ⟨⟨h1, h2, h3, h4, h5⟩, h6⟩ := clo_ok hR h
  have ok := fun a b (ha : a < s.1) (hb : b < s.1) => rtb_ok hR h ha hb
  have lt : ∀ a b, a < s.1 → b < s.1 → rtb D s a b < s.1 := fun a b ha hb => (ok a b ha hb).1
  refine ⟨by omega, fun a ha b hb => lt a b ha hb, fun a ha b hb c hc => ?_, fun a ha => ⟨?_, ?_⟩, fun a ha => ?_⟩
  · refine h4 _ _ (lt _ _ (lt a b ha hb) hc) (lt _ _ ha (lt b c hb hc)) (fun i hi => ?_)
    rw [(ok _ _ (lt a b ha hb) hc).2 i hi, (ok a b ha hb).2 i hi, (ok _ _ ha (lt b c hb hc)).2 i hi, (ok b c hb hc).2 _ ((h2 a ha).1 i hi)]
  · refine h4 _ _ (lt 0 a (by omega) ha) ha (fun i hi => ?_)
    rw [(ok 0 a (by omega) ha).2 i hi, h3 i hi]
  · refine h4 _ _ (lt a 0 ha (by omega)) ha (fun i hi => ?_)
    rw [(ok a 0 ha (by omega)).2 i hi, h3 _ ((h2 a ha).1 i hi)]
  · refine z_surj (f := rtb D s a) (fun b hb => lt a b ha hb) (fun b c hb hc e => ?_) (by omega)
    refine h4 b c hb hc (fun i hi => ?_)
    obtain ⟨j, hj, ej⟩ := z_surj (h2 a ha).1 (fun i j hi hj q => (h2 a ha).2 i j hi hj q) hi
    rw [← ej, ← (ok a b ha hb).2 j hj, ← (ok a c ha hc).2 j hj, e]
/-- never out of breath -/
theorem cin_sz : ∀ k s x t s', cin D R k s x t = some s' → s.1 ≤ 20 → s'.1 ≤ 20 ∧ s.1 ≤ s'.1 := by
  intro k
  induction k with
  | zero =>
    intro s x t s' e h
    have e := Option.some.inj (show some s = some s' from e)
    rw [← e]; exact ⟨h, Nat.le_refl _⟩
  | succ k ih =>
    intro s x t s' e h
    rcases q : cst D R s x t with _ | s1
    · simp only [cin, q] at e; cases e
    · simp only [cin, q] at e
      have : s1.1 ≤ 20 ∧ s.1 ≤ s1.1 := by
        unfold cst at q
        rcases Classical.em (∃ y, y < s.1 ∧ ∀ i, i < D → s.2 y i = R t (s.2 x i)) with c | c
        · rw [zq_t c] at q
          have q := Option.some.inj q
          rw [← q]; exact ⟨h, Nat.le_refl _⟩
        · rw [zq_f c] at q
          rcases Classical.em (s.1 < 20) with c2 | c2
          · rw [zq_t c2] at q
            have q := Option.some.inj q
            rw [← q]; exact ⟨c2, Nat.le_succ _⟩
          · rw [zq_f c2] at q; cases q
      have b := ih s1 x (t + 1) s' e this.1
      exact ⟨b.1, Nat.le_trans this.2 b.2⟩
end RW
/-! rows that are told -/
def RwOk (B : Nat → Int32) (q e : Nat) : Prop := (q + 2 ≤ e ∧ e ≤ q + 8) ∧ Prm (e - q) (fun i => dvl B (q + i))
noncomputable def rowP (B : Nat → Int32) (n cnt dg q : Nat) : (Nat × Nat) ⊕ ((Nat × (Nat → Nat)) × Nat) := zq (q < n ∧ Dgt (B q)) (zq (RwOk B q (pte B n q) ∧ (cnt = 0 ∨ pte B n q - q = dg)) (.inr ((pte B n q - q, fun i => dvl B (q + i)), pnx B n q)) (.inl (2, q))) (.inl (1, q))
noncomputable def rowsP (B : Nat → Int32) (n : Nat) : Nat → (Nat → Nat → Nat) → Nat → Nat → Nat → (Nat × Nat) ⊕ (((Nat → Nat → Nat) × Nat × Nat) × Nat)
  | 0, _, _, _, _ => .inl (1, 0)
  | f + 1, R, cnt, dg, q => match rowP B n cnt dg q with
    | .inl c => .inl c
    | .inr c => zq (c.2 < n ∧ B c.2 = 44) (rowsP B n f (rup R cnt c.1.2) (cnt + 1) c.1.1 (pnx B n c.2)) (.inr ((rup R cnt c.1.2, cnt + 1, c.1.1), c.2))
theorem rowsP_l {B : Nat → Int32} {n f cnt dg q : Nat} {R : Nat → Nat → Nat} {c : Nat × Nat} (e : rowP B n cnt dg q = .inl c) : rowsP B n (f + 1) R cnt dg q = .inl c := by
  simp only [rowsP, e]
theorem rowsP_r {B : Nat → Int32} {n f cnt dg q : Nat} {R : Nat → Nat → Nat} {c : (Nat × (Nat → Nat)) × Nat} (e : rowP B n cnt dg q = .inr c) : rowsP B n (f + 1) R cnt dg q = zq (c.2 < n ∧ B c.2 = 44) (rowsP B n f (rup R cnt c.1.2) (cnt + 1) c.1.1 (pnx B n c.2)) (.inr ((rup R cnt c.1.2, cnt + 1, c.1.1), c.2)) := by
  simp only [rowsP, e]
/-- a group of rows, as a slot holds it -/
noncomputable def grR (D : Nat) (s : Nat × (Nat → Nat → Nat)) : Slt := (s.1, rtb D s, ivt (rtb D s), 0, (true, D, 0, (fun x => x), (fun _ => 0), (fun e i => if e < s.1 ∧ i < D then s.2 e i else 0)))
theorem grR_ok {D T : Nat} {R : Nat → Nat → Nat} {s : Nat × (Nat → Nat → Nat)} (hR : ∀ t, t < T → Prm D (R t)) (h : clo D R T = some s) (hD : D ≤ 8) : SlOk (grR D s) := by
  obtain ⟨⟨h1, h2, _⟩, _⟩ := clo_ok hR h
  refine ⟨(rtb_gr hR h).grp h1.2, Nat.pow_pos (by decide), Nat.zero_testBit 0, fun x hx => ?_, fun _ => ⟨hD, fun e i he hi => ?_⟩, fun q => (by cases q)⟩
  · have hx : x < s.1 := hx
    show x < 20
    omega
  · show (if e < s.1 ∧ i < D then s.2 e i else 0) < 8
    by_cases c : e < s.1 ∧ i < D
    · rw [if_pos c]
      have := (h2 e c.1).1 i c.2
      omega
    · rw [if_neg c]; decide

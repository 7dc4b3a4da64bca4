/-! THE STATE that both sides keep; the model's side of it -/
/-- what a slot holds: order, table, inverses, steps, names -/
def Slt : Type := Nat × (Nat → Nat → Nat) × (Nat → Nat) × Nat × Nm
def Slt.n (x : Slt) : Nat := x.1
def Slt.t (x : Slt) : Nat → Nat → Nat := x.2.1
def Slt.iv (x : Slt) : Nat → Nat := x.2.2.1
def Slt.st (x : Slt) : Nat := x.2.2.2.1
def Slt.nm (x : Slt) : Nm := x.2.2.2.2
def Slt.to (x : Slt) (st : Nat) : Slt := (x.n, x.t, x.iv, st, x.nm)
def SlOk (x : Slt) : Prop := Grp x.n x.t x.iv ∧ x.st < 2 ^ x.n ∧ x.st.testBit 0 = false ∧ NmOk x.n x.nm
/-- slots, how many acts, the acts, how long the tape, the tape, fault, place -/
def Wst : Type := (Nat → Slt) × Nat × (Nat → Nat × Slt) × Nat × (Nat → Int32) × Int32 × Int32
def Wst.sl (A : Wst) : Nat → Slt := A.1
def Wst.kp (A : Wst) : Nat := A.2.1
def Wst.hi (A : Wst) : Nat → Nat × Slt := A.2.2.1
def Wst.tl (A : Wst) : Nat := A.2.2.2.1
def Wst.tp (A : Wst) : Nat → Int32 := A.2.2.2.2.1
def Wst.fa (A : Wst) : Int32 := A.2.2.2.2.2.1
def Wst.pl (A : Wst) : Int32 := A.2.2.2.2.2.2
def WOk (A : Wst) : Prop := (∀ s, s < 2 → SlOk (A.sl s)) ∧ A.kp ≤ 8 ∧ (∀ k, k < A.kp → (A.hi k).1 < 2 ∧ SlOk (A.hi k).2) ∧ A.tl ≤ 300
/-- a slot's cells in the model -/
def MSl (f : Nat → Int32) (x : Slt) : Prop := f 0 = nI x.n ∧ f 1 = nI x.st ∧ f 2 = nI x.nm.ki.toNat ∧ f 3 = nI x.nm.ln ∧ f 4 = x.nm.pr ∧ (∀ y, y < x.n → f (5 + y) = nI (x.nm.og y)) ∧ (x.nm.ki = false → ∀ i, i < x.nm.ln → f (25 + i) = nI (x.nm.sz i)) ∧ (x.nm.ki = true → ∀ y i, y < x.n → i < x.nm.ln → f (105 + 8 * x.nm.og y + i) = nI (x.nm.ro (x.nm.og y) i)) ∧ ∀ y z, y < x.n → z < x.n → f (265 + 20 * y + z) = nI (x.t y z)
def MW (S : zS) (I : zI) (m : Nat) (A : Wst) : Prop := MLay S m ∧ (∀ s, s < 2 → MSl (fun j => I (m + 1) (665 * s + j)) (A.sl s)) ∧ I m 19 = nI A.kp ∧ (∀ k, k < A.kp → MSl (fun j => I (m + 7) (666 * k + j)) (A.hi k).2 ∧ I (m + 7) (666 * k + 665) = nI (A.hi k).1) ∧ I m 3 = nI A.tl ∧ (∀ j, j < A.tl → I (m + 2) j = A.tp j) ∧ I m 6 = A.fa ∧ I m 7 = A.pl
/-- outside of the model's cells nothing changes -/
def MFr (I0 I : zI) (m : Nat) : Prop := (∀ h, h < m ∨ m + 16 < h ∨ h = m + 3 → I h = I0 h) ∧ I m 11 = I0 m 11
/-- an act is kept -/
def Wst.keep (A : Wst) (s : Nat) : Wst := (A.sl, (if A.kp = 8 then 8 else A.kp + 1), (fun k => if A.kp = 8 then (if k = 7 then (s, A.sl s) else A.hi (k + 1)) else (if k = A.kp then (s, A.sl s) else A.hi k)), A.tl, A.tp, A.fa, A.pl)
def Wst.put (A : Wst) (s : Nat) (x : Slt) : Wst := ((fun i => if i = s then x else A.sl i), A.kp, A.hi, A.tl, A.tp, A.fa, A.pl)
section M21
variable {d m s : Nat} {A : Wst} {x : Slt} {S : zS} {I I0 I1 I' : zI} {J : zJ}
theorem MFr.refl : MFr I I m := ⟨fun _ _ => rfl, rfl⟩
theorem MFr.trans (h1 : MFr I0 I1 m) (h2 : MFr I1 I m) : MFr I0 I m := ⟨fun h hh => by rw [h2.1 h hh]; exact h1.1 h hh, h2.2.trans h1.2⟩
theorem MQy.mf (h : MQy I I' m) : MFr I I' m := ⟨fun a ha => h.1 a (by omega) (by omega), h.2 11 (by decide) (by decide)⟩
theorem MFr.w {a k : Nat} {v : Int32} (h : MFr I0 I m) (h1 : m ≤ a ∧ a ≠ m + 3 ∧ (a = m → k ≠ 11)) (h2 : a ≤ m + 16) : MFr I0 (z_u2 I a k v) m := ⟨fun b hb => by rw [z_u2_row (by omega)]; exact h.1 b hb, by
  by_cases e : a = m
  · rw [z_u2_nk (h1.2.2 e).symm]; exact h.2
  · rw [z_u2_ne (fun q => e q.symm)]; exact h.2⟩
theorem MSl.cg {f g : Nat → Int32} (h : MSl f x) (hx : SlOk x) (e : ∀ j, j < 665 → g j = f j) : MSl g x := by
  obtain ⟨h1, h2, h3, h4, h5, h6, h7, h8, h9⟩ := h
  obtain ⟨hg, _, _, o1, o2, o3⟩ := hx
  have hn := hg.le
  refine ⟨by rw [e 0 (by omega)]; exact h1, by rw [e 1 (by omega)]; exact h2, by rw [e 2 (by omega)]; exact h3, by rw [e 3 (by omega)]; exact h4, by rw [e 4 (by omega)]; exact h5, fun y hy => by rw [e _ (by omega)]; exact h6 y hy, fun q i hi => ?_, fun q y i hy hi => ?_, fun y z hy hz => by rw [e _ (by omega)]; exact h9 y z hy hz⟩
  · have := (o3 q).1
    rw [e _ (by omega)]; exact h7 q i hi
  · have := (o2 q).1
    have := o1 y hy
    rw [e _ (by omega)]; exact h8 q y i hy hi
theorem MSl.to {f g : Nat → Int32} {st : Nat} (h : MSl f x) (hx : SlOk x) (e1 : g 1 = nI st) (e : ∀ j, j < 665 → j ≠ 1 → g j = f j) : MSl g (x.to st) := by
  have h' := h.cg (g := fun j => if j = 1 then f 1 else g j) hx (fun j hj => by
    by_cases q : j = 1
    · rw [if_pos q, q]
    · rw [if_neg q]; exact e j hj q)
  obtain ⟨h1, h2, h3, h4, h5, h6, h7, h8, h9⟩ := h'
  refine ⟨h1, e1, h3, h4, h5, fun y hy => ?_, fun q i hi => ?_, fun q y i hy hi => ?_, fun y z hy hz => ?_⟩
  · have := h6 y hy
    simp only [if_neg (show ¬ 5 + y = 1 by omega)] at this; exact this
  · have := h7 q i hi
    simp only [if_neg (show ¬ 25 + i = 1 by omega)] at this; exact this
  · have := h8 q y i hy hi
    simp only [if_neg (show ¬ 105 + 8 * x.nm.og y + i = 1 by omega)] at this; exact this
  · have := h9 y z hy hz
    simp only [if_neg (show ¬ 265 + 20 * y + z = 1 by omega)] at this; exact this
theorem MW.mq (h : MW S I m A) (hq : MQy I I' m) : MW S I' m A := by
  obtain ⟨h1, h2, h3, h4, h5, h6, h7, h8⟩ := h
  unfold MW
  rw [hq.1 (m + 1) (by omega) (by omega), hq.1 (m + 7) (by omega) (by omega), hq.1 (m + 2) (by omega) (by omega), hq.2 19 (by decide) (by decide), hq.2 3 (by decide) (by decide), hq.2 6 (by decide) (by decide), hq.2 7 (by decide) (by decide)]
  exact ⟨h1, h2, h3, h4, h5, h6, h7, h8⟩
theorem MW.ms (h : MW S I m A) (hA : WOk A) : MSS S I m (fun s => (A.sl s).n) (fun s => (A.sl s).t) (fun s => (A.sl s).st) := by
  refine ⟨h.1, fun s hs => ?_⟩
  obtain ⟨h1, h2, h3, h4, h5, h6, h7, h8, h9⟩ := h.2.1 s hs
  have hg := (hA.1 s hs).1
  refine ⟨⟨h.1.ma, by omega, hg.1, ?_, fun x hx y hy => ?_⟩, ?_⟩
  · rw [h.1.a0.1]; exact h1
  · rw [h.1.a0.1, show 665 * s + 265 + 20 * x + y = 665 * s + (265 + 20 * x + y) by omega]; exact h9 x y hx hy
  · rw [h.1.a0.1]; exact h2
theorem WOk.gs (hA : WOk A) : GS (fun s => (A.sl s).n) (fun s => (A.sl s).t) (fun s => (A.sl s).iv) (fun s => (A.sl s).st) := fun s hs => ⟨(hA.1 s hs).1, (hA.1 s hs).2.1, (hA.1 s hs).2.2.1⟩
theorem MW.nm (h : MW S I m A) (hA : WOk A) : ∀ s, s < 2 → MNm S I m s (A.sl s).n (A.sl s).nm := by
  intro s hs
  obtain ⟨h1, h2, h3, h4, h5, h6, h7, h8, h9⟩ := h.2.1 s hs
  unfold MNm
  rw [h.1.a0.1]
  refine ⟨(hA.1 s hs).2.2.2, h3, h4, h5, fun x hx => ?_, fun q i hi => ?_, fun q x i hx hi => ?_⟩
  · rw [Nat.add_assoc]; exact h6 x hx
  · rw [Nat.add_assoc]; exact h7 q i hi
  · rw [Nat.add_assoc, Nat.add_assoc, ← Nat.add_assoc 105]; exact h8 q x i hx hi
/-- cells copied -/
theorem m_copies {u v p r lu lv : Nat} (hd : 0 < d) (hu : z_isI (z_kd S u) = true ∧ z_ln S u = lu) (hv : z_kd S v = 100 ∧ z_ln S v = lv) (huv : u ≠ v) (h1 : p + 665 ≤ lu) (h2 : r + 665 ≤ lv) (h3 : lu < 2 ^ 20) (h4 : lv < 2 ^ 20) : ∃ I', z_ev d i_X12_copies [.ref u, .int (nI p), .ref v, .int (nI r)] S I J none S I' J ∧ (∀ h, h ≠ v → I' h = I h) ∧ (∀ j, j < 665 → I' v (r + j) = I u (p + j)) ∧ ∀ j, j < r ∨ r + 665 ≤ j → I' v j = I v j := by
  obtain ⟨d, rfl⟩ := z_dep hd
  obtain ⟨Q, hQ⟩ : ∃ Q : zQ, Q = fun w S' I' J' => w = none ∧ S' = S ∧ J' = J ∧ (∀ h, h ≠ v → I' h = I h) ∧ (∀ j, j < 665 → I' v (r + j) = I u (p + j)) ∧ ∀ j, j < r ∨ r + 665 ≤ j → I' v j = I v j := ⟨_, rfl⟩
  suffices hw : z_wp (d + 1) i_X12_copies [.ref u, .int (nI p), .ref v, .int (nI r)] S I J Q by
    rw [hQ] at hw
    obtain ⟨w, S', I', J', x1, rfl, rfl, rfl, x2⟩ := hw
    exact ⟨I', x1, x2⟩
  refine w_X12_copies (b_X12_copies_0 ?_)
  suffices H : ∀ k, k ≤ 665 → ∀ I1 x4, (∀ h, h ≠ v → I1 h = I h) → (∀ j, j < k → I1 v (r + j) = I u (p + j)) → (∀ j, j < r ∨ r + k ≤ j → I1 v j = I v j) → x4 = nI k → Go d i_X12_copies 3 [.ref u, .int (nI p), .ref v, .int (nI r), .int x4] [] S I1 J Q from H 0 (by omega) I _ (fun _ _ => rfl) (fun j hj => by omega) (fun _ _ => rfl) rfl
  refine z_up_to 665 ?_ ?_
  · rintro I1 x4 a1 a2 a3 rfl
    refine b_X12_copies_3 (fun _ => b_X12_copies_29 ?_) (fun z => absurd (by decide) z)
    rw [hQ]; exact ⟨rfl, rfl, rfl, a1, a2, a3⟩
  · rintro k hk ih I1 x4 a1 a2 a3 rfl
    refine b_X12_copies_3 (fun z => absurd z (nI_ge hk (by decide))) (fun _ => b_X12_copies_11 ⟨hu.1, by rw [nI_add, hu.2]; exact vp_in_nI (by omega) (by omega)⟩ ⟨hv.1, by rw [nI_add, hv.2]; exact vp_in_nI (by omega) (by omega)⟩ ?_)
    rw [nI_add, nI_add, nI_clamp (by omega), nI_clamp (by omega), a1 u huv]
    refine ih _ _ (fun h hh => by rw [z_u2_row hh]; exact a1 h hh) (fun j hj => ?_) (fun j hj => ?_) (nI_1 k)
    · by_cases e : j = k
      · rw [e, z_u2_same]
      · rw [z_u2_nk (by omega)]; exact a2 j (by omega)
    · rw [z_u2_nk (by omega)]; exact a3 j (by omega)
theorem WOk.keep (hA : WOk A) (hs : s < 2) : WOk (A.keep s) := by
  obtain ⟨h1, h2, h3, h4⟩ := hA
  refine ⟨h1, ?_, ?_, h4⟩
  · show (if A.kp = 8 then 8 else A.kp + 1) ≤ 8
    by_cases e : A.kp = 8
    · rw [if_pos e]; exact Nat.le_refl _
    · rw [if_neg e]; omega
  · intro k hk
    have hk : k < (if A.kp = 8 then 8 else A.kp + 1) := hk
    show (if A.kp = 8 then (if k = 7 then (s, A.sl s) else A.hi (k + 1)) else (if k = A.kp then (s, A.sl s) else A.hi k)).1 < 2 ∧ SlOk (if A.kp = 8 then (if k = 7 then (s, A.sl s) else A.hi (k + 1)) else (if k = A.kp then (s, A.sl s) else A.hi k)).2
    by_cases e : A.kp = 8
    · rw [if_pos e] at hk
      rw [if_pos e]
      by_cases e2 : k = 7
      · rw [if_pos e2]; exact ⟨hs, h1 s hs⟩
      · rw [if_neg e2]; exact h3 (k + 1) (by omega)
    · rw [if_neg e] at hk
      rw [if_neg e]
      by_cases e2 : k = A.kp
      · rw [if_pos e2]; exact ⟨hs, h1 s hs⟩
      · rw [if_neg e2]; exact h3 k (by omega)
theorem m_keeps (hd : 1 < d) (h : MW S I0 m A) (hA : WOk A) (hs : s < 2) : ∃ I', z_ev d i_X12_keeps [.ref m, .int (nI s)] S I0 J none S I' J ∧ MFr I0 I' m ∧ MW S I' m (A.keep s) := by
  obtain ⟨d, rfl⟩ := z_dep (d := d) (by omega)
  obtain ⟨hL, h2, h3, h4, h5, h6, h7, h8⟩ := h
  have hk := hL.k
  have b0 := hL.a0
  have b18 := hL.a18
  have hkp := hA.2.1
  obtain ⟨Q, hQ⟩ : ∃ Q : zQ, Q = fun w S' I' J' => w = none ∧ S' = S ∧ J' = J ∧ MFr I0 I' m ∧ MW S I' m (A.keep s) := ⟨_, rfl⟩
  suffices hw : z_wp (d + 1) i_X12_keeps [.ref m, .int (nI s)] S I0 J Q by
    rw [hQ] at hw
    obtain ⟨w, S', I', J', x1, rfl, rfl, rfl, x2⟩ := hw
    exact ⟨I', x1, x2⟩
  -- the end
  have tail : ∀ (H : Nat → Nat × Slt) (k : Nat) (I1 : zI) v2, k < 8 → (∀ h, h ≠ m → h ≠ m + 7 → I1 h = I0 h) → (∀ j, j ≠ 19 → I1 m j = I0 m j) → I1 m 19 = nI k → (∀ i, i < k → MSl (fun j => I1 (m + 7) (666 * i + j)) (H i).2 ∧ I1 (m + 7) (666 * i + 665) = nI (H i).1) → (∀ j, j < 665 → I1 (m + 7) (666 * k + j) = I0 (m + 1) (665 * s + j)) → (A.keep s).kp = k + 1 → (∀ i, i < k → (A.keep s).hi i = H i ∧ SlOk (H i).2) → (A.keep s).hi k = (s, A.sl s) → Go d i_X12_keeps 76 [.ref m, .int (nI s), v2] [] S I1 J Q := by
    intro H k I1 v2 hk8 g1 g2 g3 g4 g5 g6 g7 g8
    have e1 : (666 : Int32) * I1 m 19 + 665 = nI (666 * k + 665) := by rw [g3, z_lit 666, pk_mul, z_lit 665, nI_add]
    refine b_X12_keeps_76 hk hk (by rw [e1]; exact b18.wr (by omega) (by decide)) hk hk rfl ?_
    rw [e1, nI_clamp (by omega), b18.1, z_u2_ne (show m ≠ m + 7 by omega), g3, nI_1]
    rw [hQ]
    refine ⟨rfl, rfl, rfl, ⟨fun h hh => by rw [z_u2_row (by omega), z_u2_row (by omega)]; exact g1 h (by omega) (by omega), by rw [z_u2_nk (by decide), z_u2_ne (by omega)]; exact g2 11 (by decide)⟩, hL, fun s' hs' => ?_, ?_, fun i hi => ?_, ?_, fun j hj => ?_, ?_, ?_⟩
    · have := h2 s' hs'
      rw [z_u2_row (by omega), z_u2_row (by omega), g1 (m + 1) (by omega) (by omega)]; exact this
    · rw [z_u2_same, g6]
    · rw [g6] at hi
      rw [z_u2_row (show m + 7 ≠ m by omega)]
      by_cases e : i = k
      · subst e
        rw [g8]
        refine ⟨(h2 s hs).cg (hA.1 s hs) (fun j hj => ?_), by rw [z_u2_same]⟩
        rw [z_u2_nk (by omega)]; exact g5 j hj
      · obtain ⟨f1, f2⟩ := g4 i (by omega)
        obtain ⟨f3, f4⟩ := g7 i (by omega)
        rw [f3]
        refine ⟨f1.cg f4 (fun j hj => ?_), ?_⟩
        · rw [z_u2_nk (by omega)]
        · rw [z_u2_nk (by omega)]; exact f2
    · rw [z_u2_nk (by decide), z_u2_ne (by omega), g2 3 (by decide)]; exact h5
    · rw [z_u2_row (by omega), z_u2_row (by omega), g1 (m + 2) (by omega) (by omega)]; exact h6 j hj
    · rw [z_u2_nk (by decide), z_u2_ne (by omega), g2 6 (by decide)]; exact h7
    · rw [z_u2_nk (by decide), z_u2_ne (by omega), g2 7 (by decide)]; exact h8
  have e665 : (665 : Int32) * nI s = nI (665 * s) := by rw [z_lit 665, pk_mul]
  refine w_X12_keeps (b_X12_keeps_0 hk (fun c => ?_) (fun c => b_X12_keeps_9 ?_))
  · rw [h3, z_lit 8, nI_eq (by omega) (by decide)] at c
    obtain ⟨I1, q1, q2, q3, q4⟩ := m_copies (d := d) (S := S) (I := I0) (J := J) (u := m + 1) (v := m + 7) (p := 665 * s) (r := 666 * A.kp) (by omega) ⟨by rw [b0.2.1]; rfl, b0.2.2⟩ ⟨b18.2.1, b18.2.2⟩ (by omega) (by omega) (by omega) (by decide) (by decide)
    refine b_X12_keeps_52 hk hk hk ?_
    rw [b0.1, b18.1, e665, h3, z_lit 666, pk_mul]
    refine ⟨_, _, _, _, q1, tail A.hi A.kp I1 _ (by omega) (fun h _ hh => q2 h hh) (fun j _ => by rw [q2 m (by omega)]) (by rw [q2 m (by omega)]; exact h3) (fun i hi => ?_) q3 (if_neg c) (fun i hi => ⟨?_, (hA.2.2.1 i hi).2⟩) ?_⟩
    · obtain ⟨f1, f2⟩ := h4 i hi
      exact ⟨f1.cg (hA.2.2.1 i hi).2 (fun j hj => q4 _ (by omega)), by rw [q4 _ (by omega)]; exact f2⟩
    · show (if A.kp = 8 then (if i = 7 then (s, A.sl s) else A.hi (i + 1)) else (if i = A.kp then (s, A.sl s) else A.hi i)) = A.hi i
      rw [if_neg c, if_neg (by omega)]
    · show (if A.kp = 8 then (if A.kp = 7 then (s, A.sl s) else A.hi (A.kp + 1)) else (if A.kp = A.kp then (s, A.sl s) else A.hi A.kp)) = (s, A.sl s)
      rw [if_neg c, if_pos rfl]
  · rw [h3, z_lit 8, nI_eq (by omega) (by decide)] at c
    suffices H : ∀ k, k ≤ 4662 → ∀ I1 x2, (∀ h, h ≠ m + 7 → I1 h = I0 h) → (∀ j, j < k → I1 (m + 7) j = I0 (m + 7) (j + 666)) → (∀ j, k ≤ j → I1 (m + 7) j = I0 (m + 7) j) → x2 = nI k → Go d i_X12_keeps 11 [.ref m, .int (nI s), .int x2] [] S I1 J Q from H 0 (by omega) I0 _ (fun _ _ => rfl) (fun j hj => by omega) (fun _ _ => rfl) rfl
    refine z_up_to 4662 ?_ ?_
    · rintro I1 x2 a1 a2 a3 rfl
      refine b_X12_keeps_11 (fun _ => b_X12_keeps_42 hk hk hk hk hk ?_) (fun z => absurd (by decide) z)
      have e7 : I1 m 19 - 1 = nI 7 := by rw [a1 m (by omega), h3, c]; decide
      rw [e7, z_u2_same, b0.1, b18.1, e665, show (666 : Int32) * nI 7 = nI (666 * 7) by decide]
      obtain ⟨Ia, hIa⟩ : ∃ Ia, Ia = z_u2 I1 m 19 (nI 7) := ⟨_, rfl⟩
      rw [← hIa]
      have fa : ∀ h, h ≠ m → Ia h = I1 h := fun h hh => by rw [hIa, z_u2_row hh]
      obtain ⟨I2, q1, q2, q3, q4⟩ := m_copies (d := d) (S := S) (I := Ia) (J := J) (u := m + 1) (v := m + 7) (p := 665 * s) (r := 666 * 7) (by omega) ⟨by rw [b0.2.1]; rfl, b0.2.2⟩ ⟨b18.2.1, b18.2.2⟩ (by omega) (by omega) (by omega) (by decide) (by decide)
      refine ⟨_, _, _, _, q1, tail (fun k => A.hi (k + 1)) 7 I2 _ (by decide) (fun h g1 g2 => by rw [q2 h g2, fa h g1, a1 h g2]) (fun j hj => by rw [q2 m (by omega), hIa, z_u2_nk hj, a1 m (by omega)]) (by rw [q2 m (by omega), hIa, z_u2_same]) (fun i hi => ?_) (fun j hj => by rw [q3 j hj, fa (m + 1) (by omega), a1 (m + 1) (by omega)]) (if_pos c) (fun i hi => ⟨?_, (hA.2.2.1 (i + 1) (by omega)).2⟩) ?_⟩
      · obtain ⟨f1, f2⟩ := h4 (i + 1) (by omega)
        refine ⟨f1.cg (hA.2.2.1 (i + 1) (by omega)).2 (fun j hj => ?_), ?_⟩
        · rw [q4 _ (by omega), fa (m + 7) (by omega), a2 _ (by omega), show 666 * i + j + 666 = 666 * (i + 1) + j by omega]
        · rw [q4 _ (by omega), fa (m + 7) (by omega), a2 _ (by omega), show 666 * i + 665 + 666 = 666 * (i + 1) + 665 by omega]; exact f2
      · show (if A.kp = 8 then (if i = 7 then (s, A.sl s) else A.hi (i + 1)) else (if i = A.kp then (s, A.sl s) else A.hi i)) = A.hi (i + 1)
        rw [if_pos c, if_neg (by omega)]
      · show (if A.kp = 8 then (if 7 = 7 then (s, A.sl s) else A.hi (7 + 1)) else (if 7 = A.kp then (s, A.sl s) else A.hi 7)) = (s, A.sl s)
        rw [if_pos c, if_pos rfl]
    · rintro k hk' ih I1 x2 a1 a2 a3 rfl
      have e1 : (nI k + 665) + 1 = nI (k + 666) := by rw [z_lit 665, nI_add, nI_1]
      refine b_X12_keeps_11 (fun z => absurd z (nI_ge hk' (by decide))) (fun _ => b_X12_keeps_18 hk hk (by rw [e1]; exact b18.rd (by omega) (by decide)) (b18.wr (by omega) (by decide)) rfl ?_)
      rw [e1, b18.1, nI_clamp (by omega), nI_clamp (by omega), a3 (k + 666) (by omega)]
      refine ih _ _ (fun h hh => by rw [z_u2_row hh]; exact a1 h hh) (fun j hj => ?_) (fun j hj => by rw [z_u2_nk (by omega)]; exact a3 j (by omega)) (nI_1 k)
      by_cases e : j = k
      · rw [e, z_u2_same]
      · rw [z_u2_nk e]; exact a2 j (by omega)
end M21

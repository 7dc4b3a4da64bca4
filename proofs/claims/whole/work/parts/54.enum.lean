/-! PURE: rows of numbers, rising; all subgroups grow by one element more -/
theorem zcn_inj {p : Nat → Prop} {f : Nat → Nat} {N T : Nat} (h1 : ∀ i, i < N → p (f i) ∧ f i < T) (h2 : ∀ i j, i < j → j < N → f i ≠ f j) : N ≤ zcn p T := by
  have := dcount (p := fun _ => True) (U := p) (R := fun i z => f i = z ∧ p z) (T := T) (c := 1) N (fun i hi _ => by
    obtain ⟨g1, g2⟩ := h1 i hi
    have e := zcn_eq1 (x := f i) T g2
    rw [← e]
    exact zcn_mono T (fun z _ q => ⟨q.symm, by rw [q]; exact g1⟩)) (fun i hi j hj _ _ z _ q1 q2 => by
    rcases Nat.lt_trichotomy i j with r | r | r
    · exact absurd (by rw [q1.1, q2.1]) (h2 i j r hj)
    · exact r
    · exact absurd (by rw [q1.1, q2.1]) (h2 j i r hi)) (fun i hi _ z _ q => q.2)
  rw [zcn_all (p := fun _ => True) N (fun _ _ => trivial)] at this
  omega
theorem zcn_sur {p : Nat → Prop} {f : Nat → Nat} {N T : Nat} (h : ∀ a, a < T → p a → ∃ i, i < N ∧ f i = a) : zcn p T ≤ N := by
  have := dcount (p := p) (U := fun _ => True) (R := fun a i => f i = a) (T := N) (c := 1) T (fun a ha q => by
    obtain ⟨i, g1, g2⟩ := h a ha q
    rw [← zcn_eq1 (x := i) N g1]
    exact zcn_mono N (fun z _ q => by rw [q]; exact g2)) (fun a _ b _ _ _ i _ q1 q2 => by rw [← q1, q2]) (fun _ _ _ _ _ _ => trivial)
  rw [zcn_all (p := fun _ => True) N (fun _ _ => trivial)] at this
  omega
def Enum (p : Nat → Prop) (T N : Nat) (f : Nat → Nat) : Prop := (∀ i, i < N → p (f i) ∧ f i < T) ∧ (∀ i j, i < j → j < N → f i < f j) ∧ ∀ a, a < T → p a → ∃ i, i < N ∧ f i = a
noncomputable def kth (p : Nat → Prop) (k : Nat) : Nat := zleast (fun a => p a ∧ zcn p a = k)
theorem zcn_step {p : Nat → Prop} {a b : Nat} (h : a < b) (ha : p a) : zcn p a < zcn p b := by
  obtain ⟨c, rfl⟩ : ∃ c, b = a + 1 + c := ⟨b - a - 1, by omega⟩
  rw [zcn_add, zcn_t ha]
  omega
theorem kth_eq {p : Nat → Prop} {a k : Nat} (ha : p a) (hk : zcn p a = k) : kth p k = a := zleast_eq ⟨ha, hk⟩ (fun j hj q => by
  have := zcn_step hj q.1
  omega)
theorem Enum.cnt {p : Nat → Prop} {T N : Nat} {f : Nat → Nat} (h : Enum p T N f) : N = zcn p T := by
  have h1 := zcn_inj h.1 (fun i j h1 h2 e => by have := h.2.1 i j h1 h2; omega)
  have h2 := zcn_sur h.2.2
  omega
theorem Enum.kth {p : Nat → Prop} {T N i : Nat} {f : Nat → Nat} (h : Enum p T N f) (hi : i < N) : f i = kth p i := by
  refine (kth_eq (h.1 i hi).1 ?_).symm
  have h1 : i ≤ zcn p (f i) := zcn_inj (f := f) (fun j hj => ⟨(h.1 j (by omega)).1, h.2.1 j i hj hi⟩) (fun a b h1 h2 e => by have := h.2.1 a b h1 (by omega); omega)
  have h2 : zcn p (f i) ≤ i := zcn_sur (f := f) (fun a ha hp => by
    obtain ⟨j, g1, g2⟩ := h.2.2 a (by have := (h.1 i hi).2; omega) hp
    refine ⟨j, ?_, g2⟩
    rcases Nat.lt_or_ge j i with q | q
    · exact q
    · rcases Nat.lt_or_ge i j with r | r
      · have := h.2.1 i j r g1; omega
      · rw [show j = i by omega] at g2; omega)
  omega
/-- the number at place i goes down to place j -/
def ins (f : Nat → Nat) (i j : Nat) (m : Nat) : Nat := if m < j then f m else if m = j then f i else if m ≤ i then f (m - 1) else f m
theorem ins_lt {f : Nat → Nat} {i j m : Nat} (h : m < j) : ins f i j m = f m := if_pos h
theorem ins_eq {f : Nat → Nat} {i j : Nat} : ins f i j j = f i := by unfold ins; rw [if_neg (by omega), if_pos rfl]
theorem ins_md {f : Nat → Nat} {i j m : Nat} (h : j < m) (h2 : m ≤ i) : ins f i j m = f (m - 1) := by unfold ins; rw [if_neg (by omega), if_neg (by omega), if_pos h2]
theorem ins_gt {f : Nat → Nat} {i j m : Nat} (h : j ≤ i) (h2 : i < m) : ins f i j m = f m := by unfold ins; rw [if_neg (by omega), if_neg (by omega), if_neg (by omega)]
theorem ins_ex {f : Nat → Nat} {i j N : Nat} (hj : j ≤ i) (hi : i < N) (a : Nat) : (∃ m, m < N ∧ ins f i j m = a) ↔ ∃ m, m < N ∧ f m = a := by
  constructor
  · rintro ⟨m, h1, h2⟩
    rcases Nat.lt_trichotomy m j with q | q | q
    · exact ⟨m, h1, by rw [← h2, ins_lt q]⟩
    · exact ⟨i, hi, by rw [← h2, q, ins_eq]⟩
    · rcases Nat.lt_or_ge i m with r | r
      · exact ⟨m, h1, by rw [← h2, ins_gt hj r]⟩
      · exact ⟨m - 1, by omega, by rw [← h2, ins_md q r]⟩
  · rintro ⟨m, h1, h2⟩
    rcases Nat.lt_or_ge m j with q | q
    · exact ⟨m, h1, by rw [← h2, ins_lt q]⟩
    · rcases Nat.lt_trichotomy m i with r | r | r
      · exact ⟨m + 1, by omega, by rw [← h2, ins_md (by omega) (by omega)]; rfl⟩
      · exact ⟨j, by omega, by rw [← h2, r, ins_eq]⟩
      · exact ⟨m, h1, by rw [← h2, ins_gt hj r]⟩
theorem ins_up {f : Nat → Nat} {i j : Nat} (hj : j ≤ i) (hs : ∀ a b, a < b → b < i → f a < f b) (h1 : ∀ a, a < j → f a < f i) (h2 : ∀ a, j ≤ a → a < i → f i < f a) : ∀ a b, a < b → b < i + 1 → ins f i j a < ins f i j b := by
  intro a b hab hb
  rcases Nat.lt_trichotomy b j with q | q | q
  · rw [ins_lt q, ins_lt (by omega)]; exact hs a b hab (by omega)
  · rw [q, ins_eq, ins_lt (by omega)]; exact h1 a (by omega)
  · rw [ins_md (m := b) q (by omega)]
    rcases Nat.lt_trichotomy a j with r | r | r
    · rw [ins_lt r]
      rcases Nat.lt_or_ge a (b - 1) with w | w
      · exact hs a (b - 1) w (by omega)
      · omega
    · rw [r, ins_eq]; exact h2 (b - 1) (by omega) (by omega)
    · rw [ins_md r (by omega)]; exact hs (a - 1) (b - 1) (by omega) (by omega)
section E
variable {n : Nat} {t : Nat → Nat → Nat} {iv : Nat → Nat}
/-- all subgroups are there, once it is closed -/
theorem sub_all (hg : Grp n t iv) {N : Nat} {f : Nat → Nat} (h0 : ∃ i, i < N ∧ f i = 1) (hs : ∀ i, i < N → SG n t (f i)) (hc : ∀ i, i < N → ∀ x, x < n → ∃ j, j < N ∧ f j = gen n t (f i ||| 2 ^ x)) : ∀ a, SG n t a → ∃ i, i < N ∧ f i = a := by
  intro a ha
  have key : ∀ c, ∀ i, i < N → (∀ y, y < n → (f i).testBit y = true → a.testBit y = true) → n - zc n (f i) ≤ c → ∃ j, j < N ∧ f j = a := by
    intro c
    induction c with
    | zero =>
      intro i hi hsub hcn
      refine ⟨i, hi, sg_eq hg (hs i hi) ha hsub ?_⟩
      have h1 := zc_mono hsub
      have h2 := zc_le n a
      omega
    | succ c ih =>
      intro i hi hsub hcn
      rcases Classical.em (∃ x, x < n ∧ a.testBit x = true ∧ (f i).testBit x = false) with ⟨x, hx, q1, q2⟩ | hno
      · obtain ⟨j, hj, e⟩ := hc i hi x hx
        refine ih j hj ?_ ?_
        · rw [e]
          exact (gen_sub hg ha (fun y hy r => by
            rw [b_orp] at r
            rcases r with r | rfl
            · exact hsub y hy r
            · exact q1)).1
        · have h1 := gen_new hg (s := f i) hx (by rw [(hs i hi).fx hg]; exact q2)
          rw [(hs i hi).fx hg] at h1
          rw [e]
          omega
      · refine ⟨i, hi, z_ext (hs i hi).1 ha.1 (fun y hy => ?_)⟩
        cases h1 : (f i).testBit y with
        | true => rw [hsub y hy h1]
        | false =>
          cases h2 : a.testBit y with
          | false => rfl
          | true => exact absurd ⟨y, hy, h2, h1⟩ hno
  obtain ⟨i, hi, e⟩ := h0
  refine key n i hi (fun y hy q => ?_) (by omega)
  rw [e, show (1 : Nat) = 2 ^ 0 from rfl, b_pow] at q
  rw [q]; exact ha.z
theorem sg_one (hg : Grp n t iv) : SG n t 1 := by
  have h1n : 1 < 2 ^ n := by
    have := Nat.pow_le_pow_right (show 0 < 2 by decide) hg.pos
    omega
  have b1 : ∀ i, (1 : Nat).testBit i = true ↔ i = 0 := fun i => by rw [show (1 : Nat) = 2 ^ 0 from rfl, b_pow]
  refine ⟨h1n, rfl, fun x hx y hy q1 q2 => ?_⟩
  rw [b1] at q1 q2
  subst q1 q2
  rw [hg.l0 hg.pos]
  rfl
/-- with none between, each element more makes the same -/
theorem sub_prime (hg : Grp n t iv) {a b y : Nat} (ha : SG n t a) (hb : SG n t b) (hs : ∀ i, i < n → a.testBit i = true → b.testBit i = true) (hp : ∀ d, 2 ≤ d → d < zc n b / zc n a → ¬ (zc n b / zc n a) % d = 0) (hy : y < n) (h1 : b.testBit y = true) (h2 : a.testBit y = false) : gen n t (a ||| 2 ^ y) = b := by
  have e1 := ha.fx hg
  have k1 := gen_mono hg (r := a) (s := a ||| 2 ^ y) (fun i _ r => (b_orp _ _ _).mpr (Or.inl r))
  have k2 := gen_sub hg (s := a ||| 2 ^ y) hb (fun i hi r => by
    rw [b_orp] at r
    rcases r with r | rfl
    · exact hs i hi r
    · exact h1)
  have k3 := gen_new hg (s := a) hy (by rw [e1]; exact h2)
  rw [e1] at k1 k3
  have p1 := zc_pos hg.pos ha.z
  have p2 := zc_pos hg.pos hb.z
  obtain ⟨r, hr⟩ := k1.2
  obtain ⟨q, hq⟩ := k2.2
  refine sg_eq hg (gen_SG hg _) hb k2.1 ?_
  have e2 : zc n b / zc n a = r * q := by
    rw [hq, hr, Nat.mul_assoc, Nat.mul_div_cancel_left _ p1]
  have hr2 : 2 ≤ r := by
    rcases Nat.lt_or_ge r 2 with w | w
    · have : r = 0 ∨ r = 1 := by omega
      rcases this with rfl | rfl
      · omega
      · omega
    · exact w
  have hq1 : 0 < q := by
    rcases Nat.eq_zero_or_pos q with w | w
    · rw [w, Nat.mul_zero] at hq; omega
    · exact w
  rcases Nat.lt_or_ge r (r * q) with w | w
  · exact absurd (by rw [e2, Nat.mul_mod_right]) (hp r hr2 (by rw [e2]; exact w))
  · have : q = 1 := by
      rcases Nat.lt_or_ge 1 q with v | v
      · have h3 : r * 2 ≤ r * q := Nat.mul_le_mul_left r v
        omega
      · omega
    rw [hq, this, Nat.mul_one]
end E

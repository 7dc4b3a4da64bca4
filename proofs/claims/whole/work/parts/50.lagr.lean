/-! PURE: subgroups, and how many elements they have -/
theorem zc_dis {a b : Nat} : ∀ n, (∀ i, i < n → a.testBit i = true → b.testBit i = true → False) → zc n (a ||| b) = zc n a + zc n b := by
  intro n
  induction n with
  | zero => intro _; rfl
  | succ n ih =>
    intro h
    show zc n (a ||| b) + ((a ||| b).testBit n).toNat = (zc n a + (a.testBit n).toNat) + (zc n b + (b.testBit n).toNat)
    rw [ih (fun i hi => h i (by omega)), Nat.testBit_or]
    have := h n (by omega)
    cases ha : a.testBit n <;> cases hb : b.testBit n
    · rfl
    · simp; omega
    · simp; omega
    · exact absurd (this ha hb) id
theorem zc_pow1 {n x : Nat} (h : x < n) : zc n (2 ^ x) = 1 := (zc_one (z_pw h) (by rw [z_tb_pow]; exact decide_eq_true rfl)).mpr rfl
theorem zc_img {f : Nat → Nat} {a n : Nat} : ∀ k, (∀ i, i < k → a.testBit i = true → f i < n) → (∀ i j, i < k → j < k → a.testBit i = true → a.testBit j = true → f i = f j → i = j) → zc n (zim (fun i => a.testBit i) f k) = zc k a := by
  intro k
  induction k with
  | zero => intro _ _; exact zc_zero n
  | succ k ih =>
    intro h1 h2
    have hi := ih (fun i hi => h1 i (by omega)) (fun i j hi hj => h2 i j (by omega) (by omega))
    show _ = zc k a + (a.testBit k).toNat
    cases hb : a.testBit k with
    | false => rw [zim_f (p := fun i => a.testBit i) hb, hi]; rfl
    | true =>
      rw [zim_t (p := fun i => a.testBit i) hb, zc_dis n, hi, zc_pow1 (h1 k (by omega) hb)]
      · rfl
      · intro i _ q1 q2
        rw [zim_bit] at q1
        obtain ⟨j, g1, g2, g3⟩ := q1
        rw [z_tb_pow, decide_eq_true_eq] at q2
        have := h2 j k (by omega) (by omega) g2 hb (by rw [g3, q2])
        omega
def SG (n : Nat) (t : Nat → Nat → Nat) (a : Nat) : Prop := ClosedBy n t a a
section L
variable {n : Nat} {t : Nat → Nat → Nat} {iv : Nat → Nat}
theorem gen_has (hg : Grp n t iv) {s x : Nat} (hx : x < n) (h : s.testBit x = true) : (gen n t s).testBit x = true := by
  have hc := gen_closed hg.1 s
  have := hc.2.2 0 hg.pos x hx hc.2.1 h
  rwa [hg.l0 hx] at this
theorem gen_min {s c : Nat} (hc : SG n t c) (h : ∀ i, i < n → s.testBit i = true → c.testBit i = true) : ∀ i, (gen n t s).testBit i = true → c.testBit i = true := fun i q => gen_le ⟨hc.1, hc.2.1, fun x hx y hy h1 h2 => hc.2.2 x hx y hy h1 (h y hy h2)⟩ q
theorem SG.fx (hg : Grp n t iv) {a : Nat} (h : SG n t a) : gen n t a = a := (gen_eq hg.1 h (fun c hc i hi q => by
  have := hc.2.2 0 hg.pos i hi hc.2.1 q
  rwa [hg.l0 hi] at this)).symm
theorem SG.of (hg : Grp n t iv) {a : Nat} (h : gen n t a = a) : SG n t a := by
  have := gen_closed hg.1 a
  rwa [h] at this
theorem gen_SG (hg : Grp n t iv) (s : Nat) : SG n t (gen n t s) := by
  have hc := gen_closed hg.1 s
  have key : ClosedBy n t s (zset n (fun y => ∀ x, x < n → (gen n t s).testBit x = true → (gen n t s).testBit (t x y) = true)) := by
    refine ⟨zset_lt _ _, (zset_bit _ _ _).mpr ⟨hg.pos, fun x hx q => by rw [hg.r0 hx]; exact q⟩, fun y hy z hz q1 q2 => (zset_bit _ _ _).mpr ⟨hg.lt hy hz, fun x hx q => ?_⟩⟩
    have := ((zset_bit _ _ _).mp q1).2 x hx q
    have h2 := hc.2.2 (t x y) (hg.lt hx hy) z hz this q2
    rwa [hg.as hx hy hz] at h2
  exact ⟨hc.1, hc.2.1, fun x hx y hy q1 q2 => ((zset_bit _ _ _).mp (gen_le key q2)).2 x hx q1⟩
theorem SG.lt {a : Nat} (h : SG n t a) : a < 2 ^ n := h.1
theorem SG.z {a : Nat} (h : SG n t a) : a.testBit 0 = true := h.2.1
theorem SG.m {a x y : Nat} (h : SG n t a) (hx : x < n) (hy : y < n) (h1 : a.testBit x = true) (h2 : a.testBit y = true) : a.testBit (t x y) = true := h.2.2 x hx y hy h1 h2
theorem SG.pp {a x : Nat} (hg : Grp n t iv) (h : SG n t a) (hx : x < n) (h1 : a.testBit x = true) (e : Nat) : a.testBit (pw t x e) = true := by
  induction e with
  | zero => exact h1
  | succ e ih => exact h.m (pw_lt hg hx e) hx ih h1
theorem SG.i {a x : Nat} (hg : Grp n t iv) (h : SG n t a) (hx : x < n) (h1 : a.testBit x = true) : a.testBit (iv x) = true := by
  obtain ⟨e, _, _, h2, _⟩ := per_spec hg hx
  cases e with
  | zero =>
    have h3 : x = 0 := h2
    rw [h3, hg.i0]; exact h.z
  | succ e =>
    have h3 : t (pw t x e) x = 0 := h2
    have h4 := pw_lt hg hx e
    have h5 : pw t x e = iv x := hg.cr hx h4 (hg.il hx) (by rw [h3, hg.li hx])
    rw [← h5]
    exact h.pp hg hx h1 e
/-- a set of whole cosets of h has a multiple of its number -/
theorem lagr0 (hg : Grp n t iv) {h : Nat} (hh : SG n t h) : ∀ c u, zc n u ≤ c → u < 2 ^ n → (∀ x, x < n → ∀ y, y < n → u.testBit x = true → h.testBit y = true → u.testBit (t x y) = true) → zc n h ∣ zc n u := by
  intro c
  induction c with
  | zero =>
    intro u hc _ _
    rw [show zc n u = 0 by omega]
    exact Nat.dvd_zero _
  | succ c ih =>
    intro u hc hu hcl
    rcases Classical.em (∃ x, x < n ∧ u.testBit x = true) with ⟨x, hx, hb⟩ | hno
    · have e1 : zim (fun i => h.testBit i) (t x) n < 2 ^ n := zim_lt (fun i hi _ => hg.lt hx hi)
      have e2 : zc n (zim (fun i => h.testBit i) (t x) n) = zc n h := zc_img n (fun i hi _ => hg.lt hx hi) (fun i j hi hj _ _ e => hg.cl hx hi hj e)
      have e3 : zd u (zim (fun i => h.testBit i) (t x) n) < 2 ^ n := zd_lt hu
      have e4 : u = zd u (zim (fun i => h.testBit i) (t x) n) ||| zim (fun i => h.testBit i) (t x) n := by
        refine z_ext hu (z_or_lt e3 e1) (fun i hi => ?_)
        rw [Nat.testBit_or, zd_bit]
        cases hq : (zim (fun i => h.testBit i) (t x) n).testBit i with
        | false => simp
        | true =>
          obtain ⟨j, g1, g2, g3⟩ := (zim_bit _ _ _ _).mp hq
          rw [← g3, hcl x hx j g1 hb g2]
          rfl
      have e5 : zc n u = zc n (zd u (zim (fun i => h.testBit i) (t x) n)) + zc n h := by
        have := zc_dis (a := zd u (zim (fun i => h.testBit i) (t x) n)) (b := zim (fun i => h.testBit i) (t x) n) n (fun i _ q1 q2 => by
          rw [zd_bit, q2] at q1
          simp at q1)
        rw [← e4, e2] at this
        exact this
      have h0 := zc_pos hg.pos hh.z
      rw [e5]
      refine Nat.dvd_add (ih _ (by omega) e3 (fun a ha b hb' q1 q2 => ?_)) (Nat.dvd_refl _)
      rw [zd_bit, Bool.and_eq_true] at q1 ⊢
      refine ⟨hcl a ha b hb' q1.1 q2, ?_⟩
      cases hq : (zim (fun i => h.testBit i) (t x) n).testBit (t a b) with
      | false => rfl
      | true =>
        exfalso
        obtain ⟨j, g1, g2, g3⟩ := (zim_bit _ _ _ _).mp hq
        have hib := hg.il hb'
        have e6 : a = t x (t j (iv b)) := by
          rw [← hg.as hx g1 hib, g3, hg.as ha hb' hib, hg.ri hb', hg.r0 ha]
        have q3 : (zim (fun i => h.testBit i) (t x) n).testBit a = true := (zim_bit _ _ _ _).mpr ⟨t j (iv b), hg.lt g1 hib, hh.m g1 hib g2 (hh.i hg hb' q2), e6.symm⟩
        rw [q3] at q1
        simp at q1
    · have : u = 0 := z_ext hu (Nat.two_pow_pos n) (fun i hi => by
        rw [Nat.zero_testBit]
        cases hb : u.testBit i with
        | false => rfl
        | true => exact absurd ⟨i, hi, hb⟩ hno)
      rw [this, zc_zero]
      exact Nat.dvd_zero _
theorem lagr (hg : Grp n t iv) {h k : Nat} (hh : SG n t h) (hk : SG n t k) (hs : ∀ i, i < n → h.testBit i = true → k.testBit i = true) : zc n h ∣ zc n k := lagr0 hg hh _ k (Nat.le_refl _) hk.1 (fun x hx y hy q1 q2 => hk.m hx hy q1 (hs y hy q2))
end L

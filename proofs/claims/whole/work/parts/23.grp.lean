/-! PURE: groups as tables -/
def Tb (n : Nat) (t : Nat → Nat → Nat) : Prop := 0 < n ∧ n ≤ 20 ∧ ∀ x, x < n → ∀ y, y < n → t x y < n
def Grp (n : Nat) (t : Nat → Nat → Nat) (iv : Nat → Nat) : Prop := Tb n t ∧ (∀ x, x < n → ∀ y, y < n → ∀ z, z < n → t (t x y) z = t x (t y z)) ∧ (∀ x, x < n → t 0 x = x ∧ t x 0 = x) ∧ ∀ x, x < n → iv x < n ∧ t x (iv x) = 0 ∧ t (iv x) x = 0
section G
variable {n : Nat} {t : Nat → Nat → Nat} {iv : Nat → Nat}
theorem Grp.pos (h : Grp n t iv) : 0 < n := h.1.1
theorem Grp.le (h : Grp n t iv) : n ≤ 20 := h.1.2.1
theorem Grp.lt (h : Grp n t iv) {x y : Nat} (hx : x < n) (hy : y < n) : t x y < n := h.1.2.2 x hx y hy
theorem Grp.as (h : Grp n t iv) {x y z : Nat} (hx : x < n) (hy : y < n) (hz : z < n) : t (t x y) z = t x (t y z) := h.2.1 x hx y hy z hz
theorem Grp.l0 (h : Grp n t iv) {x : Nat} (hx : x < n) : t 0 x = x := (h.2.2.1 x hx).1
theorem Grp.r0 (h : Grp n t iv) {x : Nat} (hx : x < n) : t x 0 = x := (h.2.2.1 x hx).2
theorem Grp.il (h : Grp n t iv) {x : Nat} (hx : x < n) : iv x < n := (h.2.2.2 x hx).1
theorem Grp.ri (h : Grp n t iv) {x : Nat} (hx : x < n) : t x (iv x) = 0 := (h.2.2.2 x hx).2.1
theorem Grp.li (h : Grp n t iv) {x : Nat} (hx : x < n) : t (iv x) x = 0 := (h.2.2.2 x hx).2.2
theorem Grp.cl (h : Grp n t iv) {x y z : Nat} (hx : x < n) (hy : y < n) (hz : z < n) (e : t x y = t x z) : y = z := by
  have h1 : t (iv x) (t x y) = t (iv x) (t x z) := by rw [e]
  rwa [← h.as (h.il hx) hx hy, ← h.as (h.il hx) hx hz, h.li hx, h.l0 hy, h.l0 hz] at h1
theorem Grp.cr (h : Grp n t iv) {x y z : Nat} (hx : x < n) (hy : y < n) (hz : z < n) (e : t y x = t z x) : y = z := by
  have h1 : t (t y x) (iv x) = t (t z x) (iv x) := by rw [e]
  rwa [h.as hy hx (h.il hx), h.as hz hx (h.il hx), h.ri hx, h.r0 hy, h.r0 hz] at h1
theorem Grp.iu (h : Grp n t iv) {x y : Nat} (hx : x < n) (hy : y < n) (e : t x y = 0) : y = iv x := h.cl hx hy (h.il hx) (by rw [e, h.ri hx])
theorem Grp.ii (h : Grp n t iv) {x : Nat} (hx : x < n) : iv (iv x) = x := (h.iu (h.il hx) hx (h.li hx)).symm
theorem Grp.i0 (h : Grp n t iv) : iv 0 = 0 := (h.iu h.pos h.pos (h.l0 h.pos)).symm
theorem Grp.ip (h : Grp n t iv) {x y : Nat} (hx : x < n) (hy : y < n) : iv (t x y) = t (iv y) (iv x) := by
  refine (h.iu (h.lt hx hy) (h.lt (h.il hy) (h.il hx)) ?_).symm
  rw [h.as hx hy (h.lt (h.il hy) (h.il hx)), ← h.as hy (h.il hy) (h.il hx), h.ri hy, h.l0 (h.il hx), h.ri hx]
/-- a set that has 0 and goes on by all of another set -/
def ClosedBy (n : Nat) (t : Nat → Nat → Nat) (s c : Nat) : Prop := c < 2 ^ n ∧ c.testBit 0 = true ∧ ∀ x, x < n → ∀ y, y < n → c.testBit x = true → s.testBit y = true → c.testBit (t x y) = true
noncomputable def gen (n : Nat) (t : Nat → Nat → Nat) (s : Nat) : Nat := zset n (fun i => ∀ c, ClosedBy n t s c → c.testBit i = true)
theorem gen_lt (n : Nat) (t : Nat → Nat → Nat) (s : Nat) : gen n t s < 2 ^ n := zset_lt n _
theorem gen_le {s c : Nat} (hc : ClosedBy n t s c) {i : Nat} (h : (gen n t s).testBit i = true) : c.testBit i = true := ((zset_bit _ _ _).mp h).2 c hc
theorem gen_closed (hT : Tb n t) (s : Nat) : ClosedBy n t s (gen n t s) := by
  refine ⟨gen_lt n t s, (zset_bit _ _ _).mpr ⟨hT.1, fun c hc => hc.2.1⟩, fun x hx y hy h1 h2 => (zset_bit _ _ _).mpr ⟨hT.2.2 x hx y hy, fun c hc => ?_⟩⟩
  exact hc.2.2 x hx y hy (gen_le hc h1) h2
theorem gen_eq (hT : Tb n t) {s c : Nat} (hc : ClosedBy n t s c) (hm : ∀ c', ClosedBy n t s c' → ∀ i, i < n → c.testBit i = true → c'.testBit i = true) : c = gen n t s := by
  apply z_ext hc.1 (gen_lt n t s)
  intro i hi
  rw [Bool.eq_iff_iff]
  exact ⟨fun h => hm _ (gen_closed hT s) i hi h, fun h => gen_le hc h⟩
end G

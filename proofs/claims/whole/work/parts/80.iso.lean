/-! PURE: maps of networks, by how far it is -/
def IS (n : Nat) (F F' : Nat → Nat → Int32) (φ : Nat → Nat) : Prop := (∀ x, n ≤ x → φ x = 0) ∧ (∀ x, x < n → φ x < n) ∧ (∀ x y, x < n → y < n → φ x = φ y → x = y) ∧ ∀ x y, x < n → y < n → F x y = F' (φ x) (φ y)
/-- the same, by arcs -/
def NMp (n : Nat) (E E' : Nat → Nat → Prop) (φ : Nat → Nat) : Prop := (∀ x, n ≤ x → φ x = 0) ∧ (∀ x, x < n → φ x < n) ∧ (∀ x y, x < n → y < n → φ x = φ y → x = y) ∧ ∀ x y, x < n → y < n → (E x y ↔ E' (φ x) (φ y))
/-- from a point to another one -/
noncomputable def fd (n : Nat) (t : Nat → Nat → Nat) (iv : Nat → Nat) (st : Nat) (x y : Nat) : Int32 := fr n (arc n t st) 0 (t (iv x) y)
section I1
variable {n : Nat} {t t' : Nat → Nat → Nat} {iv iv' : Nat → Nat} {st st' : Nat} {E E' : Nat → Nat → Prop} {φ : Nat → Nat}
theorem rch_map (h2 : ∀ x, x < n → φ x < n) (h4 : ∀ x y, x < n → y < n → (E x y ↔ E' (φ x) (φ y))) {a : Nat} (ha : a < n) : ∀ k x, rch n E a k x → rch n E' (φ a) k (φ x) := by
  intro k
  induction k with
  | zero =>
    intro x h
    have h' : x = a := h
    rw [h']; exact rfl
  | succ k ih =>
    rintro x ⟨g1, y, g2, g3, g4⟩
    exact ⟨h2 x g1, φ y, h2 y g2, ih y g3, (h4 y x g2 g1).mp g4⟩
theorem NMp.bck (h : NMp n E E' φ) : NMp n E' E (bck n φ) := by
  have s := fun y (hy : y < n) => bck_spec h.2.1 h.2.2.1 hy
  refine ⟨fun x hx => if_neg (by omega), fun x hx => (s x hx).1, fun x y hx hy e => ?_, fun x y hx hy => ?_⟩
  · rw [← (s x hx).2, ← (s y hy).2, e]
  · rw [h.2.2.2 _ _ (s x hx).1 (s y hy).1, (s x hx).2, (s y hy).2]
theorem rch_iff (h : NMp n E E' φ) {a x : Nat} (ha : a < n) (hx : x < n) (k : Nat) : rch n E a k x ↔ rch n E' (φ a) k (φ x) := by
  refine ⟨rch_map h.2.1 h.2.2.2 ha k x, fun q => ?_⟩
  have := rch_map h.bck.2.1 h.bck.2.2.2 (h.2.1 a ha) k _ q
  rw [bck_of h.2.1 h.2.2.1 ha, bck_of h.2.1 h.2.2.1 hx] at this
  exact this
theorem fr_iff (h : NMp n E E' φ) {a x : Nat} (ha : a < n) (hx : x < n) : fr n E a x = fr n E' (φ a) (φ x) := by
  have e : (fun k => rch n E a k x) = (fun k => rch n E' (φ a) k (φ x)) := by
    funext k
    exact propext (rch_iff h ha hx k)
  unfold fr dsn
  rw [e]
/-- the network looks the same from all points -/
theorem shift_nm (hg : Grp n t iv) {g : Nat} (hgn : g < n) : NMp n (arc n t st) (arc n t st) (rowm n (t g)) := by
  refine ⟨fun x hx => if_neg (by omega), fun x hx => by rw [rowm_in hx]; exact hg.lt hgn hx, fun x y hx hy e => ?_, fun x y hx hy => ?_⟩
  · rw [rowm_in hx, rowm_in hy] at e
    exact hg.cl hgn hx hy e
  · rw [rowm_in hx, rowm_in hy]
    constructor
    · rintro ⟨s, h1, h2, h3, h4⟩
      exact ⟨s, h1, h2, h3, by rw [hg.as hgn hx h1, h4]⟩
    · rintro ⟨s, h1, h2, h3, h4⟩
      refine ⟨s, h1, h2, h3, ?_⟩
      rw [hg.as hgn hx h1] at h4
      exact hg.cl hgn (hg.lt hx h1) hy h4
theorem fd_eq (hg : Grp n t iv) {x y : Nat} (hx : x < n) (hy : y < n) : fd n t iv st x y = fr n (arc n t st) x y := by
  rw [fr_iff (shift_nm hg (hg.il hx)) hx hy, rowm_in hx, rowm_in hy, hg.li hx]
  rfl
theorem fd_0 (hg : Grp n t iv) {y : Nat} (hy : y < n) : fd n t iv st 0 y = fr n (arc n t st) 0 y := fd_eq hg hg.pos hy
theorem fd_self (hg : Grp n t iv) {x : Nat} (hx : x < n) : fd n t iv st x x = 0 := by
  rw [fd_eq hg hx hx]
  exact (fr_at (E := arc n t st) (a := x) (x := x) (k := 0) rfl (fun j hj => by omega)).1
theorem fd_arc (hg : Grp n t iv) {x y : Nat} (hx : x < n) (hy : y < n) : fd n t iv st x y = 1 ↔ arc n t st x y := by
  have hn := hg.le
  rw [fd_eq hg hx hy]
  have hxy : arc n t st x y → y ≠ x := by
    rintro ⟨s, h1, h2, h3, h4⟩ e
    rw [e] at h4
    exact h2 (hg.cl hx h1 hg.pos (by rw [h4, hg.r0 hx]))
  constructor
  · intro h
    rcases fr_ex (E := arc n t st) hx y with ⟨q1, _⟩ | ⟨k, q1, q2, q3, q4⟩
    · rw [q1] at h; exact absurd h (by decide)
    · rw [q2, show (1 : Int32) = nI 1 from rfl, nI_eq (by omega) (by decide)] at h
      subst h
      obtain ⟨_, z, g1, g2, g3⟩ := q3
      have g2' : z = x := g2
      rw [g2'] at g3
      exact g3
  · intro h
    refine (fr_at (E := arc n t st) (a := x) (x := y) (k := 1) ⟨hy, x, hx, rfl, h⟩ (fun j hj q => ?_)).1
    rw [show j = 0 by omega] at q
    exact hxy h q
theorem is_nm (hg : Grp n t iv) (hg' : Grp n t' iv') : IS n (fd n t iv st) (fd n t' iv' st') φ ↔ NMp n (arc n t st) (arc n t' st') φ := by
  constructor
  · rintro ⟨h1, h2, h3, h4⟩
    refine ⟨h1, h2, h3, fun x y hx hy => ?_⟩
    rw [← fd_arc hg hx hy, ← fd_arc hg' (h2 x hx) (h2 y hy), h4 x y hx hy]
  · intro h
    refine ⟨h.1, h.2.1, h.2.2.1, fun x y hx hy => ?_⟩
    rw [fd_eq hg hx hy, fd_eq hg' (h.2.1 x hx) (h.2.1 y hy)]
    exact fr_iff h hx hy
end I1
section I2
variable {n : Nat} {F F' F'' : Nat → Nat → Int32} {φ ψ : Nat → Nat}
theorem IS.cmp (h : IS n F F' φ) (h' : IS n F' F'' ψ) : IS n F F'' (cmp n φ ψ) := by
  refine ⟨fun x hx => cmp_out hx, fun x hx => by rw [cmp_in hx]; exact h'.2.1 _ (h.2.1 x hx), fun x y hx hy e => ?_, fun x y hx hy => ?_⟩
  · rw [cmp_in hx, cmp_in hy] at e
    exact h.2.2.1 x y hx hy (h'.2.2.1 _ _ (h.2.1 x hx) (h.2.1 y hy) e)
  · rw [cmp_in hx, cmp_in hy, h.2.2.2 x y hx hy, h'.2.2.2 _ _ (h.2.1 x hx) (h.2.1 y hy)]
theorem IS.bck (h : IS n F F' φ) : IS n F' F (bck n φ) := by
  have s := fun y (hy : y < n) => bck_spec h.2.1 h.2.2.1 hy
  refine ⟨fun x hx => if_neg (by omega), fun x hx => (s x hx).1, fun x y hx hy e => ?_, fun x y hx hy => ?_⟩
  · rw [← (s x hx).2, ← (s y hy).2, e]
  · rw [h.2.2.2 _ _ (s x hx).1 (s y hy).1, (s x hx).2, (s y hy).2]
/-- symmetries that have 0 stay -/
def S0 (n : Nat) (F : Nat → Nat → Int32) (φ : Nat → Nat) : Prop := IS n F F φ ∧ φ 0 = 0
theorem s0_pg (hn : 0 < n) : PG n (S0 n F) := by
  have h1 : PG n (IS n F F) := ⟨fun φ h => ⟨h.1, h.2.1, h.2.2.1⟩, fun φ ψ h h' => h.cmp h', fun φ h => h.bck⟩
  exact h1.fix hn
theorem is_id : IS n F F (rowm n (fun x => x)) := ⟨fun x hx => if_neg (by omega), fun x hx => by rw [rowm_in hx]; exact hx, fun x y hx hy e => by rw [rowm_in hx, rowm_in hy] at e; exact e, fun x y hx hy => by rw [rowm_in hx, rowm_in hy]⟩
theorem IS.ext {F2 : Nat → Nat → Int32} (h : IS n F F' φ) (h' : IS n F F2 ψ) (he : ∀ x, x < n → φ x = ψ x) : φ = ψ := by
  funext x
  by_cases hx : x < n
  · exact he x hx
  · rw [h.1 x (by omega), h'.1 x (by omega)]
/-- points that are alike as seen from 0 -/
noncomputable def orbt (n : Nat) (F : Nat → Nat → Int32) (x : Nat) : Nat := zset n (fun y => ∃ φ, S0 n F φ ∧ φ x = y)
theorem orbt_lt (x : Nat) : orbt n F x < 2 ^ n := zset_lt _ _
theorem orbt_bit {x y : Nat} : (orbt n F x).testBit y = true ↔ y < n ∧ ∃ φ, S0 n F φ ∧ φ x = y := zset_bit _ _ _
theorem orbt_self {x : Nat} (hn : 0 < n) (hx : x < n) : (orbt n F x).testBit x = true := orbt_bit.mpr ⟨hx, _, ⟨is_id, rowm_in hn⟩, rowm_in hx⟩
theorem orbt_sym {x y : Nat} (hn : 0 < n) (hx : x < n) (h : (orbt n F x).testBit y = true) : (orbt n F y).testBit x = true := by
  obtain ⟨hy, φ, h1, h2⟩ := orbt_bit.mp h
  refine orbt_bit.mpr ⟨hx, bck n φ, (s0_pg hn).2.2 φ h1, ?_⟩
  rw [← h2, bck_of h1.1.2.1 h1.1.2.2.1 hx]
theorem orbt_tr {x y z : Nat} (hn : 0 < n) (hx : x < n) (h : (orbt n F x).testBit y = true) (h' : (orbt n F y).testBit z = true) : (orbt n F x).testBit z = true := by
  obtain ⟨hy, φ, h1, h2⟩ := orbt_bit.mp h
  obtain ⟨hz, ψ, h3, h4⟩ := orbt_bit.mp h'
  exact orbt_bit.mpr ⟨hz, cmp n φ ψ, (s0_pg hn).2.1 φ ψ h1 h3, by rw [cmp_in hx, h2, h4]⟩
/-- part of a map -/
def PI (n x : Nat) (F F' : Nat → Nat → Int32) (f : Nat → Nat) : Prop := (∀ g, g < x → f g < n) ∧ (∀ g h, g < x → h < x → f g = f h → g = h) ∧ ∀ g h, g < x → h < x → F g h = F' (f g) (f h)
/-- one more may be led so -/
def MLd (x : Nat) (F F' : Nat → Nat → Int32) (f : Nat → Nat) (y : Nat) : Prop := ∀ g, g < x → F g x = F' (f g) y ∧ F x g = F' y (f g)
theorem PI.add {x y : Nat} {f : Nat → Nat} (h : PI n x F F' f) (hy : y < n) (hm : MLd x F F' f y) (hny : ∀ g, g < x → f g ≠ y) (hdg : F x x = F' y y) : PI n (x + 1) F F' (zput f x y) := by
  refine ⟨fun g hg => ?_, fun g k hg hk e => ?_, fun g k hg hk => ?_⟩
  · by_cases e : g = x
    · rw [e, zput_s]; exact hy
    · rw [zput_n e]; exact h.1 g (by omega)
  · by_cases e1 : g = x
    · by_cases e2 : k = x
      · omega
      · rw [e1, zput_s, zput_n e2] at e
        exact absurd e.symm (hny k (by omega))
    · by_cases e2 : k = x
      · rw [e2, zput_s, zput_n e1] at e
        exact absurd e (hny g (by omega))
      · rw [zput_n e1, zput_n e2] at e
        exact h.2.1 g k (by omega) (by omega) e
  · by_cases e1 : g = x
    · by_cases e2 : k = x
      · rw [e1, e2, zput_s]; exact hdg
      · rw [e1, zput_s, zput_n e2]; exact (hm k (by omega)).2
    · by_cases e2 : k = x
      · rw [e2, zput_s, zput_n e1]; exact (hm g (by omega)).1
      · rw [zput_n e1, zput_n e2]; exact h.2.2 g k (by omega) (by omega)
theorem PI.full {f : Nat → Nat} (h : PI n n F F' f) : IS n F F' (rowm n f) := ⟨fun x hx => if_neg (by omega), fun x hx => by rw [rowm_in hx]; exact h.1 x hx, fun x y hx hy e => by rw [rowm_in hx, rowm_in hy] at e; exact h.2.1 x y hx hy e, fun x y hx hy => by rw [rowm_in hx, rowm_in hy]; exact h.2.2 x y hx hy⟩
theorem ext_put {x y : Nat} {f : Nat → Nat} : Ext1 (x + 1) (zput f x y) φ ↔ Ext1 x f φ ∧ φ x = y := by
  constructor
  · intro h
    refine ⟨fun g hg => ?_, ?_⟩
    · rw [← h g (by omega), zput_n (by omega)]
    · rw [← h x (by omega), zput_s]
  · rintro ⟨h1, h2⟩ g hg
    by_cases e : g = x
    · rw [e, zput_s, h2]
    · rw [zput_n e]; exact h1 g (by omega)
/-- what a map does is allowed -/
theorem IS.may {x : Nat} {f : Nat → Nat} (h : IS n F F' φ) (hx : x < n) (he : Ext1 x f φ) : MLd x F F' f (φ x) := fun g hg => by
  rw [he g hg]
  exact ⟨h.2.2.2 g x (by omega) hx, h.2.2.2 x g hx (by omega)⟩
theorem IS.new {x : Nat} {f : Nat → Nat} (h : IS n F F' φ) (hx : x < n) (he : Ext1 x f φ) : ∀ g, g < x → f g ≠ φ x := fun g hg e => by
  rw [he g hg] at e
  have := h.2.2.1 g x (by omega) hx e
  omega
/-- images of the first ones -/
noncomputable def img (n : Nat) (f : Nat → Nat) (x : Nat) : Nat := zset n (fun j => ∃ g, g < x ∧ f g = j)
theorem img_put {x y : Nat} {f : Nat → Nat} (hy : y < n) : img n (zput f x y) (x + 1) = img n f x ||| 2 ^ y := zset_add hy (fun j _ => by
  constructor
  · rintro ⟨g, q1, q2⟩
    by_cases e : g = x
    · rw [e, zput_s] at q2; exact Or.inr q2.symm
    · rw [zput_n e] at q2; exact Or.inl ⟨g, by omega, q2⟩
  · rintro (⟨g, q1, q2⟩ | q)
    · exact ⟨g, by omega, by rw [zput_n (by omega)]; exact q2⟩
    · exact ⟨x, by omega, by rw [zput_s]; exact q.symm⟩)
theorem zd_back {a y : Nat} (ha : a < 2 ^ n) (hy : y < n) (h : a.testBit y = false) : zd (a ||| 2 ^ y) (2 ^ y) = a := by
  refine z_ext (zd_lt (z_or_lt ha (z_pw hy))) ha (fun i hi => ?_)
  rw [zd_bit, z_tb_or_pow, z_tb_pow]
  by_cases e : i = y
  · rw [e, h]; simp
  · simp [e]
end I2

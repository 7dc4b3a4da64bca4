/-! PURE: a group by a subgroup of whole classes -/
def NS (n : Nat) (t : Nat → Nat → Nat) (iv : Nat → Nat) (a : Nat) : Prop := SG n t a ∧ ∀ x g, x < n → g < n → a.testBit x = true → a.testBit (t (t (iv g) x) g) = true
def rl (t : Nat → Nat → Nat) (iv : Nat → Nat) (a x y : Nat) : Prop := a.testBit (t (iv x) y) = true
def isl (t : Nat → Nat → Nat) (iv : Nat → Nat) (a y : Nat) : Prop := ∀ z, z < y → ¬ rl t iv a z y
noncomputable def lde (t : Nat → Nat → Nat) (iv : Nat → Nat) (a x : Nat) : Nat := zleast (rl t iv a x)
noncomputable def csn (t : Nat → Nat → Nat) (iv : Nat → Nat) (a x : Nat) : Nat := zcn (isl t iv a) (lde t iv a x)
noncomputable def qn (n : Nat) (t : Nat → Nat → Nat) (iv : Nat → Nat) (a : Nat) : Nat := zcn (isl t iv a) n
noncomputable def lea (t : Nat → Nat → Nat) (iv : Nat → Nat) (a i : Nat) : Nat := zleast (fun y => isl t iv a y ∧ zcn (isl t iv a) y = i)
theorem zcn_at {p : Nat → Prop} {i : Nat} : ∀ k, i < zcn p k → ∃ y, y < k ∧ p y ∧ zcn p y = i := by
  intro k
  induction k with
  | zero => intro h; exact absurd h (Nat.not_lt_zero _)
  | succ k ih =>
    intro h
    by_cases e : i < zcn p k
    · obtain ⟨y, h1, h2⟩ := ih e
      exact ⟨y, by omega, h2⟩
    · by_cases q : p k
      · rw [zcn_t q] at h
        exact ⟨k, by omega, q, by omega⟩
      · rw [zcn_f q] at h; exact absurd h e
section Q
variable {n a : Nat} {t : Nat → Nat → Nat} {iv : Nat → Nat}
theorem NS.of (hg : Grp n t iv) (h1 : gen n t a = a) (h2 : ∀ x, x < n → a.testBit x = true → zd (cls n t iv x) a = 0) : NS n t iv a := by
  refine ⟨SG.of hg h1, fun x g hx hgn ha => ?_⟩
  have hc := h2 x hx ha
  have hl : cls n t iv x < 2 ^ n := Nat.lt_pow_two_of_testBit _ (fun b hb => by
    cases q : (cls n t iv x).testBit b with
    | false => rfl
    | true =>
      obtain ⟨g, g1, g2⟩ := cls_bit.mp q
      have := hg.lt (hg.lt (hg.il g1) hx) g1
      omega)
  exact (zd_eq0 hl).mp hc _ (hg.lt (hg.lt (hg.il hgn) hx) hgn) (cls_bit.mpr ⟨g, hgn, rfl⟩)
theorem rl_r (hg : Grp n t iv) (hN : NS n t iv a) {x : Nat} (hx : x < n) : rl t iv a x x := by
  unfold rl; rw [hg.li hx]; exact hN.1.z
theorem rl_s (hg : Grp n t iv) (hN : NS n t iv a) {x y : Nat} (hx : x < n) (hy : y < n) (h : rl t iv a x y) : rl t iv a y x := by
  have := hN.1.i hg (hg.lt (hg.il hx) hy) h
  rw [hg.ip (hg.il hx) hy, hg.ii hx] at this
  exact this
theorem rl_t (hg : Grp n t iv) (hN : NS n t iv a) {x y z : Nat} (hx : x < n) (hy : y < n) (hz : z < n) (h1 : rl t iv a x y) (h2 : rl t iv a y z) : rl t iv a x z := by
  have := hN.1.m (hg.lt (hg.il hx) hy) (hg.lt (hg.il hy) hz) h1 h2
  rw [hg.as (hg.il hx) hy (hg.lt (hg.il hy) hz), ← hg.as hy (hg.il hy) hz, hg.ri hy, hg.l0 hz] at this
  exact this
theorem rl_m (hg : Grp n t iv) (hN : NS n t iv a) {x x' y y' : Nat} (hx : x < n) (hx' : x' < n) (hy : y < n) (hy' : y' < n) (h1 : rl t iv a x x') (h2 : rl t iv a y y') : rl t iv a (t x y) (t x' y') := by
  have hh := hg.lt (hg.il hx) hx'
  have c1 := hN.2 _ y hh hy h1
  have := hN.1.m (hg.lt (hg.lt (hg.il hy) hh) hy) (hg.lt (hg.il hy) hy') c1 h2
  unfold rl
  rw [hg.as (hg.lt (hg.il hy) hh) hy (hg.lt (hg.il hy) hy'), ← hg.as hy (hg.il hy) hy', hg.ri hy, hg.l0 hy'] at this
  rw [hg.ip hx hy, hg.as (hg.il hy) (hg.il hx) (hg.lt hx' hy'), ← hg.as (hg.il hx) hx' hy', ← hg.as (hg.il hy) hh hy']
  exact this
theorem lde_spec (hg : Grp n t iv) (hN : NS n t iv a) {x : Nat} (hx : x < n) : rl t iv a x (lde t iv a x) ∧ lde t iv a x ≤ x ∧ isl t iv a (lde t iv a x) := by
  have hs := zleast_spec (p := rl t iv a x) ⟨x, rl_r hg hN hx⟩
  have hle : lde t iv a x ≤ x := by
    rcases Nat.lt_or_ge x (lde t iv a x) with q | q
    · exact absurd (rl_r hg hN hx) (hs.2 x q)
    · exact q
  refine ⟨hs.1, hle, fun z hz hr => hs.2 z hz ?_⟩
  have hzn : z < n := by omega
  have hln : lde t iv a x < n := by omega
  exact rl_t hg hN hx hln hzn hs.1 (rl_s hg hN hzn hln hr)
theorem lde_eq (hg : Grp n t iv) (hN : NS n t iv a) {x y : Nat} (hx : x < n) (hy : y < n) : lde t iv a x = lde t iv a y ↔ rl t iv a x y := by
  obtain ⟨x1, x2, x3⟩ := lde_spec hg hN hx
  obtain ⟨y1, y2, y3⟩ := lde_spec hg hN hy
  constructor
  · intro e
    rw [e] at x1
    exact rl_t hg hN hx (by omega) hy x1 (rl_s hg hN hy (by omega) y1)
  · intro h
    rcases Nat.lt_trichotomy (lde t iv a x) (lde t iv a y) with q | q | q
    · exact absurd (rl_t hg hN (by omega) hx (by omega) (rl_s hg hN hx (by omega) x1) (rl_t hg hN hx hy (by omega) h y1)) (y3 _ q)
    · exact q
    · exact absurd (rl_t hg hN (by omega) hy (by omega) (rl_s hg hN hy (by omega) y1) (rl_t hg hN hy hx (by omega) (rl_s hg hN hx hy h) x1)) (x3 _ q)
theorem csn_lt (hg : Grp n t iv) (hN : NS n t iv a) {x : Nat} (hx : x < n) : csn t iv a x < qn n t iv a := by
  obtain ⟨x1, x2, x3⟩ := lde_spec hg hN hx
  exact zcn_step (by omega) x3
theorem csn_eq (hg : Grp n t iv) (hN : NS n t iv a) {x y : Nat} (hx : x < n) (hy : y < n) : csn t iv a x = csn t iv a y ↔ rl t iv a x y := by
  rw [← lde_eq hg hN hx hy]
  obtain ⟨_, _, x3⟩ := lde_spec hg hN hx
  obtain ⟨_, _, y3⟩ := lde_spec hg hN hy
  refine ⟨fun e => ?_, fun e => by unfold csn; rw [e]⟩
  unfold csn at e
  rcases Nat.lt_trichotomy (lde t iv a x) (lde t iv a y) with q | q | q
  · have := zcn_step q x3; omega
  · exact q
  · have := zcn_step q y3; omega
theorem lde_isl (hg : Grp n t iv) (hN : NS n t iv a) {y : Nat} (hy : y < n) (h : isl t iv a y) : lde t iv a y = y := by
  obtain ⟨y1, y2, _⟩ := lde_spec hg hN hy
  rcases Nat.lt_or_ge (lde t iv a y) y with q | q
  · exact absurd (rl_s hg hN hy (by omega) y1) (h _ q)
  · omega
theorem lea_spec {i : Nat} (hi : i < qn n t iv a) : lea t iv a i < n ∧ isl t iv a (lea t iv a i) ∧ zcn (isl t iv a) (lea t iv a i) = i := by
  obtain ⟨y, y1, y2⟩ := zcn_at n hi
  have hs := zleast_spec (p := fun y => isl t iv a y ∧ zcn (isl t iv a) y = i) ⟨y, y2⟩
  refine ⟨?_, hs.1⟩
  rcases Nat.lt_or_ge y (lea t iv a i) with q | q
  · exact absurd y2 (hs.2 y q)
  · omega
theorem lea_at {y : Nat} (h : isl t iv a y) : lea t iv a (zcn (isl t iv a) y) = y := by
  refine zleast_eq ⟨h, rfl⟩ (fun j hj q => ?_)
  have := zcn_step hj q.1
  omega
theorem csn_lea (hg : Grp n t iv) (hN : NS n t iv a) {i : Nat} (hi : i < qn n t iv a) : csn t iv a (lea t iv a i) = i := by
  obtain ⟨h1, h2, h3⟩ := lea_spec hi
  unfold csn
  rw [lde_isl hg hN h1 h2]; exact h3
theorem lea_csn (hg : Grp n t iv) (hN : NS n t iv a) {x : Nat} (hx : x < n) : rl t iv a x (lea t iv a (csn t iv a x)) := by
  have hc := csn_lt hg hN hx
  exact (csn_eq hg hN hx (lea_spec hc).1).mp (csn_lea hg hN hc).symm
theorem isl_0 : isl t iv a 0 := fun z hz => absurd hz (Nat.not_lt_zero z)
theorem lea_0 : lea t iv a 0 = 0 := lea_at (y := 0) isl_0
theorem qn_pos (hg : Grp n t iv) : 0 < qn n t iv a := zcn_step (a := 0) hg.pos isl_0
theorem csn_0 (hg : Grp n t iv) (hN : NS n t iv a) : csn t iv a 0 = 0 := by
  have := csn_lea hg hN (qn_pos (a := a) hg)
  rw [lea_0] at this; exact this
noncomputable def qt (t : Nat → Nat → Nat) (iv : Nat → Nat) (a i j : Nat) : Nat := csn t iv a (t (lea t iv a i) (lea t iv a j))
noncomputable def qi (t : Nat → Nat → Nat) (iv : Nat → Nat) (a i : Nat) : Nat := csn t iv a (iv (lea t iv a i))
/-- it is a group -/
theorem q_grp (hg : Grp n t iv) (hN : NS n t iv a) : Grp (qn n t iv a) (qt t iv a) (qi t iv a) := by
  have hq : qn n t iv a ≤ n := zcn_le _ _
  have hn := hg.le
  have L : ∀ {i}, i < qn n t iv a → lea t iv a i < n := fun hi => (lea_spec hi).1
  have C : ∀ {x}, x < n → csn t iv a x < qn n t iv a := fun hx => csn_lt hg hN hx
  refine ⟨⟨qn_pos hg, by omega, fun x hx y hy => C (hg.lt (L hx) (L hy))⟩, fun x hx y hy z hz => ?_, fun x hx => ⟨?_, ?_⟩, fun x hx => ⟨C (hg.il (L hx)), ?_, ?_⟩⟩
  · unfold qt
    rw [csn_eq hg hN (hg.lt (L (C (hg.lt (L hx) (L hy)))) (L hz)) (hg.lt (L hx) (L (C (hg.lt (L hy) (L hz)))))]
    have xy := hg.lt (L hx) (L hy)
    have yz := hg.lt (L hy) (L hz)
    have p1 : rl t iv a (t (lea t iv a (csn t iv a (t (lea t iv a x) (lea t iv a y)))) (lea t iv a z)) (t (t (lea t iv a x) (lea t iv a y)) (lea t iv a z)) := rl_m hg hN (L (C xy)) xy (L hz) (L hz) (rl_s hg hN xy (L (C xy)) (lea_csn hg hN xy)) (rl_r hg hN (L hz))
    have p2 : rl t iv a (t (lea t iv a x) (t (lea t iv a y) (lea t iv a z))) (t (lea t iv a x) (lea t iv a (csn t iv a (t (lea t iv a y) (lea t iv a z))))) := rl_m hg hN (L hx) (L hx) yz (L (C yz)) (rl_r hg hN (L hx)) (lea_csn hg hN yz)
    rw [hg.as (L hx) (L hy) (L hz)] at p1
    exact rl_t hg hN (hg.lt (L (C xy)) (L hz)) (hg.lt (L hx) yz) (hg.lt (L hx) (L (C yz))) p1 p2
  · unfold qt
    rw [lea_0, hg.l0 (L hx)]; exact csn_lea hg hN hx
  · unfold qt
    rw [lea_0, hg.r0 (L hx)]; exact csn_lea hg hN hx
  · unfold qt qi
    have hi := hg.il (L hx)
    rw [← csn_0 hg hN, csn_eq hg hN (hg.lt (L hx) (L (C hi))) hg.pos]
    have := rl_m hg hN (L hx) (L hx) (L (C hi)) hi (rl_r hg hN (L hx)) (rl_s hg hN hi (L (C hi)) (lea_csn hg hN hi))
    rw [hg.ri (L hx)] at this
    exact this
  · unfold qt qi
    have hi := hg.il (L hx)
    rw [← csn_0 hg hN, csn_eq hg hN (hg.lt (L (C hi)) (L hx)) hg.pos]
    have := rl_m hg hN (L (C hi)) hi (L hx) (L hx) (rl_s hg hN hi (L (C hi)) (lea_csn hg hN hi)) (rl_r hg hN (L hx))
    rw [hg.li (L hx)] at this
    exact this
end Q

/-! PURE: orbits and stabilisers; maps by makers -/
/-- a group of maps of n places on themselves -/
def PG (n : Nat) (A : (Nat → Nat) → Prop) : Prop := (∀ φ, A φ → (∀ x, n ≤ x → φ x = 0) ∧ (∀ x, x < n → φ x < n) ∧ ∀ x y, x < n → y < n → φ x = φ y → x = y) ∧ (∀ φ ψ, A φ → A ψ → A (cmp n φ ψ)) ∧ ∀ φ, A φ → A (bck n φ)
theorem cmp_in {n x : Nat} {φ ψ : Nat → Nat} (hx : x < n) : cmp n φ ψ x = ψ (φ x) := if_pos hx
theorem cmp_out {n x : Nat} {φ ψ : Nat → Nat} (hx : n ≤ x) : cmp n φ ψ x = 0 := if_neg (by omega)
section O
variable {n m K : Nat} {A : (Nat → Nat) → Prop}
theorem PG.fix (h : PG n A) (hm : m < n) : PG n (fun φ => A φ ∧ φ m = m) := by
  obtain ⟨h1, h2, h3⟩ := h
  refine ⟨fun φ hφ => h1 φ hφ.1, fun φ ψ hφ hψ => ⟨h2 φ ψ hφ.1 hψ.1, by rw [cmp_in hm, hφ.2, hψ.2]⟩, fun φ hφ => ⟨h3 φ hφ.1, ?_⟩⟩
  obtain ⟨_, g2, g3⟩ := h1 φ hφ.1
  have := bck_of g2 g3 hm
  rw [hφ.2] at this
  exact this
theorem PG.fiber (h : PG n A) (hm : m < n) (hK : Crd (fun φ => A φ ∧ φ m = m) K) {χ : Nat → Nat} (hχ : A χ) : Crd (fun φ => A φ ∧ φ m = χ m) K := by
  obtain ⟨h1, h2, h3⟩ := h
  obtain ⟨_, c2, c3⟩ := h1 χ hχ
  refine hK.map (f := fun φ => cmp n φ χ) (fun φ hφ => ⟨h2 φ χ hφ.1 hχ, by rw [cmp_in hm, hφ.2]⟩) (fun ψ hψ => ?_) (fun φ ψ hφ hψ e => ?_)
  · obtain ⟨p1, p2, p3⟩ := h1 ψ hψ.1
    refine ⟨cmp n ψ (bck n χ), ⟨h2 ψ _ hψ.1 (h3 χ hχ), by rw [cmp_in hm, hψ.2, bck_of c2 c3 hm]⟩, ?_⟩
    funext x
    by_cases hx : x < n
    · show cmp n (cmp n ψ (bck n χ)) χ x = ψ x
      rw [cmp_in hx, cmp_in hx, (bck_spec c2 c3 (p2 x hx)).2]
    · show cmp n (cmp n ψ (bck n χ)) χ x = ψ x
      rw [cmp_out (by omega), p1 x (by omega)]
  · obtain ⟨p1, p2, _⟩ := h1 φ hφ.1
    obtain ⟨q1, q2, _⟩ := h1 ψ hψ.1
    funext x
    by_cases hx : x < n
    · have e2 : cmp n φ χ x = cmp n ψ χ x := congrFun e x
      rw [cmp_in hx, cmp_in hx] at e2
      exact c3 _ _ (p2 x hx) (q2 x hx) e2
    · rw [p1 x (by omega), q1 x (by omega)]
theorem PG.orb (h : PG n A) (hm : m < n) (hK : Crd (fun φ => A φ ∧ φ m = m) K) : Crd A (zcn (fun y => ∃ φ, A φ ∧ φ m = y) n * K) := by
  have key : ∀ k, k ≤ n → Crd (fun φ => A φ ∧ φ m < k) (zcn (fun y => ∃ φ, A φ ∧ φ m = y) k * K) := by
    intro k
    induction k with
    | zero =>
      intro _
      rw [show zcn (fun y => ∃ φ, A φ ∧ φ m = y) 0 = 0 from rfl, Nat.zero_mul]
      exact Crd.zero (fun φ q => by omega)
    | succ k ih =>
      intro hk
      have ih' := ih (by omega)
      by_cases q : ∃ φ, A φ ∧ φ m = k
      · rw [zcn_t (p := fun y => ∃ φ, A φ ∧ φ m = y) q, Nat.add_mul, Nat.one_mul]
        obtain ⟨χ, x1, x2⟩ := q
        have h2 := h.fiber hm hK x1
        rw [x2] at h2
        refine (ih'.or h2 (fun φ a b => by omega)).cg (fun φ => ⟨?_, fun a => ?_⟩)
        · rintro (a | a)
          · exact ⟨a.1, by omega⟩
          · exact ⟨a.1, by omega⟩
        · by_cases e : φ m = k
          · exact Or.inr ⟨a.1, e⟩
          · exact Or.inl ⟨a.1, by omega⟩
      · rw [zcn_f (p := fun y => ∃ φ, A φ ∧ φ m = y) q]
        refine ih'.cg (fun φ => ⟨fun a => ⟨a.1, by omega⟩, fun a => ⟨a.1, ?_⟩⟩)
        have : φ m ≠ k := fun e => q ⟨φ, a.1, e⟩
        omega
  exact (key n (Nat.le_refl _)).cg (fun φ => ⟨fun a => a.1, fun a => ⟨a, (h.1 φ a).2.1 m hm⟩⟩)
end O
/-- products of the first k -/
def prd1 (f : Nat → Nat) : Nat → Nat
  | 0 => 1
  | k + 1 => prd1 f k * f k
/-- how many, along a row of points -/
theorem chain_count {n M : Nat} {A : (Nat → Nat) → Prop} {mk : Nat → Nat} (hA : PG n A) (hm : ∀ j, j < M → mk j < n) (hu : Crd (fun φ => A φ ∧ ∀ j, j < M → φ (mk j) = mk j) 1) : Crd A (prd1 (fun l => zcn (fun y => ∃ φ, (A φ ∧ ∀ j, j < l → φ (mk j) = mk j) ∧ φ (mk l) = y) n) M) := by
  have hPG : ∀ l, l ≤ M → PG n (fun φ => A φ ∧ ∀ j, j < l → φ (mk j) = mk j) := by
    intro l
    induction l with
    | zero =>
      intro _
      have e : (fun φ => A φ ∧ ∀ j, j < 0 → φ (mk j) = mk j) = A := by
        funext φ
        exact propext ⟨fun a => a.1, fun a => ⟨a, fun j hj => by omega⟩⟩
      rw [e]; exact hA
    | succ l ih =>
      intro hl
      have h1 := (ih (by omega)).fix (hm l (by omega))
      have e : (fun φ => (A φ ∧ ∀ j, j < l → φ (mk j) = mk j) ∧ φ (mk l) = mk l) = (fun φ => A φ ∧ ∀ j, j < l + 1 → φ (mk j) = mk j) := by
        funext φ
        refine propext ⟨fun a => ⟨a.1.1, fun j hj => ?_⟩, fun a => ⟨⟨a.1, fun j hj => a.2 j (by omega)⟩, a.2 l (by omega)⟩⟩
        by_cases e : j = l
        · rw [e]; exact a.2
        · exact a.1.2 j (by omega)
      rw [e] at h1
      exact h1
  have key : ∀ i, i ≤ M → ∃ K, Crd (fun φ => A φ ∧ ∀ j, j < M - i → φ (mk j) = mk j) K ∧ prd1 (fun l => zcn (fun y => ∃ φ, (A φ ∧ ∀ j, j < l → φ (mk j) = mk j) ∧ φ (mk l) = y) n) (M - i) * K = prd1 (fun l => zcn (fun y => ∃ φ, (A φ ∧ ∀ j, j < l → φ (mk j) = mk j) ∧ φ (mk l) = y) n) M := by
    intro i
    induction i with
    | zero => intro _; exact ⟨1, hu, Nat.mul_one _⟩
    | succ i ih =>
      intro hi
      obtain ⟨K, k1, k2⟩ := ih (by omega)
      obtain ⟨l, hl⟩ : ∃ l, l = M - (i + 1) := ⟨_, rfl⟩
      rw [show M - i = l + 1 by omega] at k1 k2
      rw [← hl]
      have h1 := (hPG l (by omega)).orb (K := K) (hm l (by omega)) (k1.cg (fun φ => ⟨fun a => ⟨⟨a.1, fun j hj => a.2 j (by omega)⟩, a.2 l (by omega)⟩, fun a => ⟨a.1.1, fun j hj => by
        by_cases e : j = l
        · rw [e]; exact a.2
        · exact a.1.2 j (by omega)⟩⟩))
      refine ⟨_, h1, ?_⟩
      rw [← k2, ← Nat.mul_assoc]
      rfl
  obtain ⟨K, k1, k2⟩ := key M (Nat.le_refl _)
  rw [Nat.sub_self] at k1 k2
  have : K = prd1 (fun l => zcn (fun y => ∃ φ, (A φ ∧ ∀ j, j < l → φ (mk j) = mk j) ∧ φ (mk l) = y) n) M := by
    rw [← k2]
    exact (Nat.one_mul K).symm
  rw [← this]
  exact k1.cg (fun φ => ⟨fun a => a.1, fun a => ⟨a, fun j hj => by omega⟩⟩)
/-- maps that keep sorts -/
def GMS (n : Nat) (t t' : Nat → Nat → Nat) (fit : Nat → Nat → Prop) (φ : Nat → Nat) : Prop := GM n t t' φ ∧ ∀ z, z < n → z ≠ 0 → fit z (φ z)
/-- what the images of the first makers lead to -/
def SPR (n : Nat) (t t' : Nat → Nat → Nat) (fit : Nat → Nat → Prop) (mk mi : Nat → Nat) (hm : Nat) (K : Nat → Prop) (im : Nat → Nat) : Prop := (K 0 ∧ im 0 = 0 ∧ ∀ j, j < hm → mi j < n) ∧ (∀ x, x < n → K x → im x < n) ∧ (∀ x, x < n → K x → ∀ j, j < hm → K (t x (mk j)) ∧ im (t x (mk j)) = t' (im x) (mi j)) ∧ (∀ x, x < n → ∀ y, y < n → K x → K y → im x = im y → x = y) ∧ (∀ x, x < n → K x → x ≠ 0 → fit x (im x)) ∧ ∀ φ, GMS n t t' fit φ → (∀ j, j < hm → φ (mk j) = mi j) → ∀ x, x < n → K x → φ x = im x
/-- the makers: each the first that those ahead don't make; together they make all -/
def Mkr (n : Nat) (t : Nat → Nat → Nat) (M : Nat) (mk : Nat → Nat) : Prop := (∀ j, j < M → mk j < n ∧ mk j ≠ 0) ∧ (∀ j, j < M → ∀ x, x < mk j → ∀ C : Nat → Prop, C 0 → (∀ y, y < n → C y → ∀ i, i < j → C (t y (mk i))) → C x) ∧ ∀ x, x < n → ∀ C : Nat → Prop, C 0 → (∀ y, y < n → C y → ∀ i, i < M → C (t y (mk i))) → C x
section S
variable {n M : Nat} {t t' : Nat → Nat → Nat} {iv iv' : Nat → Nat} {fit : Nat → Nat → Prop} {mk mi : Nat → Nat} {K : Nat → Prop} {im : Nat → Nat}
theorem SPR.all (hg : Grp n t iv) (h : SPR n t t' fit mk mi M K im) (hM : Mkr n t M mk) : ∀ x, x < n → K x := fun x hx => hM.2.2 x hx K h.1.1 (fun y hy hK i hi => (h.2.2.1 y hy hK i hi).1)
theorem SPR.gm (hg : Grp n t iv) (hg' : Grp n t' iv') (h : SPR n t t' fit mk mi M K im) (hM : Mkr n t M mk) : GMS n t t' fit (rowm n im) := by
  have hall := h.all hg hM
  refine ⟨⟨fun x hx => if_neg (by omega), fun x hx => ?_, fun x y hx hy e => ?_, fun x y hx hy => ?_⟩, fun z hz h0 => ?_⟩
  · rw [rowm_in hx]; exact h.2.1 x hx (hall x hx)
  · rw [rowm_in hx, rowm_in hy] at e
    exact h.2.2.2.1 x hx y hy (hall x hx) (hall y hy) e
  · rw [rowm_in hx, rowm_in hy, rowm_in (hg.lt hx hy)]
    have := hM.2.2 y hy (fun y => y < n → im (t x y) = t' (im x) (im y)) (fun _ => ?_) (fun z hz hC i hi _ => ?_)
    · exact this hy
    · rw [hg.r0 hx, h.1.2.1, hg'.r0 (h.2.1 x hx (hall x hx))]
    · have hmi := (hM.1 i hi).1
      have e1 := (h.2.2.1 z hz (hall z hz) i hi).2
      have e2 := (h.2.2.1 (t x z) (hg.lt hx hz) (hall _ (hg.lt hx hz)) i hi).2
      have lz := h.2.1 z hz (hall z hz)
      have lx := h.2.1 x hx (hall x hx)
      have lm := h.1.2.2 i hi
      rw [← hg.as hx hz hmi, e2, hC hz, e1, hg'.as lx lz lm]
  · rw [rowm_in hz]; exact h.2.2.2.2.1 z hz (hall z hz) h0
theorem gm_agree (hg : Grp n t iv) (hg' : Grp n t' iv') {φ ψ : Nat → Nat} (h1 : GM n t t' φ) (h2 : GM n t t' ψ) {j : Nat} (hmk : ∀ i, i < j → mk i < n) (ha : ∀ i, i < j → φ (mk i) = ψ (mk i)) {x : Nat} (hC : ∀ C : Nat → Prop, C 0 → (∀ y, y < n → C y → ∀ i, i < j → C (t y (mk i))) → C x) : φ x = ψ x := hC (fun y => φ y = ψ y) (by rw [h1.z hg hg', h2.z hg hg']) (fun y hy e i hi => by
  rw [h1.m hy (hmk i hi), h2.m hy (hmk i hi), ha i hi, e])
/-- the first by the makers' images is the first -/
def LexK (n : Nat) (t t' : Nat → Nat → Nat) (fit : Nat → Nat → Prop) (mk mi : Nat → Nat) (M l : Nat) (φ : Nat → Nat) : Prop := (GMS n t t' fit φ ∧ ∀ j, j < l → φ (mk j) = mi j) ∧ ∀ ψ, GMS n t t' fit ψ → (∀ j, j < l → ψ (mk j) = mi j) → (∀ j, j < M → φ (mk j) = ψ (mk j)) ∨ ∃ i, i < M ∧ (∀ j, j < i → φ (mk j) = ψ (mk j)) ∧ φ (mk i) < ψ (mk i)
theorem LexK.min (hg : Grp n t iv) (hg' : Grp n t' iv') (hM : Mkr n t M mk) {φ : Nat → Nat} (h : LexK n t t' fit mk mi M 0 φ) : LexMin n (GMS n t t' fit) φ := by
  refine ⟨h.1.1, fun ψ hψ => ?_⟩
  rcases h.2 ψ hψ (fun j hj => by omega) with q | ⟨i, q1, q2, q3⟩
  · exact Or.inl (fun y hy => gm_agree hg hg' h.1.1.1 hψ.1 (fun i hi => (hM.1 i hi).1) q (hM.2.2 y hy))
  · exact Or.inr ⟨mk i, (hM.1 i q1).1, fun y hy => gm_agree hg hg' h.1.1.1 hψ.1 (fun j hj => (hM.1 j (by omega)).1) q2 (hM.2.1 i q1 y hy), q3⟩
end S

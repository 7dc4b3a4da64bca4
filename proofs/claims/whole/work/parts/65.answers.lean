/-! PURE: the answers, of both sides -/
noncomputable def zq {α : Type} (p : Prop) (a b : α) : α := @ite α p (Classical.propDecidable _) a b
theorem zq_t {α : Type} {p : Prop} {a b : α} (h : p) : zq p a b = a := if_pos h
theorem zq_f {α : Type} {p : Prop} {a b : α} (h : ¬ p) : zq p a b = b := if_neg h
def ix (x : Int32) : Nat := x.toNatClampNeg
theorem ix_nI {k : Nat} (h : k < 2 ^ 31) : ix (nI k) = k := nI_clamp h
theorem El.ix {n : Nat} {x : Int32} (h : El n x) (hn : n < 2 ^ 31) : ix x < n ∧ x = nI (ix x) := by
  obtain ⟨k, h1, rfl⟩ := h
  rw [ix_nI (by omega)]
  exact ⟨h1, rfl⟩
theorem el_iff {N : Nat → Nat} {x1 x2 : Int32} : (∃ s, s < 2 ∧ x1 = nI s ∧ El (N s) x2) ↔ El 2 x1 ∧ El (N (ix x1)) x2 := by
  constructor
  · rintro ⟨s, h1, rfl, h2⟩
    rw [ix_nI (by omega)]
    exact ⟨⟨s, h1, rfl⟩, h2⟩
  · rintro ⟨⟨s, h1, rfl⟩, h2⟩
    rw [ix_nI (by omega)] at h2
    exact ⟨s, h1, rfl, h2⟩
noncomputable def szv (n : Nat) (t : Nat → Nat → Nat) (iv : Nat → Nat) (st : Nat) (w : Int32) : Int32 := if w = 0 then nI n else if w = 1 then nI (zc n st) else if w = 2 then nI (ctr n t iv) else if w = 3 then nI (ncl n t iv) else if w = 4 then nI (nsub n t) else if w = 5 then nI (zc n (gen n t (dset n t iv))) else if w = 6 then nI (exq t n) else -2
noncomputable def elv (n : Nat) (t : Nat → Nat → Nat) (iv : Nat → Nat) (st x : Nat) (w : Int32) : Int32 := if w = 0 then nI (iv x) else if w = 1 then nI (per t x) else if w = 2 then nI (st.testBit x).toNat else if w = 3 then nI (zc n (cls n t iv x)) else -2
/-- the greatest, as it is looked for -/
def mxf (f : Nat → Int32) : Nat → Int32
  | 0 => 0
  | k + 1 => if f k ≤ mxf f k then mxf f k else f k
theorem mxf_e {f : Nat → Int32} {n e : Nat} (he : e < 2 ^ 31) (h1 : ∃ x, x < n ∧ f x = nI e) (h2 : ∀ x, x < n → f x = -1 ∨ ∃ j, j ≤ e ∧ f x = nI j) : mxf f n = nI e := by
  have key : ∀ k, k ≤ n → ∃ m, m ≤ e ∧ mxf f k = nI m ∧ ∀ x, x < k → f x = -1 ∨ ∃ j, j ≤ m ∧ f x = nI j := by
    intro k
    induction k with
    | zero => intro _; exact ⟨0, by omega, rfl, fun x hx => by omega⟩
    | succ k ih =>
      intro hk
      obtain ⟨m, g1, g2, g3⟩ := ih (by omega)
      rcases h2 k (by omega) with q | ⟨j, q1, q2⟩
      · refine ⟨m, g1, ?_, fun x hx => ?_⟩
        · show (if f k ≤ mxf f k then mxf f k else f k) = nI m
          rw [g2, q, if_pos]
          rw [Int32.le_iff_toInt_le, nI_toInt (by omega)]
          have : (-1 : Int32).toInt = -1 := by decide
          omega
        · by_cases ex : x = k
          · rw [ex]; exact Or.inl q
          · exact g3 x (by omega)
      · by_cases hjm : j ≤ m
        · refine ⟨m, g1, ?_, fun x hx => ?_⟩
          · show (if f k ≤ mxf f k then mxf f k else f k) = nI m
            rw [g2, q2, if_pos (nI_le hjm (by omega))]
          · by_cases ex : x = k
            · rw [ex]; exact Or.inr ⟨j, hjm, q2⟩
            · exact g3 x (by omega)
        · refine ⟨j, q1, ?_, fun x hx => ?_⟩
          · show (if f k ≤ mxf f k then mxf f k else f k) = nI j
            rw [g2, q2, if_neg (nI_ge (by omega) (by omega))]
          · by_cases ex : x = k
            · rw [ex]; exact Or.inr ⟨j, Nat.le_refl _, q2⟩
            · rcases g3 x (by omega) with r | ⟨j', r1, r2⟩
              · exact Or.inl r
              · exact Or.inr ⟨j', by omega, r2⟩
  obtain ⟨m, g1, g2, g3⟩ := key n (Nat.le_refl _)
  obtain ⟨x, x1, x2⟩ := h1
  rcases g3 x x1 with r | ⟨j, r1, r2⟩
  · rw [x2] at r; exact absurd r (nI_nm1 he)
  · rw [x2, nI_eq he (by omega)] at r2
    rw [g2, show m = e by omega]
section W
variable {n : Nat} {t : Nat → Nat → Nat} {iv : Nat → Nat} {st : Nat}
/-- the first arc of a way -/
theorem rch_first (hg : Grp n t iv) : ∀ k z, rch n (arc n t st) 0 (k + 1) z → ∃ s, s < n ∧ s ≠ 0 ∧ st.testBit s = true ∧ rch n (arc n t st) 0 k (t (iv s) z) := by
  intro k
  induction k with
  | zero =>
    rintro z ⟨h1, y, h2, h3, s, g1, g2, g3, g4⟩
    have h3' : y = 0 := h3
    rw [h3', hg.l0 g1] at g4
    subst g4
    exact ⟨s, g1, g2, g3, hg.li g1⟩
  | succ k ih =>
    rintro z ⟨h1, y, h2, h3, s', g1, g2, g3, g4⟩
    obtain ⟨s, q1, q2, q3, q4⟩ := ih y h3
    refine ⟨s, q1, q2, q3, hg.lt (hg.il q1) h1, t (iv s) y, hg.lt (hg.il q1) h2, q4, s', g1, g2, g3, ?_⟩
    rw [hg.as (hg.il q1) h2 g1, g4]
theorem rch_after (hg : Grp n t iv) {s : Nat} (hs : s < n) (hs0 : s ≠ 0) (hb : st.testBit s = true) : ∀ k u, u < n → rch n (arc n t st) 0 k u → rch n (arc n t st) 0 (k + 1) (t s u) := by
  intro k
  induction k with
  | zero =>
    intro u hu h
    have h' : u = 0 := h
    subst h'
    rw [hg.r0 hs]
    exact ⟨hs, 0, hg.pos, rfl, s, hs, hs0, hb, hg.l0 hs⟩
  | succ k ih =>
    rintro u hu ⟨h1, y, h2, h3, s', g1, g2, g3, g4⟩
    refine ⟨hg.lt hs hu, t s y, hg.lt hs h2, ih y h2 h3, s', g1, g2, g3, ?_⟩
    rw [hg.as hs h2 g1, g4]
theorem fr_step (hg : Grp n t iv) {z l : Nat} (hz : z < n) (hl : l + 1 < 2 ^ 31) (h : fr n (arc n t st) 0 z = nI (l + 1)) : ∃ s, s < n ∧ s ≠ 0 ∧ st.testBit s = true ∧ fr n (arc n t st) 0 (t (iv s) z) = nI l := by
  rcases fr_ex (E := arc n t st) hg.pos z with ⟨q1, _⟩ | ⟨m, q1, q2, q3, q4⟩
  · rw [q1] at h; exact absurd h.symm (nI_nm1 hl)
  · have hn := hg.le
    rw [q2, nI_eq (by omega) hl] at h
    subst h
    obtain ⟨s, g1, g2, g3, g4⟩ := rch_first hg l z q3
    refine ⟨s, g1, g2, g3, (fr_at g4 (fun j hj r => ?_)).1⟩
    have r2 := rch_after hg g1 g2 g3 j _ (hg.lt (hg.il g1) hz) r
    rw [← hg.as g1 (hg.il g1) hz, hg.ri g1, hg.l0 hz] at r2
    exact q4 (j + 1) (by omega) r2
/-- the step that a way begins with -/
def wst (n : Nat) (t : Nat → Nat → Nat) (iv : Nat → Nat) (st z s : Nat) : Prop := s ≠ 0 ∧ s < n ∧ st.testBit s = true ∧ ∃ l, l < n ∧ fr n (arc n t st) 0 z = nI (l + 1) ∧ fr n (arc n t st) 0 (t (iv s) z) = nI l
noncomputable def wnx (n : Nat) (t : Nat → Nat → Nat) (iv : Nat → Nat) (st z : Nat) : Nat := zleast (wst n t iv st z)
/-- what is left of the way, behind its first k steps -/
noncomputable def wz (n : Nat) (t : Nat → Nat → Nat) (iv : Nat → Nat) (st h : Nat) : Nat → Nat
  | 0 => h
  | k + 1 => t (iv (wnx n t iv st (wz n t iv st h k))) (wz n t iv st h k)
theorem wnx_spec (hg : Grp n t iv) {z l : Nat} (hz : z < n) (hl : l < n) (h : fr n (arc n t st) 0 z = nI (l + 1)) : wst n t iv st z (wnx n t iv st z) ∧ (∀ j, j < wnx n t iv st z → ¬ wst n t iv st z j) ∧ fr n (arc n t st) 0 (t (iv (wnx n t iv st z)) z) = nI l := by
  have hn := hg.le
  obtain ⟨s, h1, h2, h3, h4⟩ := fr_step hg hz (by omega) h
  obtain ⟨g1, g2⟩ := zleast_spec (p := wst n t iv st z) ⟨s, h2, h1, h3, l, hl, h, h4⟩
  refine ⟨g1, g2, ?_⟩
  obtain ⟨_, _, _, l', q1, q2, q3⟩ := g1
  rw [h, nI_eq (by omega) (by omega)] at q2
  rw [show l = l' by omega]
  exact q3
theorem wz_spec (hg : Grp n t iv) {h L : Nat} (hh : h < n) (hL : L < n) (hf : fr n (arc n t st) 0 h = nI L) : ∀ k, k ≤ L → wz n t iv st h k < n ∧ fr n (arc n t st) 0 (wz n t iv st h k) = nI (L - k) := by
  intro k
  induction k with
  | zero => intro _; exact ⟨hh, hf⟩
  | succ k ih =>
    intro hk
    obtain ⟨g1, g2⟩ := ih (by omega)
    rw [show L - k = (L - (k + 1)) + 1 by omega] at g2
    obtain ⟨q1, _, q3⟩ := wnx_spec hg g1 (by omega) g2
    exact ⟨hg.lt (hg.il q1.2.1) g1, q3⟩
end W
noncomputable def wyv (n : Nat) (t : Nat → Nat → Nat) (iv : Nat → Nat) (st h : Nat) (i : Int32) : Int32 := zq (i < fr n (arc n t st) 0 h) (nI (wnx n t iv st (wz n t iv st h (ix i)))) (-1)
/-- the shortest ring so far -/
noncomputable def rgb (n : Nat) (t : Nat → Nat → Nat) (st : Nat) : Nat → Int32
  | 0 => -1
  | k + 1 => zq ((k ≠ 0 ∧ st.testBit k = true ∧ fr n (arc2 n t st k) k 0 ≠ -1) ∧ (rgb n t st k = -1 ∨ fr n (arc2 n t st k) k 0 + 1 < rgb n t st k)) (fr n (arc2 n t st k) k 0 + 1) (rgb n t st k)
section A
variable (N : Nat → Nat) (T : Nat → Nat → Nat → Nat) (V : Nat → Nat → Nat) (P : Nat → Nat)
noncomputable def aSize (x1 x2 : Int32) : Int32 := zq (El 2 x1) (szv (N (ix x1)) (T (ix x1)) (V (ix x1)) (P (ix x1)) x2) (-2)
noncomputable def aProduct (x1 x2 x3 : Int32) : Int32 := zq ((El 2 x1 ∧ El (N (ix x1)) x2) ∧ El 2 x1 ∧ El (N (ix x1)) x3) (nI (T (ix x1) (ix x2) (ix x3))) (-2)
noncomputable def aElement (x1 x2 x3 : Int32) : Int32 := zq (El 2 x1 ∧ El (N (ix x1)) x2) (elv (N (ix x1)) (T (ix x1)) (V (ix x1)) (P (ix x1)) (ix x2) x3) (-2)
noncomputable def aClassOf (x1 x2 : Int32) : Int32 := zq (El 2 x1 ∧ El (N (ix x1)) x2) (nI (cls (N (ix x1)) (T (ix x1)) (V (ix x1)) (ix x2))) (-2)
noncomputable def aGenerated (x1 x2 : Int32) : Int32 := zq (El 2 x1) (zq (El (2 ^ N (ix x1)) x2) (nI (gen (N (ix x1)) (T (ix x1)) (ix x2))) (-3)) (-2)
noncomputable def aSubgroup (x1 x2 : Int32) : Int32 := zq (El 2 x1) (zq (x2 < 0) (-3) (zq (El (nsub (N (ix x1)) (T (ix x1))) x2) (nI (kth (SG (N (ix x1)) (T (ix x1))) (ix x2))) (-1))) (-2)
noncomputable def aKind (x1 x2 : Int32) : Int32 := zq (El 2 x1) (zq (El (2 ^ N (ix x1)) x2) (nI (knd (N (ix x1)) (T (ix x1)) (V (ix x1)) (ix x2))) (-3)) (-2)
noncomputable def aFar (x1 x2 x3 : Int32) : Int32 := zq ((El 2 x1 ∧ El (N (ix x1)) x2) ∧ El 2 x1 ∧ El (N (ix x1)) x3) (fr (N (ix x1)) (arc (N (ix x1)) (T (ix x1)) (P (ix x1))) 0 (T (ix x1) (V (ix x1) (ix x2)) (ix x3))) (-2)
noncomputable def aSphere (x1 x2 : Int32) : Int32 := zq (El 2 x1) (zq (x2 < -1) (-3) (zq (x2 = -1) (mxf (fr (N (ix x1)) (arc (N (ix x1)) (T (ix x1)) (P (ix x1))) 0) (N (ix x1))) (nI (zcn (fun x => fr (N (ix x1)) (arc (N (ix x1)) (T (ix x1)) (P (ix x1))) 0 x = x2) (N (ix x1)))))) (-2)
noncomputable def aWay (x1 x2 x3 : Int32) : Int32 := zq (El 2 x1 ∧ El (N (ix x1)) x2) (zq (x3 < 0) (-3) (wyv (N (ix x1)) (T (ix x1)) (V (ix x1)) (P (ix x1)) (ix x2) x3)) (-2)
noncomputable def aRing (x1 : Int32) : Int32 := zq (El 2 x1) (rgb (N (ix x1)) (T (ix x1)) (P (ix x1)) (N (ix x1))) (-2)
noncomputable def aParts (x1 : Int32) : Int32 := zq (El 2 x1) (nI (N (ix x1) / zc (N (ix x1)) (gen (N (ix x1)) (T (ix x1)) (P (ix x1))))) (-2)
end A

/-! THE CLASS: OtherFinder's least set -/
section C22
variable {d a q A g n m st : Nat} {c : Nat → Nat} {t t' : Nat → Nat → Nat} {iv iv' : Nat → Nat} {S S' : zS} {I I0 : zI} {J : zJ}
theorem OL.sn {p : Nat} (h : OL S q) (hs : SN S S' p) (h1 : p < q) : OL S' q := by
  obtain ⟨l1, l2, l3, l4, l5, l6, l7⟩ := h
  have e := hs.2.2.1 q (by omega)
  have f : ∀ {k b kd ln}, Ar S q k b kd ln → Ar S' q k b kd ln := fun z => ⟨by rw [e]; exact z.1, by rw [(hs.1 _).1]; exact z.2.1, by rw [(hs.1 _).2]; exact z.2.2⟩
  exact ⟨by rw [(hs.1 q).1]; exact l1, f l2, f l3, f l4, f l5, by rw [e]; exact l6, l7.sn hs (by omega)⟩
theorem SN.trans {S1 S2 : zS} {p : Nat} (h1 : SN S S1 p) (h2 : SN S1 S2 p) : SN S S2 p := by
  obtain ⟨a1, ⟨a2, a3, a4⟩, a5, a6⟩ := h1
  obtain ⟨b1, ⟨b2, b3, b4⟩, b5, b6⟩ := h2
  refine ⟨fun h => ⟨(b1 h).1.trans (a1 h).1, (b1 h).2.trans (a1 h).2⟩, ⟨b2.trans a2, b3.trans a3, b4.trans a4⟩, fun h hh => (b5 h hh).trans (a5 h hh), fun k hk => (b6 k hk).trans (a6 k hk)⟩
theorem z_fitzb (p : Prop) : z_fit 3 (nI (zb p)) := by
  by_cases h : p
  · rw [zb_t h]; exact z_fitb true
  · rw [zb_f h]; exact z_fitb false
theorem c_isWanted (hd : 26 < d) (hq : q = a + 57) (hO : OL S q) (hM : ML S (a + 53)) (hC : CH I0 q A c m) (hK : KL S (a + 20 + 4)) (hP : Pnt S I0 (a + 20 + 4) n t iv st) (hg : Grp n t iv) (h0 : st.testBit 0 = false) (hG : GO S I0 a g n t' iv') (hc : ∀ i, i < m → c i < n) : ∃ S' I', z_ev d i_X9_isWanted [.ref q, .ref (a + 20 + 4), .ref g, .ref (a + 53)] S I0 J (some (.int (nI (zb (∃ φ, NM0 n (arc n t st) (arc n t' A) φ))))) S' I' J ∧ SN S S' (a + 53) ∧ ∀ x, x < a + 53 ∨ (a + 56 < x ∧ x < a + 62) ∨ a + 69 < x → I' x = I0 x := by
  obtain ⟨d, rfl⟩ := z_dep (d := d) (by omega)
  have hg' := hG.2.2.2.2.2.1
  have hA : A < 2 ^ n := row_lt hC.2.2.1 hc
  have hA0 := row_0 hC.2.2.1
  obtain ⟨l1, l2, l3, l4, l5, l6, l7⟩ := hO
  have hn := hg.le
  obtain ⟨Q, hQ⟩ : ∃ Q : zQ, Q = fun v S' I' J' => v = some (.int (nI (zb (∃ φ, NM0 n (arc n t st) (arc n t' A) φ)))) ∧ J' = J ∧ SN S S' (a + 53) ∧ ∀ x, x < a + 53 ∨ (a + 56 < x ∧ x < a + 62) ∨ a + 69 < x → I' x = I0 x := ⟨_, rfl⟩
  suffices hw : z_wp (d + 1) i_X9_isWanted [.ref q, .ref (a + 20 + 4), .ref g, .ref (a + 53)] S I0 J Q by
    rw [hQ] at hw
    obtain ⟨v, S', I', J', x1, rfl, rfl, x2⟩ := hw
    exact ⟨S', I', x1, x2⟩
  obtain ⟨ld, cl, hS, hSp⟩ := hP
  obtain ⟨I1, ld', cl', b1, b2, b3⟩ := c_paint (d := d) (J := J) (by omega) l7 (hG.kg (by omega)) hA
  have hP1 : Pnt S I1 (a + 20 + 4) n t iv st := Pnt.fr (I0 := I0) ⟨ld, cl, hS, hSp⟩ (fun x g1 g2 => b2 x (by unfold Oc; omega))
  have hS1 : SOb S I1 (a + 20 + 4) n n (HU n t iv st) ld cl := hS.fr (fun x g1 g2 => b2 x (by unfold Oc; omega))
  have hG1 : GO S I1 a g n t' iv' := hG.f (fun x hx => b2 x (by unfold Oc; omega))
  obtain ⟨r, I2, c1, c2, c3, c4⟩ := c_nfits (d := d) (J := J) (by omega) hM hK l7 hS1 b3 hn hn (by omega) (by omega)
  refine w_X9_isWanted (b_X9_isWanted_0 l1 l1 ⟨_, _, _, _, c_chosenSet (by omega) ⟨l1, l2, l3, l4, l5, l6, l7⟩ hC, ?_⟩)
  rw [l6]
  refine b_X9_isWanted_9 l7.1 ⟨_, _, _, _, b1, b_X9_isWanted_12 l1 hM.1 ?_⟩
  rw [l6]
  refine ⟨_, _, _, _, c1, ?_⟩
  cases r with
  | false =>
    refine b_X9_isWanted_21 (fun z => absurd rfl z) (fun _ => b_X9_isWanted_24 z_fit0 ?_)
    rw [hQ]
    refine ⟨?_, rfl, SN.refl, fun x hx => by rw [c2 x (by omega)]; exact b2 x (by unfold Oc; omega)⟩
    rw [zb_f]
    · rfl
    · rintro ⟨φ, hφ⟩
      exact c4 rfl rfl φ hφ.1.2.1 hφ.1.2.2.1 (cor_n hg hg' hφ.1.2.1 hφ.1.2.2.1 hφ.2 (nm_cor hg hg' h0 hA0 hφ)).1
  | true =>
    have hS2 : SOb S I2 (q + 5) n n (HU n t' iv' A) ld' cl' := b3.fr (fun x g1 g2 => c2 x (by omega))
    have hP2 : Pnt S I2 (a + 20 + 4) n t iv st := hP1.fr (fun x g1 g2 => c2 x (by omega))
    have hG2 : GO S I2 a g n t' iv' := hG1.fr (by rw [c2 g (by have := hG.2.2.2.2.2.2.1; unfold Dyn at this; omega)]) (fun x hx _ => c2 x (by unfold Dyn at hx; omega))
    obtain ⟨I3, d1, d2, d3, d4⟩ := c_spreadOut (d := d) (J := J) (by omega) l7 (hG2.kg (c := q + 5) (by omega)) hS2
    have hP3 : Pnt S I3 (a + 20 + 4) n t iv st := hP2.fr (fun x g1 g2 => d2 x (by unfold Oc; omega))
    obtain ⟨S4, I4, e1, e2, e3⟩ := c_isMatch (d := d) (J := J) (by omega) hM hK l7 hP3 ⟨ld', cl', d3, d4⟩ hg hg' h0 hA0 (by omega) (by omega)
    refine b_X9_isWanted_21 (fun _ => b_X9_isWanted_26 l1 (by rw [l6]; exact l7.1) ?_) (fun z => absurd z (by decide))
    rw [l6]
    refine ⟨_, _, _, _, d1, b_X9_isWanted_34 l1 hM.1 ?_⟩
    rw [l6]
    refine ⟨_, _, _, _, e1, b_X9_isWanted_43 (z_fitzb _) ?_⟩
    rw [hQ]
    refine ⟨rfl, rfl, e2, fun x hx => by rw [e3 x (by omega), d2 x (by unfold Oc; omega), c2 x (by omega)]; exact b2 x (by unfold Oc; omega)⟩
/-- sets that the second group's network would be like the first's with -/
def OkN (n : Nat) (t t' : Nat → Nat → Nat) (st A : Nat) : Prop := A < 2 ^ n ∧ A.testBit 0 = false ∧ zc n A = zc n st ∧ ∃ φ, NM0 n (arc n t st) (arc n t' A) φ
theorem cnt_all (hn : 0 < n) (hn2 : n ≤ 20) (hm : m ≤ 4) (A : Nat) : zcn (fun X => X < 2 ^ n ∧ zc n X = m ∧ X.testBit 0 = false) A ≤ 3876 := by
  obtain ⟨k, rfl⟩ : ∃ k, n = k + 1 := ⟨n - 1, by omega⟩
  have h1 := Nat.le_trans (cnt_le k m) (bn_le k (by omega) m (by omega))
  have h2 : zcn (fun X => X < 2 ^ (k + 1) ∧ zc (k + 1) X = m ∧ X.testBit 0 = false) (2 ^ (k + 1)) ≤ 3876 := by
    rw [zcn_congr (q := fun X => zc (k + 1) X = m ∧ X.testBit 0 = false) (fun i hi => ⟨fun z => z.2, fun z => ⟨hi, z⟩⟩)]; exact h1
  rcases Nat.lt_or_ge A (2 ^ (k + 1)) with z | z
  · rw [show 2 ^ (k + 1) = A + (2 ^ (k + 1) - A) by omega] at h2
    rw [zcn_add] at h2
    have h2 : zcn (fun X => X < A + (2 ^ (k + 1) - A) ∧ zc (k + 1) X = m ∧ X.testBit 0 = false) A ≤ 3876 := by omega
    rw [← show 2 ^ (k + 1) = A + (2 ^ (k + 1) - A) by omega] at h2
    exact h2
  · rw [show A = 2 ^ (k + 1) + (A - 2 ^ (k + 1)) by omega, zcn_add, zcn_none (p := fun i => 2 ^ (k + 1) + i < 2 ^ (k + 1) ∧ zc (k + 1) (2 ^ (k + 1) + i) = m ∧ (2 ^ (k + 1) + i).testBit 0 = false) _ (fun x _ w => by have := w.1; omega)]
    omega
theorem c_leastSet (hd : 30 < d) (hq : q = a + 57) (hO : OL S q) (hM : ML S (a + 53)) (h1 : NSt S I0 a (a + 20) n t iv st) (h2 : GO S I0 a g n t' iv') (hz4 : zc n st ≤ 4) : ∃ S' I', z_ev d i_X9_leastSet [.ref q, .ref (a + 20), .ref g, .ref (a + 53)] S I0 J (some (.int (zq (∃ A, OkN n t t' st A) (nI (zleast (OkN n t t' st))) (-1)))) S' I' J ∧ SN S S' (a + 53) ∧ (∀ x, x ≠ a + 20 → Oc (a + 24) x → x < a + 53 ∨ a + 69 < x → I' x = I0 x) ∧ (∀ k, k ≠ 9 → I' (a + 20) k = I0 (a + 20) k) ∧ NSt S' I' a (a + 20) n t iv st := by
  obtain ⟨d, rfl⟩ := z_dep (d := d) (by omega)
  have hg := h1.2.2.1.2.2.2.2.2.1
  have hg' := h2.2.2.2.2.2.1
  have hn := hg.le
  have hst := h1.2.2.2.2.1
  have h0 := h1.2.2.2.2.2.1
  have k0 := h1.2.1.1
  have gd := h2.2.2.2.2.2.2.1
  have gd1 := h1.2.2.1.2.2.2.2.2.2.1
  obtain ⟨m, hm⟩ : ∃ m, m = zc n st := ⟨_, rfl⟩
  rw [← hm] at hz4
  obtain ⟨ans, hans⟩ : ∃ ans : Int32, ans = zq (∃ A, OkN n t t' st A) (nI (zleast (OkN n t t' st))) (-1) := ⟨_, rfl⟩
  obtain ⟨Q, hQ⟩ : ∃ Q : zQ, Q = fun v S' I' J' => v = some (.int ans) ∧ J' = J ∧ SN S S' (a + 53) ∧ (∀ x, x ≠ a + 20 → Oc (a + 24) x → x < a + 53 ∨ a + 69 < x → I' x = I0 x) ∧ (∀ k, k ≠ 9 → I' (a + 20) k = I0 (a + 20) k) ∧ NSt S' I' a (a + 20) n t iv st := ⟨_, rfl⟩
  suffices hw : z_wp (d + 1) i_X9_leastSet [.ref q, .ref (a + 20), .ref g, .ref (a + 53)] S I0 J Q by
    rw [hQ, hans] at hw
    obtain ⟨v, S', I', J', x1, rfl, rfl, x2⟩ := hw
    exact ⟨S', I', x1, x2⟩
  have hmn : zc n st ≤ n := zc_le n st
  refine w_X9_leastSet (b_X9_leastSet_0 k0 ?_)
  rw [show I0 (a + 20) 1 = nI st from h1.2.2.2.1]
  refine ⟨_, _, _, _, ev_bitCount (by omega) (z_lt24 hn hst), ?_⟩
  rw [zc24 hn hst, ← hm]
  refine b_X9_leastSet_9 ⟨_, _, _, _, ev_min (a := 4) (b := m) (by omega) (by decide) (by omega), ?_⟩
  rw [show min 4 m = m by omega]
  obtain ⟨Ia, hIa⟩ : ∃ Ia, Ia = z_u2 I0 q 1 (nI m) := ⟨_, rfl⟩
  have fa : ∀ x, x ≠ q → Ia x = I0 x := fun x hx => by rw [hIa, z_u2_row hx]
  have fq : Ia q 1 = nI m := by rw [hIa, z_u2_same]
  have na : NSt S Ia a (a + 20) n t iv st := h1.fr (fun x g1 g2 => fa x (by omega)) (fun x hx => fa x (by unfold Dyn at hx; omega))
  have hGa : GO S Ia a g n t' iv' := h2.f (fun x hx => fa x (by omega))
  refine b_X9_leastSet_12 hO.1 hO.1 (fun z => ?_) (fun z => b_X9_leastSet_22 ?_)
  case refine_2 =>
    rw [z_u2_same, z_lit 0, nI_eq (by omega) (by decide)] at z
    rw [← hIa, hQ]
    refine ⟨?_, rfl, SN.refl, fun x g1 g2 g3 => fa x (by omega), fun k hk => by rw [fa (a + 20) (by omega)], na⟩
    have nb : ∀ s, s < n → st.testBit s = false := fun s hs => by
      cases e : st.testBit s with
      | false => rfl
      | true => have := zc_pos hs e; omega
    have ok : OkN n t t' st 0 := by
      refine ⟨Nat.two_pow_pos n, Nat.zero_testBit 0, by rw [zc_zero]; omega, rowm n (fun x => x), ⟨fun x hx => if_neg (by omega), fun x hx => by rw [rowm_in hx]; exact hx, fun x y hx hy e => by rw [rowm_in hx, rowm_in hy] at e; exact e, fun x y hx hy => ?_⟩, rowm_in hg.pos⟩
      constructor
      · rintro ⟨s, s1, _, s3, _⟩
        rw [nb s s1] at s3; cases s3
      · rintro ⟨s, s1, _, s3, _⟩
        rw [Nat.zero_testBit] at s3; cases s3
    rw [hans, zq_t ⟨0, ok⟩, zleast_eq ok (fun j hj => by omega)]
    rfl
  rw [z_u2_same, z_lit 0, nI_eq (by omega) (by decide)] at z
  have hm0 : 0 < m := by omega
  rw [← hIa]
  obtain ⟨Ib, b1, b2, b3, b4, b5, b6⟩ := na.paint (d := d) (J := J) (by omega)
  have kg0 : GO S Ib a (z_rv S (a + 20) 0) n t iv := b6.2.2.1
  have qb : Ib q 1 = nI m := by rw [b2 q (by omega) (by unfold Oc; omega)]; exact fq
  obtain ⟨Ic, c0, c1, c2, c3, c4⟩ := c_chooseOf (d := d) (J := J) (by omega) hO k0 kg0.1 hn hg.pos b6.2.2.2.1 hst h0 qb hz4 hm.symm (by omega) (by unfold Dyn at gd1; omega)
  have kgc : GO S Ic a (z_rv S (a + 20) 0) n t iv := kg0.f (fun x hx => c2 x (by omega))
  obtain ⟨Id, d1, d2, d3⟩ := c_shortWalks (d := d) (J := J) (by omega) hq hO c3 kgc c4
  have chd : CH Id q st c0 m := c3.fr (by rw [d2 q (by omega)]) (by rw [d2 (q + 1) (by omega)])
  have kgd : GO S Id a (z_rv S (a + 20) 0) n t iv := kgc.f (fun x hx => d2 x (by omega))
  obtain ⟨Ie, e1, e2⟩ := c_longWalks (d := d) (J := J) (by omega) hq hO chd kgd c4 d3
  refine b_X9_leastSet_24 k0 ⟨_, _, _, _, b1, b_X9_leastSet_28 (by omega) hO.1 ⟨_, _, _, _, c1, b_X9_leastSet_35 k0 hO.1 ⟨_, _, _, _, d1, b_X9_leastSet_43 k0 hO.1 ⟨_, _, _, _, e1, b_X9_leastSet_53 ?_⟩⟩⟩⟩
  have fe : ∀ x, x < a + 57 ∨ a + 69 < x → Ie x = Ib x := fun x hx => by rw [e2 x (by omega), d2 x (by omega), c2 x (by omega)]
  have qe : Ie q 1 = nI m := by rw [e2 q (by omega), d2 q (by omega), c2 q (by omega)]; exact qb
  -- what is kept
  have keep : ∀ (S1 : zS) (I1 : zI), SN S S1 (a + 53) → (∀ x, x < a + 53 ∨ a + 69 < x → I1 x = Ib x) → ∀ v : Int32, v = ans → Q (some (.int v)) S1 I1 J := by
    intro S1 I1 hs hI v hv
    rw [hQ]
    refine ⟨by rw [hv], rfl, hs, fun x g1 g2 g3 => by rw [hI x g3, b2 x g1 g2, fa x (by omega)], fun k hk => by rw [hI (a + 20) (by omega), b3 k hk, fa _ (by omega)], (b6.fr (fun x g1 g2 => hI x (by omega)) (fun x hx => hI x (by unfold Dyn at hx; omega))).sn hs⟩
  -- the search
  have main : ∀ F A, 2 ^ 21 - A ≤ F → ∀ (S1 : zS) (I1 : zI) (c : Nat → Nat) (k : Nat) (x8 : Int32), SN S S1 (a + 53) → (∀ x, x < a + 53 ∨ a + 69 < x → I1 x = Ib x) → CH I1 q A c m → (∀ i, i < m → c i ≤ n) → k ≤ zcn (fun X => X < 2 ^ n ∧ zc n X = m ∧ X.testBit 0 = false) A → (∀ X, X < A → ¬ OkN n t t' st X) → x8 = nI k → ∀ v6, Go d i_X9_leastSet 87 [.ref q, .ref (a + 20), .ref g, .ref (a + 53), .ref (a + 20 + 4), .long (prf n t iv st), v6, .int (lws n t iv st m), .int x8] [] S1 I1 J Q := by
    intro F
    induction F with
    | zero =>
      intro A hA S1 I1 c k x8 hs hI hC
      have : A < 2 ^ 21 := row_lt hC.2.2.1 (fun i hi => (hC.2.2.2 i hi).1)
      omega
    | succ F ih =>
      rintro A hA S1 I1 c k x8 hs hI hC hcn hk hno rfl v6
      have hk2 := Nat.le_trans hk (cnt_all hg.pos hn hz4 A)
      have hO1 := hO.sn hs (by omega)
      have hM1 := hM.sn hs
      have a0 := hO1.2.1
      have hG1 : GO S1 I1 a g n t' iv' := (hGa.fr (I := I1) (by rw [hI g (by unfold Dyn at gd; omega), b2 g (by unfold Dyn at gd; omega) (by unfold Dyn at gd; unfold Oc; omega)]) (fun x hx _ => by rw [hI x (by unfold Dyn at hx; omega), b2 x (by unfold Dyn at hx; omega) (by unfold Dyn at hx; unfold Oc; omega)])).sn (fun x => hs.1 x) (hs.2.2.1 g (by unfold Dyn at gd; omega))
      have gk := hG1.1.1
      have gn : I1 g 0 = nI n := hG1.1.2.1
      have q1 : I1 q 1 - 1 = nI (m - 1) := by
        obtain ⟨l, rfl⟩ : ∃ l, m = l + 1 := ⟨m - 1, by omega⟩
        rw [hC.1, i5_pred l (by omega)]; rfl
      have top := hcn (m - 1) (by omega)
      have rd : I1 (z_rv S1 q 0) (Int32.toNatClampNeg (I1 q 1 - 1)) = nI (c (m - 1)) := by rw [q1, a0.1, nI_clamp (by omega)]; exact (hC.2.2.2 (m - 1) (by omega)).2
      refine b_X9_leastSet_87 (fun z => ?_) (fun _ => ?_)
      · exfalso
        rw [z_lit 4000, nI_leI (by decide) (by omega)] at z
        omega
      refine b_X9_leastSet_95 hO1.1 hO1.1 (by rw [q1]; exact a0.rd (by omega) (by decide)) gk (fun z => b_X9_leastSet_160 (keep S1 I1 hs hI _ ?_)) (fun z => ?_)
      · rw [gn, rd, nI_leI (by omega) (by omega)] at z
        rw [hans, zq_f]
        rintro ⟨X, hX⟩
        rcases Nat.lt_or_ge X A with y | y
        · exact hno X y hX
        · have hb : A.testBit (c (m - 1)) = true := (hC.2.2.1.2.2 _).mpr ⟨m - 1, by omega, rfl⟩
          have := Nat.ge_two_pow_of_testBit hb
          have := Nat.pow_le_pow_right (show 0 < 2 by decide) z
          have := hX.1
          omega
      · rw [gn, rd, nI_leI (by omega) (by omega)] at z
        have hc : ∀ i, i < m → c i < n := fun i hi => by
          by_cases e : i = m - 1
          · rw [e]; omega
          · have := hC.2.2.1.2.1 i (m - 1) (by omega) (by omega); omega
        have hAn : A < 2 ^ n := row_lt hC.2.2.1 hc
        have hA0 := row_0 hC.2.2.1
        have hAz : zc n A = m := row_zc hC.2.2.1 hc
        -- the next one
        have next : ∀ (S2 : zS) (I2 : zI), SN S S2 (a + 53) → (∀ x, x < a + 53 ∨ a + 69 < x → I2 x = Ib x) → CH I2 q A c m → ¬ OkN n t t' st A → ∀ v6, Go d i_X9_leastSet 150 [.ref q, .ref (a + 20), .ref g, .ref (a + 53), .ref (a + 20 + 4), .long (prf n t iv st), v6, .int (lws n t iv st m), .int (nI k)] [] S2 I2 J Q := by
          intro S2 I2 hs2 hI2 hC2 hbad v6
          obtain ⟨I3, j, f1, f2, f3, f4, f5, f6⟩ := c_chooseNext (d := d) (J := J) (by omega) (hO.sn hs2 (by omega)) hC2 hm0 (fun i hi => by have := hc i hi; omega)
          obtain ⟨r1, r2⟩ := row_step hC.2.2.1 f3 f4 f5 f6.2.2.1 (K := n + 1) (fun i hi => by have := hc i hi; omega)
          refine b_X9_leastSet_150 (hO.sn hs2 (by omega)).1 ⟨_, _, _, _, f1, b_X9_leastSet_154 ?_⟩
          refine ih (ors (nxr c j) m) (by omega) S2 I3 (nxr c j) (k + 1) _ hs2 (fun x hx => by rw [f2 x (by omega)]; exact hI2 x hx) f6 (fun i hi => ?_) ?_ (fun X hX hok => ?_) (nI_1 k) _
          · have := hc i hi
            have := hc j f3
            unfold nxr
            by_cases p1 : i < j
            · rw [if_pos p1]; omega
            · rw [if_neg p1]
              by_cases p2 : i = j
              · rw [if_pos p2]; omega
              · rw [if_neg p2]; omega
          · have := zcn_step (p := fun X => X < 2 ^ n ∧ zc n X = m ∧ X.testBit 0 = false) r1 ⟨hAn, hAz, hA0⟩
            omega
          · rcases Nat.lt_trichotomy X A with y | y | y
            · exact hno X y hok
            · rw [y] at hok; exact hbad hok
            · have hXn := hok.1
              have := r2 X (Nat.lt_of_lt_of_le hXn (Nat.pow_le_pow_right (by decide) (by omega))) (by rw [zc_st (Nat.testBit_lt_two_pow hXn), hok.2.2.1, hm]) hok.2.1 y
              omega
        obtain ⟨I2, s1, s2, s3⟩ := c_shortWalks (d := d) (J := J) (by omega) hq hO1 hC hG1 hc
        have hI2 : ∀ x, x < a + 53 ∨ a + 69 < x → I2 x = Ib x := fun x hx => by rw [s2 x (by omega)]; exact hI x hx
        have hC2 : CH I2 q A c m := hC.fr (by rw [s2 q (by omega)]) (by rw [s2 (q + 1) (by omega)])
        have hG2 : GO S1 I2 a g n t' iv' := hG1.f (fun x hx => s2 x (by omega))
        refine b_X9_leastSet_113 hO1.1 ⟨_, _, _, _, s1, b_X9_leastSet_118 (fun y => next S1 I2 hs hI2 hC2 (fun ⟨_, _, _, φ, hφ⟩ => y ((lg_cmp_eq _ _).mpr (prf_inv hg hg' h0 hA0 hφ).symm)) _) (fun y => ?_)⟩
        obtain ⟨I3, u1, u2⟩ := c_longWalks (d := d) (J := J) (by omega) hq hO1 hC2 hG2 hc s3
        have hI3 : ∀ x, x < a + 53 ∨ a + 69 < x → I3 x = Ib x := fun x hx => by rw [u2 x (by omega)]; exact hI2 x hx
        have hC3 : CH I3 q A c m := hC2.fr (by rw [u2 q (by omega)]) (by rw [u2 (q + 1) (by omega)])
        have hG3 : GO S1 I3 a g n t' iv' := hG2.f (fun x hx => u2 x (by omega))
        refine b_X9_leastSet_124 hO1.1 ⟨_, _, _, _, u1, b_X9_leastSet_129 (fun y => next S1 I3 hs hI3 hC3 (fun ⟨_, _, _, φ, hφ⟩ => y (lws_inv hg hg' h0 hA0 hφ).symm) _) (fun _ => ?_)⟩
        have hP3 : Pnt S1 I3 (a + 20 + 4) n t iv st := b5.fr (fun x g1 g2 => hI3 x (by omega))
        obtain ⟨S4, I4, v1, v2, v3⟩ := c_isWanted (d := d) (J := J) (by omega) hq hO1 hM1 hC3 (b6.2.1.2.2.2.2.2.sn hs (by omega)) hP3 hg h0 hG3 hc
        have hs4 := hs.trans v2
        have hI4 : ∀ x, x < a + 53 ∨ a + 69 < x → I4 x = Ib x := fun x hx => by rw [v3 x (by omega)]; exact hI3 x hx
        have hC4 : CH I4 q A c m := hC3.fr (by rw [v3 q (by omega)]) (by rw [v3 (q + 1) (by omega)])
        refine b_X9_leastSet_134 hO1.1 ⟨_, _, _, _, v1, b_X9_leastSet_142 (fun y => next S4 I4 hs4 hI4 hC4 (fun hok => (zb_0.mp y) hok.2.2.2) _) (fun y => ?_)⟩
        have ok : OkN n t t' st A := ⟨hAn, hA0, by rw [hAz, hm], zb_1.mp y⟩
        refine b_X9_leastSet_145 (hO.sn hs4 (by omega)).1 ⟨_, _, _, _, c_chosenSet (by omega) (hO.sn hs4 (by omega)) hC4, b_X9_leastSet_149 (keep S4 I4 hs4 hI4 _ ?_)⟩
        rw [hans, zq_t ⟨A, ok⟩, zleast_eq ok (fun j hj => hno j hj)]
  -- the first one
  have a0 := hO.2.1
  suffices H : ∀ k, k ≤ m → ∀ I x8 v6, (∀ x, x ≠ q + 1 → I x = Ie x) → (∀ i, i < k → I (q + 1) i = nI (i + 1)) → x8 = nI k → Go d i_X9_leastSet 58 [.ref q, .ref (a + 20), .ref g, .ref (a + 53), .ref (a + 20 + 4), .long (prf n t iv st), v6, .int (lws n t iv st m), .int x8] [] S I J Q from H 0 (by omega) Ie _ _ (fun _ _ => rfl) (fun i hi => by omega) rfl
  have em : ∀ I : zI, (∀ x, x ≠ q + 1 → I x = Ie x) → I q 1 = nI m := fun I hI => by rw [hI q (by omega)]; exact qe
  refine z_up_to m ?_ ?_
  · rintro I x8 v6 hI hr rfl
    refine b_X9_leastSet_58 hO.1 (fun _ => b_X9_leastSet_84 ?_) (fun z => absurd (by rw [em I hI]; exact nI_le (Nat.le_refl _) (by omega)) z)
    have row : RowOf (ors (fun i => i + 1) m) (fun i => i + 1) m := ⟨fun i _ => by show 1 ≤ i + 1; omega, fun i j h1 _ => by show i + 1 < j + 1; omega, fun b => ors_bit _ b m⟩
    refine main _ (ors (fun i => i + 1) m) (Nat.le_refl _) S I (fun i => i + 1) 0 _ SN.refl (fun x hx => by rw [hI x (by omega)]; exact fe x (by omega)) ⟨em I hI, hz4, row, fun i hi => ⟨by show i + 1 < 21; omega, hr i hi⟩⟩ (fun i hi => by show i + 1 ≤ n; omega) (by omega) (fun X hX hok => ?_) rfl _
    have := row_first row (K := n + 1) (by omega) (Nat.lt_of_lt_of_le hok.1 (Nat.pow_le_pow_right (by decide) (by omega))) (by rw [zc_st (Nat.testBit_lt_two_pow hok.1), hok.2.2.1, hm]) hok.2.1
    omega
  · rintro k hk ih I x8 v6 hI hr rfl
    refine b_X9_leastSet_58 hO.1 (fun z => absurd z (by rw [em I hI]; exact nI_ge hk (by omega))) (fun _ => b_X9_leastSet_67 hO.1 (a0.wr (by omega) (by decide)) ?_)
    rw [a0.1, nI_clamp (by omega), nI_1]
    refine ih _ _ _ (fun x hx => by rw [z_u2_row hx]; exact hI x hx) (fun i hi => ?_) rfl
    by_cases e : i = k
    · rw [e, z_u2_same]
    · rw [z_u2_nk e]; exact hr i (by omega)
end C22

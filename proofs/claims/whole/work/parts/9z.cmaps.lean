/-! THE CLASS: maps, mapped -/
/-- no cell of its own is a constant -/
theorem CLay.k120 {S : zS} {a y : Nat} (hL : CLay S a) (h1 : a + 19 ≤ y) (h2 : y ≤ a + 71) : z_kd S y ≠ 120 := by
  obtain ⟨l1, l2, l3, l4, ⟨l5, l6⟩, ⟨l7, l8⟩, ⟨l9, l10⟩, ⟨l11, l12⟩, ⟨l13, l14⟩, l15, l16, l17, l18⟩ := hL
  have key : ∀ i : Nat, ∀ k : Nat, z_kd S (a + i) = k → k ≠ 120 → z_kd S (a + i) ≠ 120 := fun i k e q => by rw [e]; exact q
  obtain ⟨i, rfl⟩ : ∃ i, y = a + i := ⟨y - a, by omega⟩
  have hi : 19 ≤ i ∧ i ≤ 71 := by omega
  match i, hi with
  | 19, _ => exact key 19 _ l4.2.1 (by decide)
  | 20, _ => exact key 20 _ l17.1 (by decide)
  | 21, _ => exact key 21 _ l17.2.1.2.1 (by decide)
  | 22, _ => exact key 22 _ l17.2.2.1.2.1 (by decide)
  | 23, _ => exact key 23 _ l17.2.2.2.1.2.1 (by decide)
  | 24, _ => exact key 24 _ l17.2.2.2.2.2.1 (by decide)
  | 25, _ => exact key 25 _ l17.2.2.2.2.2.2.1.2.1 (by decide)
  | 26, _ => exact key 26 _ l17.2.2.2.2.2.2.2.1.2.1 (by decide)
  | 27, _ => exact key 27 _ l17.2.2.2.2.2.2.2.2.1.2.1 (by decide)
  | 28, _ => exact key 28 _ l17.2.2.2.2.2.2.2.2.2.1.2.1 (by decide)
  | 29, _ => exact key 29 _ l17.2.2.2.2.2.2.2.2.2.2.1.2.1 (by decide)
  | 30, _ => exact key 30 _ l17.2.2.2.2.2.2.2.2.2.2.2.1.2.1 (by decide)
  | 31, _ => exact key 31 _ l17.2.2.2.2.2.2.2.2.2.2.2.2.2.1 (by decide)
  | 32, _ => exact key 32 _ l18.1 (by decide)
  | 33, _ => exact key 33 _ l18.2.1.2.1 (by decide)
  | 34, _ => exact key 34 _ l18.2.2.1.2.1 (by decide)
  | 35, _ => exact key 35 _ l18.2.2.2.1.2.1 (by decide)
  | 36, _ => exact key 36 _ l18.2.2.2.2.2.1 (by decide)
  | 37, _ => exact key 37 _ l18.2.2.2.2.2.2.1.2.1 (by decide)
  | 38, _ => exact key 38 _ l18.2.2.2.2.2.2.2.1.2.1 (by decide)
  | 39, _ => exact key 39 _ l18.2.2.2.2.2.2.2.2.1.2.1 (by decide)
  | 40, _ => exact key 40 _ l18.2.2.2.2.2.2.2.2.2.1.2.1 (by decide)
  | 41, _ => exact key 41 _ l18.2.2.2.2.2.2.2.2.2.2.1.2.1 (by decide)
  | 42, _ => exact key 42 _ l18.2.2.2.2.2.2.2.2.2.2.2.1.2.1 (by decide)
  | 43, _ => exact key 43 _ l18.2.2.2.2.2.2.2.2.2.2.2.2.2.1 (by decide)
  | 44, _ => exact key 44 _ l8.1 (by decide)
  | 45, _ => exact key 45 _ l8.2.1.2.1 (by decide)
  | 46, _ => exact key 46 _ l8.2.2.1.2.1 (by decide)
  | 47, _ => exact key 47 _ l8.2.2.2.2.1 (by decide)
  | 48, _ => exact key 48 _ l10.1 (by decide)
  | 49, _ => exact key 49 _ l10.2.1.2.1 (by decide)
  | 50, _ => exact key 50 _ l10.2.2.1.2.1 (by decide)
  | 51, _ => exact key 51 _ l10.2.2.2.1.2.1 (by decide)
  | 52, _ => exact key 52 _ l10.2.2.2.2.2.1 (by decide)
  | 53, _ => exact key 53 _ l12.1 (by decide)
  | 54, _ => exact key 54 _ l12.2.1.2.1 (by decide)
  | 55, _ => exact key 55 _ l12.2.2.1.2.1 (by decide)
  | 56, _ => exact key 56 _ l12.2.2.2.2.1 (by decide)
  | 57, _ => exact key 57 _ l14.1 (by decide)
  | 58, _ => exact key 58 _ l14.2.1.2.1 (by decide)
  | 59, _ => exact key 59 _ l14.2.2.1.2.1 (by decide)
  | 60, _ => exact key 60 _ l14.2.2.2.1.2.1 (by decide)
  | 61, _ => exact key 61 _ l14.2.2.2.2.1.2.1 (by decide)
  | 62, _ => exact key 62 _ l14.2.2.2.2.2.2.1 (by decide)
  | 63, _ => exact key 63 _ l14.2.2.2.2.2.2.2.1.2.1 (by decide)
  | 64, _ => exact key 64 _ l14.2.2.2.2.2.2.2.2.1.2.1 (by decide)
  | 65, _ => exact key 65 _ l14.2.2.2.2.2.2.2.2.2.1.2.1 (by decide)
  | 66, _ => exact key 66 _ l14.2.2.2.2.2.2.2.2.2.2.1.2.1 (by decide)
  | 67, _ => exact key 67 _ l14.2.2.2.2.2.2.2.2.2.2.2.1.2.1 (by decide)
  | 68, _ => exact key 68 _ l14.2.2.2.2.2.2.2.2.2.2.2.2.1.2.1 (by decide)
  | 69, _ => exact key 69 _ l14.2.2.2.2.2.2.2.2.2.2.2.2.2.2.1 (by decide)
  | 70, _ => exact key 70 _ l15.2.1 (by decide)
  | 71, _ => exact key 71 _ l16.2.1 (by decide)
  | 0, h | 1, h | 2, h | 3, h | 4, h | 5, h | 6, h | 7, h | 8, h | 9, h | 10, h | 11, h | 12, h | 13, h | 14, h | 15, h | 16, h | 17, h | 18, h => omega
  | i + 72, h => omega
section C40
variable {d a g w n s st : Nat} {t : Nat → Nat → Nat} {iv : Nat → Nat} {A : Wst} {x : Slt} {γ γ' : Nat → Slt} {S S' S2 : zS} {I I' I2 : zI} {J J' J2 : zJ}
/-- where a cell that is kept lies -/
theorem Kpt.out (hL : CLay S a) {y : Nat} (h : Kpt S a y) : y < a ∨ (a + 2 ≤ y ∧ y ≤ a + 18) ∨ a + 72 ≤ y := by
  have h1 := h.far hL
  rcases h with h | h
  · unfold Dyn at h; omega
  · by_cases c : a + 19 ≤ y ∧ y ≤ a + 71
    · exact absurd h (hL.k120 c.1 c.2)
    · omega
theorem Dyn.out {y : Nat} (h : Dyn a y) : (a + 10 ≤ y ∧ y ≤ a + 18) ∨ a + 89 ≤ y := by unfold Dyn at h; omega
/-- what a slot's group is to a matcher -/
theorem CWg.rd (h : CWg S I J a A γ) (hs : s < 2) (hw : w = a + 20 + 12 * s) : CT S I (z_rv S w 0) (A.sl s).n (A.sl s).t ∧ Off (a + 48) (z_rv S w 0) ∧ Off (a + 48) (z_rv S (z_rv S w 0) 1) ∧ Grp (A.sl s).n (A.sl s).t (A.sl s).iv ∧ RD S I (a + 48) (z_rv S (z_rv S w 0) 5) (A.sl s).n (fun x => nI (mrk (A.sl s).n (A.sl s).t (A.sl s).iv x)) := by
  have cs := h.slot hs hw
  have hgo := cs.2.2.1.2.2.1
  obtain ⟨h1, h2, h3, h4, h5, h6, h7, h8⟩ := hgo
  have d1 := (h8 1 (by decide) (by decide)).out
  have d5 := (h8 5 (by decide) (by decide)).out
  have d7 := h7.out
  have hn := h6.le
  refine ⟨h1, ?_, ?_, h6, by rw [h5.1]; rfl, by rw [h5.2.1]; exact Nat.le_refl _, by rw [h5.2.1]; omega, ?_, h5.2.2⟩ <;> unfold Off <;> omega
theorem own_fit (hg : Grp n t iv) (h0 : st.testBit 0 = false) (hst : st < 2 ^ n) {cl : Nat → Nat} (hcl : ∀ x y, x < n → y < n → (cl x = cl y ↔ HU n t iv st x = HU n t iv st y)) (hc31 : ∀ x, x < n → cl x < 2 ^ 31) : GMS n t t (ftt (fun x => nI (mrk n t iv x)) (fun x => nI (mrk n t iv x)) (fun x => nI (cl x)) (fun x => nI (cl x))) = fun φ => GM n t t φ ∧ Own n st st φ := by
  funext φ
  refine propext ⟨fun h => ⟨h.1, ?_⟩, fun h => ⟨h.1, fun z hz h0z => ⟨congrArg nI (h.1.mrk hg hg hz).symm, ?_⟩⟩⟩
  · obtain ⟨hm, hfit⟩ := h
    have hz0 := hm.z hg hg
    have hh : ∀ z, z < n → HU n t iv st z = HU n t iv st (φ z) := fun z hz => by
      by_cases e : z = 0
      · rw [e, hz0]
      · have := (hfit z hz e).2
        exact (hcl z (φ z) hz (hm.lt hz)).mp ((nI_eq (hc31 z hz) (hc31 _ (hm.lt hz))).mp this)
    have hc : Cor n t t iv iv (HU n t iv st) (HU n t iv st) φ := fun x y hx hy => by
      rw [hh _ (hg.lt (hg.il hx) hy), hm.m (hg.il hx) hy, hm.ivm hg hg hx]
    have hN := cor_nm hg hg h0 h0 (fun x hx => hm.lt hx) hc
    have hb : ∀ z, z < n → (st.testBit z = true ↔ st.testBit (φ z) = true) := fun z hz => by
      have q := hN.2.2.2 0 z hg.pos hz
      rw [rowm_in hg.pos, rowm_in hz, hz0, ← arc_bit hg h0 hg.pos hz, ← arc_bit hg h0 hg.pos (hm.lt hz)] at q
      rw [hg.i0, hg.l0 hz, hg.l0 (hm.lt hz)] at q
      exact q
    unfold Own
    refine Nat.eq_of_testBit_eq (fun j => Bool.eq_iff_iff.mpr ?_)
    rw [zset_bit]
    constructor
    · rintro ⟨hj, u, hu, hb1, rfl⟩
      exact (hb u hu).mp hb1
    · intro q
      have hj : j < n := by
        rcases Nat.lt_or_ge j n with p | p
        · exact p
        · rw [Nat.testBit_lt_two_pow (Nat.lt_of_lt_of_le hst (Nat.pow_le_pow_right (by decide) p))] at q; cases q
      obtain ⟨b1, b2⟩ := bck_spec hm.2.1 hm.2.2.1 hj
      exact ⟨hj, bck n φ j, b1, (hb _ b1).mpr (by rw [b2]; exact q), b2⟩
  · obtain ⟨hm, ho⟩ := h
    have hz0 := hm.z hg hg
    have hb : ∀ z, z < n → (st.testBit z = true ↔ st.testBit (φ z) = true) := fun z hz => by
      unfold Own at ho
      constructor
      · intro q
        rw [← ho, zset_bit]
        exact ⟨hm.lt hz, z, hz, q, rfl⟩
      · intro q
        rw [← ho, zset_bit] at q
        obtain ⟨_, u, hu, hb1, e⟩ := q
        rw [← hm.inj hu hz e]; exact hb1
    have hN : NM0 n (arc n t st) (arc n t st) φ := ⟨⟨hm.1, hm.2.1, hm.2.2.1, fun x y hx hy => by
      rw [← arc_bit hg h0 hx hy, ← arc_bit hg h0 (hm.lt hx) (hm.lt hy), ← hm.ivm hg hg hx, ← hm.m (hg.il hx) hy]
      exact hb _ (hg.lt (hg.il hx) hy)⟩, hz0⟩
    have hc := nm_cor hg hg h0 h0 hN 0 z hg.pos hz
    rw [hz0, hg.i0, hg.l0 hz, hg.l0 (hm.lt hz)] at hc
    exact congrArg nI ((hcl z (φ z) hz (hm.lt hz)).mpr hc)
theorem gms_mrk (hg : Grp n t iv) : GMS n t t (ftt (fun x => nI (mrk n t iv x)) (fun x => nI (mrk n t iv x)) (fun x => nI (mrk n t iv x)) (fun x => nI (mrk n t iv x))) = GM n t t := by
  funext φ
  exact propext ⟨fun h => h.1, fun h => ⟨h, fun z hz _ => ⟨congrArg nI (h.mrk hg hg hz).symm, congrArg nI (h.mrk hg hg hz).symm⟩⟩⟩
theorem c_maps (x1 : Int32) (hd : 26 < d) (h : CW S I J a A) (hf : SF S) (hz : a + 88 ≤ z_sz S) : ∃ S' I', z_ev d i_X11_maps [.ref a, .int x1] S I J (some (.int (aMaps (fun s => (A.sl s).n) (fun s => (A.sl s).t) x1))) S' I' J ∧ CW S' I' J a A ∧ FR a S I J S' I' J ∧ Cst 0 0 S S' := by
  obtain ⟨d, rfl⟩ := z_dep (d := d) (by omega)
  rcases Classical.em (El 2 x1) with c | c
  · have e : aMaps (fun s => (A.sl s).n) (fun s => (A.sl s).t) x1 = _ := zq_t c
    have cc := c
    obtain ⟨s, hs, rfl⟩ := c
    rw [ix_nI (by omega)] at e
    rw [e]
    obtain ⟨w, g1, g2, g3, g4, _, g6⟩ := h.net hs
    have hk := h.k
    have h' := h
    obtain ⟨γ, h⟩ := h
    have h : CWg S I J a A γ := h
    have cs := h.slot hs g2
    obtain ⟨e1, e2, e3, e4⟩ := cs.eqs
    have hG := h.2.1 _ cs.1
    have gd := cs.1.1.out
    have head : ∀ (S' : zS) (I' : zI) (v : Int32), (¬ I (z_rv S w 0) 9 = 0 → Go d i_X11_maps 43 [.ref a, .int (nI s), .ref (z_rv S w 0)] [] S I J (z_eq (some (.int v)) S' I' J)) → (I (z_rv S w 0) 9 = 0 → Go d i_X11_maps 27 [.ref a, .int (nI s), .ref (z_rv S w 0)] [] S I J (z_eq (some (.int v)) S' I' J)) → z_ev (d + 1) i_X11_maps [.ref a, .int (nI s)] S I J (some (.int v)) S' I' J := fun S' I' v q1 q2 => by
      refine e_X11_maps (b_X11_maps_0 ⟨_, _, _, _, c_isSlot (nI s) (by omega), b_X11_maps_4 (fun _ => b_X11_maps_10 hk g6 (by rw [g1]; exact g3) (by rw [g1]; omega) (by rw [g1]; exact g4.1.1) ?_ ?_) (fun z => absurd cc (zb_0.mp z))⟩)
      · rw [g1]; exact q1
      · rw [g1]; exact q2
    by_cases c0 : I (z_rv S w 0) 9 = 0
    · obtain ⟨r1, r2, r3, r4, r5⟩ := h.rd hs g2
      obtain ⟨hL, hg, n0, n1, cH, hT, hFa, hK⟩ := h
      have hQ := hL.2.2.2.2.2.2.1
      obtain ⟨S1, I1, p1, p2, p3, _⟩ := c_countOwn (d := d) (J := J) (by omega) hQ.2 r1 r2 r3 r4 r5 r5
      rw [gms_mrk r4] at p1
      have hX := p2.sh
      have hk2 : z_kd S1 (z_rv S w 0) = 2 := by rw [(p2.1 _).1]; exact g4.1.1
      obtain ⟨I2, E2⟩ : ∃ I2, I2 = z_u2 I1 (z_rv S w 0) 9 (nI (crdn (GM (A.sl s).n (A.sl s).t (A.sl s).t))) := ⟨_, rfl⟩
      have fo : ∀ y, y ≠ z_rv S w 0 → Off (a + 48) y → I2 y = I y := fun y q1 q2 => by rw [E2, z_u2_row q1, p3 y q2]
      have fg : ∀ k, k ≠ 9 → I2 (z_rv S w 0) k = I (z_rv S w 0) k := fun k q => by rw [E2, z_u2_nk q, p3 _ r2]
      have f9 : I2 (z_rv S w 0) 9 = nI (crdn (GM (A.sl s).n (A.sl s).t (A.sl s).t)) := by rw [E2, z_u2_same]
      have fn : ∀ y, ¬ Dyn a y → Off (a + 48) y → I2 y = I y := fun y q1 q2 => fo y (fun e => q1 (by rw [e]; exact cs.1.1)) q2
      have hF : ∀ y, y ≤ z_sz S → Kpt S a y → z_kd S y ≠ 2 → I2 y = I y := fun y hy q1 q2 => fo y (fun e => q2 (by rw [e]; exact cs.1.2.2)) (by have := q1.out hL; unfold Off; omega)
      have f0 : ∀ y, IsG S a y → I2 y 0 = I y 0 := fun y hy => by
        by_cases e : y = z_rv S w 0
        · rw [e]; exact fg 0 (by decide)
        · rw [fo y e (by have := hy.1.out; unfold Off; omega)]
      have ea : I2 a = I a := fn a (by unfold Dyn; omega) (by unfold Off; omega)
      have rn : ∀ y, y ≠ a + 48 → z_rv S1 y = z_rv S y := p2.2.2.1
      refine ⟨S1, I2, head S1 I2 _ (fun q => absurd c0 q) (fun _ => b_X11_maps_27 hk g4.1.1 (by rw [hQ.1]; exact hQ.2.1) (by rw [hQ.1]; exact ⟨_, _, _, _, p1, b_X11_maps_40 hk2 hk2 ⟨z_someI (by rw [z_u2_same]), rfl, E2.symm, rfl⟩⟩)), ⟨γ, CWg.mk ⟨hL, hg, n0, n1, cH, hT, hFa, hK⟩ hf hX (rn _ (by omega)) hF (fun y hy => ?_) (fun y hy => by rw [(p2.1 y).1, hf y hy]; decide) ?_ ?_ (fun y q1 q2 => fn y (by unfold Dyn; omega) (by unfold Off; omega)) (hK.fr (by rw [ea]; exact ⟨rfl, rfl, rfl, rfl⟩) (fn _ (by unfold Dyn; omega) (by unfold Off; omega)) (fn _ (by unfold Dyn; omega) (by unfold Off; omega))) (by rw [ea]; exact ⟨rfl, rfl, rfl⟩) (fn _ (by unfold Dyn; omega) (by unfold Off; omega))⟩, fun y hy => ⟨rn y (by omega), fn y (by unfold Dyn; omega) (by unfold Off; omega), rfl⟩, ⟨by rw [p2.2.1.2.1]; omega, by rw [p2.2.1.2.2]; omega⟩⟩
      · by_cases e : y = z_rv S w 0
        · right
          rw [e]
          refine hG.mv hf hX (fun k k9 _ _ => fg k k9) hF (Or.inr (by rw [f9, e1, e2])) ?_
          rcases hG.2.2.2.2 with q | ⟨⟨s1, s2, s3, s4⟩, s5⟩
          · exact Or.inl (by rw [rn _ (by omega)]; exact q)
          · right
            have so := s5.out
            rw [SubOk, rn _ (show z_rv S w 0 ≠ a + 48 by omega), (p2.1 _).1, (p2.1 _).2, fg 11 (by decide), fo _ (fun e => by rw [e, g4.1.1] at s1; cases s1) (by unfold Off; omega)]
            exact ⟨⟨s1, s2, s3, s4⟩, s5⟩
        · left
          exact ⟨fo y e (by have := hy.1.out; unfold Off; omega), by rw [rn y (by have := hy.1.out; omega)]⟩
      · exact n0.mv hf hX (by rw [rn _ (by omega)]) (fun y q1 q2 => fn y (by unfold Dyn; omega) (by unfold Off; omega)) (f0 _ n0.1) (fun y q1 q2 q3 => hF y q1 (Or.inl q2) q3) rfl rfl
      · exact n1.mv hf hX (by rw [rn _ (by omega)]) (fun y q1 q2 => fn y (by unfold Dyn; omega) (by unfold Off; omega)) (f0 _ n1.1) (fun y q1 q2 q3 => hF y q1 (Or.inl q2) q3) rfl rfl
    · have e9 : I (z_rv S w 0) 9 = nI (crdn (GM (A.sl s).n (A.sl s).t (A.sl s).t)) := by
        rcases hG.2.2.2.1 with q | q
        · exact absurd q c0
        · rw [q, e1, e2]
      exact ⟨S, I, head S I _ (fun _ => b_X11_maps_43 g4.1.1 ⟨z_someI e9, rfl, rfl, rfl⟩) (fun q => absurd q c0), h', FR.refl, Cst.refl⟩
  · exact ⟨S, I, e_X11_maps (b_X11_maps_0 ⟨_, _, _, _, c_isSlot x1 (by omega), b_X11_maps_4 (fun z => absurd (zb_1.mp z) c) (fun _ => b_X11_maps_7 ⟨z_someI (zq_f c).symm, rfl, rfl, rfl⟩)⟩), h, FR.refl, Cst.refl⟩
end C40

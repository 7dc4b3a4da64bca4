/-! THE CLASS: ways and rings -/
section C11
variable {d w n st : Nat} {t : Nat → Nat → Nat} {iv : Nat → Nat} {S : zS} {I I0 : zI} {J : zJ}
/-- all that the calls on a network want to know -/
def NW (S : zS) (I : zI) (w n : Nat) (t : Nat → Nat → Nat) (iv : Nat → Nat) (st : Nat) : Prop := NK S w ∧ NG S w (z_rv S w 0) ∧ CT S I (z_rv S w 0) n t ∧ CR S I (z_rv S w 0) 2 n iv ∧ Grp n t iv ∧ I w 1 = nI st ∧ st < 2 ^ n ∧ st.testBit 0 = false
theorem NW.fr (h : NW S I0 w n t iv st) (hF : NF S I0 I w) : NW S I w n t iv st := by
  obtain ⟨h1, h2, h3, h4, h5, h6, h7, h8⟩ := h
  have ki := h4.1
  exact ⟨h1, h2, hF.ct h1 h2 h3, h4.fr (hF.1 _ (fun e => by rw [e, h1.1] at ki; cases ki) h2.2.2.1 h2.2.2.2), h5, by rw [hF.2 1 (by decide) (by decide)]; exact h6, h7, h8⟩
theorem c_dist {x y : Nat} (hd : 2 < d) (h : NW S I w n t iv st) (hm : Msd S I w n t st) (hx : x < n) (hy : y < n) : z_ev d i_X8_distance [.ref w, .int (nI x), .int (nI y)] S I J (some (.int (fr n (arc n t st) 0 (t (iv x) y)))) S I J := by
  obtain ⟨h1, h2, h3, h4, h5, h6, h7, h8⟩ := h
  obtain ⟨I', a1, _, _, a4⟩ := c_distance (J := J) hd h1 h2 h3 h4 h5 h6 h7 h8 (Or.inr hm) hx hy
  rw [a4 hm] at a1
  exact a1
theorem c_firstStep {g h l : Nat} (hd : 3 < d) (hW : NW S I w n t iv st) (hm : Msd S I w n t st) (hgn : g < n) (hh : h < n) (hl : l < n) (hf : fr n (arc n t st) 0 (t (iv g) h) = nI (l + 1)) : z_ev d i_X8_firstStepTowards [.ref w, .int (nI g), .int (nI h)] S I J (some (.int (nI (wnx n t iv st (t (iv g) h))))) S I J := by
  obtain ⟨d, rfl⟩ := z_dep (d := d) (by omega)
  obtain ⟨hN, hG, hC, hi, hg, hs, hst, h0⟩ := hW
  have hW : NW S I w n t iv st := ⟨hN, hG, hC, hi, hg, hs, hst, h0⟩
  have hn := hg.le
  have hpl := z_lt31 hn hst
  have hz := hg.lt (hg.il hgn) hh
  obtain ⟨v1, v2, v3⟩ := wnx_spec hg hz hl hf
  obtain ⟨c, hc⟩ : ∃ c, c = wnx n t iv st (t (iv g) h) := ⟨_, rfl⟩
  rw [← hc] at v1 v2 v3 ⊢
  have fo : ∀ j, j < n → t (iv (t g j)) h = t (iv j) (t (iv g) h) := fun j hj => by
    rw [hg.ip hgn hj, hg.as (hg.il hj) (hg.il hgn) hh]
  have hw0 := v1.1
  have hwn := v1.2.1
  refine e_X8_firstStepTowards (b_X8_firstStepTowards_0 hN.1 ⟨_, _, _, _, c_dist (by omega) hW hm hgn hh, b_X8_firstStepTowards_6 ?_⟩)
  rw [hf]
  suffices H : ∀ j, j ≤ c → 1 ≤ j → ∀ x4, x4 = nI j → Go d i_X8_firstStepTowards 10 [.ref w, .int (nI g), .int (nI h), .int (nI (l + 1)), .int x4] [] S I J (z_eq (some (.int (nI c))) S I J) from H 1 (by omega) (Nat.le_refl _) _ rfl
  refine z_up_to c ?_ ?_
  · rintro _ x4 rfl
    refine b_X8_firstStepTowards_10 hN.1 hC.1 (fun c => absurd c (hC.nge hwn)) (fun _ => ?_)
    refine b_X8_firstStepTowards_22 hN.1 (fun c => ?_) (fun _ => ?_)
    · rw [hs, z_bit0 hpl (by omega), v1.2.2.1] at c; cases c
    refine b_X8_firstStepTowards_34 hN.1 hC.1 ⟨_, _, _, _, c_times (by omega) hC hgn hwn, ?_⟩
    refine b_X8_firstStepTowards_45 hN.1 ⟨_, _, _, _, c_dist (by omega) hW hm (hg.lt hgn hwn) hh, ?_⟩
    rw [fo c hwn, v3]
    exact b_X8_firstStepTowards_49 (fun c => absurd (nI_pred l).symm c) (fun _ => b_X8_firstStepTowards_55 ⟨rfl, rfl, rfl, rfl⟩)
  · rintro j hj ih hj1 x4 rfl
    refine b_X8_firstStepTowards_10 hN.1 hC.1 (fun c => absurd c (hC.nge (by omega))) (fun _ => ?_)
    refine b_X8_firstStepTowards_22 hN.1 (fun c => b_X8_firstStepTowards_58 (ih (by omega) _ (nI_1 j))) (fun c => ?_)
    rw [hs, z_bit0 hpl (by omega), Bool.not_eq_false] at c
    refine b_X8_firstStepTowards_34 hN.1 hC.1 ⟨_, _, _, _, c_times (by omega) hC hgn (by omega), ?_⟩
    refine b_X8_firstStepTowards_45 hN.1 ⟨_, _, _, _, c_dist (by omega) hW hm (hg.lt hgn (by omega)) hh, ?_⟩
    rw [fo j (by omega)]
    refine b_X8_firstStepTowards_49 (fun _ => b_X8_firstStepTowards_58 (ih (by omega) _ (nI_1 j))) (fun c5 => ?_)
    rw [nI_pred] at c5
    exact absurd ⟨by omega, by omega, c, l, hl, hf, c5⟩ (v2 j hj)
theorem c_stepOfWay {h : Nat} {x : Int32} (hd : 4 < d) (hW : NW S I0 w n t iv st) (hz : I0 w 8 = 0 ∨ Msd S I0 w n t st) (hh : h < n) (hx : ¬ x < 0) : ∃ I', z_ev d i_X8_stepOfWay [.ref w, .int (nI h), .int x] S I0 J (some (.int (wyv n t iv st h x))) S I' J ∧ NF S I0 I' w ∧ Msd S I' w n t st := by
  obtain ⟨d, rfl⟩ := z_dep (d := d) (by omega)
  have hW' := hW
  obtain ⟨hN, hG, hC, hi, hg, hs, hst, h0⟩ := hW'
  have hn := hg.le
  obtain ⟨I', a1, a2, a3, _⟩ := c_distance (d := d) (J := J) (by omega) hN hG hC hi hg hs hst h0 hz hg.pos hh
  rw [hg.i0, hg.l0 hh] at a1
  have hW2 := hW.fr a2
  refine ⟨I', e_X8_stepOfWay (b_X8_stepOfWay_0 hN.1 ⟨_, _, _, _, a1, b_X8_stepOfWay_6 (fun c => b_X8_stepOfWay_14 ?_) (fun c => b_X8_stepOfWay_12 ⟨z_someI (zq_f c).symm, rfl, rfl, rfl⟩)⟩), a2, a3⟩
  obtain ⟨i, hi31, rfl⟩ := nI_of hx
  have e : wyv n t iv st h (nI i) = _ := zq_t c
  rw [e, ix_nI hi31]
  rcases fr_ex (E := arc n t st) hg.pos h with ⟨q1, _⟩ | ⟨L, q1, q2, _, _⟩
  · rw [q1, Int32.lt_iff_toInt_lt, nI_toInt hi31] at c
    have : (-1 : Int32).toInt = -1 := by decide
    omega
  rw [q2, nI_ltI hi31 (by omega)] at c
  rw [q2]
  suffices H : ∀ k, k ≤ i + 1 → ∀ x4 x5 x6 g, x4 = nI g → g < n → t (iv g) h = wz n t iv st h k → (0 < k → x5 = nI (wnx n t iv st (wz n t iv st h (k - 1)))) → x6 = nI k → Go d i_X8_stepOfWay 23 [.ref w, .int (nI h), .int (nI i), .int (nI L), .int x4, .int x5, .int x6] [] S I' J (z_eq (some (.int (nI (wnx n t iv st (wz n t iv st h i))))) S I' J) from H 0 (by omega) _ _ _ 0 rfl hg.pos (by rw [hg.i0, hg.l0 hh]; rfl) (fun q => by omega) rfl
  refine z_up_to (i + 1) ?_ ?_
  · rintro x4 x5 x6 g rfl hg1 hg2 h6 rfl
    exact b_X8_stepOfWay_23 (fun _ => b_X8_stepOfWay_65 ⟨z_someI (h6 (by omega)), rfl, rfl, rfl⟩) (fun c => absurd (nI_lt (by omega) (by omega)) c)
  · rintro k hk ih x4 x5 x6 g rfl hg1 hg2 h6 rfl
    refine b_X8_stepOfWay_23 (fun c => absurd c (nI_nlt (by omega) (by omega))) (fun _ => ?_)
    obtain ⟨w1, w2⟩ := wz_spec hg hh q1 q2 k (by omega)
    obtain ⟨l, hl⟩ : ∃ l, L - k = l + 1 := ⟨L - k - 1, by omega⟩
    rw [hl] at w2
    obtain ⟨v1, _, _⟩ := wnx_spec hg w1 (by omega) w2
    have fs := c_firstStep (d := d) (J := J) (l := l) (by omega) hW2 a3 hg1 hh (by omega) (by rw [hg2]; exact w2)
    rw [hg2] at fs
    refine b_X8_stepOfWay_29 hN.1 ⟨_, _, _, _, fs, ?_⟩
    have hwn := v1.2.1
    refine b_X8_stepOfWay_36 (fun _ => ?_) (fun c => absurd c (nI_nm1 (by omega)))
    refine b_X8_stepOfWay_46 hN.1 hC.1 ⟨_, _, _, _, c_times (by omega) hW2.2.2.1 hg1 hwn, b_X8_stepOfWay_57 (ih _ _ _ _ rfl (hg.lt hg1 hwn) ?_ (fun _ => rfl) (nI_1 k))⟩
    rw [hg.ip hg1 hwn, hg.as (hg.il hwn) (hg.il hg1) hh, hg2]; rfl
theorem sn_1 {E : Nat → Nat → Prop} {a : Nat} (ha : a < n) : sn n E a 1 = 2 ^ a := by
  rw [sn_s, sn_0, op_0 ha, Nat.zero_or]
/-- a ring through the arc from 0 to s, shorter than the best one -/
noncomputable def rth (n : Nat) (t : Nat → Nat → Nat) (st s : Nat) (best : Int32) : Int32 := zq (fr n (arc2 n t st s) s 0 ≠ -1 ∧ (best = -1 ∨ fr n (arc2 n t st s) s 0 + 1 < best)) (fr n (arc2 n t st s) s 0 + 1) (-1)
theorem c_ringThrough {s : Nat} {best : Int32} (hd : 1 < d) (hW : NW S I w n t iv st) (hm : Msd S I w n t st) (hsn : s < n) (hs0 : s ≠ 0) : z_ev d i_X8_ringThrough [.ref w, .int (nI s), .int best] S I J (some (.int (rth n t st s best))) S I J := by
  obtain ⟨d, rfl⟩ := z_dep (d := d) (by omega)
  obtain ⟨hN, hG, hC, hi, hg, hs, hst, h0⟩ := hW
  have hn := hg.le
  have hn0 := hg.pos
  have hlt : ∀ x, x < n → zim (fun i => st.testBit i) (t x) n < 2 ^ n := fun x hx => zim_lt (fun i hi _ => hg.lt hx hi)
  obtain ⟨E, hE⟩ : ∃ E, E = arc2 n t st s := ⟨_, rfl⟩
  have hr : rth n t st s best = zq (fr n E s 0 ≠ -1 ∧ (best = -1 ∨ fr n E s 0 + 1 < best)) (fr n E s 0 + 1) (-1) := by rw [hE]; rfl
  rw [hr]
  have far1 : ∀ k, (∀ j, j ≤ k → ¬ rch n E s j 0) → fr n E s 0 = -1 ∨ ∃ j, k < j ∧ j < n ∧ fr n E s 0 = nI j := by
    intro k hk
    rcases fr_ex (E := E) hsn 0 with ⟨q, _⟩ | ⟨j, q1, q2, q3, _⟩
    · exact Or.inl q
    · refine Or.inr ⟨j, ?_, q1, q2⟩
      rcases Nat.lt_or_ge k j with r | r
      · exact r
      · exact absurd q3 (hk j r)
  have no : fr n E s 0 = -1 → zq (fr n E s 0 ≠ -1 ∧ (best = -1 ∨ fr n E s 0 + 1 < best)) (fr n E s 0 + 1) (-1) = (-1 : Int32) := fun q => zq_f (fun r => r.1 q)
  refine e_X8_ringThrough (b_X8_ringThrough_0 hN.1 ⟨by rw [hN.2.1]; rfl, by rw [hN.2.2.1]; exact vp_in_nI (by omega) (by decide)⟩ ?_)
  rw [nI_clamp (by omega), hm.2.1 s hsn, z_shl1 (by omega), z_andn, show (-2 : Int32) = nI 1 ^^^ (-1) from by decide, z_andn]
  have b1 : ∀ i, (1 : Nat).testBit i = true ↔ i = 0 := fun i => by rw [show (1 : Nat) = 2 ^ 0 from rfl, b_pow]
  have op1 : zd (zd (zim (fun i => st.testBit i) (t s) n) (2 ^ s)) 1 = op n E s 1 := by
    refine zset_eq (zd_lt (zd_lt (hlt s hsn))) (fun i hi => ?_)
    rw [zd_bit, zd_bit, Bool.and_eq_true, Bool.and_eq_true, arc_out h0, Bool.not_eq_true', Bool.not_eq_true', ← Bool.not_eq_true, ← Bool.not_eq_true, b_pow, b1]
    constructor
    · rintro ⟨⟨g1, g2⟩, g3⟩
      refine ⟨⟨hi, s, hsn, rfl, by rw [hE]; exact ⟨g1, fun q => g3 q.1⟩⟩, fun j hj r => ?_⟩
      rw [show j = 0 by omega] at r
      exact g2 r
    · rintro ⟨⟨_, y, g1, g2, g3⟩, g4⟩
      have g2' : y = s := g2
      subst g2'
      rw [hE] at g3
      exact ⟨⟨g3.1, fun q => g4 0 (by omega) q⟩, fun q => g3.2 ⟨q, rfl⟩⟩
  rw [op1]
  suffices H : ∀ k, k ≤ n → 1 ≤ k → (∀ j, j ≤ k → ¬ rch n E s j 0) → ∀ x3 x4 x5, x3 = nI (sn n E s k) → x4 = nI (op n E s k) → x5 = nI (k + 2) → Go d i_X8_ringThrough 22 [.ref w, .int (nI s), .int best, .int x3, .int x4, .int x5] [] S I J (z_eq (some (.int (zq (fr n E s 0 ≠ -1 ∧ (best = -1 ∨ fr n E s 0 + 1 < best)) (fr n E s 0 + 1) (-1)))) S I J) by
    refine H 1 hn0 (Nat.le_refl _) (fun j hj r => ?_) _ _ _ ?_ rfl rfl
    · by_cases e : j = 0
      · rw [e] at r
        have r' : 0 = s := r
        exact hs0 r'.symm
      · rw [show j = 0 + 1 by omega] at r
        obtain ⟨_, y, g1, g2, g3⟩ := r
        have g2' : y = s := g2
        rw [hE] at g3
        exact g3.2 ⟨rfl, g2'⟩
    · rw [sn_1 hsn]
  refine z_up_to n ?_ ?_
  · rintro _ hno x3 x4 x5 rfl rfl rfl
    refine b_X8_ringThrough_22 hN.1 hC.1 (fun _ => b_X8_ringThrough_85 ⟨z_someI ?_, rfl, rfl, rfl⟩) (fun c => ?_)
    · rcases far1 n hno with q | ⟨j, q1, q2, _⟩
      · exact (no q).symm
      · omega
    · rw [hC.2.1] at c
      exact absurd (nI_lt (by omega) (by omega)) c
  · rintro k hk ih hk1 hno x3 x4 x5 rfl rfl rfl
    have hol := z_lt31 hn (op_lt (n := n) (E := E) (a := s) k)
    refine b_X8_ringThrough_22 hN.1 hC.1 (fun c => b_X8_ringThrough_85 ⟨z_someI ?_, rfl, rfl, rfl⟩) (fun c => ?_)
    · rw [hC.2.1, nI_ltI (by omega) (by omega)] at c
      rcases far1 k hno with q | ⟨j, q1, q2, _⟩
      · exact (no q).symm
      · omega
    refine b_X8_ringThrough_34 (fun c2 => b_X8_ringThrough_85 ⟨z_someI ?_, rfl, rfl, rfl⟩) (fun c2 => ?_)
    · rw [z_eq0 hol] at c2
      rcases fr_ex (E := E) hsn 0 with ⟨q, _⟩ | ⟨j, q1, q2, q3, q4⟩
      · exact (no q).symm
      · exact absurd q3 (hno j (by have := op_end hsn c2 q3 q4; omega))
    have hm1 : ∀ y, y < n → (op n E s k).testBit y = true → ∀ z, z < n → ((zim (fun i => st.testBit i) (t y) n).testBit z = true ↔ E y z) := by
      intro y hy hyb z hz
      rw [arc_out h0, hE]
      have hys : y ≠ s := fun e => by
        obtain ⟨_, _, r⟩ := (zset_bit _ _ _).mp hyb
        exact r 0 (by omega) e
      exact ⟨fun q => ⟨q, fun r => hys r.2⟩, fun q => q.1⟩
    have go : (best = -1 ∨ nI (k + 2) < best) → Go d i_X8_ringThrough 52 [.ref w, .int (nI s), .int best, .int (nI (sn n E s k)), .int (nI (op n E s k)), .int (nI (k + 2))] [] S I J (z_eq (some (.int (zq (fr n E s 0 ≠ -1 ∧ (best = -1 ∨ fr n E s 0 + 1 < best)) (fr n E s 0 + 1) (-1)))) S I J) := by
      intro hb
      refine b_X8_ringThrough_52 hN.1 ⟨_, _, _, _, c_along (by omega) hN hC (op_lt k) hm.2.1 hlt, ?_⟩
      have e1 : nI (alo n (fun x => zim (fun i => st.testBit i) (t x) n) (op n E s k)) &&& ((nI (sn n E s k) ||| nI (op n E s k)) ^^^ (-1)) = nI (op n E s (k + 1)) := by
        rw [z_or, z_andn, op_nx k hm1]
      have hol1 : op n E s (k + 1) < 2 ^ 31 := z_lt31 hn (op_lt _)
      refine b_X8_ringThrough_63 (fun c3 => b_X8_ringThrough_79 (ih (by omega) (fun j hj r => ?_) _ _ _ ?_ e1 (nI_1 (k + 2)))) (fun c3 => b_X8_ringThrough_76 ⟨z_someI ?_, rfl, rfl, rfl⟩)
      · rw [e1, z_and1 (by omega), z_eq0 (by omega)] at c3
        by_cases e : j ≤ k
        · exact hno j e r
        · have hj1 : j = k + 1 := by omega
          rw [hj1] at r
          have : (op n E s (k + 1)).testBit 0 = true := (zset_bit _ _ _).mpr ⟨hn0, r, fun j' hj' => hno j' (by omega)⟩
          rw [Nat.testBit_zero, decide_eq_true_eq] at this
          omega
      · rw [z_or, sn_s]
      · rw [e1, z_and1 (by omega), z_eq0 (by omega)] at c3
        have hb0 : (op n E s (k + 1)).testBit 0 = true := by
          rw [Nat.testBit_zero, decide_eq_true_eq]
          omega
        obtain ⟨_, r1, r2⟩ := (zset_bit _ _ _).mp hb0
        have hf := (fr_at r1 r2).1
        rw [hf, nI_1, zq_t]
        exact ⟨nI_nm1 (by omega), hb⟩
    refine b_X8_ringThrough_39 (fun c3 => go (Or.inl c3)) (fun c3 => b_X8_ringThrough_44 (fun c4 => go (Or.inr c4)) (fun c4 => b_X8_ringThrough_50 ⟨z_someI ?_, rfl, rfl, rfl⟩))
    rcases far1 k hno with q | ⟨j, q1, q2, q3⟩
    · exact (no q).symm
    · refine (zq_f (fun r => ?_)).symm
      rcases r.2 with r2 | r2
      · exact c3 r2
      · rw [q3, nI_1, Int32.lt_iff_toInt_lt, nI_toInt (by omega)] at r2
        rw [Int32.lt_iff_toInt_lt, nI_toInt (by omega)] at c4
        omega
theorem c_shortestRing (hd : 2 < d) (hW : NW S I0 w n t iv st) (hz : I0 w 8 = 0 ∨ Msd S I0 w n t st) : ∃ I', z_ev d i_X8_shortestRing [.ref w] S I0 J (some (.int (rgb n t st n))) S I' J ∧ NF S I0 I' w ∧ Msd S I' w n t st := by
  obtain ⟨d, rfl⟩ := z_dep (d := d) (by omega)
  have hW' := hW
  obtain ⟨hN, hG, hC, hi, hg, hs, hst, h0⟩ := hW'
  have hn := hg.le
  have hpl := z_lt31 hn hst
  obtain ⟨I', a1, a2, a3⟩ := c_measure (d := d) (J := J) (by omega) hN hG hC hg hs hst h0 hz
  have hW2 := hW.fr a2
  have hC2 := hW2.2.2.1
  refine ⟨I', e_X8_shortestRing (b_X8_shortestRing_0 hN.1 ⟨_, _, _, _, a1, b_X8_shortestRing_4 ?_⟩), a2, a3⟩
  suffices H : ∀ k, k ≤ n → 1 ≤ k → ∀ x1 x2 v3, x1 = rgb n t st k → x2 = nI k → Go d i_X8_shortestRing 8 [.ref w, .int x1, .int x2, v3] [] S I' J (z_eq (some (.int (rgb n t st n))) S I' J) from H 1 hg.pos (Nat.le_refl _) _ _ _ (zq_f (fun q => q.1.1 rfl)).symm rfl
  refine z_up_to n ?_ ?_
  · rintro _ x1 x2 v3 rfl rfl
    exact b_X8_shortestRing_8 hN.1 hC.1 (fun _ => b_X8_shortestRing_54 ⟨rfl, rfl, rfl, rfl⟩) (fun c => absurd hC2.ge c)
  · rintro k hk ih hk1 x1 x2 v3 rfl rfl
    refine b_X8_shortestRing_8 hN.1 hC.1 (fun c => absurd c (hC2.nge hk)) (fun _ => ?_)
    refine b_X8_shortestRing_19 hN.1 (fun c => b_X8_shortestRing_48 (ih (by omega) _ _ _ ?_ (nI_1 k))) (fun c => ?_)
    · rw [hW2.2.2.2.2.2.1, z_bit0 hpl (by omega)] at c
      exact (zq_f (fun q => by have := q.1.2.1; rw [c] at this; cases this)).symm
    · rw [hW2.2.2.2.2.2.1, z_bit0 hpl (by omega), Bool.not_eq_false] at c
      refine b_X8_shortestRing_30 hN.1 ⟨_, _, _, _, c_ringThrough (by omega) hW2 a3 hk (by omega), ?_⟩
      have small : ∀ f : Int32, (fr n (arc2 n t st k) k 0 = f) → f ≠ -1 → f + 1 ≠ -1 := by
        intro f hf hne
        rcases fr_ex (E := arc2 n t st k) hk 0 with ⟨q, _⟩ | ⟨j, q1, q2, _, _⟩
        · rw [hf] at q; exact absurd q hne
        · rw [hf] at q2; rw [q2, nI_1]; exact nI_nm1 (by omega)
      by_cases hc : fr n (arc2 n t st k) k 0 ≠ -1 ∧ (rgb n t st k = -1 ∨ fr n (arc2 n t st k) k 0 + 1 < rgb n t st k)
      · rw [show rth n t st k (rgb n t st k) = fr n (arc2 n t st k) k 0 + 1 from zq_t hc]
        exact b_X8_shortestRing_36 (fun _ => b_X8_shortestRing_46 (ih (by omega) _ _ _ (zq_t ⟨⟨by omega, c, hc.1⟩, hc.2⟩).symm (nI_1 k))) (fun q => absurd q (small _ rfl hc.1))
      · rw [show rth n t st k (rgb n t st k) = -1 from zq_f hc]
        exact b_X8_shortestRing_36 (fun q => absurd rfl q) (fun _ => b_X8_shortestRing_42 (ih (by omega) _ _ _ (zq_f (fun q => hc ⟨q.1.2.2, q.2⟩)).symm (nI_1 k)))
end C11

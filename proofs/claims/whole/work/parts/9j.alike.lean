/-! THE CLASS: are all arcs alike, are all points as far alike -/
section C24
variable {d a w n st : Nat} {t : Nat → Nat → Nat} {iv : Nat → Nat} {S : zS} {I I0 : zI} {J : zJ}
theorem fd_st (hg : Grp n t iv) (h0 : st.testBit 0 = false) {x : Nat} (hx : x < n) : fd n t iv st 0 x = 1 ↔ st.testBit x = true := by
  rw [fd_arc hg hg.pos hx, ← arc_bit hg h0 hg.pos hx, hg.i0, hg.l0 hx]
theorem aal_iff (hg : Grp n t iv) (hst : st < 2 ^ n) (h0 : st.testBit 0 = false) {x : Nat} (hx : x < n) (hb : st.testBit x = true) (hno : ∀ y, y < x → st.testBit y = false) : AAl n (fd n t iv st) st ↔ zd st (orbt n (fd n t iv st) x) = 0 := by
  have hl : lst n st = x := zleast_eq hb (fun j hj q => by rw [hno j hj] at q; cases q)
  unfold AAl
  rw [hl, zd_eq0 hst]
  constructor
  · rintro ⟨_, e⟩ i hi q
    rw [e]; exact q
  · intro hs
    refine ⟨fun e => (by rw [e, Nat.zero_testBit] at hb; cases hb), Nat.eq_of_testBit_eq (fun i => ?_)⟩
    rw [Bool.eq_iff_iff]
    constructor
    · intro q
      have hi := (orbt_bit.mp q).1
      have := orbt_far hg.pos hx q
      rw [(fd_st hg h0 hx).mpr hb] at this
      exact (fd_st hg h0 hi).mp this.symm
    · intro q
      by_cases hi : i < n
      · exact hs i hi q
      · rw [Nat.testBit_lt_two_pow (Nat.lt_of_lt_of_le hst (Nat.pow_le_pow_right (by decide) (by omega)))] at q; cases q
theorem c_arcsAlike (hd : 0 < d) (hw : z_kd S w = 9) (ho : Ar S w 4 (w + 1) 100 20) (hT : CT S I (z_rv S w 0) n t) (hg : Grp n t iv) (hs : I w 1 = nI st) (hst : st < 2 ^ n) (h0 : st.testBit 0 = false) (hr : ∀ x, x < n → I (w + 1) x = nI (orbt n (fd n t iv st) x)) : z_ev d i_X8_arcsAlike [.ref w] S I J (some (.int (nI (zb (AAl n (fd n t iv st) st))))) S I J := by
  obtain ⟨d, rfl⟩ := z_dep hd
  have hn := hg.le
  have h20 : 2 ^ n ≤ 2 ^ 20 := Nat.pow_le_pow_right (by decide) hn
  refine e_X8_arcsAlike (b_X8_arcsAlike_0 ?_)
  suffices H : ∀ k, k ≤ n → 1 ≤ k → ∀ x1, (∀ y, y < k → st.testBit y = false) → x1 = nI k → Go d i_X8_arcsAlike 2 [.ref w, .int x1] [] S I J (z_eq (some (.int (nI (zb (AAl n (fd n t iv st) st))))) S I J) from H 1 hg.pos (Nat.le_refl _) _ (fun y hy => by rw [show y = 0 by omega]; exact h0) rfl
  refine z_up_to n ?_ ?_
  · rintro _ x1 hno rfl
    refine b_X8_arcsAlike_2 hw hT.1 (fun _ => b_X8_arcsAlike_52 z_fit0 ⟨?_, rfl, rfl, rfl⟩) (fun z => absurd (by rw [hT.2.1]; exact nI_le (Nat.le_refl _) (by omega)) z)
    rw [zb_f]
    · rfl
    · rintro ⟨e, _⟩
      refine e (Nat.eq_of_testBit_eq (fun i => ?_))
      rw [Nat.zero_testBit]
      by_cases hi : i < n
      · exact hno i hi
      · exact Nat.testBit_lt_two_pow (Nat.lt_of_lt_of_le hst (Nat.pow_le_pow_right (by decide) (by omega)))
  · rintro k hk ih hk1 x1 hno rfl
    refine b_X8_arcsAlike_2 hw hT.1 (fun z => absurd z (by rw [hT.2.1]; exact nI_ge hk (by omega))) (fun _ => ?_)
    cases hb : st.testBit k with
    | false =>
      refine b_X8_arcsAlike_13 hw (fun _ => b_X8_arcsAlike_46 (ih (by omega) _ (fun y hy => ?_) (nI_1 k))) (fun z => absurd (by rw [hs]; exact (z_bit0 (by omega) (by omega)).mpr hb) z)
      by_cases e : y = k
      · rw [e]; exact hb
      · exact hno y (by omega)
    | true =>
      have hor := orbt_lt (n := n) (F := fd n t iv st) k
      have e : I w 1 &&& (I (z_rv S w 4) (nI k).toNatClampNeg ^^^ (-1)) = nI (zd st (orbt n (fd n t iv st) k)) := by rw [ho.1, nI_clamp (by omega), hr k hk, hs, z_andn]
      have hz : zd st (orbt n (fd n t iv st) k) < 2 ^ n := zd_lt hst
      refine b_X8_arcsAlike_13 hw (fun z => ?_) (fun _ => b_X8_arcsAlike_24 hw hw (ho.rd (by omega) (by decide)) (fun z => b_X8_arcsAlike_44 z_fit0 ⟨?_, rfl, rfl, rfl⟩) (fun z => b_X8_arcsAlike_40 z_fit1 ⟨?_, rfl, rfl, rfl⟩))
      · rw [hs, z_bit0 (by omega) (by omega), hb] at z; cases z
      · rw [e, z_eq0 (by omega)] at z
        rw [zb_f (fun q => z ((aal_iff hg hst h0 hk hb hno).mp q))]; rfl
      · rw [e, z_eq0 (by omega)] at z
        rw [zb_t ((aal_iff hg hst h0 hk hb hno).mpr z)]; rfl
theorem c_farAlike (hd : 2 < d) (hN : NK S w) (hG : NG S w (z_rv S w 0)) (hT : CT S I0 (z_rv S w 0) n t) (hg : Grp n t iv) (hs : I0 w 1 = nI st) (hst : st < 2 ^ n) (h0 : st.testBit 0 = false) (hz : I0 w 8 = 0 ∨ Msd S I0 w n t st) (ho : Ar S w 4 (w + 1) 100 20) (hr : ∀ x, x < n → I0 (w + 1) x = nI (orbt n (fd n t iv st) x)) (o5 : z_rv S w 5 ≠ w + 1 ∧ z_rv S w 6 ≠ w + 1) (o0 : z_rv S w 0 ≠ w ∧ z_rv S w 0 ≠ z_rv S w 5 ∧ z_rv S w 0 ≠ z_rv S w 6) : ∃ I', z_ev d i_X8_farAlike [.ref w] S I0 J (some (.int (nI (zb (FAl n (fd n t iv st)))))) S I' J ∧ NF S I0 I' w ∧ Msd S I' w n t st := by
  obtain ⟨d, rfl⟩ := z_dep (d := d) (by omega)
  have hn := hg.le
  have h20 : 2 ^ n ≤ 2 ^ 20 := Nat.pow_le_pow_right (by decide) hn
  obtain ⟨I1, a1, a2, a3⟩ := c_measure (d := d) (J := J) (by omega) hN hG hT hg hs hst h0 hz
  have hk := hN.1
  have gn : I1 (z_rv S w 0) 0 = nI n := by rw [a2.1 _ o0.1 o0.2.1 o0.2.2]; exact hT.2.1
  have hr1 : ∀ x, x < n → I1 (w + 1) x = nI (orbt n (fd n t iv st) x) := fun x hx => by rw [a2.1 _ (by omega) (fun e => o5.1 e.symm) (fun e => o5.2 e.symm)]; exact hr x hx
  have hf : ∀ x, x < n → I1 (z_rv S w 6) x = fd n t iv st 0 x := fun x hx => by rw [a3.2.2.1 x hx, fd_0 hg hx]
  refine ⟨I1, e_X8_farAlike (b_X8_farAlike_0 hk ⟨_, _, _, _, a1, b_X8_farAlike_4 ?_⟩), a2, a3⟩
  obtain ⟨F, hF⟩ : ∃ F, F = fd n t iv st := ⟨_, rfl⟩
  rw [← hF] at hr1 hf ⊢
  suffices H : ∀ k, k ≤ n → ∀ x1 v2, (∀ x y, x < k → y < x → F 0 x = F 0 y → (orbt n F x).testBit y = true) → x1 = nI k → Go d i_X8_farAlike 6 [.ref w, .int x1, v2] [] S I1 J (z_eq (some (.int (nI (zb (FAl n F))))) S I1 J) from H 0 (by omega) _ _ (fun x y hx => by omega) rfl
  refine z_up_to n ?_ ?_
  · rintro x1 v2 hno rfl
    refine b_X8_farAlike_6 hk hT.1 (fun _ => b_X8_farAlike_66 z_fit1 ⟨?_, rfl, rfl, rfl⟩) (fun z => absurd (by rw [gn]; exact nI_le (Nat.le_refl _) (by omega)) z)
    rw [zb_t]
    · rfl
    · intro x hx y hy e
      rcases Nat.lt_trichotomy y x with q | q | q
      · exact hno x y hx q e
      · rw [q]; exact orbt_self hg.pos hx
      · exact orbt_sym hg.pos hy (hno y x hy q e.symm)
  · rintro k hk' ih x1 v2 hno rfl
    refine b_X8_farAlike_6 hk hT.1 (fun z => absurd z (by rw [gn]; exact nI_ge hk' (by omega))) (fun _ => b_X8_farAlike_17 ?_)
    suffices H : ∀ j, j ≤ k → ∀ x2, (∀ y, y < j → F 0 k = F 0 y → (orbt n F k).testBit y = true) → x2 = nI j → Go d i_X8_farAlike 19 [.ref w, .int (nI k), .int x2] [] S I1 J (z_eq (some (.int (nI (zb (FAl n F))))) S I1 J) from H 0 (by omega) _ (fun y hy => by omega) rfl
    refine z_up_to k ?_ ?_
    · rintro x2 hy2 rfl
      refine b_X8_farAlike_19 (fun _ => b_X8_farAlike_60 (ih _ _ (fun x y hx hy e => ?_) (nI_1 k))) (fun z => absurd (nI_le (Nat.le_refl _) (by omega)) z)
      by_cases q : x = k
      · rw [q] at e hy ⊢; exact hy2 y hy e
      · exact hno x y (by omega) hy e
    · rintro j hj ih2 x2 hy2 rfl
      have hor := orbt_lt (n := n) (F := F) k
      have nx : (F 0 k = F 0 j → (orbt n F k).testBit j = true) → Go d i_X8_farAlike 54 [.ref w, .int (nI k), .int (nI j)] [] S I1 J (z_eq (some (.int (nI (zb (FAl n F))))) S I1 J) := fun q => b_X8_farAlike_54 (ih2 _ (fun y hy e => by
        by_cases q2 : y = j
        · rw [q2] at e ⊢; exact q e
        · exact hy2 y (by omega) e) (nI_1 j))
      refine b_X8_farAlike_19 (fun z => absurd z (nI_ge hj (by omega))) (fun _ => ?_)
      have r6 : ∀ i, i < n → z_isI (z_kd S (z_rv S w 6)) = true ∧ vp_in (nI i) (z_ln S (z_rv S w 6)) := fun i hi => ⟨by rw [hN.2.2.2.1]; rfl, by rw [hN.2.2.2.2.1]; exact vp_in_nI (by omega) (by decide)⟩
      refine b_X8_farAlike_24 hk (r6 k hk') hk (r6 j (by omega)) (fun z => nx (fun e => ?_)) (fun z => ?_)
      · rw [nI_clamp (by omega), nI_clamp (by omega), hf k hk', hf j (by omega)] at z
        exact absurd e z
      · rw [nI_clamp (by omega), nI_clamp (by omega), hf k hk', hf j (by omega)] at z
        have eo : I1 (z_rv S w 4) (nI k).toNatClampNeg = nI (orbt n F k) := by rw [ho.1, nI_clamp (by omega)]; exact hr1 k hk'
        refine b_X8_farAlike_39 hk (ho.rd (by omega) (by decide)) (fun z2 => nx (fun _ => ?_)) (fun z2 => b_X8_farAlike_52 z_fit0 ⟨?_, rfl, rfl, rfl⟩)
        · rw [eo] at z2
          cases q : (orbt n F k).testBit j with
          | true => rfl
          | false => exact absurd ((z_bit0 (by omega) (by omega)).mpr q) z2
        · rw [eo, z_bit0 (by omega) (by omega)] at z2
          rw [zb_f (fun q => by have := q k hk' j (by omega) z; rw [z2] at this; cases this)]; rfl
end C24

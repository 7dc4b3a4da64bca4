/-! THE CLASS: quotient -/
section C47
variable {d a g w n s st : Nat} {t : Nat → Nat → Nat} {iv : Nat → Nat} {A : Wst} {x : Slt} {γ γ' : Nat → Slt} {S S' S2 : zS} {I I' I2 : zI} {J J' J2 : zJ}
/-- cells are made, and the old ones stay -/
theorem CWg.ext (h : CWg S I J a A γ) (hf : SF S) (hz : a + 88 ≤ z_sz S) (hX : SH a S S') (hr : ∀ y, y ≤ z_sz S → z_rv S' y = z_rv S y) (hI : ∀ y, y ≤ z_sz S → I' y = I y) (hJ : ∀ y, y ≤ z_sz S → J' y = J y) (hN : ∀ y, z_sz S < y → IsG S' a y → GC S' I' a y (γ' y)) (hγ : ∀ y, y ≤ z_sz S → γ' y = γ y) : CWg S' I' J' a A γ' := by
  have ot : ∀ s', s' < 2 → CSl S' I' J' a (a + 20 + 12 * s') γ' (A.sl s') := fun s' hs' => by
    have c2 := h.slot hs' rfl
    exact c2.mv hf hX (by rw [hr _ (by omega)]) (fun y b1 b2 => hI y (by omega)) (by rw [hI _ c2.1.2.1]) (fun y q _ _ => hI y q) (hγ _ c2.1.2.1) (by rw [hJ _ (by omega)])
  obtain ⟨hL, hg, c0, c1, cH, ⟨ht, hp⟩, ⟨f1, f2⟩, hK⟩ := h
  have ea : I' a = I a := hI a (by omega)
  refine ⟨hL.sh hX hf, fun y hy => ?_, ot 0 (by decide), ot 1 (by decide), cH.mv hX (fun y b1 b2 => hI y (by omega)) (hr _ (by omega)) hγ, ⟨by rw [ea]; exact ht, by rw [hI (a + 1) (by omega)]; exact hp⟩, ⟨by rw [ea]; exact f1, by rw [ea]; exact f2⟩, hK.fr (by rw [ea]; exact ⟨rfl, rfl, rfl, rfl⟩) (hI _ (by omega)) (hI _ (by omega))⟩
  rcases Nat.lt_or_ge (z_sz S) y with q | q
  · exact hN y q hy
  · have hy' := hy.hs hX q
    rw [hγ y q]
    exact (hg y hy').st hf hX (hI y q) (fun u hu _ _ => hI u hu) (by rw [hr y q])
theorem c_qloop {u v : Nat} {x1 x2 x7 : Int32} {c : Nat → Nat} {Q : zQ} (hT : CT S I g n t) (hw9 : z_kd S w = 9) (hst : I w 1 = nI st) (hst2 : st < 2 ^ n) (hu : z_kd S u = 100 ∧ z_ln S u = 20) (ru : ∀ y, y < n → I u y = nI (c y)) (hc : ∀ y, y < n → c y < 20) (hQ : ∀ x9 : Int32, Go d i_X11_quotient 135 [.ref a, .int x1, .int x2, .ref w, .ref g, .ref u, .ref v, .int x7, .int (nI (zim (fun i => st.testBit i) c n)), .int x9] [] S I J Q) : Go d i_X11_quotient 95 [.ref a, .int x1, .int x2, .ref w, .ref g, .ref u, .ref v, .int x7, .int 0, .int 0] [] S I J Q := by
  have hn := hT.le
  have h31 := z_lt31 hn hst2
  suffices H : ∀ k, k ≤ n → ∀ x8 x9 : Int32, x8 = nI (zim (fun i => st.testBit i) c k) → x9 = nI k → Go d i_X11_quotient 95 [.ref a, .int x1, .int x2, .ref w, .ref g, .ref u, .ref v, .int x7, .int x8, .int x9] [] S I J Q from H 0 (by omega) _ _ rfl rfl
  refine z_up_to n ?_ ?_
  · rintro x8 x9 rfl rfl
    exact b_X11_quotient_95 hT.1 (fun _ => hQ _) (fun z => absurd hT.ge z)
  · rintro k hk ih x8 x9 rfl rfl
    refine b_X11_quotient_95 hT.1 (fun z => absurd z (hT.nge hk)) (fun _ => b_X11_quotient_105 hw9 (fun z => b_X11_quotient_129 (ih _ _ ?_ (nI_1 k))) (fun z => b_X11_quotient_117 ⟨by rw [hu.1]; rfl, by rw [hu.2]; exact vp_in_nI (by omega) (by omega)⟩ (ih _ _ ?_ (nI_1 k))))
    · rw [hst, z_bit0 h31 (by omega)] at z
      rw [zim_f z]
    · rw [hst, z_bit0 h31 (by omega), Bool.not_eq_false] at z
      have := hc k hk
      rw [nI_clamp (by omega), ru k hk, z_shl1 (by omega), z_or, zim_t z]
theorem quS_eq {b : Nat} (hg : Grp x.n x.t x.iv) (hN : NS x.n x.t x.iv b) : nI (zim (fun i => x.st.testBit i) (csn x.t x.iv b) x.n) &&& (-2) = nI (quS x b) := by
  rw [show (-2 : Int32) = nI 1 ^^^ (-1) from by decide, z_andn]
  congr 1
  refine Nat.eq_of_testBit_eq (fun j => Bool.eq_iff_iff.mpr ?_)
  rw [zd_bit, quS, Bool.and_eq_true, zim_bit, zim_bit]
  have b1 : ∀ i, (1 : Nat).testBit i = true ↔ i = 0 := fun i => by rw [show (1 : Nat) = 2 ^ 0 from rfl, b_pow]
  constructor
  · rintro ⟨⟨i, hi, h1, h2⟩, h3⟩
    refine ⟨i, hi, ?_, h2⟩
    rw [Bool.and_eq_true, decide_eq_true_eq]
    refine ⟨h1, ?_⟩
    rcases Nat.eq_zero_or_pos j with e | e
    · have := (b1 j).mpr e
      rw [this] at h3; cases h3
    · omega
  · rintro ⟨i, hi, h1, h2⟩
    rw [Bool.and_eq_true, decide_eq_true_eq] at h1
    refine ⟨⟨i, hi, h1.1, h2⟩, ?_⟩
    cases q : (1 : Nat).testBit j with
    | false => rfl
    | true => have := (b1 j).mp q; omega
end C47

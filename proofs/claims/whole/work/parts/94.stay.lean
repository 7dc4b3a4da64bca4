/-! THE CLASS: how many symmetries have 0 stay; which points are alike -/
section C21
variable {d a w n st : Nat} {t : Nat → Nat → Nat} {iv : Nat → Nat} {S S' : zS} {I I0 I1 : zI} {J : zJ}
theorem cpm_pg (hg : Grp n t iv) : PG n (CPm n (MMh t t iv iv (HU n t iv st) (HU n t iv st))) := by
  have inj : ∀ ψ, CPm n (MMh t t iv iv (HU n t iv st) (HU n t iv st)) ψ → ∀ x y, x < n → y < n → ψ x = ψ y → x = y := fun ψ h x y hx hy e => by
    have h1 := h.2.2 x y hx hy
    unfold MMh at h1
    rw [← e] at h1
    have e2 : hu0 iv st (t (iv x) y) = hu0 iv st (t (iv (ψ x)) (ψ x)) := by rw [← HU_low (n := n) (t := t), ← HU_low (n := n) (t := t), h1]
    exact (tiv0 hg hx hy).mp ((hu0_eq e2).1.mpr (hg.li (h.2.1 x hx)))
  refine ⟨fun ψ h => ⟨h.1, h.2.1, inj ψ h⟩, fun φ ψ h h' => ⟨fun x hx => cmp_out hx, fun x hx => by rw [cmp_in hx]; exact h'.2.1 _ (h.2.1 x hx), fun x z hx hz => ?_⟩, fun ψ h => ?_⟩
  · rw [cmp_in hx, cmp_in hz]
    exact (h.2.2 x z hx hz).trans (h'.2.2 _ _ (h.2.1 x hx) (h.2.1 z hz))
  · have s := fun y (hy : y < n) => bck_spec h.2.1 (inj ψ h) hy
    refine ⟨fun x hx => if_neg (by omega), fun x hx => (s x hx).1, fun x z hx hz => ?_⟩
    have := h.2.2 _ _ (s x hx).1 (s z hz).1
    rw [(s x hx).2, (s z hz).2] at this
    exact this.symm
theorem cpm_id : CPm n (MMh t t iv iv (HU n t iv st) (HU n t iv st)) (rowm n (fun x => x)) := ⟨fun x hx => if_neg (by omega), fun x hx => by rw [rowm_in hx]; exact hx, fun x z hx hz => by rw [rowm_in hx, rowm_in hz]; exact rfl⟩
theorem gd_s0 (hg : Grp n t iv) (h0 : st.testBit 0 = false) (ψ : Nat → Nat) : GD n (MMh t t iv iv (HU n t iv st) (HU n t iv st)) 1 ψ ↔ S0 n (fd n t iv st) ψ := by
  have e : Ex n (fun a => (1 : Nat).testBit a = true) (fun x => x) ψ ↔ ψ 0 = 0 := by
    have b1' : ∀ i, (1 : Nat).testBit i = true ↔ i = 0 := fun i => by rw [show (1 : Nat) = 2 ^ 0 from rfl, b_pow]
    exact ⟨fun h => h 0 hg.pos ((b1' 0).mpr rfl), fun h a _ hD => by rw [(b1' a).mp hD]; exact h⟩
  unfold GD S0
  rw [e]
  exact ⟨fun q => ⟨(is_nm hg hg).mpr ((cpm_iff hg hg h0 h0 q.2).mp q.1), q.2⟩, fun q => ⟨(cpm_iff hg hg h0 h0 q.2).mpr ((is_nm hg hg).mp q.1), q.2⟩⟩
theorem c_countStaying (hd : 70 < d) (hM : ML S (a + 53)) (hw : w = a + 20 ∨ w = a + 32) (hL : NLay S w) (hP : Pnt S I0 (w + 4) n t iv st) (hg : Grp n t iv) (h0 : st.testBit 0 = false) : ∃ S' I', z_ev d i_X7_countStaying [.ref (a + 53), .ref (w + 4), .ref (w + 1)] S I0 J (some (.long (lN (crdn (S0 n (fd n t iv st)))))) S' I' J ∧ SN S S' (a + 53) ∧ (∀ x, x < a + 53 ∨ a + 56 < x → x ≠ w + 1 → I' x = I0 x) ∧ ∀ x, x < n → I' (w + 1) x = nI (orbt n (fd n t iv st) x) := by
  obtain ⟨d, rfl⟩ := z_dep (d := d) (by omega)
  have hn := hg.le
  obtain ⟨l1, l2, l3, l4, l5, l6⟩ := hL
  obtain ⟨Q, hQ⟩ : ∃ Q : zQ, Q = fun v S' I' J' => v = some (.long (lN (crdn (S0 n (fd n t iv st))))) ∧ J' = J ∧ SN S S' (a + 53) ∧ (∀ x, x < a + 53 ∨ a + 56 < x → x ≠ w + 1 → I' x = I0 x) ∧ ∀ x, x < n → I' (w + 1) x = nI (orbt n (fd n t iv st) x) := ⟨_, rfl⟩
  suffices hw2 : z_wp (d + 1) i_X7_countStaying [.ref (a + 53), .ref (w + 4), .ref (w + 1)] S I0 J Q by
    rw [hQ] at hw2
    obtain ⟨v, S', I', J', x1, rfl, rfl, x2⟩ := hw2
    exact ⟨S', I', x1, x2⟩
  obtain ⟨ld, cl, hS, _⟩ := hP
  have hP : Pnt S I0 (w + 4) n t iv st := ⟨ld, cl, hS, by assumption⟩
  have c0 : I0 (w + 4) 0 = nI n := hS.1
  refine w_X7_countStaying (b_X7_countStaying_0 ?_)
  suffices H : ∀ x, x ≤ n → ∀ I x3, (∀ y, y ≠ w + 1 → I y = I0 y) → (∀ y, y < x → I (w + 1) y = nI (2 ^ y)) → x3 = nI x → Go d i_X7_countStaying 2 [.ref (a + 53), .ref (w + 4), .ref (w + 1), .int x3] [] S I J Q from H 0 (by omega) I0 _ (fun _ _ => rfl) (fun y hy => by omega) rfl
  refine z_up_to n ?_ ?_
  · rintro I x3 f1 f2 rfl
    refine b_X7_countStaying_2 l6.1 (fun _ => ?_) (fun q => absurd (by rw [f1 _ (by omega), c0]; exact nI_le (Nat.le_refl _) (by omega)) q)
    obtain ⟨Ia, hIa⟩ : ∃ Ia, Ia = z_u2 I (a + 53) 7 0 := ⟨_, rfl⟩
    have fa : ∀ x, x ≠ a + 53 → Ia x = I x := fun x hx => by rw [hIa, z_u2_row hx]
    have pa : Pnt S Ia (w + 4) n t iv st := hP.fr (fun x g1 g2 => by rw [fa x (by omega), f1 x (by omega)])
    obtain ⟨r, Ib, b1, b2, b3, b4, b5⟩ := c_nbegin (d := d) (J := J) (S := S) (by omega) hM l6 l6 pa pa hg hg (by omega) (by omega) (show Ia (a + 53) 7 = 0 by rw [hIa, z_u2_same])
    refine b_X7_countStaying_22 ⟨hM.1, Or.inl rfl⟩ hM.1 ?_
    rw [← hIa]
    refine ⟨_, _, _, _, b1, ?_⟩
    have hsn : SN S (setR2 S (a + 53) (w + 4) (w + 4)) (a + 53) := SN.set
    cases r with
    | false =>
      exact absurd (b5 rfl rfl h0 h0 _ ⟨(is_nm hg hg).mp (is_id (F := fd n t iv st)), rowm_in hg.pos⟩) id
    | true =>
      obtain ⟨_, w1, w2, w3, w4⟩ := b4 rfl
      obtain ⟨v0, v1⟩ := setR2_v (S := S) (p := a + 53) (c := w + 4) (c' := w + 4)
      have hK2 := l6.sn hsn (by omega)
      have o1 : w + 1 ≠ z_rv (setR2 S (a + 53) (w + 4) (w + 4)) (z_rv (setR2 S (a + 53) (w + 4) (w + 4)) (a + 53) 0) 6 := by rw [v0, hK2.2.2.2.2.2.1.1]; omega
      have o2 : w + 1 ≠ z_rv (setR2 S (a + 53) (w + 4) (w + 4)) (z_rv (setR2 S (a + 53) (w + 4) (w + 4)) (a + 53) 1) 7 := by rw [v1, hK2.2.2.2.2.2.2.1.1]; omega
      have e0 : ∀ z, z < n → alw n (MMh t t iv iv (HU n t iv st) (HU n t iv st)) (fun a => (1 : Nat).testBit a = true) (fun _ => 0) z = alw n (MMh t t iv iv (HU n t iv st) (HU n t iv st)) (fun a => (1 : Nat).testBit a = true) (fun x => x) z := fun z _ => zset_congr (fun i _ => ⟨fun q x hx hD => by
          have hx0 : x = 0 := by rw [show (1 : Nat) = 2 ^ 0 from rfl] at hD; exact (b_pow _ _).mp hD
          have := q x hx hD
          rw [hx0] at this ⊢; exact this, fun q x hx hD => by
          have hx0 : x = 0 := by rw [show (1 : Nat) = 2 ^ 0 from rfl] at hD; exact (b_pow _ _).mp hD
          have := q x hx hD
          rw [hx0] at this ⊢; exact this⟩)
      have hch := c_chain (S := setR2 S (a + 53) (w + 4) (w + 4)) (J := J) (o := w + 1) (mm_dg (st := st) (st' := st) hg hg) (cpm_pg hg) cpm_id (by have := l2.2.1; exact this) (by have := l2.2.2; exact this) (by omega) n d 1 1 Ib (by omega) (by omega) (zc_1 hg.pos) (by have := Nat.pow_le_pow_right (show 0 < 2 by decide) hg.pos; omega) w1 ⟨o1, o2⟩ (fun z hz => by rw [← e0 z hz]; exact w3 z hz) (fun x hx hD => by
          have hx0 : x = 0 := by rw [show (1 : Nat) = 2 ^ 0 from rfl] at hD; exact (b_pow _ _).mp hD
          rw [hx0]; exact w4 0 hg.pos rfl) (fun x hx => by rw [b2 _ (by omega), fa _ (by omega)]; exact f2 x hx) (by rw [b3 7 (by decide) (by decide), hIa, z_u2_same])
      refine b_X7_countStaying_33 (fun q => absurd q (by decide)) (fun _ => b_X7_countStaying_36 (hM.sn hsn).1 (hch.mono ?_))
      rintro v S1 I3 J1 ⟨K, rfl, rfl, rfl, k1, k2, k3, k4, ob, k5, k6, k7⟩
      refine b_X7_countStaying_43 ?_
      rw [hQ]
      refine ⟨?_, rfl, hsn, fun x g1 g2 => ?_, fun x hx => ?_⟩
      · rw [crdn_eq (k1.cg (fun ψ => gd_s0 hg h0 ψ))]
      · rw [k2 x (by omega) g2, b2 x (by omega), fa x (by omega), f1 x g2]
      · rw [k5 x hx]
        refine congrArg nI (zset_eq (k6.1 x hx).1 (fun y hy => ?_))
        rw [k7 x y hx hy]
        exact ⟨fun ⟨ψ, q1, q2⟩ => ⟨ψ, (gd_s0 hg h0 ψ).mp q1, q2⟩, fun ⟨ψ, q1, q2⟩ => ⟨ψ, (gd_s0 hg h0 ψ).mpr q1, q2⟩⟩
  · rintro x hx ih I x3 f1 f2 rfl
    refine b_X7_countStaying_2 l6.1 (fun q => absurd q (by rw [f1 _ (by omega), c0]; exact nI_ge hx (by omega))) (fun _ => ?_)
    refine b_X7_countStaying_10 ⟨l2.2.1, by rw [l2.2.2]; exact vp_in_nI (by omega) (by decide)⟩ (ih _ _ (fun y hy => by rw [z_u2_row hy]; exact f1 y hy) (fun y hy => ?_) (nI_1 x))
    rw [nI_clamp (by omega), z_shl1 (by omega)]
    by_cases e : y = x
    · rw [e, z_u2_same]
    · rw [z_u2_nk e]; exact f2 y (by omega)
end C21

/-! FEED: both sides -/
def bt (x : Int32) (k : Nat) : Int32 := Int8.toInt32 (Int32.toInt8 (Int8.toInt32 (Int32.toInt8 (x >>> (nI (24 - 8 * k) &&& 31)))))
def fdx (x1 x2 x3 x4 x5 : Int32) (i : Nat) : Int32 := if i < 4 then x1 else if i < 8 then x2 else if i < 12 then x3 else if i < 16 then x4 else x5
def fdb (x1 x2 x3 x4 x5 : Int32) (i : Nat) : Int32 := bt (fdx x1 x2 x3 x4 x5 i) (i % 4)
def Wst.fed (A : Wst) (f : Nat → Int32) (k : Nat) : Wst := (A.sl, A.kp, A.hi, A.tl + k, (fun j => if j < A.tl then A.tp j else f (j - A.tl)), A.fa, A.pl)
def wFeed (A : Wst) (x1 x2 x3 x4 x5 : Int32) : Wst := if A.tl + 20 ≤ 300 then A.fed (fdb x1 x2 x3 x4 x5) 20 else A
def aFeed (A : Wst) : Int32 := if A.tl + 20 ≤ 300 then nI (A.tl + 20) else -4
theorem fd_sh : ∀ i, i < 20 → (24 : Int32) - (8 : Int32) * (nI i - nI i / (4 : Int32) * (4 : Int32)) = nI (24 - 8 * (i % 4)) := by decide +kernel
section M23
variable {d m a : Nat} {A : Wst} {S : zS} {I I0 I1 I' : zI} {J : zJ}
theorem wFeed_ok {x1 x2 x3 x4 x5 : Int32} (hA : WOk A) : WOk (wFeed A x1 x2 x3 x4 x5) := by
  by_cases e : A.tl + 20 ≤ 300
  · rw [wFeed, if_pos e]; exact ⟨hA.1, hA.2.1, hA.2.2.1, e⟩
  · rw [wFeed, if_neg e]; exact hA
theorem m_feed (x1 x2 x3 x4 x5 : Int32) (hd : 0 < d) (h : MW S I0 m A) (hA : WOk A) : ∃ I', z_ev d i_X12_feed [.ref m, .int x1, .int x2, .int x3, .int x4, .int x5] S I0 J (some (.int (aFeed A))) S I' J ∧ MFr I0 I' m ∧ MW S I' m (wFeed A x1 x2 x3 x4 x5) := by
  obtain ⟨d, rfl⟩ := z_dep (d := d) (by omega)
  have ha := h.mq mq_th
  have ha' := ha
  obtain ⟨hL, h2, h3, h4, h5, h6, h7, h8⟩ := ha
  have hk := hL.k
  have b2 := hL.a2
  have htl := hA.2.2.2
  have e20 : (z_u2 I0 m 1 0) m 3 + 20 = nI (A.tl + 20) := by rw [h5, z_lit 20, nI_add]
  refine aQ.ex (R := fun I' => MFr I0 I' m ∧ MW S I' m (wFeed A x1 x2 x3 x4 x5)) (w_X12_feed (b_X12_feed_0 hk hk (fun c => b_X12_feed_21 ?_) (fun c => b_X12_feed_18 ⟨z_someI ?_, rfl, rfl, mq_th.mf, ?_⟩)))
  · rw [e20, z_lit 300, nI_leI (by omega) (by decide)] at c
    rw [aFeed, if_pos c, wFeed, if_pos c]
    suffices H : ∀ i, i ≤ 20 → ∀ I x6 v7, MFr I0 I m → MW S I m (A.fed (fdb x1 x2 x3 x4 x5) i) → x6 = nI i → Go d i_X12_feed 24 [.ref m, .int x1, .int x2, .int x3, .int x4, .int x5, .int x6, v7] [] S I J (aQ S J (nI (A.tl + 20)) (fun I' => MFr I0 I' m ∧ MW S I' m (A.fed (fdb x1 x2 x3 x4 x5) 20))) from H 0 (by omega) _ _ _ mq_th.mf ⟨hL, h2, h3, h4, h5, fun j hj => by rw [h6 j hj]; exact (if_pos hj).symm, h7, h8⟩ rfl
    refine z_up_to 20 ?_ ?_
    · rintro I x6 v7 f w rfl
      exact b_X12_feed_24 (fun _ => b_X12_feed_118 hk ⟨z_someI w.2.2.2.2.1, rfl, rfl, f, w⟩) (fun z => absurd (by decide) z)
    · rintro i hi ih I x6 v7 f w rfl
      obtain ⟨_, w2, w3, w4, w5, w6, w7, w8⟩ := w
      have w5 : I m 3 = nI (A.tl + i) := w5
      have wr : z_kd S (z_rv S m 2) = 101 ∧ vp_in (I m 3) (z_ln S (z_rv S m 2)) := ⟨b2.kd, by rw [w5, b2.ln]; exact vp_in_nI (by omega) (by decide)⟩
      have next : ∀ x v7, x = fdx x1 x2 x3 x4 x5 i → ∀ I1, I1 = z_u2 I (z_rv S m 2) (Int32.toNatClampNeg (I m 3)) (Int8.toInt32 (Int32.toInt8 (Int8.toInt32 (Int32.toInt8 (x >>> (((24 : Int32) - ((8 : Int32) * (nI i - nI i / (4 : Int32) * (4 : Int32)))) &&& 31)))))) → Go d i_X12_feed 24 [.ref m, .int x1, .int x2, .int x3, .int x4, .int x5, .int (nI i + 1), v7] [] S (z_u2 I1 m 3 ((I1 m 3) + 1)) J (aQ S J (nI (A.tl + 20)) (fun I' => MFr I0 I' m ∧ MW S I' m (A.fed (fdb x1 x2 x3 x4 x5) 20))) := by
        rintro x v7 rfl I1 rfl
        rw [fd_sh i hi, w5, nI_clamp (by omega), b2.1]
        rw [z_u2_ne (show m ≠ m + 2 by omega), w5, nI_1 (A.tl + i)]
        refine ih _ _ _ ((f.w (by omega) (by omega)).w (by omega) (by omega)) ?_ (nI_1 i)
        unfold MW
        rw [z_u2_row (show m + 1 ≠ m by omega), z_u2_row (show m + 1 ≠ m + 2 by omega), z_u2_row (show m + 7 ≠ m by omega), z_u2_row (show m + 7 ≠ m + 2 by omega), z_u2_row (show m + 2 ≠ m by omega)]
        refine ⟨hL, w2, by rw [z_u2_nk (by decide), z_u2_row (by omega)]; exact w3, w4, by rw [z_u2_same]; rfl, fun j hj => ?_, by rw [z_u2_nk (by decide), z_u2_row (by omega)]; exact w7, by rw [z_u2_nk (by decide), z_u2_row (by omega)]; exact w8⟩
        have hj : j < A.tl + (i + 1) := hj
        by_cases e : j = A.tl + i
        · rw [e, z_u2_same]
          show _ = if A.tl + i < A.tl then A.tp (A.tl + i) else fdb x1 x2 x3 x4 x5 (A.tl + i - A.tl)
          rw [if_neg (by omega), show A.tl + i - A.tl = i by omega]
          rfl
        · rw [z_u2_nk e]; exact w6 j (show j < A.tl + i by omega)
      refine b_X12_feed_24 (fun z => absurd z (nI_ge hi (by decide))) (fun _ => ?_)
      refine b_X12_feed_31 (fun z0 => ?_) (fun z0 => b_X12_feed_37 hk hk (by decide) wr rfl hk hk (next _ _ ?_ _ rfl))
      case refine_2 =>
        rw [z_lit 4, nI_leI (by decide) (by omega)] at z0
        unfold fdx
        rw [if_pos (by omega)]
      rw [z_lit 4, nI_leI (by decide) (by omega)] at z0
      refine b_X12_feed_41 (fun z1 => ?_) (fun z1 => b_X12_feed_48 hk hk (by decide) wr rfl hk hk (next _ _ ?_ _ rfl))
      case refine_2 =>
        rw [z_lit 8, nI_leI (by decide) (by omega)] at z1
        unfold fdx
        rw [if_neg (show ¬ i < 4 by omega), if_pos (by omega)]
      rw [z_lit 8, nI_leI (by decide) (by omega)] at z1
      refine b_X12_feed_52 (fun z2 => ?_) (fun z2 => b_X12_feed_59 hk hk (by decide) wr rfl hk hk (next _ _ ?_ _ rfl))
      case refine_2 =>
        rw [z_lit 12, nI_leI (by decide) (by omega)] at z2
        unfold fdx
        rw [if_neg (show ¬ i < 4 by omega), if_neg (show ¬ i < 8 by omega), if_pos (by omega)]
      rw [z_lit 12, nI_leI (by decide) (by omega)] at z2
      refine b_X12_feed_63 (fun z3 => ?_) (fun z3 => b_X12_feed_70 hk hk (by decide) wr rfl hk hk (next _ _ ?_ _ rfl))
      case refine_2 =>
        rw [z_lit 16, nI_leI (by decide) (by omega)] at z3
        unfold fdx
        rw [if_neg (show ¬ i < 4 by omega), if_neg (show ¬ i < 8 by omega), if_neg (show ¬ i < 12 by omega), if_pos (by omega)]
      rw [z_lit 16, nI_leI (by decide) (by omega)] at z3
      refine b_X12_feed_75 hk hk (by decide) wr rfl hk hk (next _ _ ?_ _ rfl)
      unfold fdx
      rw [if_neg (show ¬ i < 4 by omega), if_neg (show ¬ i < 8 by omega), if_neg (show ¬ i < 12 by omega), if_neg (show ¬ i < 16 by omega)]
  · rw [e20, z_lit 300, nI_leI (by omega) (by decide)] at c
    rw [aFeed, if_neg c]
  · rw [e20, z_lit 300, nI_leI (by omega) (by decide)] at c
    rw [wFeed, if_neg c]; exact ha'
/-- the class puts four on its tape -/
theorem c_putOnTape (x : Int32) (hd : 0 < d) (hk : z_kd S a = 12) (h0 : Ar S a 0 (a + 1) 101 300) {tl : Nat} (ht : I0 a 1 = nI tl) (hl : tl + 4 ≤ 300) : ∃ I', z_ev d i_X11_putOnTape [.ref a, .int x] S I0 J none S I' J ∧ (∀ h, h ≠ a → h ≠ a + 1 → I' h = I0 h) ∧ (∀ k, k ≠ 1 → I' a k = I0 a k) ∧ I' a 1 = nI (tl + 4) ∧ (∀ j, j < tl → I' (a + 1) j = I0 (a + 1) j) ∧ ∀ j, j < 4 → I' (a + 1) (tl + j) = bt x j := by
  obtain ⟨d, rfl⟩ := z_dep (d := d) (by omega)
  obtain ⟨Q, hQ⟩ : ∃ Q : zQ, Q = fun v S' I' J' => v = none ∧ S' = S ∧ J' = J ∧ (∀ h, h ≠ a → h ≠ a + 1 → I' h = I0 h) ∧ (∀ k, k ≠ 1 → I' a k = I0 a k) ∧ I' a 1 = nI (tl + 4) ∧ (∀ j, j < tl → I' (a + 1) j = I0 (a + 1) j) ∧ ∀ j, j < 4 → I' (a + 1) (tl + j) = bt x j := ⟨_, rfl⟩
  suffices hw : z_wp (d + 1) i_X11_putOnTape [.ref a, .int x] S I0 J Q by
    rw [hQ] at hw
    obtain ⟨v, S', I', J', x1, rfl, rfl, rfl, x2⟩ := hw
    exact ⟨I', x1, x2⟩
  refine w_X11_putOnTape (b_X11_putOnTape_0 ?_)
  suffices H : ∀ i, i ≤ 4 → ∀ I x2, (∀ h, h ≠ a → h ≠ a + 1 → I h = I0 h) → (∀ k, k ≠ 1 → I a k = I0 a k) → I a 1 = nI (tl + i) → (∀ j, j < tl → I (a + 1) j = I0 (a + 1) j) → (∀ j, j < i → I (a + 1) (tl + j) = bt x j) → x2 = 24 - 8 * nI i → Go d i_X11_putOnTape 3 [.ref a, .int x, .int x2] [] S I J Q from H 0 (by omega) I0 _ (fun _ _ _ => rfl) (fun _ _ => rfl) ht (fun _ _ => rfl) (fun j hj => by omega) (by decide)
  refine z_up_to 4 ?_ ?_
  · rintro I x2 f1 f2 f3 f4 f5 rfl
    refine b_X11_putOnTape_3 (fun _ => b_X11_putOnTape_46 ?_) (fun z => absurd (by decide) z)
    rw [hQ]; exact ⟨rfl, rfl, rfl, f1, f2, f3, f4, f5⟩
  · rintro i hi ih I x2 f1 f2 f3 f4 f5 rfl
    have s1 : ∀ i, i < 4 → ¬ (24 : Int32) - 8 * nI i < 0 := by decide
    have s2 : ∀ i, i < 4 → (24 : Int32) - 8 * nI i = nI (24 - 8 * i) := by decide
    have s3 : ∀ i, i < 4 → (24 : Int32) - 8 * nI i + -8 = 24 - 8 * nI (i + 1) := by decide
    refine b_X11_putOnTape_3 (fun z => absurd z (s1 i hi)) (fun _ => b_X11_putOnTape_7 hk (fun z => ?_) (fun _ => ?_))
    · exfalso
      rw [f3, z_lit 300, nI_leI (by decide) (by omega)] at z; omega
    refine b_X11_putOnTape_17 hk hk ⟨h0.kd, by rw [f3, h0.ln]; exact vp_in_nI (by omega) (by decide)⟩ rfl hk hk ?_
    rw [f3, nI_clamp (by omega), h0.1, z_u2_ne (show a ≠ a + 1 by omega), f3, nI_1, s2 i hi]
    refine ih _ _ (fun h g1 g2 => by rw [z_u2_row g1, z_u2_row g2]; exact f1 h g1 g2) (fun k hk => by rw [z_u2_nk hk, z_u2_row (by omega)]; exact f2 k hk) (by rw [z_u2_same]; rfl) (fun j hj => by rw [z_u2_row (by omega), z_u2_nk (by omega)]; exact f4 j hj) (fun j hj => ?_) (by rw [← s2 i hi]; exact s3 i hi)
    rw [z_u2_row (by omega)]
    by_cases e : j = i
    · rw [e, z_u2_same]; rfl
    · rw [z_u2_nk (by omega)]; exact f5 j (by omega)
end M23

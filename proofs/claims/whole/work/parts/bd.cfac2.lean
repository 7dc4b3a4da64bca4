/-! THE CLASS: its builder of groups -/
def ltc (k : Nat) : Nat := if k = 5 then 99 else if k = 6 then 100 else if k = 7 then 113 else 97
/-- the even orders of four -/
def EO (S : zS) (I : zI) : Prop := z_kd S (z_rv S 0 20) = 120 ∧ z_ln S (z_rv S 0 20) = 12 ∧ ∀ k, k < 12 → I (z_rv S 0 20) k = nI (pck (evi k) 4)
/-- the factors that are told -/
def BFs (I : zI) (b : Nat) (F : Nat → Nat × Nat) (ln : Nat) : Prop := I b 3 = nI ln ∧ I b 4 = nI (nP F ln) ∧ I b 6 = 0 ∧ ∀ i, i < ln → I (b + 1) i = nI (ltc (F i).1) ∧ I (b + 2) i = nI (F i).2 ∧ I (b + 3) i = nI (fsz (F i).1 (F i).2)
theorem evp_l : ∀ i, i < 12 → ∀ j, j < 12 → (∀ p, p < 4 → evi i p < 4) ∧ evp i j < 12 ∧ pck (evi (evp i j)) 4 = pck (fun p => evi j (evi i p)) 4 ∧ ∀ k, k < evp i j → pck (evi k) 4 ≠ pck (fun p => evi j (evi i p)) 4 := by decide +kernel
theorem pck_e4 : ∀ k, k < 12 → pck (evi k) 4 < 4096 := by decide +kernel
section CB
variable {d b i j k x y ln : Nat} {F : Nat → Nat × Nat} {S : zS} {I I0 I1 : zI} {J : zJ}
theorem fsz_le {k b : Nat} (h : FOk k b) : fsz k b ≤ 20 := by
  unfold FOk at h
  unfold fsz
  rcases h with z | z | z | z
  · rw [if_pos z.1]; omega
  · rw [if_neg (by omega), if_pos z.1]; omega
  · rw [if_neg (by omega), if_neg (by omega), if_pos z.1]; omega
  · rw [if_neg (by omega), if_neg (by omega), if_neg (by omega)]; decide
theorem c_sizeOf {w : Nat} (hd : 0 < d) (hE : EO S I) (hF : FOk k w) : z_ev d i_X2_sizeOf [.int (nI (ltc k)), .int (nI w)] S I J (some (.int (nI (fsz k w)))) S I J := by
  obtain ⟨d, rfl⟩ := z_dep hd
  refine e_X2_sizeOf (b_X2_sizeOf_0 ?_)
  show Go d i_X2_sizeOf (if nI (ltc k) = 99 then 36 else if nI (ltc k) = 100 then 38 else if nI (ltc k) = 113 then 42 else 46) _ _ S I J _
  unfold FOk at hF
  unfold fsz ltc
  rcases hF with ⟨h1, h2⟩ | ⟨h1, h2⟩ | ⟨h1, h2⟩ | ⟨h1, h2⟩
  · rw [if_pos h1, if_pos (by decide)]
    refine b_X2_sizeOf_36 ⟨?_, rfl, rfl, rfl⟩
    rw [if_pos h1]
  · rw [if_neg (show ¬ k = 5 by omega), if_pos h1, if_neg (by decide), if_pos (by decide)]
    refine b_X2_sizeOf_38 ⟨z_someI ?_, rfl, rfl, rfl⟩
    rw [if_neg (show ¬ k = 5 by omega), if_pos h1, z_lit 2, pk_mul]
  · rw [if_neg (show ¬ k = 5 by omega), if_neg (show ¬ k = 6 by omega), if_pos h1, if_neg (by decide), if_neg (by decide), if_pos (by decide)]
    refine b_X2_sizeOf_42 ⟨z_someI ?_, rfl, rfl, rfl⟩
    rw [if_neg (show ¬ k = 5 by omega), if_neg (show ¬ k = 6 by omega), if_pos h1, z_lit 4, pk_mul]
  · rw [if_neg (show ¬ k = 5 by omega), if_neg (show ¬ k = 6 by omega), if_neg (show ¬ k = 7 by omega), if_neg (by decide), if_neg (by decide), if_neg (by decide)]
    refine b_X2_sizeOf_46 (by rw [hE.1]; rfl) ⟨z_someI ?_, rfl, rfl, rfl⟩
    rw [if_neg (show ¬ k = 5 by omega), if_neg (show ¬ k = 6 by omega), if_neg (show ¬ k = 7 by omega), hE.2.1]
theorem c_addFactor {w : Nat} (hd : 1 < d) (hL : BL S b) (hE : EO S I0) (h : BFs I0 b F ln) (hF : FOk k w) (hn : nP F ln ≤ 20) (hln : ln < 150) : ∃ I', z_ev d i_X2_addFactor [.ref b, .int (nI (ltc k)), .int (nI w)] S I0 J (some (.int (nI (zb (nP F ln * fsz k w ≤ 20))))) S I' J ∧ (∀ h, h ≠ b → h ≠ b + 1 → h ≠ b + 2 → h ≠ b + 3 → I' h = I0 h) ∧ (∀ k, k ≠ 3 → k ≠ 4 → I' b k = I0 b k) ∧ (nP F ln * fsz k w ≤ 20 → BFs I' b (fup F ln (k, w)) (ln + 1)) := by
  obtain ⟨d, rfl⟩ := z_dep (d := d) (by omega)
  obtain ⟨l1, l2, l3, l4, l5, l6⟩ := hL
  obtain ⟨h1, h2, h3, h4⟩ := h
  have hsz := fsz_le hF
  have hp : nP F ln * fsz k w ≤ 20 * 20 := Nat.mul_le_mul hn hsz
  have ep : I0 b 4 * nI (fsz k w) = nI (nP F ln * fsz k w) := by rw [h2, pk_mul]
  rcases Classical.em (nP F ln * fsz k w ≤ 20) with c | c
  · rw [zb_t c]
    obtain ⟨I1, E1⟩ : ∃ I1, I1 = z_u2 (z_u2 (z_u2 (z_u2 (z_u2 I0 (b + 1) ln (nI (ltc k))) (b + 2) ln (nI w)) (b + 3) ln (nI (fsz k w))) b 3 (nI (ln + 1))) b 4 (nI (nP F ln * fsz k w)) := ⟨_, rfl⟩
    refine ⟨I1, e_X2_addFactor (b_X2_addFactor_0 ⟨_, _, _, _, c_sizeOf (by omega) hE hF, b_X2_addFactor_5 l1 (fun z => ?_) (fun _ => b_X2_addFactor_17 l1 l1 (by rw [l4.kd]; rfl) (fun _ => ?_) (fun z => absurd ?_ z))⟩), fun y a0 a1 a2 a3 => ?_, fun k' k3 k4 => ?_, fun _ => ⟨?_, ?_, ?_, fun i hi => ?_⟩⟩
    · rw [ep, z_lit 20, nI_ltI (by decide) (by omega)] at z; omega
    · have wr : ∀ {f a}, Ar S b f a 100 150 → z_kd S (z_rv S b f) = 100 ∧ vp_in (nI ln) (z_ln S (z_rv S b f)) := fun q => q.wr hln (by decide)
      refine b_X2_addFactor_31 l1 l1 (by rw [h1]; exact wr l2) l1 l1 ?_ rfl l1 l1 ?_ l1 l1 rfl l1 l1 z_fit1 ⟨rfl, rfl, ?_, rfl⟩
      · rw [l2.1, z_u2_ne (by omega), h1]; exact wr l3
      · rw [l2.1, l3.1, z_u2_ne (by omega), z_u2_ne (by omega), h1]; exact wr l4
      · rw [l2.1, l3.1, l4.1, h1, nI_clamp (by omega)]
        have e1 : z_u2 I0 (b + 1) ln (nI (ltc k)) b 3 = nI ln := by rw [z_u2_ne (by omega), h1]
        rw [e1, nI_clamp (by omega)]
        have e2 : z_u2 (z_u2 I0 (b + 1) ln (nI (ltc k))) (b + 2) ln (nI w) b 3 = nI ln := by rw [z_u2_ne (by omega), e1]
        rw [e2, nI_clamp (by omega)]
        have e3 : z_u2 (z_u2 (z_u2 I0 (b + 1) ln (nI (ltc k))) (b + 2) ln (nI w)) (b + 3) ln (nI (fsz k w)) b 3 = nI ln := by rw [z_u2_ne (by omega), e2]
        rw [e3, nI_1]
        have e4 : z_u2 (z_u2 (z_u2 (z_u2 I0 (b + 1) ln (nI (ltc k))) (b + 2) ln (nI w)) (b + 3) ln (nI (fsz k w))) b 3 (nI (ln + 1)) b 4 = nI (nP F ln) := by rw [z_u2_nk (by decide), z_u2_ne (by omega), z_u2_ne (by omega), z_u2_ne (by omega), h2]
        rw [e4, pk_mul, E1]
    · rw [l4.ln, h1]; exact nI_lt hln (by decide)
    · rw [E1, z_u2_row a0, z_u2_row a0, z_u2_row a3, z_u2_row a2, z_u2_row a1]
    · rw [E1, z_u2_nk k4, z_u2_nk k3, z_u2_row (by omega), z_u2_row (by omega), z_u2_row (by omega)]
    · rw [E1, z_u2_nk (by decide), z_u2_same]
    · rw [E1, z_u2_same]
      show nI (nP F ln * fsz k w) = nI (nP (fup F ln (k, w)) ln * fsz (fup F ln (k, w) ln).1 (fup F ln (k, w) ln).2)
      have e1 : nP (fup F ln (k, w)) ln = nP F ln := nP_cg (fun j hj => if_neg (by omega))
      rw [e1, show fup F ln (k, w) ln = (k, w) from if_pos rfl]
    · rw [E1, z_u2_nk (by decide), z_u2_nk (by decide), z_u2_ne (by omega), z_u2_ne (by omega), z_u2_ne (by omega)]; exact h3
    · by_cases e : i = ln
      · rw [e, show fup F ln (k, w) ln = (k, w) from if_pos rfl, E1]
        refine ⟨?_, ?_, ?_⟩
        · rw [z_u2_ne (by omega), z_u2_ne (by omega), z_u2_ne (by omega), z_u2_ne (by omega), z_u2_same]
        · rw [z_u2_ne (by omega), z_u2_ne (by omega), z_u2_ne (by omega), z_u2_same]
        · rw [z_u2_ne (by omega), z_u2_ne (by omega), z_u2_same]
      · rw [show fup F ln (k, w) i = F i from if_neg e, E1]
        obtain ⟨q1, q2, q3⟩ := h4 i (by omega)
        refine ⟨?_, ?_, ?_⟩
        · rw [z_u2_ne (by omega), z_u2_ne (by omega), z_u2_ne (by omega), z_u2_ne (by omega), z_u2_nk e]; exact q1
        · rw [z_u2_ne (by omega), z_u2_ne (by omega), z_u2_ne (by omega), z_u2_nk e, z_u2_ne (by omega)]; exact q2
        · rw [z_u2_ne (by omega), z_u2_ne (by omega), z_u2_nk e, z_u2_ne (by omega), z_u2_ne (by omega)]; exact q3
  · rw [zb_f c]
    refine ⟨I0, e_X2_addFactor (b_X2_addFactor_0 ⟨_, _, _, _, c_sizeOf (by omega) hE hF, b_X2_addFactor_5 l1 (fun _ => b_X2_addFactor_29 z_fit0 ⟨rfl, rfl, rfl, rfl⟩) (fun z => absurd ?_ z)⟩), fun _ _ _ _ _ => rfl, fun _ _ _ => rfl, fun q => absurd q c⟩
    rw [ep, z_lit 20]; exact nI_lt (by omega) (by omega)
theorem c_factorProduct (hd : 2 < d) (hL : BL S b) (hE : EO S I) (h : BFs I b F ln) (hi : i < ln) (hln : ln < 150) (hF : FOk (F i).1 (F i).2) (hx : x < fsz (F i).1 (F i).2) (hy : y < fsz (F i).1 (F i).2) : z_ev d i_X2_factorProduct [.ref b, .int (nI i), .int (nI x), .int (nI y)] S I J (some (.int (nI (fpr (F i).1 (F i).2 x y)))) S I J := by
  obtain ⟨d, rfl⟩ := z_dep (d := d) (by omega)
  obtain ⟨l1, l2, l3, l4, l5, l6⟩ := hL
  obtain ⟨q1, q2, q3⟩ := h.2.2.2 i hi
  obtain ⟨k, hk⟩ : ∃ k, k = (F i).1 := ⟨_, rfl⟩
  obtain ⟨w, hw⟩ : ∃ w, w = (F i).2 := ⟨_, rfl⟩
  rw [← hk, ← hw] at hF hx hy ⊢
  rw [← hk] at q1
  rw [← hw] at q2
  have hF' := hF
  unfold FOk at hF'
  have w31 : w < 2 ^ 31 := by omega
  have hmax := j_max (d := d) (S := S) (I := I) (J := J) (a := 1) (b := w) (by omega) (by decide) w31
  refine e_X2_factorProduct (b_X2_factorProduct_0 l1 (l3.rd (by omega) (by decide)) ?_)
  rw [l3.1, nI_clamp (by omega), q2]
  refine ⟨_, _, _, _, hmax, b_X2_factorProduct_10 l1 (l2.rd (by omega) (by decide)) ?_⟩
  rw [l2.1, nI_clamp (by omega), q1]
  show Go d i_X2_factorProduct (if nI (ltc k) = 99 then 52 else if nI (ltc k) = 100 then 59 else if nI (ltc k) = 113 then 68 else 80) _ _ S I J _
  unfold fsz at hx hy
  unfold fpr ltc
  rcases hF' with ⟨h1, h2, h3⟩ | ⟨h1, h2, h3⟩ | ⟨h1, h2, h3⟩ | ⟨h1, h2⟩
  · rw [if_pos h1] at hx hy
    rw [if_pos h1, if_pos (by decide), if_pos h1, show max 1 w = w from Nat.max_eq_right h2]
    refine b_X2_factorProduct_52 (nI_ne0 (by omega) (by omega)) ⟨z_someI ?_, rfl, rfl, rfl⟩
    rw [nI_add, pk_rem (by omega) (by omega) (by omega)]
  · rw [if_neg (show ¬ k = 5 by omega), if_pos h1] at hx hy
    rw [if_neg (show ¬ k = 5 by omega), if_pos h1, if_neg (by decide), if_pos (by decide), if_neg (show ¬ k = 5 by omega), if_pos h1, show max 1 w = w from Nat.max_eq_right h2]
    exact b_X2_factorProduct_59 ⟨_, _, _, _, c_turned (mo := 0) (by omega) (by omega) (Or.inl rfl) (by omega) (by omega), b_X2_factorProduct_67 ⟨rfl, rfl, rfl, rfl⟩⟩
  · rw [if_neg (show ¬ k = 5 by omega), if_neg (show ¬ k = 6 by omega), if_pos h1] at hx hy
    rw [if_neg (show ¬ k = 5 by omega), if_neg (show ¬ k = 6 by omega), if_pos h1, if_neg (by decide), if_neg (by decide), if_pos (by decide), if_neg (show ¬ k = 5 by omega), if_neg (show ¬ k = 6 by omega), if_pos h1, show max 1 w = w from Nat.max_eq_right (by omega)]
    refine b_X2_factorProduct_68 ?_
    rw [show (2 : Int32) * nI w = nI (2 * w) by rw [z_lit 2, pk_mul]]
    exact ⟨_, _, _, _, c_turned (mo := w) (by omega) (by omega) (Or.inr (by omega)) (by omega) (by omega), b_X2_factorProduct_79 ⟨rfl, rfl, rfl, rfl⟩⟩
  · rw [if_neg (show ¬ k = 5 by omega), if_neg (show ¬ k = 6 by omega), if_neg (show ¬ k = 7 by omega)] at hx hy
    rw [if_neg (show ¬ k = 5 by omega), if_neg (show ¬ k = 6 by omega), if_neg (show ¬ k = 7 by omega), if_neg (by decide), if_neg (by decide), if_neg (by decide), if_neg (show ¬ k = 5 by omega), if_neg (show ¬ k = 6 by omega), if_neg (show ¬ k = 7 by omega)]
    obtain ⟨e1, e2, e3⟩ := hE
    have rd : ∀ z, z < 12 → z_isI (z_kd S (z_rv S 0 20)) = true ∧ vp_in (nI z) (z_ln S (z_rv S 0 20)) := fun z hz => ⟨by rw [e1]; rfl, by rw [e2]; exact vp_in_nI hz (by decide)⟩
    obtain ⟨p0, p1, p2, p3⟩ := evp_l x hx y hy
    have p0' := (evp_l y hy y hy).1
    refine b_X2_factorProduct_80 (rd x hx) (rd y hy) ?_
    rw [nI_clamp (by omega), nI_clamp (by omega), e3 x hx, e3 y hy]
    refine ⟨_, _, _, _, c_firstThen (D := 4) (by omega) (by decide) (by decide) p0 p0', b_X2_factorProduct_94 (by rw [e1]; rfl) ?_⟩
    rw [e2]
    have hv : pck (fun p => evi y (evi x p)) 4 < 2 ^ 31 := by rw [← p2]; have := pck_e4 _ p1; omega
    have ix := c_indexOf (d := d) (S := S) (I := I) (J := J) (h := z_rv S 0 20) (N := 12) (v := nI (pck (fun p => evi y (evi x p)) 4)) (f := fun z => nI (pck (evi z) 4)) (by omega) (by rw [e1]; rfl) (by rw [e2]; exact Nat.le_refl _) (by rw [e2]; decide) e3
    have ez : zleast (fun z => z < 12 ∧ nI (pck (evi z) 4) = nI (pck (fun p => evi y (evi x p)) 4)) = evp x y := zleast_eq ⟨p1, by rw [p2]⟩ (fun j hj q => p3 j hj (by
      have := pck_e4 j (by omega)
      exact (nI_eq (by omega) hv).mp q.2))
    rw [zq_t ⟨evp x y, p1, by rw [p2]⟩, ez] at ix
    have hm2 := j_max (d := d) (S := S) (I := I) (J := J) (a := 0) (b := evp x y) (by omega) (by decide) (by omega)
    rw [Nat.max_eq_right (Nat.zero_le _)] at hm2
    exact ⟨_, _, _, _, ix, b_X2_factorProduct_109 ⟨_, _, _, _, hm2, b_X2_factorProduct_112 ⟨rfl, rfl, rfl, rfl⟩⟩⟩
end CB

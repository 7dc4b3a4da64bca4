/-! THE CLASS: colours spread out; do two colourings fit -/
section C16
variable {d c c' p g n n' st : Nat} {t t' : Nat → Nat → Nat} {iv iv' : Nat → Nat} {h h' : Nat → Int32} {ld cl ld' cl' : Nat → Nat} {S : zS} {I I0 I1 : zI} {J : zJ}
theorem SOb.fr {b : Nat} (hS : SOb S I0 c n b h ld cl) (hF : ∀ a, c ≤ a → a ≤ c + 4 → I a = I0 a) : SOb S I c n b h ld cl := by
  obtain ⟨s1, s2, s3, s4, s5, s6⟩ := hS
  refine ⟨by rw [hF c (by omega) (by omega)]; exact s1, fun z hz => by rw [hF _ (by omega) (by omega)]; exact s2 z hz, by rw [hF c (by omega) (by omega)]; exact s3, fun k hk => ?_, s5, fun z hz => by rw [hF _ (by omega) (by omega)]; exact s6 z hz⟩
  rw [hF (c + 3) (by omega) (by omega), hF (c + 4) (by omega) (by omega)]
  exact s4 k hk
theorem SPo.fr (hS : SPo S I0 c n t iv cl) (hF : ∀ a, c + 5 ≤ a → a ≤ c + 6 → I a = I0 a) : SPo S I c n t iv cl := ⟨fun x z hx hz => by rw [hF _ (by omega) (by omega)]; exact hS.1 x z hx hz, fun k x hk hx => by rw [hF _ (by omega) (by omega)]; exact hS.2 k x hk hx⟩
theorem c_spreadOut (hd : 1 < d) (hK : KL S c) (hG : KG S I0 c g n t iv) (hS : SOb S I0 c n n h ld cl) : ∃ I', z_ev d i_X0_spreadOut [.ref c, .ref g] S I0 J none S I' J ∧ KF I0 I' c ∧ SOb S I' c n n h ld cl ∧ SPo S I' c n t iv cl := by
  obtain ⟨d, rfl⟩ := z_dep (d := d) (by omega)
  obtain ⟨hk, a2, a3, a4, a5, a6, a7, a8⟩ := hK
  have hg := hG.2.2.1
  have hn := hg.le
  have hC := ncs_le n h
  have cll : ∀ z, z < n → cl z < 20 := fun z hz => by have := (hS.2.2.2.2.2 z hz).2.1; omega
  suffices hw : z_wp (d + 1) i_X0_spreadOut [.ref c, .ref g] S I0 J (fun v S' I' J' => v = none ∧ S' = S ∧ J' = J ∧ (∀ a, a ≠ c + 5 → a ≠ c + 6 → I' a = I0 a) ∧ SPo S I' c n t iv cl) by
    obtain ⟨v, S', I', J', x1, rfl, rfl, rfl, x2, x3⟩ := hw
    exact ⟨I', x1, fun a ha => by unfold Oc at ha; exact x2 a (by omega) (by omega), hS.fr (fun a h1 h2 => x2 a (by omega) (by omega)), x3⟩
  refine w_X0_spreadOut (b_X0_spreadOut_0 ?_)
  suffices H : ∀ i, i ≤ 400 → ∀ I x2 v3 v4, (∀ a, a ≠ c + 5 → a ≠ c + 6 → I a = I0 a) → (∀ j, j < i → I (c + 6) j = 0) → x2 = nI i → Go d i_X0_spreadOut 2 [.ref c, .ref g, .int x2, v3, v4] [] S I J (fun v S' I' J' => v = none ∧ S' = S ∧ J' = J ∧ (∀ a, a ≠ c + 5 → a ≠ c + 6 → I' a = I0 a) ∧ SPo S I' c n t iv cl) from H 0 (by omega) I0 _ _ _ (fun _ _ _ => rfl) (fun j hj => by omega) rfl
  have isA : z_isA (z_kd S (z_rv S c 7)) = true := by rw [a7.kd]; rfl
  refine z_up_to 400 ?_ ?_
  · rintro I x2 v3 v4 hF hz rfl
    refine b_X0_spreadOut_2 hk isA (fun _ => b_X0_spreadOut_24 ?_) (fun q => absurd (by rw [a7.ln]; exact nI_le (Nat.le_refl _) (by decide)) q)
    -- what is laid so far
    obtain ⟨P, hP⟩ : ∃ P : zI → Nat → Nat → Prop, P = fun I x z => (∀ a, a ≠ c + 5 → a ≠ c + 6 → I a = I0 a) ∧ (∀ x' z', x' < n → z' < n → (x' < x ∨ (x' = x ∧ z' < z)) → I (c + 5) (x' * 20 + z') = nI (cl (t (iv x') z'))) ∧ ∀ k x', k < 20 → x' < n → I (c + 6) (k * 20 + x') = nI (zset n (fun z' => (x' < x ∨ (x' = x ∧ z' < z)) ∧ cl (t (iv x') z') = k)) := ⟨_, rfl⟩
    suffices H2 : ∀ x, x ≤ n → ∀ I x2 v3 v4, P I x 0 → x2 = nI x → Go d i_X0_spreadOut 26 [.ref c, .ref g, .int x2, v3, v4] [] S I J (fun v S' I' J' => v = none ∧ S' = S ∧ J' = J ∧ (∀ a, a ≠ c + 5 → a ≠ c + 6 → I' a = I0 a) ∧ SPo S I' c n t iv cl) by
      refine H2 0 (by omega) I _ _ _ ?_ rfl
      rw [hP]
      refine ⟨hF, fun x' z' _ _ q => by omega, fun k x' hk hx' => ?_⟩
      rw [hz _ (by omega), zset_none (fun i _ q => by omega)]; rfl
    have c0 : ∀ I x z, P I x z → I c 0 = nI n := fun I x z q => by
      rw [hP] at q
      rw [q.1 c (by omega) (by omega)]; exact hS.1
    refine z_up_to n ?_ ?_
    · rintro I x2 v3 v4 hPI rfl
      have e0 := c0 I n 0 hPI
      rw [hP] at hPI
      refine b_X0_spreadOut_26 hk (fun _ => b_X0_spreadOut_105 ⟨rfl, rfl, rfl, hPI.1, fun x z hx hz => hPI.2.1 x z hx hz (Or.inl hx), fun k x hk hx => ?_⟩) (fun q => absurd (by rw [e0]; exact nI_le (Nat.le_refl _) (by omega)) q)
      rw [hPI.2.2 k x hk hx]
      exact congrArg nI (zset_congr (fun i _ => ⟨fun q => q.2, fun q => ⟨Or.inl hx, q⟩⟩))
    · rintro x hx ih I x2 v3 v4 hPI rfl
      refine b_X0_spreadOut_26 hk (fun q => absurd q (by rw [c0 I x 0 hPI]; exact nI_ge hx (by omega))) (fun _ => b_X0_spreadOut_34 ?_)
      suffices H3 : ∀ z, z ≤ n → ∀ I x3 v4, P I x z → x3 = nI z → Go d i_X0_spreadOut 36 [.ref c, .ref g, .int (nI x), .int x3, v4] [] S I J (fun v S' I' J' => v = none ∧ S' = S ∧ J' = J ∧ (∀ a, a ≠ c + 5 → a ≠ c + 6 → I' a = I0 a) ∧ SPo S I' c n t iv cl) from H3 0 (by omega) I _ _ hPI rfl
      refine z_up_to n ?_ ?_
      · rintro I x3 v4 hPI rfl
        refine b_X0_spreadOut_36 hk (fun _ => b_X0_spreadOut_99 (ih I _ _ _ ?_ (nI_1 x))) (fun q => absurd (by rw [c0 I x n hPI]; exact nI_le (Nat.le_refl _) (by omega)) q)
        rw [hP] at hPI ⊢
        refine ⟨hPI.1, fun x' z' h1 h2 q => hPI.2.1 x' z' h1 h2 (by omega), fun k x' hk hx' => ?_⟩
        rw [hPI.2.2 k x' hk hx']
        exact congrArg nI (zset_congr (fun i hi => ⟨fun q => ⟨by omega, q.2⟩, fun q => ⟨by omega, q.2⟩⟩))
      · rintro z hz ih2 I x3 v4 hPI rfl
        have e0 := c0 I x z hPI
        have hPI' := hPI
        rw [hP] at hPI'
        obtain ⟨p1, p2, p3⟩ := hPI'
        have hG' : KG S I c g n t iv := hG.fr (fun a ha => by unfold Oc at ha; exact p1 a (by omega) (by omega))
        obtain ⟨i1, i2⟩ := hG'.2.1.at hx (by omega)
        have htz := hg.lt (hg.il hx) hz
        have hcl := cll _ htz
        refine b_X0_spreadOut_36 hk (fun q => absurd q (by rw [e0]; exact nI_ge hz (by omega))) (fun _ => ?_)
        refine b_X0_spreadOut_44 hk hG.1.1 i1 hG.1.1 ⟨_, _, _, _, by rw [i2]; exact c_times (by omega) hG'.1 (hg.il hx) hz, ?_⟩
        have ek : I (z_rv S c 3) (nI (t (iv x) z)).toNatClampNeg = nI (cl (t (iv x) z)) := by
          rw [a3.1, nI_clamp (by omega), p1 _ (by omega) (by omega)]; exact (hS.2.2.2.2.2 _ htz).1
        have e5 : nI x * 20 + nI z = nI (x * 20 + z) := by rw [z_lit 20, pk_mul, nI_add]
        have e6 : nI (cl (t (iv x) z)) * 20 + nI x = nI (cl (t (iv x) z) * 20 + x) := by rw [z_lit 20, pk_mul, nI_add]
        obtain ⟨k, hkk⟩ : ∃ k, k = cl (t (iv x) z) := ⟨_, rfl⟩
        rw [← hkk] at ek e6 hcl
        have ev : z_u2 I (z_rv S c 6) (Int32.toNatClampNeg (nI x * 20 + nI z)) (I (z_rv S c 3) (nI (t (iv x) z)).toNatClampNeg) (z_rv S c 7) (Int32.toNatClampNeg (I (z_rv S c 3) (nI (t (iv x) z)).toNatClampNeg * 20 + nI x)) = nI (zset n (fun z' => (x < x ∨ (x = x ∧ z' < z)) ∧ cl (t (iv x) z') = k)) := by
          rw [ek, e6, a6.1, a7.1, z_u2_row (by omega), nI_clamp (by omega)]; exact p3 k x hcl hx
        refine b_X0_spreadOut_59 (a3.rd (by omega) (by decide)) hk (by rw [e5]; exact a6.wr (by omega) (by decide)) hk (by rw [ek, e6]; exact a7.rd (by omega) (by decide)) rfl (by rw [ek, e6]; exact a7.wr (by omega) (by decide)) rfl (ih2 _ _ _ ?_ (nI_1 z))
        rw [ev, ek, e5, e6, a6.1, a7.1, nI_clamp (by omega), nI_clamp (by omega), z_shl1 (by omega), z_or, hP]
        refine ⟨fun a h1 h2 => by rw [z_u2_row h2, z_u2_row h1]; exact p1 a h1 h2, fun x' z' h1 h2 q => ?_, fun k' x' hk' hx' => ?_⟩
        · rw [z_u2_row (by omega)]
          by_cases e : x' = x ∧ z' = z
          · rw [e.1, e.2, z_u2_same, hkk]
          · rw [z_u2_nk (by omega)]; exact p2 x' z' h1 h2 (by omega)
        · by_cases e : k' = k ∧ x' = x
          · rw [e.1, e.2, z_u2_same]
            refine congrArg nI (zset_add (p := fun z' => (x < x ∨ (x = x ∧ z' < z)) ∧ cl (t (iv x) z') = k) (q := fun z' => (x < x ∨ (x = x ∧ z' < z + 1)) ∧ cl (t (iv x) z') = k) hz (fun i _ => ⟨fun q => ?_, fun q => ?_⟩)).symm
            · by_cases ei : i = z
              · exact Or.inr ei
              · exact Or.inl ⟨by omega, q.2⟩
            · rcases q with q | q
              · exact ⟨by omega, q.2⟩
              · exact ⟨by omega, by rw [q]; exact hkk.symm⟩
          · rw [z_u2_nk (by omega), z_u2_row (by omega), p3 k' x' hk' hx']
            refine congrArg nI (zset_congr (fun i _ => ⟨fun q => ⟨by omega, q.2⟩, fun q => ⟨?_, q.2⟩⟩))
            have q1 := q.1
            have q2 := q.2
            by_cases ex : x' = x
            · by_cases ei : i = z
              · rw [ex, ei, ← hkk] at q2
                exact absurd ⟨q2.symm, ex⟩ e
              · omega
            · omega
  · rintro i hi ih I x2 v3 v4 hF hz rfl
    refine b_X0_spreadOut_2 hk isA (fun q => absurd q (by rw [a7.ln]; exact nI_ge hi (by decide))) (fun _ => ?_)
    refine b_X0_spreadOut_11 hk (a7.wr (by omega) (by decide)) (ih _ _ _ _ (fun a h1 h2 => by rw [a7.1, z_u2_row h2]; exact hF a h1 h2) (fun j hj => ?_) (nI_1 i))
    rw [a7.1, nI_clamp (by omega)]
    by_cases e : j = i
    · rw [e, z_u2_same]
    · rw [z_u2_nk e]; exact hz j (by omega)
/-! the matcher's cells -/
def ML (S : zS) (p : Nat) : Prop := z_kd S p = 8 ∧ Ar S p 4 (p + 1) 100 20 ∧ Ar S p 5 (p + 2) 100 420 ∧ Ar S p 6 (p + 3) 100 20
theorem c_nfits (hd : 1 < d) (hM : ML S p) (hK : KL S c) (hK' : KL S c') (hS : SOb S I0 c n n h ld cl) (hS' : SOb S I0 c' n' n' h' ld' cl') (hn : n ≤ 20) (hn' : n' ≤ 20) (o1 : c + 7 < p ∨ p + 3 < c) (o2 : c' + 7 < p ∨ p + 3 < c') : ∃ (r : Bool) (I' : zI), z_ev d i_X7_fits [.ref p, .ref c, .ref c'] S I0 J (some (.int (nI r.toNat))) S I' J ∧ (∀ a, a ≠ p + 1 → I' a = I0 a) ∧ (r = true → n = n' ∧ ∃ pt : Nat → Nat, ∀ k, k < ncs n h → I' (p + 1) k = nI (pt k) ∧ pt k < ncs n' h' ∧ h' (ld' (pt k)) = h (ld k)) ∧ (r = false → n = n' → ∀ φ : Nat → Nat, (∀ x, x < n → φ x < n) → (∀ x y, x < n → y < n → φ x = φ y → x = y) → (∀ z, z < n → h z = h' (φ z)) → False) := by
  obtain ⟨d, rfl⟩ := z_dep (d := d) (by omega)
  have hC := ncs_le n h
  have hC' := ncs_le n' h'
  have s3 := hS.2.2.1
  have s3' := hS'.2.2.1
  suffices hw : z_wp (d + 1) i_X7_fits [.ref p, .ref c, .ref c'] S I0 J (fun v S' I' J' => ∃ r : Bool, v = some (.int (nI r.toNat)) ∧ S' = S ∧ J' = J ∧ (∀ a, a ≠ p + 1 → I' a = I0 a) ∧ (r = true → n = n' ∧ ∃ pt : Nat → Nat, ∀ k, k < ncs n h → I' (p + 1) k = nI (pt k) ∧ pt k < ncs n' h' ∧ h' (ld' (pt k)) = h (ld k)) ∧ (r = false → n = n' → ∀ φ : Nat → Nat, (∀ x, x < n → φ x < n) → (∀ x y, x < n → y < n → φ x = φ y → x = y) → (∀ z, z < n → h z = h' (φ z)) → False)) by
    obtain ⟨v, S', I', J', x1, r, rfl, rfl, rfl, x2⟩ := hw
    exact ⟨r, I', x1, x2⟩
  refine w_X7_fits (b_X7_fits_0 hK.1 hK'.1 (fun q => b_X7_fits_22 z_fit0 ⟨false, rfl, rfl, rfl, fun _ _ => rfl, fun w => (by cases w), fun _ e => ?_⟩) (fun q => ?_))
  · rw [hS.1, hS'.1] at q
    exact absurd (congrArg nI e) q
  rw [hS.1, hS'.1, nI_eq (by omega) (by omega)] at q
  subst q
  -- what a map would do
  have vals : ∀ φ : Nat → Nat, (∀ x, x < n → φ x < n) → (∀ x y, x < n → y < n → φ x = φ y → x = y) → (∀ z, z < n → h z = h' (φ z)) → ncs n h = ncs n h' ∧ ∀ k, k < ncs n h → ∃ j, j < ncs n h' ∧ h' (ld' j) = h (ld k) ∧ zcn (fun z => h' z = h' (ld' j)) n = zcn (fun z => h z = h (ld k)) n := by
    intro φ f1 f2 f3
    refine ⟨(ncs_crd h n).uq ((ncs_crd h' n).cg (fun v => ⟨?_, ?_⟩)), fun k hk => ?_⟩
    · rintro ⟨z, z1, z2⟩
      obtain ⟨u, u1, u2⟩ := z_surj f1 f2 z1
      exact ⟨u, u1, by rw [f3 u u1, u2]; exact z2⟩
    · rintro ⟨z, z1, z2⟩
      exact ⟨φ z, f1 z z1, by rw [← f3 z z1]; exact z2⟩
    · have hl := (hS.2.2.2.1 k hk).1.2
      obtain ⟨_, w2, w3⟩ := hS'.2.2.2.2.2 (φ (ld k)) (f1 _ hl)
      have w4 : h' (ld' (cl' (φ (ld k)))) = h (ld k) := by rw [w3, ← f3 _ hl]
      refine ⟨cl' (φ (ld k)), w2, w4, ?_⟩
      rw [w4]
      exact zcn_bij (f := φ) f1 f2 (fun i hi => by rw [← f3 i hi])
  refine b_X7_fits_11 hK.1 hK'.1 (fun q => b_X7_fits_24 ?_) (fun q => b_X7_fits_22 z_fit0 ⟨false, rfl, rfl, rfl, fun _ _ => rfl, fun w => (by cases w), fun _ _ φ f1 f2 f3 => ?_⟩)
  · suffices H : ∀ k, k ≤ ncs n h → ∀ I (pt : Nat → Nat) x3 v4 v5, (∀ a, a ≠ p + 1 → I a = I0 a) → (∀ j, j < k → I (p + 1) j = nI (pt j) ∧ pt j < ncs n h' ∧ h' (ld' (pt j)) = h (ld j)) → x3 = nI k → Go d i_X7_fits 26 [.ref p, .ref c, .ref c', .int x3, v4, v5] [] S I J (fun v S' I' J' => ∃ r : Bool, v = some (.int (nI r.toNat)) ∧ S' = S ∧ J' = J ∧ (∀ a, a ≠ p + 1 → I' a = I0 a) ∧ (r = true → n = n ∧ ∃ pt : Nat → Nat, ∀ k, k < ncs n h → I' (p + 1) k = nI (pt k) ∧ pt k < ncs n h' ∧ h' (ld' (pt k)) = h (ld k)) ∧ (r = false → n = n → ∀ φ : Nat → Nat, (∀ x, x < n → φ x < n) → (∀ x y, x < n → y < n → φ x = φ y → x = y) → (∀ z, z < n → h z = h' (φ z)) → False)) from H 0 (by omega) I0 (fun _ => 0) _ _ _ (fun _ _ => rfl) (fun j hj => by omega) rfl
    refine z_up_to (ncs n h) ?_ ?_
    · rintro I pt x3 v4 v5 hF hp rfl
      refine b_X7_fits_26 hK.1 (fun _ => b_X7_fits_96 z_fit1 ⟨true, rfl, rfl, rfl, hF, fun _ => ⟨rfl, pt, hp⟩, fun w => (by cases w)⟩) (fun w => absurd (by rw [hF c (by omega), s3]; exact nI_le (Nat.le_refl _) (by omega)) w)
    · rintro k hk ih I pt x3 v4 v5 hF hp rfl
      have hSI : SOb S I c n n h ld cl := hS.fr (fun a h1 h2 => hF a (by omega))
      have hSI' : SOb S I c' n n h' ld' cl' := hS'.fr (fun a h1 h2 => hF a (by omega))
      obtain ⟨⟨w1, w2⟩, w3⟩ := hSI.2.2.2.1 k hk
      have a4 := hK.2.2.2.1
      have a2 := hK.2.1
      have a5 := hK.2.2.2.2.1
      have a5' := hK'.2.2.2.2.1
      have e1 : I (z_rv S c 4) (nI k).toNatClampNeg = nI (ld k) := by rw [a4.1, nI_clamp (by omega)]; exact w1
      have e2 : I (z_rv S c 2) (Int32.toNatClampNeg (I (z_rv S c 4) (nI k).toNatClampNeg)) = h (ld k) := by rw [e1, a2.1, nI_clamp (by omega)]; exact hSI.2.1 _ w2
      obtain ⟨j, j1, j2⟩ := c_classOfHue (d := d) (J := J) (v := h (ld k)) (by omega) hK' hSI' (Nat.le_refl _) hn
      refine b_X7_fits_26 hK.1 (fun w => absurd w (by rw [hSI.2.2.1]; exact nI_ge hk (by omega))) (fun _ => ?_)
      refine b_X7_fits_34 hK.1 hK.1 (a4.rd (by omega) (by decide)) (by rw [e1]; exact a2.rd (by omega) (by decide)) hK'.1 ⟨_, _, _, _, by rw [e2]; exact j1, ?_⟩
      rcases j2 with ⟨j2, j3⟩ | ⟨j2, j3⟩
      · refine b_X7_fits_53 hK'.1 (fun w => absurd w (by rw [hSI'.2.2.1]; exact nI_ge j2 (by omega))) (fun _ => ?_)
        have m1 : I (z_rv S c' 5) (nI j).toNatClampNeg = nI (zcn (fun z => h' z = h' (ld' j)) n) := by rw [a5'.1, nI_clamp (by omega)]; exact (hSI'.2.2.2.1 j j2).2
        have m2 : I (z_rv S c 5) (nI k).toNatClampNeg = nI (zcn (fun z => h z = h (ld k)) n) := by rw [a5.1, nI_clamp (by omega)]; exact w3
        have z1 := zcn_le (fun z => h' z = h' (ld' j)) n
        have z2 := zcn_le (fun z => h z = h (ld k)) n
        refine b_X7_fits_64 hK'.1 (a5'.rd (by omega) (by decide)) hK.1 (a5.rd (by omega) (by decide)) (fun w => b_X7_fits_82 hM.1 (hM.2.1.wr (by omega) (by decide)) (ih _ (zput pt k j) _ _ _ (fun a ha => by rw [hM.2.1.1, z_u2_row ha]; exact hF a ha) (fun i hi => ?_) (nI_1 k))) (fun w => b_X7_fits_80 z_fit0 ⟨false, rfl, rfl, rfl, hF, fun w => (by cases w), fun _ _ φ f1 f2 f3 => ?_⟩)
        · rw [hM.2.1.1, nI_clamp (by omega)]
          by_cases e : i = k
          · rw [e, z_u2_same, zput_s]; exact ⟨rfl, j2, j3⟩
          · rw [z_u2_nk e, zput_n e]; exact hp i (by omega)
        · rw [m1, m2] at w
          obtain ⟨_, v2⟩ := vals φ f1 f2 f3
          obtain ⟨j', v3, v4, v5⟩ := v2 k hk
          have : j' = j := hSI'.2.2.2.2.1 j' j v3 j2 (by rw [v4, j3])
          rw [this] at v5
          exact w (congrArg nI v5)
      · refine b_X7_fits_53 hK'.1 (fun w => b_X7_fits_80 z_fit0 ⟨false, rfl, rfl, rfl, hF, fun w => (by cases w), fun _ _ φ f1 f2 f3 => ?_⟩) (fun w => absurd (by rw [hSI'.2.2.1, j2]; exact nI_le (Nat.le_refl _) (by omega)) w)
        obtain ⟨_, v2⟩ := vals φ f1 f2 f3
        obtain ⟨j', v3, v4, _⟩ := v2 k hk
        exact j3 j' v3 v4
  · rw [s3, s3'] at q
    exact q (congrArg nI (vals φ f1 f2 f3).1)
end C16

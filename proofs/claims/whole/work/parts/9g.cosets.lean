/-! COSETS: the class counts them -/
section Q2
variable {d n a g u v : Nat} {t : Nat → Nat → Nat} {iv : Nat → Nat} {S : zS} {I I0 I1 : zI} {J : zJ}
theorem q_in (hg : Grp n t iv) (hN : NS n t iv a) {x z : Nat} (hx : x < n) (hz : z < n) (hi : isl t iv a x) : (∃ b, b < n ∧ a.testBit b = true ∧ t x b = z) ↔ lde t iv a z = x := by
  have e : lde t iv a z = x ↔ rl t iv a x z := by
    rw [← lde_eq hg hN hx hz, lde_isl hg hN hx hi]
    exact ⟨fun q => q.symm, fun q => q.symm⟩
  rw [e]
  constructor
  · rintro ⟨b, b1, b2, b3⟩
    unfold rl
    rw [← b3, ← hg.as (hg.il hx) hx b1, hg.li hx, hg.l0 b1]; exact b2
  · intro h
    exact ⟨t (iv x) z, hg.lt (hg.il hx) hz, h, by rw [← hg.as hx (hg.il hx) hz, hg.ri hx, hg.l0 hz]⟩
theorem q_nx (hg : Grp n t iv) (hN : NS n t iv a) {x y : Nat} (hy : y < n) (h : ¬ isl t iv a x) : lde t iv a y < x + 1 ↔ lde t iv a y < x := by
  have : lde t iv a y ≠ x := fun e => h (by rw [← e]; exact (lde_spec hg hN hy).2.2)
  omega
theorem q_isl (hg : Grp n t iv) (hN : NS n t iv a) {x : Nat} (hx : x < n) : isl t iv a x ↔ ¬ lde t iv a x < x := by
  constructor
  · intro h q
    rw [lde_isl hg hN hx h] at q; omega
  · intro h
    obtain ⟨_, h2, h3⟩ := lde_spec hg hN hx
    rw [show lde t iv a x = x by omega] at h3; exact h3
theorem csn_at (hg : Grp n t iv) (hN : NS n t iv a) {x z : Nat} (h : lde t iv a z = x) : csn t iv a z = zcn (isl t iv a) x := by unfold csn; rw [h]
theorem c_numberCosets (hd : 1 < d) (hT : CT S I0 g n t) (hg : Grp n t iv) (hN : NS n t iv a) (hu : z_kd S u = 100 ∧ z_ln S u = 20) (hv : z_kd S v = 100 ∧ z_ln S v = 20) (huv : u ≠ v) (o1 : g ≠ u ∧ g ≠ v) (o2 : z_rv S g 1 ≠ u ∧ z_rv S g 1 ≠ v) : ∃ I', z_ev d i_X1_numberCosets [.ref g, .int (nI a), .ref u, .ref v] S I0 J (some (.int (nI (qn n t iv a)))) S I' J ∧ (∀ h, h ≠ u → h ≠ v → I' h = I0 h) ∧ (∀ y, y < n → I' u y = nI (csn t iv a y)) ∧ ∀ i, i < qn n t iv a → I' v i = nI (lea t iv a i) := by
  obtain ⟨d, rfl⟩ := z_dep (d := d) (by omega)
  have hn := hg.le
  have ha := hN.1.lt
  have h20 : 2 ^ n ≤ 2 ^ 20 := Nat.pow_le_pow_right (by decide) hn
  have gk := hT.1
  obtain ⟨P, hP⟩ : ∃ P, P = isl t iv a := ⟨_, rfl⟩
  obtain ⟨Q, hQ⟩ : ∃ Q : zQ, Q = fun w S' I' J' => w = some (.int (nI (zcn P n))) ∧ S' = S ∧ J' = J ∧ (∀ h, h ≠ u → h ≠ v → I' h = I0 h) ∧ (∀ y, y < n → I' u y = nI (csn t iv a y)) ∧ ∀ i, i < zcn P n → I' v i = nI (lea t iv a i) := ⟨_, rfl⟩
  suffices hw : z_wp (d + 1) i_X1_numberCosets [.ref g, .int (nI a), .ref u, .ref v] S I0 J Q by
    rw [hQ, hP] at hw
    obtain ⟨w, S', I', J', x1, rfl, rfl, rfl, x2⟩ := hw
    exact ⟨I', x1, x2⟩
  have fT : ∀ {I : zI}, (∀ h, h ≠ u → h ≠ v → I h = I0 h) → CT S I g n t := fun hI => hT.fr (by rw [hI g o1.1 o1.2]) (hI _ o2.1 o2.2)
  refine w_X1_numberCosets (b_X1_numberCosets_0 ?_)
  suffices H : ∀ x, x ≤ n → ∀ I e x4 x5 x6 v7 v8, (∀ h, h ≠ u → h ≠ v → I h = I0 h) → e < 2 ^ n → (∀ y, y < n → (e.testBit y = true ↔ lde t iv a y < x)) → (∀ y, y < n → lde t iv a y < x → I u y = nI (csn t iv a y)) → (∀ i, i < zcn P x → I v i = nI (lea t iv a i)) → x4 = nI e → x5 = nI (zcn P x) → x6 = nI x → Go d i_X1_numberCosets 9 [.ref g, .int (nI a), .ref u, .ref v, .int x4, .int x5, .int x6, v7, v8] [] S I J Q from H 0 (by omega) I0 0 _ _ _ _ _ (fun _ _ _ => rfl) (Nat.two_pow_pos n) (fun y hy => ⟨fun q => (by rw [Nat.zero_testBit] at q; cases q), fun q => (by omega)⟩) (fun y _ q => by omega) (fun i hi => absurd hi (Nat.not_lt_zero _)) rfl rfl rfl
  refine z_up_to n ?_ ?_
  · rintro I e x4 x5 x6 v7 v8 hI he hs hc hl rfl rfl rfl
    refine b_X1_numberCosets_9 gk (fun _ => b_X1_numberCosets_93 ?_) (fun z => absurd (by rw [(fT hI).2.1]; exact nI_le (Nat.le_refl _) (by omega)) z)
    rw [hQ]
    refine ⟨rfl, rfl, rfl, hI, fun y hy => hc y hy ?_, hl⟩
    have := (lde_spec hg hN hy).2.1
    omega
  · rintro x hx ih I e x4 x5 x6 v7 v8 hI he hs hc hl rfl rfl rfl
    have hcx : zcn P x ≤ x := zcn_le _ _
    refine b_X1_numberCosets_9 gk (fun z => absurd z (by rw [(fT hI).2.1]; exact nI_ge hx (by omega))) (fun _ => ?_)
    cases hb : e.testBit x with
    | true =>
      have hni : ¬ P x := fun q => by
        rw [hP, q_isl hg hN hx] at q
        exact q ((hs x hx).mp hb)
      have hni' : ¬ isl t iv a x := by rw [← hP]; exact hni
      refine b_X1_numberCosets_18 (fun _ => b_X1_numberCosets_87 (ih I e _ _ _ _ _ hI he (fun y hy => by rw [q_nx hg hN hy hni']; exact hs y hy) (fun y hy q => hc y hy ((q_nx hg hN hy hni').mp q)) (by rw [zcn_f hni]; exact hl) rfl (by rw [zcn_f hni]) (nI_1 x))) (fun z => absurd ?_ (by rw [hb]; decide : ¬ e.testBit x = false))
      exact (z_bit0 (by omega) (by omega)).mp z
    | false =>
      have hyi : P x := by
        rw [hP, q_isl hg hN hx]
        intro q
        rw [(hs x hx).mpr q] at hb; cases hb
      have hyi' : isl t iv a x := by rw [← hP]; exact hyi
      obtain ⟨w, hw⟩ : ∃ w, w = zim (fun i => a.testBit i) (t x) n := ⟨_, rfl⟩
      have wb : ∀ z, z < n → (w.testBit z = true ↔ lde t iv a z = x) := fun z hz => by rw [hw, zim_bit]; exact q_in hg hN hx hz hyi'
      have wl : w < 2 ^ n := Nat.lt_pow_two_of_testBit _ (fun b hb => by
        cases q : w.testBit b with
        | false => rfl
        | true =>
          rw [hw, zim_bit] at q
          obtain ⟨i, h1, _, h3⟩ := q
          have := hg.lt hx h1; omega)
      refine b_X1_numberCosets_18 (fun z => absurd ((z_bit0 (by omega) (by omega)).mpr hb) z) (fun _ => b_X1_numberCosets_28 gk ⟨_, _, _, _, c_shifted (by omega) (fT hI) hx ha, ?_⟩)
      rw [← hw]
      refine b_X1_numberCosets_35 ⟨hv.1, by rw [hv.2]; exact vp_in_nI (by omega) (by decide)⟩ ?_
      rw [nI_clamp (by omega), z_or]
      suffices H : ∀ k, k ≤ n → ∀ I x8, (∀ h, h ≠ u → h ≠ v → I h = I0 h) → (∀ y, y < n → (lde t iv a y < x ∨ (y < k ∧ lde t iv a y = x)) → I u y = nI (csn t iv a y)) → (∀ i, i < zcn P x + 1 → I v i = nI (lea t iv a i)) → x8 = nI k → Go d i_X1_numberCosets 53 [.ref g, .int (nI a), .ref u, .ref v, .int (nI (e ||| w)), .int (nI (zcn P x)), .int (nI x), .int (nI w), .int x8] [] S I J Q by
        refine H 0 (by omega) _ _ (fun h g1 g2 => by rw [z_u2_row g2]; exact hI h g1 g2) (fun y hy q => ?_) (fun i hi => ?_) rfl
        · rw [z_u2_row huv]
          rcases q with q | q
          · exact hc y hy q
          · omega
        · by_cases ei : i = zcn P x
          · rw [ei, z_u2_same]
            have := lea_at hyi'
            rw [← hP] at this
            rw [this]
          · rw [z_u2_nk ei]; exact hl i (by omega)
      refine z_up_to n ?_ ?_
      · rintro I x8 hI hc hl rfl
        refine b_X1_numberCosets_53 gk (fun _ => b_X1_numberCosets_84 (ih I (e ||| w) _ _ _ _ _ hI (z_or_lt he wl) (fun y hy => ?_) (fun y hy q => hc y hy ?_) (by rw [zcn_t hyi]; exact hl) rfl (by rw [zcn_t hyi]; exact nI_1 _) (nI_1 x))) (fun z => absurd (by rw [(fT hI).2.1]; exact nI_le (Nat.le_refl _) (by omega)) z)
        · rw [Nat.testBit_or, Bool.or_eq_true, hs y hy, wb y hy]; omega
        · omega
      · rintro k hk ih2 I x8 hI hc hl rfl
        refine b_X1_numberCosets_53 gk (fun z => absurd z (by rw [(fT hI).2.1]; exact nI_ge hk (by omega))) (fun _ => ?_)
        cases hb2 : w.testBit k with
        | false =>
          refine b_X1_numberCosets_62 (fun _ => b_X1_numberCosets_78 (ih2 I _ hI (fun y hy q => hc y hy ?_) hl (nI_1 k))) (fun z => absurd ((z_bit0 (by omega) (by omega)).mpr hb2) z)
          rcases q with q | ⟨q1, q2⟩
          · exact Or.inl q
          · by_cases ey : y = k
            · rw [ey, ← wb k hk, hb2] at q2; cases q2
            · exact Or.inr ⟨by omega, q2⟩
        | true =>
          have hl2 := (wb k hk).mp hb2
          refine b_X1_numberCosets_62 (fun z => ?_) (fun _ => b_X1_numberCosets_72 ⟨hu.1, by rw [hu.2]; exact vp_in_nI (by omega) (by decide)⟩ ?_)
          · rw [z_bit0 (by omega) (by omega), hb2] at z; cases z
          · rw [nI_clamp (by omega)]
            refine ih2 _ _ (fun h g1 g2 => by rw [z_u2_row g1]; exact hI h g1 g2) (fun y hy q => ?_) (fun i hi => by rw [z_u2_row huv.symm]; exact hl i hi) (nI_1 k)
            by_cases ey : y = k
            · rw [ey, z_u2_same, csn_at hg hN hl2, hP]
            · rw [z_u2_nk ey]
              refine hc y hy ?_
              rcases q with q | ⟨q1, q2⟩
              · exact Or.inl q
              · exact Or.inr ⟨by omega, q2⟩
end Q2

/-! THE CLASS: OtherFinder, its walks -/
section C21
variable {d a q A g n m : Nat} {c : Nat → Nat} {t : Nat → Nat → Nat} {iv : Nat → Nat} {S : zS} {I I0 : zI} {J : zJ}
theorem GO.f {I : zI} (h : GO S I0 a g n t iv) (hF : ∀ x, x < a + 57 ∨ a + 69 < x → I x = I0 x) : GO S I a g n t iv := h.fr (by rw [hF g (by have := h.2.2.2.2.2.2.1; unfold Dyn at this; omega)]) (fun x hx _ => hF x (by unfold Dyn at hx; omega))
theorem c_shortWalks (hd : 1 < d) (hq : q = a + 57) (hO : OL S q) (hC : CH I0 q A c m) (hG : GO S I0 a g n t iv) (hc : ∀ i, i < m → c i < n) : ∃ I', z_ev d i_X9_shortWalks [.ref q, .ref g] S I0 J (some (.long (prf n t iv A))) S I' J ∧ (∀ x, x ≠ q + 2 → I' x = I0 x) ∧ ∀ y, y < n → I' (q + 2) y = wk n t iv A 1 y := by
  obtain ⟨d, rfl⟩ := z_dep (d := d) (by omega)
  have hg := hG.2.2.2.2.2.1
  have hn := hg.le
  have gk := hG.1.1
  have a0 := hO.2.1
  have a2 := hO.2.2.1
  have hm4 := hC.2.1
  have hA : A < 2 ^ n := row_lt hC.2.2.1 hc
  have h20 : 2 ^ n ≤ 2 ^ 20 := Nat.pow_le_pow_right (by decide) hn
  obtain ⟨Q, hQ⟩ : ∃ Q : zQ, Q = fun v S' I' J' => v = some (.long (prf n t iv A)) ∧ S' = S ∧ J' = J ∧ (∀ x, x ≠ q + 2 → I' x = I0 x) ∧ ∀ y, y < n → I' (q + 2) y = wk n t iv A 1 y := ⟨_, rfl⟩
  suffices hw : z_wp (d + 1) i_X9_shortWalks [.ref q, .ref g] S I0 J Q by
    rw [hQ] at hw
    obtain ⟨v, S', I', J', x1, rfl, rfl, rfl, x2⟩ := hw
    exact ⟨I', x1, x2⟩
  have fG : ∀ {I : zI}, (∀ x, x ≠ q + 2 → I x = I0 x) → GO S I a g n t iv := fun hI => hG.f (fun x hx => hI x (by omega))
  have fn : ∀ {I : zI}, (∀ x, x ≠ q + 2 → I x = I0 x) → I g 0 = nI n := fun hI => (fG hI).1.2.1
  have fm : ∀ {I : zI}, (∀ x, x ≠ q + 2 → I x = I0 x) → I q 1 = nI m := fun hI => by rw [hI q (by omega)]; exact hC.1
  have fc : ∀ {I : zI}, (∀ x, x ≠ q + 2 → I x = I0 x) → ∀ i, i < m → I (q + 1) i = nI (c i) := fun hI i hi => by rw [hI (q + 1) (by omega)]; exact (hC.2.2.2 i hi).2
  -- the sum
  have tail : ∀ I1, (∀ x, x ≠ q + 2 → I1 x = I0 x) → (∀ y, y < n → I1 (q + 2) y = wk n t iv A 1 y) → ∀ v4 v5 v6, Go d i_X9_shortWalks 88 [.ref q, .ref g, .int (nI A), .int (nI m), v4, v5, v6] [] S I1 J Q := by
    intro I1 hI hw v4 v5 v6
    obtain ⟨f, hf⟩ : ∃ f : Nat → Int64, f = fun y => if y = 0 then Int32.toInt64 (wk n t iv A 1 0) else pv (wk n t iv A 1 y) (A.testBit y) := ⟨_, rfl⟩
    refine b_X9_shortWalks_88 hO.1 (a2.rd (i := 0) (by omega) (by decide)) ?_
    suffices H : ∀ k, k ≤ n → 1 ≤ k → ∀ j3 v4 x5 v6, j3 = jsm f k → x5 = nI k → Go d i_X9_shortWalks 99 [.ref q, .ref g, .int (nI A), .long j3, v4, .int x5, v6] [] S I1 J Q by
      refine H 1 hg.pos (Nat.le_refl _) _ _ _ _ ?_ rfl
      rw [a2.1, show (Int32.toNatClampNeg 0) = 0 from rfl, hw 0 hg.pos]
      show _ = (0 : Int64) + f 0
      rw [Int64.zero_add, hf]; rfl
    refine z_up_to n ?_ ?_
    · rintro _ j3 v4 x5 v6 rfl rfl
      refine b_X9_shortWalks_99 gk (fun _ => b_X9_shortWalks_152 ?_) (fun z => absurd (by rw [fn hI]; exact nI_le (Nat.le_refl _) (by omega)) z)
      rw [hQ]
      exact ⟨by rw [hf]; rfl, rfl, rfl, hI, hw⟩
    · rintro k hk ih hk1 j3 v4 x5 v6 rfl rfl
      refine b_X9_shortWalks_99 gk (fun z => absurd z (by rw [fn hI]; exact nI_ge hk (by omega))) (fun _ => ?_)
      have ew : I1 (z_rv S q 2) (nI k).toNatClampNeg = wk n t iv A 1 k := by rw [a2.1, nI_clamp (by omega)]; exact hw k hk
      have ef : f k = pv (wk n t iv A 1 k) (A.testBit k) := by rw [hf]; exact if_neg (by omega)
      refine b_X9_shortWalks_108 hO.1 (a2.rd (by omega) (by decide)) (fun z => b_X9_shortWalks_146 (ih (by omega) _ _ _ _ ?_ (nI_1 k))) (fun z => b_X9_shortWalks_118 hO.1 (a2.rd (by omega) (by decide)) (ih (by omega) _ _ _ _ ?_ (nI_1 k)))
      · rw [ew] at z
        show _ = jsm f k + f k
        rw [ef, pv, if_pos z, Int64.add_zero]
      · rw [ew] at z ⊢
        rw [z_bit (by omega) (by omega)]
        show _ = jsm f k + f k
        rw [ef, pv, if_neg z]
  -- the walks
  have main : ∀ i, i ≤ m → ∀ I x3 v4 v5 v6, (∀ x, x ≠ q + 2 → I x = I0 x) → (∀ y, y < n → I (q + 2) y = zsm (fun i => zsm (fun j => if t (c i) (c j) = y then 1 else 0) m) i) → x3 = nI i → Go d i_X9_shortWalks 30 [.ref q, .ref g, .int (nI A), .int x3, v4, v5, v6] [] S I J Q := by
    refine z_up_to m ?_ ?_
    · rintro I x3 v4 v5 v6 hI hw rfl
      refine b_X9_shortWalks_30 hO.1 (fun _ => ?_) (fun z => absurd (by rw [fm hI]; exact nI_le (Nat.le_refl _) (by omega)) z)
      exact tail I hI (fun y hy => by rw [hw y hy]; exact wk_2 hg hC.2.2.1 hc hy) _ _ _
    · rintro i hi ih I x3 v4 v5 v6 hI hw rfl
      refine b_X9_shortWalks_30 hO.1 (fun z => absurd z (by rw [fm hI]; exact nI_ge hi (by omega))) (fun _ => b_X9_shortWalks_38 ?_)
      suffices H : ∀ j, j ≤ m → ∀ I x4, (∀ x, x ≠ q + 2 → I x = I0 x) → (∀ y, y < n → I (q + 2) y = zsm (fun i => zsm (fun j => if t (c i) (c j) = y then 1 else 0) m) i + zsm (fun j => if t (c i) (c j) = y then 1 else 0) j) → x4 = nI j → Go d i_X9_shortWalks 41 [.ref q, .ref g, .int (nI A), .int (nI i), .int x4, v5, v6] [] S I J Q from H 0 (by omega) I _ hI (fun y hy => by rw [hw y hy]; exact (Int32.add_zero _).symm) rfl
      refine z_up_to m ?_ ?_
      · rintro I x4 hI hw rfl
        refine b_X9_shortWalks_41 hO.1 (fun _ => b_X9_shortWalks_82 (ih I _ _ _ _ hI hw (nI_1 i))) (fun z => absurd (by rw [fm hI]; exact nI_le (Nat.le_refl _) (by omega)) z)
      · rintro j hj ih2 I x4 hI hw rfl
        refine b_X9_shortWalks_41 hO.1 (fun z => absurd z (by rw [fm hI]; exact nI_ge hj (by omega))) (fun _ => ?_)
        have hci := hc i hi
        have hcj := hc j hj
        have hlt := hg.lt hci hcj
        refine b_X9_shortWalks_50 hO.1 hO.1 (a0.rd (by omega) (by decide)) hO.1 (a0.rd (by omega) (by decide)) gk ?_
        rw [a0.1, nI_clamp (by omega), nI_clamp (by omega), fc hI i hi, fc hI j hj]
        refine ⟨_, _, _, _, c_times (by omega) (fG hI).1 hci hcj, ?_⟩
        refine b_X9_shortWalks_71 (a2.rd (by omega) (by decide)) (a2.wr (by omega) (by decide)) ?_
        rw [a2.1, nI_clamp (by omega)]
        refine ih2 _ _ (fun x hx => by rw [z_u2_row hx]; exact hI x hx) (fun y hy => ?_) (nI_1 j)
        show _ = _ + (zsm (fun j => if t (c i) (c j) = y then 1 else 0) j + if t (c i) (c j) = y then 1 else 0)
        rw [← Int32.add_assoc, ← hw y hy]
        by_cases e : t (c i) (c j) = y
        · rw [if_pos e, e, z_u2_same]
        · rw [if_neg e, z_u2_nk (fun z => e z.symm), Int32.add_zero]
  refine w_X9_shortWalks (b_X9_shortWalks_0 hO.1 ⟨_, _, _, _, c_chosenSet (by omega) hO hC, b_X9_shortWalks_4 ?_⟩)
  suffices H : ∀ k, k ≤ n → ∀ I x3 v4 v5 v6, (∀ x, x ≠ q + 2 → I x = I0 x) → (∀ y, y < k → I (q + 2) y = 0) → x3 = nI k → Go d i_X9_shortWalks 7 [.ref q, .ref g, .int (nI A), .int x3, v4, v5, v6] [] S I J Q from H 0 (by omega) I0 _ _ _ _ (fun _ _ => rfl) (fun y hy => by omega) rfl
  refine z_up_to n ?_ ?_
  · rintro I x3 v4 v5 v6 hI hw rfl
    refine b_X9_shortWalks_7 gk (fun _ => b_X9_shortWalks_28 (main 0 (by omega) I _ _ _ _ hI hw rfl)) (fun z => absurd (by rw [fn hI]; exact nI_le (Nat.le_refl _) (by omega)) z)
  · rintro k hk ih I x3 v4 v5 v6 hI hw rfl
    refine b_X9_shortWalks_7 gk (fun z => absurd z (by rw [fn hI]; exact nI_ge hk (by omega))) (fun _ => b_X9_shortWalks_15 hO.1 (a2.wr (by omega) (by decide)) ?_)
    rw [a2.1, nI_clamp (by omega)]
    refine ih _ _ _ _ _ (fun x hx => by rw [z_u2_row hx]; exact hI x hx) (fun y hy => ?_) (nI_1 k)
    by_cases e : y = k
    · rw [e, z_u2_same]
    · rw [z_u2_nk e]; exact hw y (by omega)
theorem c_longWalks (hd : 1 < d) (hq : q = a + 57) (hO : OL S q) (hC : CH I0 q A c m) (hG : GO S I0 a g n t iv) (hc : ∀ i, i < m → c i < n) (hw0 : ∀ y, y < n → I0 (q + 2) y = wk n t iv A 1 y) : ∃ I', z_ev d i_X9_longWalks [.ref q, .ref g] S I0 J (some (.int (lws n t iv A m))) S I' J ∧ (∀ x, x < q + 2 ∨ q + 4 < x → I' x = I0 x) := by
  obtain ⟨d, rfl⟩ := z_dep (d := d) (by omega)
  have hg := hG.2.2.2.2.2.1
  have hn := hg.le
  have gk := hG.1.1
  have a0 := hO.2.1
  have a2 := hO.2.2.1
  have a3 := hO.2.2.2.1
  have a4 := hO.2.2.2.2.1
  have hm4 := hC.2.1
  obtain ⟨Q, hQ⟩ : ∃ Q : zQ, Q = fun v S' I' J' => v = some (.int (lws n t iv A m)) ∧ S' = S ∧ J' = J ∧ (∀ x, x < q + 2 ∨ q + 4 < x → I' x = I0 x) := ⟨_, rfl⟩
  suffices hw : z_wp (d + 1) i_X9_longWalks [.ref q, .ref g] S I0 J Q by
    rw [hQ] at hw
    obtain ⟨v, S', I', J', x1, rfl, rfl, rfl, x2⟩ := hw
    exact ⟨I', x1, x2⟩
  have fG : ∀ {I : zI}, (∀ x, x < q + 2 ∨ q + 4 < x → I x = I0 x) → GO S I a g n t iv := fun hI => hG.f (fun x hx => hI x (by omega))
  have fn : ∀ {I : zI}, (∀ x, x < q + 2 ∨ q + 4 < x → I x = I0 x) → I g 0 = nI n := fun hI => (fG hI).1.2.1
  have fm : ∀ {I : zI}, (∀ x, x < q + 2 ∨ q + 4 < x → I x = I0 x) → I q 1 = nI m := fun hI => by rw [hI q (by omega)]; exact hC.1
  have fc : ∀ {I : zI}, (∀ x, x < q + 2 ∨ q + 4 < x → I x = I0 x) → ∀ i, i < m → I (q + 1) i = nI (c i) := fun hI i hi => by rw [hI (q + 1) (by omega)]; exact (hC.2.2.2 i hi).2
  have fw : ∀ {I : zI} {h k : Nat} {v : Int32}, (∀ x, x < q + 2 ∨ q + 4 < x → I x = I0 x) → q + 2 ≤ h ∧ h ≤ q + 4 → ∀ x, x < q + 2 ∨ q + 4 < x → z_u2 I h k v x = I0 x := fun hI hh x hx => by rw [z_u2_row (by omega)]; exact hI x hx
  -- the sum
  have tail : ∀ I, (∀ x, x < q + 2 ∨ q + 4 < x → I x = I0 x) → (∀ y, y < n → I (q + 4) y = wtr n t iv A 4 y) → ∀ x2 v3 v4, Go d i_X9_longWalks 175 [.ref q, .ref g, .int x2, v3, v4] [] S I J Q := by
    intro I hI hw x2 v3 v4
    refine b_X9_longWalks_175 hO.1 (a4.rd (i := 0) (by omega) (by decide)) hO.1 ⟨_, _, _, _, c_mix (by omega), b_X9_longWalks_188 ?_⟩
    rw [a4.1, show (Int32.toNatClampNeg 0) = 0 from rfl, hw 0 hg.pos, fm hI]
    suffices H : ∀ k, k ≤ n → ∀ x2 x3, x2 = mixf (wtr n t iv A 4 0) (nI m) + zsm (fun y => mixf (wtr n t iv A 4 y) 0) k → x3 = nI k → Go d i_X9_longWalks 191 [.ref q, .ref g, .int x2, .int x3, v4] [] S I J Q from H 0 (by omega) _ _ (Int32.add_zero _).symm rfl
    refine z_up_to n ?_ ?_
    · rintro x2 x3 rfl rfl
      refine b_X9_longWalks_191 gk (fun _ => b_X9_longWalks_218 ?_) (fun z => absurd (by rw [fn hI]; exact nI_le (Nat.le_refl _) (by omega)) z)
      rw [hQ]
      exact ⟨rfl, rfl, rfl, hI⟩
    · rintro k hk ih x2 x3 rfl rfl
      refine b_X9_longWalks_191 gk (fun z => absurd z (by rw [fn hI]; exact nI_ge hk (by omega))) (fun _ => b_X9_longWalks_199 hO.1 (a4.rd (by omega) (by decide)) ⟨_, _, _, _, c_mix (by omega), b_X9_longWalks_210 (ih _ _ ?_ (nI_1 k))⟩)
      rw [a4.1, nI_clamp (by omega), hw k hk, Int32.add_assoc]
      rfl
  -- one length more
  have main : ∀ K, K ≤ 4 → ∀ I x2 v3 v4, (∀ x, x < q + 2 ∨ q + 4 < x → I x = I0 x) → (∀ y, y < n → I (q + 2) y = wk n t iv A (K + 1) y) → (∀ y, y < n → I (q + 4) y = wtr n t iv A K y) → x2 = nI (K + 3) → Go d i_X9_longWalks 30 [.ref q, .ref g, .int x2, v3, v4] [] S I J Q := by
    refine z_up_to 4 ?_ ?_
    · rintro I x2 v3 v4 hI h2 h4 rfl
      exact b_X9_longWalks_30 (fun _ => tail I hI h4 _ _ _) (fun z => absurd (by decide) z)
    · rintro K hK ihK I x2 v3 v4 hI h2 h4 rfl
      have e6 : ∀ K, K < 4 → ¬ (6 : Int32) < nI (K + 3) := by decide
      refine b_X9_longWalks_30 (fun z => absurd z (e6 K hK)) (fun _ => b_X9_longWalks_36 ?_)
      -- moved over
      have last : ∀ k, k ≤ n → ∀ I x3 v4, (∀ x, x < q + 2 ∨ q + 4 < x → I x = I0 x) → (∀ y, y < n → I (q + 3) y = wk n t iv A (K + 2) y) → (∀ y, y < k → I (q + 2) y = wk n t iv A (K + 2) y) → (∀ y, y < n → I (q + 4) y = if y < k then wtr n t iv A (K + 1) y else wtr n t iv A K y) → x3 = nI k → Go d i_X9_longWalks 122 [.ref q, .ref g, .int (nI (K + 3)), .int x3, v4] [] S I J Q := by
        refine z_up_to n ?_ ?_
        · rintro I x3 v4 hI h3 h2 h4 rfl
          refine b_X9_longWalks_122 gk (fun _ => b_X9_longWalks_169 (ihK I _ _ _ hI h2 (fun y hy => by rw [h4 y hy, if_pos hy]) (nI_1 _))) (fun z => absurd (by rw [fn hI]; exact nI_le (Nat.le_refl _) (by omega)) z)
        · rintro k hk ih I x3 v4 hI h3 h2 h4 rfl
          refine b_X9_longWalks_122 gk (fun z => absurd z (by rw [fn hI]; exact nI_ge hk (by omega))) (fun _ => ?_)
          refine b_X9_longWalks_130 hO.1 hO.1 (a3.rd (by omega) (by decide)) (a2.wr (by omega) (by decide)) hO.1 hO.1 (a4.rd (by omega) (by decide)) hO.1 (a3.rd (by omega) (by decide)) ⟨_, _, _, _, c_mix (by omega), b_X9_longWalks_162 (a4.wr (by omega) (by decide)) ?_⟩
          rw [a2.1, a3.1, a4.1, nI_clamp (by omega), z_u2_ne (show q + 4 ≠ q + 2 by omega), z_u2_ne (show q + 3 ≠ q + 2 by omega), h3 k hk, h4 k hk, if_neg (by omega)]
          refine ih _ _ _ (fw (fw hI (by omega)) (by omega)) (fun y hy => by rw [z_u2_ne (by omega), z_u2_ne (by omega)]; exact h3 y hy) (fun y hy => ?_) (fun y hy => ?_) (nI_1 k)
          · rw [z_u2_ne (by omega)]
            by_cases e : y = k
            · rw [e, z_u2_same]
            · rw [z_u2_nk e]; exact h2 y (by omega)
          · by_cases e : y = k
            · rw [e, z_u2_same, if_pos (by omega)]; rfl
            · rw [z_u2_nk e, z_u2_ne (by omega), h4 y hy]
              by_cases e2 : y < k
              · rw [if_pos e2, if_pos (by omega)]
              · rw [if_neg e2, if_neg (by omega)]
      -- added up
      have add : ∀ i, i ≤ m → ∀ I x3 v4, (∀ x, x < q + 2 ∨ q + 4 < x → I x = I0 x) → (∀ y, y < n → I (q + 2) y = wk n t iv A (K + 1) y) → (∀ y, y < n → I (q + 4) y = wtr n t iv A K y) → (∀ y, y < n → I (q + 3) y = zsm (fun i => zsm (fun x => if t x (c i) = y then wk n t iv A (K + 1) x else 0) n) i) → x3 = nI i → Go d i_X9_longWalks 61 [.ref q, .ref g, .int (nI (K + 3)), .int x3, v4] [] S I J Q := by
        refine z_up_to m ?_ ?_
        · rintro I x3 v4 hI h2 h4 h3 rfl
          refine b_X9_longWalks_61 hO.1 (fun _ => b_X9_longWalks_120 (last 0 (by omega) I _ _ hI (fun y hy => by rw [h3 y hy]; exact nxw_row hg hC.2.2.1 hc hy) (fun y hy => by omega) (fun y hy => by rw [if_neg (by omega)]; exact h4 y hy) rfl)) (fun z => absurd (by rw [fm hI]; exact nI_le (Nat.le_refl _) (by omega)) z)
        · rintro i hi ih I x3 v4 hI h2 h4 h3 rfl
          refine b_X9_longWalks_61 hO.1 (fun z => absurd z (by rw [fm hI]; exact nI_ge hi (by omega))) (fun _ => b_X9_longWalks_69 ?_)
          have hci := hc i hi
          suffices H : ∀ k, k ≤ n → ∀ I x4, (∀ x, x < q + 2 ∨ q + 4 < x → I x = I0 x) → (∀ y, y < n → I (q + 2) y = wk n t iv A (K + 1) y) → (∀ y, y < n → I (q + 4) y = wtr n t iv A K y) → (∀ y, y < n → I (q + 3) y = zsm (fun i => zsm (fun x => if t x (c i) = y then wk n t iv A (K + 1) x else 0) n) i + zsm (fun x => if t x (c i) = y then wk n t iv A (K + 1) x else 0) k) → x4 = nI k → Go d i_X9_longWalks 72 [.ref q, .ref g, .int (nI (K + 3)), .int (nI i), .int x4] [] S I J Q from H 0 (by omega) I _ hI h2 h4 (fun y hy => by rw [h3 y hy]; exact (Int32.add_zero _).symm) rfl
          refine z_up_to n ?_ ?_
          · rintro I x4 hI h2 h4 h3 rfl
            refine b_X9_longWalks_72 gk (fun _ => b_X9_longWalks_114 (ih I _ _ hI h2 h4 h3 (nI_1 i))) (fun z => absurd (by rw [fn hI]; exact nI_le (Nat.le_refl _) (by omega)) z)
          · rintro k hk ih2 I x4 hI h2 h4 h3 rfl
            refine b_X9_longWalks_72 gk (fun z => absurd z (by rw [fn hI]; exact nI_ge hk (by omega))) (fun _ => ?_)
            have hlt := hg.lt hk hci
            refine b_X9_longWalks_81 hO.1 hO.1 (a0.rd (by omega) (by decide)) gk ?_
            rw [a0.1, nI_clamp (by omega), fc hI i hi]
            refine ⟨_, _, _, _, c_times (by omega) (fG hI).1 hk hci, ?_⟩
            refine b_X9_longWalks_97 (a3.rd (by omega) (by decide)) hO.1 (a2.rd (by omega) (by decide)) (a3.wr (by omega) (by decide)) ?_
            rw [a3.1, a2.1, nI_clamp (by omega), nI_clamp (by omega), h2 k hk]
            refine ih2 _ _ (fw hI (by omega)) (fun y hy => by rw [z_u2_ne (by omega)]; exact h2 y hy) (fun y hy => by rw [z_u2_ne (by omega)]; exact h4 y hy) (fun y hy => ?_) (nI_1 k)
            show _ = _ + (zsm (fun x => if t x (c i) = y then wk n t iv A (K + 1) x else 0) k + if t k (c i) = y then wk n t iv A (K + 1) k else 0)
            rw [← Int32.add_assoc, ← h3 y hy]
            by_cases e : t k (c i) = y
            · rw [if_pos e, e, z_u2_same]
            · rw [if_neg e, z_u2_nk (fun z => e z.symm), Int32.add_zero]
      suffices H : ∀ k, k ≤ n → ∀ I x3, (∀ x, x < q + 2 ∨ q + 4 < x → I x = I0 x) → (∀ y, y < n → I (q + 2) y = wk n t iv A (K + 1) y) → (∀ y, y < n → I (q + 4) y = wtr n t iv A K y) → (∀ y, y < k → I (q + 3) y = 0) → x3 = nI k → Go d i_X9_longWalks 38 [.ref q, .ref g, .int (nI (K + 3)), .int x3, v4] [] S I J Q from H 0 (by omega) I _ hI h2 h4 (fun y hy => by omega) rfl
      refine z_up_to n ?_ ?_
      · rintro I x3 hI h2 h4 h3 rfl
        refine b_X9_longWalks_38 gk (fun _ => b_X9_longWalks_59 (add 0 (by omega) I _ _ hI h2 h4 h3 rfl)) (fun z => absurd (by rw [fn hI]; exact nI_le (Nat.le_refl _) (by omega)) z)
      · rintro k hk ih I x3 hI h2 h4 h3 rfl
        refine b_X9_longWalks_38 gk (fun z => absurd z (by rw [fn hI]; exact nI_ge hk (by omega))) (fun _ => b_X9_longWalks_46 hO.1 (a3.wr (by omega) (by decide)) ?_)
        rw [a3.1, nI_clamp (by omega)]
        refine ih _ _ (fw hI (by omega)) (fun y hy => by rw [z_u2_ne (by omega)]; exact h2 y hy) (fun y hy => by rw [z_u2_ne (by omega)]; exact h4 y hy) (fun y hy => ?_) (nI_1 k)
        by_cases e : y = k
        · rw [e, z_u2_same]
        · rw [z_u2_nk e]; exact h3 y (by omega)
  refine w_X9_longWalks (b_X9_longWalks_0 ?_)
  suffices H : ∀ k, k ≤ n → ∀ I x2 v3 v4, (∀ x, x < q + 2 ∨ q + 4 < x → I x = I0 x) → (∀ y, y < n → I (q + 2) y = wk n t iv A 1 y) → (∀ y, y < k → I (q + 4) y = wk n t iv A 1 y) → x2 = nI k → Go d i_X9_longWalks 2 [.ref q, .ref g, .int x2, v3, v4] [] S I J Q from H 0 (by omega) I0 _ _ _ (fun _ _ => rfl) hw0 (fun y hy => by omega) rfl
  refine z_up_to n ?_ ?_
  · rintro I x2 v3 v4 hI h2 h4 rfl
    refine b_X9_longWalks_2 gk (fun _ => b_X9_longWalks_28 (main 0 (by omega) I _ _ _ hI h2 h4 rfl)) (fun z => absurd (by rw [fn hI]; exact nI_le (Nat.le_refl _) (by omega)) z)
  · rintro k hk ih I x2 v3 v4 hI h2 h4 rfl
    refine b_X9_longWalks_2 gk (fun z => absurd z (by rw [fn hI]; exact nI_ge hk (by omega))) (fun _ => b_X9_longWalks_10 hO.1 hO.1 (a2.rd (by omega) (by decide)) (a4.wr (by omega) (by decide)) ?_)
    rw [a4.1, a2.1, nI_clamp (by omega), h2 k hk]
    refine ih _ _ _ _ (fw hI (by omega)) (fun y hy => by rw [z_u2_ne (by omega)]; exact h2 y hy) (fun y hy => ?_) (nI_1 k)
    by_cases e : y = k
    · rw [e, z_u2_same]
    · rw [z_u2_nk e]; exact h4 y (by omega)
end C21

/-! THE MODEL: what follows if one more is led -/
/-- a row of images, -1 for none -/
def Rw (S : zS) (I : zI) (m b n : Nat) (D : Nat → Prop) (f : Nat → Nat) : Prop := ∀ g, g < n → (D g → I (z_rv S m 24) (b + g) = nI (f g) ∧ f g < n) ∧ (¬ D g → I (z_rv S m 24) (b + g) = -1)
/-- part of a map -/
def PH (n : Nat) (t t' : Nat → Nat → Nat) (D : Nat → Prop) (f : Nat → Nat) : Prop := (D 0 ∧ f 0 = 0) ∧ (∀ g, g < n → ∀ h, h < n → D g → D h → D (t g h) ∧ f (t g h) = t' (f g) (f h)) ∧ ∀ g, g < n → ∀ h, h < n → D g → D h → f g = f h → g = h
/-- a map goes on from a part -/
def Ex (n : Nat) (D : Nat → Prop) (f φ : Nat → Nat) : Prop := ∀ g, g < n → D g → φ g = f g
/-- the row from b on, alone -/
def FW (S : zS) (I0 I : zI) (m b : Nat) : Prop := (∀ h, h ≠ z_rv S m 24 → I h = I0 h) ∧ ∀ j, j < b → I (z_rv S m 24) j = I0 (z_rv S m 24) j
section M11
variable {d m sa sb n : Nat} {t t' : Nat → Nat → Nat} {iv iv' : Nat → Nat} {S : zS} {I I0 : zI} {J : zJ}
theorem FW.refl {b : Nat} : FW S I0 I0 m b := ⟨fun _ _ => rfl, fun _ _ => rfl⟩
theorem FW.w {b k : Nat} {v : Int32} (h : FW S I0 I m b) (hk : b ≤ k) : FW S I0 (z_u2 I (z_rv S m 24) k v) m b := ⟨fun a ha => by rw [z_u2_row ha]; exact h.1 a ha, fun j hj => by rw [z_u2_nk (by omega)]; exact h.2 j hj⟩
theorem FW.ms {b s : Nat} (h : FW S I0 I m b) (hL : MLay S m) (hM : MS S I0 m s n t) : MS S I m s n t := hM.fr (h.1 _ (by rw [hL.a0.1, hL.a24.1]; omega))
def flQ (S : zS) (I0 : zI) (J : zJ) (m b n : Nat) (t t' : Nat → Nat → Nat) (D : Nat → Prop) (f : Nat → Nat) (x y : Nat) : zQ := fun v S' I' J' => ∃ r : Bool, v = some (.int (nI r.toNat)) ∧ S' = S ∧ J' = J ∧ FW S I0 I' m b ∧ (r = true → ∃ D' f', Rw S I' m b n D' f' ∧ PH n t t' D' f' ∧ (∀ g, g < n → D g → D' g ∧ f' g = f g) ∧ D' x ∧ f' x = y ∧ ∀ φ, GM n t t' φ → Ex n D f φ → φ x = y → Ex n D' f' φ) ∧ (r = false → ∀ φ, GM n t t' φ → Ex n D f φ → φ x = y → False)
theorem m_follows {deep x y : Nat} {D : Nat → Prop} {f : Nat → Nat} (hd : 2 < d) (hL : MLay S m) (hA : MS S I0 m sa n t) (hB : MS S I0 m sb n t') (hg : Grp n t iv) (hg' : Grp n t' iv') (hdp : deep < 19) (hR : Rw S I0 m (20 * deep) n D f) (hP : PH n t t' D f) (hx : x < n) (hxD : ¬ D x) (hy : y < n) : z_wp d i_X12_follows [.ref m, .int (nI sa), .int (nI sb), .int (nI deep), .int (nI x), .int (nI y)] S I0 J (flQ S I0 J m (20 * deep + 20) n t t' D f x y) := by
  obtain ⟨d, rfl⟩ := z_dep (d := d) (by omega)
  have hk := hL.k
  have hn := hg.le
  obtain ⟨B, hBd⟩ : ∃ B, B = 20 * deep + 20 := ⟨_, rfl⟩
  have e6 : (20 : Int32) * nI deep = nI (20 * deep) := by rw [z_lit 20, pk_mul]
  have e7 : nI (20 * deep) + (20 : Int32) = nI B := by rw [z_lit 20, nI_add, hBd]
  rw [← hBd]
  refine w_X12_follows (b_X12_follows_0 ?_)
  rw [e6, e7]
  -- the row is copied
  suffices H : ∀ k, k ≤ 20 → ∀ I x8 v9 v10 v11 v12, FW S I0 I m B → (∀ g, g < k → I (z_rv S m 24) (B + g) = I0 (z_rv S m 24) (20 * deep + g)) → x8 = nI k → Go d i_X12_follows 16 [.ref m, .int (nI sa), .int (nI sb), .int (nI deep), .int (nI x), .int (nI y), .int (nI (20 * deep)), .int (nI B), .int x8, v9, v10, v11, v12] [] S I J (flQ S I0 J m B n t t' D f x y) from H 0 (by omega) I0 _ _ _ _ _ FW.refl (fun g hg => by omega) rfl
  refine z_up_to 20 ?_ ?_
  · rintro I x8 v9 v10 v11 v12 hF h1 rfl
    refine b_X12_follows_16 (fun _ => ?_) (fun c => absurd (nI_le (Nat.le_refl 20) (by decide)) c)
    refine b_X12_follows_49 hk (by rw [nI_add]; exact hL.a24.wr (by omega) (by decide)) ?_
    rw [nI_add, nI_clamp (by omega)]
    -- what is known while it grows
    obtain ⟨GI, hGI⟩ : ∃ GI : zI → (Nat → Prop) → (Nat → Nat) → Prop, GI = fun I D1 f1 => FW S I0 I m B ∧ Rw S I m B n D1 f1 ∧ (∀ g, g < n → D g → D1 g ∧ f1 g = f g) ∧ D1 x ∧ f1 x = y ∧ ∀ φ, GM n t t' φ → Ex n D f φ → φ x = y → Ex n D1 f1 φ := ⟨_, rfl⟩
    have hI1 : GI (z_u2 I (z_rv S m 24) (B + x) (nI y)) (fun g => D g ∨ g = x) (zput f x y) := by
      rw [hGI]
      refine ⟨hF.w (by omega), fun g hg => ⟨fun hD => ?_, fun hD => ?_⟩, fun g hg hD => ⟨Or.inl hD, zput_n (fun e => hxD (by rw [← e]; exact hD))⟩, Or.inr rfl, zput_s, fun φ _ h2 h3 g hg hD => ?_⟩
      · by_cases e : g = x
        · rw [e, z_u2_same, zput_s]; exact ⟨rfl, hy⟩
        · have hD' : D g := hD.resolve_right e
          rw [z_u2_nk (by omega), zput_n e, h1 g (by omega)]
          exact (hR g hg).1 hD'
      · rw [z_u2_nk (by intro e; exact hD (Or.inr (by omega))), h1 g (by omega)]
        exact (hR g hg).2 (fun q => hD (Or.inl q))
      · by_cases e : g = x
        · rw [e, zput_s]; exact h3
        · rw [zput_n e]; exact h2 g hg (hD.resolve_right e)
    -- the end: one to one
    have fin : ∀ I D1 f1, GI I D1 f1 → (∀ g, g < n → ∀ h, h < n → D1 g → D1 h → D1 (t g h) ∧ f1 (t g h) = t' (f1 g) (f1 h)) → ∀ x8 v9 v10 v11 v12, Go d i_X12_follows 231 [.ref m, .int (nI sa), .int (nI sb), .int (nI deep), .int (nI x), .int (nI y), .int (nI (20 * deep)), .int (nI B), .int x8, v9, v10, v11, v12] [] S I J (flQ S I0 J m B n t t' D f x y) := by
      intro I D1 f1 hG hcl x8 v9 v10 v11 v12
      rw [hGI] at hG
      obtain ⟨g1, g2, g3, g4, g5, g6⟩ := hG
      have hA' := g1.ms hL hA
      refine b_X12_follows_231 ?_
      suffices H : ∀ k, k ≤ n → (∀ g, g < k → ∀ h, h < k → D1 g → D1 h → f1 g = f1 h → g = h) → ∀ x9 x10, x9 = nI (zset n (fun j => ∃ g, g < k ∧ D1 g ∧ f1 g = j)) → x10 = nI k → Go d i_X12_follows 237 [.ref m, .int (nI sa), .int (nI sb), .int (nI deep), .int (nI x), .int (nI y), .int (nI (20 * deep)), .int (nI B), .int x8, .int x9, .int x10, v11, v12] [] S I J (flQ S I0 J m B n t t' D f x y) by
        refine H 0 (by omega) (fun g hg => by omega) _ _ ?_ rfl
        rw [zset_none (fun i _ ⟨g, q, _⟩ => by omega)]; rfl
      refine z_up_to n ?_ ?_
      · rintro hinj x9 x10 rfl rfl
        refine b_X12_follows_237 hk ⟨_, _, _, _, m_many (by omega) hA', ?_⟩
        refine b_X12_follows_244 (fun _ => b_X12_follows_307 z_fit1 ⟨true, rfl, rfl, rfl, g1, fun _ => ⟨D1, f1, g2, ⟨⟨?_, ?_⟩, hcl, hinj⟩, g3, g4, g5, g6⟩, fun q => (by cases q)⟩) (fun c => absurd (nI_le (Nat.le_refl _) (by omega)) c)
        · exact (g3 0 hg.pos hP.1.1).1
        · rw [(g3 0 hg.pos hP.1.1).2]; exact hP.1.2
      · rintro k hk' ih hinj x9 x10 rfl rfl
        refine b_X12_follows_237 hk ⟨_, _, _, _, m_many (by omega) hA', ?_⟩
        refine b_X12_follows_244 (fun c => absurd c (nI_ge hk' (by omega))) (fun _ => ?_)
        have er := hL.a24.rd (i := B + k) (by omega) (by decide)
        have ei : nI B + nI k = nI (B + k) := nI_add _ _
        refine b_X12_follows_247 hk (by rw [ei]; exact er) (fun c => ?_) (fun c => b_X12_follows_261 (ih (fun g hg h hh hD hD' e => ?_) _ _ ?_ (nI_1 k)))
        · rw [ei, nI_clamp (by omega)] at c
          have hDk : D1 k := by
            rcases Classical.em (D1 k) with q | q
            · exact q
            · exact absurd ((g2 k hk').2 q) c
          obtain ⟨w1, w2⟩ := (g2 k hk').1 hDk
          refine b_X12_follows_264 hk (by rw [ei]; exact er) ⟨_, _, _, _, by rw [ei, nI_clamp (by omega), w1]; exact m_has (by omega) (z_lt31 hn (zset_lt _ _)) (by omega), ?_⟩
          refine b_X12_follows_279 (fun c2 => b_X12_follows_284 hk (by rw [ei]; exact er) ?_) (fun c2 => b_X12_follows_282 z_fit0 ⟨false, rfl, rfl, rfl, g1, fun q => (by cases q), fun _ φ p1 p2 p3 => ?_⟩)
          · rw [z_tn0, ← Bool.not_eq_true, zset_bit] at c2
            rw [ei, nI_clamp (by omega), w1, z_shl1 (by omega), z_or]
            refine ih (fun g hg h hh hD hD' e => ?_) _ _ ?_ (nI_1 k)
            · by_cases eg : g = k
              · by_cases eh : h = k
                · omega
                · exact absurd ⟨w2, h, by omega, hD', by rw [← e, eg]⟩ c2
              · by_cases eh : h = k
                · exact absurd ⟨w2, g, by omega, hD, by rw [e, eh]⟩ c2
                · exact hinj g (by omega) h (by omega) hD hD' e
            · refine congrArg nI (zset_add (p := fun j => ∃ g, g < k ∧ D1 g ∧ f1 g = j) (q := fun j => ∃ g, g < k + 1 ∧ D1 g ∧ f1 g = j) w2 (fun j _ => ?_)).symm
              constructor
              · rintro ⟨g, q1, q2, q3⟩
                by_cases eg : g = k
                · rw [eg] at q3; exact Or.inr q3.symm
                · exact Or.inl ⟨g, by omega, q2, q3⟩
              · rintro (⟨g, q1, q2, q3⟩ | q)
                · exact ⟨g, by omega, q2, q3⟩
                · exact ⟨k, by omega, hDk, q.symm⟩
          · rw [z_tn1, zset_bit] at c2
            obtain ⟨_, g, q1, q2, q3⟩ := c2
            have hE := g6 φ p1 p2 p3
            have := p1.inj (x := g) (y := k) (by omega) hk' (by rw [hE g (by omega) q2, hE k hk' hDk, q3])
            omega
        · rw [ei, nI_clamp (by omega)] at c
          have hDk : ¬ D1 k := fun q => by
            obtain ⟨w1, w2⟩ := (g2 k hk').1 q
            rw [w1] at c
            exact nI_nm1 (by omega) c
          exact hinj g (by by_cases eg : g = k; (rw [eg] at hD; exact absurd hD hDk); omega) h (by by_cases eh : h = k; (rw [eh] at hD'; exact absurd hD' hDk); omega) hD hD' e
        · rw [ei, nI_clamp (by omega)] at c
          have hDk : ¬ D1 k := fun q => by
            obtain ⟨w1, w2⟩ := (g2 k hk').1 q
            rw [w1] at c
            exact nI_nm1 (by omega) c
          refine congrArg nI (zset_congr (fun j _ => ⟨fun ⟨g, q1, q2⟩ => ⟨g, by omega, q2⟩, fun ⟨g, q1, q2⟩ => ⟨g, ?_, q2⟩⟩))
          by_cases eg : g = k
          · rw [eg] at q2; exact absurd q2.1 hDk
          · omega
    -- rounds
    have round : ∀ c I D1 f1, n - zcn D1 n < c → GI I D1 f1 → ∀ v9 v10 v11 v12, Go d i_X12_follows 64 [.ref m, .int (nI sa), .int (nI sb), .int (nI deep), .int (nI x), .int (nI y), .int (nI (20 * deep)), .int (nI B), .int 1, v9, v10, v11, v12] [] S I J (flQ S I0 J m B n t t' D f x y) := by
      intro c
      induction c with
      | zero => intro I D1 f1 hc; omega
      | succ c ihc =>
        intro I Dp fp hc hG0 v9 v10 v11 v12
        refine b_X12_follows_64 (fun q => absurd q (by decide)) (fun _ => b_X12_follows_69 ?_)
        -- by the first
        suffices H : ∀ k, k ≤ n → ∀ I D1 f1 (mo : Bool), GI I D1 f1 → zcn Dp n ≤ zcn D1 n → (mo = true → zcn Dp n < zcn D1 n) → (mo = false → ∀ g, g < k → ∀ h, h < n → D1 g → D1 h → D1 (t g h) ∧ f1 (t g h) = t' (f1 g) (f1 h)) → ∀ x8 x9 v10 v11 v12, x8 = nI mo.toNat → x9 = nI k → Go d i_X12_follows 75 [.ref m, .int (nI sa), .int (nI sb), .int (nI deep), .int (nI x), .int (nI y), .int (nI (20 * deep)), .int (nI B), .int x8, .int x9, v10, v11, v12] [] S I J (flQ S I0 J m B n t t' D f x y) from H 0 (by omega) I Dp fp false hG0 (Nat.le_refl _) (fun q => (by cases q)) (fun _ g hg => by omega) _ _ _ _ _ rfl rfl
        refine z_up_to n ?_ ?_
        · rintro I D1 f1 mo hG h1 h2 h3 x8 x9 v10 v11 v12 rfl rfl
          have hF1 := hG
          rw [hGI] at hF1
          refine b_X12_follows_75 hk ⟨_, _, _, _, m_many (by omega) (hF1.1.ms hL hA), ?_⟩
          refine b_X12_follows_82 (fun _ => b_X12_follows_228 ?_) (fun c => absurd (nI_le (Nat.le_refl _) (by omega)) c)
          cases mo with
          | true =>
            have := h2 rfl
            have := zcn_le D1 n
            exact ihc I D1 f1 (by omega) hG _ _ _ _
          | false => exact b_X12_follows_64 (fun _ => fin I D1 f1 hG (h3 rfl) _ _ _ _ _) (fun q => absurd rfl q)
        · rintro k hk' ih I D1 f1 mo hG h1 h2 h3 x8 x9 v10 v11 v12 rfl rfl
          have hF1 := hG
          rw [hGI] at hF1
          refine b_X12_follows_75 hk ⟨_, _, _, _, m_many (by omega) (hF1.1.ms hL hA), ?_⟩
          refine b_X12_follows_82 (fun c => absurd c (nI_ge hk' (by omega))) (fun _ => ?_)
          have ei : ∀ j, nI B + nI j = nI (B + j) := fun j => nI_add _ _
          have er : ∀ j, j < n → z_isI (z_kd S (z_rv S m 24)) = true ∧ vp_in (nI B + nI j) (z_ln S (z_rv S m 24)) := fun j hj => by rw [ei]; exact hL.a24.rd (by omega) (by decide)
          have ew : ∀ j, j < n → z_kd S (z_rv S m 24) = 100 ∧ vp_in (nI B + nI j) (z_ln S (z_rv S m 24)) := fun j hj => by rw [ei]; exact hL.a24.wr (by omega) (by decide)
          have ec : ∀ j, j < n → Int32.toNatClampNeg (nI B + nI j) = B + j := fun j hj => by rw [ei, nI_clamp (by omega)]
          refine b_X12_follows_85 hk (er k hk') (fun c => b_X12_follows_102 ?_) (fun c => b_X12_follows_99 (ih I D1 f1 mo hG h1 h2 (fun q g hg h hh hD hD' => ?_) _ _ _ _ _ rfl (nI_1 k)))
          · rw [ec k hk'] at c
            have hDk : D1 k := by
              rcases Classical.em (D1 k) with q | q
              · exact q
              · exact absurd ((hF1.2.1 k hk').2 q) c
            -- by the second
            suffices H2 : ∀ l, l ≤ n → ∀ I D1 f1 (mo : Bool), GI I D1 f1 → D1 k → zcn Dp n ≤ zcn D1 n → (mo = true → zcn Dp n < zcn D1 n) → (mo = false → (∀ g, g < k → ∀ h, h < n → D1 g → D1 h → D1 (t g h) ∧ f1 (t g h) = t' (f1 g) (f1 h)) ∧ ∀ h, h < l → D1 h → D1 (t k h) ∧ f1 (t k h) = t' (f1 k) (f1 h)) → ∀ x8 x10 v11 v12, x8 = nI mo.toNat → x10 = nI l → Go d i_X12_follows 105 [.ref m, .int (nI sa), .int (nI sb), .int (nI deep), .int (nI x), .int (nI y), .int (nI (20 * deep)), .int (nI B), .int x8, .int (nI k), .int x10, v11, v12] [] S I J (flQ S I0 J m B n t t' D f x y) from H2 0 (by omega) I D1 f1 mo hG hDk h1 h2 (fun q => ⟨h3 q, fun h hh => by omega⟩) _ _ _ _ rfl rfl
            refine z_up_to n ?_ ?_
            · rintro I D1 f1 mo hG hDk h1 h2 h3 x8 x10 v11 v12 rfl rfl
              have hF1 := hG
              rw [hGI] at hF1
              refine b_X12_follows_105 hk ⟨_, _, _, _, m_many (by omega) (hF1.1.ms hL hA), ?_⟩
              refine b_X12_follows_112 (fun _ => b_X12_follows_222 (ih I D1 f1 mo hG h1 h2 (fun q g hg h hh hD hD' => ?_) _ _ _ _ _ rfl (nI_1 k))) (fun c => absurd (nI_le (Nat.le_refl _) (by omega)) c)
              by_cases eg : g = k
              · rw [eg]; exact (h3 q).2 h hh hD'
              · exact (h3 q).1 g (by omega) h hh hD hD'
            · rintro l hl ih2 I D1 f1 mo hG hDk h1 h2 h3 x8 x10 v11 v12 rfl rfl
              have hF1 := hG
              rw [hGI] at hF1
              obtain ⟨g1, g2, g3, g4, g5, g6⟩ := hF1
              refine b_X12_follows_105 hk ⟨_, _, _, _, m_many (by omega) (g1.ms hL hA), ?_⟩
              refine b_X12_follows_112 (fun c => absurd c (nI_ge hl (by omega))) (fun _ => ?_)
              refine b_X12_follows_115 hk (er l hl) (fun c => ?_) (fun c => b_X12_follows_129 (ih2 I D1 f1 mo hG hDk h1 h2 (fun q => ⟨(h3 q).1, fun h hh hD => ?_⟩) _ _ _ _ rfl (nI_1 l)))
              · rw [ec l hl] at c
                have hDl : D1 l := by
                  rcases Classical.em (D1 l) with q | q
                  · exact q
                  · exact absurd ((g2 l hl).2 q) c
                obtain ⟨u1, u2⟩ := (g2 k hk').1 hDk
                obtain ⟨u3, u4⟩ := (g2 l hl).1 hDl
                have hz := hg.lt hk' hl
                have hz' := hg'.lt u2 u4
                refine b_X12_follows_132 hk ⟨_, _, _, _, m_times (by omega) (g1.ms hL hA) hk' hl, ?_⟩
                refine b_X12_follows_141 hk (er k hk') hk (er l hl) hk ⟨_, _, _, _, by rw [ec k hk', ec l hl, u1, u3]; exact m_times (by omega) (g1.ms hL hB) u2 u4, ?_⟩
                refine b_X12_follows_168 hk (er _ hz) (fun c2 => ?_) (fun c2 => ?_)
                · rw [ec _ hz] at c2
                  have hDz : D1 (t k l) := by
                    rcases Classical.em (D1 (t k l)) with q | q
                    · exact q
                    · exact absurd ((g2 _ hz).2 q) c2
                  obtain ⟨u5, u6⟩ := (g2 _ hz).1 hDz
                  refine b_X12_follows_199 hk (er _ hz) (fun c3 => b_X12_follows_216 (ih2 I D1 f1 mo hG hDk h1 h2 (fun q => ⟨(h3 q).1, fun h hh hD => ?_⟩) _ _ _ _ rfl (nI_1 l))) (fun c3 => b_X12_follows_214 z_fit0 ⟨false, rfl, rfl, rfl, g1, fun q => (by cases q), fun _ φ p1 p2 p3 => c3 ?_⟩)
                  · rw [ec _ hz, u5, nI_eq (by omega) (by omega)] at c3
                    by_cases eh : h = l
                    · rw [eh]; exact ⟨hDz, c3⟩
                    · exact (h3 q).2 h (by omega) hD
                  · have hE := g6 φ p1 p2 p3
                    rw [ec _ hz, u5, ← hE _ hz hDz, p1.m hk' hl, hE k hk' hDk, hE l hl hDl]
                · rw [ec _ hz] at c2
                  have hDz : ¬ D1 (t k l) := fun q => by
                    rw [((g2 _ hz).1 q).1] at c2
                    exact nI_nm1 (by have := ((g2 _ hz).1 q).2; omega) c2
                  have hG' : GI (z_u2 I (z_rv S m 24) (Int32.toNatClampNeg (nI B + nI (t k l))) (nI (t' (f1 k) (f1 l)))) (fun g => D1 g ∨ g = t k l) (zput f1 (t k l) (t' (f1 k) (f1 l))) := by
                    rw [hGI, ec _ hz]
                    have nx : ∀ g, D1 g → g ≠ t k l := fun g hD e => hDz (by rw [← e]; exact hD)
                    refine ⟨g1.w (by omega), fun g hgn => ⟨fun hD => ?_, fun hD => ?_⟩, fun g hgn hD => ?_, Or.inl g4, by rw [zput_n (nx x g4)]; exact g5, fun φ p1 p2 p3 g hgn hD => ?_⟩
                    · by_cases e : g = t k l
                      · rw [e, z_u2_same, zput_s]; exact ⟨rfl, hz'⟩
                      · rw [z_u2_nk (by omega), zput_n e]; exact (g2 g hgn).1 (hD.resolve_right e)
                    · have e : g ≠ t k l := fun e => hD (Or.inr e)
                      rw [z_u2_nk (by omega)]; exact (g2 g hgn).2 (fun q => hD (Or.inl q))
                    · obtain ⟨w1, w2⟩ := g3 g hgn hD
                      exact ⟨Or.inl w1, by rw [zput_n (nx g w1)]; exact w2⟩
                    · have hE := g6 φ p1 p2 p3
                      by_cases e : g = t k l
                      · rw [e, zput_s, p1.m hk' hl, hE k hk' hDk, hE l hl hDl]
                      · rw [zput_n e]; exact hE g hgn (hD.resolve_right e)
                  have hgrow : zcn D1 n < zcn (fun g => D1 g ∨ g = t k l) n := by
                    rw [zcn_or n (fun z _ h1 h2 => hDz (by rw [← h2]; exact h1)), zcn_eq1 n hz]
                    omega
                  refine b_X12_follows_184 hk (ew _ hz) hk (er _ hz) (fun _ => b_X12_follows_216 (ih2 _ _ _ true hG' (Or.inl hDk) (by omega) (fun _ => by omega) (fun q => (by cases q)) _ _ _ _ rfl (nI_1 l))) (fun c3 => absurd z_u2_same c3)
              · rw [ec l hl] at c
                by_cases eh : h = l
                · rw [eh] at hD
                  obtain ⟨u1, u2⟩ := (g2 l hl).1 hD
                  rw [u1] at c
                  exact absurd c (nI_nm1 (by omega))
                · exact (h3 q).2 h (by omega) hD
          · rw [ec k hk'] at c
            by_cases eg : g = k
            · rw [eg] at hD
              obtain ⟨u1, u2⟩ := (hF1.2.1 k hk').1 hD
              rw [u1] at c
              exact absurd c (nI_nm1 (by omega))
            · exact h3 q g (by omega) h hh hD hD'
    exact round (n + 1) _ _ _ (by omega) hI1 _ _ _ _
  · rintro k hk' ih I x8 v9 v10 v11 v12 hF h1 rfl
    refine b_X12_follows_16 (fun c => absurd c (nI_ge hk' (by decide))) (fun _ => ?_)
    refine b_X12_follows_23 hk hk (by rw [nI_add]; exact hL.a24.rd (by omega) (by decide)) (by rw [nI_add]; exact hL.a24.wr (by omega) (by decide)) (ih _ _ _ _ _ _ (hF.w ?_) (fun g hg => ?_) (nI_1 k))
    · rw [nI_add, nI_clamp (by omega)]; omega
    · rw [nI_add, nI_add, nI_clamp (by omega), nI_clamp (by omega)]
      by_cases e : g = k
      · rw [e, z_u2_same, hF.2 _ (by omega)]
      · rw [z_u2_nk (by omega)]; exact h1 g (by omega)
end M11

/-! THE MODEL: products, subgroups, classes, periods -/
section M2
variable {d m s n : Nat} {t : Nat → Nat → Nat} {iv : Nat → Nat} {S : zS} {I : zI} {J : zJ}
theorem z_lt31 {a n : Nat} (hn : n ≤ 20) (ha : a < 2 ^ n) : a < 2 ^ 31 := Nat.lt_of_lt_of_le ha (Nat.pow_le_pow_right (by decide) (by omega))
/-- the test of a loop that counts up to n, and its end -/
theorem m_products {a b : Nat} (hd : 2 < d) (h : MS S I m s n t) (ha : a < 2 ^ n) (hb : b < 2 ^ n) : z_ev d i_X12_products [.ref m, .int (nI s), .int (nI a), .int (nI b)] S I J (some (.int (nI (prd n t a b)))) S I J := by
  obtain ⟨d, rfl⟩ := z_dep (d := d) (by omega)
  have hK := h.1.1
  have hT := h.2.2.1
  have hn := hT.2.1
  have ha31 := z_lt31 hn ha
  have hb31 := z_lt31 hn hb
  refine e_X12_products (b_X12_products_0 ?_)
  suffices H : ∀ k, k ≤ n → ∀ x4 x5 v6, x4 = nI (zset n (fun j => ∃ x y, x < n ∧ y < n ∧ a.testBit x = true ∧ b.testBit y = true ∧ t x y = j ∧ x < k)) → x5 = nI k → Go d i_X12_products 6 [.ref m, .int (nI s), .int (nI a), .int (nI b), .int x4, .int x5, v6] [] S I J (z_eq (some (.int (nI (prd n t a b)))) S I J) by
    refine H 0 (by omega) _ _ _ ?_ rfl
    rw [zset_none (fun i _ ⟨x, y, _, _, _, _, _, h⟩ => by omega)]
    rfl
  refine z_up_to n ?_ ?_
  · rintro x4 x5 v6 rfl rfl
    refine b_X12_products_6 hK ⟨_, _, _, _, m_many (by omega) h, ?_⟩
    refine b_X12_products_13 (fun _ => b_X12_products_82 ⟨?_, rfl, rfl, rfl⟩) (fun c => absurd (nI_le (Nat.le_refl _) (by omega)) c)
    unfold prd
    exact congrArg (fun k => some (Value.int (nI k))) (zset_congr (fun i _ => ⟨fun ⟨x, y, h1, h2, h3, h4, h5, _⟩ => ⟨x, y, h1, h2, h3, h4, h5⟩, fun ⟨x, y, h1, h2, h3, h4, h5⟩ => ⟨x, y, h1, h2, h3, h4, h5, h1⟩⟩))
  · rintro k hk ih x4 x5 v6 rfl rfl
    refine b_X12_products_6 hK ⟨_, _, _, _, m_many (by omega) h, ?_⟩
    refine b_X12_products_13 (fun c => absurd c (nI_ge hk (by omega))) (fun _ => ?_)
    refine b_X12_products_16 ⟨_, _, _, _, m_has (by omega) ha31 (by omega), ?_⟩
    refine b_X12_products_22 (fun c => b_X12_products_28 ?_) (fun c => b_X12_products_25 (ih _ _ _ ?_ (nI_1 k)))
    · have hak : a.testBit k = true := z_tn1.mp c
      suffices H2 : ∀ l, l ≤ n → ∀ x4 x6, x4 = nI (zset n (fun j => ∃ x y, x < n ∧ y < n ∧ a.testBit x = true ∧ b.testBit y = true ∧ t x y = j ∧ (x < k ∨ (x = k ∧ y < l)))) → x6 = nI l → Go d i_X12_products 31 [.ref m, .int (nI s), .int (nI a), .int (nI b), .int x4, .int (nI k), .int x6] [] S I J (z_eq (some (.int (nI (prd n t a b)))) S I J) by
        refine H2 0 (by omega) _ _ ?_ rfl
        exact congrArg nI (zset_congr (fun i _ => ⟨fun ⟨x, y, h1, h2, h3, h4, h5, h6⟩ => ⟨x, y, h1, h2, h3, h4, h5, Or.inl h6⟩, fun ⟨x, y, h1, h2, h3, h4, h5, h6⟩ => ⟨x, y, h1, h2, h3, h4, h5, by omega⟩⟩))
      refine z_up_to n ?_ ?_
      · rintro x4 x6 rfl rfl
        refine b_X12_products_31 hK ⟨_, _, _, _, m_many (by omega) h, ?_⟩
        refine b_X12_products_38 (fun _ => b_X12_products_76 (ih _ _ _ ?_ (nI_1 k))) (fun c => absurd (nI_le (Nat.le_refl _) (by omega)) c)
        exact congrArg nI (zset_congr (fun i _ => ⟨fun ⟨x, y, h1, h2, h3, h4, h5, h6⟩ => ⟨x, y, h1, h2, h3, h4, h5, by omega⟩, fun ⟨x, y, h1, h2, h3, h4, h5, h6⟩ => ⟨x, y, h1, h2, h3, h4, h5, by omega⟩⟩))
      · rintro l hl ih2 x4 x6 rfl rfl
        refine b_X12_products_31 hK ⟨_, _, _, _, m_many (by omega) h, ?_⟩
        refine b_X12_products_38 (fun c => absurd c (nI_ge hl (by omega))) (fun _ => ?_)
        refine b_X12_products_41 ⟨_, _, _, _, m_has (by omega) hb31 (by omega), ?_⟩
        refine b_X12_products_49 (fun c => b_X12_products_66 (ih2 _ _ ?_ (nI_1 l))) (fun c => b_X12_products_52 hK ⟨_, _, _, _, m_times (by omega) h hk hl, b_X12_products_62 (ih2 _ _ ?_ (nI_1 l))⟩)
        · have hbl : b.testBit l = false := z_tn0.mp c
          rw [z_lit 0, z_or, Nat.or_zero]
          refine congrArg nI (zset_congr (fun i _ => ⟨fun ⟨x, y, h1, h2, h3, h4, h5, h6⟩ => ⟨x, y, h1, h2, h3, h4, h5, by omega⟩, fun ⟨x, y, h1, h2, h3, h4, h5, h6⟩ => ⟨x, y, h1, h2, h3, h4, h5, ?_⟩⟩))
          by_cases hyl : y = l
          · subst hyl; rw [hbl] at h4; cases h4
          · omega
        · have hbl : b.testBit l = true := z_tn1.mp c
          have htl := hT.2.2 k hk l hl
          rw [z_shl1 (by omega), z_or]
          refine congrArg nI (zset_add htl (fun i _ => ⟨?_, ?_⟩)).symm
          · rintro ⟨x, y, h1, h2, h3, h4, h5, h6⟩
            by_cases hyl : x = k ∧ y = l
            · obtain ⟨rfl, rfl⟩ := hyl
              exact Or.inr h5.symm
            · exact Or.inl ⟨x, y, h1, h2, h3, h4, h5, by omega⟩
          · rintro (⟨x, y, h1, h2, h3, h4, h5, h6⟩ | rfl)
            · exact ⟨x, y, h1, h2, h3, h4, h5, by omega⟩
            · exact ⟨k, l, hk, hl, hak, hbl, rfl, Or.inr ⟨rfl, by omega⟩⟩
    · have hak : a.testBit k = false := z_tn0.mp c
      refine congrArg nI (zset_congr (fun i _ => ⟨fun ⟨x, y, h1, h2, h3, h4, h5, h6⟩ => ⟨x, y, h1, h2, h3, h4, h5, by omega⟩, fun ⟨x, y, h1, h2, h3, h4, h5, h6⟩ => ⟨x, y, h1, h2, h3, h4, h5, ?_⟩⟩))
      by_cases hyl : x = k
      · subst hyl; rw [hak] at h3; cases h3
      · omega
theorem m_subgroupOf {a : Nat} (hd : 3 < d) (h : MS S I m s n t) (hg : Grp n t iv) (ha : a < 2 ^ n) : z_ev d i_X12_subgroupOf [.ref m, .int (nI s), .int (nI a)] S I J (some (.int (nI (gen n t a)))) S I J := by
  obtain ⟨d, rfl⟩ := z_dep (d := d) (by omega)
  have hK := h.1.1
  have hT := h.2.2.1
  have hn := hT.2.1
  have h20 : 2 ^ n ≤ 2 ^ 20 := Nat.pow_le_pow_right (by decide) hn
  have h1n : 1 < 2 ^ n := by
    have := Nat.pow_le_pow_right (show 0 < 2 by decide) hT.1
    omega
  have hb : a ||| 1 < 2 ^ n := z_or_lt ha h1n
  refine e_X12_subgroupOf (b_X12_subgroupOf_0 ?_)
  suffices H : ∀ N r w, 2 ^ n - r ≤ N → r < 2 ^ n → w < 2 ^ n → r.testBit 0 = true → (∀ c, ClosedBy n t a c → ∀ i, i < n → r.testBit i = true → c.testBit i = true) → (w = r → ClosedBy n t a r) → ∀ x3 x4, x3 = nI r → x4 = nI w → Go d i_X12_subgroupOf 5 [.ref m, .int (nI s), .int (nI a), .int x3, .int x4] [] S I J (z_eq (some (.int (nI (gen n t a)))) S I J) by
    refine H _ 1 0 (Nat.le_refl _) h1n (Nat.two_pow_pos n) rfl (fun c hc i hi h1 => ?_) (fun e => by omega) _ _ rfl rfl
    have : i = 0 := by
      rw [show (1 : Nat) = 2 ^ 0 from rfl, z_tb_pow] at h1
      exact of_decide_eq_true h1
    subst this
    exact hc.2.1
  intro N
  induction N with
  | zero => intro r w hN hr; omega
  | succ N ih =>
    rintro r w hN hr hw h0 hmin hcl x3 x4 rfl rfl
    refine b_X12_subgroupOf_5 (fun c => ?_) (fun c => ?_)
    · rw [nI_eq (by omega) (by omega)] at c
      refine b_X12_subgroupOf_29 ⟨?_, rfl, rfl, rfl⟩
      rw [← gen_eq hT (hcl c) hmin]
    · have e1 : nI a ||| 1 = nI (a ||| 1) := by rw [z_lit 1, z_or]
      have hp : prd n t r (a ||| 1) < 2 ^ n := zset_lt _ _
      have hpb : ∀ i, i < n → ((prd n t r (a ||| 1)).testBit i = true ↔ ∃ x y, x < n ∧ y < n ∧ r.testBit x = true ∧ (a ||| 1).testBit y = true ∧ t x y = i) := fun i hi => by
        unfold prd
        rw [zset_bit]
        exact ⟨fun q => q.2, fun q => ⟨hi, q⟩⟩
      refine b_X12_subgroupOf_11 hK ⟨_, _, _, _, by rw [e1]; exact m_products (by omega) h hr hb, b_X12_subgroupOf_24 ?_⟩
      rw [z_or]
      have hsub : ∀ i, i < n → r.testBit i = true → (prd n t r (a ||| 1)).testBit i = true := fun i hi h1 => (hpb i hi).mpr ⟨i, 0, hi, hT.1, h1, by rw [show (1 : Nat) = 2 ^ 0 from rfl, z_tb_or_pow]; simp, hg.r0 hi⟩
      rw [z_or_sub hr hsub hp]
      have hclo : prd n t r (a ||| 1) = r → ClosedBy n t a r := fun e => ⟨hr, h0, fun x hx y hy h1 h2 => by
        rw [← e]
        exact (hpb _ (hT.2.2 x hx y hy)).mpr ⟨x, y, hx, hy, h1, by rw [Nat.testBit_or, h2]; rfl, rfl⟩⟩
      have hge : r ≤ prd n t r (a ||| 1) := by
        have := z_or_ge r (prd n t r (a ||| 1))
        rwa [z_or_sub hr hsub hp] at this
      by_cases heq : prd n t r (a ||| 1) = r
      · rw [heq]
        refine b_X12_subgroupOf_5 (fun _ => b_X12_subgroupOf_29 ⟨?_, rfl, rfl, rfl⟩) (fun c => absurd rfl c)
        rw [← gen_eq hT (hclo heq) hmin]
      · refine ih _ r (by omega) hp hr (hsub 0 hT.1 h0) (fun c hc i hi h1 => ?_) (fun e => absurd e.symm heq) _ _ rfl rfl
        obtain ⟨x, y, g1, g2, g3, g4, rfl⟩ := (hpb i hi).mp h1
        have g5 := hmin c hc x g1 g3
        rw [show (1 : Nat) = 2 ^ 0 from rfl, z_tb_or_pow, Bool.or_eq_true, decide_eq_true_eq] at g4
        rcases g4 with g4 | rfl
        · exact hc.2.2 x g1 y g2 g5 g4
        · rw [hg.r0 g1]; exact g5
theorem m_classBits {x : Nat} (hd : 2 < d) (h : MS S I m s n t) (hg : Grp n t iv) (hx : x < n) : z_ev d i_X12_classBits [.ref m, .int (nI s), .int (nI x)] S I J (some (.int (nI (cls n t iv x)))) S I J := by
  obtain ⟨d, rfl⟩ := z_dep (d := d) (by omega)
  have hK := h.1.1
  have hT := h.2.2.1
  have hn := hT.2.1
  have e1 : (665 : Int32) * nI s = nI (665 * s) := by rw [z_lit 665, pk_mul]
  refine e_X12_classBits (b_X12_classBits_0 ?_)
  suffices H : ∀ k, k ≤ n → ∀ x3 x4, x3 = nI (zim (fun _ => true) (fun g => t (t (iv g) x) g) k) → x4 = nI k → Go d i_X12_classBits 5 [.ref m, .int (nI s), .int (nI x), .int x3, .int x4] [] S I J (z_eq (some (.int (nI (cls n t iv x)))) S I J) from H 0 (by omega) _ _ rfl rfl
  refine z_up_to n ?_ ?_
  · rintro x3 x4 rfl rfl
    refine b_X12_classBits_5 hK ⟨_, _, _, _, m_many (by omega) h, ?_⟩
    exact b_X12_classBits_12 (fun _ => b_X12_classBits_50 ⟨rfl, rfl, rfl, rfl⟩) (fun c => absurd (nI_le (Nat.le_refl _) (by omega)) c)
  · rintro k hk ih x3 x4 rfl rfl
    refine b_X12_classBits_5 hK ⟨_, _, _, _, m_many (by omega) h, ?_⟩
    refine b_X12_classBits_12 (fun c => absurd c (nI_ge hk (by omega))) (fun _ => ?_)
    have hik := hg.il hk
    refine b_X12_classBits_15 hK ⟨_, _, _, _, by rw [e1]; exact m_inverse (by omega) h hg hk, ?_⟩
    refine b_X12_classBits_32 hK ⟨_, _, _, _, m_times (by omega) h hik hx, ?_⟩
    refine b_X12_classBits_36 hK ⟨_, _, _, _, m_times (by omega) h (hg.lt hik hx) hk, ?_⟩
    refine b_X12_classBits_41 (ih _ _ ?_ (nI_1 k))
    have := hg.lt (hg.lt hik hx) hk
    rw [z_shl1 (by omega), z_or, zim_t rfl]
theorem m_kindOf {a : Nat} (hd : 4 < d) (h : MS S I m s n t) (hg : Grp n t iv) (ha : a < 2 ^ n) : z_ev d i_X12_kindOf [.ref m, .int (nI s), .int (nI a)] S I J (some (.int (nI (knd n t iv a)))) S I J := by
  obtain ⟨d, rfl⟩ := z_dep (d := d) (by omega)
  have hK := h.1.1
  have hT := h.2.2.1
  have hn := hT.2.1
  have ha31 := z_lt31 hn ha
  refine e_X12_kindOf (b_X12_kindOf_0 ⟨_, _, _, _, m_has (x := 0) (by omega) ha31 (by omega), ?_⟩)
  refine b_X12_kindOf_5 (fun c => b_X12_kindOf_18 ⟨?_, rfl, rfl, rfl⟩) (fun c => ?_)
  · have h0 : a.testBit 0 = false := z_tn0.mp c
    unfold knd
    rw [if_neg (fun e => by rw [gen0 hT e] at h0; cases h0)]
    rfl
  refine b_X12_kindOf_8 hK ⟨_, _, _, _, m_subgroupOf (by omega) h hg ha, ?_⟩
  refine b_X12_kindOf_14 (fun c => ?_) (fun c => b_X12_kindOf_18 ⟨?_, rfl, rfl, rfl⟩)
  · rw [nI_eq (z_lt31 hn (gen_lt n t a)) ha31] at c
    refine b_X12_kindOf_20 ?_
    suffices H : ∀ k, k ≤ n → (∀ x, x < k → a.testBit x = true → zd (cls n t iv x) a = 0) → ∀ x3, x3 = nI k → Go d i_X12_kindOf 22 [.ref m, .int (nI s), .int (nI a), .int x3] [] S I J (z_eq (some (.int (nI (knd n t iv a)))) S I J) from H 0 (by omega) (fun x hx => by omega) _ rfl
    refine z_up_to n ?_ ?_
    · rintro hall x3 rfl
      refine b_X12_kindOf_22 hK ⟨_, _, _, _, m_many (by omega) h, ?_⟩
      refine b_X12_kindOf_28 (fun _ => b_X12_kindOf_60 ⟨?_, rfl, rfl, rfl⟩) (fun c => absurd (nI_le (Nat.le_refl _) (by omega)) c)
      unfold knd
      rw [if_pos c, if_pos hall]
      rfl
    · rintro k hk ih hall x3 rfl
      refine b_X12_kindOf_22 hK ⟨_, _, _, _, m_many (by omega) h, ?_⟩
      refine b_X12_kindOf_28 (fun c => absurd c (nI_ge hk (by omega))) (fun _ => ?_)
      refine b_X12_kindOf_31 ⟨_, _, _, _, m_has (by omega) ha31 (by omega), ?_⟩
      refine b_X12_kindOf_36 (fun c2 => b_X12_kindOf_54 (ih (fun x hx h1 => ?_) _ (nI_1 k))) (fun c2 => ?_)
      · by_cases hxk : x = k
        · subst hxk; rw [z_tn0.mp c2] at h1; cases h1
        · exact hall x (by omega) h1
      · refine b_X12_kindOf_39 hK ⟨_, _, _, _, m_classBits (by omega) h hg hk, ?_⟩
        have hz := zd_lt (b := a) (cls_lt hg hk)
        refine b_X12_kindOf_45 (fun c3 => b_X12_kindOf_54 (ih (fun x hx h1 => ?_) _ (nI_1 k))) (fun c3 => b_X12_kindOf_52 ⟨?_, rfl, rfl, rfl⟩)
        · rw [z_andn, z_eq0 (z_lt31 hn hz)] at c3
          by_cases hxk : x = k
          · subst hxk; exact c3
          · exact hall x (by omega) h1
        · rw [z_andn, z_eq0 (z_lt31 hn hz)] at c3
          unfold knd
          rw [if_pos c, if_neg (fun q => c3 (q k hk (z_tn1.mp c2)))]
          rfl
  · rw [nI_eq (z_lt31 hn (gen_lt n t a)) ha31] at c
    unfold knd
    rw [if_neg c]
    rfl
theorem m_periodOf {x : Nat} (hd : 2 < d) (h : MS S I m s n t) (hg : Grp n t iv) (hx : x < n) : z_ev d i_X12_periodOf [.ref m, .int (nI s), .int (nI x)] S I J (some (.int (nI (per t x)))) S I J := by
  obtain ⟨d, rfl⟩ := z_dep (d := d) (by omega)
  have hK := h.1.1
  have hn := h.2.2.1.2.1
  obtain ⟨e, e1, e2, e3, e4⟩ := per_spec hg hx
  refine e_X12_periodOf (b_X12_periodOf_0 ?_)
  suffices H : ∀ k, k ≤ e → ∀ x3 x4, x3 = nI (k + 1) → x4 = nI (pw t x k) → Go d i_X12_periodOf 5 [.ref m, .int (nI s), .int (nI x), .int x3, .int x4] [] S I J (z_eq (some (.int (nI (per t x)))) S I J) from H 0 (by omega) _ _ rfl rfl
  refine z_up_to e ?_ ?_
  · rintro x3 x4 rfl rfl
    refine b_X12_periodOf_5 (fun _ => b_X12_periodOf_26 ⟨by rw [e1], rfl, rfl, rfl⟩) (fun c => absurd ?_ c)
    rw [e3]
    rfl
  · rintro k hk ih x3 x4 rfl rfl
    have hpk := pw_lt hg hx k
    refine b_X12_periodOf_5 (fun c => ?_) (fun c => ?_)
    · rw [z_eq0 (by omega)] at c
      exact absurd c (e4 k hk)
    · exact b_X12_periodOf_10 hK ⟨_, _, _, _, m_times (by omega) h hpk hx, b_X12_periodOf_21 (ih _ _ (nI_1 (k + 1)) rfl)⟩
end M2

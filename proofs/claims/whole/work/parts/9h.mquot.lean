/-! QUOTIENT: the model -/
noncomputable def quS (x : Slt) (a : Nat) : Nat := zim (fun i => x.st.testBit i && decide (0 < csn x.t x.iv a i)) (csn x.t x.iv a) x.n
noncomputable def quo (x : Slt) (a : Nat) : Slt := (qn x.n x.t x.iv a, qt x.t x.iv a, qi x.t x.iv a, quS x a, (x.nm.ki, x.nm.ln, x.nm.pr + 1, (fun i => x.nm.og (lea x.t x.iv a i)), x.nm.sz, x.nm.ro))
def qOk (A : Wst) (x1 x2 : Int32) : Prop := El 2 x1 ∧ El (2 ^ (A.sl (ix x1)).n) x2 ∧ knd (A.sl (ix x1)).n (A.sl (ix x1)).t (A.sl (ix x1)).iv (ix x2) = 2
noncomputable def wQuot (A : Wst) (x1 x2 : Int32) : Wst := zq (qOk A x1 x2) ((A.keep (ix x1)).put (ix x1) (quo (A.sl (ix x1)) (ix x2))) A
noncomputable def aQuot (A : Wst) (x1 x2 : Int32) : Int32 := zq (El 2 x1) (zq (El (2 ^ (A.sl (ix x1)).n) x2) (zq (knd (A.sl (ix x1)).n (A.sl (ix x1)).t (A.sl (ix x1)).iv (ix x2) = 2) (nI (qn (A.sl (ix x1)).n (A.sl (ix x1)).t (A.sl (ix x1)).iv (ix x2))) (-5)) (-3)) (-2)
section M24
variable {d m s : Nat} {A : Wst} {x : Slt} {S : zS} {I I0 I1 I' : zI} {J : zJ}
theorem knd_2 {n a : Nat} {t : Nat → Nat → Nat} {iv : Nat → Nat} (hg : Grp n t iv) : knd n t iv a = 2 → NS n t iv a := by
  intro h
  unfold knd at h
  rcases Classical.em (gen n t a = a) with c | c
  · rw [if_pos c] at h
    rcases Classical.em (∀ x, x < n → a.testBit x = true → zd (cls n t iv x) a = 0) with c2 | c2
    · exact NS.of hg c c2
    · rw [if_neg c2] at h; cases h
  · rw [if_neg c] at h; cases h
theorem quo_ok {a : Nat} (h : SlOk x) (hN : NS x.n x.t x.iv a) : SlOk (quo x a) := by
  obtain ⟨hg, h1, h2, o1, o2, o3⟩ := h
  refine ⟨q_grp hg hN, ?_, ?_, fun i hi => o1 _ (lea_spec hi).1, o2, o3⟩
  · refine Nat.lt_pow_two_of_testBit _ (fun b hb => ?_)
    cases q : (quS x a).testBit b with
    | false => exact q
    | true =>
      rw [quS, zim_bit] at q
      obtain ⟨i, i1, _, i3⟩ := q
      have := csn_lt hg hN i1
      have hb : qn x.n x.t x.iv a ≤ b := hb
      omega
  · show (quS x a).testBit 0 = false
    cases q : (quS x a).testBit 0 with
    | false => rfl
    | true =>
      rw [quS, zim_bit] at q
      obtain ⟨i, i1, i2, i3⟩ := q
      rw [Bool.and_eq_true, decide_eq_true_iff] at i2
      omega
theorem wQuot_ok {x1 x2 : Int32} (hA : WOk A) : WOk (wQuot A x1 x2) := by
  rcases Classical.em (qOk A x1 x2) with c | c
  · rw [wQuot, zq_t c]
    obtain ⟨⟨s, hs, rfl⟩, _, c3⟩ := c
    rw [ix_nI (by omega)] at c3 ⊢
    exact (hA.keep hs).put (quo_ok (hA.1 s hs) (knd_2 (hA.1 s hs).1 c3))
  · rw [wQuot, zq_f c]; exact hA
theorem m_copies2 {u p r lu : Nat} (hd : 0 < d) (hu : z_kd S u = 100 ∧ z_ln S u = lu) (h1 : p + 665 ≤ r) (h2 : r + 665 ≤ lu) (h3 : lu < 2 ^ 20) : ∃ I', z_ev d i_X12_copies [.ref u, .int (nI p), .ref u, .int (nI r)] S I J none S I' J ∧ (∀ h, h ≠ u → I' h = I h) ∧ (∀ j, j < 665 → I' u (r + j) = I u (p + j)) ∧ ∀ j, j < r ∨ r + 665 ≤ j → I' u j = I u j := by
  obtain ⟨d, rfl⟩ := z_dep hd
  obtain ⟨Q, hQ⟩ : ∃ Q : zQ, Q = fun w S' I' J' => w = none ∧ S' = S ∧ J' = J ∧ (∀ h, h ≠ u → I' h = I h) ∧ (∀ j, j < 665 → I' u (r + j) = I u (p + j)) ∧ ∀ j, j < r ∨ r + 665 ≤ j → I' u j = I u j := ⟨_, rfl⟩
  suffices hw : z_wp (d + 1) i_X12_copies [.ref u, .int (nI p), .ref u, .int (nI r)] S I J Q by
    rw [hQ] at hw
    obtain ⟨w, S', I', J', x1, rfl, rfl, rfl, x2⟩ := hw
    exact ⟨I', x1, x2⟩
  refine w_X12_copies (b_X12_copies_0 ?_)
  suffices H : ∀ k, k ≤ 665 → ∀ I1 x4, (∀ h, h ≠ u → I1 h = I h) → (∀ j, j < k → I1 u (r + j) = I u (p + j)) → (∀ j, j < r ∨ r + k ≤ j → I1 u j = I u j) → x4 = nI k → Go d i_X12_copies 3 [.ref u, .int (nI p), .ref u, .int (nI r), .int x4] [] S I1 J Q from H 0 (by omega) I _ (fun _ _ => rfl) (fun j hj => by omega) (fun _ _ => rfl) rfl
  refine z_up_to 665 ?_ ?_
  · rintro I1 x4 a1 a2 a3 rfl
    refine b_X12_copies_3 (fun _ => b_X12_copies_29 ?_) (fun z => absurd (by decide) z)
    rw [hQ]; exact ⟨rfl, rfl, rfl, a1, a2, a3⟩
  · rintro k hk ih I1 x4 a1 a2 a3 rfl
    refine b_X12_copies_3 (fun z => absurd z (nI_ge hk (by decide))) (fun _ => b_X12_copies_11 ⟨by rw [hu.1]; rfl, by rw [nI_add, hu.2]; exact vp_in_nI (by omega) (by omega)⟩ ⟨hu.1, by rw [nI_add, hu.2]; exact vp_in_nI (by omega) (by omega)⟩ ?_)
    rw [nI_add, nI_add, nI_clamp (by omega), nI_clamp (by omega), a3 (p + k) (by omega)]
    refine ih _ _ (fun h hh => by rw [z_u2_row hh]; exact a1 h hh) (fun j hj => ?_) (fun j hj => ?_) (nI_1 k)
    · by_cases e : j = k
      · rw [e, z_u2_same]
      · rw [z_u2_nk (by omega)]; exact a2 j (by omega)
    · rw [z_u2_nk (by omega)]; exact a3 j (by omega)
/-- the two rows: which coset, least of each -/
def QRw (I : zI) (m : Nat) (x : Slt) (a : Nat) : Prop := (∀ y, y < x.n → I (m + 8) y = nI (csn x.t x.iv a y)) ∧ ∀ i, i < qn x.n x.t x.iv a → I (m + 9) i = nI (lea x.t x.iv a i)
theorem m_cosets {a : Nat} {Q : zQ} {v5 v6 : Value} {x3 x4 : Int32} (hd : 2 < d) (hL : MLay S m) (hs : s < 2) (hx : SlOk x) (hN : NS x.n x.t x.iv a) (hM : MS S I1 m s x.n x.t) (e3 : x3 = 0) (e4 : x4 = 0) (K : ∀ I v4 v5, (∀ h, h ≠ m + 8 → h ≠ m + 9 → I h = I1 h) → QRw I m x a → Go d i_X12_quotient 161 [.ref m, .int (nI s), .int (nI a), .int (nI (qn x.n x.t x.iv a)), .int v4, v5, v6] [] S I J Q) : Go d i_X12_quotient 50 [.ref m, .int (nI s), .int (nI a), .int x3, .int x4, v5, v6] [] S I1 J Q := by
  subst e3 e4
  obtain ⟨n, hn'⟩ : ∃ n, n = x.n := ⟨_, rfl⟩
  obtain ⟨t, ht'⟩ : ∃ t, t = x.t := ⟨_, rfl⟩
  obtain ⟨iv, hi'⟩ : ∃ iv, iv = x.iv := ⟨_, rfl⟩
  have hg := hx.1
  unfold QRw at K
  rw [← hn', ← ht', ← hi'] at hg hN K
  rw [← hn', ← ht'] at hM
  have hn := hg.le
  have ha := hN.1.lt
  have h20 : 2 ^ n ≤ 2 ^ 20 := Nat.pow_le_pow_right (by decide) hn
  have hk := hL.k
  have b20 := hL.a20
  have b21 := hL.a21
  obtain ⟨P, hP⟩ : ∃ P, P = isl t iv a := ⟨_, rfl⟩
  have fM : ∀ {I : zI}, (∀ h, h ≠ m + 8 → h ≠ m + 9 → I h = I1 h) → MS S I m s n t := fun hI => hM.fr (by rw [hL.a0.1]; exact hI _ (by omega) (by omega))
  have main : ∀ x, x ≤ n → ∀ I x3 x4 v5, (∀ h, h ≠ m + 8 → h ≠ m + 9 → I h = I1 h) → (∀ y, y < n → I (m + 8) y = if lde t iv a y < x then nI (csn t iv a y) else -1) → (∀ i, i < zcn P x → I (m + 9) i = nI (lea t iv a i)) → x3 = nI (zcn P x) → x4 = nI x → Go d i_X12_quotient 77 [.ref m, .int (nI s), .int (nI a), .int x3, .int x4, v5, v6] [] S I J Q := by
    refine z_up_to n ?_ ?_
    · rintro I x3 x4 v5 hI hc hl rfl rfl
      refine b_X12_quotient_77 hk ⟨_, _, _, _, m_many (by omega) (fM hI), b_X12_quotient_84 (fun _ => ?_) (fun z => absurd (nI_le (Nat.le_refl _) (by omega)) z)⟩
      have := K I (nI n) v5 hI ⟨fun y hy => by
        rw [hc y hy, if_pos (by have := (lde_spec hg hN hy).2.1; omega)], by rw [hP] at hl; exact hl⟩
      rw [hP]; exact this
    · rintro x hx ih I x3 x4 v5 hI hc hl rfl rfl
      have hcx : zcn P x ≤ x := zcn_le _ _
      refine b_X12_quotient_77 hk ⟨_, _, _, _, m_many (by omega) (fM hI), b_X12_quotient_84 (fun z => absurd z (nI_ge hx (by omega))) (fun _ => ?_)⟩
      have ex : I (z_rv S m 20) (nI x).toNatClampNeg = if lde t iv a x < x then nI (csn t iv a x) else -1 := by rw [b20.1, nI_clamp (by omega)]; exact hc x hx
      by_cases hl2 : lde t iv a x < x
      · have hni : ¬ P x := fun q => by rw [hP, q_isl hg hN hx] at q; exact q hl2
        have hni' : ¬ isl t iv a x := by rw [← hP]; exact hni
        have hcs := csn_lt hg hN hx
        have hqn : qn n t iv a ≤ n := zcn_le _ _
        rw [if_pos hl2] at ex
        refine b_X12_quotient_87 hk (b20.rd (by omega) (by decide)) (fun z => absurd (by rw [← ex]; exact z) (nI_nm1 (show csn t iv a x < 2 ^ 31 by omega))) (fun _ => b_X12_quotient_98 (ih I _ _ _ hI (fun y hy => ?_) (by rw [zcn_f hni]; exact hl) (by rw [zcn_f hni]) (nI_1 x)))
        rw [hc y hy]
        by_cases q : lde t iv a y < x
        · rw [if_pos q, if_pos (by omega)]
        · rw [if_neg q, if_neg (fun w => q ((q_nx hg hN hy hni').mp w))]
      · have hyi' : isl t iv a x := (q_isl hg hN hx).mpr hl2
        have hyi : P x := by rw [hP]; exact hyi'
        rw [if_neg hl2] at ex
        refine b_X12_quotient_87 hk (b20.rd (by omega) (by decide)) (fun _ => b_X12_quotient_101 ?_) (fun z => absurd ex z)
        suffices H : ∀ k, k ≤ n → ∀ I x5, (∀ h, h ≠ m + 8 → h ≠ m + 9 → I h = I1 h) → (∀ y, y < n → I (m + 8) y = zq (lde t iv a y < x ∨ ∃ b, b < k ∧ a.testBit b = true ∧ t x b = y) (nI (csn t iv a y)) (-1)) → (∀ i, i < zcn P x → I (m + 9) i = nI (lea t iv a i)) → x5 = nI k → Go d i_X12_quotient 104 [.ref m, .int (nI s), .int (nI a), .int (nI (zcn P x)), .int (nI x), .int x5, v6] [] S I J Q by
          refine H 0 (by omega) I _ hI (fun y hy => ?_) hl rfl
          rw [hc y hy]
          by_cases q : lde t iv a y < x
          · rw [if_pos q, zq_t (Or.inl q)]
          · rw [if_neg q, zq_f (fun w => by
              rcases w with w | ⟨b, hb, _⟩
              · exact q w
              · omega)]
        refine z_up_to n ?_ ?_
        · rintro I x5 hI hc hl rfl
          refine b_X12_quotient_104 hk ⟨_, _, _, _, m_many (by omega) (fM hI), b_X12_quotient_111 (fun _ => b_X12_quotient_144 hk (b21.wr (by omega) (by decide)) ?_) (fun z => absurd (nI_le (Nat.le_refl _) (by omega)) z)⟩
          rw [b21.1, nI_clamp (by omega)]
          refine ih _ _ _ _ (fun h g1 g2 => by rw [z_u2_row g2]; exact hI h g1 g2) (fun y hy => ?_) (fun i hi => ?_) (by rw [zcn_t hyi]; exact nI_1 _) (nI_1 x)
          · rw [z_u2_row (by omega), hc y hy]
            by_cases q : lde t iv a y < x + 1
            · rw [if_pos q]
              refine zq_t ?_
              by_cases q2 : lde t iv a y < x
              · exact Or.inl q2
              · exact Or.inr ((q_in hg hN hx hy hyi').mpr (by omega))
            · rw [if_neg q]
              refine zq_f (fun w => q ?_)
              rcases w with w | w
              · omega
              · have := (q_in hg hN hx hy hyi').mp w; omega
          · rw [zcn_t hyi] at hi
            by_cases ei : i = zcn P x
            · rw [ei, z_u2_same]
              have := lea_at hyi'
              rw [← hP] at this
              rw [this]
            · rw [z_u2_nk ei]; exact hl i (by omega)
        · rintro k hk' ih2 I x5 hI hc hl rfl
          refine b_X12_quotient_104 hk ⟨_, _, _, _, m_many (by omega) (fM hI), b_X12_quotient_111 (fun z => absurd z (nI_ge hk' (by omega))) (fun _ => b_X12_quotient_114 ⟨_, _, _, _, m_has (by omega) (by omega) (by omega), ?_⟩)⟩
          cases hb : a.testBit k with
          | false =>
            refine b_X12_quotient_120 (fun _ => b_X12_quotient_138 (ih2 I _ hI (fun y hy => ?_) hl (nI_1 k))) (fun z => absurd rfl z)
            rw [hc y hy]
            congr 1
            refine propext ⟨fun w => ?_, fun w => ?_⟩
            · rcases w with w | ⟨b, b1, b2⟩
              · exact Or.inl w
              · exact Or.inr ⟨b, by omega, b2⟩
            · rcases w with w | ⟨b, b1, b2, b3⟩
              · exact Or.inl w
              · by_cases eb : b = k
                · rw [eb, hb] at b2; cases b2
                · exact Or.inr ⟨b, by omega, b2, b3⟩
          | true =>
            have htx := hg.lt hx hk'
            refine b_X12_quotient_120 (fun z => absurd z (by decide)) (fun _ => b_X12_quotient_123 hk hk ⟨_, _, _, _, m_times (by omega) (fM hI) hx hk', ?_⟩)
            refine b_X12_quotient_136 (b20.wr (by omega) (by decide)) ?_
            rw [b20.1, nI_clamp (by omega)]
            refine ih2 _ _ (fun h g1 g2 => by rw [z_u2_row g1]; exact hI h g1 g2) (fun y hy => ?_) (fun i hi => by rw [z_u2_row (by omega)]; exact hl i hi) (nI_1 k)
            by_cases ey : y = t x k
            · rw [ey, z_u2_same, zq_t (Or.inr ⟨k, by omega, hb, rfl⟩), csn_at hg hN ((q_in hg hN hx htx hyi').mp ⟨k, hk', hb, rfl⟩), hP]
            · rw [z_u2_nk ey, hc y hy]
              congr 1
              refine propext ⟨fun w => ?_, fun w => ?_⟩
              · rcases w with w | ⟨b, b1, b2⟩
                · exact Or.inl w
                · exact Or.inr ⟨b, by omega, b2⟩
              · rcases w with w | ⟨b, b1, b2, b3⟩
                · exact Or.inl w
                · by_cases eb : b = k
                  · rw [eb] at b3; exact absurd b3.symm ey
                  · exact Or.inr ⟨b, by omega, b2, b3⟩
  suffices H : ∀ k, k ≤ n → ∀ I x4, (∀ h, h ≠ m + 8 → h ≠ m + 9 → I h = I1 h) → (∀ y, y < k → I (m + 8) y = -1) → x4 = nI k → Go d i_X12_quotient 50 [.ref m, .int (nI s), .int (nI a), .int 0, .int x4, v5, v6] [] S I J Q from H 0 (by omega) I1 _ (fun _ _ _ => rfl) (fun y hy => by omega) rfl
  refine z_up_to n ?_ ?_
  · rintro I x4 hI hc rfl
    refine b_X12_quotient_50 hk ⟨_, _, _, _, m_many (by omega) (fM hI), b_X12_quotient_57 (fun _ => b_X12_quotient_74 (main 0 (by omega) I _ _ _ hI (fun y hy => by rw [hc y hy, if_neg (by omega)]) (fun i hi => absurd hi (Nat.not_lt_zero _)) rfl rfl)) (fun z => absurd (nI_le (Nat.le_refl _) (by omega)) z)⟩
  · rintro k hk' ih I x4 hI hc rfl
    refine b_X12_quotient_50 hk ⟨_, _, _, _, m_many (by omega) (fM hI), b_X12_quotient_57 (fun z => absurd z (nI_ge hk' (by omega))) (fun _ => b_X12_quotient_60 hk (b20.wr (by omega) (by decide)) ?_)⟩
    rw [b20.1, nI_clamp (by omega)]
    refine ih _ _ (fun h g1 g2 => by rw [z_u2_row g1]; exact hI h g1 g2) (fun y hy => ?_) (nI_1 k)
    by_cases ey : y = k
    · rw [ey, z_u2_same]
    · rw [z_u2_nk ey]; exact hc y (by omega)
end M24

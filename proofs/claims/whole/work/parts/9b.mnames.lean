/-! NAMES: the model -/
section M19
variable {d m s n : Nat} {N : Nm} {S : zS} {I : zI} {J : zJ}
theorem m_nameAt {x K : Nat} (hd : 1 < d) (hm : MA S m) (hs : s < 2) (hM : MNm S I m s n N) (hx : x < n) (hn : n ≤ 20) (hK : K < 2 ^ 31) : z_ev d i_X12_nameAt [.ref m, .int (nI s), .int (nI x), .int (nI K)] S I J (some (.int (nmE N.pr (nmB N x K)))) S I J := by
  obtain ⟨d, rfl⟩ := z_dep (d := d) (by omega)
  obtain ⟨⟨o1, o2, o3⟩, c1, c2, c3, c4, c5, c6⟩ := hM
  obtain ⟨hk, hk0, hl⟩ := hm
  have ho := o1 x hx
  have rd : ∀ p, p < 1995 → z_isI (z_kd S (z_rv S m 0)) = true ∧ vp_in (nI p) (z_ln S (z_rv S m 0)) := fun p hp => ⟨by rw [hk0]; rfl, by rw [hl]; exact vp_in_nI hp (by decide)⟩
  obtain ⟨ans, hans⟩ : ∃ ans, ans = nmE N.pr (nmB N x K) := ⟨_, rfl⟩
  rw [← hans]
  have ea : ((665 : Int32) * nI s + 5) + nI x = nI (665 * s + 5 + x) := by rw [z_lit 665, pk_mul, z_lit 5, nI_add, nI_add]
  have eb : (665 : Int32) * nI s + 2 = nI (665 * s + 2) := by rw [z_lit 665, pk_mul, z_lit 2, nI_add]
  have e665 : (665 : Int32) * nI s = nI (665 * s) := by rw [z_lit 665, pk_mul]
  have e3 : nI (665 * s) + 3 = nI (665 * s + 3) := by rw [z_lit 3, nI_add]
  have e4 : nI (665 * s) + 4 = nI (665 * s + 4) := by rw [z_lit 4, nI_add]
  have r3 : I (z_rv S m 0) (Int32.toNatClampNeg (nI (665 * s) + 3)) = nI N.ln := by rw [e3, nI_clamp (by omega)]; exact c2
  have r4 : I (z_rv S m 0) (Int32.toNatClampNeg (nI (665 * s) + 4)) = N.pr := by rw [e4, nI_clamp (by omega)]; exact c3
  have g3 : z_isI (z_kd S (z_rv S m 0)) = true ∧ vp_in (nI (665 * s) + 3) (z_ln S (z_rv S m 0)) := by rw [e3]; exact rd _ (by omega)
  have g4 : z_isI (z_kd S (z_rv S m 0)) = true ∧ vp_in (nI (665 * s) + 4) (z_ln S (z_rv S m 0)) := by rw [e4]; exact rd _ (by omega)
  have f1 : z_isI (z_kd S (z_rv S m 0)) = true ∧ vp_in (((665 : Int32) * nI s + 5) + nI x) (z_ln S (z_rv S m 0)) := by rw [ea]; exact rd _ (by omega)
  have f2 : z_isI (z_kd S (z_rv S m 0)) = true ∧ vp_in ((665 : Int32) * nI s + 2) (z_ln S (z_rv S m 0)) := by rw [eb]; exact rd _ (by omega)
  have q1 : I (z_rv S m 0) (Int32.toNatClampNeg (((665 : Int32) * nI s + 5) + nI x)) = nI (N.og x) := by rw [ea, nI_clamp (by omega)]; exact c4 x hx
  have q2 : I (z_rv S m 0) (Int32.toNatClampNeg ((665 : Int32) * nI s + 2)) = nI N.ki.toNat := by rw [eb, nI_clamp (by omega)]; exact c1
  unfold nmB at hans
  cases hki : N.ki with
  | true =>
    obtain ⟨p1, p2⟩ := o2 hki
    rw [hki, if_pos rfl] at hans
    refine e_X12_nameAt (b_X12_nameAt_0 hk f1 hk f2 (fun z => absurd (by rw [q2, hki]; rfl) z) (fun _ => ?_))
    rw [q1, e665]
    refine b_X12_nameAt_36 hk g3 (fun z => ?_) (fun z => ?_)
    · rw [r3, nI_leI (by omega) hK] at z
      rw [if_neg (by omega)] at hans
      refine b_X12_nameAt_73 hk g3 hk g4 (fun z2 => b_X12_nameAt_234 ⟨?_, rfl, rfl, rfl⟩) (fun z2 => b_X12_nameAt_229 ⟨?_, rfl, rfl, rfl⟩)
      · rw [r4, r3, pk_sub z] at z2
        rw [hans]
        exact congrArg (fun w => some (Value.int w)) (if_pos z2).symm
      · rw [r4, r3, pk_sub z] at z2
        rw [hans]
        exact congrArg (fun w => some (Value.int w)) (if_neg z2).symm
    · rw [r3, nI_leI (by omega) hK] at z
      rw [if_pos (by omega)] at hans
      have ec : ((nI (665 * s) + 105) + (8 : Int32) * nI (N.og x)) + nI K = nI (665 * s + 105 + 8 * N.og x + K) := by rw [z_lit 105, z_lit 8, pk_mul, nI_add, nI_add, nI_add]
      refine b_X12_nameAt_50 hk (by rw [ec]; exact rd _ (by omega)) ⟨?_, rfl, rfl, rfl⟩
      rw [ec, nI_clamp (by omega), c6 hki x K hx (by omega), z_lit 48, nI_add, hans]
      rfl
  | false =>
    obtain ⟨p1, p2⟩ := o3 hki
    have c5 := c5 hki
    rw [hki, if_neg (by decide)] at hans
    refine e_X12_nameAt (b_X12_nameAt_0 hk f1 hk f2 (fun _ => b_X12_nameAt_90 ?_) (fun z => absurd z (by rw [q2, hki]; decide)))
    rw [q1, e665]
    suffices H : ∀ i, i ≤ N.ln → ∀ e k x5 x6 x7 v8 v9, e < 20 → k < 2 ^ 31 → nmE N.pr (nmN N.sz (N.ln - i) i e k) = ans → x5 = nI k → x6 = nI e → x7 = nI i → Go d i_X12_nameAt 93 [.ref m, .int (nI s), .int (nI x), .int (nI K), .int (nI (665 * s)), .int x5, .int x6, .int x7, v8, v9] [] S I J (z_eq (some (.int ans)) S I J) from H 0 (by omega) (N.og x) K _ _ _ _ _ ho hK (by rw [hans]; rfl) rfl rfl rfl
    refine z_up_to N.ln ?_ ?_
    · rintro e k x5 x6 x7 v8 v9 he hk2 hv rfl rfl rfl
      rw [Nat.sub_self] at hv
      refine b_X12_nameAt_93 hk g3 (fun _ => ?_) (fun z => absurd (by rw [r3]; exact nI_le (Nat.le_refl _) (by omega)) z)
      refine b_X12_nameAt_215 hk g4 (fun z2 => b_X12_nameAt_234 ⟨?_, rfl, rfl, rfl⟩) (fun z2 => b_X12_nameAt_229 ⟨?_, rfl, rfl, rfl⟩)
      · rw [r4] at z2
        rw [← hv]
        exact congrArg (fun w => some (Value.int w)) (if_pos z2).symm
      · rw [r4] at z2
        rw [← hv]
        exact congrArg (fun w => some (Value.int w)) (if_neg z2).symm
    · rintro i hi ih e k x5 x6 x7 v8 v9 he hk2 hv rfl rfl rfl
      obtain ⟨s1, s2⟩ := p2 i hi
      refine b_X12_nameAt_93 hk g3 (fun z => absurd z (by rw [r3]; exact nI_ge hi (by omega))) (fun _ => ?_)
      have ec : (nI (665 * s) + 25) + nI i = nI (665 * s + 25 + i) := by rw [z_lit 25, nI_add, nI_add]
      have gc : z_isI (z_kd S (z_rv S m 0)) = true ∧ vp_in ((nI (665 * s) + 25) + nI i) (z_ln S (z_rv S m 0)) := by rw [ec]; exact rd _ (by omega)
      have rc : I (z_rv S m 0) (Int32.toNatClampNeg ((nI (665 * s) + 25) + nI i)) = nI (N.sz i) := by rw [ec, nI_clamp (by omega)]; exact c5 i hi
      have nz : ¬ I (z_rv S m 0) (Int32.toNatClampNeg ((nI (665 * s) + 25) + nI i)) = 0 := by rw [rc]; exact nI_ne0 (by omega) (by omega)
      obtain ⟨v, hvv⟩ : ∃ v, v = e % N.sz i := ⟨_, rfl⟩
      have hv2 : v < 20 := by rw [hvv]; have := Nat.mod_lt e (show N.sz i > 0 by omega); omega
      have he' : e / N.sz i < 20 := Nat.lt_of_le_of_lt (Nat.div_le_self _ _) he
      have er : nI e - nI e / nI (N.sz i) * nI (N.sz i) = nI v := by rw [pk_rem (by omega) (by omega) (by omega), hvv]
      have ed : nI e / nI (N.sz i) = nI (e / N.sz i) := pk_div (by omega) (by omega) (by omega)
      rw [show N.ln - i = (N.ln - i - 1) + 1 by omega] at hv
      unfold nmN at hv
      rw [← hvv] at hv
      have one : k < wdt v → ∀ x9, Go d i_X12_nameAt 164 [.ref m, .int (nI s), .int (nI x), .int (nI K), .int (nI (665 * s)), .int (nI k), .int (nI (e / N.sz i)), .int (nI i), .int (nI v), .int x9] [] S I J (z_eq (some (.int ans)) S I J) := fun q x9 => by
        have : wdt v ≤ 2 := by
          unfold wdt
          by_cases q : v < 10
          · rw [if_pos q]; omega
          · rw [if_neg q]; omega
        rw [if_pos q] at hv
        exact b_X12_nameAt_164 ⟨_, _, _, _, m_digit (by omega) (by omega) (by omega) q, b_X12_nameAt_171 ⟨congrArg (fun w => some (Value.int w)) hv, rfl, rfl, rfl⟩⟩
      have more : ∀ w, w = wdt v → ¬ k < wdt v → Go d i_X12_nameAt 172 [.ref m, .int (nI s), .int (nI x), .int (nI K), .int (nI (665 * s)), .int (nI k), .int (nI (e / N.sz i)), .int (nI i), .int (nI v), .int (nI w)] [] S I J (z_eq (some (.int ans)) S I J) := by
        rintro w rfl q
        rw [if_neg q] at hv
        have es : nI k - nI (wdt v) = nI (k - wdt v) := pk_sub (by omega)
        refine b_X12_nameAt_172 hk g3 (fun z => ?_) (fun z => ?_)
        · rw [r3, nI_1, nI_eq (by omega) (by omega)] at z
          rw [if_neg (show ¬ N.ln - i - 1 = 0 by omega)] at hv
          rw [es]
          refine b_X12_nameAt_198 (fun z2 => ?_) (fun z2 => b_X12_nameAt_203 ⟨?_, rfl, rfl, rfl⟩)
          · rw [z_lit 0, nI_eq (by omega) (by decide)] at z2
            rw [if_neg z2] at hv
            refine b_X12_nameAt_206 (ih (e / N.sz i) (k - wdt v - 1) _ _ _ _ _ he' (by omega) (by rw [show N.ln - (i + 1) = N.ln - i - 1 by omega]; exact hv) ?_ rfl (nI_1 i))
            obtain ⟨y, hy⟩ : ∃ y, k - wdt v = y + 1 := ⟨k - wdt v - 1, by omega⟩
            rw [hy, pk_m1]; rfl
          · rw [z_lit 0, nI_eq (by omega) (by decide)] at z2
            rw [if_pos z2] at hv
            exact congrArg (fun w => some (Value.int w)) hv
        · rw [r3, nI_1, nI_eq (by omega) (by omega)] at z
          rw [if_pos (show N.ln - i - 1 = 0 by omega)] at hv
          rw [es]
          refine b_X12_nameAt_195 (ih (e / N.sz i) (k - wdt v) _ _ _ _ _ he' (by omega) (by rw [show N.ln - (i + 1) = 0 by omega]; exact hv) rfl rfl (nI_1 i))
      refine b_X12_nameAt_107 hk gc nz hk gc nz (fun z => ?_) (fun z => ?_)
      · rw [rc, er, z_lit 10, nI_leI (by decide) (by omega)] at z
        rw [rc, er, ed]
        have ew : wdt v = 2 := if_neg (by omega)
        exact b_X12_nameAt_154 (fun z2 => more 2 ew.symm (by rw [z_lit 2, nI_leI (by decide) hk2] at z2; omega)) (fun z2 => one (by rw [z_lit 2, nI_leI (by decide) hk2] at z2; omega) _)
      · rw [rc, er, z_lit 10, nI_leI (by decide) (by omega)] at z
        rw [rc, er, ed]
        have ew : wdt v = 1 := if_pos (by omega)
        exact b_X12_nameAt_150 (fun z2 => more 1 ew.symm (by rw [z_lit 1, nI_leI (by decide) hk2] at z2; omega)) (fun z2 => one (by rw [z_lit 1, nI_leI (by decide) hk2] at z2; omega) _)
end M19
noncomputable def aName (N : Nat → Nat) (M : Nat → Nm) (x1 x2 x3 : Int32) : Int32 := zq (El 2 x1 ∧ El (N (ix x1)) x2) (zq (0 ≤ x3) (nmE (M (ix x1)).pr (nmB (M (ix x1)) (ix x2) (ix x3))) (-3)) (-2)
section M20
variable {d m : Nat} {N : Nat → Nat} {T : Nat → Nat → Nat → Nat} {V : Nat → Nat → Nat} {P : Nat → Nat} {M : Nat → Nm} {S : zS} {I I' : zI} {J : zJ}
theorem MNm.mq {s n : Nat} {N : Nm} (h : MNm S I m s n N) (hL : MLay S m) (hq : MQy I I' m) : MNm S I' m s n N := by
  have e : I' (z_rv S m 0) = I (z_rv S m 0) := by rw [hL.a0.1]; exact hq.1 (m + 1) (by omega) (by omega)
  unfold MNm
  rw [e]; exact h
theorem m_name (x1 x2 x3 : Int32) (hd : 3 < d) (h : MSS S I m N T P) (hG : GS N T V P) (hM : ∀ s, s < 2 → MNm S I m s (N s) (M s)) : ∃ I', z_ev d i_X12_name [.ref m, .int x1, .int x2, .int x3] S I J (some (.int (aName N M x1 x2 x3))) S I' J ∧ MQy I I' m := by
  obtain ⟨d, rfl⟩ := z_dep (d := d) (by omega)
  refine aQ.ex (w_X12_name (b_X12_name_0 h.1.k h.1.k ⟨_, _, _, _, m_isEl x1 x2 (by omega) h.th hG, ?_⟩))
  refine b_X12_name_11 (fun c => ?_) (fun c => b_X12_name_14 ⟨z_someI ?_, rfl, rfl, mq_th⟩)
  · rw [zb_1] at c
    have e : aName N M x1 x2 x3 = _ := zq_t c
    refine b_X12_name_17 (fun c3 => ?_) (fun c3 => b_X12_name_21 ⟨z_someI ?_, rfl, rfl, mq_th⟩)
    · rw [zq_t c3] at e
      obtain ⟨⟨s, hs, rfl⟩, c2⟩ := c
      have es : ix (nI s) = s := ix_nI (by omega)
      rw [es] at c2 e
      obtain ⟨x, hx, rfl⟩ := c2
      have hn := (hG s hs).1.le
      obtain ⟨K, hK, rfl⟩ := nI_of (x := x3) (fun z => absurd c3 (by
        rw [Int32.le_iff_toInt_le]
        rw [Int32.lt_iff_toInt_lt] at z
        omega))
      rw [ix_nI (by omega), ix_nI hK] at e
      rw [e]
      exact b_X12_name_26 h.1.k ⟨_, _, _, _, m_nameAt (by omega) h.1.ma hs ((hM s hs).mq h.1 mq_th) hx hn hK, b_X12_name_33 ⟨rfl, rfl, rfl, mq_th⟩⟩
    · rw [e, zq_f c3]
  · rw [zb_0] at c
    exact (zq_f c).symm
/-- two of the model's fields, told one by one -/
noncomputable def aTwo (p q x1 : Int32) : Int32 := if x1 = 0 then p else if x1 = 1 then q else -1
theorem m_fault (x1 : Int32) (hd : 0 < d) (h : MLay S m) : ∃ I', z_ev d i_X12_fault [.ref m, .int x1] S I J (some (.int (aTwo (I m 6) (I m 7) x1))) S I' J ∧ MQy I I' m := by
  obtain ⟨d, rfl⟩ := z_dep (d := d) (by omega)
  unfold aTwo
  refine aQ.ex (w_X12_fault (b_X12_fault_0 h.k (fun c => b_X12_fault_16 (fun c2 => b_X12_fault_28 ⟨z_someI ?_, rfl, rfl, mq_th⟩) (fun c2 => b_X12_fault_21 h.k ⟨z_someI ?_, rfl, rfl, mq_th⟩)) (fun c => b_X12_fault_9 h.k ⟨z_someI ?_, rfl, rfl, mq_th⟩)))
  · rw [if_neg c, if_neg c2]
  · rw [if_neg c, if_pos c2, z_u2_nk (by decide)]
  · rw [if_pos c, z_u2_nk (by decide)]
theorem m_count (x1 : Int32) (hd : 0 < d) (h : MLay S m) : ∃ I', z_ev d i_X12_count [.ref m, .int x1] S I J (some (.int (aTwo (I m 19) (I m 3) x1))) S I' J ∧ MQy I I' m := by
  obtain ⟨d, rfl⟩ := z_dep (d := d) (by omega)
  unfold aTwo
  refine aQ.ex (w_X12_count (b_X12_count_0 h.k (fun c => b_X12_count_16 (fun c2 => b_X12_count_28 ⟨z_someI ?_, rfl, rfl, mq_th⟩) (fun c2 => b_X12_count_21 h.k ⟨z_someI ?_, rfl, rfl, mq_th⟩)) (fun c => b_X12_count_9 h.k ⟨z_someI ?_, rfl, rfl, mq_th⟩)))
  · rw [if_neg c, if_neg c2]
  · rw [if_neg c, if_pos c2, z_u2_nk (by decide)]
  · rw [if_pos c, z_u2_nk (by decide)]
end M20

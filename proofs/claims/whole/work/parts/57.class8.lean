/-! THE CLASS: all its subgroups -/
def subQ (S : zS) (I0 : zI) (J : zJ) (g n : Nat) (t : Nat → Nat → Nat) : zQ := fun v S' I' J' => v = none ∧ S' = S ∧ J' = J ∧ ∃ f', SM S I0 I' g (nsub n t) f' ∧ ∀ i, i < nsub n t → f' i = kth (SG n t) i
section C8
variable {d g n : Nat} {t : Nat → Nat → Nat} {iv : Nat → Nat} {S : zS} {I I0 : zI} {J : zJ}
/-- what holds of the row so far -/
def SB (n : Nat) (t : Nat → Nat → Nat) (N : Nat) (f : Nat → Nat) : Prop := 0 < N ∧ f 0 = 1 ∧ (∀ i, i < N → SG n t (f i)) ∧ ∀ i j, i < j → j < N → f i ≠ f j
theorem SB.le {N : Nat} {f : Nat → Nat} (h : SB n t N f) : N ≤ nsub n t := zcn_inj (fun i hi => ⟨h.2.2.1 i hi, (h.2.2.1 i hi).1⟩) h.2.2.2
theorem c_subs_loop {L : Nat} (hd : 4 < d) (hC : CT S I0 g n t) (hg : Grp n t iv) (h1 : z_rv S g 1 ≠ z_rv S g 10) (hA : z_kd S (z_rv S g 10) = 100) (hl : z_ln S (z_rv S g 10) = L) (hL : L ≤ 80) (hnL : nsub n t ≤ L) :
    ∀ k, k ≤ L → ∀ I N f, SM S I0 I g N f → SB n t N f → k ≤ N → (∀ i, i < k → ∀ x, x < n → ∃ j, j < N ∧ f j = gen n t (f i ||| 2 ^ x)) → ∀ x1 v2 v3 v4 v5, x1 = nI k → Go d i_X1_findSubgroups 36 [.ref g, .int x1, v2, v3, v4, v5] [] S I J (subQ S I0 J g n t) := by
  have hk := hC.1
  have hn := hC.le
  have hI : z_isI (z_kd S (z_rv S g 10)) = true := by rw [hA]; rfl
  have fin : ∀ I N f, SM S I0 I g N f → SB n t N f → (∀ i, i < N → ∀ x, x < n → ∃ j, j < N ∧ f j = gen n t (f i ||| 2 ^ x)) → ∀ x1 v2 v3 v4 v5, Go d i_X1_findSubgroups 134 [.ref g, .int x1, v2, v3, v4, v5] [] S I J (subQ S I0 J g n t) := by
    intro I N f hm hb hcl x1 v2 v3 v4 v5
    have hNn := hb.le
    obtain ⟨I', f', e1, e2, e3, e4⟩ := c_sort (d := d) (J := J) (by omega) hk hA hl (by omega) hL (fun i hi => z_lt31 hn (hb.2.2.1 i hi).1) hm hb.2.2.2
    have hE : Enum (SG n t) (2 ^ n) N f' := by
      refine ⟨fun i hi => ?_, e3, fun a _ ha => (e4 a).mpr (sub_all hg ⟨0, hb.1, hb.2.1⟩ hb.2.2.1 hcl a ha)⟩
      obtain ⟨j, g1, g2⟩ := (e4 (f' i)).mp ⟨i, hi, rfl⟩
      rw [← g2]
      exact ⟨hb.2.2.1 j g1, (hb.2.2.1 j g1).1⟩
    have hN : N = nsub n t := hE.cnt
    refine b_X1_findSubgroups_134 hk ⟨_, _, _, _, e1, b_X1_findSubgroups_138 ⟨rfl, rfl, rfl, f', ?_, fun i hi => hE.kth (by omega)⟩⟩
    rw [← hN]; exact e2
  refine z_up_to L ?_ ?_
  · rintro I N f hm hb hkN hcl x1 v2 v3 v4 v5 rfl
    have hNn := hb.le
    have hNL : N = L := by omega
    subst hNL
    exact b_X1_findSubgroups_36 hk (fun _ => fin I N f hm hb hcl _ _ _ _ _) (fun c => absurd (by rw [hm.2.2.1]; exact nI_le (Nat.le_refl _) (by omega)) c)
  · rintro k hkL ih I N f hm hb hkN hcl x1 v2 v3 v4 v5 rfl
    have hNn := hb.le
    refine b_X1_findSubgroups_36 hk (fun c => ?_) (fun c => ?_)
    · rw [hm.2.2.1, nI_leI (by omega) (by omega)] at c
      have hNk : N = k := by omega
      subst hNk
      exact fin I N f hm hb hcl _ _ _ _ _
    · rw [hm.2.2.1, nI_leI (by omega) (by omega)] at c
      refine b_X1_findSubgroups_44 hk (by rw [hA]; rfl) (fun c2 => absurd c2 (by rw [hl]; exact nI_ge hkL (by omega))) (fun _ => ?_)
      refine b_X1_findSubgroups_53 hk ⟨hI, by rw [hl]; exact vp_in_nI hkL (by omega)⟩ ?_
      rw [nI_clamp (by omega), hm.2.2.2 k (by omega)]
      have hs := hb.2.2.1 k (by omega)
      suffices H : ∀ x, x ≤ n → ∀ I N' f' cv, SM S I0 I g N' f' → SB n t N' f' → N ≤ N' → (∀ i, i < N → f' i = f i) → cv < 2 ^ n → (∀ y, y < x → cv.testBit y = true) → (∀ y, y < n → (f k).testBit y = true → cv.testBit y = true) → (∀ y, y < n → cv.testBit y = true → ∃ j, j < N' ∧ f' j = gen n t (f k ||| 2 ^ y)) → ∀ x3 x4 v5, x3 = nI cv → x4 = nI x → Go d i_X1_findSubgroups 65 [.ref g, .int (nI k), .int (nI (f k)), .int x3, .int x4, v5] [] S I J (subQ S I0 J g n t) by
        refine H 0 (by omega) I N f (f k) hm hb (Nat.le_refl _) (fun _ _ => rfl) hs.1 (fun y hy => by omega) (fun y _ q => q) (fun y hy q => ⟨k, by omega, ?_⟩) _ _ _ rfl rfl
        have e : f k ||| 2 ^ y = f k := by
          refine z_ext (z_or_lt hs.1 (z_pw hy)) hs.1 (fun i hi => ?_)
          rw [z_tb_or_pow]
          by_cases hiy : i = y
          · rw [hiy, q]; rfl
          · rw [decide_eq_false hiy, Bool.or_false]
        rw [e, hs.fx hg]
      refine z_up_to n ?_ ?_
      · rintro I' N' f' cv g1 g2 g3 g4 g5 g6 g7 g8 x3 x4 v5 rfl rfl
        have hC' := g1.ct hC h1
        refine b_X1_findSubgroups_65 hk (fun _ => ?_) (fun c => absurd hC'.ge c)
        refine b_X1_findSubgroups_128 (ih I' N' f' g1 g2 (by omega) (fun i hi x hx => ?_) _ _ _ _ _ (nI_1 k))
        rw [g4 i (by omega)]
        by_cases hik : i = k
        · rw [hik]; exact g8 x hx (g6 x hx)
        · obtain ⟨j, q1, q2⟩ := hcl i (by omega) x hx
          exact ⟨j, by omega, by rw [g4 j q1]; exact q2⟩
      · rintro x hx ih2 I' N' f' cv g1 g2 g3 g4 g5 g6 g7 g8 x3 x4 v5 rfl rfl
        have hC' := g1.ct hC h1
        have hNn' := g2.le
        have hcv := z_lt31 hn g5
        refine b_X1_findSubgroups_65 hk (fun c => absurd c (hC'.nge hx)) (fun _ => ?_)
        refine b_X1_findSubgroups_74 (fun c2 => b_X1_findSubgroups_122 (ih2 I' N' f' cv g1 g2 g3 g4 g5 (fun y hy => ?_) g7 g8 _ _ _ rfl (nI_1 x))) (fun c2 => ?_)
        · rw [z_bit0 hcv (by omega), Bool.not_eq_false] at c2
          by_cases hyx : y = x
          · rw [hyx]; exact c2
          · exact g6 y (by omega)
        · rw [z_bit0 hcv (by omega)] at c2
          have hfx : (f k).testBit x = false := by
            cases hb : (f k).testBit x with
            | false => rfl
            | true => rw [g7 x hx hb] at c2; cases c2
          have hlt : f k ||| 2 ^ x < 2 ^ n := z_or_lt hs.1 (z_pw hx)
          have hG := gen_SG hg (f k ||| 2 ^ x)
          refine b_X1_findSubgroups_83 hk ⟨_, _, _, _, by rw [z_shl1 (by omega), z_or]; exact c_span (by omega) hC' hlt, ?_⟩
          obtain ⟨I2, N2, f2, k1, k2, k3, k4, k5, k6, k7⟩ := c_keep (d := d) (J := J) (L := L) (a := gen n t (f k ||| 2 ^ x)) (by omega) hk hA hl (by omega) hL (z_lt31 hn hG.1) (fun i hi => z_lt31 hn (g2.2.2.1 i hi).1) (fun hno => by
            have : N' + 1 ≤ nsub n t := zcn_inj (f := zput f' N' (gen n t (f k ||| 2 ^ x))) (fun i hi => by
              by_cases hiN : i = N'
              · rw [hiN, zput_s]; exact ⟨hG, hG.1⟩
              · rw [zput_n hiN]; exact ⟨g2.2.2.1 i (by omega), (g2.2.2.1 i (by omega)).1⟩) (fun i j hij hj => by
              by_cases hjN : j = N'
              · rw [hjN, zput_s, zput_n (by omega)]; exact hno i (by omega)
              · rw [zput_n hjN, zput_n (by omega)]; exact g2.2.2.2 i j hij (by omega))
            omega) g1 g2.2.2.2
          have hb2 : SB n t N2 f2 := by
            refine ⟨by omega, by rw [k4 0 g2.1]; exact g2.2.1, fun i hi => ?_, k7⟩
            rcases k6 i hi with q | q
            · rw [k4 i q]; exact g2.2.2.1 i q
            · rw [q]; exact hG
          refine b_X1_findSubgroups_93 hk ⟨_, _, _, _, k1, ?_⟩
          refine b_X1_findSubgroups_101 ⟨_, _, _, _, c_hasNoneBetween (by omega) hn hs.1 hG.1 (zc_pos hg.pos hs.z), ?_⟩
          have hsub : ∀ i, i < n → (f k).testBit i = true → (gen n t (f k ||| 2 ^ x)).testBit i = true := fun i hi q => gen_has hg hi ((b_orp _ _ _).mpr (Or.inl q))
          have old : ∀ y, y < n → cv.testBit y = true → ∃ j, j < N2 ∧ f2 j = gen n t (f k ||| 2 ^ y) := fun y hy q => by
            obtain ⟨j, q1, q2⟩ := g8 y hy q
            exact ⟨j, by omega, by rw [k4 j q1]; exact q2⟩
          refine b_X1_findSubgroups_108 (fun c3 => b_X1_findSubgroups_116 (ih2 I2 N2 f2 (cv ||| 2 ^ x) k2 hb2 (by omega) (fun i hi => by rw [k4 i (by omega)]; exact g4 i hi) (z_or_lt g5 (z_pw hx)) (fun y hy => ?_) (fun y hy q => ?_) (fun y hy q => ?_) _ _ _ (by rw [z_shl1 (by omega), z_or]) (nI_1 x))) (fun c3 => b_X1_findSubgroups_111 (ih2 I2 N2 f2 (cv ||| gen n t (f k ||| 2 ^ x)) k2 hb2 (by omega) (fun i hi => by rw [k4 i (by omega)]; exact g4 i hi) (z_or_lt g5 hG.1) (fun y hy => ?_) (fun y hy q => ?_) (fun y hy q => ?_) _ _ _ (z_or _ _) (nI_1 x)))
          · rw [b_orp]
            by_cases hyx : y = x
            · exact Or.inr hyx
            · exact Or.inl (g6 y (by omega))
          · rw [b_orp]; exact Or.inl (g7 y hy q)
          · rw [b_orp] at q
            rcases q with q | rfl
            · exact old y hy q
            · exact k5
          · rw [Nat.testBit_or, Bool.or_eq_true]
            by_cases hyx : y = x
            · rw [hyx]; exact Or.inr (gen_has hg hx ((b_orp _ _ _).mpr (Or.inr rfl)))
            · exact Or.inl (g6 y (by omega))
          · rw [Nat.testBit_or, Bool.or_eq_true]; exact Or.inl (g7 y hy q)
          · rw [Nat.testBit_or, Bool.or_eq_true] at q
            rcases q with q | q
            · exact old y hy q
            · cases hyb : (f k).testBit y with
              | true => exact old y hy (g7 y hy hyb)
              | false =>
                rw [sub_prime hg hs hG hsub (zb_1.mp c3) hy q hyb]
                exact k5
end C8

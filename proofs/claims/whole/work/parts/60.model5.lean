/-! THE MODEL: all its subgroups -/
def MB (n : Nat) (t : Nat → Nat → Nat) (N : Nat) (f : Nat → Nat) : Prop := (∃ i, i < N ∧ f i = 1) ∧ (∀ i, i < N → SG n t (f i)) ∧ ∀ i j, i < j → j < N → f i < f j
section M5
variable {d m s n : Nat} {t : Nat → Nat → Nat} {iv : Nat → Nat} {S : zS} {I I0 : zI} {J : zJ}
theorem MB.le {N : Nat} {f : Nat → Nat} (h : MB n t N f) : N ≤ nsub n t := zcn_inj (fun i hi => ⟨h.2.1 i hi, (h.2.1 i hi).1⟩) (fun i j h1 h2 e => by have := h.2.2 i j h1 h2; omega)
theorem MS.fr {I' : zI} (h : MS S I m s n t) (h1 : I' (z_rv S m 0) = I (z_rv S m 0)) : MS S I' m s n t := by
  obtain ⟨a1, a2, a3, a4, a5⟩ := h
  exact ⟨a1, a2, a3, by rw [h1]; exact a4, fun x hx y hy => by rw [h1]; exact a5 x hx y hy⟩
theorem or_in {a y : Nat} (ha : a < 2 ^ n) (hy : y < n) (q : a.testBit y = true) : a ||| 2 ^ y = a := by
  refine z_ext (z_or_lt ha (z_pw hy)) ha (fun i hi => ?_)
  rw [z_tb_or_pow]
  by_cases hiy : i = y
  · rw [hiy, q]; rfl
  · rw [decide_eq_false hiy, Bool.or_false]
theorem m_laysSubgroups (hd : 4 < d) (h : MS S I0 m s n t) (hg : Grp n t iv) (hA : z_kd S (z_rv S m 22) = 100) (hl : z_ln S (z_rv S m 22) = 128) (h0 : z_rv S m 0 ≠ z_rv S m 22) : ∃ I', z_ev d i_X12_laysSubgroups [.ref m, .int (nI s)] S I0 J none S I' J ∧ MM S I0 I' m (nsub n t) (kth (SG n t)) := by
  obtain ⟨d, rfl⟩ := z_dep (d := d) (by omega)
  have hk := h.1.1
  have hn := h.2.2.1.2.1
  have hsub := (nsub_le hg).1
  have hm0 : z_rv S m 0 ≠ m := fun e => by have := h.1.2.1; rw [e, hk] at this; cases this
  have hne : m ≠ z_rv S m 22 := fun e => by rw [← e, hk] at hA; cases hA
  have hI : z_isI (z_kd S (z_rv S m 22)) = true := by rw [hA]; rfl
  have hms : ∀ I N f, MM S I0 I m N f → MS S I m s n t := fun I N f hm => h.fr (hm.1 _ hm0 h0)
  suffices hw : z_wp (d + 1) i_X12_laysSubgroups [.ref m, .int (nI s)] S I0 J (fun v S' I' J' => v = none ∧ S' = S ∧ J' = J ∧ MM S I0 I' m (nsub n t) (kth (SG n t))) by
    obtain ⟨v, S', I', J', x1, rfl, rfl, rfl, x2⟩ := hw
    exact ⟨I', x1, x2⟩
  have hmm0 : MM S I0 (z_u2 I0 m 23 0) m 0 (fun _ => 0) := ⟨fun h h1 h2 => z_u2_row h1, fun k hk' => z_u2_nk hk', z_u2_same, fun i hi => by omega⟩
  obtain ⟨I1, N1, f1, a1, a2, a3, a4, a5, a6⟩ := m_comes (d := d) (J := J) (a := 1) (by omega) hk hA hl (by omega) (by decide) (fun i hi => by omega) hmm0 (fun i j _ _ => by omega)
  have hb1 : MB n t N1 f1 := ⟨(a4 1).mpr (Or.inr rfl), fun i hi => by
    rcases (a4 (f1 i)).mp ⟨i, hi, rfl⟩ with ⟨j, q, _⟩ | q
    · omega
    · rw [q]; exact sg_one hg, a3⟩
  refine w_X12_laysSubgroups (b_X12_laysSubgroups_0 hk hk ⟨_, _, _, _, a1, b_X12_laysSubgroups_10 ?_⟩)
  -- the end
  have fin : ∀ I N f x2 v3 v4 v5, x2 = nI N → MM S I0 I m N f → MB n t N f → (∀ i, i < N → ∀ x, x < n → ∃ j, j < N ∧ f j = gen n t (f i ||| 2 ^ x)) → Go d i_X12_laysSubgroups 12 [.ref m, .int (nI s), .int x2, v3, v4, v5] [] S I J (fun v S' I' J' => v = none ∧ S' = S ∧ J' = J ∧ MM S I0 I' m (nsub n t) (kth (SG n t))) := by
    rintro I N f x2 v3 v4 v5 rfl hm hb hcl
    have hE : Enum (SG n t) (2 ^ n) N f := ⟨fun i hi => ⟨hb.2.1 i hi, (hb.2.1 i hi).1⟩, hb.2.2, fun a _ ha => sub_all hg hb.1 hb.2.1 hcl a ha⟩
    have hN : N = nsub n t := hE.cnt
    refine b_X12_laysSubgroups_12 hk (fun _ => b_X12_laysSubgroups_97 ⟨rfl, rfl, rfl, hm.1, hm.2.1, by rw [← hN]; exact hm.2.2.1, fun i hi => ?_⟩) (fun c => absurd hm.2.2.1.symm c)
    rw [hm.2.2.2 i (by omega), hE.kth (by omega)]
  -- a round
  have round : ∀ c, ∀ I N f w x2 v3 v4 v5, nsub n t - N < c → w < N → x2 = nI w → MM S I0 I m N f → MB n t N f → Go d i_X12_laysSubgroups 12 [.ref m, .int (nI s), .int x2, v3, v4, v5] [] S I J (fun v S' I' J' => v = none ∧ S' = S ∧ J' = J ∧ MM S I0 I' m (nsub n t) (kth (SG n t))) := by
    intro c
    induction c with
    | zero => intro I N f w x2 v3 v4 v5 hc; omega
    | succ c ihc =>
      rintro I N f w x2 v3 v4 v5 hc hw rfl hm hb
      have hNn := hb.le
      refine b_X12_laysSubgroups_12 hk (fun e => ?_) (fun _ => b_X12_laysSubgroups_20 hk ?_)
      · rw [hm.2.2.1, nI_eq (by omega) (by omega)] at e
        omega
      rw [hm.2.2.1]
      suffices H : ∀ i, i ≤ 80 → ∀ I N1 f1, MM S I0 I m N1 f1 → MB n t N1 f1 → N ≤ N1 → (N1 = N → ∀ i', i' < i → i' < N1 → ∀ x, x < n → ∃ j, j < N1 ∧ f1 j = gen n t (f1 i' ||| 2 ^ x)) → ∀ x3 v4 v5, x3 = nI i → Go d i_X12_laysSubgroups 27 [.ref m, .int (nI s), .int (nI N), .int x3, v4, v5] [] S I J (fun v S' I' J' => v = none ∧ S' = S ∧ J' = J ∧ MM S I0 I' m (nsub n t) (kth (SG n t))) from H 0 (by omega) I N f hm hb (Nat.le_refl _) (fun _ i' hi' => by omega) _ _ _ rfl
      have out : ∀ i I N1 f1, MM S I0 I m N1 f1 → MB n t N1 f1 → N ≤ N1 → N1 ≤ i → (N1 = N → ∀ i', i' < i → i' < N1 → ∀ x, x < n → ∃ j, j < N1 ∧ f1 j = gen n t (f1 i' ||| 2 ^ x)) → ∀ v4 v5, Go d i_X12_laysSubgroups 94 [.ref m, .int (nI s), .int (nI N), .int (nI i), v4, v5] [] S I J (fun v S' I' J' => v = none ∧ S' = S ∧ J' = J ∧ MM S I0 I' m (nsub n t) (kth (SG n t))) := by
        intro i I N1 f1 h1 h2 h3 h4 h5 v4 v5
        refine b_X12_laysSubgroups_94 ?_
        by_cases e : N1 = N
        · subst e
          exact fin I _ f1 _ _ _ _ rfl h1 h2 (fun i' hi' => h5 rfl i' (by omega) hi')
        · exact ihc I N1 f1 N _ _ _ _ (by have := h2.le; omega) (by omega) rfl h1 h2
      refine z_up_to 80 ?_ ?_
      · rintro I N1 f1 h1 h2 h3 h4 x3 v4 v5 rfl
        have := h2.le
        exact b_X12_laysSubgroups_27 hk (fun _ => out 80 I N1 f1 h1 h2 h3 (by omega) h4 _ _) (fun c => absurd (by rw [h1.2.2.1]; exact nI_le (by omega) (by omega)) c)
      · rintro i hi ih I N1 f1 h1 h2 h3 h4 x3 v4 v5 rfl
        have hN1 := h2.le
        refine b_X12_laysSubgroups_27 hk (fun c => ?_) (fun c => ?_)
        · rw [h1.2.2.1, nI_leI (by omega) (by omega)] at c
          exact out i I N1 f1 h1 h2 h3 c h4 _ _
        rw [h1.2.2.1, nI_leI (by omega) (by omega)] at c
        refine b_X12_laysSubgroups_35 hk ⟨hI, by rw [hl]; exact vp_in_nI (by omega) (by omega)⟩ ?_
        rw [nI_clamp (by omega), h1.2.2.2 i (by omega)]
        have hs := h2.2.1 i (by omega)
        suffices H2 : ∀ x, x ≤ n → 1 ≤ x → ∀ I N2 f2, MM S I0 I m N2 f2 → MB n t N2 f2 → N1 ≤ N2 → (N2 = N → (∀ i', i' < i → i' < N2 → ∀ x, x < n → ∃ j, j < N2 ∧ f2 j = gen n t (f2 i' ||| 2 ^ x)) ∧ f2 i = f1 i ∧ ∀ y, 1 ≤ y → y < x → ∃ j, j < N2 ∧ f2 j = gen n t (f1 i ||| 2 ^ y)) → ∀ x5, x5 = nI x → Go d i_X12_laysSubgroups 46 [.ref m, .int (nI s), .int (nI N), .int (nI i), .int (nI (f1 i)), .int x5] [] S I J (fun v S' I' J' => v = none ∧ S' = S ∧ J' = J ∧ MM S I0 I' m (nsub n t) (kth (SG n t))) from H2 1 hg.pos (by omega) I N1 f1 h1 h2 (Nat.le_refl _) (fun e => ⟨h4 e, rfl, fun y q1 q2 => by omega⟩) _ rfl
        refine z_up_to n ?_ ?_
        · rintro hx1 I N2 f2 g1 g2 g3 g4 x5 rfl
          refine b_X12_laysSubgroups_46 hk ⟨_, _, _, _, m_many (by omega) (hms I N2 f2 g1), ?_⟩
          refine b_X12_laysSubgroups_53 (fun _ => b_X12_laysSubgroups_88 (ih I N2 f2 g1 g2 (by omega) (fun e i' q1 q2 x hx => ?_) _ _ _ (nI_1 i))) (fun c => absurd (nI_le (Nat.le_refl _) (by omega)) c)
          obtain ⟨r1, r2, r3⟩ := g4 e
          by_cases hii : i' = i
          · rw [hii, r2]
            rcases Nat.eq_zero_or_pos x with q | q
            · rw [q, or_in hs.1 hg.pos hs.z, hs.fx hg]
              exact ⟨i, by omega, r2⟩
            · exact r3 x q hx
          · exact r1 i' (by omega) q2 x hx
        · rintro x hx ih2 hx1 I N2 f2 g1 g2 g3 g4 x5 rfl
          have hN2 := g2.le
          refine b_X12_laysSubgroups_46 hk ⟨_, _, _, _, m_many (by omega) (hms I N2 f2 g1), ?_⟩
          refine b_X12_laysSubgroups_53 (fun c => absurd c (nI_ge hx (by omega))) (fun _ => ?_)
          refine b_X12_laysSubgroups_56 ⟨_, _, _, _, m_has (by omega) (z_lt31 hn hs.1) (by omega), ?_⟩
          refine b_X12_laysSubgroups_63 (fun c2 => b_X12_laysSubgroups_82 (ih2 (by omega) I N2 f2 g1 g2 g3 (fun e => ?_) _ (nI_1 x))) (fun c2 => ?_)
          · obtain ⟨r1, r2, r3⟩ := g4 e
            refine ⟨r1, r2, fun y q1 q2 => ?_⟩
            by_cases hyx : y = x
            · rw [hyx, or_in hs.1 hx (z_tn1.mp c2), hs.fx hg]
              exact ⟨i, by omega, r2⟩
            · exact r3 y q1 (by omega)
          · have hlt : f1 i ||| 2 ^ x < 2 ^ n := z_or_lt hs.1 (z_pw hx)
            have hG := gen_SG hg (f1 i ||| 2 ^ x)
            refine b_X12_laysSubgroups_66 hk ⟨_, _, _, _, by rw [z_shl1 (by omega), z_or]; exact m_subgroupOf (by omega) (hms I N2 f2 g1) hg hlt, ?_⟩
            obtain ⟨I3, N3, f3, k1, k2, k3, k4, k5, k6⟩ := m_comes (d := d) (J := J) (a := gen n t (f1 i ||| 2 ^ x)) (by omega) hk hA hl (by omega) (z_lt31 hn hG.1) (fun j hj => z_lt31 hn (g2.2.1 j hj).1) g1 g2.2.2
            have hb3 : MB n t N3 f3 := ⟨(k4 1).mpr (Or.inl g2.1), fun j hj => by
              rcases (k4 (f3 j)).mp ⟨j, hj, rfl⟩ with ⟨j', q1, q2⟩ | q
              · rw [← q2]; exact g2.2.1 j' q1
              · rw [q]; exact hG, k3⟩
            refine b_X12_laysSubgroups_79 hk ⟨_, _, _, _, k1, b_X12_laysSubgroups_82 (ih2 (by omega) I3 N3 f3 k2 hb3 (by omega) (fun e => ?_) _ (nI_1 x))⟩
            have e2 : N3 = N2 := by omega
            obtain ⟨r1, r2, r3⟩ := g4 (by omega)
            have k7 := k6 e2
            subst e2
            refine ⟨fun i' q1 q2 x' hx' => ?_, by rw [k7 i (by omega)]; exact r2, fun y q1 q2 => ?_⟩
            · obtain ⟨j, w1, w2⟩ := r1 i' q1 q2 x' hx'
              exact ⟨j, w1, by rw [k7 j w1, k7 i' q2]; exact w2⟩
            · by_cases hyx : y = x
              · rw [hyx]; exact (k4 _).mpr (Or.inr rfl)
              · obtain ⟨j, w1, w2⟩ := r3 y q1 (by omega)
                exact ⟨j, w1, by rw [k7 j w1]; exact w2⟩
  exact round (nsub n t + 1) I1 N1 f1 0 _ _ _ _ (by omega) (by obtain ⟨i, q, _⟩ := hb1.1; omega) rfl a2 hb1
end M5

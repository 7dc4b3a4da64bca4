/-! THE MODEL: its subgroups -/
def MM (S : zS) (I0 I : zI) (m N : Nat) (f : Nat → Nat) : Prop := (∀ h, h ≠ m → h ≠ z_rv S m 22 → I h = I0 h) ∧ (∀ k, k ≠ 23 → I m k = I0 m k) ∧ I m 23 = nI N ∧ ∀ i, i < N → I (z_rv S m 22) i = nI (f i)
section M4
variable {d m s n : Nat} {t : Nat → Nat → Nat} {iv : Nat → Nat} {S : zS} {I I0 : zI} {J : zJ}
theorem m_comes {N a : Nat} {f : Nat → Nat} (hd : 0 < d) (hk : z_kd S m = 13) (hA : z_kd S (z_rv S m 22) = 100) (hl : z_ln S (z_rv S m 22) = 128) (hN : N < 128) (ha : a < 2 ^ 31) (hf : ∀ i, i < N → f i < 2 ^ 31) (h : MM S I0 I m N f) (hup : ∀ i j, i < j → j < N → f i < f j) :
    ∃ I' N' f', z_ev d i_X12_comes [.ref m, .int (nI a)] S I J none S I' J ∧ MM S I0 I' m N' f' ∧ (∀ i j, i < j → j < N' → f' i < f' j) ∧ (∀ b, (∃ i, i < N' ∧ f' i = b) ↔ (∃ i, i < N ∧ f i = b) ∨ b = a) ∧ N ≤ N' ∧ (N' = N → ∀ i, i < N → f' i = f i) := by
  obtain ⟨d, rfl⟩ := z_dep hd
  obtain ⟨m1, m2, m3, m4⟩ := h
  have hne : m ≠ z_rv S m 22 := fun e => by rw [← e, hk] at hA; cases hA
  have hI : z_isI (z_kd S (z_rv S m 22)) = true := by rw [hA]; rfl
  -- where it belongs
  have key : ∀ j, j ≤ N → (∀ i, j ≤ i → i < N → a < f i) → ∃ i, i ≤ j ∧ (∀ k, i ≤ k → k < N → a < f k) ∧ (i = 0 ∨ f (i - 1) ≤ a) ∧ ∀ (Q : zQ) v3, Go d i_X12_comes 27 [.ref m, .int (nI a), .int (nI i), v3] [] S I J Q → Go d i_X12_comes 5 [.ref m, .int (nI a), .int (nI j), v3] [] S I J Q := by
    intro j
    induction j with
    | zero =>
      intro _ h1
      exact ⟨0, Nat.le_refl _, h1, Or.inl rfl, fun Q v3 hgo => b_X12_comes_5 (fun _ => hgo) (fun c => absurd (show nI 0 ≤ 0 by decide) c)⟩
    | succ j ih =>
      intro hj h1
      have e1 : nI (j + 1) - 1 = nI j := nI_pred j
      have e2 : I (z_rv S m 22) j = nI (f j) := m4 j (by omega)
      rcases Nat.lt_or_ge a (f j) with q | q
      · obtain ⟨i, g1, g2, g3, g4⟩ := ih (by omega) (fun k h2 h3 => by
          rcases Nat.lt_or_ge j k with r | r
          · exact h1 k (by omega) h3
          · rw [show k = j by omega]; exact q)
        refine ⟨i, by omega, g2, g3, fun Q v3 hgo => ?_⟩
        refine b_X12_comes_5 (fun c => absurd c (nI_nle (by omega) (by omega))) (fun _ => ?_)
        refine b_X12_comes_9 hk ⟨hI, by rw [e1, hl]; exact vp_in_nI (by omega) (by omega)⟩ (fun c => ?_) (fun c => ?_)
        · rw [e1, nI_clamp (by omega), e2, nI_leI (hf j (by omega)) ha] at c
          omega
        · refine b_X12_comes_21 ?_
          rw [nI_dec]
          exact g4 Q v3 hgo
      · refine ⟨j + 1, Nat.le_refl _, h1, Or.inr q, fun Q v3 hgo => ?_⟩
        refine b_X12_comes_5 (fun c => absurd c (nI_nle (by omega) (by omega))) (fun _ => ?_)
        refine b_X12_comes_9 hk ⟨hI, by rw [e1, hl]; exact vp_in_nI (by omega) (by omega)⟩ (fun c => hgo) (fun c => absurd ?_ c)
        rw [e1, nI_clamp (by omega), e2]
        exact nI_le q ha
  obtain ⟨i, hi, g2, g3, g4⟩ := key N (Nat.le_refl _) (fun k h1 h2 => by omega)
  rcases Classical.em (i ≠ 0 ∧ f (i - 1) = a) with ⟨h0, hfa⟩ | hno
  · refine ⟨I, N, f, ?_, ⟨m1, m2, m3, m4⟩, hup, fun b => ⟨Or.inl, fun q => ?_⟩, Nat.le_refl _, fun _ _ _ => rfl⟩
    · refine e_X12_comes (b_X12_comes_0 hk ?_)
      rw [m3]
      refine g4 _ _ ?_
      obtain ⟨j, rfl⟩ : ∃ j, i = j + 1 := ⟨i - 1, by omega⟩
      have e1 : nI (j + 1) - 1 = nI j := nI_pred j
      refine b_X12_comes_27 (fun c => absurd c (nI_nle (by omega) (by omega))) (fun _ => ?_)
      refine b_X12_comes_31 hk ⟨hI, by rw [e1, hl]; exact vp_in_nI (by omega) (by omega)⟩ (fun c => absurd ?_ c) (fun _ => b_X12_comes_43 ⟨rfl, rfl, rfl, rfl⟩)
      rw [e1, nI_clamp (by omega), m4 j (by omega)]
      exact congrArg nI hfa
    · rcases q with q | rfl
      · exact q
      · exact ⟨i - 1, by omega, hfa⟩
  · have hlt : ∀ k, k < i → f k < a := fun k hk' => by
      have h0 : f (i - 1) ≤ a := g3.elim (fun e => by omega) id
      have h1 : f (i - 1) ≠ a := fun e => hno ⟨by omega, e⟩
      rcases Nat.lt_or_ge k (i - 1) with q | q
      · have := hup k (i - 1) q (by omega); omega
      · rw [show k = i - 1 by omega]; omega
    have hins : ∀ k, k < N + 1 → ins (zput f N a) N i k = if k < i then f k else if k = i then a else f (k - 1) := by
      intro k hk'
      unfold ins
      by_cases q1 : k < i
      · rw [if_pos q1, if_pos q1, zput_n (by omega)]
      · rw [if_neg q1, if_neg q1]
        by_cases q2 : k = i
        · rw [if_pos q2, if_pos q2, zput_s]
        · rw [if_neg q2, if_neg q2, if_pos (by omega), zput_n (by omega)]
    suffices hw : z_wp (d + 1) i_X12_comes [.ref m, .int (nI a)] S I J (fun v S' I' J' => v = none ∧ S' = S ∧ J' = J ∧ MM S I0 I' m (N + 1) (ins (zput f N a) N i)) by
      obtain ⟨v, S', I', J', x1, rfl, rfl, rfl, x2⟩ := hw
      refine ⟨I', N + 1, _, x1, x2, ins_up hi (fun x y hxy hy => ?_) (fun x hx => ?_) (fun x hx1 hx2 => ?_), fun b => ?_, by omega, fun e => by omega⟩
      · rw [zput_n (by omega), zput_n (by omega)]; exact hup x y hxy hy
      · rw [zput_s, zput_n (by omega)]; exact hlt x hx
      · rw [zput_s, zput_n (by omega)]; exact g2 x hx1 hx2
      · rw [ins_ex hi (by omega)]
        constructor
        · rintro ⟨k, q1, q2⟩
          by_cases hkN : k = N
          · rw [hkN, zput_s] at q2; exact Or.inr q2.symm
          · rw [zput_n hkN] at q2; exact Or.inl ⟨k, by omega, q2⟩
        · rintro (⟨k, q1, q2⟩ | rfl)
          · exact ⟨k, by omega, by rw [zput_n (by omega)]; exact q2⟩
          · exact ⟨N, by omega, zput_s⟩
    refine w_X12_comes (b_X12_comes_0 hk ?_)
    rw [m3]
    refine g4 _ _ ?_
    have h44 : Go d i_X12_comes 44 [.ref m, .int (nI a), .int (nI i), .retAddr 0] [] S I J (fun v S' I' J' => v = none ∧ S' = S ∧ J' = J ∧ MM S I0 I' m (N + 1) (ins (zput f N a) N i)) := by
      refine b_X12_comes_44 hk ?_
      rw [m3]
      suffices H : ∀ j, i ≤ j → j ≤ N → ∀ I, (∀ h, h ≠ m → h ≠ z_rv S m 22 → I h = I0 h) → (∀ k, k ≠ 23 → I m k = I0 m k) → I m 23 = nI N → (∀ k, k ≤ j → k < N → I (z_rv S m 22) k = nI (f k)) → (∀ k, j < k → k < N + 1 → I (z_rv S m 22) k = nI (f (k - 1))) → Go d i_X12_comes 49 [.ref m, .int (nI a), .int (nI i), .int (nI j)] [] S I J (fun v S' I' J' => v = none ∧ S' = S ∧ J' = J ∧ MM S I0 I' m (N + 1) (ins (zput f N a) N i)) from H N hi (Nat.le_refl _) I m1 m2 m3 (fun k _ hk' => m4 k hk') (fun k h1 h2 => by omega)
      intro j
      induction j with
      | zero =>
        intro hij hjN I p1 p2 p3 p4 p5
        refine b_X12_comes_49 (fun _ => ?_) (fun c => absurd (nI_le (by omega) (by omega)) c)
        have hi0 : i = 0 := by omega
        subst hi0
        refine b_X12_comes_74 hk ⟨hA, by rw [hl]; exact vp_in_nI (by omega) (by omega)⟩ hk hk rfl ⟨rfl, rfl, rfl, fun h h1 h2 => ?_, fun k h1 => ?_, ?_, fun k h1 => ?_⟩
        · rw [z_u2_row h1, z_u2_row h2]; exact p1 h h1 h2
        · rw [z_u2_nk h1, z_u2_ne hne]; exact p2 k h1
        · rw [z_u2_same, z_u2_ne hne, p3, nI_1]
        · rw [z_u2_ne (fun e => hne e.symm), nI_clamp (by omega), hins k h1]
          by_cases q : k = 0
          · rw [q, z_u2_same]; rfl
          · rw [z_u2_nk q, if_neg (by omega), if_neg q]; exact p5 k (by omega) h1
      | succ j ih =>
        intro hij hjN I p1 p2 p3 p4 p5
        rcases Nat.lt_or_ge j i with q | q
        · have hij' : i = j + 1 := by omega
          refine b_X12_comes_49 (fun _ => ?_) (fun c => absurd (nI_le (by omega) (by omega)) c)
          refine b_X12_comes_74 hk ⟨hA, by rw [hl]; exact vp_in_nI (by omega) (by omega)⟩ hk hk rfl ⟨rfl, rfl, rfl, fun h h1 h2 => ?_, fun k h1 => ?_, ?_, fun k h1 => ?_⟩
          · rw [z_u2_row h1, z_u2_row h2]; exact p1 h h1 h2
          · rw [z_u2_nk h1, z_u2_ne hne]; exact p2 k h1
          · rw [z_u2_same, z_u2_ne hne, p3, nI_1]
          · rw [z_u2_ne (fun e => hne e.symm), nI_clamp (by omega), hins k h1]
            by_cases q1 : k < i
            · rw [z_u2_nk (by omega), if_pos q1]; exact p4 k (by omega) (by omega)
            · rw [if_neg q1]
              by_cases q2 : k = i
              · rw [if_pos q2, q2, z_u2_same]
              · rw [if_neg q2, z_u2_nk q2]; exact p5 k (by omega) h1
        · have e1 : nI (j + 1) - 1 = nI j := nI_pred j
          have e2 : I (z_rv S m 22) j = nI (f j) := p4 j (by omega) (by omega)
          refine b_X12_comes_49 (fun c => absurd c (nI_ge (by omega) (by omega))) (fun _ => ?_)
          refine b_X12_comes_54 hk hk ⟨hI, by rw [e1, hl]; exact vp_in_nI (by omega) (by omega)⟩ ⟨hA, by rw [hl]; exact vp_in_nI (by omega) (by omega)⟩ ?_
          rw [e1, nI_clamp (by omega), nI_clamp (by omega), e2, nI_dec]
          refine ih q (by omega) _ (fun h h1 h2 => by rw [z_u2_row h2]; exact p1 h h1 h2) (fun k h1 => by rw [z_u2_ne hne]; exact p2 k h1) (by rw [z_u2_ne hne]; exact p3) (fun k h1 h2 => by rw [z_u2_nk (by omega)]; exact p4 k (by omega) h2) (fun k h1 h2 => ?_)
          by_cases q1 : k = j + 1
          · rw [q1, z_u2_same]; rfl
          · rw [z_u2_nk q1]; exact p5 k (by omega) h2
    refine b_X12_comes_27 (fun _ => h44) (fun c => ?_)
    obtain ⟨j, rfl⟩ : ∃ j, i = j + 1 := ⟨i - 1, by
      rcases Nat.eq_zero_or_pos i with r | r
      · exact absurd (by rw [r]; decide) c
      · omega⟩
    have e1 : nI (j + 1) - 1 = nI j := nI_pred j
    refine b_X12_comes_31 hk ⟨hI, by rw [e1, hl]; exact vp_in_nI (by omega) (by omega)⟩ (fun _ => h44) (fun c2 => ?_)
    rw [e1, nI_clamp (by omega), m4 j (by omega), nI_eq (hf j (by omega)) ha] at c2
    exact absurd ⟨by omega, c2⟩ hno
end M4

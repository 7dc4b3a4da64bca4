/-! THE CLASS: its subgroups in order -/
def shf (f : Nat → Nat) (i j m : Nat) : Nat := if m ≤ j then f m else if m ≤ i then f (m - 1) else f m
theorem shf_0 {f : Nat → Nat} {i m : Nat} : shf f i i m = f m := by
  unfold shf
  by_cases h : m ≤ i
  · rw [if_pos h]
  · rw [if_neg h, if_neg h]
theorem shf_le {f : Nat → Nat} {i j m : Nat} (h : m ≤ j) : shf f i j m = f m := if_pos h
theorem shf_s {f : Nat → Nat} {i j m : Nat} (hj : j < i) : shf f i j m = if m = j + 1 then f j else shf f i (j + 1) m := by
  unfold shf
  by_cases h : m = j + 1
  · subst h; rw [if_neg (by omega), if_pos (by omega), if_pos rfl]; rfl
  · rw [if_neg h]
    by_cases h1 : m ≤ j
    · rw [if_pos h1, if_pos (by omega)]
    · rw [if_neg h1, if_neg (show ¬ m ≤ j + 1 by omega)]
theorem ins_shf {f : Nat → Nat} {i j m : Nat} (hj : j ≤ i) : ins f i j m = if m = j then f i else shf f i j m := by
  unfold ins shf
  by_cases h : m = j
  · subst h; rw [if_neg (by omega), if_pos rfl, if_pos rfl]
  · rw [if_neg h, if_neg h]
    by_cases h1 : m < j
    · rw [if_pos h1, if_pos (by omega)]
    · rw [if_neg h1, if_neg (show ¬ m ≤ j by omega)]
theorem nI_dec (n : Nat) : nI (n + 1) + -1 = nI n := by
  rw [← Int32.sub_eq_add_neg]
  exact nI_pred n
section C7
variable {d g n : Nat} {t : Nat → Nat → Nat} {iv : Nat → Nat} {S : zS} {I I0 : zI} {J : zJ}
theorem SM.up {N i v : Nat} {f f' : Nat → Nat} (h : SM S I0 I g N f) (hne : g ≠ z_rv S g 10) (hv : f' i = v) (hf : ∀ m, m < N → m ≠ i → f' m = f m) : SM S I0 (z_u2 I (z_rv S g 10) i (nI v)) g N f' := by
  obtain ⟨m1, m2, m3, m4⟩ := h
  refine ⟨fun a h1 h2 => by rw [z_u2_row h2]; exact m1 a h1 h2, fun k hk => by rw [z_u2_ne hne]; exact m2 k hk, by rw [z_u2_ne hne]; exact m3, fun m hm => ?_⟩
  by_cases hmi : m = i
  · rw [hmi, z_u2_same, hv]
  · rw [z_u2_nk hmi, hf m hm hmi]; exact m4 m hm
theorem c_sort {N L : Nat} {f : Nat → Nat} (hd : 0 < d) (hk : z_kd S g = 2) (hA : z_kd S (z_rv S g 10) = 100) (hl : z_ln S (z_rv S g 10) = L) (hN : N ≤ L) (hL : L ≤ 80) (hf : ∀ i, i < N → f i < 2 ^ 31) (h : SM S I0 I g N f) (hdi : ∀ i j, i < j → j < N → f i ≠ f j) :
    ∃ I' f', z_ev d i_X1_sortSubgroups [.ref g] S I J none S I' J ∧ SM S I0 I' g N f' ∧ (∀ i j, i < j → j < N → f' i < f' j) ∧ ∀ a, (∃ i, i < N ∧ f' i = a) ↔ ∃ i, i < N ∧ f i = a := by
  obtain ⟨d, rfl⟩ := z_dep hd
  have hne : g ≠ z_rv S g 10 := fun e => by rw [← e, hk] at hA; cases hA
  have hI : z_isI (z_kd S (z_rv S g 10)) = true := by rw [hA]; rfl
  suffices hw : z_wp (d + 1) i_X1_sortSubgroups [.ref g] S I J (fun v S' I' J' => v = none ∧ S' = S ∧ J' = J ∧ ∃ f', SM S I0 I' g N f' ∧ (∀ i j, i < j → j < N → f' i < f' j) ∧ ∀ a, (∃ i, i < N ∧ f' i = a) ↔ ∃ i, i < N ∧ f i = a) by
    obtain ⟨v, S', I', J', h1, rfl, rfl, rfl, f', h2⟩ := hw
    exact ⟨I', f', h1, h2⟩
  refine w_X1_sortSubgroups (b_X1_sortSubgroups_0 ?_)
  suffices H : ∀ k, k ≤ N → 0 < k → ∀ I f', SM S I0 I g N f' → (∀ i j, i < j → j < k → f' i < f' j) → (∀ a, (∃ i, i < N ∧ f' i = a) ↔ ∃ i, i < N ∧ f i = a) → (∀ i j, i < j → j < N → f' i ≠ f' j) → ∀ x1 v2 v3, x1 = nI k → Go d i_X1_sortSubgroups 2 [.ref g, .int x1, v2, v3] [] S I J (fun v S' I' J' => v = none ∧ S' = S ∧ J' = J ∧ ∃ f', SM S I0 I' g N f' ∧ (∀ i j, i < j → j < N → f' i < f' j) ∧ ∀ a, (∃ i, i < N ∧ f' i = a) ↔ ∃ i, i < N ∧ f i = a) by
    by_cases hN1 : N = 0
    · refine b_X1_sortSubgroups_2 hk (fun _ => b_X1_sortSubgroups_68 ⟨rfl, rfl, rfl, f, h, fun i j _ _ => by omega, fun a => Iff.rfl⟩) (fun c => absurd ?_ c)
      rw [h.2.2.1, hN1]; decide
    · exact H 1 (by omega) (by omega) I f h (fun i j _ _ => by omega) (fun a => Iff.rfl) hdi _ _ _ rfl
  refine z_up_to N ?_ ?_
  · rintro hk0 I f' h1 h2 h3 h4 x1 v2 v3 rfl
    exact b_X1_sortSubgroups_2 hk (fun _ => b_X1_sortSubgroups_68 ⟨rfl, rfl, rfl, f', h1, h2, h3⟩) (fun c => absurd (by rw [h1.2.2.1]; exact nI_le (Nat.le_refl _) (by omega)) c)
  · rintro k hkN ih hk0 I f' h1 h2 h3 h4 x1 v2 v3 rfl
    have hf' : ∀ i, i < N → f' i < 2 ^ 31 := fun i hi => by
      obtain ⟨j, g1, g2⟩ := (h3 (f' i)).mp ⟨i, hi, rfl⟩
      rw [← g2]; exact hf j g1
    refine b_X1_sortSubgroups_2 hk (fun c => absurd c (by rw [h1.2.2.1]; exact nI_ge hkN (by omega))) (fun _ => ?_)
    refine b_X1_sortSubgroups_10 hk ⟨hI, by rw [hl]; exact vp_in_nI (by omega) (by omega)⟩ ?_
    rw [nI_clamp (by omega), h1.2.2.2 k hkN]
    suffices H2 : ∀ j, j ≤ k → (∀ a, j ≤ a → a < k → f' k < f' a) → ∀ I, SM S I0 I g N (shf f' k j) → ∀ x3, x3 = nI j → Go d i_X1_sortSubgroups 19 [.ref g, .int (nI k), .int (nI (f' k)), .int x3] [] S I J (fun v S' I' J' => v = none ∧ S' = S ∧ J' = J ∧ ∃ f', SM S I0 I' g N f' ∧ (∀ i j, i < j → j < N → f' i < f' j) ∧ ∀ a, (∃ i, i < N ∧ f' i = a) ↔ ∃ i, i < N ∧ f i = a) by
      refine H2 k (Nat.le_refl _) (fun a h5 h6 => by omega) I ?_ _ rfl
      rw [show shf f' k k = f' from funext (fun m => shf_0)]
      exact h1
    intro j
    have last : ∀ j, j ≤ k → (∀ a, j ≤ a → a < k → f' k < f' a) → (∀ a, a < j → f' a < f' k) → ∀ I, SM S I0 I g N (shf f' k j) → Go d i_X1_sortSubgroups 55 [.ref g, .int (nI k), .int (nI (f' k)), .int (nI j)] [] S I J (fun v S' I' J' => v = none ∧ S' = S ∧ J' = J ∧ ∃ f', SM S I0 I' g N f' ∧ (∀ i j, i < j → j < N → f' i < f' j) ∧ ∀ a, (∃ i, i < N ∧ f' i = a) ↔ ∃ i, i < N ∧ f i = a) := by
      intro j hj h5 h6 I h7
      refine b_X1_sortSubgroups_55 hk ⟨hA, by rw [hl]; exact vp_in_nI (by omega) (by omega)⟩ ?_
      rw [nI_clamp (by omega)]
      refine ih (by omega) _ (ins f' k j) (h7.up hne ins_eq (fun m hm hmj => by rw [ins_shf hj, if_neg hmj])) (ins_up hj h2 h6 h5) (fun a => ?_) ?_ _ _ _ (nI_1 k)
      · rw [ins_ex hj hkN, h3]
      · intro a b hab hb e
        have hval : ∀ m, m < N → ∃ m', m' < N ∧ ins f' k j m = f' m' ∧ (m < j ∧ m' = m ∨ m = j ∧ m' = k ∨ j < m ∧ m ≤ k ∧ m' = m - 1 ∨ k < m ∧ m' = m) := by
          intro m hm
          rcases Nat.lt_trichotomy m j with q | q | q
          · exact ⟨m, hm, ins_lt q, Or.inl ⟨q, rfl⟩⟩
          · exact ⟨k, hkN, by rw [q, ins_eq], Or.inr (Or.inl ⟨q, rfl⟩)⟩
          · rcases Nat.lt_or_ge k m with r | r
            · exact ⟨m, hm, ins_gt hj r, Or.inr (Or.inr (Or.inr ⟨r, rfl⟩))⟩
            · exact ⟨m - 1, by omega, ins_md q r, Or.inr (Or.inr (Or.inl ⟨q, r, rfl⟩))⟩
        obtain ⟨a', g1, g2, g3⟩ := hval a (by omega)
        obtain ⟨b', g4, g5, g6⟩ := hval b hb
        rw [g2, g5] at e
        rcases Nat.lt_trichotomy a' b' with q | q | q
        · exact h4 a' b' q g4 e
        · omega
        · exact h4 b' a' q g1 e.symm
    induction j with
    | zero =>
      rintro hj h5 I h7 x3 rfl
      exact b_X1_sortSubgroups_19 (fun _ => last 0 hj h5 (fun a ha => by omega) I h7) (fun c => absurd (show nI 0 ≤ 0 by decide) c)
    | succ j ihj =>
      rintro hj h5 I h7 x3 rfl
      refine b_X1_sortSubgroups_19 (fun c => absurd c (nI_nle (by omega) (by omega))) (fun _ => ?_)
      have e1 : nI (j + 1) - 1 = nI j := nI_pred j
      have e2 : I (z_rv S g 10) j = nI (f' j) := by rw [h7.2.2.2 j (by omega), shf_le (by omega)]
      refine b_X1_sortSubgroups_23 hk ⟨hI, by rw [e1, hl]; exact vp_in_nI (by omega) (by omega)⟩ (fun c => ?_) (fun c => ?_)
      · rw [e1, nI_clamp (by omega), e2, nI_leI (hf' j (by omega)) (hf' k hkN)] at c
        refine last (j + 1) hj h5 (fun a ha => ?_) I h7
        have hlt : f' j < f' k := by
          rcases Nat.lt_or_ge (f' j) (f' k) with q | q
          · exact q
          · exact absurd (by omega) (h4 j k (by omega) hkN)
        rcases Nat.lt_or_ge a j with q | q
        · exact Nat.lt_trans (h2 a j q (by omega)) hlt
        · rw [show a = j by omega]; exact hlt
      · rw [e1, nI_clamp (by omega), e2, nI_leI (hf' j (by omega)) (hf' k hkN)] at c
        refine b_X1_sortSubgroups_35 hk hk ⟨hI, by rw [e1, hl]; exact vp_in_nI (by omega) (by omega)⟩ ⟨hA, by rw [hl]; exact vp_in_nI (by omega) (by omega)⟩ ?_
        rw [e1, nI_clamp (by omega), nI_clamp (by omega), e2]
        refine ihj (by omega) (fun a h8 h9 => ?_) _ (h7.up hne ?_ (fun m hm hmj => ?_)) _ (nI_dec j)
        · rcases Nat.lt_or_ge j a with q | q
          · exact h5 a (by omega) h9
          · rw [show a = j by omega]; omega
        · rw [shf_s (by omega), if_pos rfl]
        · rw [shf_s (by omega), if_neg hmj]
end C7

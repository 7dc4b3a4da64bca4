/-! THE CLASS: its subgroups -/
def zput (f : Nat → Nat) (N a : Nat) (i : Nat) : Nat := if i = N then a else f i
theorem zput_s {f : Nat → Nat} {N a : Nat} : zput f N a N = a := if_pos rfl
theorem zput_n {f : Nat → Nat} {N a i : Nat} (h : i ≠ N) : zput f N a i = f i := if_neg h
section C6
variable {d g n : Nat} {t : Nat → Nat → Nat} {iv : Nat → Nat} {S : zS} {I I0 : zI} {J : zJ}
theorem z_isA_I {k : Nat} (h : z_isI k = true) : z_isA k = true := by unfold z_isA; rw [h]; rfl
theorem ev_index_f {h N L : Nat} {v : Int32} (hd : 0 < d) (hk : z_isI (z_kd S h) = true) (hl : z_ln S h = L) (hN : N ≤ L) (hL : L < 2 ^ 31) (hv : ∀ i, i < N → ¬ I h i = v) : z_ev d i_X11_indexOf [.ref h, .int (nI N), .int v] S I J (some (.int (-1))) S I J := by
  obtain ⟨d, rfl⟩ := z_dep hd
  refine e_X11_indexOf (b_X11_indexOf_0 ?_)
  suffices H : ∀ k, k ≤ N → ∀ x3, x3 = nI k → Go d i_X11_indexOf 2 [.ref h, .int (nI N), .int v, .int x3] [] S I J (z_eq (some (.int (-1))) S I J) from H 0 (by omega) _ rfl
  refine z_up_to N ?_ ?_
  · rintro x3 rfl
    exact b_X11_indexOf_2 (fun _ => b_X11_indexOf_28 ⟨rfl, rfl, rfl, rfl⟩) (fun c => absurd (nI_le (Nat.le_refl _) (by omega)) c)
  · rintro k hk' ih x3 rfl
    refine b_X11_indexOf_2 (fun c => absurd c (nI_ge hk' (by omega))) (fun _ => ?_)
    refine b_X11_indexOf_7 (z_isA_I hk) (fun c => absurd c (by rw [hl]; exact nI_ge (by omega) hL)) (fun _ => ?_)
    exact b_X11_indexOf_13 ⟨hk, by rw [hl]; exact vp_in_nI (by omega) hL⟩ (fun _ => b_X11_indexOf_22 (ih _ (nI_1 k))) (fun c => absurd (by rw [nI_clamp (by omega)] at c; exact c) (hv k hk'))
theorem ev_index_t {h N L i : Nat} {v : Int32} (hd : 0 < d) (hk : z_isI (z_kd S h) = true) (hl : z_ln S h = L) (hN : N ≤ L) (hL : L < 2 ^ 31) (hi : i < N) (hiv : I h i = v) (hv : ∀ j, j < i → ¬ I h j = v) : z_ev d i_X11_indexOf [.ref h, .int (nI N), .int v] S I J (some (.int (nI i))) S I J := by
  obtain ⟨d, rfl⟩ := z_dep hd
  refine e_X11_indexOf (b_X11_indexOf_0 ?_)
  suffices H : ∀ k, k ≤ i → ∀ x3, x3 = nI k → Go d i_X11_indexOf 2 [.ref h, .int (nI N), .int v, .int x3] [] S I J (z_eq (some (.int (nI i))) S I J) from H 0 (by omega) _ rfl
  refine z_up_to i ?_ ?_
  · rintro x3 rfl
    refine b_X11_indexOf_2 (fun c => absurd c (nI_ge hi (by omega))) (fun _ => ?_)
    refine b_X11_indexOf_7 (z_isA_I hk) (fun c => absurd c (by rw [hl]; exact nI_ge (by omega) hL)) (fun _ => ?_)
    exact b_X11_indexOf_13 ⟨hk, by rw [hl]; exact vp_in_nI (by omega) hL⟩ (fun c => absurd (by rw [nI_clamp (by omega)]; exact hiv) c) (fun _ => b_X11_indexOf_20 ⟨rfl, rfl, rfl, rfl⟩)
  · rintro k hk' ih x3 rfl
    refine b_X11_indexOf_2 (fun c => absurd c (nI_ge (by omega) (by omega))) (fun _ => ?_)
    refine b_X11_indexOf_7 (z_isA_I hk) (fun c => absurd c (by rw [hl]; exact nI_ge (by omega) hL)) (fun _ => ?_)
    exact b_X11_indexOf_13 ⟨hk, by rw [hl]; exact vp_in_nI (by omega) hL⟩ (fun _ => b_X11_indexOf_22 (ih _ (nI_1 k))) (fun c => absurd (by rw [nI_clamp (by omega)] at c; exact c) (hv k hk'))
theorem c_hasNoneBetween {a b : Nat} (hd : 1 < d) (hn : n ≤ 20) (ha : a < 2 ^ n) (hb : b < 2 ^ n) (h0 : 0 < zc n a) : z_ev d i_X1_hasNoneBetween [.int (nI a), .int (nI b)] S I J (some (.int (nI (zb (∀ e, 2 ≤ e → e < zc n b / zc n a → ¬ (zc n b / zc n a) % e = 0))))) S I J := by
  obtain ⟨d, rfl⟩ := z_dep (d := d) (by omega)
  have la := zc_le n a
  have lb := zc_le n b
  refine e_X1_hasNoneBetween (b_X1_hasNoneBetween_0 ⟨_, _, _, _, ev_bitCount (by omega) (z_lt24 hn hb), ?_⟩)
  refine b_X1_hasNoneBetween_4 ⟨_, _, _, _, ev_bitCount (by omega) (z_lt24 hn ha), ?_⟩
  rw [zc24 hn ha, zc24 hn hb]
  refine b_X1_hasNoneBetween_9 ⟨_, _, _, _, ev_max (a := 1) (by omega) (by decide) (by omega), ?_⟩
  rw [show max 1 (zc n a) = zc n a by omega]
  refine b_X1_hasNoneBetween_12 (nI_ne0 h0 (by omega)) ?_
  rw [pk_div (by omega) h0 (by omega)]
  obtain ⟨q, hq⟩ : ∃ q, q = zc n b / zc n a := ⟨_, rfl⟩
  have hql : q ≤ 20 := by rw [hq]; exact Nat.le_trans (Nat.div_le_self _ _) (by omega)
  rw [← hq]
  by_cases h2 : q < 2
  · refine b_X1_hasNoneBetween_16 (fun _ => b_X1_hasNoneBetween_35 z_fit1 ⟨?_, rfl, rfl, rfl⟩) (fun c => absurd (show nI q ≤ nI 2 from nI_le (by omega) (by decide)) c)
    rw [zb_t (fun e h3 h4 => by omega)]; rfl
  suffices H : ∀ k, k ≤ q → 2 ≤ k → (∀ e, 2 ≤ e → e < k → ¬ q % e = 0) → ∀ x3, x3 = nI k → Go d i_X1_hasNoneBetween 16 [.int (nI a), .int (nI b), .int (nI q), .int x3] [] S I J (z_eq (some (.int (nI (zb (∀ e, 2 ≤ e → e < q → ¬ q % e = 0))))) S I J) from H 2 (by omega) (by omega) (fun e h3 h4 => by omega) _ rfl
  refine z_up_to q ?_ ?_
  · rintro h3 hall x3 rfl
    refine b_X1_hasNoneBetween_16 (fun _ => b_X1_hasNoneBetween_35 z_fit1 ⟨?_, rfl, rfl, rfl⟩) (fun c => absurd (nI_le (Nat.le_refl _) (by omega)) c)
    rw [zb_t hall]; rfl
  · rintro k hk ih h3 hall x3 rfl
    have hm := Nat.mod_lt q (show 0 < k by omega)
    refine b_X1_hasNoneBetween_16 (fun c => absurd c (nI_ge hk (by omega))) (fun _ => ?_)
    refine b_X1_hasNoneBetween_21 (nI_ne0 (by omega) (by omega)) (fun c => b_X1_hasNoneBetween_29 (ih (by omega) (fun e h4 h5 => ?_) _ (nI_1 k))) (fun c => b_X1_hasNoneBetween_27 z_fit0 ⟨?_, rfl, rfl, rfl⟩)
    · rw [pk_rem (by omega) (by omega) (by omega), z_eq0 (by omega)] at c
      by_cases hek : e = k
      · rw [hek]; exact c
      · exact hall e h4 (by omega)
    · rw [pk_rem (by omega) (by omega) (by omega), z_eq0 (by omega)] at c
      rw [zb_f (fun w => w k h3 hk c)]; rfl
/-- the row of subgroups, as it is being made -/
def SM (S : zS) (I0 I : zI) (g N : Nat) (f : Nat → Nat) : Prop := (∀ h, h ≠ g → h ≠ z_rv S g 10 → I h = I0 h) ∧ (∀ k, k ≠ 11 → I g k = I0 g k) ∧ I g 11 = nI N ∧ ∀ i, i < N → I (z_rv S g 10) i = nI (f i)
theorem SM.ct {N : Nat} {f : Nat → Nat} (h : SM S I0 I g N f) (hC : CT S I0 g n t) (h1 : z_rv S g 1 ≠ z_rv S g 10) : CT S I g n t := hC.fr (h.2.1 0 (by decide)) (h.1 _ (fun e => by have := hC.2.2.2.1; rw [e, hC.1] at this; cases this) h1)
theorem c_keep {N L a : Nat} {f : Nat → Nat} (hd : 1 < d) (hk : z_kd S g = 2) (hA : z_kd S (z_rv S g 10) = 100) (hl : z_ln S (z_rv S g 10) = L) (hN : N ≤ L) (hL : L ≤ 80) (ha : a < 2 ^ 31) (hf : ∀ i, i < N → f i < 2 ^ 31) (hr : (∀ i, i < N → f i ≠ a) → N < L) (h : SM S I0 I g N f) (hdi : ∀ i j, i < j → j < N → f i ≠ f j) :
    ∃ I' N' f', z_ev d i_X1_keepSubgroup [.ref g, .int (nI a)] S I J none S I' J ∧ SM S I0 I' g N' f' ∧ N ≤ N' ∧ (∀ i, i < N → f' i = f i) ∧ (∃ j, j < N' ∧ f' j = a) ∧ (∀ i, i < N' → i < N ∨ f' i = a) ∧ ∀ i j, i < j → j < N' → f' i ≠ f' j := by
  obtain ⟨d, rfl⟩ := z_dep (d := d) (by omega)
  obtain ⟨m1, m2, m3, m4⟩ := h
  have hne : g ≠ z_rv S g 10 := fun e => by rw [← e, hk] at hA; cases hA
  rcases Classical.em (∃ i, i < N ∧ f i = a) with hex | hno
  · obtain ⟨i, ⟨h1, h2⟩, h3⟩ := z_least hex
    refine ⟨I, N, f, ?_, ⟨m1, m2, m3, m4⟩, Nat.le_refl _, fun _ _ => rfl, ⟨i, h1, h2⟩, fun j hj => Or.inl hj, hdi⟩
    have hx : z_ev d i_X11_indexOf [.ref (z_rv S g 10), .int (I g 11), .int (nI a)] S I J (some (.int (nI i))) S I J := by
      rw [m3]
      refine ev_index_t (by omega) (by rw [hA]; rfl) hl hN (by omega) h1 (by rw [m4 i h1, h2]) (fun j hj e => ?_)
      rw [m4 j (by omega), nI_eq (hf j (by omega)) ha] at e
      exact h3 j hj ⟨by omega, e⟩
    refine e_X1_keepSubgroup (b_X1_keepSubgroup_0 hk hk ⟨_, _, _, _, hx, ?_⟩)
    refine b_X1_keepSubgroup_12 (fun _ => b_X1_keepSubgroup_48 ⟨rfl, rfl, rfl, rfl⟩) (fun c => ?_)
    have := nI_pos (n := i) (by omega)
    rw [c] at this
    exact absurd (by decide) this
  · have hna : ∀ i, i < N → f i ≠ a := fun i hi e => hno ⟨i, hi, e⟩
    have hNL := hr hna
    have hx : z_ev d i_X11_indexOf [.ref (z_rv S g 10), .int (I g 11), .int (nI a)] S I J (some (.int (-1))) S I J := by
      rw [m3]
      refine ev_index_f (by omega) (by rw [hA]; rfl) hl hN (by omega) (fun j hj e => ?_)
      rw [m4 j hj, nI_eq (hf j hj) ha] at e
      exact hna j hj e
    refine ⟨z_u2 (z_u2 I (z_rv S g 10) N (nI a)) g 11 (nI (N + 1)), N + 1, zput f N a, ?_, ⟨fun h h1 h2 => ?_, fun k h1 => ?_, z_u2_same, fun i hi => ?_⟩, by omega, fun i hi => zput_n (by omega), ⟨N, by omega, zput_s⟩, fun i hi => ?_, fun i j hij hj => ?_⟩
    · refine e_X1_keepSubgroup (b_X1_keepSubgroup_0 hk hk ⟨_, _, _, _, hx, ?_⟩)
      refine b_X1_keepSubgroup_12 (fun c => absurd rfl c) (fun _ => ?_)
      refine b_X1_keepSubgroup_16 hk hk (by rw [hA]; rfl) (fun c => absurd c (by rw [hl, m3]; exact nI_ge hNL (by omega))) (fun _ => ?_)
      refine b_X1_keepSubgroup_28 hk hk ⟨hA, by rw [hl, m3]; exact vp_in_nI hNL (by omega)⟩ hk hk rfl ⟨rfl, rfl, ?_, rfl⟩
      rw [m3, nI_clamp (by omega), z_u2_ne hne, m3, nI_1]
    · rw [z_u2_row h1, z_u2_row h2]; exact m1 h h1 h2
    · rw [z_u2_nk h1, z_u2_ne hne]; exact m2 k h1
    · rw [z_u2_ne (fun e => hne e.symm)]
      by_cases hiN : i = N
      · rw [hiN, z_u2_same, zput_s]
      · rw [z_u2_nk hiN, zput_n hiN]; exact m4 i (by omega)
    · by_cases hiN : i = N
      · rw [hiN]; exact Or.inr zput_s
      · exact Or.inl (by omega)
    · by_cases hjN : j = N
      · rw [hjN, zput_s, zput_n (by omega)]; exact hna i (by omega)
      · rw [zput_n hjN, zput_n (by omega)]; exact hdi i j hij (by omega)
end C6

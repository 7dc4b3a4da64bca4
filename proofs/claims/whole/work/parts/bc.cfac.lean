/-! THE CLASS: orders of few places, products of factors -/
section CF
variable {d D : Nat} {r s : Nat → Nat} {S : zS} {I : zI} {J : zJ}
theorem pck_cg {r s : Nat → Nat} : ∀ k, (∀ i, i < k → r i = s i) → pck r k = pck s k := by
  intro k
  induction k with
  | zero => intro _; rfl
  | succ k ih => intro h; show 8 * pck r k + r k = 8 * pck s k + s k; rw [ih (fun i hi => h i (by omega)), h k (by omega)]
theorem pck_inj {r s : Nat → Nat} {k : Nat} (h1 : ∀ i, i < k → r i < 8) (h2 : ∀ i, i < k → s i < 8) (e : pck r k = pck s k) : ∀ i, i < k → r i = s i := fun i hi => by rw [← pck_dg k h1 i hi, ← pck_dg k h2 i hi, e]
theorem pck_31 {k : Nat} (hk : k ≤ 8) (h : ∀ i, i < k → r i < 8) : pck r k < 2 ^ 24 := by
  have a := pck_lt k h
  have b : 8 ^ k ≤ 8 ^ 8 := Nat.pow_le_pow_right (by decide) hk
  have c : (8 : Nat) ^ 8 = 2 ^ 24 := by decide
  omega
theorem or8 {a x : Nat} (hx : x < 8) : (a * 2 ^ 3) ||| x = 8 * a + x := by
  have := Nat.two_pow_add_eq_or_of_lt (i := 3) (b := x) hx a
  rw [Nat.mul_comm a (2 ^ 3), ← this]
theorem pck_at {k : Nat} (hk : k ≤ 8) (h : ∀ i, i < k → r i < 8) {i : Nat} (hi : i < k) : (nI (pck r k) >>> (nI (3 * (k - 1 - i)) &&& 31)) &&& 7 = nI (r i) := by
  have h24 := pck_31 hk h
  rw [z_shr (by omega) (by omega), pk_andN (by have := Nat.div_le_self (pck r k) (2 ^ (3 * (k - 1 - i))); omega) 3 (by decide), Nat.pow_mul]
  exact congrArg nI (pck_dg k h i hi)
theorem c_firstThen (hd : 0 < d) (hD : D ≤ 8) (hD0 : 0 < D) (hr : ∀ i, i < D → r i < D) (hs : ∀ i, i < D → s i < D) : z_ev d i_X11_firstThen [.int (nI (pck r D)), .int (nI (pck s D)), .int (nI D)] S I J (some (.int (nI (pck (fun i => s (r i)) D)))) S I J := by
  obtain ⟨d, rfl⟩ := z_dep hd
  have e1 : nI D - 1 = nI (D - 1) := by rw [z_lit 1, pk_sub hD0]
  have r8 : ∀ i, i < D → r i < 8 := fun i hi => by have := hr i hi; omega
  have s8 : ∀ i, i < D → s i < 8 := fun i hi => by have := hs i hi; omega
  refine e_X11_firstThen (b_X11_firstThen_0 ?_)
  suffices H : ∀ k, k ≤ D → ∀ v5, Go d i_X11_firstThen 9 [.int (nI (pck r D)), .int (nI (pck s D)), .int (nI D), .int (nI (pck (fun i => s (r i)) k)), .int (nI (3 * (D - k)) - 3), v5] [] S I J (z_eq (some (.int (nI (pck (fun i => s (r i)) D)))) S I J) by
    have := H 0 (by omega) (.retAddr 0)
    rw [show nI (3 * (D - 0)) - 3 = nI (3 * (D - 1)) by rw [z_lit 3, pk_sub (by omega), show 3 * (D - 0) - 3 = 3 * (D - 1) by omega]] at this
    rw [e1, z_lit 3, pk_mul]
    exact this
  refine z_up_to D ?_ ?_
  · intro v5
    refine b_X11_firstThen_9 (fun _ => b_X11_firstThen_47 ⟨rfl, rfl, rfl, rfl⟩) (fun z => absurd ?_ z)
    rw [Nat.sub_self]; decide
  · intro k hk ih v5
    have ek : nI (3 * (D - k)) - 3 = nI (3 * (D - 1 - k)) := by rw [z_lit 3, pk_sub (by omega), show 3 * (D - k) - 3 = 3 * (D - 1 - k) by omega]
    have hrk := hr k hk
    have hp8 : ∀ i, i < k → (fun i => s (r i)) i < 8 := fun i hi => by have := hs (r i) (hr i (by omega)); show s (r i) < 8; omega
    have hpk := pck_31 (r := fun i => s (r i)) (k := k) (by omega) hp8
    have hpk2 : pck (fun i => s (r i)) k < 8 ^ k := pck_lt k hp8
    have h7 : (8 : Nat) ^ k ≤ 8 ^ 7 := Nat.pow_le_pow_right (by decide) (by omega)
    have h77 : (8 : Nat) ^ 7 = 2 ^ 21 := by decide
    refine b_X11_firstThen_9 (fun z => absurd z (by rw [ek]; exact nI_pos (by omega))) (fun _ => b_X11_firstThen_14 ?_)
    have e3 : (nI (pck r D) >>> ((nI (3 * (D - k)) - 3) &&& 31)) &&& 7 = nI (r k) := by rw [ek]; exact pck_at hD r8 hk
    rw [e3, e1, pk_sub (show r k ≤ D - 1 by omega)]
    have e4 : (3 : Int32) * nI (D - 1 - r k) = nI (3 * (D - 1 - r k)) := by rw [z_lit 3, pk_mul]
    rw [e4, pck_at hD s8 hrk]
    have e5 : nI (pck (fun i => s (r i)) k) <<< ((3 : Int32) &&& 31) = nI (pck (fun i => s (r i)) k * 2 ^ 3) := z_shl (x := 3) (by decide) (by omega)
    rw [e5, z_or, or8 (by have := hs (r k) hrk; omega)]
    have e6 : nI (3 * (D - k)) - 3 + -3 = nI (3 * (D - (k + 1))) - 3 := by
      rw [← Int32.sub_eq_add_neg, ek, show 3 * (D - (k + 1)) = 3 * (D - 1 - k) by omega]
    rw [e6]
    exact ih _
/-- where it is; none -/
theorem c_indexOf {h N : Nat} {v : Int32} {f : Nat → Int32} (hd : 0 < d) (hk : z_isI (z_kd S h) = true) (hN : N ≤ z_ln S h) (hl : z_ln S h < 2 ^ 31) (hf : ∀ i, i < N → I h i = f i) : z_ev d i_X11_indexOf [.ref h, .int (nI N), .int v] S I J (some (.int (zq (∃ i, i < N ∧ f i = v) (nI (zleast (fun i => i < N ∧ f i = v))) (-1)))) S I J := by
  obtain ⟨d, rfl⟩ := z_dep hd
  have hA : z_isA (z_kd S h) = true := by unfold z_isA; rw [hk]; simp
  refine e_X11_indexOf (b_X11_indexOf_0 ?_)
  suffices H : ∀ k, k ≤ N → (∀ i, i < k → f i ≠ v) → Go d i_X11_indexOf 2 [.ref h, .int (nI N), .int v, .int (nI k)] [] S I J (z_eq (some (.int (zq (∃ i, i < N ∧ f i = v) (nI (zleast (fun i => i < N ∧ f i = v))) (-1)))) S I J) from H 0 (by omega) (fun i hi => by omega)
  refine z_up_to N ?_ ?_
  · intro hno
    refine b_X11_indexOf_2 (fun _ => b_X11_indexOf_28 ⟨z_someI ?_, rfl, rfl, rfl⟩) (fun z => absurd (nI_le (Nat.le_refl _) (by omega)) z)
    exact (zq_f (fun ⟨i, hi, e⟩ => hno i hi e)).symm
  · intro k hk' ih hno
    refine b_X11_indexOf_2 (fun z => absurd z (nI_ge hk' (by omega))) (fun _ => b_X11_indexOf_7 hA (fun z => absurd z (nI_ge (by omega) (by omega))) (fun _ => b_X11_indexOf_13 ⟨hk, vp_in_nI (by omega) hl⟩ (fun z => b_X11_indexOf_22 ?_) (fun z => b_X11_indexOf_20 ⟨z_someI ?_, rfl, rfl, rfl⟩)))
    · rw [nI_clamp (by omega), hf k hk'] at z
      rw [nI_1]
      exact ih (fun i hi => by
        rcases (show i < k ∨ i = k by omega) with e | e
        · exact hno i e
        · rw [e]; exact z)
    · rw [nI_clamp (by omega), hf k hk'] at z
      rw [zq_t ⟨k, hk', z⟩, zleast_eq (k := k) ⟨hk', z⟩ (fun j hj q => hno j hj q.2)]
theorem j_max {a b : Nat} (hd : 0 < d) (ha : a < 2 ^ 31) (hb : b < 2 ^ 31) : z_ev d i_J9_max_7cf53 [.int (nI a), .int (nI b)] S I J (some (.int (nI (max a b)))) S I J := by
  obtain ⟨d, rfl⟩ := z_dep hd
  refine e_J9_max_7cf53 (b_J9_max_7cf53_0 (fun z => b_J9_max_7cf53_9 ⟨z_someI ?_, rfl, rfl, rfl⟩) (fun z => b_J9_max_7cf53_5 ⟨z_someI ?_, rfl, rfl, rfl⟩))
  · rw [nI_ltI ha hb] at z
    rw [Nat.max_eq_right (by omega)]
  · rw [nI_ltI ha hb] at z
    rw [Nat.max_eq_left (by omega)]
def fmd (x y : Int32) : Int32 := if (0 : Int32) ≤ x ^^^ y then x - x / y * y else if x - x / y * y = 0 then x - x / y * y else x - x / y * y + y
theorem j_floorMod {x y : Int32} (hd : 0 < d) (hy : ¬ y = 0) : z_ev d i_J9_floorMod_7cf53 [.int x, .int y] S I J (some (.int (fmd x y))) S I J := by
  obtain ⟨d, rfl⟩ := z_dep hd
  unfold fmd
  refine e_J9_floorMod_7cf53 (b_J9_floorMod_7cf53_0 hy (fun z => b_J9_floorMod_7cf53_18 ⟨z_someI ?_, rfl, rfl, rfl⟩) (fun z => b_J9_floorMod_7cf53_10 (fun z2 => b_J9_floorMod_7cf53_18 ⟨z_someI ?_, rfl, rfl, rfl⟩) (fun z2 => b_J9_floorMod_7cf53_14 ⟨z_someI ?_, rfl, rfl, rfl⟩)))
  · rw [if_pos z]
  · rw [if_neg z, if_pos z2]
  · rw [if_neg z, if_neg z2]
end CF
theorem fmd_s : ∀ w, w < 21 → ∀ r, r < w → ∀ s, s < w → fmd (nI r + nI s) (nI w) = nI ((r + s) % w) ∧ fmd (nI r - nI s) (nI w) = nI ((r + w - s) % w) := by decide +kernel
theorem fmd_q : ∀ b, b < 6 → ∀ r, r < 2 * b → ∀ s, s < 2 * b → fmd (nI r - nI s + nI b) (nI (2 * b)) = nI ((r + 2 * b - s + b) % (2 * b)) := by decide +kernel
theorem tur_00 {w mo i j : Nat} (h1 : ¬ w ≤ i) (h2 : ¬ w ≤ j) : tur w mo i j = (i % w + j % w) % w := by unfold tur; rw [if_neg h1, if_neg h1, if_neg h2, Nat.add_zero]
theorem tur_01 {w mo i j : Nat} (h1 : ¬ w ≤ i) (h2 : w ≤ j) : tur w mo i j = (i % w + j % w) % w + w := by unfold tur; rw [if_neg h1, if_neg h1, if_pos h2]
theorem tur_10 {w mo i j : Nat} (h1 : w ≤ i) (h2 : ¬ w ≤ j) : tur w mo i j = (i % w + w - j % w) % w + w := by unfold tur; rw [if_pos h1, if_pos h1, if_neg h2, if_neg h2, Nat.add_zero]
theorem tur_11 {w mo i j : Nat} (h1 : w ≤ i) (h2 : w ≤ j) : tur w mo i j = (i % w + w - j % w + mo) % w := by unfold tur; rw [if_pos h1, if_pos h1, if_pos h2, if_pos h2, Nat.add_zero]
section CF2
variable {d i j k b w mo : Nat} {S : zS} {I : zI} {J : zJ}
theorem c_turned (hd : 1 < d) (hw : 0 < w ∧ w < 21) (hmo : mo = 0 ∨ (mo < 6 ∧ w = 2 * mo)) (hi : i < 2 * w) (hj : j < 2 * w) : z_ev d i_X2_turned [.int (nI i), .int (nI j), .int (nI w), .int (nI mo)] S I J (some (.int (nI (tur w mo i j)))) S I J := by
  obtain ⟨d, rfl⟩ := z_dep (d := d) (by omega)
  have r1 := Nat.mod_lt i hw.1
  have r2 := Nat.mod_lt j hw.1
  have w0 : ¬ nI w = 0 := nI_ne0 hw.1 (by omega)
  have q1 : ∀ a, a < 2 * w → (a / w = 0 ∧ a < w) ∨ (a / w = 1 ∧ w ≤ a) := fun a ha => by
    rcases Nat.lt_or_ge a w with y | y
    · exact Or.inl ⟨Nat.div_eq_of_lt y, y⟩
    · right
      refine ⟨?_, y⟩
      have : a / w < 2 := (Nat.div_lt_iff_lt_mul hw.1).mpr (by omega)
      have : 1 ≤ a / w := (Nat.le_div_iff_mul_le hw.1).mpr (by omega)
      omega
  have hmx : max 1 w = w := Nat.max_eq_right (by omega)
  have hmax := j_max (d := d) (S := S) (I := I) (J := J) (a := 1) (b := w) (by omega) (by decide) (by omega)
  rw [hmx] at hmax
  obtain ⟨f1, f2⟩ := fmd_s w hw.2 (i % w) r1 (j % w) r2
  refine e_X2_turned (b_X2_turned_0 ⟨_, _, _, _, hmax, ?_⟩)
  have E1 : nI i / nI w = nI (i / w) := pk_div (by omega) hw.1 (by omega)
  have E2 : nI j / nI w = nI (j / w) := pk_div (by omega) hw.1 (by omega)
  have E3 : nI i - nI i / nI w * nI w = nI (i % w) := pk_rem (by omega) hw.1 (by omega)
  have E4 : nI j - nI j / nI w * nI w = nI (j % w) := pk_rem (by omega) hw.1 (by omega)
  -- the flip
  have fin : ∀ (t : Int32) (T f g : Nat), f < 2 → g < 2 → fmd t (nI w) = nI (T % w) → nI (T % w + w * (if g = 0 then f else 1 - f)) = nI (tur w mo i j) → ∀ v10, (¬ nI g = 0 → Go d i_X2_turned 79 [.int (nI i), .int (nI j), .int (nI w), .int (nI mo), .int (nI w), .int (nI (i % w)), .int (nI f), .int (nI (j % w)), .int (nI g), .int t, v10] [] S I J (z_eq (some (.int (nI (tur w mo i j)))) S I J)) ∧ (nI g = 0 → Go d i_X2_turned 74 [.int (nI i), .int (nI j), .int (nI w), .int (nI mo), .int (nI w), .int (nI (i % w)), .int (nI f), .int (nI (j % w)), .int (nI g), .int t, v10] [] S I J (z_eq (some (.int (nI (tur w mo i j)))) S I J)) := fun t T f g hf hg e1 e2 v10 => by
    have hT : T % w < w := Nat.mod_lt _ hw.1
    refine ⟨fun z => b_X2_turned_79 ⟨_, _, _, _, j_floorMod (by omega) w0, b_X2_turned_92 ⟨z_someI ?_, rfl, rfl, rfl⟩⟩, fun z => b_X2_turned_74 ⟨_, _, _, _, j_floorMod (by omega) w0, b_X2_turned_92 ⟨z_someI ?_, rfl, rfl, rfl⟩⟩⟩
    · have hg1 : ¬ g = 0 := fun y => z (by rw [y]; rfl)
      rw [if_neg hg1] at e2
      rw [e1, z_lit 1, pk_sub (by omega), pk_mul, nI_add, e2]
    · have hg1 : g = 0 := by
        rw [show (0 : Int32) = nI 0 from rfl, nI_eq (by omega) (by decide)] at z; exact z
      rw [if_pos hg1] at e2
      rw [e1, pk_mul, nI_add, e2]
  rcases q1 i hi with ⟨a1, a2⟩ | ⟨a1, a2⟩
  · rcases q1 j hj with ⟨b1, b2⟩ | ⟨b1, b2⟩
    · have := fin (nI (i % w) + nI (j % w)) (i % w + j % w) 0 0 (by decide) (by decide) f1 (by rw [tur_00 (by omega) (by omega)]; simp)
      refine b_X2_turned_5 w0 w0 w0 w0 (fun z => absurd (by rw [E1, a1]; rfl) z) (fun _ => ?_)
      rw [E3, E4, E1, E2, a1, b1]
      exact b_X2_turned_36 (fun _ => b_X2_turned_69 (this _).1 (this _).2) (fun z => by cases z)
    · have := fin (nI (i % w) + nI (j % w)) (i % w + j % w) 0 1 (by decide) (by decide) f1 (by rw [tur_01 (by omega) (by omega)]; simp)
      refine b_X2_turned_5 w0 w0 w0 w0 (fun z => absurd (by rw [E1, a1]; rfl) z) (fun _ => ?_)
      rw [E3, E4, E1, E2, a1, b1]
      exact b_X2_turned_36 (fun _ => b_X2_turned_69 (this _).1 (this _).2) (fun z => by cases z)
  · rcases q1 j hj with ⟨b1, b2⟩ | ⟨b1, b2⟩
    · have := fin (nI (i % w) - nI (j % w)) (i % w + w - j % w) 1 0 (by decide) (by decide) f2 (by rw [tur_10 (by omega) (by omega)]; simp)
      refine b_X2_turned_5 w0 w0 w0 w0 (fun _ => ?_) (fun z => ?_)
      · rw [E3, E4, E1, E2, a1, b1]
        exact b_X2_turned_44 (fun z => absurd rfl z) (fun _ => b_X2_turned_57 (fun _ => b_X2_turned_69 (this _).1 (this _).2) (fun z => by cases z))
      · rw [E1, a1] at z; cases z
    · rcases hmo with m0 | ⟨m1, m2⟩
      · have := fin (nI (i % w) - nI (j % w) + nI mo) (i % w + w - j % w) 1 1 (by decide) (by decide) (by rw [m0, show nI (i % w) - nI (j % w) + nI 0 = nI (i % w) - nI (j % w) from Int32.add_zero _]; exact f2) (by rw [tur_11 (by omega) (by omega), m0]; simp)
        refine b_X2_turned_5 w0 w0 w0 w0 (fun _ => ?_) (fun z => ?_)
        · rw [E3, E4, E1, E2, a1, b1]
          exact b_X2_turned_44 (fun z => absurd rfl z) (fun _ => b_X2_turned_57 (fun z => absurd rfl z) (fun _ => b_X2_turned_63 (this _).1 (this _).2))
        · rw [E1, a1] at z; cases z
      · have hq := fmd_q mo m1 (i % w) (by omega) (j % w) (by omega)
        rw [← m2] at hq
        have := fin (nI (i % w) - nI (j % w) + nI mo) (i % w + w - j % w + mo) 1 1 (by decide) (by decide) hq (by rw [tur_11 (by omega) (by omega)]; simp)
        refine b_X2_turned_5 w0 w0 w0 w0 (fun _ => ?_) (fun z => ?_)
        · rw [E3, E4, E1, E2, a1, b1]
          exact b_X2_turned_44 (fun z => absurd rfl z) (fun _ => b_X2_turned_57 (fun z => absurd rfl z) (fun _ => b_X2_turned_63 (this _).1 (this _).2))
        · rw [E1, a1] at z; cases z
end CF2
